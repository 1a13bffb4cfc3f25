/-! whole numbers in the machine's ints -/
def ji (z : Int) : Int32 := Int32.ofInt z
theorem ji_toInt {z : Int} (h1 : -2147483648 ≤ z) (h2 : z < 2147483648) : (ji z).toInt = z := Int32.toInt_ofInt_of_le h1 h2
theorem ji_of (x : Int32) : ji x.toInt = x := Int32.ofInt_toInt x
theorem ji_ex (x : Int32) : ∃ z : Int, x = ji z ∧ -2147483648 ≤ z ∧ z < 2147483648 := ⟨x.toInt, (ji_of x).symm, Int32.le_toInt x, Int32.toInt_lt x⟩
theorem ji_add (a b : Int) : ji a + ji b = ji (a + b) := (Int32.ofInt_add a b).symm
theorem ji_sub (a b : Int) : ji a - ji b = ji (a - b) := (Int32.ofInt_sub a b).symm
theorem ji_mul (a b : Int) : ji a * ji b = ji (a * b) := (Int32.ofInt_mul a b).symm
theorem ji_neg (a : Int) : -ji a = ji (-a) := (Int32.ofInt_neg a).symm
theorem ji_nat (n : Nat) : nI n = ji n := Int32.ofInt_eq_ofNat.symm
theorem ji_lit (n : Nat) : (OfNat.ofNat n : Int32) = ji (OfNat.ofNat n) := Int32.ofInt_eq_ofNat.symm
theorem ji_lt {a b : Int} (h : (-2147483648 ≤ a ∧ a < 2147483648) ∧ (-2147483648 ≤ b ∧ b < 2147483648) := by omega) : ji a < ji b ↔ a < b := by
  rw [Int32.lt_iff_toInt_lt, ji_toInt h.1.1 h.1.2, ji_toInt h.2.1 h.2.2]
theorem ji_le {a b : Int} (h : (-2147483648 ≤ a ∧ a < 2147483648) ∧ (-2147483648 ≤ b ∧ b < 2147483648) := by omega) : ji a ≤ ji b ↔ a ≤ b := by
  rw [Int32.le_iff_toInt_le, ji_toInt h.1.1 h.1.2, ji_toInt h.2.1 h.2.2]
theorem ji_eq {a b : Int} (h : (-2147483648 ≤ a ∧ a < 2147483648) ∧ (-2147483648 ≤ b ∧ b < 2147483648) := by omega) : ji a = ji b ↔ a = b := by
  rw [← Int32.toInt_inj, ji_toInt h.1.1 h.1.2, ji_toInt h.2.1 h.2.2]
theorem ji_in {z : Int} {n : Nat} (h : -2147483648 ≤ z ∧ z < 2147483648 := by omega) : vp_in (ji z) n ↔ 0 ≤ z ∧ z < n := by
  rw [vp_in_iff, ji_toInt h.1 h.2]
theorem ji_tn {z : Int} (h : -2147483648 ≤ z ∧ z < 2147483648 := by omega) : (ji z).toNatClampNeg = z.toNat := by
  rw [← Int32.toNat_toInt, ji_toInt h.1 h.2]
theorem ji_bm {z : Int} (h : -2147483648 ≤ z ∧ z < 2147483648) : z.bmod (2 ^ 32) = z := Int.bmod_eq_of_le (by omega) (by omega)
theorem ji_tdiv {a b : Int} (h : (-2147483648 < a ∧ a < 2147483648) ∧ (-2147483648 ≤ b ∧ b < 2147483648) := by omega) : ji a / ji b = ji (a.tdiv b) := by
  have ne : ji a ≠ Int32.minValue := by
    intro e
    have e2 := congrArg Int32.toInt e
    rw [ji_toInt (by omega) (by omega)] at e2
    have e3 : Int32.minValue.toInt = -2147483648 := rfl
    omega
  rw [← Int32.toInt_inj, Int32.toInt_div_of_ne_left _ _ ne, ji_toInt (by omega) (by omega), ji_toInt (by omega) (by omega)]
  have h1 : (a.tdiv b).natAbs ≤ a.natAbs := Int.natAbs_tdiv_le_natAbs a b
  rw [ji_toInt (by omega) (by omega)]
theorem ji_div {a b : Int} (h : (0 ≤ a ∧ a < 2147483648) ∧ (0 < b ∧ b < 2147483648) := by omega) : ji a / ji b = ji (a / b) := by
  rw [ji_tdiv (by omega), Int.tdiv_eq_ediv_of_nonneg h.1.1]
theorem ji_mod {a b : Int} (h : (0 ≤ a ∧ a < 2147483648) ∧ (0 < b ∧ b < 2147483648) := by omega) : ji a % ji b = ji (a % b) := by
  rw [← irem_eq_mod, ji_div h, ji_mul, ji_sub]
  congr 1
  have := Int.emod_add_mul_ediv a b
  have h2 : b * (a / b) = a / b * b := Int.mul_comm _ _
  omega
theorem ji_tmod {a b : Int} (h : (-2147483648 < a ∧ a < 2147483648) ∧ (-2147483648 ≤ b ∧ b < 2147483648) := by omega) : ji a % ji b = ji (a.tmod b) := by
  rw [← irem_eq_mod, ji_tdiv h, ji_mul, ji_sub]
  congr 1
  have := Int.tmod_add_mul_tdiv a b
  have h2 : b * (a.tdiv b) = a.tdiv b * b := Int.mul_comm _ _
  omega
theorem va_up_at {α : Type} (f : Nat → α) (k : Nat) (v : α) : va_up f k v k = v := if_pos rfl
theorem va_up_no {α : Type} (f : Nat → α) {k j : Nat} (v : α) (h : j ≠ k) : va_up f k v j = f j := if_neg h
