/-! whole numbers in the machine's ints -/
def ji (z : Int) : Int32 := Int32.ofInt z
theorem ji_toInt {z : Int} (h1 : -2147483648 ≤ z) (h2 : z < 2147483648) : (ji z).toInt = z := Int32.toInt_ofInt_of_le h1 h2
theorem ji_of (x : Int32) : ji x.toInt = x := Int32.ofInt_toInt x
theorem ji_ex (x : Int32) : ∃ z : Int, x = ji z ∧ -2147483648 ≤ z ∧ z < 2147483648 := ⟨x.toInt, (ji_of x).symm, Int32.le_toInt x, Int32.toInt_lt x⟩
theorem ji_add (a b : Int) : ji a + ji b = ji (a + b) := (Int32.ofInt_add a b).symm
theorem ji_sub (a b : Int) : ji a - ji b = ji (a - b) := (Int32.ofInt_sub a b).symm
theorem ji_mul (a b : Int) : ji a * ji b = ji (a * b) := (Int32.ofInt_mul a b).symm
theorem ji_neg (a : Int) : -ji a = ji (-a) := (Int32.ofInt_neg a).symm
theorem ji_nat (n : Nat) : nI n = ji n := Int32.ofInt_eq_ofNat.symm
theorem ji_lit (n : Nat) : (OfNat.ofNat n : Int32) = ji (OfNat.ofNat n) := Int32.ofInt_eq_ofNat.symm
theorem ji_lt {a b : Int} (h : (-2147483648 ≤ a ∧ a < 2147483648) ∧ (-2147483648 ≤ b ∧ b < 2147483648) := by omega) : ji a < ji b ↔ a < b := by
  rw [Int32.lt_iff_toInt_lt, ji_toInt h.1.1 h.1.2, ji_toInt h.2.1 h.2.2]
theorem ji_le {a b : Int} (h : (-2147483648 ≤ a ∧ a < 2147483648) ∧ (-2147483648 ≤ b ∧ b < 2147483648) := by omega) : ji a ≤ ji b ↔ a ≤ b := by
  rw [Int32.le_iff_toInt_le, ji_toInt h.1.1 h.1.2, ji_toInt h.2.1 h.2.2]
theorem ji_eq {a b : Int} (h : (-2147483648 ≤ a ∧ a < 2147483648) ∧ (-2147483648 ≤ b ∧ b < 2147483648) := by omega) : ji a = ji b ↔ a = b := by
  rw [← Int32.toInt_inj, ji_toInt h.1.1 h.1.2, ji_toInt h.2.1 h.2.2]
theorem ji_in {z : Int} {n : Nat} (h : -2147483648 ≤ z ∧ z < 2147483648 := by omega) : vp_in (ji z) n ↔ 0 ≤ z ∧ z < n := by
  rw [vp_in_iff, ji_toInt h.1 h.2]
theorem ji_tn {z : Int} (h : -2147483648 ≤ z ∧ z < 2147483648 := by omega) : (ji z).toNatClampNeg = z.toNat := by
  rw [← Int32.toNat_toInt, ji_toInt h.1 h.2]
theorem ji_bm {z : Int} (h : -2147483648 ≤ z ∧ z < 2147483648) : z.bmod (2 ^ 32) = z := Int.bmod_eq_of_le (by omega) (by omega)
theorem ji_tdiv {a b : Int} (h : (-2147483648 < a ∧ a < 2147483648) ∧ (-2147483648 ≤ b ∧ b < 2147483648) := by omega) : ji a / ji b = ji (a.tdiv b) := by
  have ne : ji a ≠ Int32.minValue := by
    intro e
    have e2 := congrArg Int32.toInt e
    rw [ji_toInt (by omega) (by omega)] at e2
    have e3 : Int32.minValue.toInt = -2147483648 := rfl
    omega
  rw [← Int32.toInt_inj, Int32.toInt_div_of_ne_left _ _ ne, ji_toInt (by omega) (by omega), ji_toInt (by omega) (by omega)]
  have h1 : (a.tdiv b).natAbs ≤ a.natAbs := Int.natAbs_tdiv_le_natAbs a b
  rw [ji_toInt (by omega) (by omega)]
theorem ji_div {a b : Int} (h : (0 ≤ a ∧ a < 2147483648) ∧ (0 < b ∧ b < 2147483648) := by omega) : ji a / ji b = ji (a / b) := by
  rw [ji_tdiv (by omega), Int.tdiv_eq_ediv_of_nonneg h.1.1]
theorem ji_mod {a b : Int} (h : (0 ≤ a ∧ a < 2147483648) ∧ (0 < b ∧ b < 2147483648) := by omega) : ji a % ji b = ji (a % b) := by
  rw [← irem_eq_mod, ji_div h, ji_mul, ji_sub]
  congr 1
  have := Int.emod_add_mul_ediv a b
  have h2 : b * (a / b) = a / b * b := Int.mul_comm _ _
  omega
theorem ji_tmod {a b : Int} (h : (-2147483648 < a ∧ a < 2147483648) ∧ (-2147483648 ≤ b ∧ b < 2147483648) := by omega) : ji a % ji b = ji (a.tmod b) := by
  rw [← irem_eq_mod, ji_tdiv h, ji_mul, ji_sub]
  congr 1
  have := Int.tmod_add_mul_tdiv a b
  have h2 : b * (a.tdiv b) = a.tdiv b * b := Int.mul_comm _ _
  omega
theorem va_up_at {α : Type} (f : Nat → α) (k : Nat) (v : α) : va_up f k v k = v := if_pos rfl
theorem va_up_no {α : Type} (f : Nat → α) {k j : Nat} (v : α) (h : j ≠ k) : va_up f k v j = f j := if_neg h
theorem jk0 : (0 : Int32) = ji 0 := rfl
theorem jk1 : (1 : Int32) = ji 1 := rfl
theorem jk2 : (2 : Int32) = ji 2 := rfl
theorem jk3 : (3 : Int32) = ji 3 := rfl
theorem jk4 : (4 : Int32) = ji 4 := rfl
theorem jk5 : (5 : Int32) = ji 5 := rfl
theorem jk6 : (6 : Int32) = ji 6 := rfl
theorem jk7 : (7 : Int32) = ji 7 := rfl
theorem jk8 : (8 : Int32) = ji 8 := rfl
theorem jk9 : (9 : Int32) = ji 9 := rfl
theorem jk10 : (10 : Int32) = ji 10 := rfl
theorem jk11 : (11 : Int32) = ji 11 := rfl
theorem jk12 : (12 : Int32) = ji 12 := rfl
theorem jk13 : (13 : Int32) = ji 13 := rfl
theorem jk14 : (14 : Int32) = ji 14 := rfl
theorem jk15 : (15 : Int32) = ji 15 := rfl
theorem jk16 : (16 : Int32) = ji 16 := rfl
theorem jk20 : (20 : Int32) = ji 20 := rfl
theorem jk24 : (24 : Int32) = ji 24 := rfl
theorem jk31 : (31 : Int32) = ji 31 := rfl
theorem jk32 : (32 : Int32) = ji 32 := rfl
theorem jk40 : (40 : Int32) = ji 40 := rfl
theorem jk43 : (43 : Int32) = ji 43 := rfl
theorem jk44 : (44 : Int32) = ji 44 := rfl
theorem jk45 : (45 : Int32) = ji 45 := rfl
theorem jk47 : (47 : Int32) = ji 47 := rfl
theorem jk48 : (48 : Int32) = ji 48 := rfl
theorem jk57 : (57 : Int32) = ji 57 := rfl
theorem jk60 : (60 : Int32) = ji 60 := rfl
theorem jk97 : (97 : Int32) = ji 97 := rfl
theorem jk100 : (100 : Int32) = ji 100 := rfl
theorem jk120 : (120 : Int32) = ji 120 := rfl
theorem jk122 : (122 : Int32) = ji 122 := rfl
theorem jk126 : (126 : Int32) = ji 126 := rfl
theorem jk128 : (128 : Int32) = ji 128 := rfl
theorem jk130 : (130 : Int32) = ji 130 := rfl
theorem jk255 : (255 : Int32) = ji 255 := rfl
theorem jk256 : (256 : Int32) = ji 256 := rfl
theorem jk300 : (300 : Int32) = ji 300 := rfl
theorem jk500 : (500 : Int32) = ji 500 := rfl
theorem jk600 : (600 : Int32) = ji 600 := rfl
theorem jk800 : (800 : Int32) = ji 800 := rfl
theorem jk1000 : (1000 : Int32) = ji 1000 := rfl
theorem jk1440 : (1440 : Int32) = ji 1440 := rfl
theorem jk1500 : (1500 : Int32) = ji 1500 := rfl
theorem jk4000 : (4000 : Int32) = ji 4000 := rfl
theorem jk9999 : (9999 : Int32) = ji 9999 := rfl
theorem jk13500 : (13500 : Int32) = ji 13500 := rfl
theorem jk99999 : (99999 : Int32) = ji 99999 := rfl
theorem jk1000000 : (1000000 : Int32) = ji 1000000 := rfl
theorem jm1 : (-1 : Int32) = ji (-1) := rfl
theorem jm300 : (-300 : Int32) = ji (-300) := rfl
theorem jm500 : (-500 : Int32) = ji (-500) := rfl
theorem jm9999 : (-9999 : Int32) = ji (-9999) := rfl
theorem jm1000000 : (-1000000 : Int32) = ji (-1000000) := rfl
