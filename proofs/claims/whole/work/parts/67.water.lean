/-! the water between two turns -/
def twA (k : Int) : Int := if k = 0 then 0 else if k = 1 then 1 else if k = 2 then 3 else if k = 3 then 6 else if k = 4 then 9 else 11
def twB (k : Int) : Int := if k = 0 then 1 else if k = 1 then 2 else if k = 2 then 3 else if k = 3 then 3 else if k = 4 then 2 else 1
/-- twelfths of D that are over, at s sixths of minutes -/
def ovr (D s : Int) : Int := twA (s / D) * D + twB (s / D) * (s % D)
/-- how far the height is above x, 12 D for one of height -/
def exc (p q : Tn) (t x : Int) : Int := (p.2.2 - x) * 12 * (q.2.1 - p.2.1) + (q.2.2 - p.2.2) * ovr (q.2.1 - p.2.1) (6 * (t - p.2.1))
theorem part_lt {D s : Int} (hD : 0 < D) (h0 : 0 ≤ s) (h1 : s < 6 * D) : 0 ≤ s / D ∧ s / D ≤ 5 := by
  have a := Int.ediv_nonneg h0 (Int.le_of_lt hD)
  have b := Int.mul_ediv_add_emod s D
  have c := Int.emod_nonneg s (by omega : D ≠ 0)
  refine ⟨a, ?_⟩
  rcases Int.lt_or_le (s / D) 6 with q | q
  · omega
  · have : D * 6 ≤ D * (s / D) := Int.mul_le_mul_of_nonneg_left q (Int.le_of_lt hD)
    omega
/-- the twelfths by the part that they are in -/
theorem ovr_cases {D s : Int} (hD : 0 < D) (h0 : 0 ≤ s) (h1 : s < 6 * D) : (s < D ∧ ovr D s = s) ∨ (D ≤ s ∧ s < 2 * D ∧ ovr D s = 2 * s - D) ∨ (2 * D ≤ s ∧ s < 4 * D ∧ ovr D s = 3 * s - 3 * D) ∨ (4 * D ≤ s ∧ s < 5 * D ∧ ovr D s = 2 * s + D) ∨ (5 * D ≤ s ∧ s < 6 * D ∧ ovr D s = s + 6 * D) := by
  have a := part_lt hD h0 h1
  have b := Int.mul_ediv_add_emod s D
  have c := Int.emod_nonneg s (by omega : D ≠ 0)
  have d := Int.emod_lt_of_pos s hD
  unfold ovr
  generalize hk : s / D = k at *
  generalize hr : s % D = r at *
  have hk6 : k = 0 ∨ k = 1 ∨ k = 2 ∨ k = 3 ∨ k = 4 ∨ k = 5 := by omega
  rcases hk6 with rfl | rfl | rfl | rfl | rfl | rfl <;> simp [twA, twB] <;> omega
theorem ovr_mono {D s s' : Int} (hD : 0 < D) (h0 : 0 ≤ s) (hs : s ≤ s') (h1 : s' < 6 * D) : ovr D s ≤ ovr D s' := by
  have a := ovr_cases hD h0 (by omega : s < 6 * D)
  have b := ovr_cases hD (by omega : 0 ≤ s') h1
  omega
theorem ovr_bd {D s : Int} (hD : 0 < D) (h0 : 0 ≤ s) (h1 : s < 6 * D) : 0 ≤ ovr D s ∧ ovr D s ≤ 12 * D := by
  have a := ovr_cases hD h0 h1
  omega
theorem abs_mul {a b A B : Int} (ha : -A ≤ a ∧ a ≤ A) (hb : -B ≤ b ∧ b ≤ B) : -(A * B) ≤ a * b ∧ a * b ≤ A * B := by
  have h1 : (a * b).natAbs ≤ (A * B).natAbs := by
    rw [Int.natAbs_mul, Int.natAbs_mul]
    exact Nat.mul_le_mul (by omega) (by omega)
  have h2 : 0 ≤ A * B := Int.mul_nonneg (by omega) (by omega)
  omega
/-- two turns that follow each other as a port's do -/
def tnW (p q : Tn) : Prop := (60 ≤ q.2.1 - p.2.1 ∧ q.2.1 - p.2.1 ≤ 800) ∧ (-500 ≤ p.2.2 ∧ p.2.2 ≤ 1500) ∧ (-500 ≤ q.2.2 ∧ q.2.2 ≤ 1500) ∧ (if q.1 then p.1 = false ∧ p.2.2 < q.2.2 else p.1 = true ∧ q.2.2 < p.2.2)
theorem exc_bd {p q : Tn} {t x : Int} (w : tnW p q) (ht : p.2.1 ≤ t ∧ t < q.2.1) (hx : -10000 ≤ x ∧ x ≤ 10000) : -500000000 ≤ exc p q t x ∧ exc p q t x ≤ 500000000 := by
  obtain ⟨w1, w2, w3, -⟩ := w
  unfold exc
  have a := ovr_bd (D := q.2.1 - p.2.1) (s := 6 * (t - p.2.1)) (by omega) (by omega) (by omega)
  have b1 := abs_mul (a := p.2.2 - x) (b := q.2.1 - p.2.1) (A := 11500) (B := 800) (by omega) (by omega)
  have b2 := abs_mul (a := q.2.2 - p.2.2) (b := ovr (q.2.1 - p.2.1) (6 * (t - p.2.1))) (A := 2000) (B := 9600) (by omega) (by omega)
  have e : (p.2.2 - x) * 12 * (q.2.1 - p.2.1) = 12 * ((p.2.2 - x) * (q.2.1 - p.2.1)) := by
    rw [Int.mul_comm (p.2.2 - x) 12, Int.mul_assoc]
  omega
theorem exc_at0 (p q : Tn) (x : Int) (hD : 0 < q.2.1 - p.2.1) : exc p q p.2.1 x = 12 * (q.2.1 - p.2.1) * (p.2.2 - x) := by
  unfold exc ovr
  rw [Int.sub_self, Int.mul_zero, Int.zero_ediv, Int.zero_emod]
  simp [twA, twB]
  rw [Int.mul_assoc, Int.mul_comm]
theorem cbA (k : Int) (h : 0 ≤ k ∧ k ≤ 5) : (am_cb 200).getD k.toNat (ji 0) = ji (twA k) := by
  have hk6 : k = 0 ∨ k = 1 ∨ k = 2 ∨ k = 3 ∨ k = 4 ∨ k = 5 := by omega
  rcases hk6 with rfl | rfl | rfl | rfl | rfl | rfl <;> rfl
theorem cbB (k : Int) (h : 0 ≤ k ∧ k ≤ 5) : (am_cb 201).getD k.toNat (ji 0) = ji (twB k) := by
  have hk6 : k = 0 ∨ k = 1 ∨ k = 2 ∨ k = 3 ∨ k = 4 ∨ k = 5 := by omega
  rcases hk6 with rfl | rfl | rfl | rfl | rfl | rfl <;> rfl
theorem s_Port_excess {h : am_H} {a r : Nat} {P : List Tn} {i : Nat} {p q : Tn} {t x : Int} {Q : Int32 → am_H → Prop} (s : ptA h a r P) (hp : P[i]? = some p) (hq : P[i + 1]? = some q) (hD : 0 < q.2.1 - p.2.1) (ht : p.2.1 ≤ t ∧ t < q.2.1) (k : Q (ji (exc p q t x)) h) : am_Ei m_Port_excess 0 0 [.ref a, .int (ji i), .int (ji t), .int (ji x)] h Q := by
  have hl := s.len
  obtain ⟨s1, s2, s3, s4, s5, s6, s7, s8, s9, s10, s11⟩ := s
  have hi := (List.getElem?_eq_some_iff.mp hq).1
  obtain ⟨p1, p2, p3, p4, p5⟩ := s11 i p hp
  obtain ⟨q1, q2, q3, q4, q5⟩ := s11 (i + 1) q hq
  have tn : (ji (i : Int)).toNatClampNeg = i := by rw [ji_tn]; omega
  have tn1 : (ji ((i : Int) + 1)).toNatClampNeg = i + 1 := by rw [ji_tn]; omega
  have hpt := part_lt (D := q.2.1 - p.2.1) (s := 6 * (t - p.2.1)) hD (by omega) (by omega)
  refine ev_Port_excess a (ji i) (ji t) (ji x) h Q ?_
  rw [s9, s8, jk0, jk1, ji_add, ji_lt, ji_le, ji_lt]
  refine ⟨fun c => by omega, fun _ => ⟨s1, fun c => by omega, fun _ => ⟨fun _ => ⟨a + 2, s6, by rw [s3], ?_⟩, fun c => by omega⟩⟩⟩
  rw [s3, tn, tn1, p2, q2, ji_sub, ji_sub, jk6, ji_mul, ji_lt]
  refine ⟨(ji_in).mpr (by omega), (ji_in).mpr (by omega), fun _ => ⟨?_, ?_⟩, fun c => absurd hD c⟩
  · rw [ji_eq]
    omega
  · rw [ji_div, ji_mod, show Int32.ofNat (am_cb 200).length = ji 6 from rfl, show Int32.ofNat (am_cb 201).length = ji 6 from rfl, ji_lt, ji_le, ji_lt]
    refine ⟨fun c => by omega, fun _ => ⟨fun c => by omega, fun _ => ⟨fun _ => ⟨(ji_in).mpr (by show _ ∧ _ < ((6 : Nat) : Int); omega), (ji_in).mpr (by show _ ∧ _ < ((6 : Nat) : Int); omega), a + 3, s7, by rw [s4], ?_, ?_, ?_⟩, fun c => by omega⟩⟩⟩
    · rw [s4]
      exact (ji_in).mpr (by omega)
    · rw [s4]
      exact (ji_in).mpr (by omega)
    · rw [ji_tn, cbA _ hpt, cbB _ hpt, p3, q3, ji_sub, jk12, ji_mul, ji_mul, ji_sub, ji_mul, ji_mul, ji_add, ji_mul, ji_add]
      exact k
