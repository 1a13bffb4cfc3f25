/-! the search for a change, and the stretches of a port -/
def sdOn (side e : Int) : Bool := if side = 0 then decide (0 ≤ e) else if side = 1 then decide (e < 0) else decide (e ≤ 0)
theorem s_Port_isOn {side e : Int} {h : am_H} {Q : Int32 → am_H → Prop} (hs : side = 0 ∨ side = 1 ∨ side = 2) (he : -2147483648 ≤ e ∧ e < 2147483648) (k : Q (bi (sdOn side e)) h) : am_Ei m_Port_isOn 0 0 [.int (ji side), .int (ji e)] h Q := by
  refine ev_Port_isOn (ji side) (ji e) h Q ?_
  rw [jk0, jk1, ji_eq, ji_eq, ji_lt, ji_le, ji_lt]
  unfold sdOn at k
  refine ⟨fun c1 => ⟨fun c2 => ⟨fun c3 => ?_, fun c3 => ?_⟩, fun c2 => ⟨fun c3 => ?_, fun c3 => ?_⟩⟩, fun c1 => ⟨fun c3 => ?_, fun c3 => ?_⟩⟩
  · rw [if_neg c1, if_neg c2, decide_eq_false (by omega)] at k
    exact k
  · rw [if_neg c1, if_neg c2, decide_eq_true (by omega)] at k
    exact k
  · rw [if_neg c1, if_pos c2, decide_eq_false (by omega)] at k
    exact k
  · rw [if_neg c1, if_pos c2, decide_eq_true (by omega)] at k
    exact k
  · rw [if_pos c1, decide_eq_false (by omega)] at k
    exact k
  · rw [if_pos c1, decide_eq_true (by omega)] at k
    exact k
theorem sd_mono {side a b c : Int} (h : (a ≤ b ∧ b ≤ c) ∨ (c ≤ b ∧ b ≤ a)) (hd : sdOn side b ≠ sdOn side a) : sdOn side c ≠ sdOn side a := by
  unfold sdOn at *
  by_cases h1 : side = 0
  · rw [if_pos h1, if_pos h1] at *
    simp only [ne_eq, decide_eq_decide] at *
    omega
  · rw [if_neg h1, if_neg h1] at *
    by_cases h2 : side = 1
    · rw [if_pos h2, if_pos h2] at *
      simp only [ne_eq, decide_eq_decide] at *
      omega
    · rw [if_neg h2, if_neg h2] at *
      simp only [ne_eq, decide_eq_decide] at *
      omega
theorem sd_sign {side a b : Int} (h : (0 < a ↔ 0 < b) ∧ (a < 0 ↔ b < 0)) : sdOn side a = sdOn side b := by
  unfold sdOn
  by_cases h1 : side = 0
  · rw [if_pos h1, if_pos h1, decide_eq_decide]
    omega
  · rw [if_neg h1, if_neg h1]
    by_cases h2 : side = 1
    · rw [if_pos h2, if_pos h2, decide_eq_decide]
      omega
    · rw [if_neg h2, if_neg h2, decide_eq_decide]
      omega
theorem sd_mul {side a d : Int} (hd : 0 < d) : sdOn side (d * a) = sdOn side a := by
  apply sd_sign
  rcases Int.lt_trichotomy a 0 with q | q | q
  · have := Int.mul_neg_of_pos_of_neg hd q
    omega
  · subst q
    simp
  · have := Int.mul_pos hd q
    omega
theorem sd_start {side x : Int} {p q : Tn} (hD : 0 < q.2.1 - p.2.1) : sdOn side (exc p q p.2.1 x) = sdOn side (p.2.2 - x) := by
  rw [exc_at0 p q x hD]
  exact sd_mul (by omega)
theorem exc_mono {p q : Tn} {t t' x : Int} (w : tnW p q) (h0 : p.2.1 ≤ t) (ht : t ≤ t') (h1 : t' < q.2.1) : (q.1 = true → exc p q t x ≤ exc p q t' x) ∧ (q.1 = false → exc p q t' x ≤ exc p q t x) := by
  have hD := w.1.1
  have o := ovr_mono (D := q.2.1 - p.2.1) (s := 6 * (t - p.2.1)) (s' := 6 * (t' - p.2.1)) (by omega) (by omega) (by omega) (by omega)
  unfold exc
  obtain ⟨-, -, -, w4⟩ := w
  constructor
  · intro e
    rw [e, if_pos rfl] at w4
    have := Int.mul_le_mul_of_nonneg_left o (by omega : 0 ≤ q.2.2 - p.2.2)
    omega
  · intro e
    rw [e] at w4
    simp at w4
    have := Int.mul_le_mul_of_nonpos_left (by omega : q.2.2 - p.2.2 ≤ 0) o
    omega
theorem sd_chg {side x : Int} {p q : Tn} {t t' : Int} (w : tnW p q) (h0 : p.2.1 ≤ t) (ht : t ≤ t') (h1 : t' < q.2.1) (hd : sdOn side (exc p q t x) ≠ sdOn side (p.2.2 - x)) : sdOn side (exc p q t' x) ≠ sdOn side (p.2.2 - x) := by
  have hD := w.1.1
  rw [← sd_start (q := q) (by omega)] at *
  have m1 := exc_mono (x := x) w (Int.le_refl p.2.1) h0 (by omega : t < q.2.1)
  have m2 := exc_mono (x := x) w h0 ht h1
  refine sd_mono ?_ hd
  cases e : q.1
  · exact Or.inr ⟨m2.2 e, m1.2 e⟩
  · exact Or.inl ⟨m1.1 e, m2.1 e⟩
theorem s_Port_firstChange {h : am_H} {a r : Nat} {P : List Tn} {i : Nat} {p q : Tn} {side x : Int} {Q : Int32 → am_H → Prop} (s : ptA h a r P) (hp : P[i]? = some p) (hq : P[i + 1]? = some q) (w : tnW p q) (hs : side = 0 ∨ side = 1 ∨ side = 2) (hx : -10000 ≤ x ∧ x ≤ 10000)
    (k : ∀ c : Int, p.2.1 < c → c ≤ q.2.1 → (∀ t, p.2.1 ≤ t → t < c → sdOn side (exc p q t x) = sdOn side (p.2.2 - x)) → (∀ t, c ≤ t → t < q.2.1 → sdOn side (exc p q t x) ≠ sdOn side (p.2.2 - x)) → Q (ji c) h) : am_Ei m_Port_firstChange 0 0 [.ref a, .int (ji i), .int (ji side), .int (ji x), .int (ji q.2.1)] h Q := by
  have hl := s.len
  have hi := (List.getElem?_eq_some_iff.mp hq).1
  have bp := s.bd p (List.mem_of_getElem? hp)
  have bq := s.bd q (List.mem_of_getElem? hq)
  have hD := w.1
  have loop : ∀ (n : Nat) (b c : Int), n ≤ 16 → p.2.1 ≤ b → b < c → c ≤ q.2.1 → sdOn side (exc p q b x) = sdOn side (p.2.2 - x) → (c = q.2.1 ∨ (c < q.2.1 ∧ sdOn side (exc p q c x) ≠ sdOn side (p.2.2 - x))) → c - b ≤ 2 ^ n →
      am_EI m_Port_firstChange 0 0 27 [.ref a, .int (ji i), .int (ji side), .int (ji x), .int (ji q.2.1), .int (bi (sdOn side (p.2.2 - x))), .int (ji b), .int (ji c), .int (ji (16 - (n : Int))), .float 0] [] h (am_qi Q) := by
    intro n
    have fin : ∀ b c : Int, p.2.1 ≤ b → b < c → c ≤ q.2.1 → sdOn side (exc p q b x) = sdOn side (p.2.2 - x) → (c = q.2.1 ∨ (c < q.2.1 ∧ sdOn side (exc p q c x) ≠ sdOn side (p.2.2 - x))) → c - b ≤ 1 → Q (ji c) h := by
      intro b c h1 h2 h3 h4 h5 h6
      refine k c (by omega) h3 (fun t t1 t2 => ?_) (fun t t1 t2 => ?_)
      · by_cases e : sdOn side (exc p q t x) = sdOn side (p.2.2 - x)
        · exact e
        · exact absurd h4 (sd_chg w t1 (by omega) (by omega) e)
      · rcases h5 with h5 | ⟨h5, h7⟩
        · omega
        · exact sd_chg w (by omega) t1 t2 h7
    induction n with
    | zero =>
      intro b c hn h1 h2 h3 h4 h5 h6
      refine sg_Port_firstChange_27 a _ _ _ _ _ _ _ _ h _ ?_
      rw [jk16, ji_le]
      have h7 : c - b ≤ 1 := h6
      exact ⟨fun _ => fin b c h1 h2 h3 h4 h5 h7, fun c0 => absurd (by omega) c0⟩
    | succ n ih =>
      intro b c hn h1 h2 h3 h4 h5 h6
      refine sg_Port_firstChange_27 a _ _ _ _ _ _ _ _ h _ ?_
      rw [jk16, jk1, jk2, ji_le, ji_sub, ji_le, ji_div, ji_add]
      refine ⟨fun c0 => by omega, fun _ => ⟨fun c0 => fin b c h1 h2 h3 h4 h5 c0, fun c0 => ⟨s.1, ?_⟩⟩⟩
      have bd := exc_bd (t := b + (c - b) / 2) w (by omega) hx
      refine s_Port_excess s hp hq (by omega) (by omega) (s_Port_isOn hs (by omega) ?_)
      rw [bi_eq, ji_add, show (16 : Int) - ((n + 1 : Nat) : Int) + 1 = 16 - (n : Int) by omega]
      have hpow : (2 : Int) ^ (n + 1) = 2 * 2 ^ n := by rw [Int.pow_succ]; omega
      refine ⟨fun c1 => ?_, fun c1 => ?_⟩
      · exact ih b (b + (c - b) / 2) (by omega) h1 (by omega) (by omega) h4 (Or.inr ⟨by omega, c1⟩) (by omega)
      · exact ih (b + (c - b) / 2) c (by omega) (by omega) (by omega) h3 c1 h5 (by omega)
  have bn : -2147483648 ≤ p.2.2 - x ∧ p.2.2 - x < 2147483648 := by omega
  refine ev_Port_firstChange a _ _ _ _ h Q ⟨s.1, s_Port_heightOf s (by omega) ?_⟩
  rw [ptG_at hp, ji_sub]
  refine s_Port_isOn hs bn ⟨s.1, s_Port_minuteOf s (by omega) ?_⟩
  rw [ptM_at hp]
  have := loop 16 p.2.1 q.2.1 (by omega) (Int.le_refl _) (by omega) (Int.le_refl _) (sd_start (by omega)) (Or.inl rfl) (by omega)
  exact this
theorem s_Port_firstChange1 {h : am_H} {a r : Nat} {P : List Tn} {i : Nat} {p : Tn} {side x : Int} {Q : Int32 → am_H → Prop} (s : ptA h a r P) (hp : P[i]? = some p) (hs : side = 0 ∨ side = 1 ∨ side = 2) (hx : -10000 ≤ x ∧ x ≤ 10000) (k : Q (ji (p.2.1 + 1)) h) : am_Ei m_Port_firstChange 0 0 [.ref a, .int (ji i), .int (ji side), .int (ji x), .int (ji (p.2.1 + 1))] h Q := by
  have hl := s.len
  have hi := (List.getElem?_eq_some_iff.mp hp).1
  have bp := s.bd p (List.mem_of_getElem? hp)
  refine ev_Port_firstChange a _ _ _ _ h Q ⟨s.1, s_Port_heightOf s (by omega) ?_⟩
  rw [ptG_at hp, ji_sub]
  refine s_Port_isOn hs (by omega) ⟨s.1, s_Port_minuteOf s (by omega) ?_⟩
  rw [ptM_at hp]
  refine sg_Port_firstChange_27 a _ _ _ _ _ _ _ _ h _ ?_
  rw [jk0, jk16, jk1, ji_sub, ji_le, ji_le]
  exact ⟨fun c => by omega, fun _ => ⟨fun _ => k, fun c => by omega⟩⟩
