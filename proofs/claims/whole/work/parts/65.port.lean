/-! ports of the class: a list of turns (high, minute, height) -/
abbrev Tn : Type := Bool × Int × Int
def bi (b : Bool) : Int32 := if b then 1 else 0
theorem bi_01 (b : Bool) : am_b01 (bi b) := by cases b <;> simp [bi, am_b01]
theorem bi_0 (b : Bool) : bi b = 0 ↔ b = false := by cases b <;> simp [bi]
theorem bi_eq (a b : Bool) : bi a = bi b ↔ a = b := by cases a <;> cases b <;> simp [bi]
def ptA (h : am_H) (a r : Nat) (P : List Tn) : Prop :=
  am_tg h a = (2, 5) ∧ am_tg h (a + 1) = (21, r) ∧ am_tg h (a + 2) = (20, r) ∧ am_tg h (a + 3) = (20, r) ∧ am_P h a 1 = some (a + 1) ∧ am_P h a 2 = some (a + 2) ∧ am_P h a 3 = some (a + 3) ∧ am_I h a 0 = ji r ∧ am_I h a 4 = ji P.length ∧ (P.length ≤ r ∧ r ≤ 1000) ∧
  ∀ (i : Nat) (q : Tn), P[i]? = some q → am_I h (a + 1) i = bi q.1 ∧ am_I h (a + 2) i = ji q.2.1 ∧ am_I h (a + 3) i = ji q.2.2 ∧ (-100000 ≤ q.2.1 ∧ q.2.1 ≤ 100000) ∧ (-100000 ≤ q.2.2 ∧ q.2.2 ≤ 100000)
theorem ptA.kept {h h' : am_H} {a r lo hi : Nat} {P : List Tn} (s : ptA h a r P) (f : fi h h' lo hi) (hd : a + 4 ≤ lo ∨ hi ≤ a) : ptA h' a r P := by
  obtain ⟨f1, f2, f3, f4⟩ := f
  unfold ptA
  rw [f2, f3, f4 a (by omega), f4 (a + 1) (by omega), f4 (a + 2) (by omega), f4 (a + 3) (by omega)]
  exact s
theorem ptA.len {h : am_H} {a r : Nat} {P : List Tn} (s : ptA h a r P) : P.length ≤ r ∧ r ≤ 1000 := s.2.2.2.2.2.2.2.2.2.1
theorem ptA.bd {h : am_H} {a r : Nat} {P : List Tn} (s : ptA h a r P) : ∀ q ∈ P, (-100000 ≤ q.2.1 ∧ q.2.1 ≤ 100000) ∧ (-100000 ≤ q.2.2 ∧ q.2.2 ≤ 100000) := by
  intro q hq
  obtain ⟨i, hi⟩ := List.getElem?_of_mem hq
  exact (s.2.2.2.2.2.2.2.2.2.2 i q hi).2.2.2
def ptH (P : List Tn) (i : Int) : Bool := if 0 ≤ i then (match P[i.toNat]? with | some q => q.1 | none => false) else false
def ptM (P : List Tn) (i : Int) : Int := if 0 ≤ i then (match P[i.toNat]? with | some q => q.2.1 | none => 0) else 0
def ptG (P : List Tn) (i : Int) : Int := if 0 ≤ i then (match P[i.toNat]? with | some q => q.2.2 | none => 0) else 0
theorem ptH_at {P : List Tn} {i : Nat} {q : Tn} (h : P[i]? = some q) : ptH P (i : Int) = q.1 := by
  unfold ptH
  rw [if_pos (by omega), Int.toNat_natCast, h]
theorem ptM_at {P : List Tn} {i : Nat} {q : Tn} (h : P[i]? = some q) : ptM P (i : Int) = q.2.1 := by
  unfold ptM
  rw [if_pos (by omega), Int.toNat_natCast, h]
theorem ptG_at {P : List Tn} {i : Nat} {q : Tn} (h : P[i]? = some q) : ptG P (i : Int) = q.2.2 := by
  unfold ptG
  rw [if_pos (by omega), Int.toNat_natCast, h]
theorem ptM_bd {h : am_H} {a r : Nat} {P : List Tn} (s : ptA h a r P) (i : Int) : -100000 ≤ ptM P i ∧ ptM P i ≤ 100000 := by
  unfold ptM
  by_cases c : 0 ≤ i
  · rw [if_pos c]
    cases hq : P[i.toNat]? with
    | none => exact ⟨by decide, by decide⟩
    | some q => exact (s.bd q (List.mem_of_getElem? hq)).1
  · rw [if_neg c]
    exact ⟨by decide, by decide⟩
theorem ptG_bd {h : am_H} {a r : Nat} {P : List Tn} (s : ptA h a r P) (i : Int) : -100000 ≤ ptG P i ∧ ptG P i ≤ 100000 := by
  unfold ptG
  by_cases c : 0 ≤ i
  · rw [if_pos c]
    cases hq : P[i.toNat]? with
    | none => exact ⟨by decide, by decide⟩
    | some q => exact (s.bd q (List.mem_of_getElem? hq)).2
  · rw [if_neg c]
    exact ⟨by decide, by decide⟩
theorem s_Port_turnCount {h : am_H} {a r : Nat} {P : List Tn} {Q : Int32 → am_H → Prop} (s : ptA h a r P) (k : Q (ji P.length) h) : am_Ei m_Port_turnCount 0 0 [.ref a] h Q := by
  refine ev_Port_turnCount a h Q ⟨s.1, ?_⟩
  rw [s.2.2.2.2.2.2.2.2.1]
  exact k
theorem s_Port_isHigh {h : am_H} {a r : Nat} {P : List Tn} {i : Int} {Q : Int32 → am_H → Prop} (s : ptA h a r P) (hi : -2147483648 ≤ i ∧ i < 2147483648) (k : Q (bi (ptH P i)) h) : am_Ei m_Port_isHigh 0 0 [.ref a, .int (ji i)] h Q := by
  obtain ⟨s1, s2, s3, s4, s5, s6, s7, s8, s9, s10, s11⟩ := s
  refine ev_Port_isHigh a (ji i) h Q ?_
  rw [s9, s8, jk0, ji_lt, ji_le, ji_le]
  by_cases c1 : i < 0
  · have e : ptH P i = false := if_neg (by omega)
    rw [e] at k
    exact ⟨fun _ => k, fun q => absurd c1 q⟩
  · refine ⟨fun q => absurd q c1, fun _ => ⟨s1, fun c2 => ?_, fun c2 => ⟨fun c3 => by omega, fun _ => ⟨a + 1, s5, by rw [s2], by rw [s2]; exact (ji_in).mpr (by omega), ?_⟩⟩⟩⟩
    · have e : ptH P i = false := by
        unfold ptH
        rw [if_pos (by omega), List.getElem?_eq_none (by omega)]
      rw [e] at k
      exact k
    · have hl : i.toNat < P.length := by omega
      have hq := List.getElem?_eq_getElem hl
      have e : ptH P i = P[i.toNat].1 := by
        unfold ptH
        rw [if_pos (by omega), hq]
      rw [e] at k
      rw [ji_tn, (s11 _ _ hq).1, ← jk0, bi_0]
      cases hb : P[i.toNat].1
      · rw [hb] at k
        exact ⟨fun _ => k, fun q => absurd rfl q⟩
      · rw [hb] at k
        exact ⟨fun q => (by cases q), fun _ => k⟩
theorem s_Port_minuteOf {h : am_H} {a r : Nat} {P : List Tn} {i : Int} {Q : Int32 → am_H → Prop} (s : ptA h a r P) (hi : -2147483648 ≤ i ∧ i < 2147483648) (k : Q (ji (ptM P i)) h) : am_Ei m_Port_minuteOf 0 0 [.ref a, .int (ji i)] h Q := by
  obtain ⟨s1, s2, s3, s4, s5, s6, s7, s8, s9, s10, s11⟩ := s
  refine ev_Port_minuteOf a (ji i) h Q ?_
  rw [s9, s8, jk0, ji_lt, ji_le, ji_le]
  by_cases c1 : i < 0
  · have e : ptM P i = 0 := if_neg (by omega)
    rw [e] at k
    exact ⟨fun _ => k, fun q => absurd c1 q⟩
  · refine ⟨fun q => absurd q c1, fun _ => ⟨s1, fun c2 => ?_, fun c2 => ⟨fun c3 => by omega, fun _ => ⟨a + 2, s6, by rw [s3], by rw [s3]; exact (ji_in).mpr (by omega), ?_⟩⟩⟩⟩
    · have e : ptM P i = 0 := by
        unfold ptM
        rw [if_pos (by omega), List.getElem?_eq_none (by omega)]
      rw [e] at k
      exact k
    · have hl : i.toNat < P.length := by omega
      have hq := List.getElem?_eq_getElem hl
      have e : ptM P i = P[i.toNat].2.1 := by
        unfold ptM
        rw [if_pos (by omega), hq]
      rw [e] at k
      rw [ji_tn, (s11 _ _ hq).2.1]
      exact k
theorem s_Port_heightOf {h : am_H} {a r : Nat} {P : List Tn} {i : Int} {Q : Int32 → am_H → Prop} (s : ptA h a r P) (hi : -2147483648 ≤ i ∧ i < 2147483648) (k : Q (ji (ptG P i)) h) : am_Ei m_Port_heightOf 0 0 [.ref a, .int (ji i)] h Q := by
  obtain ⟨s1, s2, s3, s4, s5, s6, s7, s8, s9, s10, s11⟩ := s
  refine ev_Port_heightOf a (ji i) h Q ?_
  rw [s9, s8, jk0, ji_lt, ji_le, ji_le]
  by_cases c1 : i < 0
  · have e : ptG P i = 0 := if_neg (by omega)
    rw [e] at k
    exact ⟨fun _ => k, fun q => absurd c1 q⟩
  · refine ⟨fun q => absurd q c1, fun _ => ⟨s1, fun c2 => ?_, fun c2 => ⟨fun c3 => by omega, fun _ => ⟨a + 3, s7, by rw [s4], by rw [s4]; exact (ji_in).mpr (by omega), ?_⟩⟩⟩⟩
    · have e : ptG P i = 0 := by
        unfold ptG
        rw [if_pos (by omega), List.getElem?_eq_none (by omega)]
      rw [e] at k
      exact k
    · have hl : i.toNat < P.length := by omega
      have hq := List.getElem?_eq_getElem hl
      have e : ptG P i = P[i.toNat].2.2 := by
        unfold ptG
        rw [if_pos (by omega), hq]
      rw [e] at k
      rw [ji_tn, (s11 _ _ hq).2.2.1]
      exact k
theorem s_Port_firstMinute {h : am_H} {a r : Nat} {P : List Tn} {Q : Int32 → am_H → Prop} (s : ptA h a r P) (k : Q (ji (ptM P 0)) h) : am_Ei m_Port_firstMinute 0 0 [.ref a] h Q := by
  refine ev_Port_firstMinute a h Q ⟨s.1, ?_⟩
  rw [jk0]
  exact s_Port_minuteOf s (by decide) k
theorem s_Port_lastMinute {h : am_H} {a r : Nat} {P : List Tn} {Q : Int32 → am_H → Prop} (s : ptA h a r P) (k : Q (ji (ptM P ((P.length : Int) - 1))) h) : am_Ei m_Port_lastMinute 0 0 [.ref a] h Q := by
  have hl := s.len
  refine ev_Port_lastMinute a h Q ⟨s.1, ?_⟩
  rw [s.2.2.2.2.2.2.2.2.1, jk1, ji_sub]
  exact s_Port_minuteOf s (by omega) k
/-- the minutes of a port -/
def ptIn (P : List Tn) (t : Int) : Prop := 0 < P.length ∧ ptM P 0 ≤ t ∧ t ≤ ptM P ((P.length : Int) - 1)
theorem s_Port_hasMinute {h : am_H} {a r : Nat} {P : List Tn} {t : Int} {Q : Int32 → am_H → Prop} (s : ptA h a r P) (ht : -2147483648 ≤ t ∧ t < 2147483648) (k1 : ptIn P t → Q 1 h) (k0 : ¬ ptIn P t → Q 0 h) : am_Ei m_Port_hasMinute 0 0 [.ref a, .int (ji t)] h Q := by
  have hl := s.len
  have b1 := ptM_bd s 0
  have b2 := ptM_bd s ((P.length : Int) - 1)
  refine ev_Port_hasMinute a (ji t) h Q ⟨s.1, ?_⟩
  rw [s.2.2.2.2.2.2.2.2.1, jk0, ji_le]
  refine ⟨fun c => k0 (fun q => by have := q.1; omega), fun c => s_Port_firstMinute s ?_⟩
  rw [ji_lt]
  refine ⟨fun c2 => k0 (fun q => by have := q.2.1; omega), fun c2 => ⟨s.1, s_Port_lastMinute s ?_⟩⟩
  rw [ji_lt]
  exact ⟨fun c3 => k0 (fun q => by have := q.2.2; omega), fun c3 => k1 ⟨by omega, by omega, by omega⟩⟩
theorem s_Port_isHeight {x : Int} {h : am_H} {Q : Int32 → am_H → Prop} (hx : -2147483648 ≤ x ∧ x < 2147483648) (k : Q (bi (decide (-500 ≤ x ∧ x ≤ 1500))) h) : am_Ei m_Port_isHeight 0 0 [.int (ji x)] h Q := by
  refine ev_Port_isHeight (ji x) h Q ?_
  rw [jm500, jk1500, ji_lt, ji_lt]
  by_cases c1 : x < -500
  · rw [decide_eq_false (by omega)] at k
    exact ⟨fun _ => k, fun q => absurd c1 q⟩
  · refine ⟨fun q => absurd q c1, fun _ => ⟨fun c2 => ?_, fun c2 => ?_⟩⟩
    · rw [decide_eq_false (by omega)] at k
      exact k
    · rw [decide_eq_true (by omega)] at k
      exact k
theorem s_Port_clear {h : am_H} {a r : Nat} {P : List Tn} {Q : am_H → Prop} (s : ptA h a r P) (k : ∀ h', fi h h' a (a + 4) → ptA h' a r [] → Q h') : am_Ew m_Port_clear 0 0 [.ref a] h Q := by
  obtain ⟨s1, s2, s3, s4, s5, s6, s7, s8, s9, s10, s11⟩ := s
  refine ev_Port_clear a h Q ⟨s1, k _ (fi.si (by omega) (by omega)) ?_⟩
  refine ⟨s1, s2, s3, s4, s5, s6, s7, ?_, ?_, ⟨by simp, s10.2⟩, fun i q hq => by simp at hq⟩
  · rw [am_I_sis, va_up_no _ _ (by decide)]
    exact s8
  · rw [am_I_sis, va_up_at]
    rfl
theorem s_Port_add {h : am_H} {a r : Nat} {P : List Tn} {b : Bool} {m g : Int} {Q : am_H → Prop} (s : ptA h a r P) (hm : -100000 ≤ m ∧ m ≤ 100000) (hg : -100000 ≤ g ∧ g ≤ 100000) (hr : P.length < r) (k : ∀ h', fi h h' a (a + 4) → ptA h' a r (P ++ [(b, m, g)]) → Q h') : am_Ew m_Port_add 0 0 [.ref a, .int (bi b), .int (ji m), .int (ji g)] h Q := by
  obtain ⟨s1, s2, s3, s4, s5, s6, s7, s8, s9, s10, s11⟩ := s
  have e1 : ∀ k v, am_I (am_si h (a + 1) k v) a = am_I h a := fun k v => am_I_sin (by omega)
  have e2 : ∀ k v k' v', am_I (am_si (am_si h (a + 1) k v) (a + 2) k' v') a = am_I h a := fun k v k' v' => by rw [am_I_sin (by omega), am_I_sin (by omega)]
  have e3 : ∀ k v k' v' k2 v2, am_I (am_si (am_si (am_si h (a + 1) k v) (a + 2) k' v') (a + 3) k2 v2) a = am_I h a := fun k v k' v' k2 v2 => by rw [am_I_sin (by omega), am_I_sin (by omega), am_I_sin (by omega)]
  have tn : (ji (P.length : Int)).toNatClampNeg = P.length := by rw [ji_tn]; omega
  refine ev_Port_add a (bi b) (ji m) (ji g) h Q ⟨s1, ?_⟩
  rw [s9, s8, jk0, ji_lt, ji_le]
  refine ⟨fun c => by omega, fun _ => ⟨fun c => by omega, fun _ => ⟨a + 1, s5, by rw [s2], by rw [s2]; exact (ji_in).mpr (by omega), bi_01 b, a + 2, s6, by rw [s3], ?_, a + 3, s7, by rw [s4], ?_, ?_⟩⟩⟩
  · rw [s3, e1, s9]
    exact (ji_in).mpr (by omega)
  · rw [s4, e2, s9]
    exact (ji_in).mpr (by omega)
  · rw [e1, s9, e2, s9, e3, s9, tn, jk1, ji_add]
    refine k _ ((((fi.si (by omega) (by omega)).tr (fi.si (by omega) (by omega))).tr (fi.si (by omega) (by omega))).tr (fi.si (by omega) (by omega))) ?_
    refine ⟨s1, s2, s3, s4, s5, s6, s7, ?_, ?_, ⟨by simp; omega, s10.2⟩, fun i q hq => ?_⟩
    · rw [am_I_sis, va_up_no _ _ (by decide), am_I_sin (by omega), am_I_sin (by omega), am_I_sin (by omega)]
      exact s8
    · rw [am_I_sis, va_up_at]
      simp
    · rw [am_I_sin (by omega), am_I_sin (by omega), am_I_sin (by omega), am_I_sis, am_I_sin (by omega), am_I_sin (by omega), am_I_sis, am_I_sin (by omega), am_I_sin (by omega), am_I_sis, am_I_sin (by omega), am_I_sin (by omega)]
      by_cases e : i = P.length
      · subst e
        rw [List.getElem?_append_right (by omega)] at hq
        simp at hq
        subst hq
        rw [va_up_at, va_up_at, va_up_at]
        exact ⟨rfl, rfl, rfl, hm, hg⟩
      · have hi : i < P.length := by
          have := (List.getElem?_eq_some_iff.mp hq).1
          simp at this
          omega
        rw [List.getElem?_append_left hi] at hq
        rw [va_up_no _ _ e, va_up_no _ _ e, va_up_no _ _ e]
        exact s11 i q hq
theorem s_Port_copyFrom {h : am_H} {a0 a1 r0 r1 : Nat} {P0 P1 : List Tn} {Q : am_H → Prop} (s0 : ptA h a0 r0 P0) (s1 : ptA h a1 r1 P1) (hd : a0 + 4 ≤ a1 ∨ a1 + 4 ≤ a0) (hr : P1.length ≤ r0) (k : ∀ h', fi h h' a0 (a0 + 4) → ptA h' a0 r0 P1 → Q h') : am_Ew m_Port_copyFrom 0 0 [.ref a0, .ref a1] h Q := by
  have hlen := s1.len
  have loop : ∀ (n i : Nat) (h1 : am_H), i + n = P1.length → fi h h1 a0 (a0 + 4) → ptA h1 a0 r0 (P1.take i) → am_EI m_Port_copyFrom 0 0 7 [.ref a0, .ref a1, .int (ji i)] [] h1 (am_qw Q) := by
    intro n
    induction n with
    | zero =>
      intro i h1 hi hf s
      have s1' := s1.kept hf (by omega)
      refine sg_Port_copyFrom_7 a0 a1 (ji i) h1 _ ⟨s1'.1, s_Port_turnCount s1' ?_⟩
      rw [ji_le]
      refine ⟨fun _ => ?_, fun c => absurd (by omega) c⟩
      rw [show P1.take i = P1 from List.take_of_length_le (by omega)] at s
      exact k h1 hf s
    | succ n ih =>
      intro i h1 hi hf s
      have s1' := s1.kept hf (by omega)
      refine sg_Port_copyFrom_7 a0 a1 (ji i) h1 _ ⟨s1'.1, s_Port_turnCount s1' ?_⟩
      rw [ji_le]
      refine ⟨fun c => absurd c (by omega), fun _ => ⟨s1'.1, ?_⟩⟩
      obtain ⟨q, hq⟩ : ∃ q, P1[i]? = some q := ⟨_, List.getElem?_eq_getElem (by omega)⟩
      have bq := s1.bd q (List.mem_of_getElem? hq)
      refine s_Port_isHigh s1' (by omega) ⟨s1'.1, s_Port_minuteOf s1' (by omega) ⟨s1'.1, s_Port_heightOf s1' (by omega) ⟨s.1, ?_⟩⟩⟩
      rw [ptH_at hq, ptM_at hq, ptG_at hq]
      refine s_Port_add s bq.1 bq.2 (by simp; omega) (fun h2 hf2 s2 => ?_)
      rw [jk1, ji_add]
      have em : P1.take i ++ [(q.1, q.2.1, q.2.2)] = P1.take (i + 1) := (take_snoc hq).symm
      rw [em] at s2
      exact ih (i + 1) h2 (by omega) (hf.tr hf2) s2
  refine ev_Port_copyFrom a0 a1 h Q ⟨s0.1, ?_⟩
  refine loop P1.length 0 _ (by omega) (fi.si (by omega) (by omega)) ?_
  obtain ⟨t1, t2, t3, t4, t5, t6, t7, t8, t9, t10, t11⟩ := s0
  refine ⟨t1, t2, t3, t4, t5, t6, t7, ?_, ?_, ⟨by simp, t10.2⟩, fun i q hq => by simp at hq⟩
  · rw [am_I_sis, va_up_no _ _ (by decide)]
    exact t8
  · rw [am_I_sis, va_up_at]
    rfl
