/-! routes: stops (miles, number, kind, level) -/
abbrev RtStop : Type := Int × Int × Int × Int
def rtA (h : am_H) (a r : Nat) (R : List RtStop) : Prop :=
  am_tg h a = (4, 7) ∧ am_tg h (a + 1) = (37, r) ∧ am_tg h (a + 2) = (20, r) ∧ am_tg h (a + 3) = (20, r) ∧ am_tg h (a + 4) = (20, r) ∧ am_tg h (a + 5) = (20, r) ∧ am_P h a 1 = some (a + 1) ∧ am_P h a 2 = some (a + 2) ∧ am_P h a 3 = some (a + 3) ∧ am_P h a 4 = some (a + 4) ∧ am_P h a 5 = some (a + 5) ∧ am_I h a 0 = ji r ∧ am_I h a 6 = ji R.length ∧ (R.length ≤ r ∧ r ≤ 1000) ∧
  ∀ (i : Nat) (q : RtStop), R[i]? = some q → am_I h (a + 5) i = ji q.1 ∧ am_I h (a + 2) i = ji q.2.1 ∧ am_I h (a + 3) i = ji q.2.2.1 ∧ am_I h (a + 4) i = ji q.2.2.2 ∧ (0 ≤ q.1 ∧ q.1 ≤ 9999) ∧ (0 ≤ q.2.1 ∧ q.2.1 ≤ 9999) ∧ (0 ≤ q.2.2.1 ∧ q.2.2.1 ≤ 2) ∧ (-9999 ≤ q.2.2.2 ∧ q.2.2.2 ≤ 9999)
theorem rtA.kept {h h' : am_H} {a r lo hi : Nat} {R : List RtStop} (s : rtA h a r R) (f : fi h h' lo hi) (hd : a + 6 ≤ lo ∨ hi ≤ a) : rtA h' a r R := by
  obtain ⟨f1, f2, f3, f4⟩ := f
  unfold rtA
  rw [f2, f3, f4 a (by omega), f4 (a + 2) (by omega), f4 (a + 3) (by omega), f4 (a + 4) (by omega), f4 (a + 5) (by omega)]
  exact s
theorem rtA.len {h : am_H} {a r : Nat} {R : List RtStop} (s : rtA h a r R) : R.length ≤ r ∧ r ≤ 1000 := s.2.2.2.2.2.2.2.2.2.2.2.2.2.1
theorem rtA.row {h : am_H} {a r : Nat} {R : List RtStop} (s : rtA h a r R) {i : Nat} {q : RtStop} (hq : R[i]? = some q) : am_I h (a + 5) i = ji q.1 ∧ am_I h (a + 2) i = ji q.2.1 ∧ am_I h (a + 3) i = ji q.2.2.1 ∧ am_I h (a + 4) i = ji q.2.2.2 ∧ (0 ≤ q.1 ∧ q.1 ≤ 9999) ∧ (0 ≤ q.2.1 ∧ q.2.1 ≤ 9999) ∧ (0 ≤ q.2.2.1 ∧ q.2.2.1 ≤ 2) ∧ (-9999 ≤ q.2.2.2 ∧ q.2.2.2 ≤ 9999) := s.2.2.2.2.2.2.2.2.2.2.2.2.2.2 i q hq
theorem rtA.cnt {h : am_H} {a r : Nat} {R : List RtStop} (s : rtA h a r R) : am_I h a 0 = ji r ∧ am_I h a 6 = ji R.length := ⟨s.2.2.2.2.2.2.2.2.2.2.2.1, s.2.2.2.2.2.2.2.2.2.2.2.2.1⟩
theorem s_Route_stopCount {h : am_H} {a r : Nat} {R : List RtStop} {Q : Int32 → am_H → Prop} (s : rtA h a r R) (k : Q (ji R.length) h) : am_Ei m_Route_stopCount 0 0 [.ref a] h Q := ev_Route_stopCount a h Q ⟨s.1, by rw [s.cnt.2]; exact k⟩
theorem s_Route_isStop {h : am_H} {a r : Nat} {R : List RtStop} {i : Int} {Q : Int32 → am_H → Prop} (s : rtA h a r R) (hi : -2147483648 ≤ i ∧ i < 2147483648) (k1 : 0 ≤ i ∧ i < R.length → Q 1 h) (k0 : ¬ (0 ≤ i ∧ i < R.length) → Q 0 h) : am_Ei m_Route_isStop 0 0 [.ref a, .int (ji i)] h Q := by
  have hl := s.len
  refine ev_Route_isStop a (ji i) h Q ?_
  rw [s.cnt.1, s.cnt.2, jk0, ji_lt, ji_le, ji_le]
  exact ⟨fun c => k0 (by omega), fun c => ⟨s.1, fun c2 => k0 (by omega), fun c2 => ⟨fun c3 => by omega, fun _ => k1 (by omega)⟩⟩⟩
def rtG (g : RtStop → Int) (R : List RtStop) (i : Int) : Int := if 0 ≤ i then (match R[i.toNat]? with | some q => g q | none => 0) else 0
theorem rtG_at {g : RtStop → Int} {R : List RtStop} {i : Nat} {q : RtStop} (h : R[i]? = some q) : rtG g R (i : Int) = g q := by
  unfold rtG
  rw [if_pos (by omega), Int.toNat_natCast, h]
theorem rtG_no {g : RtStop → Int} {R : List RtStop} {i : Int} (h : ¬ (0 ≤ i ∧ i < R.length)) : rtG g R i = 0 := by
  unfold rtG
  by_cases c : 0 ≤ i
  · rw [if_pos c, List.getElem?_eq_none (by omega)]
  · rw [if_neg c]
theorem rt_tail {h : am_H} {a r c : Nat} {R : List RtStop} {i : Int} {g : RtStop → Int} {Q : Int32 → am_H → Prop} (s : rtA h a r R) (hi : -2147483648 ≤ i ∧ i < 2147483648) (hP : am_P h a c = some (a + c)) (hT : am_tg h (a + c) = (20, r)) (hr : ∀ (i : Nat) q, R[i]? = some q → am_I h (a + c) i = ji (g q)) (k : Q (ji (rtG g R i)) h) :
    (am_tg h a = (4, 7) ∧ (am_Ei m_Route_isStop 0 0 [.ref a, .int (ji i)] h (fun r3 h2 => ((r3 = 0 → Q 0 h2) ∧ (¬ r3 = 0 → (am_tg h2 a = (4, 7) ∧ (∃ b5, am_P h2 a c = some b5 ∧ ((am_tg h2 b5).1 = 20 ∧ (vp_in (ji i) (am_tg h2 b5).2 ∧ Q (am_I h2 b5 (ji i).toNatClampNeg) h2))))))))) := by
  have hl := s.len
  refine ⟨s.1, s_Route_isStop s hi (fun c1 => ⟨fun q => absurd q (by decide), fun _ => ⟨s.1, a + c, hP, by rw [hT], by rw [hT]; exact (ji_in).mpr (by omega), ?_⟩⟩) (fun c0 => ⟨fun _ => ?_, fun q => absurd rfl q⟩)⟩
  · obtain ⟨q, hq⟩ : ∃ q, R[i.toNat]? = some q := ⟨_, List.getElem?_eq_getElem (by omega)⟩
    have e := rtG_at (g := g) hq
    rw [show ((i.toNat : Nat) : Int) = i from by omega] at e
    rw [e] at k
    rw [ji_tn, hr _ _ hq]
    exact k
  · rw [rtG_no c0] at k
    exact k
theorem s_Route_sillNumberOf {h : am_H} {a r : Nat} {R : List RtStop} {i : Int} {Q : Int32 → am_H → Prop} (s : rtA h a r R) (hi : -2147483648 ≤ i ∧ i < 2147483648) (k : Q (ji (rtG (fun q => q.2.1) R i)) h) : am_Ei m_Route_sillNumberOf 0 0 [.ref a, .int (ji i)] h Q :=
  ev_Route_sillNumberOf a (ji i) h Q (rt_tail (c := 2) s hi s.2.2.2.2.2.2.2.1 s.2.2.1 (fun i q hq => (s.row hq).2.1) k)
theorem s_Route_kindOf {h : am_H} {a r : Nat} {R : List RtStop} {i : Int} {Q : Int32 → am_H → Prop} (s : rtA h a r R) (hi : -2147483648 ≤ i ∧ i < 2147483648) (k : Q (ji (rtG (fun q => q.2.2.1) R i)) h) : am_Ei m_Route_kindOf 0 0 [.ref a, .int (ji i)] h Q :=
  ev_Route_kindOf a (ji i) h Q (rt_tail (c := 3) s hi s.2.2.2.2.2.2.2.2.1 s.2.2.2.1 (fun i q hq => (s.row hq).2.2.1) k)
theorem s_Route_levelOf {h : am_H} {a r : Nat} {R : List RtStop} {i : Int} {Q : Int32 → am_H → Prop} (s : rtA h a r R) (hi : -2147483648 ≤ i ∧ i < 2147483648) (k : Q (ji (rtG (fun q => q.2.2.2) R i)) h) : am_Ei m_Route_levelOf 0 0 [.ref a, .int (ji i)] h Q :=
  ev_Route_levelOf a (ji i) h Q (rt_tail (c := 4) s hi s.2.2.2.2.2.2.2.2.2.1 s.2.2.2.2.1 (fun i q hq => (s.row hq).2.2.2.1) k)
theorem s_Route_milesTo {h : am_H} {a r : Nat} {R : List RtStop} {i : Int} {Q : Int32 → am_H → Prop} (s : rtA h a r R) (hi : -2147483648 ≤ i ∧ i < 2147483648) (k : Q (ji (rtG (fun q => q.1) R i)) h) : am_Ei m_Route_milesTo 0 0 [.ref a, .int (ji i)] h Q :=
  ev_Route_milesTo a (ji i) h Q (rt_tail (c := 5) s hi s.2.2.2.2.2.2.2.2.2.2.1 s.2.2.2.2.2.1 (fun i q hq => (s.row hq).1) k)
theorem s_Route_sillOf {h : am_H} {a r x : Nat} {R : List RtStop} {i : Nat} {Q : Option Nat → am_H → Prop} (s : rtA h a r R) (hi : i < R.length) (hx : am_P h (a + 1) i = some x) (k : Q (some x) h) : am_Er m_Route_sillOf 0 0 [.ref a, .int (ji i)] h Q := by
  have hl := s.len
  have tn : (ji (i : Int)).toNatClampNeg = i := by rw [ji_tn]; omega
  refine ev_Route_sillOf a (ji i) h Q ⟨s.1, s_Route_isStop s (by omega) (fun c1 => ⟨fun q => absurd q (by decide), fun _ => ⟨s.1, a + 1, s.2.2.2.2.2.2.1, by rw [s.2.1], by rw [s.2.1]; exact (ji_in).mpr (by omega), x, by rw [tn]; exact hx, k⟩⟩) (fun c0 => absurd (by omega) c0)⟩
theorem s_Route_setSill {h : am_H} {a r x n : Nat} {R : List RtStop} {i : Nat} {Q : am_H → Prop} (s : rtA h a r R) (hi : i < R.length) (hx : am_tg h x = (7, n)) (k : Q (am_sp h (a + 1) i (some x))) : am_Ew m_Route_setSill 0 0 [.ref a, .int (ji i), .ref x] h Q := by
  have hl := s.len
  have tn : (ji (i : Int)).toNatClampNeg = i := by rw [ji_tn]; omega
  refine ev_Route_setSill a x (ji i) h Q ⟨s.1, s_Route_isStop s (by omega) (fun c1 => ⟨fun q => absurd q (by decide), fun _ => ⟨s.1, a + 1, s.2.2.2.2.2.2.1, by rw [hx], by rw [s.2.1], by rw [s.2.1]; exact (ji_in).mpr (by omega), by rw [tn]; exact k⟩⟩) (fun c0 => absurd (by omega) c0)⟩
def stB (q : RtStop) : Prop := (0 ≤ q.1 ∧ q.1 ≤ 9999) ∧ (0 ≤ q.2.1 ∧ q.2.1 ≤ 9999) ∧ (0 ≤ q.2.2.1 ∧ q.2.2.1 ≤ 2) ∧ (-9999 ≤ q.2.2.2 ∧ q.2.2.2 ≤ 9999)
theorem s_Route_add {h : am_H} {a r : Nat} {R : List RtStop} {m n kd lv : Int} {Q : am_H → Prop} (s : rtA h a r R) (hb : stB (m, n, kd, lv)) (hr : R.length < r) (k : ∀ h', fi h h' a (a + 6) → rtA h' a r (R ++ [(m, n, kd, lv)]) → Q h') : am_Ew m_Route_add 0 0 [.ref a, .int (ji m), .int (ji n), .int (ji kd), .int (ji lv)] h Q := by
  have hl := s.len
  obtain ⟨s1, s2, s3, s4, s5, s6, s7, s8, s9, s10, s11, s12, s13, s14, s15⟩ := id s
  have e1 : ∀ k v, am_I (am_si h (a + 5) k v) a = am_I h a := fun k v => am_I_sin (by omega)
  have e2 : ∀ k v k' v', am_I (am_si (am_si h (a + 5) k v) (a + 2) k' v') a = am_I h a := fun k v k' v' => by rw [am_I_sin (by omega), am_I_sin (by omega)]
  have e3 : ∀ k v k' v' k2 v2, am_I (am_si (am_si (am_si h (a + 5) k v) (a + 2) k' v') (a + 3) k2 v2) a = am_I h a := fun k v k' v' k2 v2 => by rw [am_I_sin (by omega), am_I_sin (by omega), am_I_sin (by omega)]
  have e4 : ∀ k v k' v' k2 v2 k3 v3, am_I (am_si (am_si (am_si (am_si h (a + 5) k v) (a + 2) k' v') (a + 3) k2 v2) (a + 4) k3 v3) a = am_I h a := fun k v k' v' k2 v2 k3 v3 => by rw [am_I_sin (by omega), am_I_sin (by omega), am_I_sin (by omega), am_I_sin (by omega)]
  have tn : (ji (R.length : Int)).toNatClampNeg = R.length := by rw [ji_tn]; omega
  refine ev_Route_add a (ji m) (ji n) (ji kd) (ji lv) h Q ⟨s1, ?_⟩
  rw [s13, s12, jk0, ji_lt, ji_le]
  refine ⟨fun c => by omega, fun _ => ⟨fun c => by omega, fun _ => ⟨a + 5, s11, by rw [s6], by rw [s6]; exact (ji_in).mpr (by omega), a + 2, s8, by rw [s3], ?_, a + 3, s9, by rw [s4], ?_, a + 4, s10, by rw [s5], ?_, ?_⟩⟩⟩
  · rw [s3, e1, s13]
    exact (ji_in).mpr (by omega)
  · rw [s4, e2, s13]
    exact (ji_in).mpr (by omega)
  · rw [s5, e3, s13]
    exact (ji_in).mpr (by omega)
  · rw [e1, s13, e2, s13, e3, s13, e4, s13, tn, jk1, ji_add]
    refine k _ (((((fi.si (by omega) (by omega)).tr (fi.si (by omega) (by omega))).tr (fi.si (by omega) (by omega))).tr (fi.si (by omega) (by omega))).tr (fi.si (by omega) (by omega))) ?_
    refine ⟨s1, s2, s3, s4, s5, s6, s7, s8, s9, s10, s11, ?_, ?_, ⟨by simp; omega, s14.2⟩, fun i q hq => ?_⟩
    · rw [am_I_sis, va_up_no _ _ (by decide), e4]
      exact s12
    · rw [am_I_sis, va_up_at]
      simp
    · rw [am_I_sin (by omega), am_I_sin (by omega), am_I_sin (by omega), am_I_sin (by omega), am_I_sis, am_I_sin (by omega), am_I_sin (by omega), am_I_sin (by omega), am_I_sis, am_I_sin (by omega), am_I_sin (by omega), am_I_sin (by omega), am_I_sis, am_I_sin (by omega), am_I_sin (by omega), am_I_sin (by omega), am_I_sis, am_I_sin (by omega), am_I_sin (by omega), am_I_sin (by omega)]
      by_cases e : i = R.length
      · subst e
        rw [List.getElem?_append_right (by omega)] at hq
        simp at hq
        subst hq
        rw [va_up_at, va_up_at, va_up_at, va_up_at]
        exact ⟨rfl, rfl, rfl, rfl, hb⟩
      · have hi : i < R.length := by
          have := (List.getElem?_eq_some_iff.mp hq).1
          simp at this
          omega
        rw [List.getElem?_append_left hi] at hq
        rw [va_up_no _ _ e, va_up_no _ _ e, va_up_no _ _ e, va_up_no _ _ e]
        exact s15 i q hq
theorem rtA.clr {h : am_H} {a r : Nat} {R : List RtStop} (s : rtA h a r R) : rtA (am_si h a 6 0) a r [] := by
  obtain ⟨s1, s2, s3, s4, s5, s6, s7, s8, s9, s10, s11, s12, s13, s14, s15⟩ := s
  refine ⟨s1, s2, s3, s4, s5, s6, s7, s8, s9, s10, s11, ?_, ?_, ⟨by simp, s14.2⟩, fun i q hq => by simp at hq⟩
  · rw [am_I_sis, va_up_no _ _ (by decide)]
    exact s12
  · rw [am_I_sis, va_up_at]
    rfl
theorem s_Route_copyFrom {h : am_H} {a0 a1 r0 r1 : Nat} {R0 R1 : List RtStop} {Q : am_H → Prop} (s0 : rtA h a0 r0 R0) (s1 : rtA h a1 r1 R1) (hd : a0 + 6 ≤ a1 ∨ a1 + 6 ≤ a0) (hr : R1.length ≤ r0) (k : ∀ h', fi h h' a0 (a0 + 6) → rtA h' a0 r0 R1 → Q h') : am_Ew m_Route_copyFrom 0 0 [.ref a0, .ref a1] h Q := by
  have hlen := s1.len
  have loop : ∀ (n i : Nat) (h1 : am_H), i + n = R1.length → fi h h1 a0 (a0 + 6) → rtA h1 a0 r0 (R1.take i) → am_EI m_Route_copyFrom 0 0 7 [.ref a0, .ref a1, .int (ji i)] [] h1 (am_qw Q) := by
    intro n
    induction n with
    | zero =>
      intro i h1 hi hf s
      have s1' := s1.kept hf (by omega)
      refine sg_Route_copyFrom_7 a0 a1 (ji i) h1 _ ⟨s1'.1, s_Route_stopCount s1' ?_⟩
      rw [ji_le]
      refine ⟨fun _ => ?_, fun c => absurd (by omega) c⟩
      rw [show R1.take i = R1 from List.take_of_length_le (by omega)] at s
      exact k h1 hf s
    | succ n ih =>
      intro i h1 hi hf s
      have s1' := s1.kept hf (by omega)
      refine sg_Route_copyFrom_7 a0 a1 (ji i) h1 _ ⟨s1'.1, s_Route_stopCount s1' ?_⟩
      rw [ji_le]
      refine ⟨fun c => absurd c (by omega), fun _ => ⟨s1'.1, ?_⟩⟩
      obtain ⟨q, hq⟩ : ∃ q, R1[i]? = some q := ⟨_, List.getElem?_eq_getElem (by omega)⟩
      have bq := (s1.row hq).2.2.2.2
      refine s_Route_milesTo s1' (by omega) ⟨s1'.1, s_Route_sillNumberOf s1' (by omega) ⟨s1'.1, s_Route_kindOf s1' (by omega) ⟨s1'.1, s_Route_levelOf s1' (by omega) ⟨s.1, ?_⟩⟩⟩⟩
      rw [rtG_at hq, rtG_at hq, rtG_at hq, rtG_at hq]
      refine s_Route_add s bq (by simp; omega) (fun h2 hf2 s2 => ?_)
      rw [jk1, ji_add]
      have em : R1.take i ++ [(q.1, q.2.1, q.2.2.1, q.2.2.2)] = R1.take (i + 1) := (take_snoc hq).symm
      rw [em] at s2
      exact ih (i + 1) h2 (by omega) (hf.tr hf2) s2
  refine ev_Route_copyFrom a0 a1 h Q ⟨s0.1, ?_⟩
  exact loop R1.length 0 _ (by omega) (fi.si (by omega) (by omega)) s0.clr
def rtO (n : Int) (R : List RtStop) : Prop := ∀ q ∈ R, q.2.1 < n ∧ (-500 ≤ q.2.2.2 ∧ q.2.2.2 ≤ 1500)
theorem s_Route_findFault {h : am_H} {a r : Nat} {R : List RtStop} {n : Int} {Q : Int32 → am_H → Prop} (s : rtA h a r R) (hn : 0 ≤ n ∧ n ≤ 1000) (k1 : rtO n R → Q 0 h) (k0 : ¬ rtO n R → Q 10 h) : am_Ei m_Route_findFault 0 0 [.ref a, .int (ji n)] h Q := by
  have hl := s.len
  have loop : ∀ (m i : Nat), i + m = R.length → (∀ q ∈ R.take i, q.2.1 < n ∧ (-500 ≤ q.2.2.2 ∧ q.2.2.2 ≤ 1500)) → am_EI m_Route_findFault 0 0 2 [.ref a, .int (ji n), .int (ji i)] [] h (am_qi Q) := by
    intro m
    induction m with
    | zero =>
      intro i hi ho
      refine sg_Route_findFault_2 a (ji n) (ji i) h _ ⟨s.1, ?_⟩
      rw [s.cnt.2, ji_le]
      refine ⟨fun _ => k1 ?_, fun c => absurd (by omega) c⟩
      rw [List.take_of_length_le (by omega)] at ho
      exact ho
    | succ m ih =>
      intro i hi ho
      obtain ⟨q, hq⟩ : ∃ q, R[i]? = some q := ⟨_, List.getElem?_eq_getElem (by omega)⟩
      obtain ⟨b1, b2, b3, b4⟩ := (s.row hq).2.2.2.2
      refine sg_Route_findFault_2 a (ji n) (ji i) h _ ⟨s.1, ?_⟩
      rw [s.cnt.2, ji_le]
      refine ⟨fun c => absurd c (by omega), fun _ => s_Route_sillNumberOf s (by omega) ?_⟩
      rw [rtG_at hq, ji_le]
      refine ⟨fun c => k0 (fun o => by have := (o q (List.mem_of_getElem? hq)).1; omega), fun c => ⟨s.1, s_Route_levelOf s (by omega) ?_⟩⟩
      rw [rtG_at hq]
      refine s_Port_isHeight (by omega) ?_
      rw [bi_0, decide_eq_false_iff_not]
      refine ⟨fun c2 => ?_, fun c2 => k0 (fun o => c2 (o q (List.mem_of_getElem? hq)).2)⟩
      rw [jk1, ji_add]
      refine ih (i + 1) (by omega) (fun p hp => ?_)
      rw [take_snoc hq] at hp
      rcases List.mem_append.mp hp with c3 | c3
      · exact ho p c3
      · simp at c3
        subst c3
        exact ⟨by omega, Classical.not_not.mp c2⟩
  refine ev_Route_findFault a (ji n) h Q ?_
  rw [jk0]
  exact loop R.length 0 (by omega) (fun q hq => by simp at hq)
def stR (T : List Int) (m : Int) (s : Nat × Bool) : RtStop × (Nat × Bool) := if dM T 33 (aN T s) then ((m, vN T s, 1, 0), aM T 33 (aN T s)) else if dM T 126 (aN T s) then ((m, vN T s, 2, vS T (aM T 126 (aN T s))), aS T (aM T 126 (aN T s))) else ((m, vN T s, 0, 0), aN T s)
theorem bi_j (b : Bool) : bi b = ji 0 ↔ b = false := bi_0 b
theorem jk33 : (33 : Int32) = ji 33 := rfl
theorem s_Route_readStop {h : am_H} {a b r : Nat} {T : List Int} {s : Nat × Bool} {R : List RtStop} {m : Int} {Q : am_H → Prop} (d : rtA h a r R) (t : tpA h b T s) (hd : a + 6 ≤ b ∨ b + 2 ≤ a) (hm : 0 ≤ m ∧ m ≤ 9999) (hn : R.length < r) (k : ∀ h', fr h h' b a (a + 6) → rtA h' a r (R ++ [(stR T m s).1]) → tpA h' b T (stR T m s).2 → Q h') : am_Ew m_Route_readStop 0 0 [.ref a, .ref b, .int (ji m)] h Q := by
  refine ev_Route_readStop a b (ji m) h Q ⟨t.1.1, s_Tape_wantNumber t (fun h1 f1 t1 b1 => ⟨t1.1.1, ?_⟩)⟩
  rw [jk33, jk126, jk0, jk1, jk2]
  refine s_Tape_takeMark t1 (by decide) (fun h2 f2 t2 => ?_)
  rw [bi_j]
  unfold stR at k
  refine ⟨fun c1 => ⟨t2.1.1, ?_⟩, fun c1 => ?_⟩
  · rw [c1] at k
    rw [aM, c1] at t2
    refine s_Tape_takeMark t2 (by decide) (fun h3 f3 t3 => ?_)
    rw [bi_j]
    refine ⟨fun c2 => ?_, fun c2 => ⟨t3.1.1, ?_⟩⟩
    · have c2' : dM T 126 (aN T s) = false := c2
      rw [c2'] at k
      rw [aM, c2] at t3
      have d3 := d.kept ((f1.tr f2).tr f3) (by omega)
      refine ⟨d3.1, ?_⟩
      exact s_Route_add d3 ⟨hm, b1, by simp, by simp⟩ hn (fun h4 f4 d4 => k h4 ((fr.of1 ((f1.tr f2).tr f3)).tr (fr.of2 f4)) d4 (t3.kept f4 (by omega)))
    · have c2' : dM T 126 (aN T s) = true := by cases e : dM T 126 (aN T s); exact absurd e c2; rfl
      rw [c2'] at k
      refine s_Tape_wantSize t3 (fun h4 f4 t4 b4 => ?_)
      have d4 := d.kept (((f1.tr f2).tr f3).tr f4) (by omega)
      refine ⟨d4.1, s_Route_add d4 ⟨hm, b1, by simp, b4⟩ hn (fun h5 f5 d5 => k h5 ((fr.of1 (((f1.tr f2).tr f3).tr f4)).tr (fr.of2 f5)) d5 (t4.kept f5 (by omega)))⟩
  · have c1' : dM T 33 (aN T s) = true := by cases e : dM T 33 (aN T s); exact absurd e c1; rfl
    rw [c1'] at k
    have d2 := d.kept (f1.tr f2) (by omega)
    exact ⟨d2.1, s_Route_add d2 ⟨hm, b1, by simp, by simp⟩ hn (fun h4 f4 d4 => k h4 ((fr.of1 (f1.tr f2)).tr (fr.of2 f4)) d4 (t2.kept f4 (by omega)))⟩
/-- the stops of a route on the tape -/
def rdR (T : List Int) : Nat → Int → Nat × Bool → List RtStop × (Nat × Bool)
  | 0, _, s => ([], s)
  | n + 1, m, s => if n = 0 then ([(stR T m s).1], (stR T m s).2) else if dM T 47 (stR T m s).2 then ((stR T m s).1 :: (rdR T n (vN T (aM T 47 (stR T m s).2)) (aN T (aM T 47 (stR T m s).2))).1, (rdR T n (vN T (aM T 47 (stR T m s).2)) (aN T (aM T 47 (stR T m s).2))).2) else ([(stR T m s).1], (stR T m s).2)
theorem s_Route_readFrom {h : am_H} {a b : Nat} {T : List Int} {s : Nat × Bool} {R : List RtStop} {Q : am_H → Prop} (d : rtA h a 32 R) (t : tpA h b T s) (hd : a + 6 ≤ b ∨ b + 2 ≤ a) (k : ∀ h', fr h h' b a (a + 6) → rtA h' a 32 (rdR T 32 0 s).1 → tpA h' b T (rdR T 32 0 s).2 → Q h') : am_Ew m_Route_readFrom 0 0 [.ref a, .ref b] h Q := by
  have loop : ∀ (n : Nat) (h1 : am_H) (R1 : List RtStop) (m : Int) (s1 : Nat × Bool), R1.length + n = 31 → fr h h1 b a (a + 6) → rtA h1 a 32 (R1 ++ [(stR T m s1).1]) → tpA h1 b T (stR T m s1).2 → R1 ++ (rdR T (n + 1) m s1).1 = (rdR T 32 0 s).1 → (rdR T (n + 1) m s1).2 = (rdR T 32 0 s).2 → am_EI m_Route_readFrom 0 0 13 [.ref a, .ref b, .int (ji ((R1.length + 1 : Nat) : Int))] [] h1 (am_qw Q) := by
    intro n
    induction n with
    | zero =>
      intro h1 R1 m s1 hn f1 d1 t1 e1 e2
      refine sg_Route_readFrom_13 a b _ h1 _ ⟨d1.1, ?_⟩
      rw [d1.cnt.1, ji_le]
      refine ⟨fun _ => ?_, fun c => absurd (by omega) c⟩
      rw [rdR, if_pos rfl] at e1 e2
      rw [← e1, ← e2] at k
      exact k h1 f1 d1 t1
    | succ n ih =>
      intro h1 R1 m s1 hn f1 d1 t1 e1 e2
      have hl : (R1 ++ [(stR T m s1).1]).length = R1.length + 1 := by simp
      rw [rdR, if_neg (by omega)] at e1 e2
      refine sg_Route_readFrom_13 a b _ h1 _ ⟨d1.1, ?_⟩
      rw [d1.cnt.1, ji_le, jk47, jk1, ji_add]
      refine ⟨fun c => absurd c (by omega), fun _ => ⟨t1.1.1, s_Tape_takeMark t1 (by decide) (fun h2 f2 t2 => ?_)⟩⟩
      rw [bi_0]
      refine ⟨fun c => ?_, fun c => ⟨t2.1.1, s_Tape_wantNumber t2 (fun h3 f3 t3 b3 => ?_)⟩⟩
      · rw [if_neg (by simp [c])] at e1 e2
        rw [← e1, ← e2] at k
        rw [aM, c] at t2
        exact k h2 (f1.tr (fr.of1 f2)) (d1.kept f2 (by omega)) t2
      · have e : dM T 47 (stR T m s1).2 = true := by cases e : dM T 47 (stR T m s1).2; exact absurd e c; rfl
        rw [if_pos e] at e1 e2
        have d3 := d1.kept (f2.tr f3) (by omega)
        refine ⟨d3.1, s_Route_readStop d3 t3 hd b3 (by omega) (fun h4 f4 d4 t4 => ?_)⟩
        have g := ih h4 (R1 ++ [(stR T m s1).1]) (vN T (aM T 47 (stR T m s1).2)) (aN T (aM T 47 (stR T m s1).2)) (by omega) ((f1.tr (fr.of1 (f2.tr f3))).tr f4) d4 t4 (by rw [← e1]; simp) e2
        rw [hl, show ((R1.length + 1 + 1 : Nat) : Int) = ((R1.length + 1 : Nat) : Int) + 1 by omega] at g
        exact g
  refine ev_Route_readFrom a b h Q ⟨d.1, ?_⟩
  have hf : fi h (am_si h a 6 0) a (a + 1) := fi.si (by omega) (by omega)
  have t0 := t.kept hf (by omega)
  have d0 := d.clr
  rw [jk0]
  refine s_Route_readStop (m := 0) d0 t0 hd (by decide) (by simp) (fun h1 f1 d1 t1 => ?_)
  exact loop 31 h1 [] 0 s rfl ((fr.of2 (hf.wd (by omega) (by omega))).tr f1) d1 t1 rfl rfl
