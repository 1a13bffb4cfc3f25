/-! spans of the class: a list of pairs -/
def spA (h : am_H) (a r : Nat) (l : List (Int × Int)) : Prop :=
  am_tg h a = (8, 4) ∧ am_tg h (a + 1) = (20, r) ∧ am_tg h (a + 2) = (20, r) ∧ am_P h a 1 = some (a + 1) ∧ am_P h a 2 = some (a + 2) ∧ am_I h a 0 = ji r ∧ am_I h a 3 = ji l.length ∧ l.length ≤ r ∧ r ≤ 1000 ∧
  ∀ (i : Nat) (q : Int × Int), l[i]? = some q → am_I h (a + 1) i = ji q.1 ∧ am_I h (a + 2) i = ji q.2 ∧ (-3000000 ≤ q.1 ∧ q.1 ≤ 3000000) ∧ (-3000000 ≤ q.2 ∧ q.2 ≤ 3000000)
/-- nothing but ints of the cells lo .. hi - 1 has changed -/
def fi (h h' : am_H) (lo hi : Nat) : Prop := am_sz h' = am_sz h ∧ am_tg h' = am_tg h ∧ am_P h' = am_P h ∧ ∀ b, (b < lo ∨ hi ≤ b) → am_I h' b = am_I h b
theorem fi.rf {h : am_H} {lo hi : Nat} : fi h h lo hi := ⟨rfl, rfl, rfl, fun _ _ => rfl⟩
theorem fi.tr {h h1 h2 : am_H} {lo hi : Nat} (a : fi h h1 lo hi) (b : fi h1 h2 lo hi) : fi h h2 lo hi := ⟨b.1.trans a.1, b.2.1.trans a.2.1, b.2.2.1.trans a.2.2.1, fun c hc => (b.2.2.2 c hc).trans (a.2.2.2 c hc)⟩
theorem fi.wd {h h1 : am_H} {lo hi lo' hi' : Nat} (a : fi h h1 lo hi) (h1' : lo' ≤ lo) (h2' : hi ≤ hi') : fi h h1 lo' hi' := ⟨a.1, a.2.1, a.2.2.1, fun c hc => a.2.2.2 c (by omega)⟩
theorem fi.si {h : am_H} {a k : Nat} {v : Int32} {lo hi : Nat} (h1 : lo ≤ a) (h2 : a < hi) : fi h (am_si h a k v) lo hi := ⟨rfl, rfl, rfl, fun b hb => am_I_sin (by omega)⟩
theorem spA.kept {h h' : am_H} {a r lo hi : Nat} {l : List (Int × Int)} (s : spA h a r l) (f : fi h h' lo hi) (hd : a + 3 ≤ lo ∨ hi ≤ a) : spA h' a r l := by
  obtain ⟨f1, f2, f3, f4⟩ := f
  unfold spA
  rw [f2, f3, f4 a (by omega), f4 (a + 1) (by omega), f4 (a + 2) (by omega)]
  exact s
def spNone : Int := -2147483648
def spF (l : List (Int × Int)) (i : Int) : Int := if 0 ≤ i then (match l[i.toNat]? with | some q => q.1 | none => spNone) else spNone
def spL (l : List (Int × Int)) (i : Int) : Int := if 0 ≤ i then (match l[i.toNat]? with | some q => q.2 | none => spNone) else spNone
theorem ji_none : (-2147483648 : Int32) = ji spNone := rfl
theorem s_Spans_size {h : am_H} {a r : Nat} {l : List (Int × Int)} {Q : Int32 → am_H → Prop} (s : spA h a r l) (k : Q (ji l.length) h) : am_Ei m_Spans_size 0 0 [.ref a] h Q := by
  obtain ⟨s1, s2, s3, s4, s5, s6, s7, s8, s9, s10⟩ := s
  refine ev_Spans_size a h Q ⟨s1, ?_⟩
  rw [s7]
  exact k
theorem s_Spans_firstOf {h : am_H} {a r : Nat} {l : List (Int × Int)} {i : Int} {Q : Int32 → am_H → Prop} (s : spA h a r l) (hi : -2147483648 ≤ i ∧ i < 2147483648) (k : Q (ji (spF l i)) h) : am_Ei m_Spans_firstOf 0 0 [.ref a, .int (ji i)] h Q := by
  obtain ⟨s1, s2, s3, s4, s5, s6, s7, s8, s9, s10⟩ := s
  refine ev_Spans_firstOf a (ji i) h Q ?_
  rw [s7, s6, jk0, ji_lt, ji_le, ji_le, ji_none]
  by_cases c1 : i < 0
  · have e : spF l i = spNone := if_neg (by omega)
    rw [e] at k
    exact ⟨fun _ => k, fun q => absurd c1 q⟩
  · refine ⟨fun q => absurd q c1, fun _ => ⟨s1, fun c2 => ?_, fun c2 => ⟨fun c3 => ?_, fun _ => ⟨a + 1, s4, ?_⟩⟩⟩⟩
    · have e : spF l i = spNone := by
        unfold spF
        rw [if_pos (by omega), List.getElem?_eq_none (by omega)]
      rw [e] at k
      exact k
    · omega
    · rw [s2]
      refine ⟨rfl, (ji_in).mpr (by omega), ?_⟩
      have hl : i.toNat < l.length := by omega
      have hq := List.getElem?_eq_getElem hl
      rw [ji_tn, (s10 _ _ hq).1]
      have e : spF l i = l[i.toNat].1 := by
        unfold spF
        rw [if_pos (by omega), hq]
      rw [e] at k
      exact k
theorem s_Spans_lastOf {h : am_H} {a r : Nat} {l : List (Int × Int)} {i : Int} {Q : Int32 → am_H → Prop} (s : spA h a r l) (hi : -2147483648 ≤ i ∧ i < 2147483648) (k : Q (ji (spL l i)) h) : am_Ei m_Spans_lastOf 0 0 [.ref a, .int (ji i)] h Q := by
  obtain ⟨s1, s2, s3, s4, s5, s6, s7, s8, s9, s10⟩ := s
  refine ev_Spans_lastOf a (ji i) h Q ?_
  rw [s7, s6, jk0, ji_lt, ji_le, ji_le, ji_none]
  by_cases c1 : i < 0
  · have e : spL l i = spNone := if_neg (by omega)
    rw [e] at k
    exact ⟨fun _ => k, fun q => absurd c1 q⟩
  · refine ⟨fun q => absurd q c1, fun _ => ⟨s1, fun c2 => ?_, fun c2 => ⟨fun c3 => ?_, fun _ => ⟨a + 2, s5, ?_⟩⟩⟩⟩
    · have e : spL l i = spNone := by
        unfold spL
        rw [if_pos (by omega), List.getElem?_eq_none (by omega)]
      rw [e] at k
      exact k
    · omega
    · rw [s3]
      refine ⟨rfl, (ji_in).mpr (by omega), ?_⟩
      have hl : i.toNat < l.length := by omega
      have hq := List.getElem?_eq_getElem hl
      rw [ji_tn, (s10 _ _ hq).2.1]
      have e : spL l i = l[i.toNat].2 := by
        unfold spL
        rw [if_pos (by omega), hq]
      rw [e] at k
      exact k
theorem s_Spans_clear {h : am_H} {a r : Nat} {l : List (Int × Int)} {Q : am_H → Prop} (s : spA h a r l) (k : ∀ h', fi h h' a (a + 3) → spA h' a r [] → Q h') : am_Ew m_Spans_clear 0 0 [.ref a] h Q := by
  obtain ⟨s1, s2, s3, s4, s5, s6, s7, s8, s9, s10⟩ := s
  refine ev_Spans_clear a h Q ⟨s1, k _ (fi.si (by omega) (by omega)) ?_⟩
  refine ⟨s1, s2, s3, s4, s5, ?_, ?_, by simp, s9, fun i q hq => by simp at hq⟩
  · rw [am_I_sis, va_up_no _ _ (by decide)]
    exact s6
  · rw [am_I_sis, va_up_at]
    rfl
def spAdd (l : List (Int × Int)) (x y : Int) : List (Int × Int) :=
  if y < x then l else match l.getLast? with
    | some q => if x ≤ q.2 + 1 then l.dropLast ++ [(q.1, if q.2 < y then y else q.2)] else l ++ [(x, y)]
    | none => [(x, y)]
theorem sp_push {h : am_H} {a r : Nat} {l : List (Int × Int)} {x y : Int} (s : spA h a r l) (hx : -3000000 ≤ x ∧ x ≤ 3000000) (hy : -3000000 ≤ y ∧ y ≤ 3000000) (hn : l.length < r) : spA (am_si (am_si (am_si h (a + 1) l.length (ji x)) (a + 2) l.length (ji y)) a 3 (ji (l.length + 1))) a r (l ++ [(x, y)]) := by
  obtain ⟨s1, s2, s3, s4, s5, s6, s7, s8, s9, s10⟩ := s
  refine ⟨s1, s2, s3, s4, s5, ?_, ?_, by simp; omega, s9, fun i q hq => ?_⟩
  · rw [am_I_sis, va_up_no _ _ (by decide), am_I_sin (by omega), am_I_sin (by omega)]
    exact s6
  · rw [am_I_sis, va_up_at]
    simp
  · rw [am_I_sin (by omega), am_I_sin (by omega), am_I_sis, am_I_sin (by omega), am_I_sis, am_I_sin (by omega)]
    by_cases e : i = l.length
    · subst e
      rw [List.getElem?_append_right (by omega)] at hq
      simp at hq
      subst hq
      rw [va_up_at, va_up_at]
      exact ⟨rfl, rfl, hx, hy⟩
    · have hi : i < l.length := by
        have := (List.getElem?_eq_some_iff.mp hq).1
        simp at this
        omega
      rw [List.getElem?_append_left hi] at hq
      rw [va_up_no _ _ e, va_up_no _ _ e]
      exact s10 i q hq
theorem sp_last {h : am_H} {a r : Nat} {l : List (Int × Int)} {q : Int × Int} {y : Int} (s : spA h a r l) (hq : l.getLast? = some q) (hy : -3000000 ≤ y ∧ y ≤ 3000000) : spA (am_si h (a + 2) (l.length - 1) (ji y)) a r (l.dropLast ++ [(q.1, y)]) := by
  obtain ⟨s1, s2, s3, s4, s5, s6, s7, s8, s9, s10⟩ := s
  have hne : l ≠ [] := by rintro rfl; simp at hq
  have hlen : 0 < l.length := List.length_pos_iff.mpr hne
  have hl : l[l.length - 1]? = some q := by rw [← List.getLast?_eq_getElem?]; exact hq
  refine ⟨s1, s2, s3, s4, s5, ?_, ?_, by simp; omega, s9, fun i p hp => ?_⟩
  · rw [am_I_sin (by omega)]
    exact s6
  · rw [am_I_sin (by omega), s7]
    congr 1
    simp
    omega
  · rw [am_I_sin (by omega), am_I_sis]
    by_cases e : i = l.length - 1
    · subst e
      rw [List.getElem?_append_right (by simp)] at hp
      simp at hp
      subst hp
      rw [va_up_at]
      obtain ⟨t1, t2, t3, t4⟩ := s10 _ _ hl
      exact ⟨t1, rfl, t3, hy⟩
    · have hi : i < l.length - 1 := by
        have := (List.getElem?_eq_some_iff.mp hp).1
        simp at this
        omega
      rw [List.getElem?_append_left (by simp; omega), List.getElem?_dropLast, if_pos hi] at hp
      rw [va_up_no _ _ e]
      exact s10 i p hp
theorem s_Math_max {x y : Int} {h : am_H} {Q : Int32 → am_H → Prop} (hx : -2147483648 ≤ x ∧ x < 2147483648) (hy : -2147483648 ≤ y ∧ y < 2147483648) (k : Q (ji (if x < y then y else x)) h) : am_Ei m_Math_max 0 0 [.int (ji x), .int (ji y)] h Q := by
  refine ev_Math_max _ _ h Q ?_
  rw [ji_lt]
  by_cases c : x < y
  · rw [if_pos c] at k
    exact ⟨fun _ => k, fun q => absurd c q⟩
  · rw [if_neg c] at k
    exact ⟨fun q => absurd q c, fun _ => k⟩
theorem s_Math_min {x y : Int} {h : am_H} {Q : Int32 → am_H → Prop} (hx : -2147483648 ≤ x ∧ x < 2147483648) (hy : -2147483648 ≤ y ∧ y < 2147483648) (k : Q (ji (if y < x then y else x)) h) : am_Ei m_Math_min 0 0 [.int (ji x), .int (ji y)] h Q := by
  refine ev_Math_min _ _ h Q ?_
  rw [ji_lt]
  by_cases c : y < x
  · rw [if_pos c] at k
    exact ⟨fun _ => k, fun q => absurd c q⟩
  · rw [if_neg c] at k
    exact ⟨fun q => absurd q c, fun _ => k⟩
theorem s_Spans_add {h : am_H} {a r : Nat} {l : List (Int × Int)} {x y : Int} {Q : am_H → Prop} (s : spA h a r l) (hx : -3000000 ≤ x ∧ x ≤ 3000000) (hy : -3000000 ≤ y ∧ y ≤ 3000000) (hr : (spAdd l x y).length ≤ r) (k : ∀ h', fi h h' a (a + 3) → spA h' a r (spAdd l x y) → Q h') : am_Ew m_Spans_add 0 0 [.ref a, .int (ji x), .int (ji y)] h Q := by
  obtain ⟨s1, s2, s3, s4, s5, s6, s7, s8, s9, s10⟩ := id s
  have e1 : ∀ k v, am_I (am_si h (a + 1) k v) a = am_I h a := fun k v => am_I_sin (by omega)
  have e2 : ∀ k v k' v', am_I (am_si (am_si h (a + 1) k v) (a + 2) k' v') a = am_I h a := fun k v k' v' => by rw [am_I_sin (by omega), am_I_sin (by omega)]
  have push : spAdd l x y = l ++ [(x, y)] → l.length < r → Q (am_si (am_si (am_si h (a + 1) l.length (ji x)) (a + 2) l.length (ji y)) a 3 (ji l.length + 1)) := by
    intro e hn
    rw [jk1, ji_add]
    refine k _ (((fi.si (by omega) (by omega)).tr (fi.si (by omega) (by omega))).tr (fi.si (by omega) (by omega))) ?_
    rw [e]
    exact sp_push s hx hy hn
  have tn : (ji (l.length : Int)).toNatClampNeg = l.length := by rw [ji_tn]; omega
  have neg : ¬ x ≤ y → Q h := fun c => by
    have e : spAdd l x y = l := if_pos (by omega)
    rw [e] at k
    exact k h fi.rf s
  refine ev_Spans_add a (ji x) (ji y) h Q ?_
  rw [ji_le]
  refine ⟨fun c => ⟨s1, ?_⟩, neg⟩
  have low : l.length ≤ 0 → spAdd l x y = l ++ [(x, y)] := by
    intro e
    have e0 : l = [] := List.length_eq_zero_iff.mp (by omega)
    subst e0
    unfold spAdd
    rw [if_neg (by omega)]
    rfl
  have tn1 : ¬ (l.length : Int) ≤ 0 → (ji (l.length : Int) - ji 1).toNatClampNeg = l.length - 1 := by
    intro e
    rw [ji_sub, ji_tn]
    omega
  have full : spAdd l x y = l ++ [(x, y)] → l.length < r := by
    intro e
    rw [e] at hr
    simp at hr
    omega
  simp only [s7, s6, jk0, jk1, ji_le (a := (l.length : Int)) (b := 0), ji_lt (a := (l.length : Int)) (b := 0), ji_lt (a := (r : Int)) (b := l.length), ji_le (a := (r : Int)) (b := l.length)]
  refine ⟨fun c1 => ⟨fun c2 => by omega, fun _ => ⟨fun c3 => ?_, fun c3 => ⟨a + 1, s4, by rw [s2], ?_, a + 2, s5, by rw [s3], ?_, ?_⟩⟩⟩, fun c1 => ⟨fun c2 => by omega, fun _ => ⟨a + 2, s5, by rw [s3], ?_, ?_⟩⟩⟩
  · have := full (low (by omega))
    omega
  · rw [s2]
    exact (ji_in).mpr (by omega)
  · rw [e1, s7, s3]
    exact (ji_in).mpr (by omega)
  · rw [e1, s7, tn, e2, s7]
    exact push (low (by omega)) (full (low (by omega)))
  · rw [s3, ji_sub]
    exact (ji_in).mpr (by omega)
  · have hne : l ≠ [] := by rintro rfl; simp at c1
    obtain ⟨q, hq⟩ : ∃ q, l.getLast? = some q := by
      cases h0 : l.getLast? with
      | none => exact absurd (List.getLast?_eq_none_iff.mp h0) hne
      | some q => exact ⟨q, rfl⟩
    have hq2 : l[l.length - 1]? = some q := by rw [← List.getLast?_eq_getElem?]; exact hq
    obtain ⟨t1, t2, t3, t4⟩ := s10 _ _ hq2
    rw [tn1 c1, t2, ji_add, ji_lt]
    have e : spAdd l x y = if x ≤ q.2 + 1 then l.dropLast ++ [(q.1, if q.2 < y then y else q.2)] else l ++ [(x, y)] := by
      unfold spAdd
      rw [if_neg (by omega), hq]
    refine ⟨fun c3 => ⟨fun c4 => by omega, fun _ => ⟨fun c5 => ?_, fun c5 => ⟨a + 1, s4, by rw [s2], ?_, ?_, ?_⟩⟩⟩, fun c3 => ?_⟩
    · rw [if_neg (by omega)] at e
      have := full e
      omega
    · rw [s2]
      exact (ji_in).mpr (by omega)
    · rw [e1, s7, s3]
      exact (ji_in).mpr (by omega)
    · rw [if_neg (by omega)] at e
      rw [e1, s7, tn, e2, s7]
      exact push e (full e)
    · rw [if_pos (by omega)] at e
      refine s_Math_max (by omega) (by omega) ⟨by rw [s3], ?_, ?_⟩
      · rw [s3, ji_sub]
        exact (ji_in).mpr (by omega)
      · rw [e] at k
        exact k _ (fi.si (by omega) (by omega)) (sp_last s hq (by split <;> omega))
