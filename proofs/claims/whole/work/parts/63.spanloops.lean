/-! the loops of Spans -/
theorem spA.len {h : am_H} {a r : Nat} {l : List (Int × Int)} (s : spA h a r l) : l.length ≤ r ∧ r ≤ 1000 := ⟨s.2.2.2.2.2.2.2.1, s.2.2.2.2.2.2.2.2.1⟩
theorem spA.bd {h : am_H} {a r : Nat} {l : List (Int × Int)} (s : spA h a r l) : ∀ q ∈ l, (-3000000 ≤ q.1 ∧ q.1 ≤ 3000000) ∧ (-3000000 ≤ q.2 ∧ q.2 ≤ 3000000) := by
  intro q hq
  obtain ⟨i, hi⟩ := List.getElem?_of_mem hq
  exact (s.2.2.2.2.2.2.2.2.2 i q hi).2.2
theorem spF_at {l : List (Int × Int)} {i : Nat} {q : Int × Int} (h : l[i]? = some q) : spF l (i : Int) = q.1 := by
  unfold spF
  rw [if_pos (by omega), Int.toNat_natCast, h]
theorem spL_at {l : List (Int × Int)} {i : Nat} {q : Int × Int} (h : l[i]? = some q) : spL l (i : Int) = q.2 := by
  unfold spL
  rw [if_pos (by omega), Int.toNat_natCast, h]
def spSh (d : Int) (q : Int × Int) : Int × Int := (q.1 + d, q.2 + d)
theorem spAdd_snoc {l : List (Int × Int)} {x y : Int} (h : spOk (l ++ [(x, y)])) : spAdd l x y = l ++ [(x, y)] := by
  obtain ⟨h1, h2, h3⟩ := spOk_split h
  have h2 : x ≤ y := h2
  unfold spAdd
  rw [if_neg (by omega)]
  cases hq : l.getLast? with
  | none =>
    have := List.getLast?_eq_none_iff.mp hq
    subst this
    rfl
  | some q =>
    dsimp only
    have hm : q ∈ l := List.mem_of_getLast? hq
    have : q.2 + 1 < x := h3 q hm
    rw [if_neg (by omega)]
theorem spOk_sh {l : List (Int × Int)} {d : Int} (h : spOk l) : spOk (l.map (spSh d)) := by
  refine ⟨?_, fun q hq => ?_⟩
  · rw [List.pairwise_map]
    refine h.1.imp ?_
    intro p q hpq
    show p.2 + d + 1 < q.1 + d
    omega
  · obtain ⟨p, hp, rfl⟩ := List.mem_map.mp hq
    have := h.2 p hp
    show p.1 + d ≤ p.2 + d
    omega
theorem spM_sh {l : List (Int × Int)} {d t : Int} : spM (l.map (spSh d)) t ↔ spM l (t - d) := by
  constructor
  · rintro ⟨q, hq, h1, h2⟩
    obtain ⟨p, hp, rfl⟩ := List.mem_map.mp hq
    have h1 : p.1 + d ≤ t := h1
    have h2 : t ≤ p.2 + d := h2
    exact ⟨p, hp, by omega, by omega⟩
  · rintro ⟨p, hp, h1, h2⟩
    exact ⟨spSh d p, List.mem_map.mpr ⟨p, hp, rfl⟩, show p.1 + d ≤ t by omega, show t ≤ p.2 + d by omega⟩
theorem spOk_take {l : List (Int × Int)} (h : spOk l) (i : Nat) : spOk (l.take i) := ⟨h.1.sublist (List.take_sublist i l), fun q hq => h.2 q (List.mem_of_mem_take hq)⟩
theorem spOk_drop {l : List (Int × Int)} (h : spOk l) (i : Nat) : spOk (l.drop i) := ⟨h.1.sublist (List.drop_sublist i l), fun q hq => h.2 q (List.mem_of_mem_drop hq)⟩
theorem take_snoc {α : Type} {l : List α} {i : Nat} {q : α} (h : l[i]? = some q) : l.take (i + 1) = l.take i ++ [q] := by
  obtain ⟨hl, he⟩ := List.getElem?_eq_some_iff.mp h
  rw [List.take_add_one, h]
  rfl
theorem drop_cons {α : Type} {l : List α} {i : Nat} {q : α} (h : l[i]? = some q) : l.drop i = q :: l.drop (i + 1) := by
  obtain ⟨hl, he⟩ := List.getElem?_eq_some_iff.mp h
  rw [List.drop_eq_getElem_cons hl, he]
theorem s_Spans_copyShifted {h : am_H} {a0 a1 r0 r1 : Nat} {l0 l1 : List (Int × Int)} {d : Int} {Q : am_H → Prop} (s0 : spA h a0 r0 l0) (s1 : spA h a1 r1 l1) (hd : a0 + 3 ≤ a1 ∨ a1 + 3 ≤ a0) (ok : spOk l1) (hb : ∀ q ∈ l1, -3000000 ≤ q.1 + d ∧ q.2 + d ≤ 3000000) (hd2 : -3000000 ≤ d ∧ d ≤ 3000000) (hr : l1.length ≤ r0) (k : ∀ h', fi h h' a0 (a0 + 3) → spA h' a0 r0 (l1.map (spSh d)) → Q h') : am_Ew m_Spans_copyShifted 0 0 [.ref a0, .ref a1, .int (ji d)] h Q := by
  have hlen := s1.len
  have loop : ∀ (n i : Nat) (h1 : am_H), i + n = l1.length → fi h h1 a0 (a0 + 3) → spA h1 a0 r0 ((l1.take i).map (spSh d)) → am_EI m_Spans_copyShifted 0 0 7 [.ref a0, .ref a1, .int (ji d), .int (ji i)] [] h1 (am_qw Q) := by
    intro n
    induction n with
    | zero =>
      intro i h1 hi hf s
      have s1' := s1.kept hf (by omega)
      refine sg_Spans_copyShifted_7 a0 a1 (ji d) (ji i) h1 _ ⟨s1'.1, s_Spans_size s1' ?_⟩
      rw [ji_le]
      refine ⟨fun _ => ?_, fun c => absurd (by omega) c⟩
      rw [show l1.take i = l1 from List.take_of_length_le (by omega)] at s
      exact k h1 hf s
    | succ n ih =>
      intro i h1 hi hf s
      have s1' := s1.kept hf (by omega)
      refine sg_Spans_copyShifted_7 a0 a1 (ji d) (ji i) h1 _ ⟨s1'.1, s_Spans_size s1' ?_⟩
      rw [ji_le]
      refine ⟨fun c => absurd c (by omega), fun _ => ⟨s1'.1, ?_⟩⟩
      obtain ⟨q, hq⟩ : ∃ q, l1[i]? = some q := ⟨_, List.getElem?_eq_getElem (by omega)⟩
      have hm := List.mem_of_getElem? hq
      have bq := s1.bd q hm
      have bq2 := hb q hm
      have oq := ok.2 q hm
      refine s_Spans_firstOf s1' (by omega) ⟨s1'.1, s_Spans_lastOf s1' (by omega) ⟨s.1, ?_⟩⟩
      rw [spF_at hq, spL_at hq, ji_add, ji_add]
      have hsn : spOk ((l1.take i).map (spSh d) ++ [(q.1 + d, q.2 + d)]) := by
        have := spOk_sh (d := d) (spOk_take ok (i + 1))
        rw [take_snoc hq, List.map_append] at this
        exact this
      have ea := spAdd_snoc hsn
      have em : (l1.take (i + 1)).map (spSh d) = (l1.take i).map (spSh d) ++ [(q.1 + d, q.2 + d)] := by
        rw [take_snoc hq, List.map_append]
        rfl
      refine s_Spans_add s (by omega) (by omega) ?_ (fun h2 hf2 s2 => ?_)
      · rw [ea]
        simp
        omega
      · rw [jk1, ji_add]
        rw [ea, ← em] at s2
        exact ih (i + 1) h2 (by omega) (hf.tr hf2) s2
  refine ev_Spans_copyShifted a0 a1 (ji d) h Q ⟨s0.1, ?_⟩
  have e : am_si h a0 3 0 = am_si h a0 3 (ji (([] : List (Int × Int)).length : Int)) := rfl
  refine loop l1.length 0 _ (by omega) (fi.si (by omega) (by omega)) ?_
  obtain ⟨t1, t2, t3, t4, t5, t6, t7, t8, t9, t10⟩ := s0
  refine ⟨t1, t2, t3, t4, t5, ?_, ?_, by simp, t9, fun i q hq => by simp at hq⟩
  · rw [am_I_sis, va_up_no _ _ (by decide)]
    exact t6
  · rw [am_I_sis, va_up_at]
    rfl
/-- the first number from limit on -/
def spE (l : List (Int × Int)) (t : Int) : Int := match l.find? (fun q => decide (t ≤ q.2)) with
  | some q => if q.1 < t then t else q.1
  | none => spNone
theorem s_Spans_earliestFrom {h : am_H} {a r : Nat} {l : List (Int × Int)} {t : Int} {Q : Int32 → am_H → Prop} (s : spA h a r l) (ht : -2147483648 ≤ t ∧ t < 2147483648) (k : Q (ji (spE l t)) h) : am_Ei m_Spans_earliestFrom 0 0 [.ref a, .int (ji t)] h Q := by
  have hlen := s.len
  have loop : ∀ (n i : Nat), i + n = l.length → spE (l.drop i) t = spE l t → am_EI m_Spans_earliestFrom 0 0 2 [.ref a, .int (ji t), .int (ji i)] [] h (am_qi Q) := by
    intro n
    induction n with
    | zero =>
      intro i hi he
      refine sg_Spans_earliestFrom_2 a (ji t) (ji i) h _ ⟨s.1, ?_⟩
      rw [s.2.2.2.2.2.2.1, ji_le]
      refine ⟨fun _ => ?_, fun c => absurd (by omega) c⟩
      rw [List.drop_eq_nil_of_le (by omega)] at he
      rw [← he] at k
      exact k
    | succ n ih =>
      intro i hi he
      refine sg_Spans_earliestFrom_2 a (ji t) (ji i) h _ ⟨s.1, ?_⟩
      rw [s.2.2.2.2.2.2.1, ji_le]
      refine ⟨fun c => absurd c (by omega), fun _ => ?_⟩
      obtain ⟨q, hq⟩ : ∃ q, l[i]? = some q := ⟨_, List.getElem?_eq_getElem (by omega)⟩
      have bq := s.bd q (List.mem_of_getElem? hq)
      rw [drop_cons hq] at he
      refine s_Spans_lastOf s (by omega) ?_
      rw [spL_at hq, ji_lt]
      refine ⟨fun c => ?_, fun c => ⟨s.1, s_Spans_firstOf s (by omega) ?_⟩⟩
      · rw [jk1, ji_add]
        refine ih (i + 1) (by omega) ?_
        rw [← he]
        unfold spE
        rw [List.find?_cons_of_neg (by simp; omega)]
      · rw [spF_at hq]
        refine s_Math_max (by omega) (by omega) ?_
        have e2 : spE (q :: l.drop (i + 1)) t = if q.1 < t then t else q.1 := by
          unfold spE
          rw [List.find?_cons_of_pos (by simp; omega)]
        rw [← he, e2] at k
        exact k
  exact ev_Spans_earliestFrom a (ji t) h Q (loop l.length 0 (by omega) rfl)
/-- the last number up to limit: over the list's front part -/
def spT (l : List (Int × Int)) (t : Int) : Int := match l.reverse.find? (fun q => decide (q.1 ≤ t)) with
  | some q => if t < q.2 then t else q.2
  | none => spNone
theorem s_Spans_latestUpTo {h : am_H} {a r : Nat} {l : List (Int × Int)} {t : Int} {Q : Int32 → am_H → Prop} (s : spA h a r l) (ht : -2147483648 ≤ t ∧ t < 2147483648) (k : Q (ji (spT l t)) h) : am_Ei m_Spans_latestUpTo 0 0 [.ref a, .int (ji t)] h Q := by
  have hlen := s.len
  have loop : ∀ (i : Nat), i ≤ l.length → spT (l.take i) t = spT l t → am_EI m_Spans_latestUpTo 0 0 7 [.ref a, .int (ji t), .int (ji ((i : Int) - 1))] [] h (am_qi Q) := by
    intro i
    induction i with
    | zero =>
      intro hi he
      refine sg_Spans_latestUpTo_7 a (ji t) _ h _ ?_
      rw [jk0, ji_lt]
      refine ⟨fun _ => ?_, fun c => absurd (by omega) c⟩
      rw [← he] at k
      exact k
    | succ i ih =>
      intro hi he
      refine sg_Spans_latestUpTo_7 a (ji t) _ h _ ?_
      rw [jk0, ji_lt]
      refine ⟨fun c => absurd c (by omega), fun _ => ⟨s.1, ?_⟩⟩
      obtain ⟨q, hq⟩ : ∃ q, l[i]? = some q := ⟨_, List.getElem?_eq_getElem (by omega)⟩
      have bq := s.bd q (List.mem_of_getElem? hq)
      have ei : ((i + 1 : Nat) : Int) - 1 = (i : Int) := by omega
      rw [ei, jm1, ji_add]
      rw [take_snoc hq] at he
      have ec : (l.take i ++ [q]).reverse = q :: (l.take i).reverse := by simp
      refine s_Spans_firstOf s (by omega) ?_
      rw [spF_at hq, ji_lt]
      refine ⟨fun c => ?_, fun c => ⟨s.1, s_Spans_lastOf s (by omega) ?_⟩⟩
      · refine ih (by omega) ?_
        rw [← he]
        unfold spT
        rw [ec, List.find?_cons_of_neg (by simp; omega)]
      · rw [spL_at hq]
        refine s_Math_min (by omega) (by omega) ?_
        have e2 : spT (l.take i ++ [q]) t = if t < q.2 then t else q.2 := by
          unfold spT
          rw [ec, List.find?_cons_of_pos (by simp; omega)]
        rw [← he, e2] at k
        exact k
  refine ev_Spans_latestUpTo a (ji t) h Q ⟨s.1, ?_⟩
  rw [s.2.2.2.2.2.2.1, jk1, ji_sub]
  exact loop l.length (Nat.le_refl _) (by rw [List.take_length])
theorem s_Spans_has {h : am_H} {a r : Nat} {l : List (Int × Int)} {t : Int} {Q : Int32 → am_H → Prop} (s : spA h a r l) (ht : -2147483648 ≤ t ∧ t < 2147483648) (k1 : spM l t → Q 1 h) (k0 : ¬ spM l t → Q 0 h) (ok : spOk l) : am_Ei m_Spans_has 0 0 [.ref a, .int (ji t)] h Q := by
  have hlen := s.len
  refine ev_Spans_has a (ji t) h Q ⟨s.1, ?_⟩
  rw [s.2.2.2.2.2.2.1, jk0, ji_le]
  refine ⟨fun c => k0 ?_, fun c => s_Spans_earliestFrom s ht ?_⟩
  · have : l = [] := List.length_eq_zero_iff.mp (by omega)
    subst this
    exact spM_nil t
  · have key : -2147483648 ≤ spE l t ∧ spE l t < 2147483648 ∧ (spE l t = t ↔ spM l t) := by
      unfold spE
      cases hf : l.find? (fun q => decide (t ≤ q.2)) with
      | none =>
        have hn := List.find?_eq_none.mp hf
        have no : ¬ spM l t := by
          rintro ⟨q, hq, h1, h2⟩
          have := hn q hq
          simp at this
          omega
        refine ⟨show -2147483648 ≤ spNone by decide, show spNone < 2147483648 by decide, fun e => ?_, fun q => absurd q no⟩
        exfalso
        obtain ⟨q, hq⟩ : ∃ q, l[0]? = some q := ⟨_, List.getElem?_eq_getElem (by omega)⟩
        have hm := List.mem_of_getElem? hq
        have bq := s.bd q hm
        have := hn q hm
        simp at this
        have : spNone = t := e
        unfold spNone at this
        omega
      | some q =>
        have hm := List.mem_of_find?_eq_some hf
        have hq := List.find?_some hf
        simp at hq
        have bq := s.bd q hm
        have oq := ok.2 q hm
        dsimp only
        refine ⟨by split <;> omega, by split <;> omega, fun e => ⟨q, hm, ?_, hq⟩, ?_⟩
        · split at e <;> omega
        · rintro ⟨p, hp, h1, h2⟩
          by_cases c2 : q.1 < t
          · rw [if_pos c2]
          · rw [if_neg c2]
            by_cases c3 : q.1 = t
            · exact c3
            · exfalso
              obtain ⟨as, bs, el, hall⟩ := List.find?_eq_some_iff_append.mp hf |>.2
              subst el
              rcases List.mem_append.mp hp with hp | hp
              · have := hall p hp
                simp at this
                omega
              · rcases List.mem_cons.mp hp with rfl | hp
                · omega
                · have hpw := ok.1
                  rw [List.pairwise_append] at hpw
                  have := (List.pairwise_cons.mp hpw.2.1).1 p hp
                  omega
    rw [ji_eq]
    refine ⟨fun c2 => k0 (fun q => c2 (key.2.2.mpr q)), fun c2 => k1 (key.2.2.mp c2)⟩
def spC (l : List (Int × Int)) : Int := (l.map (fun q => q.2 - q.1 + 1)).sum
theorem spC_snoc (l : List (Int × Int)) (q : Int × Int) : spC (l ++ [q]) = spC l + (q.2 - q.1 + 1) := by
  unfold spC
  simp
theorem s_Spans_countAll {h : am_H} {a r : Nat} {l : List (Int × Int)} {Q : Int32 → am_H → Prop} (s : spA h a r l) (k : Q (ji (spC l)) h) : am_Ei m_Spans_countAll 0 0 [.ref a] h Q := by
  have hlen := s.len
  have loop : ∀ (n i : Nat), i + n = l.length → am_EI m_Spans_countAll 0 0 4 [.ref a, .int (ji (spC (l.take i))), .int (ji i)] [] h (am_qi Q) := by
    intro n
    induction n with
    | zero =>
      intro i hi
      refine sg_Spans_countAll_4 a _ (ji i) h _ ⟨s.1, ?_⟩
      rw [s.2.2.2.2.2.2.1, ji_le]
      refine ⟨fun _ => ?_, fun c => absurd (by omega) c⟩
      rw [show l.take i = l from List.take_of_length_le (by omega)]
      exact k
    | succ n ih =>
      intro i hi
      refine sg_Spans_countAll_4 a _ (ji i) h _ ⟨s.1, ?_⟩
      rw [s.2.2.2.2.2.2.1, ji_le]
      refine ⟨fun c => absurd c (by omega), fun _ => ?_⟩
      obtain ⟨q, hq⟩ : ∃ q, l[i]? = some q := ⟨_, List.getElem?_eq_getElem (by omega)⟩
      have bq := s.bd q (List.mem_of_getElem? hq)
      refine s_Spans_lastOf s (by omega) ⟨s.1, s_Spans_firstOf s (by omega) ?_⟩
      rw [spL_at hq, spF_at hq, jk1, ji_sub, ji_add, ji_add, ji_add, ← spC_snoc, ← take_snoc hq]
      exact ih (i + 1) (by omega)
  exact ev_Spans_countAll a h Q (loop l.length 0 (by omega))
