/-! Spans: intersect and unite -/
theorem spI_l {p q : Int × Int} {d e : List (Int × Int)} (h1 : spOk (p :: d)) (h2 : spOk (q :: e)) (c : p.2 < q.2) (t : Int) : (spM (p :: d) t ∧ spM (q :: e) t) ↔ (((if p.1 < q.1 then q.1 else p.1) ≤ t ∧ t ≤ (if q.2 < p.2 then q.2 else p.2)) ∨ (spM d t ∧ spM (q :: e) t)) := by
  obtain ⟨a1, a2, a3⟩ := spOk_cons h1
  obtain ⟨b1, b2, b3⟩ := spOk_cons h2
  have lo : spM e t → q.2 + 1 < t := by
    rintro ⟨x, hx, u, v⟩
    have := b3 x hx
    omega
  rw [spM_cons, spM_cons]
  constructor
  · rintro ⟨u | u, v | v⟩
    · refine Or.inl ⟨?_, ?_⟩ <;> split <;> omega
    · have := lo v
      omega
    · exact Or.inr ⟨u, Or.inl v⟩
    · exact Or.inr ⟨u, Or.inr v⟩
  · rintro (⟨u, v⟩ | ⟨u, v⟩)
    · refine ⟨Or.inl ?_, Or.inl ?_⟩ <;> split at u <;> split at v <;> omega
    · exact ⟨Or.inr u, v⟩
theorem spI_r {p q : Int × Int} {d e : List (Int × Int)} (h1 : spOk (p :: d)) (h2 : spOk (q :: e)) (c : ¬ p.2 < q.2) (t : Int) : (spM (p :: d) t ∧ spM (q :: e) t) ↔ (((if p.1 < q.1 then q.1 else p.1) ≤ t ∧ t ≤ (if q.2 < p.2 then q.2 else p.2)) ∨ (spM (p :: d) t ∧ spM e t)) := by
  obtain ⟨a1, a2, a3⟩ := spOk_cons h1
  obtain ⟨b1, b2, b3⟩ := spOk_cons h2
  have lo : spM d t → p.2 + 1 < t := by
    rintro ⟨x, hx, u, v⟩
    have := a3 x hx
    omega
  rw [spM_cons, spM_cons]
  constructor
  · rintro ⟨u | u, v | v⟩
    · refine Or.inl ⟨?_, ?_⟩ <;> split <;> omega
    · exact Or.inr ⟨Or.inl u, v⟩
    · have := lo u
      omega
    · exact Or.inr ⟨Or.inr u, v⟩
  · rintro (⟨u, v⟩ | ⟨u, v⟩)
    · refine ⟨Or.inl ?_, Or.inl ?_⟩ <;> split at u <;> split at v <;> omega
    · exact ⟨u, Or.inr v⟩
theorem spOk_next {l : List (Int × Int)} (h : spOk l) {i : Nat} {p q : Int × Int} (hp : l[i]? = some p) (hq : l[i + 1]? = some q) : p.2 + 1 < q.1 := by
  have h1 := spOk_drop h i
  rw [drop_cons hp] at h1
  obtain ⟨-, -, h3⟩ := spOk_cons h1
  rw [drop_cons hq] at h3
  exact h3 q (by simp)
theorem s_Spans_intersect {h : am_H} {a0 a1 a2 r0 r1 r2 : Nat} {l0 l1 l2 : List (Int × Int)} {Q : am_H → Prop} (s0 : spA h a0 r0 l0) (s1 : spA h a1 r1 l1) (s2 : spA h a2 r2 l2) (hd1 : a0 + 3 ≤ a1 ∨ a1 + 3 ≤ a0) (hd2 : a0 + 3 ≤ a2 ∨ a2 + 3 ≤ a0) (ok1 : spOk l1) (ok2 : spOk l2) (hr : l1.length + l2.length ≤ r0 + 1)
    (k : ∀ h' l, fi h h' a0 (a0 + 3) → spA h' a0 r0 l → spOk l → (∀ t, spM l t ↔ spM l1 t ∧ spM l2 t) → (l.length = 0 ∨ l.length + 1 ≤ l1.length + l2.length) → Q h') : am_Ew m_Spans_intersect 0 0 [.ref a0, .ref a1, .ref a2] h Q := by
  have hl1 := s1.len
  have hl2 := s2.len
  have loop : ∀ (n i j : Nat) (h1 : am_H) (l : List (Int × Int)), (l1.length - i) + (l2.length - j) = n → i ≤ l1.length → j ≤ l2.length → fi h h1 a0 (a0 + 3) → spA h1 a0 r0 l → spOk l → (∀ t, (spM l1 t ∧ spM l2 t) ↔ (spM l t ∨ (spM (l1.drop i) t ∧ spM (l2.drop j) t))) → (∀ q ∈ l, ∀ p1 p2, l1[i]? = some p1 → l2[j]? = some p2 → q.1 ≤ p1.1 ∨ q.1 ≤ p2.1) → l.length ≤ i + j → (i + j = 0 ∨ i + j + 1 ≤ l1.length + l2.length) →
      am_EI m_Spans_intersect 0 0 10 [.ref a0, .ref a1, .ref a2, .int (ji i), .int (ji j)] [] h1 (am_qw Q) := by
    intro n
    induction n with
    | zero =>
      intro i j h1 l hn hi hj hf s ok hm hq hl hl0
      have s1' := s1.kept hf (by omega)
      refine sg_Spans_intersect_10 a0 a1 a2 (ji i) (ji j) h1 _ ⟨s1'.1, s_Spans_size s1' ?_⟩
      rw [ji_le]
      refine ⟨fun _ => ?_, fun c => absurd (by omega) c⟩
      refine k h1 l hf s ok (fun t => ?_) (by omega)
      rw [hm t, List.drop_eq_nil_of_le (by omega : l1.length ≤ i)]
      exact ⟨Or.inl, fun q => q.elim id (fun q => absurd q.1 (spM_nil t))⟩
    | succ n ih =>
      intro i j h1 l hn hi hj hf s ok hm hq hl hl0
      have s1' := s1.kept hf (by omega)
      have s2' := s2.kept hf (by omega)
      refine sg_Spans_intersect_10 a0 a1 a2 (ji i) (ji j) h1 _ ⟨s1'.1, s_Spans_size s1' ?_⟩
      rw [ji_le]
      refine ⟨fun c => ?_, fun c => ⟨s2'.1, s_Spans_size s2' ?_⟩⟩
      · refine k h1 l hf s ok (fun t => ?_) (by omega)
        rw [hm t, List.drop_eq_nil_of_le (by omega : l1.length ≤ i)]
        exact ⟨Or.inl, fun q => q.elim id (fun q => absurd q.1 (spM_nil t))⟩
      rw [ji_le]
      refine ⟨fun c2 => ?_, fun c2 => ⟨s1'.1, ?_⟩⟩
      · refine k h1 l hf s ok (fun t => ?_) (by omega)
        rw [hm t, List.drop_eq_nil_of_le (by omega : l2.length ≤ j)]
        exact ⟨Or.inl, fun q => q.elim id (fun q => absurd q.2 (spM_nil t))⟩
      obtain ⟨p, hp⟩ : ∃ p, l1[i]? = some p := ⟨_, List.getElem?_eq_getElem (by omega)⟩
      obtain ⟨q, hq2⟩ : ∃ q, l2[j]? = some q := ⟨_, List.getElem?_eq_getElem (by omega)⟩
      have bp := s1.bd p (List.mem_of_getElem? hp)
      have bq := s2.bd q (List.mem_of_getElem? hq2)
      have op := ok1.2 p (List.mem_of_getElem? hp)
      have oq := ok2.2 q (List.mem_of_getElem? hq2)
      refine s_Spans_firstOf s1' (by omega) ⟨s2'.1, s_Spans_firstOf s2' (by omega) ?_⟩
      rw [spF_at hp, spF_at hq2]
      refine s_Math_max (by omega) (by omega) ⟨s1'.1, s_Spans_lastOf s1' (by omega) ⟨s2'.1, s_Spans_lastOf s2' (by omega) ?_⟩⟩
      rw [spL_at hp, spL_at hq2]
      refine s_Math_min (by omega) (by omega) ⟨s.1, ?_⟩
      obtain ⟨g1, g2, g3⟩ := spAdd_ok (y := if q.2 < p.2 then q.2 else p.2) ok (x := if p.1 < q.1 then q.1 else p.1) (fun u hu => by
        have := hq u hu p q hp hq2
        split <;> omega)
      have g4 := spAdd_len l (if p.1 < q.1 then q.1 else p.1) (if q.2 < p.2 then q.2 else p.2)
      have dp := drop_cons hp
      have dq := drop_cons hq2
      have od1 := spOk_drop ok1 i
      have od2 := spOk_drop ok2 j
      rw [dp] at od1
      rw [dq] at od2
      refine s_Spans_add s (by split <;> omega) (by split <;> omega) (by omega) (fun h2 hf2 s3 => ⟨(s1'.kept hf2 (by omega)).1, ?_⟩)
      have s1'' := s1'.kept hf2 (by omega)
      have s2'' := s2'.kept hf2 (by omega)
      refine s_Spans_lastOf s1'' (by omega) ⟨s2''.1, s_Spans_lastOf s2'' (by omega) ?_⟩
      rw [spL_at hp, spL_at hq2, ji_le, jk1, ji_add, ji_add]
      refine ⟨fun c3 => ?_, fun c3 => ?_⟩
      · refine ih i (j + 1) h2 _ (by omega) (by omega) (by omega) (hf.tr hf2) s3 g1 (fun t => ?_) (fun u hu p1 p2 e1 e2 => ?_) (by omega) (by omega)
        · rw [hm t, g2 t, dp, dq, spI_r od1 od2 (by omega) t, or_assoc]
        · have h5 := g3 u hu
          have h6 := spOk_next ok2 hq2 e2
          cases hp.symm.trans e1
          split at h5 <;> omega
      · refine ih (i + 1) j h2 _ (by omega) (by omega) (by omega) (hf.tr hf2) s3 g1 (fun t => ?_) (fun u hu p1 p2 e1 e2 => ?_) (by omega) (by omega)
        · rw [hm t, g2 t, dp, dq, spI_l od1 od2 (by omega) t, or_assoc]
        · have h5 := g3 u hu
          have h6 := spOk_next ok1 hp e1
          cases hq2.symm.trans e2
          split at h5 <;> omega
  refine ev_Spans_intersect a0 a1 a2 h Q ⟨s0.1, ?_⟩
  refine loop _ 0 0 _ [] rfl (by omega) (by omega) (fi.si (by omega) (by omega)) ?_ spOk_nil (fun t => ?_) (fun q hq => by cases hq) (by simp) (by omega)
  · obtain ⟨t1, t2, t3, t4, t5, t6, t7, t8, t9, t10⟩ := s0
    refine ⟨t1, t2, t3, t4, t5, ?_, ?_, by simp, t9, fun i q hq => by simp at hq⟩
    · rw [am_I_sis, va_up_no _ _ (by decide)]
      exact t6
    · rw [am_I_sis, va_up_at]
      rfl
  · rw [List.drop_zero, List.drop_zero]
    exact ⟨Or.inr, fun q => q.elim (fun q => absurd q (spM_nil t)) id⟩
theorem s_Spans_unite {h : am_H} {a0 a1 a2 r0 r1 r2 : Nat} {l0 l1 l2 : List (Int × Int)} {Q : am_H → Prop} (s0 : spA h a0 r0 l0) (s1 : spA h a1 r1 l1) (s2 : spA h a2 r2 l2) (hd1 : a0 + 3 ≤ a1 ∨ a1 + 3 ≤ a0) (hd2 : a0 + 3 ≤ a2 ∨ a2 + 3 ≤ a0) (ok1 : spOk l1) (ok2 : spOk l2) (hr : l1.length + l2.length ≤ r0)
    (k : ∀ h' l, fi h h' a0 (a0 + 3) → spA h' a0 r0 l → spOk l → (∀ t, spM l t ↔ spM l1 t ∨ spM l2 t) → Q h') : am_Ew m_Spans_unite 0 0 [.ref a0, .ref a1, .ref a2] h Q := by
  have hl1 := s1.len
  have hl2 := s2.len
  have loop : ∀ (n i j : Nat) (h1 : am_H) (l : List (Int × Int)), (l1.length - i) + (l2.length - j) = n → i ≤ l1.length → j ≤ l2.length → fi h h1 a0 (a0 + 3) → spA h1 a0 r0 l → spOk l → (∀ t, (spM l1 t ∨ spM l2 t) ↔ (spM l t ∨ (spM (l1.drop i) t ∨ spM (l2.drop j) t))) → (∀ q ∈ l, (∀ p, l1[i]? = some p → q.1 ≤ p.1) ∧ (∀ p, l2[j]? = some p → q.1 ≤ p.1)) → l.length ≤ i + j →
      am_EI m_Spans_unite 0 0 10 [.ref a0, .ref a1, .ref a2, .int (ji i), .int (ji j)] [] h1 (am_qw Q) := by
    intro n
    induction n with
    | zero =>
      intro i j h1 l hn hi hj hf s ok hm hq hl
      have s1' := s1.kept hf (by omega)
      have s2' := s2.kept hf (by omega)
      refine sg_Spans_unite_10 a0 a1 a2 (ji i) (ji j) h1 _ ⟨s1'.1, s_Spans_size s1' ?_⟩
      rw [ji_lt]
      refine ⟨fun c => absurd c (by omega), fun _ => ⟨s2'.1, s_Spans_size s2' ?_⟩⟩
      rw [ji_le]
      refine ⟨fun _ => ?_, fun c => absurd (by omega) c⟩
      refine k h1 l hf s ok (fun t => ?_)
      rw [hm t, List.drop_eq_nil_of_le (by omega : l1.length ≤ i), List.drop_eq_nil_of_le (by omega : l2.length ≤ j)]
      exact ⟨Or.inl, fun q => q.elim id (fun q => q.elim (fun q => absurd q (spM_nil t)) (fun q => absurd q (spM_nil t)))⟩
    | succ n ih =>
      intro i j h1 l hn hi hj hf s ok hm hq hl
      have s1' := s1.kept hf (by omega)
      have s2' := s2.kept hf (by omega)
      -- the first list's span goes on
      have left : ∀ p, l1[i]? = some p → (∀ q, l2[j]? = some q → p.1 ≤ q.1) → am_EI m_Spans_unite 0 0 58 [.ref a0, .ref a1, .ref a2, .int (ji i), .int (ji j)] [] h1 (am_qw Q) := by
        intro p hp hle
        have hil := (List.getElem?_eq_some_iff.mp hp).1
        have bp := s1.bd p (List.mem_of_getElem? hp)
        have op := ok1.2 p (List.mem_of_getElem? hp)
        refine sg_Spans_unite_58 a0 a1 a2 (ji i) (ji j) h1 _ ⟨s1'.1, s_Spans_firstOf s1' (by omega) ⟨s1'.1, s_Spans_lastOf s1' (by omega) ⟨s.1, ?_⟩⟩⟩
        rw [spF_at hp, spL_at hp, jk1, ji_add]
        obtain ⟨g1, g2, g3⟩ := spAdd_ok (x := p.1) (y := p.2) ok (fun u hu => (hq u hu).1 p hp)
        have g4 := spAdd_len l p.1 p.2
        refine s_Spans_add s (by omega) (by omega) (by omega) (fun h2 hf2 s3 => ?_)
        refine ih (i + 1) j h2 _ (by omega) (by omega) hj (hf.tr hf2) s3 g1 (fun t => ?_) (fun u hu => ⟨fun p' e => ?_, fun q e => ?_⟩) (by omega)
        · rw [hm t, g2 t, drop_cons hp, spM_cons]
          constructor
          · rintro (u | (u | u) | u)
            · exact Or.inl (Or.inl u)
            · exact Or.inl (Or.inr u)
            · exact Or.inr (Or.inl u)
            · exact Or.inr (Or.inr u)
          · rintro ((u | u) | u | u)
            · exact Or.inl u
            · exact Or.inr (Or.inl (Or.inl u))
            · exact Or.inr (Or.inl (Or.inr u))
            · exact Or.inr (Or.inr u)
        · have h5 := g3 u hu
          have h6 := spOk_next ok1 hp e
          omega
        · have h5 := g3 u hu
          have h6 := hle q e
          omega
      have right : ∀ p, l2[j]? = some p → (∀ q, l1[i]? = some q → p.1 ≤ q.1) → am_EI m_Spans_unite 0 0 78 [.ref a0, .ref a1, .ref a2, .int (ji i), .int (ji j)] [] h1 (am_qw Q) := by
        intro p hp hle
        have hil := (List.getElem?_eq_some_iff.mp hp).1
        have bp := s2.bd p (List.mem_of_getElem? hp)
        have op := ok2.2 p (List.mem_of_getElem? hp)
        refine sg_Spans_unite_78 a0 a1 a2 (ji i) (ji j) h1 _ ⟨s2'.1, s_Spans_firstOf s2' (by omega) ⟨s2'.1, s_Spans_lastOf s2' (by omega) ⟨s.1, ?_⟩⟩⟩
        rw [spF_at hp, spL_at hp, jk1, ji_add]
        obtain ⟨g1, g2, g3⟩ := spAdd_ok (x := p.1) (y := p.2) ok (fun u hu => (hq u hu).2 p hp)
        have g4 := spAdd_len l p.1 p.2
        refine s_Spans_add s (by omega) (by omega) (by omega) (fun h2 hf2 s3 => ?_)
        refine ih i (j + 1) h2 _ (by omega) hi (by omega) (hf.tr hf2) s3 g1 (fun t => ?_) (fun u hu => ⟨fun q e => ?_, fun p' e => ?_⟩) (by omega)
        · rw [hm t, g2 t, drop_cons hp, spM_cons]
          constructor
          · rintro (u | u | (u | u))
            · exact Or.inl (Or.inl u)
            · exact Or.inr (Or.inl u)
            · exact Or.inl (Or.inr u)
            · exact Or.inr (Or.inr u)
          · rintro ((u | u) | u | u)
            · exact Or.inl u
            · exact Or.inr (Or.inr (Or.inl u))
            · exact Or.inr (Or.inl u)
            · exact Or.inr (Or.inr (Or.inr u))
        · have h5 := g3 u hu
          have h6 := hle q e
          omega
        · have h5 := g3 u hu
          have h6 := spOk_next ok2 hp e
          omega
      have mid : am_EI m_Spans_unite 0 0 27 [.ref a0, .ref a1, .ref a2, .int (ji i), .int (ji j)] [] h1 (am_qw Q) := by
        refine sg_Spans_unite_27 a0 a1 a2 (ji i) (ji j) h1 _ ⟨s2'.1, s_Spans_size s2' ?_⟩
        rw [ji_le]
        refine ⟨fun c => ?_, fun c => ⟨s1'.1, s_Spans_size s1' ?_⟩⟩
        · obtain ⟨p, hp⟩ : ∃ p, l1[i]? = some p := ⟨_, List.getElem?_eq_getElem (by omega)⟩
          exact left p hp (fun q e => by rw [List.getElem?_eq_none (by omega)] at e; cases e)
        rw [ji_le]
        obtain ⟨q, hq2⟩ : ∃ q, l2[j]? = some q := ⟨_, List.getElem?_eq_getElem (by omega)⟩
        refine ⟨fun c2 => ?_, fun c2 => ⟨s1'.1, ?_⟩⟩
        · exact right q hq2 (fun p e => by rw [List.getElem?_eq_none (by omega)] at e; cases e)
        obtain ⟨p, hp⟩ : ∃ p, l1[i]? = some p := ⟨_, List.getElem?_eq_getElem (by omega)⟩
        have bp := s1.bd p (List.mem_of_getElem? hp)
        have bq := s2.bd q (List.mem_of_getElem? hq2)
        refine s_Spans_firstOf s1' (by omega) ⟨s2'.1, s_Spans_firstOf s2' (by omega) ?_⟩
        rw [spF_at hp, spF_at hq2, ji_lt]
        refine ⟨fun c3 => right q hq2 (fun u e => ?_), fun c3 => left p hp (fun u e => ?_)⟩
        · cases hp.symm.trans e
          omega
        · cases hq2.symm.trans e
          omega
      refine sg_Spans_unite_10 a0 a1 a2 (ji i) (ji j) h1 _ ⟨s1'.1, s_Spans_size s1' ?_⟩
      rw [ji_lt]
      refine ⟨fun _ => mid, fun c => ⟨s2'.1, s_Spans_size s2' ?_⟩⟩
      rw [ji_le]
      exact ⟨fun c2 => absurd c2 (by omega), fun _ => mid⟩
  refine ev_Spans_unite a0 a1 a2 h Q ⟨s0.1, ?_⟩
  refine loop _ 0 0 _ [] rfl (by omega) (by omega) (fi.si (by omega) (by omega)) ?_ spOk_nil (fun t => ?_) (fun q hq => by cases hq) (by simp)
  · obtain ⟨t1, t2, t3, t4, t5, t6, t7, t8, t9, t10⟩ := s0
    refine ⟨t1, t2, t3, t4, t5, ?_, ?_, by simp, t9, fun i q hq => by simp at hq⟩
    · rw [am_I_sis, va_up_no _ _ (by decide)]
      exact t6
    · rw [am_I_sis, va_up_at]
      rfl
  · rw [List.drop_zero, List.drop_zero]
    exact ⟨Or.inr, fun q => q.elim (fun q => absurd q (spM_nil t)) id⟩
