/-! sets of whole numbers as rising spans -/
def spOk (l : List (Int × Int)) : Prop := l.Pairwise (fun q q' => q.2 + 1 < q'.1) ∧ ∀ q ∈ l, q.1 ≤ q.2
def spM (l : List (Int × Int)) (t : Int) : Prop := ∃ q ∈ l, q.1 ≤ t ∧ t ≤ q.2
theorem spM_nil (t : Int) : ¬ spM [] t := by rintro ⟨q, hq, -⟩; cases hq
theorem spM_app {l l' : List (Int × Int)} {t : Int} : spM (l ++ l') t ↔ spM l t ∨ spM l' t := by
  constructor
  · rintro ⟨q, hq, h⟩
    rcases List.mem_append.mp hq with h1 | h1
    · exact Or.inl ⟨q, h1, h⟩
    · exact Or.inr ⟨q, h1, h⟩
  · rintro (⟨q, hq, h⟩ | ⟨q, hq, h⟩)
    · exact ⟨q, List.mem_append_left _ hq, h⟩
    · exact ⟨q, List.mem_append_right _ hq, h⟩
theorem spM_one {q : Int × Int} {t : Int} : spM [q] t ↔ q.1 ≤ t ∧ t ≤ q.2 := by
  constructor
  · rintro ⟨p, hp, h⟩
    simp at hp
    subst hp
    exact h
  · intro h
    exact ⟨q, by simp, h⟩
theorem spM_cons {q : Int × Int} {l : List (Int × Int)} {t : Int} : spM (q :: l) t ↔ (q.1 ≤ t ∧ t ≤ q.2) ∨ spM l t := by
  have := spM_app (l := [q]) (l' := l) (t := t)
  rw [spM_one] at this
  exact this
theorem spOk_nil : spOk [] := ⟨List.Pairwise.nil, fun q h => by cases h⟩
theorem spOk_cons {q : Int × Int} {l : List (Int × Int)} (h : spOk (q :: l)) : q.1 ≤ q.2 ∧ spOk l ∧ ∀ p ∈ l, q.2 + 1 < p.1 := by
  obtain ⟨h1, h2⟩ := h
  rw [List.pairwise_cons] at h1
  exact ⟨h2 q (by simp), ⟨h1.2, fun p hp => h2 p (by simp [hp])⟩, h1.1⟩
/-- one set, one list of spans -/
theorem spU : ∀ (l l' : List (Int × Int)), spOk l → spOk l' → (∀ t, spM l t ↔ spM l' t) → l = l'
  | [], [], _, _, _ => rfl
  | [], q :: l', _, h', hm => by
    obtain ⟨h1, -, -⟩ := spOk_cons h'
    exact absurd ((hm q.1).mpr (spM_cons.mpr (Or.inl ⟨by omega, h1⟩))) (spM_nil _)
  | q :: l, [], h, _, hm => by
    obtain ⟨h1, -, -⟩ := spOk_cons h
    exact absurd ((hm q.1).mp (spM_cons.mpr (Or.inl ⟨by omega, h1⟩))) (spM_nil _)
  | q :: l, q' :: l', h, h', hm => by
    obtain ⟨h1, h2, h3⟩ := spOk_cons h
    obtain ⟨h1', h2', h3'⟩ := spOk_cons h'
    have low : ∀ t, spM l t → q.2 + 1 < t := by
      rintro t ⟨p, hp, ha, hb⟩
      have := h3 p hp
      omega
    have low' : ∀ t, spM l' t → q'.2 + 1 < t := by
      rintro t ⟨p, hp, ha, hb⟩
      have := h3' p hp
      omega
    have e1 : q.1 = q'.1 := by
      have a := (hm q.1).mp (spM_cons.mpr (Or.inl ⟨by omega, h1⟩))
      have b := (hm q'.1).mpr (spM_cons.mpr (Or.inl ⟨by omega, h1'⟩))
      rcases spM_cons.mp a with a | a
      · rcases spM_cons.mp b with b | b
        · omega
        · have := low _ b
          omega
      · have := low' _ a
        rcases spM_cons.mp b with b | b
        · omega
        · have := low _ b
          omega
    have e2 : q.2 = q'.2 := by
      rcases Int.lt_trichotomy q.2 q'.2 with c | c | c
      · have a := (hm (q.2 + 1)).mpr (spM_cons.mpr (Or.inl ⟨by omega, by omega⟩))
        rcases spM_cons.mp a with a | a
        · omega
        · have := low _ a
          omega
      · exact c
      · have a := (hm (q'.2 + 1)).mp (spM_cons.mpr (Or.inl ⟨by omega, by omega⟩))
        rcases spM_cons.mp a with a | a
        · omega
        · have := low' _ a
          omega
    have e3 : l = l' := by
      refine spU l l' h2 h2' (fun t => ⟨fun ht => ?_, fun ht => ?_⟩)
      · have := low t ht
        rcases spM_cons.mp ((hm t).mp (spM_cons.mpr (Or.inr ht))) with a | a
        · omega
        · exact a
      · have := low' t ht
        rcases spM_cons.mp ((hm t).mpr (spM_cons.mpr (Or.inr ht))) with a | a
        · omega
        · exact a
    rw [e3, show q = q' from Prod.ext e1 e2]
theorem spOk_snoc {l : List (Int × Int)} {q : Int × Int} (h : spOk l) (hq : q.1 ≤ q.2) (hl : ∀ p ∈ l, p.2 + 1 < q.1) : spOk (l ++ [q]) := by
  refine ⟨?_, fun p hp => ?_⟩
  · rw [List.pairwise_append]
    exact ⟨h.1, by simp, fun a ha b hb => by simp at hb; subst hb; exact hl a ha⟩
  · rcases List.mem_append.mp hp with h1 | h1
    · exact h.2 p h1
    · simp at h1
      subst h1
      exact hq
theorem spOk_split {l : List (Int × Int)} {q : Int × Int} (h : spOk (l ++ [q])) : spOk l ∧ q.1 ≤ q.2 ∧ ∀ p ∈ l, p.2 + 1 < q.1 := by
  obtain ⟨h1, h2⟩ := h
  rw [List.pairwise_append] at h1
  exact ⟨⟨h1.1, fun p hp => h2 p (by simp [hp])⟩, h2 q (by simp), fun p hp => h1.2.2 p hp q (by simp)⟩
/-- adding by rising first numbers -/
theorem spAdd_ok {l : List (Int × Int)} {x y : Int} (h : spOk l) (hf : ∀ q ∈ l, q.1 ≤ x) : spOk (spAdd l x y) ∧ (∀ t, spM (spAdd l x y) t ↔ spM l t ∨ (x ≤ t ∧ t ≤ y)) ∧ (∀ q ∈ spAdd l x y, q.1 ≤ x) := by
  unfold spAdd
  by_cases c : y < x
  · rw [if_pos c]
    exact ⟨h, fun t => ⟨Or.inl, fun q => q.elim id (fun q => by omega)⟩, hf⟩
  rw [if_neg c]
  rcases List.eq_nil_or_concat l with rfl | ⟨l0, q, rfl⟩
  · refine ⟨⟨by simp, fun q hq => ?_⟩, fun t => ?_, fun q hq => ?_⟩
    · simp at hq
      subst hq
      show x ≤ y
      omega
    · show spM [(x, y)] t ↔ _
      rw [spM_one]
      exact ⟨Or.inr, fun q => q.elim (fun q => absurd q (spM_nil t)) id⟩
    · simp at hq
      subst hq
      show x ≤ x
      omega
  · rw [List.concat_eq_append] at *
    rw [List.getLast?_concat]
    dsimp only
    obtain ⟨h1, h2, h3⟩ := spOk_split h
    have hqx : q.1 ≤ x := hf q (by simp)
    by_cases c2 : x ≤ q.2 + 1
    · rw [if_pos c2, List.dropLast_concat]
      have hm : q.1 ≤ (if q.2 < y then y else q.2) := by split <;> omega
      refine ⟨spOk_snoc h1 hm h3, fun t => ?_, fun p hp => ?_⟩
      · rw [spM_app, spM_app, spM_one, spM_one]
        dsimp only
        constructor
        · rintro (a | a)
          · exact Or.inl (Or.inl a)
          · by_cases d : t ≤ q.2
            · exact Or.inl (Or.inr ⟨a.1, d⟩)
            · refine Or.inr ⟨by omega, ?_⟩
              have := a.2
              split at this <;> omega
        · rintro ((a | a) | a)
          · exact Or.inl a
          · refine Or.inr ⟨a.1, ?_⟩
            split <;> omega
          · refine Or.inr ⟨by omega, ?_⟩
            split <;> omega
      · rcases List.mem_append.mp hp with d | d
        · exact hf p (by simp [d])
        · simp at d
          subst d
          exact hqx
    · rw [if_neg c2]
      refine ⟨spOk_snoc h (show x ≤ y by omega) (fun p hp => ?_), fun t => ?_, fun p hp => ?_⟩
      · show p.2 + 1 < x
        rcases List.mem_append.mp hp with d | d
        · have := h3 p d
          omega
        · simp at d
          subst d
          omega
      · rw [spM_app, spM_one]
      · rcases List.mem_append.mp hp with d | d
        · exact hf p d
        · simp at d
          subst d
          show x ≤ x
          omega
theorem spAdd_len (l : List (Int × Int)) (x y : Int) : (spAdd l x y).length ≤ l.length + 1 := by
  unfold spAdd
  split
  · omega
  · cases hq : l.getLast? with
    | none => simp
    | some q =>
      dsimp only
      have : l ≠ [] := by rintro rfl; simp at hq
      have := List.length_pos_iff.mpr this
      split
      · simp
        try omega
      · simp
