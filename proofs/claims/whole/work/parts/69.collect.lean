/-- turns as a port has them -/
def ptW (P : List Tn) : Prop := 0 < P.length ∧ (∀ (i : Nat) (p q : Tn), P[i]? = some p → P[i + 1]? = some q → tnW p q) ∧ ∀ p ∈ P, (-500 ≤ p.2.2 ∧ p.2.2 ≤ 1500)
/-- the minutes of the j-th stretch at which the height is on a side of x -/
def onS (side : Int) (P : List Tn) (x : Int) (j : Nat) (t : Int) : Prop := ∃ p, P[j]? = some p ∧ ((∃ q, P[j + 1]? = some q ∧ p.2.1 ≤ t ∧ t < q.2.1 ∧ sdOn side (exc p q t x) = true) ∨ (P[j + 1]? = none ∧ t = p.2.1 ∧ sdOn side (p.2.2 - x) = true))
def onP (side : Int) (P : List Tn) (x t : Int) : Prop := ∃ j, onS side P x j t
theorem s_Port_collect {h : am_H} {a a3 r r3 : Nat} {P : List Tn} {l0 : List (Int × Int)} {side x : Int} {Q : am_H → Prop} (s : ptA h a r P) (s0 : spA h a3 r3 l0) (hd : a + 4 ≤ a3 ∨ a3 + 3 ≤ a) (w : ptW P) (hs : side = 0 ∨ side = 1 ∨ side = 2) (hx : -10000 ≤ x ∧ x ≤ 10000) (hr : P.length ≤ r3)
    (k : ∀ h' l, fi h h' a3 (a3 + 3) → spA h' a3 r3 l → spOk l → (∀ t, spM l t ↔ onP side P x t) → l.length ≤ P.length → Q h') : am_Ew m_Port_collect 0 0 [.ref a, .int (ji side), .int (ji x), .ref a3] h Q := by
  have hl := s.len
  have loop : ∀ (n i : Nat) (h1 : am_H) (l : List (Int × Int)), i + n = P.length → fi h h1 a3 (a3 + 3) → spA h1 a3 r3 l → spOk l → (∀ t, spM l t ↔ ∃ j, j < i ∧ onS side P x j t) → (∀ u ∈ l, ∀ p, P[i]? = some p → u.1 ≤ p.2.1) → l.length ≤ i →
      am_EI m_Port_collect 0 0 7 [.ref a, .int (ji side), .int (ji x), .ref a3, .int (ji i), .float 0, .float 0, .float 0] [] h1 (am_qw Q) := by
    intro n
    induction n with
    | zero =>
      intro i h1 l hi hf s2 ok hm hq hl2
      have s' := s.kept hf (by omega)
      refine sg_Port_collect_7 a a3 _ _ (ji i) h1 _ ⟨s'.1, ?_⟩
      rw [s'.2.2.2.2.2.2.2.2.1, ji_le]
      refine ⟨fun _ => k h1 l hf s2 ok (fun t => ?_) (by omega), fun c => absurd (by omega) c⟩
      rw [hm t]
      constructor
      · rintro ⟨j, -, hj⟩
        exact ⟨j, hj⟩
      · rintro ⟨j, hj⟩
        obtain ⟨p, hp, -⟩ := id hj
        have := (List.getElem?_eq_some_iff.mp hp).1
        exact ⟨j, by omega, hj⟩
    | succ n ih =>
      intro i h1 l hi hf s2 ok hm hq hl2
      have s' := s.kept hf (by omega)
      obtain ⟨p, hp⟩ : ∃ p, P[i]? = some p := ⟨_, List.getElem?_eq_getElem (by omega)⟩
      have bp := s.bd p (List.mem_of_getElem? hp)
      have wp := w.2.2 p (List.mem_of_getElem? hp)
      refine sg_Port_collect_7 a a3 _ _ (ji i) h1 _ ⟨s'.1, ?_⟩
      rw [s'.2.2.2.2.2.2.2.2.1, ji_le]
      refine ⟨fun c => absurd c (by omega), fun _ => s_Port_minuteOf s' (by omega) ⟨s'.1, ?_⟩⟩
      rw [ptM_at hp, s'.2.2.2.2.2.2.2.2.1, jk1, jk0, ji_add, ji_le]
      -- what is added, and what then holds
      have next : ∀ (u v : Int), (-3000000 ≤ u ∧ u ≤ 3000000) → (-3000000 ≤ v ∧ v ≤ 3000000) → p.2.1 ≤ u → (∀ t, (u ≤ t ∧ t ≤ v) ↔ onS side P x i t) → (∀ q, P[i + 1]? = some q → u ≤ q.2.1) → am_Ew m_Spans_add 0 0 [.ref a3, .int (ji u), .int (ji v)] h1 (fun h16 => am_EI m_Port_collect 0 0 7 [.ref a, .int (ji side), .int (ji x), .ref a3, .int (ji ((i : Int) + 1)), .float 0, .float 0, .float 0] [] h16 (am_qw Q)) := by
        intro u v hu hv hpu hon hnx
        obtain ⟨g1, g2, g3⟩ := spAdd_ok (x := u) (y := v) ok (fun z hz => Int.le_trans (hq z hz p hp) hpu)
        have g4 := spAdd_len l u v
        refine s_Spans_add s2 hu hv (by omega) (fun h2 hf2 s3 => ?_)
        refine ih (i + 1) h2 _ (by omega) (hf.tr hf2) s3 g1 (fun t => ?_) (fun z hz p' hp' => ?_) (by omega)
        · rw [g2 t, hm t, hon t]
          constructor
          · rintro (⟨j, hj, e⟩ | e)
            · exact ⟨j, by omega, e⟩
            · exact ⟨i, by omega, e⟩
          · rintro ⟨j, hj, e⟩
            by_cases ej : j = i
            · subst ej
              exact Or.inr e
            · exact Or.inl ⟨j, by omega, e⟩
        · have h5 := g3 z hz
          have h6 := hnx p' hp'
          omega
      refine ⟨fun c1 => ?_, fun c1 => ?_⟩
      · -- the last turn
        have hno : P[i + 1]? = none := List.getElem?_eq_none (by omega)
        have ons : ∀ t, onS side P x i t ↔ (t = p.2.1 ∧ sdOn side (p.2.2 - x) = true) := by
          intro t
          constructor
          · rintro ⟨p', hp', ⟨q, hq', -⟩ | ⟨-, e1, e2⟩⟩
            · rw [hno] at hq'
              cases hq'
            · cases hp.symm.trans hp'
              exact ⟨e1, e2⟩
          · rintro ⟨e1, e2⟩
            exact ⟨p, hp, Or.inr ⟨hno, e1, e2⟩⟩
        rw [ji_add]
        refine s_Port_firstChange1 s' hp hs hx ⟨s'.1, s_Port_heightOf s' (by omega) ?_⟩
        rw [ptG_at hp, ji_sub, ji_sub]
        refine s_Port_isOn hs (by omega) ?_
        rw [show ji 0 = (0 : Int32) from rfl, bi_0]
        refine ⟨fun c2 => ⟨s2.1, next _ _ (by omega) (by omega) (by omega) (fun t => ?_) (fun q e => by rw [hno] at e; cases e)⟩, fun c2 => ⟨s2.1, next _ _ (by omega) (by omega) (by omega) (fun t => ?_) (fun q e => by rw [hno] at e; cases e)⟩⟩
        · rw [ons t, c2]
          constructor
          · rintro ⟨e1, e2⟩
            omega
          · rintro ⟨-, e2⟩
            cases e2
        · rw [ons t]
          have c3 : sdOn side (p.2.2 - x) = true := by cases e : sdOn side (p.2.2 - x); exact absurd e c2; rfl
          rw [c3]
          constructor
          · rintro ⟨e1, e2⟩
            exact ⟨by omega, rfl⟩
          · rintro ⟨e1, -⟩
            omega
      · obtain ⟨q, hq2⟩ : ∃ q, P[i + 1]? = some q := ⟨_, List.getElem?_eq_getElem (by omega)⟩
        have bq := s.bd q (List.mem_of_getElem? hq2)
        have wq := w.2.1 i p q hp hq2
        have wq1 := wq.1
        have ons : ∀ t, onS side P x i t ↔ (p.2.1 ≤ t ∧ t < q.2.1 ∧ sdOn side (exc p q t x) = true) := by
          intro t
          constructor
          · rintro ⟨p', hp', ⟨q', hq', e⟩ | ⟨hn, -⟩⟩
            · cases hp.symm.trans hp'
              cases hq2.symm.trans hq'
              exact e
            · rw [hq2] at hn
              cases hn
          · intro e
            exact ⟨p, hp, Or.inl ⟨q, hq2, e⟩⟩
        have em : ptM P ((i : Int) + 1) = q.2.1 := ptM_at (i := i + 1) hq2
        refine s_Port_minuteOf s' (by omega) ⟨s'.1, ?_⟩
        rw [em]
        refine s_Port_firstChange s' hp hq2 wq hs hx (fun c d1 d2 d3 d4 => ⟨s'.1, s_Port_heightOf s' (by omega) ?_⟩)
        rw [ptG_at hp, ji_sub, ji_sub, ji_sub]
        refine s_Port_isOn hs (by omega) ?_
        rw [show ji 0 = (0 : Int32) from rfl, bi_0]
        refine ⟨fun c2 => ⟨s2.1, next _ _ (by omega) (by omega) (by omega) (fun t => ?_) (fun q' e => ?_)⟩, fun c2 => ⟨s2.1, next _ _ (by omega) (by omega) (by omega) (fun t => ?_) (fun q' e => ?_)⟩⟩
        · rw [ons t]
          constructor
          · rintro ⟨e1, e2⟩
            refine ⟨by omega, by omega, ?_⟩
            have := d4 t e1 (by omega)
            rw [c2] at this
            cases e : sdOn side (exc p q t x)
            · exact absurd e this
            · rfl
          · rintro ⟨e1, e2, e3⟩
            refine ⟨?_, by omega⟩
            rcases Int.lt_or_le t c with z | z
            · have := d3 t e1 z
              rw [c2, e3] at this
              cases this
            · exact z
        · cases hq2.symm.trans e
          omega
        · have c3 : sdOn side (p.2.2 - x) = true := by cases e : sdOn side (p.2.2 - x); exact absurd e c2; rfl
          rw [ons t]
          constructor
          · rintro ⟨e1, e2⟩
            refine ⟨e1, by omega, ?_⟩
            rw [d3 t e1 (by omega), c3]
          · rintro ⟨e1, e2, e3⟩
            refine ⟨e1, ?_⟩
            rcases Int.lt_or_le t c with z | z
            · omega
            · have := d4 t z e2
              rw [c3, e3] at this
              exact absurd rfl this
        · cases hq2.symm.trans e
          omega
  refine ev_Port_collect a a3 _ _ h Q ⟨s0.1, s_Spans_clear s0 (fun h2 hf s2 => ?_)⟩
  exact loop P.length 0 h2 [] (by omega) hf s2 spOk_nil (fun t => ⟨fun q => absurd q (spM_nil t), fun ⟨j, hj, _⟩ => by omega⟩) (fun u hu => by cases hu) (by simp)
