/-! the good minutes of a sill for a ship -/
def nearH (P : List Tn) (b a t : Int) : Prop := ∃ p ∈ P, p.1 = true ∧ p.2.1 - b ≤ t ∧ t ≤ p.2.1 + a
def gd (P : List Tn) (L : Sl) (S : Sp) (t : Int) : Prop :=
  if L.1 = 0 then onP 0 P (L.2.1 + S.1) t
  else if L.1 = 1 then onP 0 P (L.2.1 + S.1) t ∧ nearH P L.2.2.1 L.2.2.2 t
  else if L.1 = 2 then S.1 ≤ L.2.2.2 ∧ ∀ u, t - L.2.2.1 ≤ u → u ≤ t → onP 0 P L.2.1 u
  else onP 2 P (L.2.1 - S.2.1) t
def wnF (h : am_H) (a : Nat) : Prop := am_tg h a = (10, 4) ∧ am_P h a 0 = some (a + 1) ∧ am_P h a 1 = some (a + 4) ∧ am_P h a 2 = some (a + 7)
def spX (h : am_H) (a r : Nat) : Prop := ∃ l, spA h a r l
def wnA (h : am_H) (a : Nat) : Prop := wnF h a ∧ spX h (a + 1) 24 ∧ spX h (a + 4) 24 ∧ spX h (a + 7) 24
theorem wnF.kept {h h' : am_H} {a lo hi : Nat} (s : wnF h a) (f : fi h h' lo hi) : wnF h' a := by
  unfold wnF
  rw [f.2.1, f.2.2.1]
  exact s
theorem spX.kept {h h' : am_H} {a r lo hi : Nat} (s : spX h a r) (f : fi h h' lo hi) (hd : a + 3 ≤ lo ∨ hi ≤ a) : spX h' a r := by
  obtain ⟨l, hl⟩ := s
  exact ⟨l, hl.kept f hd⟩
theorem wnA.kept {h h' : am_H} {a lo hi : Nat} (s : wnA h a) (f : fi h h' lo hi) (hd : a + 10 ≤ lo ∨ hi ≤ a) : wnA h' a := ⟨s.1.kept f, s.2.1.kept f (by omega), s.2.2.1.kept f (by omega), s.2.2.2.kept f (by omega)⟩
theorem spC_bd : ∀ (l : List (Int × Int)), (∀ q ∈ l, (-3000000 ≤ q.1 ∧ q.1 ≤ 3000000) ∧ (-3000000 ≤ q.2 ∧ q.2 ≤ 3000000)) → -6000001 * (l.length : Int) ≤ spC l ∧ spC l ≤ 6000001 * (l.length : Int)
  | [], _ => by simp [spC]
  | q :: l, h => by
    have ih := spC_bd l (fun p hp => h p (by simp [hp]))
    have hq := h q (by simp)
    have e : spC (q :: l) = (q.2 - q.1 + 1) + spC l := by simp [spC]
    rw [e]
    simp
    omega
theorem cnt_snoc {P : List Tn} {i : Nat} {p : Tn} (hp : P[i]? = some p) : ((P.take (i + 1)).filter (fun p => p.1 == true)).length = ((P.take i).filter (fun p => p.1 == true)).length + (if p.1 then 1 else 0) := by
  rw [take_snoc hp, List.filter_append, List.length_append]
  cases e : p.1 <;> simp [List.filter, e]
theorem cnt_le {P : List Tn} (w : gW P) (i : Nat) : ((P.take i).filter (fun p => p.1 == true)).length ≤ 8 := by
  have h16 := w.2.1
  have c := alt_cnt true P.length P (Nat.le_refl _) (fun i p q hp hq => tn_alt (w.1.2.1 i p q hp hq))
  have := ((List.take_sublist i P).filter (fun p => p.1 == true)).length_le
  omega
theorem s_Windows_findAtGate {h : am_H} {a b c d r : Nat} {P : List Tn} {L : Sl} {S : Sp} {Q : am_H → Prop} (w : wnA h a) (sl : slA h b c L) (sh : hpA h d S) (pt : ptA h c r P) (g : gW P) (o : slO L) (os : spO S) (e1 : L.1 = 1) (hb : a + 10 ≤ b ∨ b + 1 ≤ a) (hc : a + 10 ≤ c ∨ c + 4 ≤ a) (hd : a + 10 ≤ d ∨ d + 1 ≤ a)
    (k : ∀ h' l, fi h h' a (a + 10) → wnA h' a → spA h' (a + 1) 24 l → spOk l → (∀ t, spM l t ↔ gd P L S t) → l.length ≤ 15 → Q h') : am_Ew m_Windows_findAtGate 0 0 [.ref a, .ref c, .ref b, .ref d] h Q := by
  obtain ⟨l1, l2, l3, l4, l5, l6, b1, b2, b3, b4⟩ := id sl
  have o1 := o.2.1 (by omega)
  have o2 := o.2.2.1 (by omega)
  have o3 := o.2.2.2 e1
  have os1 := os.1
  have hP := g.2.1
  have hlP := pt.len
  -- the loop over the turns
  have loop : ∀ (lw : List (Int × Int)), spOk lw → (∀ t, spM lw t ↔ onP 0 P (L.2.1 + S.1) t) → lw.length ≤ 8 → ∀ (n i : Nat) (h1 : am_H) (l : List (Int × Int)), i + n = P.length → fi h h1 a (a + 10) → spX h1 (a + 1) 24 → spA h1 (a + 4) 24 lw → spA h1 (a + 7) 24 l → spOk l → (∀ t, spM l t ↔ nearH (P.take i) L.2.2.1 L.2.2.2 t) → (∀ q ∈ l, ∀ p, P[i]? = some p → q.1 ≤ p.2.1 - L.2.2.1) → l.length ≤ ((P.take i).filter (fun p => p.1 == true)).length →
      am_EI m_Windows_findAtGate 0 0 28 [.ref a, .ref c, .ref b, .ref d, .int (ji i)] [] h1 (am_qw Q) := by
    intro lw okw hmw hlw n
    induction n with
    | zero =>
      intro i h1 l hi hf ⟨l0, s0⟩ sw s ok hm hq hl
      have pt1 := pt.kept hf (by omega)
      have w1 := w.1.kept hf
      have c8 := cnt_le g i
      refine sg_Windows_findAtGate_28 a c b d (ji i) h1 _ ⟨pt1.1, s_Port_turnCount pt1 ?_⟩
      rw [ji_le]
      refine ⟨fun _ => ⟨w1.1, a + 1, w1.2.1, a + 4, w1.2.2.1, a + 7, w1.2.2.2, s0.1, ?_⟩, fun cc => absurd (by omega) cc⟩
      refine s_Spans_intersect s0 sw s (by omega) (by omega) okw ok (by omega) (fun h2 l' f2 s2 ok2 hm2 hl2 => ?_)
      refine k h2 l' (hf.tr (f2.wd (by omega) (by omega))) ⟨w1.kept f2, ⟨l', s2⟩, ⟨lw, sw.kept f2 (by omega)⟩, ⟨l, s.kept f2 (by omega)⟩⟩ s2 ok2 (fun t => ?_) (by omega)
      rw [hm2 t, hmw t, hm t, List.take_of_length_le (by omega)]
      unfold gd
      rw [if_neg (by omega), if_pos e1]
    | succ n ih =>
      intro i h1 l hi hf x0 sw s ok hm hq hl
      have pt1 := pt.kept hf (by omega)
      have sl1 := sl.kept hf (by omega)
      have w1 := w.1.kept hf
      obtain ⟨p, hp⟩ : ∃ p, P[i]? = some p := ⟨_, List.getElem?_eq_getElem (by omega)⟩
      have mp := g.mem (List.mem_of_getElem? hp)
      have cs := cnt_snoc hp
      have c8 := cnt_le g (i + 1)
      have nx : ∀ q, P[i + 1]? = some q → p.2.1 ≤ q.2.1 := fun q hq2 => by
        have := (g.1.2.1 i p q hp hq2).1
        omega
      refine sg_Windows_findAtGate_28 a c b d (ji i) h1 _ ⟨pt1.1, s_Port_turnCount pt1 ?_⟩
      rw [ji_le]
      refine ⟨fun cc => absurd cc (by omega), fun _ => ⟨pt1.1, s_Port_isHigh pt1 (by omega) ?_⟩⟩
      rw [ptH_at hp, bi_0, jk1, ji_add]
      refine ⟨fun c1 => ?_, fun c1 => ⟨w1.1, a + 7, w1.2.2.2, pt1.1, s_Port_minuteOf pt1 (by omega) ⟨sl1.1, s_Sill_one sl1 ⟨pt1.1, s_Port_minuteOf pt1 (by omega) ⟨sl1.1, s_Sill_two sl1 ⟨s.1, ?_⟩⟩⟩⟩⟩⟩
      · rw [c1, if_neg (by decide)] at cs
        refine ih (i + 1) h1 l (by omega) hf x0 sw s ok (fun t => ?_) (fun q hq2 p' hp' => ?_) (by omega)
        · rw [hm t]
          unfold nearH
          rw [take_snoc hp]
          constructor
          · rintro ⟨z, z1, z2⟩
            exact ⟨z, List.mem_append.mpr (Or.inl z1), z2⟩
          · rintro ⟨z, z1, z2⟩
            rcases List.mem_append.mp z1 with y | y
            · exact ⟨z, y, z2⟩
            · simp at y
              subst y
              rw [c1] at z2
              cases z2.1
        · have := hq q hq2 p hp
          have := nx p' hp'
          omega
      · have c1 : p.1 = true := by cases e : p.1; exact absurd e c1; rfl
        rw [c1, if_pos rfl] at cs
        rw [ptM_at hp, ji_sub, ji_add]
        obtain ⟨g1, g2, g3⟩ := spAdd_ok (x := p.2.1 - L.2.2.1) (y := p.2.1 + L.2.2.2) ok (fun q hq2 => hq q hq2 p hp)
        have g4 := spAdd_len l (p.2.1 - L.2.2.1) (p.2.1 + L.2.2.2)
        refine s_Spans_add s (by omega) (by omega) (by omega) (fun h2 f2 s2 => ?_)
        refine ih (i + 1) h2 _ (by omega) (hf.tr (f2.wd (by omega) (by omega))) (x0.kept f2 (by omega)) (sw.kept f2 (by omega)) s2 g1 (fun t => ?_) (fun q hq2 p' hp' => ?_) (by omega)
        · rw [g2 t, hm t]
          unfold nearH
          rw [take_snoc hp]
          constructor
          · rintro (⟨z, z1, z2⟩ | z)
            · exact ⟨z, List.mem_append.mpr (Or.inl z1), z2⟩
            · exact ⟨p, List.mem_append.mpr (Or.inr (by simp)), c1, z.1, z.2⟩
          · rintro ⟨z, z1, z2⟩
            rcases List.mem_append.mp z1 with y | y
            · exact Or.inl ⟨z, y, z2⟩
            · simp at y
              subst y
              exact Or.inr z2.2
        · have := g3 q hq2
          have := nx p' hp'
          omega
  obtain ⟨w0, wx1, ⟨wl, wx2⟩, wx3⟩ := id w
  refine ev_Windows_findAtGate a c b d h Q ⟨l1, s_Sill_level sl ⟨sh.1, s_Ship_draught sh ⟨w0.1, a + 4, w0.2.2.1, pt.1, ?_⟩⟩⟩
  rw [ji_add, jk0]
  refine s_Port_collect pt wx2 (by omega) g.1 (Or.inl rfl) (by omega) (by omega) (fun h1 lw f1 sw okw hmw _ => ?_)
  have wx31 := wx3.kept f1 (by omega)
  have w1 := w0.kept f1
  obtain ⟨l7, s7⟩ := wx31
  have h8 := on_len g (Or.inl ⟨rfl, rfl⟩) okw hmw
  refine ⟨w1.1, a + 7, w1.2.2.2, s7.1, s_Spans_clear s7 (fun h2 f2 s2 => ?_)⟩
  refine loop lw okw hmw h8 P.length 0 h2 [] (by omega) ((f1.wd (by omega) (by omega)).tr (f2.wd (by omega) (by omega))) ((wx1.kept f1 (by omega)).kept f2 (by omega)) (sw.kept f2 (by omega)) s2 spOk_nil (fun t => ?_) (fun q hq => by cases hq) (by simp)
  constructor
  · intro z
    exact absurd z (spM_nil t)
  · rintro ⟨z, z1, -⟩
    simp at z1
theorem s_Windows_findAtFlap {h : am_H} {a b c d r : Nat} {P : List Tn} {L : Sl} {S : Sp} {Q : am_H → Prop} (w : wnA h a) (s0 : spA h (a + 1) 24 []) (sl : slA h b c L) (sh : hpA h d S) (pt : ptA h c r P) (g : gW P) (o : slO L) (e1 : L.1 = 2) (hb : a + 10 ≤ b ∨ b + 1 ≤ a) (hc : a + 10 ≤ c ∨ c + 4 ≤ a)
    (k : ∀ h' l, fi h h' a (a + 10) → wnA h' a → spA h' (a + 1) 24 l → spOk l → (∀ t, spM l t ↔ gd P L S t) → l.length ≤ 15 → Q h') : am_Ew m_Windows_findAtFlap 0 0 [.ref a, .ref c, .ref b, .ref d] h Q := by
  obtain ⟨l1, l2, l3, l4, l5, l6, b1, b2, b3, b4⟩ := id sl
  have o1 := o.2.1 (by omega)
  have o2 := o.2.2.1 (by omega)
  have hP := g.2.1
  have hlP := pt.len
  have shb := sh.2.2.2.2
  have loop : S.1 ≤ L.2.2.2 → ∀ (lw : List (Int × Int)), spOk lw → (∀ t, spM lw t ↔ onP 0 P L.2.1 t) → lw.length ≤ 8 → ∀ (n i : Nat) (h1 : am_H) (l : List (Int × Int)), i + n = lw.length → fi h h1 a (a + 10) → spA h1 (a + 4) 24 lw → spX h1 (a + 7) 24 → spA h1 (a + 1) 24 l → spOk l → (∀ t, spM l t ↔ ∃ q ∈ lw.take i, q.1 + L.2.2.1 ≤ t ∧ t ≤ q.2) → (∀ q ∈ l, ∀ p, lw[i]? = some p → q.1 ≤ p.1 + L.2.2.1) → l.length ≤ i →
      am_EI m_Windows_findAtFlap 0 0 28 [.ref a, .ref c, .ref b, .ref d, .int (ji i)] [] h1 (am_qw Q) := by
    intro hS lw okw hmw hlw n
    induction n with
    | zero =>
      intro i h1 l hi hf sw x7 s ok hm hq hl
      have w1 := w.1.kept hf
      refine sg_Windows_findAtFlap_28 a c b d (ji i) h1 _ ⟨w1.1, a + 4, w1.2.2.1, sw.1, s_Spans_size sw ?_⟩
      rw [ji_le]
      refine ⟨fun _ => ?_, fun cc => absurd (by omega) cc⟩
      refine k h1 l hf ⟨w1, ⟨l, s⟩, ⟨lw, sw⟩, x7⟩ s ok (fun t => ?_) (by omega)
      rw [hm t, List.take_of_length_le (by omega)]
      unfold gd
      rw [if_neg (by omega), if_neg (by omega), if_pos e1]
      constructor
      · rintro ⟨q, q1, q2, q3⟩
        exact ⟨hS, fun u u1 u2 => (hmw u).mp ⟨q, q1, by omega, by omega⟩⟩
      · rintro ⟨-, z⟩
        obtain ⟨q, q1, q2, q3⟩ := (hmw t).mpr (z t (by omega) (by omega))
        have := sp_dn (v := t - L.2.2.1) okw q1 q2 q3 (fun u u1 u2 => (hmw u).mpr (z u u1 u2))
        exact ⟨q, q1, by omega, q3⟩
    | succ n ih =>
      intro i h1 l hi hf sw x7 s ok hm hq hl
      have w1 := w.1.kept hf
      have sl1 := sl.kept hf (by omega)
      obtain ⟨p, hp⟩ : ∃ p, lw[i]? = some p := ⟨_, List.getElem?_eq_getElem (by omega)⟩
      have bp : (0 ≤ p.1 ∧ p.1 ≤ 13439) ∧ (0 ≤ p.2 ∧ p.2 ≤ 13439) := by
        have pm := List.mem_of_getElem? hp
        have pp := okw.2 p pm
        have inn : ∀ t, onP 0 P L.2.1 t → 0 ≤ t ∧ t ≤ 13439 := by
          rintro t ⟨j, z, hz, y | y⟩
          · obtain ⟨y, hy, y1, y2, -⟩ := y
            have m1 := g.mem (List.mem_of_getElem? hz)
            have m2 := g.mem (List.mem_of_getElem? hy)
            omega
          · have m1 := g.mem (List.mem_of_getElem? hz)
            obtain ⟨-, y2, -⟩ := y
            omega
        exact ⟨inn _ ((hmw p.1).mp ⟨p, pm, by omega, by omega⟩), inn _ ((hmw p.2).mp ⟨p, pm, by omega, by omega⟩)⟩
      refine sg_Windows_findAtFlap_28 a c b d (ji i) h1 _ ⟨w1.1, a + 4, w1.2.2.1, sw.1, s_Spans_size sw ?_⟩
      rw [ji_le]
      refine ⟨fun cc => absurd cc (by omega), fun _ => ⟨w1.1, a + 1, w1.2.1, a + 4, w1.2.2.1, sw.1, s_Spans_firstOf sw (by omega) ⟨sl1.1, s_Sill_one sl1 ⟨w1.1, a + 4, w1.2.2.1, sw.1, s_Spans_lastOf sw (by omega) ⟨s.1, ?_⟩⟩⟩⟩⟩
      rw [spF_at hp, spL_at hp, ji_add, jk1, ji_add]
      obtain ⟨g1, g2, g3⟩ := spAdd_ok (x := p.1 + L.2.2.1) (y := p.2) ok (fun q hq2 => hq q hq2 p hp)
      have g4 := spAdd_len l (p.1 + L.2.2.1) p.2
      refine s_Spans_add s (by omega) (by omega) (by omega) (fun h2 f2 s2 => ?_)
      refine ih (i + 1) h2 _ (by omega) (hf.tr (f2.wd (by omega) (by omega))) (sw.kept f2 (by omega)) (x7.kept f2 (by omega)) s2 g1 (fun t => ?_) (fun q hq2 p' hp' => ?_) (by omega)
      · rw [g2 t, hm t, take_snoc hp]
        constructor
        · rintro (⟨z, z1, z2⟩ | z)
          · exact ⟨z, List.mem_append.mpr (Or.inl z1), z2⟩
          · exact ⟨p, List.mem_append.mpr (Or.inr (by simp)), z⟩
        · rintro ⟨z, z1, z2⟩
          rcases List.mem_append.mp z1 with y | y
          · exact Or.inl ⟨z, y, z2⟩
          · simp at y
            subst y
            exact Or.inr z2
      · have h5 := g3 q hq2
        have h6 := spOk_next okw hp hp'
        have h7 := okw.2 p (List.mem_of_getElem? hp)
        omega
  obtain ⟨w0, wx1, ⟨wl, wx2⟩, wx3⟩ := id w
  refine ev_Windows_findAtFlap a c b d h Q ⟨sh.1, s_Ship_draught sh ⟨l1, s_Sill_two sl ?_⟩⟩
  rw [ji_le]
  refine ⟨fun c1 => ⟨l1, s_Sill_level sl ⟨w0.1, a + 4, w0.2.2.1, pt.1, ?_⟩⟩, fun c1 => ?_⟩
  · rw [jk0]
    refine s_Port_collect pt wx2 (by omega) g.1 (Or.inl rfl) (by omega) (by omega) (fun h1 lw f1 sw okw hmw _ => ?_)
    have h8 := on_len g (Or.inl ⟨rfl, rfl⟩) okw hmw
    refine loop c1 lw okw hmw h8 lw.length 0 h1 [] (by omega) (f1.wd (by omega) (by omega)) sw (wx3.kept f1 (by omega)) (s0.kept f1 (by omega)) spOk_nil (fun t => ?_) (fun q hq => by cases hq) (by simp)
    constructor
    · intro z
      exact absurd z (spM_nil t)
    · rintro ⟨z, z1, -⟩
      simp at z1
  · refine k h [] fi.rf w s0 spOk_nil (fun t => ?_) (by simp)
    unfold gd
    rw [if_neg (by omega), if_neg (by omega), if_pos e1]
    exact ⟨fun z => absurd z (spM_nil t), fun z => absurd z.1 c1⟩
/-- whether all minutes of a port are in -/
def alw (P : List Tn) (l : List (Int × Int)) : Bool := decide (spC l = ptM P ((P.length : Int) - 1) - ptM P 0 + 1)
theorem s_Windows_find {h : am_H} {a b c d r : Nat} {P : List Tn} {L : Sl} {S : Sp} {Q : am_H → Prop} (w : wnA h a) (sl : slA h b c L) (sh : hpA h d S) (pt : ptA h c r P) (g : gW P) (o : slO L) (os : spO S) (hb : a + 10 ≤ b ∨ b + 1 ≤ a) (hc : a + 10 ≤ c ∨ c + 4 ≤ a) (hd : a + 10 ≤ d ∨ d + 1 ≤ a)
    (k : ∀ h' l, fi h h' a (a + 10) → wnA h' a → spA h' (a + 1) 24 l → spOk l → (∀ t, spM l t ↔ gd P L S t) → l.length ≤ 15 → am_I h' a 3 = bi (alw P l) → Q h') : am_Ew m_Windows_find 0 0 [.ref a, .ref b, .ref d] h Q := by
  have hP := g.2.1
  have fin : ∀ h1 l, fi h h1 a (a + 10) → wnA h1 a → spA h1 (a + 1) 24 l → spOk l → (∀ t, spM l t ↔ gd P L S t) → l.length ≤ 15 → am_EI m_Windows_find 0 0 111 [.ref a, .ref b, .ref d, .ref c] [] h1 (am_qw Q) := by
    intro h1 l hf w1 s1 ok hm hl
    have pt1 := pt.kept hf (by omega)
    have b1 := ptM_bd pt1 0
    have b2 := ptM_bd pt1 ((P.length : Int) - 1)
    have b3 := spC_bd l s1.bd
    have ti : ∀ v : Bool, alw P l = v → am_EI m_Windows_find 0 0 138 [.ref a, .ref b, .ref d, .ref c] [.int (bi v), .ref a] h1 (am_qw Q) := by
      intro v hv
      refine sg_Windows_find_138 a b d c a (bi v) h1 _ ⟨w1.1.1, bi_01 v, ?_⟩
      have f2 : fi h1 (am_si h1 a 3 (bi v)) a (a + 1) := fi.si (by omega) (by omega)
      refine k _ l (hf.tr (f2.wd (by omega) (by omega))) ⟨w1.1.kept f2, w1.2.1.kept f2 (by omega), w1.2.2.1.kept f2 (by omega), w1.2.2.2.kept f2 (by omega)⟩ (s1.kept f2 (by omega)) ok hm hl ?_
      rw [am_I_sis, va_up_at, hv]
    refine sg_Windows_find_111 a b d c h1 _ ⟨w1.1.1, a + 1, w1.1.2.1, s1.1, s_Spans_countAll s1 ⟨pt1.1, s_Port_lastMinute pt1 ⟨pt1.1, s_Port_firstMinute pt1 ?_⟩⟩⟩
    rw [ji_sub, jk1, ji_add, ji_eq]
    exact ⟨fun c1 => ti false (decide_eq_false c1), fun c1 => ti true (decide_eq_true c1)⟩
  obtain ⟨w0, ⟨l0, x1⟩, x2, x3⟩ := id w
  refine ev_Windows_find a b d h Q ⟨w0.1, a + 1, w0.2.1, x1.1, s_Spans_clear x1 (fun h1 f1 s1 => ?_)⟩
  have f2 : fi h1 (am_si h1 a 3 0) a (a + 1) := fi.si (by omega) (by omega)
  have f : fi h (am_si h1 a 3 0) a (a + 10) := (f1.wd (by omega) (by omega)).tr (f2.wd (by omega) (by omega))
  have w1 : wnA (am_si h1 a 3 0) a := ⟨w0.kept f, ⟨[], s1.kept f2 (by omega)⟩, (x2.kept f1 (by omega)).kept f2 (by omega), (x3.kept f1 (by omega)).kept f2 (by omega)⟩
  have sl1 := sl.kept f (by omega)
  have sh1 := sh.kept f (by omega)
  have pt1 := pt.kept f (by omega)
  have s2 := s1.kept f2 (by omega)
  have os1 := os.1
  have shb := sh.2.2.2.2
  obtain ⟨l1, l2, l3, l4, l5, l6, b1, b2, b3, b4⟩ := id sl1
  refine ⟨w1.1.1, l1, s_Sill_home sl1 ⟨fun q => (by cases q), fun b10 e => ?_⟩⟩
  obtain rfl : c = b10 := Option.some.inj e
  refine ⟨l1, s_Sill_kind sl1 ?_⟩
  rw [jk0, jk1, jk2, ji_eq, ji_eq, ji_eq]
  refine ⟨fun c0 => ⟨l1, s_Sill_level sl1 ⟨sh1.1, s_Ship_draught sh1 ⟨w1.1.1, a + 1, w1.1.2.1, pt1.1, ?_⟩⟩⟩, fun c1 => ⟨w1.1.1, ?_⟩, fun c2 => ⟨w1.1.1, ?_⟩, fun n0 n1 n2 => ⟨l1, s_Sill_level sl1 ⟨sh1.1, s_Ship_mast sh1 ⟨w1.1.1, a + 1, w1.1.2.1, pt1.1, ?_⟩⟩⟩⟩
  · have o1 := o.2.1 (by omega)
    rw [ji_add]
    refine s_Port_collect pt1 s2 (by omega) g.1 (Or.inl rfl) (by omega) (by omega) (fun h3 l f3 s3 ok hm _ => ?_)
    have h8 := on_len g (Or.inl ⟨rfl, rfl⟩) ok hm
    refine fin h3 l (f.tr (f3.wd (by omega) (by omega))) ⟨w1.1.kept f3, ⟨l, s3⟩, w1.2.2.1.kept f3 (by omega), w1.2.2.2.kept f3 (by omega)⟩ s3 ok (fun t => ?_) (by omega)
    rw [hm t]
    unfold gd
    rw [if_pos c0]
  · exact s_Windows_findAtGate w1 sl1 sh1 pt1 g o os c1 hb hc hd (fun h3 l f3 w3 s3 ok hm hl => fin h3 l (f.tr f3) w3 s3 ok hm hl)
  · exact s_Windows_findAtFlap w1 s2 sl1 sh1 pt1 g o c2 hb hc (fun h3 l f3 w3 s3 ok hm hl => fin h3 l (f.tr f3) w3 s3 ok hm hl)
  · have o1 := o.1 (by omega)
    rw [ji_sub]
    refine s_Port_collect pt1 s2 (by omega) g.1 (Or.inr (Or.inr rfl)) (by omega) (by omega) (fun h3 l f3 s3 ok hm _ => ?_)
    have h8 := on_len g (Or.inr ⟨rfl, rfl⟩) ok hm
    refine fin h3 l (f.tr (f3.wd (by omega) (by omega))) ⟨w1.1.kept f3, ⟨l, s3⟩, w1.2.2.1.kept f3 (by omega), w1.2.2.2.kept f3 (by omega)⟩ s3 ok (fun t => ?_) (by omega)
    rw [hm t]
    unfold gd
    rw [if_neg n0, if_neg n1, if_neg n2]
theorem s_Windows_found {h : am_H} {a : Nat} {Q : Option Nat → am_H → Prop} (w : wnF h a) (k : Q (some (a + 1)) h) : am_Er m_Windows_found 0 0 [.ref a] h Q := ev_Windows_found a h Q ⟨w.1, a + 1, w.2.1, k⟩
theorem s_Windows_areAlways {h : am_H} {a : Nat} {v : Bool} {Q : Int32 → am_H → Prop} (w : wnF h a) (e : am_I h a 3 = bi v) (k : Q (bi v) h) : am_Ei m_Windows_areAlways 0 0 [.ref a] h Q := ev_Windows_areAlways a h Q ⟨w.1, by rw [e]; exact bi_01 v, by rw [e]; exact k⟩
