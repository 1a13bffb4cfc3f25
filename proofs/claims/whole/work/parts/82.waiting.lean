/-! the planner: waiting -/
theorem spAdd_nil {x y : Int} (h : x ≤ y) : spAdd [] x y = [(x, y)] := by
  unfold spAdd
  rw [if_neg (by omega)]
  rfl
theorem s_Planner_allowLater {h : am_H} {a b c d x r i : Nat} {R : List RtStop} {q : RtStop} {P : List Tn} {L : Sl} {S : Sp} {la : List (Int × Int)} {Q : am_H → Prop} (w : plX h a) (rt : rtA h b 8 R) (hb : a + 49 ≤ b) (hq : R[i]? = some q) (hlv : -500 ≤ q.2.2.2 ∧ q.2.2.2 ≤ 1500) (sh : hpA h d S) (hd : a + 49 ≤ d) (os : spO S) (sl : slA h x c L) (pt : ptA h c r P) (g : gW P) (hx : a + 49 ≤ x) (hc : a + 49 ≤ c)
    (sa : spA h (a + 17) 128 la) (ok : spOk la) (ne : la ≠ []) (hl : la.length ≤ 100) (bd : ∀ q ∈ la, 0 ≤ q.1 ∧ q.2 ≤ 1000000)
    (k : ∀ h' lo, fi h h' a (a + 23) → plX h' a → spA h' (a + 17) 128 la → spA h' (a + 20) 128 lo → spOk lo → lo.length ≤ la.length → (∀ t, t ≤ 1000000 → (spM lo t ↔ opL q.2.2.1 (onP 0 P (q.2.2.2 + S.1)) (spM la) t)) → Q h') : am_Ew m_Planner_allowLater 0 0 [.ref a, .ref b, .int (ji i), .ref x, .ref d] h Q := by
  have rl := rt.len
  have hi := (List.getElem?_eq_some_iff.mp hq).1
  have row := rt.row hq
  have os1 := os.1
  obtain ⟨lo0, so⟩ := w.2.2.2.2.2.1
  have bdm : ∀ u, spM la u → 0 ≤ u ∧ u ≤ 1000000 := by
    rintro u ⟨p, hp, p1, p2⟩
    have := bd p hp
    omega
  refine ev_Planner_allowLater a b x d (ji i) h Q ⟨rt.1, s_Route_kindOf rt (by omega) ?_⟩
  rw [rtG_at hq, jk1, jk0, ji_eq, ji_eq]
  refine ⟨fun n1 => ⟨fun n0 => ?_, fun e0 => ?_⟩, fun e1 => ⟨w.1.1, a + 20, w.1.p4, a + 17, w.1.p3, so.1, ?_⟩⟩
  · -- waits afloat
    refine ⟨rt.1, s_Route_levelOf rt (by omega) ⟨sh.1, s_Ship_draught sh ⟨w.1.1, ?_⟩⟩⟩
    rw [ji_add, rtG_at hq]
    refine s_Planner_findDeep w.1 w.2.2.1 sl pt g hx hc (by omega) (fun h1 ld f1 s1 okd hmd hld => ?_)
    have w1 := w.o11 f1 ⟨ld, s1⟩
    obtain ⟨l4, s4⟩ := w1.2.2.2.1
    refine ⟨w1.1.1, a + 14, w1.1.p2, s4.1, s_Spans_clear s4 (fun h2 f2 s2 => ?_)⟩
    have w2 := w1.o14 f2 ⟨[], s2⟩
    have bdd : ∀ p ∈ ld, (0 ≤ p.1 ∧ p.1 ≤ 13439) ∧ (0 ≤ p.2 ∧ p.2 ≤ 13439) := fun p hp => by
      have := okd.2 p hp
      exact ⟨onP_rng g ((hmd p.1).mp ⟨p, hp, by omega, by omega⟩), onP_rng g ((hmd p.2).mp ⟨p, hp, by omega, by omega⟩)⟩
    have loop : ∀ (n j : Nat) (h1 : am_H) (l : List (Int × Int)), j + n = ld.length → fi h h1 a (a + 23) → plX h1 a → spA h1 (a + 11) 24 ld → spA h1 (a + 14) 24 l → spA h1 (a + 17) 128 la → spOk l → (∀ t, spM l t ↔ ∃ p ∈ ld.take j, ∃ s, spM la s ∧ p.1 ≤ s ∧ s ≤ t ∧ t ≤ p.2) → (∀ q ∈ l, ∀ p, ld[j]? = some p → q.1 ≤ p.1) → l.length ≤ j →
        am_EI m_Planner_allowLater 0 0 86 [.ref a, .ref b, .int (ji i), .ref x, .ref d, .int (ji q.2.2.1), .int (ji j), .float 0] [] h1 (am_qw Q) := by
      intro n
      induction n with
      | zero =>
        intro j h1 l hj hf w1 sd s sa1 okl hm hf2 hlen
        obtain ⟨lo1, so1⟩ := w1.2.2.2.2.2.1
        refine sg_Planner_allowLater_86 a b x d (ji i) (ji q.2.2.1) (ji j) h1 _ ⟨w1.1.1, a + 11, w1.1.p1, sd.1, s_Spans_size sd ?_⟩
        rw [ji_le]
        refine ⟨fun _ => ⟨w1.1.1, a + 20, w1.1.p4, a + 17, w1.1.p3, a + 14, w1.1.p2, so1.1, ?_⟩, fun cc => absurd (by omega) cc⟩
        refine s_Spans_unite so1 sa1 s (by omega) (by omega) ok okl (by omega) (fun h2 lo f2 s2 ok2 hm2 => ?_)
        rw [List.take_of_length_le (by omega)] at hm
        refine k h2 lo (hf.tr (f2.wd (by omega) (by omega))) (w1.o20 f2 ⟨lo, s2⟩) (sa1.kept f2 (by omega)) s2 ok2 ?_ ?_
        · refine un_len ok2 ok okl hm2 (fun z hz => ?_)
          have z1 := okl.2 z hz
          obtain ⟨p, hp, s', m1, m2, m3, m4⟩ := (hm z.1).mp ⟨z, hz, by omega, by omega⟩
          have := sp_dn (t := z.1) (v := s') okl hz (by omega) (by omega) (fun u u1 u2 => (hm u).mpr ⟨p, hp, s', m1, m2, u1, by omega⟩)
          obtain ⟨y, hy, y1, y2⟩ := m1
          exact ⟨y, hy, by omega, by omega⟩
        · intro t ht
          rw [hm2 t, hm t]
          unfold opL
          rw [if_neg n1, if_neg n0]
          refine or_congr Iff.rfl ⟨?_, ?_⟩
          · rintro ⟨p, hp, s', m1, m2, m3, m4⟩
            exact ⟨s', m1, m3, fun u u1 u2 => (hmd u).mp ⟨p, hp, by omega, by omega⟩⟩
          · rintro ⟨s', m1, m2, m3⟩
            obtain ⟨p, hp, p1, p2⟩ := (hmd s').mpr (m3 s' (by omega) m2)
            have := sp_up (t := s') (v := t) okd hp p1 p2 (fun u u1 u2 => (hmd u).mpr (m3 u u1 u2))
            exact ⟨p, hp, s', m1, p1, m2, this⟩
      | succ n ih =>
        intro j h1 l hj hf w1 sd s sa1 okl hm hf2 hlen
        obtain ⟨p, hp⟩ : ∃ p, ld[j]? = some p := ⟨_, List.getElem?_eq_getElem (by omega)⟩
        have pm := List.mem_of_getElem? hp
        have bp := bdd p pm
        have po := okd.2 p pm
        refine sg_Planner_allowLater_86 a b x d (ji i) (ji q.2.2.1) (ji j) h1 _ ⟨w1.1.1, a + 11, w1.1.p1, sd.1, s_Spans_size sd ?_⟩
        rw [ji_le]
        refine ⟨fun cc => absurd cc (by omega), fun _ => ⟨w1.1.1, a + 17, w1.1.p3, a + 11, w1.1.p1, sd.1, s_Spans_firstOf sd (by omega) ⟨sa1.1, ?_⟩⟩⟩
        rw [spF_at hp]
        refine s_Spans_earliestFrom sa1 (by omega) ?_
        rw [ji_none]
        have nx : ∀ p', ld[j + 1]? = some p' → p.2 + 1 < p'.1 := fun p' hp' => spOk_next okd hp hp'
        rcases spE_cs (t := p.1) ok with ⟨e1, e2⟩ | ⟨e1, e2, e3⟩
        · refine ⟨fun _ => ?_, fun cc => absurd (by rw [e1]) cc⟩
          rw [jk1, ji_add]
          refine ih (j + 1) h1 l (by omega) hf w1 sd s sa1 okl (fun t => ?_) (fun z hz p' hp' => ?_) (by omega)
          · rw [hm t, take_snoc hp]
            constructor
            · rintro ⟨y, y1, y2⟩
              exact ⟨y, List.mem_append.mpr (Or.inl y1), y2⟩
            · rintro ⟨y, y1, s', m1, m2, m3, m4⟩
              rcases List.mem_append.mp y1 with y1 | y1
              · exact ⟨y, y1, s', m1, m2, m3, m4⟩
              · simp at y1
                subst y1
                exact absurd m1 (e2 s' m2)
          · have := hf2 z hz p hp
            have := nx p' hp'
            omega
        · have be := bdm _ e1
          refine ⟨fun cc => absurd cc ?_, fun _ => ⟨w1.1.1, a + 14, w1.1.p2, a + 11, w1.1.p1, sd.1, s_Spans_lastOf sd (by omega) ⟨s.1, ?_⟩⟩⟩
          · rw [ji_eq (by unfold spNone; omega)]
            unfold spNone
            omega
          rw [spL_at hp, jk1, ji_add]
          obtain ⟨g1, g2, g3⟩ := spAdd_ok (x := spE la p.1) (y := p.2) okl (fun z hz => by have := hf2 z hz p hp; omega)
          have g4 := spAdd_len l (spE la p.1) p.2
          refine s_Spans_add s (by omega) (by omega) (by omega) (fun h2 f2 s2 => ?_)
          refine ih (j + 1) h2 _ (by omega) (hf.tr (f2.wd (by omega) (by omega))) (w1.o14 f2 ⟨_, s2⟩) (sd.kept f2 (by omega)) s2 (sa1.kept f2 (by omega)) g1 (fun t => ?_) (fun z hz p' hp' => ?_) (by omega)
          · rw [g2 t, hm t, take_snoc hp]
            constructor
            · rintro (⟨y, y1, y2⟩ | y)
              · exact ⟨y, List.mem_append.mpr (Or.inl y1), y2⟩
              · exact ⟨p, List.mem_append.mpr (Or.inr (by simp)), _, e1, e2, y.1, y.2⟩
            · rintro ⟨y, y1, s', m1, m2, m3, m4⟩
              rcases List.mem_append.mp y1 with y1 | y1
              · exact Or.inl ⟨y, y1, s', m1, m2, m3, m4⟩
              · simp at y1
                subst y1
                have := e3 s' m2 m1
                exact Or.inr ⟨by omega, by omega⟩
          · have n1 := nx p' hp'
            have z1 := g1.2 z hz
            rcases (g2 z.1).mp ⟨z, hz, by omega, by omega⟩ with z2 | z2
            · obtain ⟨y, y1, s', m1, m2, m3, m4⟩ := (hm z.1).mp z2
              have := List.mem_of_mem_take y1
              obtain ⟨jj, hjj, ejj⟩ := List.mem_take_iff_getElem.mp y1
              have h7 : ld[jj]? = some y := by rw [← ejj]; exact List.getElem?_eq_getElem (by omega)
              have h8 := (List.pairwise_iff_getElem.mp okd.1) jj (j + 1) (by omega) (List.getElem?_eq_some_iff.mp hp').1 (by omega)
              rw [ejj, (List.getElem?_eq_some_iff.mp hp').2] at h8
              omega
            · omega
    exact loop ld.length 0 h2 [] (by omega) ((f1.wd (by omega) (by omega)).tr (f2.wd (by omega) (by omega))) w2 (s1.kept f2 (by omega)) s2 ((sa.kept f1 (by omega)).kept f2 (by omega)) spOk_nil (fun t => ⟨fun z => absurd z (spM_nil t), fun ⟨y, y1, _⟩ => by simp at y1⟩) (fun z hz => by cases hz) (by simp)
  · -- may wait
    refine ⟨w.1.1, a + 20, w.1.p4, so.1, s_Spans_clear so (fun h1 f1 s1 => ?_)⟩
    have w1 := w.o20 f1 ⟨[], s1⟩
    have sa1 := sa.kept f1 (by omega)
    refine ⟨w1.1.1, a + 20, w1.1.p4, a + 17, w1.1.p3, sa1.1, s_Spans_firstOf sa1 (by omega) ⟨s1.1, ?_⟩⟩
    cases la with
    | nil => exact absurd rfl ne
    | cons p la =>
      have hp : (p :: la)[0]? = some p := rfl
      have e : spF (p :: la) 0 = p.1 := spF_at (i := 0) hp
      have bp := bd p (by simp)
      obtain ⟨o1, o2, o3⟩ := spOk_cons ok
      rw [e, jk1000000]
      have ea : spAdd [] p.1 1000000 = [(p.1, 1000000)] := spAdd_nil (by omega)
      refine s_Spans_add s1 (by omega) (by omega) (by rw [ea]; simp) (fun h2 f2 s2 => ?_)
      rw [ea] at s2
      refine k h2 _ ((f1.tr f2).wd (by omega) (by omega)) (w1.o20 f2 ⟨_, s2⟩) (sa1.kept f2 (by omega)) s2 ⟨by simp, by simp; omega⟩ (by simp) (fun t ht => ?_)
      rw [spM_one]
      unfold opL
      rw [if_neg n1, if_pos e0]
      constructor
      · intro z
        exact ⟨p.1, ⟨p, by simp, by omega, by omega⟩, z.1⟩
      · rintro ⟨s', ⟨y, y1, y2, y3⟩, z⟩
        rcases List.mem_cons.mp y1 with rfl | y1
        · exact ⟨by omega, ht⟩
        · have := o3 y y1
          exact ⟨by omega, ht⟩
  · refine s_Spans_copyShifted so sa (by omega) ok (fun z hz => by have := bd z hz; have := ok.2 z hz; omega) (by omega) (by omega) (fun h1 f1 s1 => ?_)
    refine k h1 _ (f1.wd (by omega) (by omega)) (w.o20 f1 ⟨_, s1⟩) (sa.kept f1 (by omega)) s1 (spOk_sh ok) (by simp) (fun t ht => ?_)
    rw [spM_sh]
    unfold opL
    rw [if_pos e1]
    simp
theorem s_Planner_allowEarlier {h : am_H} {a b c d x r i : Nat} {R : List RtStop} {q : RtStop} {P : List Tn} {L : Sl} {S : Sp} {lr : List (Int × Int)} {Q : am_H → Prop} (w : plX h a) (rt : rtA h b 8 R) (hb : a + 49 ≤ b) (hq : R[i]? = some q) (hlv : -500 ≤ q.2.2.2 ∧ q.2.2.2 ≤ 1500) (sh : hpA h d S) (hd : a + 49 ≤ d) (os : spO S) (sl : slA h x c L) (pt : ptA h c r P) (g : gW P) (hx : a + 49 ≤ x) (hc : a + 49 ≤ c)
    (sa : spA h (a + 25 + 3 * i) 128 lr) (ok : spOk lr) (ne : lr ≠ []) (hl : lr.length ≤ 120) (bd : ∀ q ∈ lr, 0 ≤ q.1 ∧ q.2 ≤ 13439)
    (k : ∀ h' lo, fi h h' a (a + 23) → plX h' a → spA h' (a + 25 + 3 * i) 128 lr → spA h' (a + 17) 128 lo → spOk lo → lo.length ≤ lr.length → (∀ q ∈ lo, -1000000 ≤ q.1 ∧ q.2 ≤ 13439) → (∀ t, -1000000 ≤ t → (spM lo t ↔ opE q.2.2.1 (onP 0 P (q.2.2.2 + S.1)) (spM lr) t)) → Q h') : am_Ew m_Planner_allowEarlier 0 0 [.ref a, .ref b, .int (ji i), .ref x, .ref d] h Q := by
  have rl := rt.len
  have hi := (List.getElem?_eq_some_iff.mp hq).1
  have row := rt.row hq
  have os1 := os.1
  obtain ⟨lo0, so⟩ := w.2.2.2.2.1
  have bdm : ∀ u, spM lr u → 0 ≤ u ∧ u ≤ 13439 := by
    rintro u ⟨p, hp, p1, p2⟩
    have := bd p hp
    omega
  refine ev_Planner_allowEarlier a b x d (ji i) h Q ⟨rt.1, s_Route_kindOf rt (by omega) ⟨w.1.1, a + 23, w.1.p5, by rw [w.1.t5], by rw [w.1.t5, ji_in]; omega, a + 25 + 3 * i, by rw [ji_tn, Int.toNat_natCast]; exact w.1.r (by omega), ?_⟩⟩
  rw [rtG_at hq, jk1, jk0, ji_eq, ji_eq]
  refine ⟨fun n1 => ⟨fun n0 => ?_, fun e0 => ?_⟩, fun e1 => ⟨a + 17, w.1.p3, so.1, ?_⟩⟩
  · refine ⟨rt.1, s_Route_levelOf rt (by omega) ⟨sh.1, s_Ship_draught sh ⟨w.1.1, ?_⟩⟩⟩
    rw [ji_add, rtG_at hq]
    refine s_Planner_findDeep w.1 w.2.2.1 sl pt g hx hc (by omega) (fun h1 ld f1 s1 okd hmd hld => ?_)
    have w1 := w.o11 f1 ⟨ld, s1⟩
    obtain ⟨l4, s4⟩ := w1.2.2.2.1
    refine ⟨w1.1.1, a + 14, w1.1.p2, s4.1, s_Spans_clear s4 (fun h2 f2 s2 => ?_)⟩
    have w2 := w1.o14 f2 ⟨[], s2⟩
    have bdd : ∀ p ∈ ld, (0 ≤ p.1 ∧ p.1 ≤ 13439) ∧ (0 ≤ p.2 ∧ p.2 ≤ 13439) := fun p hp => by
      have := okd.2 p hp
      exact ⟨onP_rng g ((hmd p.1).mp ⟨p, hp, by omega, by omega⟩), onP_rng g ((hmd p.2).mp ⟨p, hp, by omega, by omega⟩)⟩
    have loop : ∀ (n j : Nat) (h1 : am_H) (l : List (Int × Int)), j + n = ld.length → fi h h1 a (a + 23) → plX h1 a → spA h1 (a + 11) 24 ld → spA h1 (a + 14) 24 l → spA h1 (a + 25 + 3 * i) 128 lr → spOk l → (∀ t, spM l t ↔ ∃ p ∈ ld.take j, ∃ s, spM lr s ∧ s ≤ p.2 ∧ p.1 ≤ t ∧ t ≤ s) → (∀ q ∈ l, ∀ p, ld[j]? = some p → q.1 ≤ p.1) → l.length ≤ j →
        am_EI m_Planner_allowEarlier 0 0 91 [.ref a, .ref b, .int (ji i), .ref x, .ref d, .int (ji q.2.2.1), .ref (a + 25 + 3 * i), .int (ji j), .float 0] [] h1 (am_qw Q) := by
      intro n
      induction n with
      | zero =>
        intro j h1 l hj hf w1 sd s sa1 okl hm hf2 hlen
        obtain ⟨lo1, so1⟩ := w1.2.2.2.2.1
        refine sg_Planner_allowEarlier_91 a b x d (a + 25 + 3 * i) (ji i) (ji q.2.2.1) (ji j) h1 _ ⟨w1.1.1, a + 11, w1.1.p1, sd.1, s_Spans_size sd ?_⟩
        rw [ji_le]
        refine ⟨fun _ => ⟨w1.1.1, a + 17, w1.1.p3, a + 14, w1.1.p2, so1.1, ?_⟩, fun cc => absurd (by omega) cc⟩
        refine s_Spans_unite so1 sa1 s (by omega) (by omega) ok okl (by omega) (fun h2 lo f2 s2 ok2 hm2 => ?_)
        rw [List.take_of_length_le (by omega)] at hm
        refine k h2 lo (hf.tr (f2.wd (by omega) (by omega))) (w1.o17 f2 ⟨lo, s2⟩) (sa1.kept f2 (by omega)) s2 ok2 ?_ ?_ ?_
        · refine un_len ok2 ok okl hm2 (fun z hz => ?_)
          have z1 := okl.2 z hz
          obtain ⟨p, hp, s', m1, m2, m3, m4⟩ := (hm z.2).mp ⟨z, hz, by omega, by omega⟩
          have := sp_up (t := z.2) (v := s') okl hz (by omega) (by omega) (fun u u1 u2 => (hm u).mpr ⟨p, hp, s', m1, m2, by omega, u2⟩)
          obtain ⟨y, hy, y1, y2⟩ := m1
          exact ⟨y, hy, by omega, by omega⟩
        · intro z hz
          have z1 := ok2.2 z hz
          have cl : ∀ u, spM lo u → 0 ≤ u ∧ u ≤ 13439 := by
            intro u hu
            rcases (hm2 u).mp hu with m | m
            · exact bdm u m
            · obtain ⟨p, hp, s', m1, m2, m3, m4⟩ := (hm u).mp m
              have := bdd p hp
              omega
          have c1 := cl z.1 ⟨z, hz, by omega, by omega⟩
          have c2 := cl z.2 ⟨z, hz, by omega, by omega⟩
          omega
        · intro t ht
          rw [hm2 t, hm t]
          unfold opE
          rw [if_neg n1, if_neg n0]
          refine or_congr Iff.rfl ⟨?_, ?_⟩
          · rintro ⟨p, hp, s', m1, m2, m3, m4⟩
            exact ⟨s', m1, m4, fun u u1 u2 => (hmd u).mp ⟨p, hp, by omega, by omega⟩⟩
          · rintro ⟨s', m1, m2, m3⟩
            obtain ⟨p, hp, p1, p2⟩ := (hmd t).mpr (m3 t (by omega) m2)
            have := sp_up (t := t) (v := s') okd hp p1 p2 (fun u u1 u2 => (hmd u).mpr (m3 u u1 u2))
            exact ⟨p, hp, s', m1, this, p1, m2⟩
      | succ n ih =>
        intro j h1 l hj hf w1 sd s sa1 okl hm hf2 hlen
        obtain ⟨p, hp⟩ : ∃ p, ld[j]? = some p := ⟨_, List.getElem?_eq_getElem (by omega)⟩
        have pm := List.mem_of_getElem? hp
        have bp := bdd p pm
        have po := okd.2 p pm
        refine sg_Planner_allowEarlier_91 a b x d (a + 25 + 3 * i) (ji i) (ji q.2.2.1) (ji j) h1 _ ⟨w1.1.1, a + 11, w1.1.p1, sd.1, s_Spans_size sd ?_⟩
        rw [ji_le]
        refine ⟨fun cc => absurd cc (by omega), fun _ => ⟨w1.1.1, a + 11, w1.1.p1, sd.1, s_Spans_lastOf sd (by omega) ⟨sa1.1, ?_⟩⟩⟩
        rw [spL_at hp]
        refine s_Spans_latestUpTo sa1 (by omega) ?_
        rw [ji_none]
        have nx : ∀ p', ld[j + 1]? = some p' → p.2 + 1 < p'.1 := fun p' hp' => spOk_next okd hp hp'
        rcases spT_cs lr.length (t := p.2) rfl ok with ⟨e1, e2⟩ | ⟨e1, e2, e3⟩
        · refine ⟨fun _ => ?_, fun cc => absurd (by rw [e1]) cc⟩
          rw [jk1, ji_add]
          refine ih (j + 1) h1 l (by omega) hf w1 sd s sa1 okl (fun t => ?_) (fun z hz p' hp' => ?_) (by omega)
          · rw [hm t, take_snoc hp]
            constructor
            · rintro ⟨y, y1, y2⟩
              exact ⟨y, List.mem_append.mpr (Or.inl y1), y2⟩
            · rintro ⟨y, y1, s', m1, m2, m3, m4⟩
              rcases List.mem_append.mp y1 with y1 | y1
              · exact ⟨y, y1, s', m1, m2, m3, m4⟩
              · simp at y1
                subst y1
                exact absurd m1 (e2 s' m2)
          · have := hf2 z hz p hp
            have := nx p' hp'
            omega
        · have be := bdm _ e1
          refine ⟨fun cc => absurd cc ?_, fun _ => ⟨w1.1.1, a + 14, w1.1.p2, a + 11, w1.1.p1, sd.1, s_Spans_firstOf sd (by omega) ⟨s.1, ?_⟩⟩⟩
          · rw [ji_eq (by unfold spNone; omega)]
            unfold spNone
            omega
          rw [spF_at hp, jk1, ji_add]
          obtain ⟨g1, g2, g3⟩ := spAdd_ok (x := p.1) (y := spT lr p.2) okl (fun z hz => hf2 z hz p hp)
          have g4 := spAdd_len l p.1 (spT lr p.2)
          refine s_Spans_add s (by omega) (by omega) (by omega) (fun h2 f2 s2 => ?_)
          refine ih (j + 1) h2 _ (by omega) (hf.tr (f2.wd (by omega) (by omega))) (w1.o14 f2 ⟨_, s2⟩) (sd.kept f2 (by omega)) s2 (sa1.kept f2 (by omega)) g1 (fun t => ?_) (fun z hz p' hp' => ?_) (by omega)
          · rw [g2 t, hm t, take_snoc hp]
            constructor
            · rintro (⟨y, y1, y2⟩ | y)
              · exact ⟨y, List.mem_append.mpr (Or.inl y1), y2⟩
              · exact ⟨p, List.mem_append.mpr (Or.inr (by simp)), _, e1, e2, y.1, y.2⟩
            · rintro ⟨y, y1, s', m1, m2, m3, m4⟩
              rcases List.mem_append.mp y1 with y1 | y1
              · exact Or.inl ⟨y, y1, s', m1, m2, m3, m4⟩
              · simp at y1
                subst y1
                have := e3 s' m2 m1
                exact Or.inr ⟨by omega, by omega⟩
          · have := g3 z hz
            have := nx p' hp'
            omega
    exact loop ld.length 0 h2 [] (by omega) ((f1.wd (by omega) (by omega)).tr (f2.wd (by omega) (by omega))) w2 (s1.kept f2 (by omega)) s2 ((sa.kept f1 (by omega)).kept f2 (by omega)) spOk_nil (fun t => ⟨fun z => absurd z (spM_nil t), fun ⟨y, y1, _⟩ => by simp at y1⟩) (fun z hz => by cases hz) (by simp)
  · refine ⟨a + 17, w.1.p3, so.1, s_Spans_clear so (fun h1 f1 s1 => ?_)⟩
    have w1 := w.o17 f1 ⟨[], s1⟩
    have sa1 := sa.kept f1 (by omega)
    refine ⟨w1.1.1, a + 17, w1.1.p3, sa1.1, ?_⟩
    rw [jk1000000]
    refine s_Spans_latestUpTo sa1 (by omega) ⟨s1.1, ?_⟩
    rw [ji_neg]
    rcases spT_cs lr.length (t := 1000000) rfl ok with ⟨e1, e2⟩ | ⟨e1, e2, e3⟩
    · exfalso
      cases lr with
      | nil => exact ne rfl
      | cons p lr =>
        have bp := bd p (by simp)
        have op := ok.2 p (by simp)
        exact e2 p.1 (by omega) ⟨p, by simp, by omega, by omega⟩
    · have be := bdm _ e1
      have ea : spAdd [] (-1000000) (spT lr 1000000) = [(-1000000, spT lr 1000000)] := spAdd_nil (by omega)
      refine s_Spans_add s1 (by omega) (by omega) (by rw [ea]; simp) (fun h2 f2 s2 => ?_)
      rw [ea] at s2
      have hne : 1 ≤ lr.length := by
        cases lr with
        | nil => exact absurd rfl ne
        | cons p lr => simp
      refine k h2 _ ((f1.tr f2).wd (by omega) (by omega)) (w1.o17 f2 ⟨_, s2⟩) (sa1.kept f2 (by omega)) s2 ⟨by simp, by simp; omega⟩ (by simpa using hne) (by simp; omega) (fun t ht => ?_)
      rw [spM_one]
      unfold opE
      rw [if_neg n1, if_pos e0]
      constructor
      · intro z
        exact ⟨_, e1, z.2⟩
      · rintro ⟨s', z1, z2⟩
        have b := bdm s' z1
        have := e3 s' (by omega) z1
        exact ⟨ht, by show t ≤ spT lr 1000000; omega⟩
  · refine s_Spans_copyShifted so sa (by omega) ok (fun z hz => by have := bd z hz; have := ok.2 z hz; omega) (by omega) (by omega) (fun h1 f1 s1 => ?_)
    refine k h1 _ (f1.wd (by omega) (by omega)) (w.o17 f1 ⟨_, s1⟩) (sa.kept f1 (by omega)) s1 (spOk_sh ok) (by simp) (fun z hz => ?_) (fun t ht => ?_)
    · obtain ⟨y, hy, rfl⟩ := List.mem_map.mp hz
      have := bd y hy
      unfold spSh
      simp
      omega
    · rw [spM_sh]
      unfold opE
      rw [if_pos e1]
      simp
