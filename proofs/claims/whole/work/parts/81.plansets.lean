/-! the planner: the sets of a plan -/
theorem onP_rng {side x t : Int} {P : List Tn} (g : gW P) (h : onP side P x t) : 0 ≤ t ∧ t ≤ 13439 := by
  obtain ⟨j, z, hz, y | y⟩ := h
  · obtain ⟨y, hy, y1, y2, -⟩ := y
    have m1 := g.mem (List.mem_of_getElem? hz)
    have m2 := g.mem (List.mem_of_getElem? hy)
    omega
  · have m1 := g.mem (List.mem_of_getElem? hz)
    obtain ⟨-, y2, -⟩ := y
    omega
theorem gd_on {P : List Tn} {L : Sl} {S : Sp} {t : Int} (h1 : 0 ≤ L.2.2.1) (h : gd P L S t) : ∃ s x, (s = 0 ∨ s = 2) ∧ onP s P x t := by
  unfold gd at h
  split at h
  · exact ⟨_, _, Or.inl rfl, h⟩
  · split at h
    · exact ⟨_, _, Or.inl rfl, h.1⟩
    · split at h
      · exact ⟨_, _, Or.inl rfl, h.2 t (by omega) (by omega)⟩
      · exact ⟨_, _, Or.inr rfl, h⟩
theorem gd_rng {P : List Tn} {L : Sl} {S : Sp} {t : Int} (g : gW P) (h1 : 0 ≤ L.2.2.1) (h : gd P L S t) : 0 ≤ t ∧ t ≤ 13439 := by
  obtain ⟨s, x, -, h⟩ := gd_on h1 h
  exact onP_rng g h
theorem spE_cs : ∀ {l : List (Int × Int)} {t : Int}, spOk l → (spE l t = spNone ∧ ∀ u, t ≤ u → ¬ spM l u) ∨ (spM l (spE l t) ∧ t ≤ spE l t ∧ ∀ u, t ≤ u → spM l u → spE l t ≤ u)
  | [], t, _ => Or.inl ⟨rfl, fun u _ h => spM_nil u h⟩
  | q :: l, t, ok => by
    obtain ⟨h1, h2, h3⟩ := spOk_cons ok
    by_cases c : t ≤ q.2
    · have e : spE (q :: l) t = if q.1 < t then t else q.1 := by
        unfold spE
        rw [List.find?_cons, decide_eq_true c]
      right
      rw [e]
      refine ⟨⟨q, by simp, ?_⟩, ?_, ?_⟩
      · split <;> omega
      · split <;> omega
      · rintro u hu ⟨p, hp, p1, p2⟩
        rcases List.mem_cons.mp hp with rfl | hp
        · split <;> omega
        · have := h3 p hp
          split <;> omega
    · have e : spE (q :: l) t = spE l t := by
        unfold spE
        rw [List.find?_cons, decide_eq_false c]
      rw [e]
      rcases spE_cs (t := t) h2 with ⟨i1, i2⟩ | ⟨i1, i2, i3⟩
      · left
        refine ⟨i1, fun u hu hm => ?_⟩
        rcases spM_cons.mp hm with m | m
        · omega
        · exact i2 u hu m
      · right
        refine ⟨spM_cons.mpr (Or.inr i1), i2, fun u hu hm => ?_⟩
        rcases spM_cons.mp hm with m | m
        · omega
        · exact i3 u hu m
theorem spT_cs : ∀ (n : Nat) {l : List (Int × Int)} {t : Int}, l.length = n → spOk l → (spT l t = spNone ∧ ∀ u, u ≤ t → ¬ spM l u) ∨ (spM l (spT l t) ∧ spT l t ≤ t ∧ ∀ u, u ≤ t → spM l u → u ≤ spT l t) := by
  intro n
  induction n with
  | zero =>
    intro l t hl _
    obtain rfl := List.length_eq_zero_iff.mp hl
    exact Or.inl ⟨rfl, fun u _ h => spM_nil u h⟩
  | succ n ih =>
    intro l t hl ok
    rcases List.eq_nil_or_concat l with rfl | ⟨l0, q, rfl⟩
    · simp at hl
    · rw [List.concat_eq_append] at ok hl ⊢
      obtain ⟨h2, h1, h3⟩ := spOk_split ok
      have er : (l0 ++ [q]).reverse = q :: l0.reverse := by simp
      by_cases c : q.1 ≤ t
      · have e : spT (l0 ++ [q]) t = if t < q.2 then t else q.2 := by
          unfold spT
          rw [er, List.find?_cons, decide_eq_true c]
        right
        rw [e]
        refine ⟨⟨q, by simp, ?_⟩, ?_, ?_⟩
        · split <;> omega
        · split <;> omega
        · rintro u hu ⟨p, hp, p1, p2⟩
          rcases List.mem_append.mp hp with hp | hp
          · have := h3 p hp
            split <;> omega
          · simp at hp
            subst hp
            split <;> omega
      · have e : spT (l0 ++ [q]) t = spT l0 t := by
          unfold spT
          rw [er, List.find?_cons, decide_eq_false c]
        rw [e]
        rcases ih (t := t) (by simpa using hl) h2 with ⟨i1, i2⟩ | ⟨i1, i2, i3⟩
        · left
          refine ⟨i1, fun u hu hm => ?_⟩
          rcases spM_app.mp hm with m | m
          · exact i2 u hu m
          · have := spM_one.mp m
            omega
        · right
          refine ⟨spM_app.mpr (Or.inl i1), i2, fun u hu hm => ?_⟩
          rcases spM_app.mp hm with m | m
          · exact i3 u hu m
          · have := spM_one.mp m
            omega
/-- a union with spans that touch the first ones has no more spans -/
theorem un_len {l l1 l2 : List (Int × Int)} (ok : spOk l) (ok1 : spOk l1) (ok2 : spOk l2) (hm : ∀ t, spM l t ↔ spM l1 t ∨ spM l2 t) (ht : ∀ s ∈ l2, ∃ p ∈ l1, p.1 ≤ s.2 ∧ s.1 ≤ p.2) : l.length ≤ l1.length := by
  have h := sp_cnt l (l1.map (fun p => p.1)) ok (fun q hq => ?_)
  · simpa using h
  · have hq1 := ok.2 q hq
    have key : ∀ p ∈ l1, p.1 ≤ q.2 → q.1 ≤ p.2 → ∃ s ∈ l1.map (fun p => p.1), q.1 ≤ s ∧ s ≤ q.2 := by
      intro p hp c1 c2
      have hp1 := ok1.2 p hp
      refine ⟨p.1, List.mem_map.mpr ⟨p, hp, rfl⟩, ?_, c1⟩
      have := sp_dn (t := if q.1 < p.1 then p.1 else q.1) (v := p.1) ok hq (by split <;> omega) (by split <;> omega) (fun u u1 u2 => (hm u).mpr (Or.inl ⟨p, hp, by omega, by split at u2 <;> omega⟩))
      exact this
    rcases (hm q.1).mp ⟨q, hq, by omega, by omega⟩ with ⟨p, hp, p1, p2⟩ | ⟨s, hs, s1, s2⟩
    · exact key p hp (by omega) p2
    · obtain ⟨p, hp, p1, p2⟩ := ht s hs
      have hp1 := ok1.2 p hp
      have u1 := sp_up (t := q.1) (v := s.2) ok hq (by omega) (by omega) (fun u a b => (hm u).mpr (Or.inr ⟨s, hs, by omega, by omega⟩))
      have d1 := sp_dn (t := q.1) (v := s.1) ok hq (by omega) (by omega) (fun u a b => (hm u).mpr (Or.inr ⟨s, hs, by omega, by omega⟩))
      exact key p hp (by omega) (by omega)
def opL (kd : Int) (dp A : Int → Prop) (t : Int) : Prop := if kd = 1 then A t else if kd = 0 then ∃ s, A s ∧ s ≤ t else A t ∨ ∃ s, A s ∧ s ≤ t ∧ ∀ u, s ≤ u → u ≤ t → dp u
def opE (kd : Int) (dp R : Int → Prop) (a : Int) : Prop := if kd = 1 then R a else if kd = 0 then ∃ r, R r ∧ a ≤ r else R a ∨ ∃ r, R r ∧ a ≤ r ∧ ∀ u, a ≤ u → u ≤ r → dp u
theorem opL_cg {kd : Int} {dp A B : Int → Prop} (h : ∀ t, A t ↔ B t) (t : Int) : opL kd dp A t ↔ opL kd dp B t := by
  have : A = B := funext fun t => propext (h t)
  rw [this]
theorem opE_cg {kd : Int} {dp A B : Int → Prop} (h : ∀ t, A t ↔ B t) (t : Int) : opE kd dp A t ↔ opE kd dp B t := by
  have : A = B := funext fun t => propext (h t)
  rw [this]
theorem opL_ex {kd : Int} {dp A : Int → Prop} {t : Int} (h : opL kd dp A t) : ∃ s, A s ∧ s ≤ t := by
  unfold opL at h
  split at h
  · exact ⟨t, h, by omega⟩
  · split at h
    · exact h
    · rcases h with h | ⟨s, h1, h2, -⟩
      · exact ⟨t, h, by omega⟩
      · exact ⟨s, h1, h2⟩
theorem opE_ex {kd : Int} {dp A : Int → Prop} {t : Int} (h : opE kd dp A t) : ∃ s, A s ∧ t ≤ s := by
  unfold opE at h
  split at h
  · exact ⟨t, h, by omega⟩
  · split at h
    · exact h
    · rcases h with h | ⟨s, h1, h2, -⟩
      · exact ⟨t, h, by omega⟩
      · exact ⟨s, h1, h2⟩
/-- the planner's own cells -/
def plF (h : am_H) (a : Nat) : Prop := am_tg h a = (1, 7) ∧ am_P h a 0 = some (a + 1) ∧ am_P h a 1 = some (a + 11) ∧ am_P h a 2 = some (a + 14) ∧ am_P h a 3 = some (a + 17) ∧ am_P h a 4 = some (a + 20) ∧ am_P h a 5 = some (a + 23) ∧ am_P h a 6 = some (a + 24) ∧ am_tg h (a + 23) = (38, 8) ∧ am_tg h (a + 24) = (20, 8) ∧ ∀ i, i < 8 → am_P h (a + 23) i = some (a + 25 + 3 * i)
def plX (h : am_H) (a : Nat) : Prop := plF h a ∧ wnA h (a + 1) ∧ spX h (a + 11) 24 ∧ spX h (a + 14) 24 ∧ spX h (a + 17) 128 ∧ spX h (a + 20) 128 ∧ ∀ i, i < 8 → spX h (a + 25 + 3 * i) 128
theorem plF.kept {h h' : am_H} {a lo hi : Nat} (s : plF h a) (f : fi h h' lo hi) : plF h' a := by
  unfold plF
  rw [f.2.1, f.2.2.1]
  exact s
theorem plX.kept {h h' : am_H} {a lo hi : Nat} (s : plX h a) (f : fi h h' lo hi) (hd : a + 49 ≤ lo ∨ hi ≤ a) : plX h' a :=
  ⟨s.1.kept f, s.2.1.kept f (by omega), s.2.2.1.kept f (by omega), s.2.2.2.1.kept f (by omega), s.2.2.2.2.1.kept f (by omega), s.2.2.2.2.2.1.kept f (by omega), fun i hi => (s.2.2.2.2.2.2 i hi).kept f (by omega)⟩
/-- a route as the planner needs it -/
def rcA (h : am_H) (b a : Nat) (R : List RtStop) (Pf : Nat → List Tn) (Lf : Nat → Sl) : Prop :=
  rtA h b 8 R ∧ a + 49 ≤ b ∧ 0 < R.length ∧ ∀ i q, R[i]? = some q → (-500 ≤ q.2.2.2 ∧ q.2.2.2 ≤ 1500) ∧ gW (Pf i) ∧ slO (Lf i) ∧ ∃ x c r, am_P h (b + 1) i = some x ∧ slA h x c (Lf i) ∧ ptA h c r (Pf i) ∧ a + 49 ≤ x ∧ a + 49 ≤ c
theorem rcA.kept {h h' : am_H} {a b lo hi : Nat} {R : List RtStop} {Pf : Nat → List Tn} {Lf : Nat → Sl} (s : rcA h b a R Pf Lf) (f : fi h h' lo hi) (hd : hi ≤ a + 49) : rcA h' b a R Pf Lf := by
  obtain ⟨s1, s2, s3, s4⟩ := s
  refine ⟨s1.kept f (by omega), s2, s3, fun i q hq => ?_⟩
  obtain ⟨e1, e2, e3, x, c, r, e4, e5, e6, e7, e8⟩ := s4 i q hq
  exact ⟨e1, e2, e3, x, c, r, by rw [f.2.2.1]; exact e4, e5.kept f (by omega), e6.kept f (by omega), e7, e8⟩
def dpF (R : List RtStop) (Pf : Nat → List Tn) (S : Sp) (i : Nat) : Int → Prop := onP 0 (Pf i) (rtG (fun q => q.2.2.2) R i + S.1)
def gdF (Pf : Nat → List Tn) (Lf : Nat → Sl) (S : Sp) (i : Nat) : Int → Prop := gd (Pf i) (Lf i) S
def kdF (R : List RtStop) (i : Nat) : Int := rtG (fun q => q.2.2.1) R i
def lgF (R : List RtStop) (S : Sp) (i : Nat) : Int := lgM S (rtG (fun q => q.1) R i)
theorem s_Planner_findDeep {h : am_H} {a b c r : Nat} {P : List Tn} {L : Sl} {x : Int} {Q : am_H → Prop} (w : plF h a) (w2 : spX h (a + 11) 24) (sl : slA h b c L) (pt : ptA h c r P) (g : gW P) (hb : a + 49 ≤ b) (hc : a + 49 ≤ c) (hx : -10000 ≤ x ∧ x ≤ 10000)
    (k : ∀ h' l, fi h h' (a + 11) (a + 14) → spA h' (a + 11) 24 l → spOk l → (∀ t, spM l t ↔ onP 0 P x t) → l.length ≤ 8 → Q h') : am_Ew m_Planner_findDeep 0 0 [.ref a, .ref b, .int (ji x)] h Q := by
  obtain ⟨l0, s0⟩ := w2
  have hP := g.2.1
  refine ev_Planner_findDeep a b (ji x) h Q ⟨w.1, a + 11, w.2.2.1, s0.1, s_Spans_clear s0 (fun h1 f1 s1 => ?_)⟩
  have w1 := w.kept f1
  have sl1 := sl.kept f1 (by omega)
  have pt1 := pt.kept f1 (by omega)
  refine ⟨sl1.1, s_Sill_home sl1 ⟨fun q => (by cases q), fun b10 e => ?_⟩⟩
  obtain rfl : c = b10 := Option.some.inj e
  refine ⟨w1.1, a + 11, w1.2.2.1, pt1.1, ?_⟩
  rw [jk0]
  refine s_Port_collect pt1 s1 (by omega) g.1 (Or.inl rfl) hx (by omega) (fun h2 l f2 s2 ok hm _ => ?_)
  exact k h2 l (f1.tr f2) s2 ok hm (on_len g (Or.inl ⟨rfl, rfl⟩) ok hm)
theorem plF.p0 {h : am_H} {a : Nat} (s : plF h a) : am_P h a 0 = some (a + 1) := s.2.1
theorem plF.p1 {h : am_H} {a : Nat} (s : plF h a) : am_P h a 1 = some (a + 11) := s.2.2.1
theorem plF.p2 {h : am_H} {a : Nat} (s : plF h a) : am_P h a 2 = some (a + 14) := s.2.2.2.1
theorem plF.p3 {h : am_H} {a : Nat} (s : plF h a) : am_P h a 3 = some (a + 17) := s.2.2.2.2.1
theorem plF.p4 {h : am_H} {a : Nat} (s : plF h a) : am_P h a 4 = some (a + 20) := s.2.2.2.2.2.1
theorem plF.p5 {h : am_H} {a : Nat} (s : plF h a) : am_P h a 5 = some (a + 23) := s.2.2.2.2.2.2.1
theorem plF.p6 {h : am_H} {a : Nat} (s : plF h a) : am_P h a 6 = some (a + 24) := s.2.2.2.2.2.2.2.1
theorem plF.t5 {h : am_H} {a : Nat} (s : plF h a) : am_tg h (a + 23) = (38, 8) := s.2.2.2.2.2.2.2.2.1
theorem plF.t6 {h : am_H} {a : Nat} (s : plF h a) : am_tg h (a + 24) = (20, 8) := s.2.2.2.2.2.2.2.2.2.1
theorem plF.r {h : am_H} {a : Nat} (s : plF h a) {i : Nat} (hi : i < 8) : am_P h (a + 23) i = some (a + 25 + 3 * i) := s.2.2.2.2.2.2.2.2.2.2 i hi
theorem plX.o11 {h h' : am_H} {a : Nat} (s : plX h a) (f : fi h h' (a + 11) (a + 14)) (n : spX h' (a + 11) 24) : plX h' a :=
  ⟨s.1.kept f, s.2.1.kept f (by omega), n, s.2.2.2.1.kept f (by omega), s.2.2.2.2.1.kept f (by omega), s.2.2.2.2.2.1.kept f (by omega), fun i hi => (s.2.2.2.2.2.2 i hi).kept f (by omega)⟩
theorem plX.o14 {h h' : am_H} {a : Nat} (s : plX h a) (f : fi h h' (a + 14) (a + 14 + 3)) (n : spX h' (a + 14) 24) : plX h' a :=
  ⟨s.1.kept f, s.2.1.kept f (by omega), s.2.2.1.kept f (by omega), n, s.2.2.2.2.1.kept f (by omega), s.2.2.2.2.2.1.kept f (by omega), fun i hi => (s.2.2.2.2.2.2 i hi).kept f (by omega)⟩
theorem plX.o17 {h h' : am_H} {a : Nat} (s : plX h a) (f : fi h h' (a + 17) (a + 17 + 3)) (n : spX h' (a + 17) 128) : plX h' a :=
  ⟨s.1.kept f, s.2.1.kept f (by omega), s.2.2.1.kept f (by omega), s.2.2.2.1.kept f (by omega), n, s.2.2.2.2.2.1.kept f (by omega), fun i hi => (s.2.2.2.2.2.2 i hi).kept f (by omega)⟩
theorem plX.o20 {h h' : am_H} {a : Nat} (s : plX h a) (f : fi h h' (a + 20) (a + 20 + 3)) (n : spX h' (a + 20) 128) : plX h' a :=
  ⟨s.1.kept f, s.2.1.kept f (by omega), s.2.2.1.kept f (by omega), s.2.2.2.1.kept f (by omega), s.2.2.2.2.1.kept f (by omega), n, fun i hi => (s.2.2.2.2.2.2 i hi).kept f (by omega)⟩
theorem plX.o1 {h h' : am_H} {a : Nat} (s : plX h a) (f : fi h h' (a + 1) (a + 1 + 10)) (n : wnA h' (a + 1)) : plX h' a :=
  ⟨s.1.kept f, n, s.2.2.1.kept f (by omega), s.2.2.2.1.kept f (by omega), s.2.2.2.2.1.kept f (by omega), s.2.2.2.2.2.1.kept f (by omega), fun i hi => (s.2.2.2.2.2.2 i hi).kept f (by omega)⟩
theorem plX.oR {h h' : am_H} {a j : Nat} (s : plX h a) (f : fi h h' (a + 25 + 3 * j) (a + 25 + 3 * j + 3)) (n : spX h' (a + 25 + 3 * j) 128) : plX h' a :=
  ⟨s.1.kept f, s.2.1.kept f (by omega), s.2.2.1.kept f (by omega), s.2.2.2.1.kept f (by omega), s.2.2.2.2.1.kept f (by omega), s.2.2.2.2.2.1.kept f (by omega), fun i hi => by
    by_cases c : i = j
    · rw [c]; exact n
    · exact (s.2.2.2.2.2.2 i hi).kept f (by omega)⟩
theorem plX.o24 {h h' : am_H} {a : Nat} (s : plX h a) (f : fi h h' (a + 24) (a + 24 + 1)) : plX h' a :=
  ⟨s.1.kept f, s.2.1.kept f (by omega), s.2.2.1.kept f (by omega), s.2.2.2.1.kept f (by omega), s.2.2.2.2.1.kept f (by omega), s.2.2.2.2.2.1.kept f (by omega), fun i hi => (s.2.2.2.2.2.2 i hi).kept f (by omega)⟩
