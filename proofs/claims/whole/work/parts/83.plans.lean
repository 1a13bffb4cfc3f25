/-! the planner: plans -/
abbrev Wy : Type := (Nat → Int) × (Nat → Int) × (Nat → Int → Prop) × (Nat → Int → Prop)
def wyF (R : List RtStop) (Pf : Nat → List Tn) (Lf : Nat → Sl) (S : Sp) : Wy := (lgF R S, kdF R, dpF R Pf S, gdF Pf Lf S)
def arP (W : Wy) (t0 : Int) : Nat → Int → Prop
  | 0, u => u = t0
  | i + 1, u => opL (W.2.1 i) (W.2.2.1 i) (arP W t0 i) (u - W.1 (i + 1)) ∧ W.2.2.2 i (u - W.1 (i + 1))
def rcP (W : Wy) (t0 : Int) (i : Nat) (u : Int) : Prop := opL (W.2.1 i) (W.2.2.1 i) (arP W t0 i) u ∧ W.2.2.2 i u
theorem arP_succ {W : Wy} {t0 : Int} {i : Nat} {u : Int} : arP W t0 (i + 1) u ↔ rcP W t0 i (u - W.1 (i + 1)) := Iff.rfl
theorem rcP_emp {W : Wy} {t0 : Int} {i : Nat} (h : ∀ u, ¬ rcP W t0 i u) : ∀ (k : Nat) (u : Int), ¬ rcP W t0 (i + k) u
  | 0, u => h u
  | k + 1, u => fun c => by
    obtain ⟨s, s1, -⟩ := opL_ex c.1
    exact rcP_emp h k _ (arP_succ.mp s1)
def psR (W : Wy) (t0 : Int) (n : Nat) (ps : Nat → Int) : Prop := (rcP W t0 (n - 1) (ps (n - 1)) ∧ ∀ u, rcP W t0 (n - 1) u → ps (n - 1) ≤ u) ∧ ∀ i, i + 1 < n → rcP W t0 i (ps i) ∧ ps i ≤ ps (i + 1) - W.1 (i + 1) ∧ ∀ u, rcP W t0 i u → u ≤ ps (i + 1) - W.1 (i + 1) → u ≤ ps i
/-- the same for the stops from m on -/
def psM (W : Wy) (t0 : Int) (n m : Nat) (ps : Nat → Int) : Prop := (m < n → rcP W t0 (n - 1) (ps (n - 1)) ∧ ∀ u, rcP W t0 (n - 1) u → ps (n - 1) ≤ u) ∧ ∀ i, m ≤ i → i + 1 < n → rcP W t0 i (ps i) ∧ ps i ≤ ps (i + 1) - W.1 (i + 1) ∧ ∀ u, rcP W t0 i u → u ≤ ps (i + 1) - W.1 (i + 1) → u ≤ ps i
theorem psM_rc {W : Wy} {t0 : Int} {n m : Nat} {ps : Nat → Int} (h : psM W t0 n m ps) {i : Nat} (h1 : m ≤ i) (h2 : i < n) : rcP W t0 i (ps i) := by
  by_cases c : i + 1 < n
  · exact (h.2 i h1 c).1
  · obtain rfl : i = n - 1 := by omega
    exact (h.1 (by omega)).1
theorem spT_in {l : List (Int × Int)} {t lo hi : Int} (ok : spOk l) (b : ∀ u, spM l u → lo ≤ u ∧ u ≤ hi) (e : ∃ u, spM l u ∧ u ≤ t) : spM l (spT l t) ∧ spT l t ≤ t ∧ (∀ u, u ≤ t → spM l u → u ≤ spT l t) ∧ lo ≤ spT l t ∧ spT l t ≤ hi := by
  rcases spT_cs l.length (t := t) rfl ok with ⟨e1, e2⟩ | ⟨e1, e2, e3⟩
  · obtain ⟨u, u1, u2⟩ := e
    exact absurd u1 (e2 u u2)
  · exact ⟨e1, e2, e3, b _ e1⟩
theorem lgF_bd {h : am_H} {b r : Nat} {R : List RtStop} {S : Sp} (rt : rtA h b r R) (os : spO S) (i : Nat) : 0 ≤ rtG (fun q => q.1) R i ∧ rtG (fun q => q.1) R i ≤ 9999 ∧ 0 ≤ lgF R S i ∧ lgF R S i ≤ 60000 := by
  have hm : 0 ≤ rtG (fun q => q.1) R i ∧ rtG (fun q => q.1) R i ≤ 9999 := by
    cases e : R[i]? with
    | none =>
      have := List.getElem?_eq_none_iff.mp e
      rw [rtG_no (by omega)]
      omega
    | some q =>
      rw [rtG_at e]
      exact (rt.row e).2.2.2.2.1
  exact ⟨hm.1, hm.2, lgM_bd (by have := os.2; omega) hm⟩
theorem s_Planner_choosePasses {h : am_H} {a b d : Nat} {R : List RtStop} {Pf : Nat → List Tn} {Lf : Nat → Sl} {S : Sp} {t : Int} {Q : am_H → Prop} (w : plX h a) (rc : rcA h b a R Pf Lf) (sh : hpA h d S) (hd : a + 49 ≤ d) (os : spO S)
    (rs : ∀ j, j < R.length → ∃ l, spA h (a + 25 + 3 * j) 128 l ∧ spOk l ∧ (∀ u, spM l u ↔ rcP (wyF R Pf Lf S) t j u) ∧ ∀ u, spM l u → 0 ≤ u ∧ u ≤ 13439) (ne : ∃ u, rcP (wyF R Pf Lf S) t (R.length - 1) u)
    (k : ∀ h' ps, fi h h' (a + 24) (a + 24 + 1) → psR (wyF R Pf Lf S) t R.length ps → (∀ i, i < R.length → am_I h' (a + 24) i = ji (ps i) ∧ 0 ≤ ps i ∧ ps i ≤ 13439) → Q h') : am_Ew m_Planner_choosePasses 0 0 [.ref a, .ref b, .ref d, .int (ji R.length)] h Q := by
  have rl := rc.1.len
  have hn := rc.2.2.1
  have hS := os.2
  have loop : ∀ (m : Nat) (h1 : am_H) (ps : Nat → Int) (lim : Int), m ≤ R.length → fi h h1 (a + 24) (a + 24 + 1) → (∀ i, m ≤ i → i < R.length → am_I h1 (a + 24) i = ji (ps i)) → psM (wyF R Pf Lf S) t R.length m ps → (m < R.length → lim = ps m - lgF R S m) → (-100000 ≤ lim ∧ lim ≤ 1000000) →
      am_EI m_Planner_choosePasses 0 0 9 [.ref a, .ref b, .ref d, .int (ji R.length), .int (ji lim), .int (ji (m - 1))] [] h1 (am_qw Q) := by
    intro m
    induction m with
    | zero =>
      intro h1 ps lim hm hf hrow hps hlim hlb
      refine sg_Planner_choosePasses_9 a b d (ji R.length) (ji lim) _ h1 _ ?_
      rw [jk0, ji_lt]
      refine ⟨fun _ => ?_, fun cc => absurd (by omega) cc⟩
      refine k h1 ps hf ⟨hps.1 hn, fun i hi => hps.2 i (by omega) hi⟩ (fun i hi => ⟨hrow i (by omega) hi, ?_⟩)
      obtain ⟨l, -, -, l3, l4⟩ := rs i hi
      exact l4 _ ((l3 _).mpr (psM_rc hps (by omega) hi))
    | succ m ih =>
      intro h1 ps lim hm hf hrow hps hlim hlb
      have w1 := w.o24 hf
      have rc1 := rc.kept hf (by omega)
      have sh1 := sh.kept hf (by omega)
      obtain ⟨l, l1, l2, l3, l4⟩ := rs m (by omega)
      have l1 := l1.kept hf (by omega)
      have lb := lgF_bd rc.1 os m
      have lb' := lgF_bd rc.1 os (m + 1)
      have em : ((m + 1 : Nat) : Int) - 1 = (m : Int) := by omega
      -- the tail, with the pass v
      have tl : ∀ v : Int, (0 ≤ v ∧ v ≤ 13439) → psM (wyF R Pf Lf S) t R.length m (va_up ps m v) → am_EI m_Planner_choosePasses 0 0 9 [.ref a, .ref b, .ref d, .int (ji R.length), .int (am_I (am_si h1 (a + 24) m (ji v)) (a + 24) m - ji (lgM S (rtG (fun q => q.1) R m))), .int (ji m + ji (-1))] [] (am_si h1 (a + 24) m (ji v)) (am_qw Q) := by
        intro v hv hp
        rw [am_I_sis, va_up_at, ji_sub, ji_add]
        have f2 : fi h1 (am_si h1 (a + 24) m (ji v)) (a + 24) (a + 24 + 1) := fi.si (by omega) (by omega)
        refine ih _ _ _ (by omega) (hf.tr f2) (fun i hi1 hi2 => ?_) hp (fun _ => ?_) (by have := lb.2.2; unfold lgF at this; omega)
        · rw [am_I_sis]
          by_cases c : i = m
          · subst c
            rw [va_up_at, va_up_at]
          · rw [va_up_no _ _ c, va_up_no _ _ c]
            exact hrow i (by omega) hi2
        · rw [va_up_at]
          rfl
      refine sg_Planner_choosePasses_9 a b d (ji R.length) (ji lim) _ h1 _ ?_
      rw [em, jk0, jm1, jk1, ji_sub, ji_lt, ji_eq, ji_tn, Int.toNat_natCast]
      refine ⟨fun cc => absurd cc (by omega), fun _ => ⟨w1.1.1, a + 24, w1.1.p6, fun c => ⟨a + 23, w1.1.p5, by rw [w1.1.t5], by rw [w1.1.t5, ji_in]; omega, a + 25 + 3 * m, w1.1.r (by omega), l1.1, ?_⟩, fun c => ⟨a + 23, w1.1.p5, by rw [w1.1.t5], by rw [w1.1.t5, ji_in]; omega, a + 25 + 3 * m, w1.1.r (by omega), l1.1, ?_⟩⟩⟩
      · -- not the last
        have hp1 := psM_rc hps (i := m + 1) (by omega) (by omega)
        obtain ⟨s, s1, s2⟩ := opL_ex hp1.1
        have s3 := arP_succ.mp s1
        have el := hlim (by omega)
        have e0 : (wyF R Pf Lf S).1 (m + 1) = lgF R S (m + 1) := rfl
        rw [e0] at s3
        obtain ⟨t1, t2, t3, t4⟩ := spT_in (t := lim) l2 l4 ⟨_, (l3 _).mpr s3, by omega⟩
        refine s_Spans_latestUpTo l1 (by omega) ⟨by rw [w1.1.t6], by rw [w1.1.t6, ji_in]; omega, w1.1.1, a + 24, w1.1.p6, by rw [w1.1.t6], by rw [w1.1.t6, ji_in]; omega, rc1.1.1, ?_⟩
        have f2 : fi h1 (am_si h1 (a + 24) m (ji (spT l lim))) (a + 24) (a + 24 + 1) := fi.si (by omega) (by omega)
        refine s_Route_milesTo (rc1.1.kept f2 (by have := rc.2.1; omega)) (by omega) ⟨(sh1.kept f2 (by omega)).1, s_Ship_minutesFor (sh1.kept f2 (by omega)) (by omega) (by omega) ?_⟩
        refine tl _ t4 ⟨fun _ => ?_, fun i h1 h2 => ?_⟩
        · rw [va_up_no _ _ (by omega)]
          exact hps.1 (by omega)
        · by_cases ci : i = m
          · subst ci
            rw [va_up_at, va_up_no _ _ (by omega), e0]
            exact ⟨(l3 _).mp t1, by omega, fun u u1 u2 => t3 u (by omega) ((l3 u).mpr u1)⟩
          · rw [va_up_no _ _ ci, va_up_no _ _ (by omega)]
            exact hps.2 i (by omega) h2
      · -- the last
        have eN : R.length - 1 = m := by omega
        obtain ⟨u0, hu0⟩ := ne
        rw [eN] at hu0
        obtain ⟨q0, q1, -⟩ := (l3 u0).mpr hu0
        cases l with
        | nil => cases q1
        | cons p l =>
          have e : spF (p :: l) 0 = p.1 := spF_at (i := 0) rfl
          have op := spOk_cons l2
          have hp : spM (p :: l) p.1 := ⟨p, by simp, by omega, by omega⟩
          refine s_Spans_firstOf l1 (by omega) ⟨by rw [w1.1.t6], by rw [w1.1.t6, ji_in]; omega, w1.1.1, a + 24, w1.1.p6, by rw [w1.1.t6], by rw [w1.1.t6, ji_in]; omega, rc1.1.1, ?_⟩
          rw [e]
          have f2 : fi h1 (am_si h1 (a + 24) m (ji p.1)) (a + 24) (a + 24 + 1) := fi.si (by omega) (by omega)
          refine s_Route_milesTo (rc1.1.kept f2 (by have := rc.2.1; omega)) (by omega) ⟨(sh1.kept f2 (by omega)).1, s_Ship_minutesFor (sh1.kept f2 (by omega)) (by omega) (by omega) ?_⟩
          refine tl _ (l4 _ hp) ⟨fun _ => ?_, fun i h1 h2 => ?_⟩
          · rw [eN, va_up_at]
            refine ⟨(l3 _).mp hp, fun u hu => ?_⟩
            obtain ⟨q0, q1, q2, q3⟩ := (l3 u).mpr hu
            rcases List.mem_cons.mp q1 with rfl | q1
            · exact q2
            · have := op.2.2 q0 q1
              omega
          · omega
  refine ev_Planner_choosePasses a b d (ji R.length) h Q ?_
  rw [jk1, jk1000000, ji_sub]
  exact loop R.length h (fun _ => 0) 1000000 (by omega) fi.rf (fun i h1 h2 => by omega) ⟨fun c => absurd c (by omega), fun i h1 h2 => by omega⟩ (fun c => absurd c (by omega)) (by omega)
theorem gdF_rng {h : am_H} {a b i : Nat} {R : List RtStop} {Pf : Nat → List Tn} {Lf : Nat → Sl} {S : Sp} {u : Int} (rc : rcA h b a R Pf Lf) (hi : i < R.length) (hg : gdF Pf Lf S i u) : 0 ≤ u ∧ u ≤ 13439 := by
  obtain ⟨-, g, -, x, c, r, -, sl, -⟩ := rc.2.2.2 i _ (List.getElem?_eq_getElem hi)
  exact gd_rng g sl.2.2.2.2.2.2.2.2.1.1 hg
theorem s_Planner_plan {h : am_H} {a b d : Nat} {R : List RtStop} {Pf : Nat → List Tn} {Lf : Nat → Sl} {S : Sp} {t : Int} {Q : Int32 → am_H → Prop} (w : plX h a) (rc : rcA h b a R Pf Lf) (sh : hpA h d S) (hd : a + 49 ≤ d) (os : spO S) (ht : 0 ≤ t ∧ t ≤ 99999)
    (k1 : ∀ h' ps, fi h h' a (a + 49) → plX h' a → psR (wyF R Pf Lf S) t R.length ps → (∀ i, i < R.length → am_I h' (a + 24) i = ji (ps i) ∧ 0 ≤ ps i ∧ ps i ≤ 13439) → Q 1 h')
    (k0 : ∀ h', fi h h' a (a + 49) → plX h' a → (∀ u, ¬ rcP (wyF R Pf Lf S) t (R.length - 1) u) → Q 0 h') : am_Ei m_Planner_plan 0 0 [.ref a, .ref b, .ref d, .int (ji t)] h Q := by
  have rl := rc.1.len
  have hn := rc.2.2.1
  have hb := rc.2.1
  have hS := os.2
  have loop : ∀ (n i : Nat) (h1 : am_H) (la : List (Int × Int)), i + n = R.length → fi h h1 a (a + 49) → plX h1 a → spA h1 (a + 17) 128 la → spOk la → la ≠ [] → la.length ≤ 1 + 14 * i → (∀ u, spM la u ↔ arP (wyF R Pf Lf S) t i u) → (∀ q ∈ la, 0 ≤ q.1 ∧ q.2 ≤ 1000000) → (∀ j, j < i → ∃ l, spA h1 (a + 25 + 3 * j) 128 l ∧ spOk l ∧ (∀ u, spM l u ↔ rcP (wyF R Pf Lf S) t j u) ∧ ∀ u, spM l u → 0 ≤ u ∧ u ≤ 13439) → (0 < i → ∃ u, rcP (wyF R Pf Lf S) t (i - 1) u) →
      am_EI m_Planner_plan 0 0 30 [.ref a, .ref b, .ref d, .int (ji t), .int (ji R.length), .int (ji i), .float 0] [] h1 (am_qi Q) := by
    intro n
    induction n with
    | zero =>
      intro i h1 la hi hf w1 sa ok ne hl hm bd rs nx
      obtain rfl : i = R.length := by omega
      refine sg_Planner_plan_30 a b d (ji t) (ji R.length) _ h1 _ ?_
      rw [ji_le]
      refine ⟨fun _ => ⟨w1.1.1, ?_⟩, fun cc => absurd (by omega) cc⟩
      refine s_Planner_choosePasses w1 (rc.kept hf (by omega)) (sh.kept hf (by omega)) hd os rs (nx hn) (fun h2 ps f2 hp hr => ?_)
      exact k1 h2 ps (hf.tr (f2.wd (by omega) (by omega))) (w1.o24 f2) hp hr
    | succ n ih =>
      intro i h1 la hi hf w1 sa ok ne hl hm bd rs nx
      have rc1 := rc.kept hf (by omega)
      have sh1 := sh.kept hf (by omega)
      obtain ⟨q, hq⟩ : ∃ q, R[i]? = some q := ⟨_, List.getElem?_eq_getElem (by omega)⟩
      obtain ⟨lv, g, o, x, c, r, hx, sl, pt, ax, ac⟩ := rc1.2.2.2 i q hq
      refine sg_Planner_plan_30 a b d (ji t) (ji R.length) _ h1 _ ?_
      rw [ji_le]
      refine ⟨fun cc => absurd cc (by omega), fun _ => ⟨rc1.1.1, s_Route_sillOf rc1.1 (by omega) hx ⟨fun z => (by cases z), fun b7 e => ?_⟩⟩⟩
      obtain rfl : x = b7 := Option.some.inj e
      refine ⟨w1.1.1, s_Planner_allowLater w1 rc1.1 hb hq lv sh1 hd os sl pt g ax ac sa ok ne (by omega) bd (fun h2 lo f2 w2 sa2 so2 oko hlo hmo => ?_)⟩
      have sl2 := sl.kept f2 (by omega)
      have pt2 := pt.kept f2 (by omega)
      have sh2 := sh1.kept f2 (by omega)
      refine ⟨w2.1.1, a + 1, w2.1.p0, w2.2.1.1.1, s_Windows_find w2.2.1 sl2 sh2 pt2 g o os (by omega) (by omega) (by omega) (fun h3 lw f3 wn3 sw okw hmw hlw _ => ?_)⟩
      have w3 := w2.o1 f3 wn3
      have so3 := so2.kept f3 (by omega)
      have sa3 := sa2.kept f3 (by omega)
      obtain ⟨lr0, sr0⟩ := w3.2.2.2.2.2.2 i (by omega)
      refine ⟨w3.1.1, a + 23, w3.1.p5, by rw [w3.1.t5], by rw [w3.1.t5, ji_in]; omega, a + 25 + 3 * i, by rw [ji_tn, Int.toNat_natCast]; exact w3.1.r (by omega), a + 20, w3.1.p4, a + 1, w3.1.p0, wn3.1.1, s_Windows_found wn3.1 ⟨fun z => (by cases z), fun b30 e => ?_⟩⟩
      obtain rfl : a + 1 + 1 = b30 := Option.some.inj e
      refine ⟨sr0.1, s_Spans_intersect sr0 so3 sw (by omega) (by omega) oko okw (by omega) (fun h4 l f4 s4 ok4 hm4 hl4 => ?_)⟩
      have w4 := w3.oR f4 ⟨l, s4⟩
      have sa4 := sa3.kept f4 (by omega)
      have F : fi h h4 a (a + 49) := ((hf.tr (f2.wd (by omega) (by omega))).tr (f3.wd (by omega) (by omega))).tr (f4.wd (by omega) (by omega))
      have rc4 := rc.kept F (by omega)
      have sh4 := sh.kept F (by omega)
      have hml : ∀ u, spM l u ↔ rcP (wyF R Pf Lf S) t i u := by
        intro u
        rw [hm4 u, hmw u]
        have e1 : (wyF R Pf Lf S).2.1 i = q.2.2.1 := rtG_at hq
        have e2 : (wyF R Pf Lf S).2.2.1 i = onP 0 (Pf i) (q.2.2.2 + S.1) := by
          show onP 0 (Pf i) (rtG (fun q => q.2.2.2) R i + S.1) = _
          rw [rtG_at hq]
        unfold rcP
        rw [e1, e2]
        constructor
        · rintro ⟨z1, z2⟩
          have zb := gdF_rng rc (i := i) (by omega) z2
          exact ⟨(opL_cg hm u).mp ((hmo u (by omega)).mp z1), z2⟩
        · rintro ⟨z1, z2⟩
          have zb := gdF_rng rc (i := i) (by omega) z2
          exact ⟨(hmo u (by omega)).mpr ((opL_cg hm u).mpr z1), z2⟩
      have hbl : ∀ u, spM l u → 0 ≤ u ∧ u ≤ 13439 := fun u hu => gdF_rng rc (i := i) (by omega) ((hml u).mp hu).2
      refine ⟨w4.1.1, a + 23, w4.1.p5, by rw [w4.1.t5], by rw [w4.1.t5, ji_in]; omega, a + 25 + 3 * i, by rw [ji_tn, Int.toNat_natCast]; exact w4.1.r (by omega), s4.1, s_Spans_size s4 ?_⟩
      rw [jk0, ji_eq, jk1, ji_add]
      have lb := lgF_bd rc.1 os (i + 1)
      refine ⟨fun c1 => ⟨w4.1.1, a + 17, w4.1.p3, a + 23, w4.1.p5, by rw [w4.1.t5], by rw [w4.1.t5, ji_in]; omega, a + 25 + 3 * i, by rw [ji_tn, Int.toNat_natCast]; exact w4.1.r (by omega), rc4.1.1, s_Route_milesTo rc4.1 (by omega) ⟨sh4.1, s_Ship_minutesFor sh4 (by omega) ⟨lb.1, lb.2.1⟩ ⟨sa4.1, ?_⟩⟩⟩, fun c1 => ?_⟩
      · have lb3 : 0 ≤ lgM S (rtG (fun q => q.1) R ((i : Int) + 1)) ∧ lgM S (rtG (fun q => q.1) R ((i : Int) + 1)) ≤ 60000 := lb.2.2
        refine s_Spans_copyShifted sa4 s4 (by omega) ok4 (fun z hz => ?_) (by omega) (by omega) (fun h5 f5 s5 => ?_)
        · have := ok4.2 z hz
          have b1 := hbl z.1 ⟨z, hz, by omega, by omega⟩
          have b2 := hbl z.2 ⟨z, hz, by omega, by omega⟩
          omega
        refine ih (i + 1) h5 _ (by omega) (F.tr (f5.wd (by omega) (by omega))) (w4.o17 f5 ⟨_, s5⟩) s5 (spOk_sh ok4) ?_ ?_ (fun u => ?_) (fun z hz => ?_) (fun j hj => ?_) (fun _ => ?_)
        · intro z
          have := List.map_eq_nil_iff.mp z
          rw [this] at c1
          exact c1 rfl
        · rw [List.length_map]
          omega
        · rw [spM_sh, hml, arP_succ]
          rfl
        · obtain ⟨y, hy, rfl⟩ := List.mem_map.mp hz
          have := ok4.2 y hy
          have b1 := hbl y.1 ⟨y, hy, by omega, by omega⟩
          have b2 := hbl y.2 ⟨y, hy, by omega, by omega⟩
          unfold spSh
          show 0 ≤ y.1 + lgM S (rtG (fun q => q.1) R ((i : Int) + 1)) ∧ y.2 + lgM S (rtG (fun q => q.1) R ((i : Int) + 1)) ≤ 1000000
          omega
        · by_cases cj : j = i
          · subst cj
            exact ⟨l, s4.kept f5 (by omega), ok4, hml, hbl⟩
          · obtain ⟨l', a1, a2⟩ := rs j (by omega)
            exact ⟨l', (((a1.kept f2 (by omega)).kept f3 (by omega)).kept f4 (by omega)).kept f5 (by omega), a2⟩
        · cases l with
          | nil => exact absurd rfl c1
          | cons p l =>
            have := ok4.2 p (by simp)
            exact ⟨p.1, (hml p.1).mp ⟨p, by simp, by omega, by omega⟩⟩
      · obtain rfl : l = [] := List.length_eq_zero_iff.mp (by omega)
        refine k0 h4 F w4 (fun u hu => ?_)
        have := rcP_emp (fun u hu => spM_nil u ((hml u).mpr hu)) (R.length - 1 - i) u
        rw [show i + (R.length - 1 - i) = R.length - 1 by omega] at this
        exact this hu
  obtain ⟨l0, s0⟩ := w.2.2.2.2.1
  refine ev_Planner_plan a b d (ji t) h Q ⟨w.1.1, a + 17, w.1.p3, s0.1, s_Spans_clear s0 (fun h1 f1 s1 => ?_)⟩
  have w1 := w.o17 f1 ⟨_, s1⟩
  refine ⟨w1.1.1, a + 17, w1.1.p3, s1.1, ?_⟩
  have ea : spAdd [] t t = [(t, t)] := spAdd_nil (by omega)
  refine s_Spans_add s1 (by omega) (by omega) (by rw [ea]; simp) (fun h2 f2 s2 => ?_)
  rw [ea] at s2
  have w2 := w1.o17 f2 ⟨_, s2⟩
  have F : fi h h2 a (a + 49) := (f1.tr f2).wd (by omega) (by omega)
  have rc2 := rc.kept F (by omega)
  refine ⟨rc2.1.1, s_Route_stopCount rc2.1 ?_⟩
  rw [jk8]
  refine s_Math_min (by omega) (by omega) ?_
  rw [if_neg (by omega), jk0]
  refine loop R.length 0 h2 [(t, t)] (by omega) F w2 s2 ⟨by simp, by simp⟩ (by simp) (by simp) (fun u => ?_) (by simp; omega) (fun j hj => absurd hj (by omega)) (fun c => absurd c (by omega))
  rw [spM_one]
  show _ ↔ u = t
  omega
def opB (W : Wy) (t : Int) (n : Nat) : Nat → Int → Prop
  | 0, u => 0 ≤ u ∧ u ≤ t
  | j + 1, u => opE (W.2.1 (n - 1 - j)) (W.2.2.1 (n - 1 - j)) (fun v => opB W t n j v ∧ W.2.2.2 (n - 1 - j) v) (u + W.1 (n - 1 - j))
def bkP (W : Wy) (t : Int) (n j : Nat) (u : Int) : Prop := opB W t n j u ∧ W.2.2.2 (n - 1 - j) u
theorem bkP_emp {W : Wy} {t : Int} {n j : Nat} (h : ∀ u, ¬ bkP W t n j u) : ∀ (k : Nat) (u : Int), ¬ bkP W t n (j + k) u
  | 0, u => h u
  | k + 1, u => fun c => by
    obtain ⟨s, s1, -⟩ := opE_ex c.1
    exact bkP_emp h k _ s1
theorem s_Planner_latestStart {h : am_H} {a b d : Nat} {R : List RtStop} {Pf : Nat → List Tn} {Lf : Nat → Sl} {S : Sp} {t : Int} {Q : Int32 → am_H → Prop} (w : plX h a) (rc : rcA h b a R Pf Lf) (sh : hpA h d S) (hd : a + 49 ≤ d) (os : spO S) (ht : 0 ≤ t ∧ t ≤ 99999)
    (k1 : ∀ h' v, fi h h' a (a + 49) → plX h' a → bkP (wyF R Pf Lf S) t R.length (R.length - 1) v → (∀ u, bkP (wyF R Pf Lf S) t R.length (R.length - 1) u → u ≤ v) → 0 ≤ v → v ≤ 13439 → Q (ji v) h')
    (k0 : ∀ h', fi h h' a (a + 49) → plX h' a → (∀ u, ¬ bkP (wyF R Pf Lf S) t R.length (R.length - 1) u) → Q (ji spNone) h') : am_Ei m_Planner_latestStart 0 0 [.ref a, .ref b, .ref d, .int (ji t)] h Q := by
  have rl := rc.1.len
  have hn := rc.2.2.1
  have hb := rc.2.1
  have hS := os.2
  have loop : ∀ (m j : Nat) (h1 : am_H) (lo : List (Int × Int)) (v : Int), m + j = R.length → fi h h1 a (a + 49) → plX h1 a → spA h1 (a + 20) 128 lo → spOk lo → lo.length ≤ 1 + 14 * j → (∀ u, 0 ≤ u → (spM lo u ↔ opB (wyF R Pf Lf S) t R.length j u)) → (0 < j → bkP (wyF R Pf Lf S) t R.length (j - 1) v ∧ (∀ u, bkP (wyF R Pf Lf S) t R.length (j - 1) u → u ≤ v) ∧ 0 ≤ v ∧ v ≤ 13439) →
      am_EI m_Planner_latestStart 0 0 37 [.ref a, .ref b, .ref d, .int (ji t), .int (ji R.length), .int (ji v), .int (ji (m - 1)), .float 0] [] h1 (am_qi Q) := by
    intro m
    induction m with
    | zero =>
      intro j h1 lo v hj hf w1 so ok hl hm hv
      refine sg_Planner_latestStart_37 a b d (ji t) (ji R.length) _ _ h1 _ ?_
      rw [jk0, ji_lt]
      refine ⟨fun _ => ?_, fun cc => absurd (by omega) cc⟩
      obtain rfl : j = R.length := by omega
      obtain ⟨v1, v2, v3, v4⟩ := hv hn
      exact k1 h1 v hf w1 v1 v2 v3 v4
    | succ m ih =>
      intro j h1 lo v hj hf w1 so ok hl hm hv
      have rc1 := rc.kept hf (by omega)
      have sh1 := sh.kept hf (by omega)
      obtain ⟨q, hq⟩ : ∃ q, R[m]? = some q := ⟨_, List.getElem?_eq_getElem (by omega)⟩
      obtain ⟨lv, g, o, x, c, r, hx, sl, pt, ax, ac⟩ := rc1.2.2.2 m q hq
      have em : ((m + 1 : Nat) : Int) - 1 = (m : Int) := by omega
      have ej : R.length - 1 - j = m := by omega
      refine sg_Planner_latestStart_37 a b d (ji t) (ji R.length) _ _ h1 _ ?_
      rw [em, jk0, ji_lt]
      refine ⟨fun cc => absurd cc (by omega), fun _ => ⟨rc1.1.1, s_Route_sillOf rc1.1 (by omega) hx ⟨fun z => (by cases z), fun b7 e => ?_⟩⟩⟩
      obtain rfl : x = b7 := Option.some.inj e
      refine ⟨w1.1.1, a + 1, w1.1.p0, w1.2.1.1.1, s_Windows_find w1.2.1 sl sh1 pt g o os (by omega) (by omega) (by omega) (fun h3 lw f3 wn3 sw okw hmw hlw _ => ?_)⟩
      have w3 := w1.o1 f3 wn3
      have so3 := so.kept f3 (by omega)
      obtain ⟨lr0, sr0⟩ := w3.2.2.2.2.2.2 m (by omega)
      refine ⟨w3.1.1, a + 23, w3.1.p5, by rw [w3.1.t5], by rw [w3.1.t5, ji_in]; omega, a + 25 + 3 * m, by rw [ji_tn, Int.toNat_natCast]; exact w3.1.r (by omega), a + 20, w3.1.p4, a + 1, w3.1.p0, wn3.1.1, s_Windows_found wn3.1 ⟨fun z => (by cases z), fun b30 e => ?_⟩⟩
      obtain rfl : a + 1 + 1 = b30 := Option.some.inj e
      refine ⟨sr0.1, s_Spans_intersect sr0 so3 sw (by omega) (by omega) ok okw (by omega) (fun h4 l f4 s4 ok4 hm4 hl4 => ?_)⟩
      have w4 := w3.oR f4 ⟨l, s4⟩
      have F : fi h h4 a (a + 49) := (hf.tr (f3.wd (by omega) (by omega))).tr (f4.wd (by omega) (by omega))
      have rc4 := rc.kept F (by omega)
      have sh4 := sh.kept F (by omega)
      have hml : ∀ u, spM l u ↔ bkP (wyF R Pf Lf S) t R.length j u := by
        intro u
        rw [hm4 u, hmw u]
        unfold bkP
        rw [ej]
        constructor
        · rintro ⟨z1, z2⟩
          have zb := gdF_rng rc (i := m) (by omega) z2
          exact ⟨(hm u (by omega)).mp z1, z2⟩
        · rintro ⟨z1, z2⟩
          have zb := gdF_rng rc (i := m) (by omega) z2
          exact ⟨(hm u (by omega)).mpr z1, z2⟩
      have hbl : ∀ u, spM l u → 0 ≤ u ∧ u ≤ 13439 := fun u hu => gdF_rng rc (i := m) (by omega) (by have := ((hml u).mp hu).2; rw [ej] at this; exact this)
      refine ⟨w4.1.1, a + 23, w4.1.p5, by rw [w4.1.t5], by rw [w4.1.t5, ji_in]; omega, a + 25 + 3 * m, by rw [ji_tn, Int.toNat_natCast]; exact w4.1.r (by omega), s4.1, ?_⟩
      rw [jk1000000]
      refine s_Spans_latestUpTo s4 (by omega) ?_
      rw [ji_none]
      rcases spT_cs l.length (t := 1000000) rfl ok4 with ⟨e1, e2⟩ | ⟨e1, e2, e3⟩
      · refine ⟨fun cc => absurd (by rw [e1]) cc, fun _ => k0 h4 F w4 (fun u hu => ?_)⟩
        have := bkP_emp (W := wyF R Pf Lf S) (t := t) (n := R.length) (j := j) (fun u hu => by
          have h1 := (hml u).mpr hu
          have h2 := hbl u h1
          exact e2 u (by omega) h1) (R.length - 1 - j) u
        rw [show j + (R.length - 1 - j) = R.length - 1 by omega] at this
        exact this hu
      · have be := hbl _ e1
        have nel : l ≠ [] := by
          rintro rfl
          exact spM_nil _ e1
        refine ⟨fun _ => ⟨w4.1.1, ?_⟩, fun cc => absurd cc ?_⟩
        · obtain ⟨lv4, g4, o4, x4, c4, r4, hx4, sl4, pt4, ax4, ac4⟩ := rc4.2.2.2 m q hq
          have ex : x4 = x := by
            have : am_P h4 (b + 1) m = am_P h1 (b + 1) m := by rw [f4.2.2.1, f3.2.2.1]
            rw [hx4, hx] at this
            exact Option.some.inj this
          subst ex
          refine s_Planner_allowEarlier w4 rc4.1 hb hq lv4 sh4 hd os sl4 pt4 g4 ax4 ac4 s4 ok4 nel (by omega) (fun z hz => ?_) (fun h5 la f5 w5 s5 sa5 oka hla hba hma => ?_)
          · have := ok4.2 z hz
            have b1 := hbl z.1 ⟨z, hz, by omega, by omega⟩
            have b2 := hbl z.2 ⟨z, hz, by omega, by omega⟩
            omega
          have rc5 := rc4.kept f5 (by omega)
          have sh5 := sh4.kept f5 (by omega)
          obtain ⟨lo5, so5⟩ := w5.2.2.2.2.2.1
          have lb := lgF_bd rc.1 os m
          have lb3 : 0 ≤ lgM S (rtG (fun q => q.1) R m) ∧ lgM S (rtG (fun q => q.1) R m) ≤ 60000 := lb.2.2
          refine ⟨w5.1.1, a + 20, w5.1.p4, a + 17, w5.1.p3, rc5.1.1, s_Route_milesTo rc5.1 (by omega) ⟨sh5.1, s_Ship_minutesFor sh5 (by omega) ⟨lb.1, lb.2.1⟩ ⟨so5.1, ?_⟩⟩⟩
          rw [ji_neg, jm1, ji_add]
          refine s_Spans_copyShifted so5 sa5 (by omega) oka (fun z hz => by have := hba z hz; omega) (by omega) (by omega) (fun h6 f6 s6 => ?_)
          refine ih (j + 1) h6 _ _ (by omega) ((F.tr (f5.wd (by omega) (by omega))).tr (f6.wd (by omega) (by omega))) (w5.o20 f6 ⟨_, s6⟩) s6 (spOk_sh oka) (by rw [List.length_map]; omega) (fun u hu => ?_) (fun _ => ⟨(hml _).mp e1, fun u hu => ?_, be⟩)
          · rw [spM_sh, hma _ (by omega)]
            show _ ↔ opE ((wyF R Pf Lf S).2.1 (R.length - 1 - j)) ((wyF R Pf Lf S).2.2.1 (R.length - 1 - j)) (fun v => bkP (wyF R Pf Lf S) t R.length j v) (u + (wyF R Pf Lf S).1 (R.length - 1 - j))
            rw [ej]
            have e1 : (wyF R Pf Lf S).2.1 m = q.2.2.1 := rtG_at hq
            have e2 : (wyF R Pf Lf S).2.2.1 m = onP 0 (Pf m) (q.2.2.2 + S.1) := by
              show onP 0 (Pf m) (rtG (fun q => q.2.2.2) R m + S.1) = _
              rw [rtG_at hq]
            have e3 : (wyF R Pf Lf S).1 m = lgM S (rtG (fun q => q.1) R m) := rfl
            rw [e1, e2, e3, Int.sub_neg]
            exact opE_cg hml _
          · have h1 := (hml u).mpr hu
            have h2 := hbl u h1
            exact e3 u (by omega) h1
        · rw [ji_eq (by unfold spNone; omega)]
          unfold spNone
          omega
  obtain ⟨l0, s0⟩ := w.2.2.2.2.2.1
  refine ev_Planner_latestStart a b d (ji t) h Q ⟨w.1.1, a + 20, w.1.p4, s0.1, s_Spans_clear s0 (fun h1 f1 s1 => ?_)⟩
  have w1 := w.o20 f1 ⟨_, s1⟩
  refine ⟨w1.1.1, a + 20, w1.1.p4, s1.1, ?_⟩
  have ea : spAdd [] 0 t = [(0, t)] := spAdd_nil (by omega)
  rw [jk0]
  refine s_Spans_add s1 (by omega) (by omega) (by rw [ea]; simp) (fun h2 f2 s2 => ?_)
  rw [ea] at s2
  have w2 := w1.o20 f2 ⟨_, s2⟩
  have F : fi h h2 a (a + 49) := (f1.tr f2).wd (by omega) (by omega)
  have rc2 := rc.kept F (by omega)
  refine ⟨rc2.1.1, s_Route_stopCount rc2.1 ?_⟩
  rw [jk8]
  refine s_Math_min (by omega) (by omega) ?_
  rw [if_neg (by omega), ji_none, jk1, ji_sub]
  refine loop R.length 0 h2 [(0, t)] spNone (by omega) F w2 s2 ⟨by simp, by simp; omega⟩ (by simp) (fun u hu => ?_) (fun c => absurd c (by omega))
  rw [spM_one]
  exact Iff.rfl
theorem s_Planner_passOf {h : am_H} {a i : Nat} {Q : Int32 → am_H → Prop} (w : plF h a) (hi : i < 8) (k : Q (am_I h (a + 24) i) h) : am_Ei m_Planner_passOf 0 0 [.ref a, .int (ji i)] h Q := by
  refine ev_Planner_passOf a (ji i) h Q ?_
  rw [jk0, jk8, ji_lt, ji_le, ji_tn, Int.toNat_natCast]
  exact ⟨fun c => absurd c (by omega), fun _ => ⟨fun c => absurd c (by omega), fun _ => ⟨w.1, a + 24, w.p6, by rw [w.t6], by rw [w.t6, ji_in]; omega, k⟩⟩⟩
/-- the way from the first stop to stop i -/
def wyS (lg : Nat → Int) : Nat → Int
  | 0 => 0
  | i + 1 => wyS lg i + lg (i + 1)
theorem wyS_bd {lg : Nat → Int} (h : ∀ i, 0 ≤ lg i ∧ lg i ≤ 60000) : ∀ i : Nat, 0 ≤ wyS lg i ∧ wyS lg i ≤ 60000 * i
  | 0 => by simp [wyS]
  | i + 1 => by
    have := wyS_bd h i
    have := h (i + 1)
    unfold wyS
    omega
theorem s_Planner_waitedFrom {h : am_H} {a b d r : Nat} {R : List RtStop} {S : Sp} {t p : Int} {Q : Int32 → am_H → Prop} (w : plF h a) (rt : rtA h b r R) (hr : R.length ≤ 8) (hn : 0 < R.length) (sh : hpA h d S) (os : spO S) (ht : 0 ≤ t ∧ t ≤ 99999) (hp : am_I h (a + 24) (R.length - 1) = ji p) (bp : 0 ≤ p ∧ p ≤ 13439) (k : Q (ji (p - t - wyS (lgF R S) (R.length - 1))) h) : am_Ei m_Planner_waitedFrom 0 0 [.ref a, .int (ji t), .ref b, .ref d] h Q := by
  have hS := os.2
  have wb := wyS_bd (fun i => (lgF_bd rt os i).2.2)
  have loop : ∀ (n i : Nat), i + n = R.length → 0 < i → am_EI m_Planner_waitedFrom 0 0 17 [.ref a, .int (ji t), .ref b, .ref d, .int (ji (p - t - wyS (lgF R S) (i - 1))), .int (ji i)] [] h (am_qi Q) := by
    intro n
    induction n with
    | zero =>
      intro i hi h0
      obtain rfl : i = R.length := by omega
      refine sg_Planner_waitedFrom_17 a b d (ji t) _ _ h _ ⟨rt.1, s_Route_stopCount rt ?_⟩
      rw [ji_le]
      exact ⟨fun _ => k, fun cc => absurd (by omega) cc⟩
    | succ n ih =>
      intro i hi h0
      have lb := lgF_bd rt os i
      refine sg_Planner_waitedFrom_17 a b d (ji t) _ _ h _ ⟨rt.1, s_Route_stopCount rt ?_⟩
      rw [ji_le]
      refine ⟨fun cc => absurd cc (by omega), fun _ => ⟨rt.1, s_Route_milesTo rt (by omega) ⟨sh.1, s_Ship_minutesFor sh (by omega) ⟨lb.1, lb.2.1⟩ ?_⟩⟩⟩
      rw [ji_sub, jk1, ji_add]
      have := ih (i + 1) (by omega) (by omega)
      rw [show i + 1 - 1 = i - 1 + 1 by omega] at this
      rw [show p - t - wyS (lgF R S) (i - 1) - lgM S (rtG (fun q => q.1) R i) = p - t - wyS (lgF R S) (i - 1 + 1) from ?_]
      · exact this
      · show _ = p - t - (wyS (lgF R S) (i - 1) + lgM S (rtG (fun q => q.1) R ((i - 1 + 1 : Nat) : Int)))
        rw [show i - 1 + 1 = i by omega]
        omega
  refine ev_Planner_waitedFrom a b d (ji t) h Q ⟨rt.1, s_Route_stopCount rt ⟨w.1, ?_⟩⟩
  rw [jk1, ji_sub, show (R.length : Int) - 1 = ((R.length - 1 : Nat) : Int) by omega]
  refine s_Planner_passOf w (by omega) ?_
  rw [hp, ji_sub]
  have := loop (R.length - 1) 1 (by omega) (by omega)
  rw [show p - t - wyS (lgF R S) (1 - 1) = p - t by show p - t - 0 = _; omega] at this
  exact this
