/-! what is asked: the answers, and the class's side of them -/
def ans (s : St) (v : Int) : Int × St := (v, stS s 0)
def rfs (s : St) (w : Int) : Int × St := (-9999, stS s w)
theorem mn_an {h h0 : am_H} {s : St} {v : Int} {X : Int × St} {Q : Int32 → am_H → Prop} (e : X = ans s v) (m : mnA h s) (f0 : fc h0 h) (k : ∀ h', fc h0 h' → mnA h' X.2 → Q (ji X.1) h') : am_Ei m_Main_answer 0 0 [.ref 0, .int (ji v)] h Q := by
  subst e
  exact mn_ans m f0 k
theorem mn_rf {h h0 : am_H} {s : St} {w : Int} {X : Int × St} {Q : Int32 → am_H → Prop} (e : X = rfs s w) (m : mnA h s) (f0 : fc h0 h) (k : ∀ h', fc h0 h' → mnA h' X.2 → Q (ji X.1) h') : am_Ei m_Main_refuse 0 0 [.ref 0, .int (ji w)] h Q := by
  subst e
  exact mn_ref m f0 k
theorem at1_ex {P : List Tn} {t : Int} (ht : ptIn P t) : ∃ j p, at1 P t j p := by
  obtain ⟨i1, i2, i3⟩ := ht
  have go : ∀ k : Nat, k < P.length → (∀ q, P[k + 1]? = some q → t < q.2.1) → ∃ j p, at1 P t j p := by
    intro k
    induction k with
    | zero =>
      intro hk hn
      obtain ⟨p, hp⟩ : ∃ p, P[0]? = some p := ⟨_, List.getElem?_eq_getElem hk⟩
      have e : ptM P 0 = p.2.1 := ptM_at (i := 0) hp
      exact ⟨0, p, hp, by omega, hn⟩
    | succ k ih =>
      intro hk hn
      obtain ⟨p, hp⟩ : ∃ p, P[k + 1]? = some p := ⟨_, List.getElem?_eq_getElem hk⟩
      by_cases c : p.2.1 ≤ t
      · exact ⟨k + 1, p, hp, c, hn⟩
      · refine ih (by omega) (fun q hq => ?_)
        rw [hp] at hq
        cases hq
        omega
  exact go (P.length - 1) (by omega) (fun q hq => by
    have := (List.getElem?_eq_some_iff.mp hq).1
    omega)
theorem wV_ex {P : List Tn} {t : Int} (g : gW P) (ht : ptIn P t) : wV P t (wH P t) ∧ -600000000 ≤ wH P t ∧ wH P t ≤ 600000000 := by
  obtain ⟨j, p, hat⟩ := at1_ex ht
  cases e : P[j + 1]? with
  | none =>
    have w : wV P t p.2.2 := ⟨j, p, hat, Or.inl ⟨e, rfl⟩⟩
    have b := g.1.2.2 p (List.mem_of_getElem? hat.1)
    rw [wH_eq g.1 w]
    exact ⟨w, by omega⟩
  | some q =>
    have w : wV P t ((exc p q t 0).fdiv (12 * (q.2.1 - p.2.1))) := ⟨j, p, hat, Or.inr ⟨q, e, rfl⟩⟩
    have tw := g.1.2.1 j p q hat.1 e
    have tw1 := tw.1
    have bb := exc_bd (x := 0) tw ⟨hat.2.1, hat.2.2 q e⟩ (by omega)
    have fb := fdiv_bd (y := 12 * (q.2.1 - p.2.1)) bb (by omega) (by omega)
    rw [wH_eq g.1 w]
    exact ⟨w, by omega⟩
noncomputable def p_turns (s : St) (n : Int) : Int × St := match gt s.2.1 n with | some P => ans s P.length | none => rfs s 1
noncomputable def p_turn (s : St) (n i w : Int) : Int × St := match gt s.2.1 n with | some P => cif (0 ≤ i ∧ i < P.length) (cif (w = 0) (ans s (ptM P i)) (cif (w = 1) (ans s (ptG P i)) (cif (w = 2) (ans s (cif (ptH P i = true) 1 0)) (rfs s 3)))) (rfs s 1) | none => rfs s 1
noncomputable def p_water (s : St) (n t : Int) : Int × St := match gt s.2.1 n with | some P => cif (ptIn P t) (ans s (wH P t)) (rfs s 1) | none => rfs s 1
noncomputable def p_above (s : St) (n t x : Int) : Int × St := match gt s.2.1 n with | some P => cif (ptIn P t) (cif (-9999 ≤ x ∧ x ≤ 9999) (ans s (cif (x ≤ wH P t) 1 0)) (rfs s 3)) (rfs s 1) | none => rfs s 1
noncomputable def lst (A : Int → Prop) : Int := eps (fun v => (A v ∧ ∀ u, A u → v ≤ u) ∨ (v = -1 ∧ ∀ u, ¬ A u))
theorem lst_min {A : Int → Prop} {v : Int} (h : A v) (hu : ∀ u, A u → v ≤ u) : lst A = v := by
  refine eps_eq (Or.inl ⟨h, hu⟩) (fun w hw => ?_)
  rcases hw with ⟨w1, w2⟩ | ⟨-, w2⟩
  · have := hu w w1
    have := w2 v h
    omega
  · exact absurd h (w2 v)
theorem lst_no {A : Int → Prop} (h : ∀ u, ¬ A u) : lst A = -1 := by
  refine eps_eq (Or.inr ⟨rfl, h⟩) (fun w hw => ?_)
  rcases hw with ⟨w1, w2⟩ | ⟨w1, -⟩
  · exact absurd w1 (h w)
  · exact w1
noncomputable def p_first (s : St) (side n x t : Int) : Int × St := match gt s.2.1 n with | some P => cif (-9999 ≤ x ∧ x ≤ 9999) (ans s (lst (fun u => t ≤ u ∧ onP side P x u))) (rfs s 3) | none => rfs s 1
noncomputable def wl (P : List Tn) (L : Sl) (S : Sp) : List (Int × Int) := Classical.epsilon (fun l => spOk l ∧ ∀ t, spM l t ↔ gd P L S t)
theorem wl_eq {P : List Tn} {L : Sl} {S : Sp} {l : List (Int × Int)} (ok : spOk l) (hm : ∀ t, spM l t ↔ gd P L S t) : wl P L S = l := by
  have h : spOk (wl P L S) ∧ ∀ t, spM (wl P L S) t ↔ gd P L S t := Classical.epsilon_spec (p := fun l => spOk l ∧ ∀ t, spM l t ↔ gd P L S t) ⟨l, ok, hm⟩
  exact spU _ _ h.1 ok (fun t => (h.2 t).trans (hm t).symm)
def pOf (s : St) (L : Nat × Sl) : List Tn := (s.2.1[L.1]?).getD []
noncomputable def p_win (s : St) (a b : Int) (f : List Tn → List (Int × Int) → Int × St) : Int × St := match gt s.2.2.1 a with | some L => (match gt s.2.2.2.1 b with | some S => f (pOf s L) (wl (pOf s L) L.2 S) | none => rfs s 1) | none => rfs s 1
theorem p_win_some {s : St} {a b : Int} {f : List Tn → List (Int × Int) → Int × St} {L : Nat × Sl} {S : Sp} (h1 : gt s.2.2.1 a = some L) (h2 : gt s.2.2.2.1 b = some S) : p_win s a b f = f (pOf s L) (wl (pOf s L) L.2 S) := by
  unfold p_win
  rw [h1, h2]
theorem p_win_no {s : St} {a b : Int} {f : List Tn → List (Int × Int) → Int × St} (h : gt s.2.2.1 a = none ∨ gt s.2.2.2.1 b = none) : p_win s a b f = rfs s 1 := by
  unfold p_win
  rcases h with h | h
  · rw [h]
  · rw [h]
    cases gt s.2.2.1 a <;> rfl
noncomputable def tel (s : St) (l : List Int) (k : Int) : Int × St := cif (0 ≤ k ∧ k < l.length) (ans s (l.getD k.toNat 0)) (rfs s 1)
noncomputable def p_hours (s : St) (a b : Int) : Int × St := p_win s a b (fun _ l => ans s l.length)
noncomputable def p_hour (s : St) (a b k w : Int) : Int × St := p_win s a b (fun _ l => cif (0 ≤ k ∧ k < l.length) (cif (w = 0) (ans s (spF l k)) (cif (w = 1) (ans s (spL l k)) (rfs s 3))) (rfs s 1))
noncomputable def p_minutes (s : St) (a b : Int) : Int × St := p_win s a b (fun _ l => ans s (spC l))
noncomputable def p_good (s : St) (a b t : Int) : Int × St := p_win s a b (fun _ l => ans s (cif (spM l t) 1 0))
noncomputable def p_note (s : St) (a b k : Int) : Int × St := p_win s a b (fun P l => tel s (noteT l (alw P l)) k)
noncomputable def p_count (s : St) (w : Int) : Int × St := cif (w = 0) (ans s s.2.1.length) (cif (w = 1) (ans s s.2.2.1.length) (cif (w = 2) (ans s s.2.2.2.1.length) (cif (w = 3) (ans s s.2.2.2.2.1.length) (cif (w = 4) (ans s s.1.length) (rfs s 3)))))
theorem s_Main_turns {h : am_H} {s : St} {n : Int} {Q : Int32 → am_H → Prop} (m : mnA h s) (hn : -2147483648 ≤ n ∧ n < 2147483648) (k : ∀ h', fc h h' → mnA h' (p_turns s n).2 → Q (ji (p_turns s n).1) h') : am_Ei m_Main_turns 0 0 [.ref 0, .int (ji n)] h Q := by
  refine ev_Main_turns 0 (ji n) h Q ⟨m.1.1, s_Main_portAt m hn (fun e => ⟨fun _ => ⟨m.1.1, ?_⟩, fun b q => (by cases q)⟩) (fun P c e g hc pt hb => ⟨fun q => (by cases q), fun b q => ?_⟩)⟩
  · rw [jk1]
    exact mn_rf (by unfold p_turns; rw [e]) m fc.rf k
  · obtain rfl := Option.some.inj q
    exact ⟨pt.1, s_Port_turnCount pt ⟨m.1.1, mn_an (by unfold p_turns; rw [e]) m fc.rf k⟩⟩
theorem s_Main_turn {h : am_H} {s : St} {n i w : Int} {Q : Int32 → am_H → Prop} (m : mnA h s) (hn : -2147483648 ≤ n ∧ n < 2147483648) (hi : -2147483648 ≤ i ∧ i < 2147483648) (hw : -2147483648 ≤ w ∧ w < 2147483648) (k : ∀ h', fc h h' → mnA h' (p_turn s n i w).2 → Q (ji (p_turn s n i w).1) h') : am_Ei m_Main_turn 0 0 [.ref 0, .int (ji n), .int (ji i), .int (ji w)] h Q := by
  refine ev_Main_turn 0 (ji n) (ji i) (ji w) h Q ⟨m.1.1, s_Main_portAt m hn (fun e => ⟨fun _ => ⟨m.1.1, ?_⟩, fun b q => (by cases q)⟩) (fun P c e g hc pt hb => ⟨fun q => (by cases q), fun b q => ?_⟩)⟩
  · rw [jk1]
    exact mn_rf (by unfold p_turn; rw [e]) m fc.rf k
  · obtain rfl := Option.some.inj q
    have pl := pt.len
    rw [jk0, jk1, jk2, jk3, ji_lt, ji_eq, ji_eq, ji_eq]
    refine ⟨fun c1 => ⟨m.1.1, mn_rf (by unfold p_turn; rw [e]; exact cif_neg (by omega)) m fc.rf k⟩, fun c1 => ⟨pt.1, s_Port_turnCount pt ?_⟩⟩
    rw [ji_lt]
    refine ⟨fun c2 => ⟨fun w0 => ⟨pt.1, s_Port_minuteOf pt hi ⟨m.1.1, mn_an ?_ m fc.rf k⟩⟩, fun w1 => ⟨pt.1, s_Port_heightOf pt hi ⟨m.1.1, mn_an ?_ m fc.rf k⟩⟩, fun w2 => ⟨pt.1, s_Port_isHigh pt hi ?_⟩, fun n0 n1 n2 => ⟨m.1.1, mn_rf ?_ m fc.rf k⟩⟩, fun c2 => ⟨m.1.1, mn_rf (by unfold p_turn; rw [e]; exact cif_neg (by omega)) m fc.rf k⟩⟩
    · unfold p_turn
      rw [e]
      exact (cif_pos (by omega)).trans (cif_pos w0)
    · unfold p_turn
      rw [e]
      exact (cif_pos (by omega)).trans ((cif_neg (by omega)).trans (cif_pos w1))
    · have er : p_turn s n i w = ans s (cif (ptH P i = true) 1 0) := by
        unfold p_turn
        rw [e]
        exact (cif_pos (by omega)).trans ((cif_neg (by omega)).trans ((cif_neg (by omega)).trans (cif_pos w2)))
      rw [show (ji 0 : Int32) = 0 from rfl, bi_0]
      refine ⟨fun c => ⟨m.1.1, ?_⟩, fun c => ⟨m.1.1, ?_⟩⟩
      · rw [jk0]
        exact mn_an (er.trans (by rw [cif_neg (by rw [c]; decide)])) m fc.rf k
      · exact mn_an (er.trans (by rw [cif_pos (by cases e2 : ptH P i; exact absurd e2 c; rfl)])) m fc.rf k
    · unfold p_turn
      rw [e]
      exact (cif_pos (by omega)).trans ((cif_neg n0).trans ((cif_neg n1).trans (cif_neg n2)))
theorem s_Main_water {h : am_H} {s : St} {n t : Int} {Q : Int32 → am_H → Prop} (m : mnA h s) (hn : -2147483648 ≤ n ∧ n < 2147483648) (ht : -2147483648 ≤ t ∧ t < 2147483648) (k : ∀ h', fc h h' → mnA h' (p_water s n t).2 → Q (ji (p_water s n t).1) h') : am_Ei m_Main_water 0 0 [.ref 0, .int (ji n), .int (ji t)] h Q := by
  refine ev_Main_water 0 (ji n) (ji t) h Q ⟨m.1.1, s_Main_portAt m hn (fun e => ⟨fun _ => ⟨m.1.1, ?_⟩, fun b q => (by cases q)⟩) (fun P c e g hc pt hb => ⟨fun q => (by cases q), fun b q => ?_⟩)⟩
  · rw [jk1]
    exact mn_rf (by unfold p_water; rw [e]) m fc.rf k
  · obtain rfl := Option.some.inj q
    rw [jk1]
    refine ⟨pt.1, s_Port_hasMinute pt ht (fun c1 => ⟨fun _ => ⟨pt.1, s_Port_wholeHeightAt pt g.1 c1 ⟨m.1.1, mn_an ?_ m fc.rf k⟩⟩, fun q => absurd q (by decide)⟩) (fun c1 => ⟨fun q => absurd rfl q, fun _ => ⟨m.1.1, mn_rf ?_ m fc.rf k⟩⟩)⟩
    · unfold p_water
      rw [e]
      exact cif_pos c1
    · unfold p_water
      rw [e]
      exact cif_neg c1
theorem s_Main_isHeightToAsk {x : Int} {h : am_H} {Q : Int32 → am_H → Prop} (hx : -2147483648 ≤ x ∧ x < 2147483648) (k1 : -9999 ≤ x ∧ x ≤ 9999 → Q 1 h) (k0 : ¬ (-9999 ≤ x ∧ x ≤ 9999) → Q 0 h) : am_Ei m_Main_isHeightToAsk 0 0 [.int (ji x)] h Q := by
  refine ev_Main_isHeightToAsk (ji x) h Q ?_
  rw [jm9999, jk9999, ji_lt, ji_lt]
  exact ⟨fun c => k0 (by omega), fun c => ⟨fun c2 => k0 (by omega), fun c2 => k1 (by omega)⟩⟩
theorem s_Main_isNumberToAsk {x : Int} {h : am_H} {Q : Int32 → am_H → Prop} (hx : -2147483648 ≤ x ∧ x < 2147483648) (k1 : 0 ≤ x ∧ x ≤ 99999 → Q 1 h) (k0 : ¬ (0 ≤ x ∧ x ≤ 99999) → Q 0 h) : am_Ei m_Main_isNumberToAsk 0 0 [.int (ji x)] h Q := by
  refine ev_Main_isNumberToAsk (ji x) h Q ?_
  rw [jk99999, show ((ji x < 0) ↔ (ji x < ji 0)) from Iff.rfl, ji_lt, ji_lt]
  exact ⟨fun c => k0 (by omega), fun c => ⟨fun c2 => k0 (by omega), fun c2 => k1 (by omega)⟩⟩
theorem s_Main_above {h : am_H} {s : St} {n t x : Int} {Q : Int32 → am_H → Prop} (m : mnA h s) (hn : -2147483648 ≤ n ∧ n < 2147483648) (ht : -2147483648 ≤ t ∧ t < 2147483648) (hx : -2147483648 ≤ x ∧ x < 2147483648) (k : ∀ h', fc h h' → mnA h' (p_above s n t x).2 → Q (ji (p_above s n t x).1) h') : am_Ei m_Main_above 0 0 [.ref 0, .int (ji n), .int (ji t), .int (ji x)] h Q := by
  refine ev_Main_above 0 (ji n) (ji t) (ji x) h Q ⟨m.1.1, s_Main_portAt m hn (fun e => ⟨fun _ => ⟨m.1.1, ?_⟩, fun b q => (by cases q)⟩) (fun P c e g hc pt hb => ⟨fun q => (by cases q), fun b q => ?_⟩)⟩
  · rw [jk1]
    exact mn_rf (by unfold p_above; rw [e]) m fc.rf k
  · obtain rfl := Option.some.inj q
    rw [jk1, jk3]
    refine ⟨pt.1, s_Port_hasMinute pt ht (fun c1 => ⟨fun _ => s_Main_isHeightToAsk hx (fun c2 => ⟨fun _ => ⟨pt.1, s_Port_wholeHeightAt pt g.1 c1 ?_⟩, fun q => absurd q (by decide)⟩) (fun c2 => ⟨fun q => absurd rfl q, fun _ => ⟨m.1.1, mn_rf ?_ m fc.rf k⟩⟩), fun q => absurd q (by decide)⟩) (fun c1 => ⟨fun q => absurd rfl q, fun _ => ⟨m.1.1, mn_rf ?_ m fc.rf k⟩⟩)⟩
    · have wb := (wV_ex g c1).2
      have er : p_above s n t x = ans s (cif (x ≤ wH P t) 1 0) := by
        unfold p_above
        rw [e]
        exact (cif_pos c1).trans (cif_pos c2)
      rw [ji_lt]
      refine ⟨fun c3 => ⟨m.1.1, ?_⟩, fun c3 => ⟨m.1.1, ?_⟩⟩
      · rw [jk0]
        exact mn_an (er.trans (by rw [cif_neg (by omega)])) m fc.rf k
      · exact mn_an (er.trans (by rw [cif_pos (by omega)])) m fc.rf k
    · unfold p_above
      rw [e]
      exact (cif_pos c1).trans (cif_neg c2)
    · unfold p_above
      rw [e]
      exact cif_neg c1
theorem s_Main_firstMinuteWhere {h : am_H} {s : St} {side n x t : Int} {Q : Int32 → am_H → Prop} (m : mnA h s) (hs : side = 0 ∨ side = 1 ∨ side = 2) (hn : -2147483648 ≤ n ∧ n < 2147483648) (hx : -2147483648 ≤ x ∧ x < 2147483648) (ht : -2147483648 ≤ t ∧ t < 2147483648) (k : ∀ h', fc h h' → mnA h' (p_first s side n x t).2 → Q (ji (p_first s side n x t).1) h') : am_Ei m_Main_firstMinuteWhere 0 0 [.ref 0, .int (ji side), .int (ji n), .int (ji x), .int (ji t)] h Q := by
  refine ev_Main_firstMinuteWhere 0 (ji side) (ji n) (ji x) (ji t) h Q ⟨m.1.1, s_Main_portAt m hn (fun e => ⟨fun _ => ⟨m.1.1, ?_⟩, fun b q => (by cases q)⟩) (fun P c e g hc pt hb => ⟨fun q => (by cases q), fun b q => ?_⟩)⟩
  · rw [jk1]
    exact mn_rf (by unfold p_first; rw [e]) m fc.rf k
  · obtain rfl := Option.some.inj q
    rw [jk3, jm1, ji_none]
    obtain ⟨mF, mX, -⟩ := id m
    obtain ⟨l0, s0⟩ := mX.2.2.2.2.1
    have h16 := g.2.1
    refine s_Main_isHeightToAsk hx (fun c2 => ⟨fun _ => ⟨m.1.1, 33, mF.2.2.2.2.2.2.2.2.2.1, pt.1, s_Port_collect pt s0 (by omega) g.1 hs (by omega) (by omega) (fun h1 l f1 s1 ok hm _ => ?_)⟩, fun q => absurd q (by decide)⟩) (fun c2 => ⟨fun q => absurd rfl q, fun _ => ⟨m.1.1, mn_rf (by unfold p_first; rw [e]; exact cif_neg c2) m fc.rf k⟩⟩)
    have m1 := m.work f1 (by omega) (by omega) (mX.oS f1 ⟨l, s1⟩)
    have fc1 := fc.of f1 (by omega)
    refine ⟨m1.1.1, 33, m1.1.2.2.2.2.2.2.2.2.2.1, s1.1, s_Spans_earliestFrom s1 ht ?_⟩
    have er : p_first s side n x t = ans s (lst (fun u => t ≤ u ∧ onP side P x u)) := by
      unfold p_first
      rw [e]
      exact cif_pos c2
    rcases spE_cs (t := t) ok with ⟨e1, e2⟩ | ⟨e1, e2, e3⟩
    · refine ⟨fun q => absurd (by rw [e1]) q, fun _ => ⟨m1.1.1, mn_an (er.trans ?_) m1 fc1 k⟩⟩
      rw [lst_no (fun u hu => e2 u hu.1 ((hm u).mpr hu.2))]
    · obtain ⟨z, z1, z2, z3⟩ := id e1
      have zb := s1.bd z z1
      refine ⟨fun _ => ⟨m1.1.1, mn_an (er.trans ?_) m1 fc1 k⟩, fun q => absurd q ?_⟩
      · rw [lst_min (v := spE l t) ⟨e2, (hm _).mp e1⟩ (fun u hu => e3 u hu.1 ((hm u).mpr hu.2))]
      · rw [ji_eq (by unfold spNone; omega)]
        unfold spNone
        omega
theorem s_Main_rise {h : am_H} {s : St} {n x t : Int} {Q : Int32 → am_H → Prop} (m : mnA h s) (hn : -2147483648 ≤ n ∧ n < 2147483648) (hx : -2147483648 ≤ x ∧ x < 2147483648) (ht : -2147483648 ≤ t ∧ t < 2147483648) (k : ∀ h', fc h h' → mnA h' (p_first s 0 n x t).2 → Q (ji (p_first s 0 n x t).1) h') : am_Ei m_Main_rise 0 0 [.ref 0, .int (ji n), .int (ji x), .int (ji t)] h Q := by
  refine ev_Main_rise 0 (ji n) (ji x) (ji t) h Q ⟨m.1.1, ?_⟩
  rw [jk0]
  exact s_Main_firstMinuteWhere m (Or.inl rfl) hn hx ht k
theorem s_Main_ebb {h : am_H} {s : St} {n x t : Int} {Q : Int32 → am_H → Prop} (m : mnA h s) (hn : -2147483648 ≤ n ∧ n < 2147483648) (hx : -2147483648 ≤ x ∧ x < 2147483648) (ht : -2147483648 ≤ t ∧ t < 2147483648) (k : ∀ h', fc h h' → mnA h' (p_first s 1 n x t).2 → Q (ji (p_first s 1 n x t).1) h') : am_Ei m_Main_ebb 0 0 [.ref 0, .int (ji n), .int (ji x), .int (ji t)] h Q := by
  refine ev_Main_ebb 0 (ji n) (ji x) (ji t) h Q ⟨m.1.1, ?_⟩
  rw [jk1]
  exact s_Main_firstMinuteWhere m (Or.inr (Or.inl rfl)) hn hx ht k
theorem s_Main_findWindows {h : am_H} {s : St} {a b : Int} {Q : Int32 → am_H → Prop} (m : mnA h s) (ha : -2147483648 ≤ a ∧ a < 2147483648) (hb : -2147483648 ≤ b ∧ b < 2147483648) (k0 : (gt s.2.2.1 a = none ∨ gt s.2.2.2.1 b = none) → Q 0 h)
    (k1 : ∀ L S h' l, gt s.2.2.1 a = some L → gt s.2.2.2.1 b = some S → fc h h' → mnA h' s → spA h' 24 24 l → wl (pOf s L) L.2 S = l → spOk l → (∀ t, spM l t → 0 ≤ t ∧ t ≤ 13439) → l.length ≤ 15 → am_I h' 23 3 = bi (alw (pOf s L) l) → Q 1 h') : am_Ei m_Main_findWindows 0 0 [.ref 0, .int (ji a), .int (ji b)] h Q := by
  refine ev_Main_findWindows 0 (ji a) (ji b) h Q ⟨m.1.1, s_Main_sillAt m ha (fun e => ⟨fun _ => ⟨m.1.1, s_Main_shipAt m hb (fun e2 => ⟨fun _ => k0 (Or.inl e), fun _ _ => k0 (Or.inl e)⟩) (fun S x e2 _ _ _ => ⟨fun _ => k0 (Or.inl e), fun _ _ => k0 (Or.inl e)⟩)⟩, fun b q => (by cases q)⟩) (fun L x c P e o hx sl ax hP g pt ac => ⟨fun q => (by cases q), fun b4 q4 => ⟨m.1.1, s_Main_shipAt m hb (fun e2 => ⟨fun _ => k0 (Or.inr e2), fun _ q => by cases q⟩) (fun S y e2 os sh ay => ⟨fun q => (by cases q), fun b14 q14 => ?_⟩)⟩⟩)⟩
  obtain rfl := Option.some.inj q4
  obtain rfl := Option.some.inj q14
  obtain ⟨mF, mX, -⟩ := id m
  have wn := mX.2.2.2.1
  have ep : pOf s L = P := by
    unfold pOf
    rw [hP]
    rfl
  refine ⟨m.1.1, 23, mF.2.2.2.2.2.2.2.2.1, wn.1.1, s_Windows_find wn sl sh pt g o os (by omega) (by omega) (by omega) (fun h1 l f1 wn1 s1 ok hm hl hal => ?_)⟩
  refine k1 L S h1 l e e2 (fc.of f1 (by omega)) (m.work f1 (by omega) (by omega) (mX.oW f1 wn1)) s1 ?_ ok (fun t ht => ?_) hl ?_
  · rw [ep]
    exact wl_eq ok hm
  · exact gd_rng g sl.2.2.2.2.2.2.2.2.1.1 ((hm t).mp ht)
  · rw [ep]
    exact hal
theorem mnA.w {h : am_H} {s : St} (m : mnA h s) : am_P h 0 7 = some 23 ∧ wnF h 23 := ⟨m.1.2.2.2.2.2.2.2.2.1, m.2.1.2.2.2.1.1⟩
theorem s_Main_hours {h : am_H} {s : St} {a b : Int} {Q : Int32 → am_H → Prop} (m : mnA h s) (ha : -2147483648 ≤ a ∧ a < 2147483648) (hb : -2147483648 ≤ b ∧ b < 2147483648) (k : ∀ h', fc h h' → mnA h' (p_hours s a b).2 → Q (ji (p_hours s a b).1) h') : am_Ei m_Main_hours 0 0 [.ref 0, .int (ji a), .int (ji b)] h Q := by
  refine ev_Main_hours 0 (ji a) (ji b) h Q ⟨m.1.1, s_Main_findWindows m ha hb (fun c => ⟨fun q => absurd rfl q, fun _ => ⟨m.1.1, ?_⟩⟩) (fun L S h1 l e1 e2 f1 m1 s1 ew ok bd hl hal => ⟨fun _ => ⟨m1.1.1, 23, m1.w.1, m1.w.2.1, s_Windows_found m1.w.2 ⟨fun q => (by cases q), fun b11 q => ?_⟩⟩, fun q => absurd q (by decide)⟩)⟩
  · rw [jk1]
    exact mn_rf (p_win_no c) m fc.rf k
  · obtain rfl := Option.some.inj q
    exact ⟨s1.1, s_Spans_size s1 ⟨m1.1.1, mn_an ((p_win_some e1 e2).trans (by rw [ew])) m1 f1 k⟩⟩
theorem s_Main_minutes {h : am_H} {s : St} {a b : Int} {Q : Int32 → am_H → Prop} (m : mnA h s) (ha : -2147483648 ≤ a ∧ a < 2147483648) (hb : -2147483648 ≤ b ∧ b < 2147483648) (k : ∀ h', fc h h' → mnA h' (p_minutes s a b).2 → Q (ji (p_minutes s a b).1) h') : am_Ei m_Main_minutes 0 0 [.ref 0, .int (ji a), .int (ji b)] h Q := by
  refine ev_Main_minutes 0 (ji a) (ji b) h Q ⟨m.1.1, s_Main_findWindows m ha hb (fun c => ⟨fun q => absurd rfl q, fun _ => ⟨m.1.1, ?_⟩⟩) (fun L S h1 l e1 e2 f1 m1 s1 ew ok bd hl hal => ⟨fun _ => ⟨m1.1.1, 23, m1.w.1, m1.w.2.1, s_Windows_found m1.w.2 ⟨fun q => (by cases q), fun b11 q => ?_⟩⟩, fun q => absurd q (by decide)⟩)⟩
  · rw [jk1]
    exact mn_rf (p_win_no c) m fc.rf k
  · obtain rfl := Option.some.inj q
    exact ⟨s1.1, s_Spans_countAll s1 ⟨m1.1.1, mn_an ((p_win_some e1 e2).trans (by rw [ew])) m1 f1 k⟩⟩
theorem s_Main_good {h : am_H} {s : St} {a b t : Int} {Q : Int32 → am_H → Prop} (m : mnA h s) (ha : -2147483648 ≤ a ∧ a < 2147483648) (hb : -2147483648 ≤ b ∧ b < 2147483648) (ht : -2147483648 ≤ t ∧ t < 2147483648) (k : ∀ h', fc h h' → mnA h' (p_good s a b t).2 → Q (ji (p_good s a b t).1) h') : am_Ei m_Main_good 0 0 [.ref 0, .int (ji a), .int (ji b), .int (ji t)] h Q := by
  refine ev_Main_good 0 (ji a) (ji b) (ji t) h Q ⟨m.1.1, s_Main_findWindows m ha hb (fun c => ⟨fun q => absurd rfl q, fun _ => ⟨m.1.1, ?_⟩⟩) (fun L S h1 l e1 e2 f1 m1 s1 ew ok bd hl hal => ⟨fun _ => ⟨m1.1.1, 23, m1.w.1, m1.w.2.1, s_Windows_found m1.w.2 ⟨fun q => (by cases q), fun b11 q => ?_⟩⟩, fun q => absurd q (by decide)⟩)⟩
  · rw [jk1]
    exact mn_rf (p_win_no c) m fc.rf k
  · obtain rfl := Option.some.inj q
    refine ⟨s1.1, s_Spans_has s1 ht (fun c => ⟨fun q => absurd q (by decide), fun _ => ⟨m1.1.1, ?_⟩⟩) (fun c => ⟨fun _ => ⟨m1.1.1, ?_⟩, fun q => absurd rfl q⟩) ok⟩
    · rw [jk1]
      exact mn_an ((p_win_some e1 e2).trans (by rw [ew, cif_pos c])) m1 f1 k
    · rw [jk0]
      exact mn_an ((p_win_some e1 e2).trans (by rw [ew, cif_neg c])) m1 f1 k
theorem s_Main_hour {h : am_H} {s : St} {a b i w : Int} {Q : Int32 → am_H → Prop} (m : mnA h s) (ha : -2147483648 ≤ a ∧ a < 2147483648) (hb : -2147483648 ≤ b ∧ b < 2147483648) (hi : -2147483648 ≤ i ∧ i < 2147483648) (hw : -2147483648 ≤ w ∧ w < 2147483648) (k : ∀ h', fc h h' → mnA h' (p_hour s a b i w).2 → Q (ji (p_hour s a b i w).1) h') : am_Ei m_Main_hour 0 0 [.ref 0, .int (ji a), .int (ji b), .int (ji i), .int (ji w)] h Q := by
  refine ev_Main_hour 0 (ji a) (ji b) (ji i) (ji w) h Q ⟨m.1.1, s_Main_findWindows m ha hb (fun c => ⟨fun _ => ⟨m.1.1, ?_⟩, fun q => absurd rfl q⟩) (fun L S h1 l e1 e2 f1 m1 s1 ew ok bd hl hal => ⟨fun q => absurd q (by decide), fun _ => ?_⟩)⟩
  · rw [jk1]
    exact mn_rf (p_win_no c) m fc.rf k
  · have er := p_win_some (f := fun _ l => cif (0 ≤ i ∧ i < l.length) (cif (w = 0) (ans s (spF l i)) (cif (w = 1) (ans s (spL l i)) (rfs s 3))) (rfs s 1)) e1 e2
    rw [ew] at er
    rw [jk0, jk1, jk3, ji_lt, ji_eq, ji_eq]
    refine ⟨fun c1 => ⟨m1.1.1, mn_rf (er.trans (cif_neg (by omega))) m1 f1 k⟩, fun c1 => ⟨m1.1.1, 23, m1.w.1, m1.w.2.1, s_Windows_found m1.w.2 ⟨fun q => (by cases q), fun b11 q => ?_⟩⟩⟩
    obtain rfl := Option.some.inj q
    refine ⟨s1.1, s_Spans_size s1 ?_⟩
    rw [ji_lt]
    refine ⟨fun c2 => ⟨fun w0 => ⟨m1.1.1, 23, m1.w.1, m1.w.2.1, s_Windows_found m1.w.2 ⟨fun q => (by cases q), fun b12 q => ?_⟩⟩, fun w1 => ⟨m1.1.1, 23, m1.w.1, m1.w.2.1, s_Windows_found m1.w.2 ⟨fun q => (by cases q), fun b12 q => ?_⟩⟩, fun n0 n1 => ⟨m1.1.1, mn_rf (er.trans ((cif_pos (by omega)).trans ((cif_neg n0).trans (cif_neg n1)))) m1 f1 k⟩⟩, fun c2 => ⟨m1.1.1, mn_rf (er.trans (cif_neg (by omega))) m1 f1 k⟩⟩
    · obtain rfl := Option.some.inj q
      exact ⟨s1.1, s_Spans_firstOf s1 hi ⟨m1.1.1, mn_an (er.trans ((cif_pos (by omega)).trans (cif_pos w0))) m1 f1 k⟩⟩
    · obtain rfl := Option.some.inj q
      exact ⟨s1.1, s_Spans_lastOf s1 hi ⟨m1.1.1, mn_an (er.trans ((cif_pos (by omega)).trans ((cif_neg (by omega)).trans (cif_pos w1)))) m1 f1 k⟩⟩
theorem s_Main_answerLetter {h h0 : am_H} {s : St} {l : List Int} {i : Int} {X : Int × St} {Q : Int32 → am_H → Prop} (e : X = tel s l i) (m : mnA h s) (pg : pgA h 85 l) (f0 : fc h0 h) (hi : -2147483648 ≤ i ∧ i < 2147483648) (k : ∀ h', fc h0 h' → mnA h' X.2 → Q (ji X.1) h') : am_Ei m_Main_answerLetter 0 0 [.ref 0, .int (ji i)] h Q := by
  have pl := pg.2.2.2.2.1
  have p10 := m.1.2.2.2.2.2.2.2.2.2.2.2.1
  refine ev_Main_answerLetter 0 (ji i) h Q ?_
  rw [jk0, jk1, ji_lt]
  refine ⟨fun c1 => ⟨m.1.1, mn_rf (e.trans (cif_neg (by omega))) m f0 k⟩, fun c1 => ⟨m.1.1, 85, p10, pg.1, s_Page_size pg ?_⟩⟩
  rw [ji_lt]
  refine ⟨fun c2 => ⟨m.1.1, 85, p10, pg.1, ?_⟩, fun c2 => ⟨m.1.1, mn_rf (e.trans (cif_neg (by omega))) m f0 k⟩⟩
  obtain ⟨j, rfl⟩ := Int.eq_ofNat_of_zero_le (show 0 ≤ i by omega)
  obtain ⟨c, hc⟩ : ∃ c, l[j]? = some c := ⟨_, List.getElem?_eq_getElem (by omega)⟩
  refine s_Page_letterAt pg hc ⟨m.1.1, mn_an (e.trans ((cif_pos (by omega)).trans ?_)) m f0 k⟩
  rw [Int.toNat_natCast, List.getD_eq_getElem?_getD, hc]
  rfl
theorem s_Main_note {h : am_H} {s : St} {a b i : Int} {Q : Int32 → am_H → Prop} (m : mnA h s) (ha : -2147483648 ≤ a ∧ a < 2147483648) (hb : -2147483648 ≤ b ∧ b < 2147483648) (hi : -2147483648 ≤ i ∧ i < 2147483648) (k : ∀ h', fc h h' → mnA h' (p_note s a b i).2 → Q (ji (p_note s a b i).1) h') : am_Ei m_Main_note 0 0 [.ref 0, .int (ji a), .int (ji b), .int (ji i)] h Q := by
  refine ev_Main_note 0 (ji a) (ji b) (ji i) h Q ⟨m.1.1, s_Main_findWindows m ha hb (fun c => ⟨fun q => absurd rfl q, fun _ => ⟨m.1.1, ?_⟩⟩) (fun L S h1 l e1 e2 f1 m1 s1 ew ok bd hl hal => ⟨fun _ => ⟨m1.1.1, 85, m1.1.2.2.2.2.2.2.2.2.2.2.2.1, 23, m1.w.1, m1.w.2.1, s_Windows_found m1.w.2 ⟨fun q => (by cases q), fun b11 q => ?_⟩⟩, fun q => absurd q (by decide)⟩)⟩
  · rw [jk1]
    exact mn_rf (p_win_no c) m fc.rf k
  · obtain rfl := Option.some.inj q
    have mX := m1.2.1
    obtain ⟨l0, pg⟩ := mX.2.2.2.2.2.2
    refine ⟨m1.1.1, 23, m1.w.1, m1.w.2.1, s_Windows_areAlways m1.w.2 hal ⟨pg.1, s_Page_writeNote pg s1 hl (fun q hq => ?_) (by omega) (fun h2 f2 pg2 => ?_)⟩⟩
    · have qo := ok.2 q hq
      exact ⟨bd q.1 ⟨q, hq, by omega, by omega⟩, bd q.2 ⟨q, hq, by omega, by omega⟩⟩
    · have m2 := m1.work f2 (by omega) (by omega) (mX.oG f2 pg2)
      exact ⟨m2.1.1, s_Main_answerLetter ((p_win_some e1 e2).trans (by rw [ew])) m2 pg2 (f1.tr (fc.of f2 (by omega))) hi k⟩
theorem s_Main_count {h : am_H} {s : St} {w : Int} {Q : Int32 → am_H → Prop} (m : mnA h s) (hw : -2147483648 ≤ w ∧ w < 2147483648) (k : ∀ h', fc h h' → mnA h' (p_count s w).2 → Q (ji (p_count s w).1) h') : am_Ei m_Main_count 0 0 [.ref 0, .int (ji w)] h Q := by
  obtain ⟨mF, mX, mT, ⟨c1, c2, c3, c4⟩, -⟩ := id m
  refine ev_Main_count 0 (ji w) h Q ?_
  rw [c1.1, c2.1, c3.1, c4.1, jk0, jk1, jk2, jk3, jk4, ji_eq, ji_eq, ji_eq, ji_eq, ji_eq]
  refine ⟨fun e => ⟨mF.1, mn_an (cif_pos e) m fc.rf k⟩, fun e => ⟨mF.1, mn_an ((cif_neg (by omega)).trans (cif_pos e)) m fc.rf k⟩, fun e => ⟨mF.1, mn_an ((cif_neg (by omega)).trans ((cif_neg (by omega)).trans (cif_pos e))) m fc.rf k⟩, fun e => ⟨mF.1, mn_an ((cif_neg (by omega)).trans ((cif_neg (by omega)).trans ((cif_neg (by omega)).trans (cif_pos e)))) m fc.rf k⟩, fun e => ⟨mF.1, 1, mF.2.1, mT.1, s_Tape_size mT ⟨mF.1, mn_an ((cif_neg (by omega)).trans ((cif_neg (by omega)).trans ((cif_neg (by omega)).trans ((cif_neg (by omega)).trans (cif_pos e))))) m fc.rf k⟩⟩, fun n0 n1 n2 n3 n4 => ⟨mF.1, mn_rf ((cif_neg n0).trans ((cif_neg n1).trans ((cif_neg n2).trans ((cif_neg n3).trans (cif_neg n4))))) m fc.rf k⟩⟩
