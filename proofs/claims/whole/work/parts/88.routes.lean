/-! what is asked of routes, letters -/
noncomputable def psG (W : Wy) (t : Int) (n : Nat) (g : (Nat → Int) → Int) : Int := eps (fun v => (∃ ps, psR W t n ps ∧ v = g ps) ∨ ((∀ u, ¬ rcP W t (n - 1) u) ∧ v = -1))
theorem psR_u {W : Wy} {t : Int} {n : Nat} {ps ps' : Nat → Int} (h : psR W t n ps) (h' : psR W t n ps') : ∀ k, k < n → ps (n - 1 - k) = ps' (n - 1 - k) := by
  intro k
  induction k with
  | zero =>
    intro hk
    rw [Nat.sub_zero]
    have a := h.1.2 _ h'.1.1
    have b := h'.1.2 _ h.1.1
    omega
  | succ k ih =>
    intro hk
    have e := ih (by omega)
    have a := h.2 (n - 1 - (k + 1)) (by omega)
    have b := h'.2 (n - 1 - (k + 1)) (by omega)
    rw [show n - 1 - (k + 1) + 1 = n - 1 - k by omega] at a b
    have c := a.2.2 _ b.1 (by rw [e]; exact b.2.1)
    have d := b.2.2 _ a.1 (by rw [← e]; exact a.2.1)
    omega
theorem psR_u' {W : Wy} {t : Int} {n : Nat} {ps ps' : Nat → Int} (h : psR W t n ps) (h' : psR W t n ps') (i : Nat) (hi : i < n) : ps i = ps' i := by
  have := psR_u h h' (n - 1 - i) (by omega)
  rw [show n - 1 - (n - 1 - i) = i by omega] at this
  exact this
theorem psG_eq {W : Wy} {t : Int} {n : Nat} {g : (Nat → Int) → Int} {ps : Nat → Int} (h : psR W t n ps) (hg : ∀ ps ps' : Nat → Int, (∀ i, i < n → ps i = ps' i) → g ps = g ps') : psG W t n g = g ps := by
  refine eps_eq (Or.inl ⟨ps, h, rfl⟩) (fun w hw => ?_)
  rcases hw with ⟨ps', h', rfl⟩ | ⟨h', -⟩
  · exact hg _ _ (psR_u' h' h)
  · exact absurd h.1.1 (h' _)
theorem psG_no {W : Wy} {t : Int} {n : Nat} {g : (Nat → Int) → Int} (h : ∀ u, ¬ rcP W t (n - 1) u) : psG W t n g = -1 := by
  refine eps_eq (Or.inr ⟨h, rfl⟩) (fun w hw => ?_)
  rcases hw with ⟨ps', h', -⟩ | ⟨-, e⟩
  · exact absurd h'.1.1 (h _)
  · exact e
noncomputable def grt (A : Int → Prop) : Int := eps (fun v => (A v ∧ ∀ u, A u → u ≤ v) ∨ (v = -1 ∧ ∀ u, ¬ A u))
theorem grt_max {A : Int → Prop} {v : Int} (h : A v) (hu : ∀ u, A u → u ≤ v) : grt A = v := by
  refine eps_eq (Or.inl ⟨h, hu⟩) (fun w hw => ?_)
  rcases hw with ⟨w1, w2⟩ | ⟨-, w2⟩
  · have := hu w w1
    have := w2 v h
    omega
  · exact absurd h (w2 v)
theorem grt_no {A : Int → Prop} (h : ∀ u, ¬ A u) : grt A = -1 := by
  refine eps_eq (Or.inr ⟨rfl, h⟩) (fun w hw => ?_)
  rcases hw with ⟨w1, w2⟩ | ⟨w1, -⟩
  · exact absurd w1 (h w)
  · exact w1
noncomputable def p_rt (s : St) (n b : Int) (f : List RtStop → Sp → Int × St) : Int × St := match gt s.2.2.2.2.1 n with | some R => (match gt s.2.2.2.1 b with | some S => f R S | none => rfs s 1) | none => rfs s 1
theorem p_rt_some {s : St} {n b : Int} {f : List RtStop → Sp → Int × St} {R : List RtStop} {S : Sp} (h1 : gt s.2.2.2.2.1 n = some R) (h2 : gt s.2.2.2.1 b = some S) : p_rt s n b f = f R S := by
  unfold p_rt
  rw [h1, h2]
theorem p_rt_no {s : St} {n b : Int} {f : List RtStop → Sp → Int × St} (h : gt s.2.2.2.2.1 n = none ∨ gt s.2.2.2.1 b = none) : p_rt s n b f = rfs s 1 := by
  unfold p_rt
  rcases h with h | h
  · rw [h]
  · rw [h]
    cases gt s.2.2.2.2.1 n <;> rfl
noncomputable def p_stops (s : St) (n : Int) : Int × St := match gt s.2.2.2.2.1 n with | some R => ans s R.length | none => rfs s 1
noncomputable def p_leg (s : St) (n b i : Int) : Int × St := p_rt s n b (fun R S => cif (0 ≤ i ∧ i < R.length) (ans s (lgM S (rtG (fun q => q.1) R i))) (rfs s 1))
noncomputable def wyO (s : St) (R : List RtStop) (S : Sp) : Wy := wyF R (Pf s R) (Lf s R) S
noncomputable def p_arrive (s : St) (n b t : Int) : Int × St := p_rt s n b (fun R S => cif (0 ≤ t ∧ t ≤ 99999) (ans s (psG (wyO s R S) t R.length (fun ps => ps (R.length - 1)))) (rfs s 3))
noncomputable def p_pass (s : St) (n b t i : Int) : Int × St := p_rt s n b (fun R S => cif (0 ≤ i ∧ i < R.length) (cif (0 ≤ t ∧ t ≤ 99999) (ans s (psG (wyO s R S) t R.length (fun ps => ps i.toNat))) (rfs s 3)) (rfs s 1))
noncomputable def p_waits (s : St) (n b t : Int) : Int × St := p_rt s n b (fun R S => cif (0 ≤ t ∧ t ≤ 99999) (ans s (psG (wyO s R S) t R.length (fun ps => ps (R.length - 1) - t - wyS (lgF R S) (R.length - 1)))) (rfs s 3))
noncomputable def p_start (s : St) (n b t : Int) : Int × St := p_rt s n b (fun R S => cif (0 ≤ t ∧ t ≤ 99999) (ans s (grt (bkP (wyO s R S) t R.length (R.length - 1)))) (rfs s 3))
noncomputable def p_same (s : St) (a b : Int) : Int × St := match gt s.2.1 a with | some P => (match gt s.2.1 b with | some P' => ans s (cif (sameW P P' = true) 1 0) | none => rfs s 1) | none => rfs s 1
def wrt (s : St) (w n : Int) : List Int := if w = 0 then (match gt s.2.1 n with | some P => portT P | none => []) else if w = 1 then (match gt s.2.2.1 n with | some L => sillT L.2 | none => []) else if w = 2 then (match gt s.2.2.2.1 n with | some S => shipT S | none => []) else (match gt s.2.2.2.2.1 n with | some R => routeT R | none => [])
noncomputable def p_letter (s : St) (w n i : Int) : Int × St := cif (0 ≤ w ∧ w ≤ 3) (tel s (wrt s w n) i) (rfs s 3)
theorem s_Main_stops {h : am_H} {s : St} {n : Int} {Q : Int32 → am_H → Prop} (m : mnA h s) (hn : -2147483648 ≤ n ∧ n < 2147483648) (k : ∀ h', fc h h' → mnA h' (p_stops s n).2 → Q (ji (p_stops s n).1) h') : am_Ei m_Main_stops 0 0 [.ref 0, .int (ji n)] h Q := by
  refine ev_Main_stops 0 (ji n) h Q ⟨m.1.1, s_Main_routeAt m hn (fun e => ⟨fun _ => ⟨m.1.1, ?_⟩, fun b q => (by cases q)⟩) (fun R b e rc ab => ⟨fun q => (by cases q), fun b4 q => ?_⟩)⟩
  · rw [jk1]
    exact mn_rf (by unfold p_stops; rw [e]) m fc.rf k
  · obtain rfl := Option.some.inj q
    exact ⟨rc.1.1, s_Route_stopCount rc.1 ⟨m.1.1, mn_an (by unfold p_stops; rw [e]) m fc.rf k⟩⟩
theorem s_Main_leg {h : am_H} {s : St} {n b i : Int} {Q : Int32 → am_H → Prop} (m : mnA h s) (hn : -2147483648 ≤ n ∧ n < 2147483648) (hb : -2147483648 ≤ b ∧ b < 2147483648) (hi : -2147483648 ≤ i ∧ i < 2147483648) (k : ∀ h', fc h h' → mnA h' (p_leg s n b i).2 → Q (ji (p_leg s n b i).1) h') : am_Ei m_Main_leg 0 0 [.ref 0, .int (ji n), .int (ji b), .int (ji i)] h Q := by
  refine ev_Main_leg 0 (ji n) (ji b) (ji i) h Q ?_
  rw [jk0, jk1, ji_lt]
  refine ⟨m.1.1, s_Main_routeAt m hn (fun e => ⟨fun _ => ⟨m.1.1, s_Main_shipAt m hb (fun e2 => ⟨fun _ => ⟨m.1.1, mn_rf (p_rt_no (Or.inl e)) m fc.rf k⟩, fun _ _ => ⟨m.1.1, mn_rf (p_rt_no (Or.inl e)) m fc.rf k⟩⟩) (fun S x e2 _ _ _ => ⟨fun _ => ⟨m.1.1, mn_rf (p_rt_no (Or.inl e)) m fc.rf k⟩, fun _ _ => ⟨m.1.1, mn_rf (p_rt_no (Or.inl e)) m fc.rf k⟩⟩)⟩, fun b q => (by cases q)⟩) (fun R c e rc ab => ⟨fun q => (by cases q), fun b4 q => ⟨m.1.1, s_Main_shipAt m hb (fun e2 => ⟨fun _ => ⟨m.1.1, mn_rf (p_rt_no (Or.inr e2)) m fc.rf k⟩, fun _ q => (by cases q)⟩) (fun S x e2 os sh ax => ⟨fun q => (by cases q), fun b20 q2 => ?_⟩)⟩⟩)⟩
  obtain rfl := Option.some.inj q
  obtain rfl := Option.some.inj q2
  have rl := rc.1.len
  have hS := os.2
  refine ⟨fun c1 => ⟨m.1.1, mn_rf ((p_rt_some e e2).trans (cif_neg (by omega))) m fc.rf k⟩, fun c1 => ⟨rc.1.1, s_Route_stopCount rc.1 ?_⟩⟩
  rw [ji_lt]
  refine ⟨fun c2 => ⟨rc.1.1, s_Route_milesTo rc.1 hi ⟨sh.1, ?_⟩⟩, fun c2 => ⟨m.1.1, mn_rf ((p_rt_some e e2).trans (cif_neg (by omega))) m fc.rf k⟩⟩
  obtain ⟨j, rfl⟩ := Int.eq_ofNat_of_zero_le (show 0 ≤ i by omega)
  have lb := lgF_bd rc.1 os j
  exact s_Ship_minutesFor sh (by omega) ⟨lb.1, lb.2.1⟩ ⟨m.1.1, mn_an ((p_rt_some e e2).trans (cif_pos (by omega))) m fc.rf k⟩
theorem mnA.pl {h : am_H} {s : St} (m : mnA h s) : am_P h 0 9 = some 36 ∧ plX h 36 := ⟨m.1.2.2.2.2.2.2.2.2.2.2.1, m.2.1.2.2.2.2.2.1⟩
theorem s_Main_arrive {h : am_H} {s : St} {n b t : Int} {Q : Int32 → am_H → Prop} (m : mnA h s) (hn : -2147483648 ≤ n ∧ n < 2147483648) (hb : -2147483648 ≤ b ∧ b < 2147483648) (ht : -2147483648 ≤ t ∧ t < 2147483648) (k : ∀ h', fc h h' → mnA h' (p_arrive s n b t).2 → Q (ji (p_arrive s n b t).1) h') : am_Ei m_Main_arrive 0 0 [.ref 0, .int (ji n), .int (ji b), .int (ji t)] h Q := by
  refine ev_Main_arrive 0 (ji n) (ji b) (ji t) h Q ?_
  rw [jm1, jk1, jk3]
  refine ⟨m.1.1, s_Main_routeAt m hn (fun e => ⟨fun _ => ⟨m.1.1, s_Main_shipAt m hb (fun e2 => ⟨fun _ => ⟨m.1.1, mn_rf (p_rt_no (Or.inl e)) m fc.rf k⟩, fun _ _ => ⟨m.1.1, mn_rf (p_rt_no (Or.inl e)) m fc.rf k⟩⟩) (fun S x e2 _ _ _ => ⟨fun _ => ⟨m.1.1, mn_rf (p_rt_no (Or.inl e)) m fc.rf k⟩, fun _ _ => ⟨m.1.1, mn_rf (p_rt_no (Or.inl e)) m fc.rf k⟩⟩)⟩, fun b q => (by cases q)⟩) (fun R c e rc ab => ⟨fun q => (by cases q), fun b4 q => ⟨m.1.1, s_Main_shipAt m hb (fun e2 => ⟨fun _ => ⟨m.1.1, mn_rf (p_rt_no (Or.inr e2)) m fc.rf k⟩, fun _ q => (by cases q)⟩) (fun S x e2 os sh ax => ⟨fun q => (by cases q), fun b20 q2 => ?_⟩)⟩⟩)⟩
  obtain rfl := Option.some.inj q
  obtain rfl := Option.some.inj q2
  have rl := rc.1.len
  have hl0 := rc.2.2.1
  refine s_Main_isNumberToAsk ht (fun c1 => ⟨fun _ => ⟨m.1.1, 36, m.pl.1, m.pl.2.1.1, s_Planner_plan m.pl.2 rc sh (by omega) os c1 (fun h1 ps f1 w1 hp hr => ⟨fun q => absurd q (by decide), fun _ => ?_⟩) (fun h1 f1 w1 hno => ⟨fun _ => ?_, fun q => absurd rfl q⟩)⟩, fun q => absurd q (by decide)⟩) (fun c1 => ⟨fun q => absurd rfl q, fun _ => ⟨m.1.1, mn_rf ((p_rt_some e e2).trans (cif_neg c1)) m fc.rf k⟩⟩)
  · have m1 := m.work f1 (by omega) (by omega) (m.2.1.oP f1 w1)
    have rc1 := rc.kept f1 (by omega)
    refine ⟨m1.1.1, 36, m1.pl.1, rc1.1.1, s_Route_stopCount rc1.1 ⟨w1.1.1, ?_⟩⟩
    rw [ji_sub, show (R.length : Int) - 1 = ((R.length - 1 : Nat) : Int) by omega]
    refine s_Planner_passOf w1.1 (by omega) ⟨m1.1.1, ?_⟩
    rw [(hr (R.length - 1) (by omega)).1]
    refine mn_an ((p_rt_some e e2).trans ((cif_pos c1).trans ?_)) m1 (fc.of f1 (by omega)) k
    unfold wyO
    rw [psG_eq (g := fun ps => ps (R.length - 1)) hp (fun a b hab => hab _ (by omega))]
  · have m1 := m.work f1 (by omega) (by omega) (m.2.1.oP f1 w1)
    refine ⟨m1.1.1, mn_an ((p_rt_some e e2).trans ((cif_pos c1).trans ?_)) m1 (fc.of f1 (by omega)) k⟩
    unfold wyO
    rw [psG_no hno]
theorem s_Main_pass {h : am_H} {s : St} {n b t i : Int} {Q : Int32 → am_H → Prop} (m : mnA h s) (hn : -2147483648 ≤ n ∧ n < 2147483648) (hb : -2147483648 ≤ b ∧ b < 2147483648) (ht : -2147483648 ≤ t ∧ t < 2147483648) (hi : -2147483648 ≤ i ∧ i < 2147483648) (k : ∀ h', fc h h' → mnA h' (p_pass s n b t i).2 → Q (ji (p_pass s n b t i).1) h') : am_Ei m_Main_pass 0 0 [.ref 0, .int (ji n), .int (ji b), .int (ji t), .int (ji i)] h Q := by
  refine ev_Main_pass 0 (ji n) (ji b) (ji t) (ji i) h Q ?_
  rw [jm1, jk1, jk3, show ((ji i < 0) ↔ (ji i < ji 0)) from Iff.rfl, ji_lt]
  refine ⟨m.1.1, s_Main_routeAt m hn (fun e => ⟨fun _ => ⟨m.1.1, s_Main_shipAt m hb (fun e2 => ⟨fun _ => ⟨m.1.1, mn_rf (p_rt_no (Or.inl e)) m fc.rf k⟩, fun _ _ => ⟨m.1.1, mn_rf (p_rt_no (Or.inl e)) m fc.rf k⟩⟩) (fun S x e2 _ _ _ => ⟨fun _ => ⟨m.1.1, mn_rf (p_rt_no (Or.inl e)) m fc.rf k⟩, fun _ _ => ⟨m.1.1, mn_rf (p_rt_no (Or.inl e)) m fc.rf k⟩⟩)⟩, fun b q => (by cases q)⟩) (fun R c e rc ab => ⟨fun q => (by cases q), fun b4 q => ⟨m.1.1, s_Main_shipAt m hb (fun e2 => ⟨fun _ => ⟨m.1.1, mn_rf (p_rt_no (Or.inr e2)) m fc.rf k⟩, fun _ q => (by cases q)⟩) (fun S x e2 os sh ax => ⟨fun q => (by cases q), fun b20 q2 => ?_⟩)⟩⟩)⟩
  obtain rfl := Option.some.inj q
  obtain rfl := Option.some.inj q2
  have rl := rc.1.len
  have hl0 := rc.2.2.1
  refine ⟨fun c1 => ⟨m.1.1, mn_rf ((p_rt_some e e2).trans (cif_neg (by omega))) m fc.rf k⟩, fun c1 => ⟨rc.1.1, s_Route_stopCount rc.1 ?_⟩⟩
  rw [ji_lt]
  refine ⟨fun c2 => ?_, fun c2 => ⟨m.1.1, mn_rf ((p_rt_some e e2).trans (cif_neg (by omega))) m fc.rf k⟩⟩
  obtain ⟨j, rfl⟩ := Int.eq_ofNat_of_zero_le (show 0 ≤ i by omega)
  refine s_Main_isNumberToAsk ht (fun c1 => ⟨fun _ => ⟨m.1.1, 36, m.pl.1, m.pl.2.1.1, s_Planner_plan m.pl.2 rc sh (by omega) os c1 (fun h1 ps f1 w1 hp hr => ⟨fun q => absurd q (by decide), fun _ => ?_⟩) (fun h1 f1 w1 hno => ⟨fun _ => ?_, fun q => absurd rfl q⟩)⟩, fun q => absurd q (by decide)⟩) (fun c1 => ⟨fun q => absurd rfl q, fun _ => ⟨m.1.1, mn_rf ((p_rt_some e e2).trans ((cif_pos (by omega)).trans (cif_neg c1))) m fc.rf k⟩⟩)
  · have m1 := m.work f1 (by omega) (by omega) (m.2.1.oP f1 w1)
    refine ⟨m1.1.1, 36, m1.pl.1, w1.1.1, s_Planner_passOf w1.1 (by omega) ⟨m1.1.1, ?_⟩⟩
    rw [(hr j (by omega)).1]
    refine mn_an ((p_rt_some e e2).trans ((cif_pos (by omega)).trans ((cif_pos c1).trans ?_))) m1 (fc.of f1 (by omega)) k
    unfold wyO
    rw [Int.toNat_natCast, psG_eq (g := fun ps => ps j) hp (fun a b hab => hab _ (by omega))]
  · have m1 := m.work f1 (by omega) (by omega) (m.2.1.oP f1 w1)
    refine ⟨m1.1.1, mn_an ((p_rt_some e e2).trans ((cif_pos (by omega)).trans ((cif_pos c1).trans ?_))) m1 (fc.of f1 (by omega)) k⟩
    unfold wyO
    rw [psG_no hno]
theorem s_Main_waits {h : am_H} {s : St} {n b t : Int} {Q : Int32 → am_H → Prop} (m : mnA h s) (hn : -2147483648 ≤ n ∧ n < 2147483648) (hb : -2147483648 ≤ b ∧ b < 2147483648) (ht : -2147483648 ≤ t ∧ t < 2147483648) (k : ∀ h', fc h h' → mnA h' (p_waits s n b t).2 → Q (ji (p_waits s n b t).1) h') : am_Ei m_Main_waits 0 0 [.ref 0, .int (ji n), .int (ji b), .int (ji t)] h Q := by
  refine ev_Main_waits 0 (ji n) (ji b) (ji t) h Q ?_
  rw [jm1, jk1, jk3]
  refine ⟨m.1.1, s_Main_routeAt m hn (fun e => ⟨fun _ => ⟨m.1.1, s_Main_shipAt m hb (fun e2 => ⟨fun _ => ⟨m.1.1, mn_rf (p_rt_no (Or.inl e)) m fc.rf k⟩, fun _ _ => ⟨m.1.1, mn_rf (p_rt_no (Or.inl e)) m fc.rf k⟩⟩) (fun S x e2 _ _ _ => ⟨fun _ => ⟨m.1.1, mn_rf (p_rt_no (Or.inl e)) m fc.rf k⟩, fun _ _ => ⟨m.1.1, mn_rf (p_rt_no (Or.inl e)) m fc.rf k⟩⟩)⟩, fun b q => (by cases q)⟩) (fun R c e rc ab => ⟨fun q => (by cases q), fun b4 q => ⟨m.1.1, s_Main_shipAt m hb (fun e2 => ⟨fun _ => ⟨m.1.1, mn_rf (p_rt_no (Or.inr e2)) m fc.rf k⟩, fun _ q => (by cases q)⟩) (fun S x e2 os sh ax => ⟨fun q => (by cases q), fun b20 q2 => ?_⟩)⟩⟩)⟩
  obtain rfl := Option.some.inj q
  obtain rfl := Option.some.inj q2
  have rl := rc.1.len
  have hl0 := rc.2.2.1
  refine s_Main_isNumberToAsk ht (fun c1 => ⟨fun _ => ⟨m.1.1, 36, m.pl.1, m.pl.2.1.1, s_Planner_plan m.pl.2 rc sh (by omega) os c1 (fun h1 ps f1 w1 hp hr => ⟨fun q => absurd q (by decide), fun _ => ?_⟩) (fun h1 f1 w1 hno => ⟨fun _ => ?_, fun q => absurd rfl q⟩)⟩, fun q => absurd q (by decide)⟩) (fun c1 => ⟨fun q => absurd rfl q, fun _ => ⟨m.1.1, mn_rf ((p_rt_some e e2).trans (cif_neg c1)) m fc.rf k⟩⟩)
  · have m1 := m.work f1 (by omega) (by omega) (m.2.1.oP f1 w1)
    have rc1 := rc.kept f1 (by omega)
    have sh1 := sh.kept f1 (by omega)
    have hl := hr (R.length - 1) (by omega)
    refine ⟨m1.1.1, 36, m1.pl.1, w1.1.1, s_Planner_waitedFrom w1.1 rc1.1 (by omega) hl0 sh1 os c1 hl.1 hl.2 ⟨m1.1.1, ?_⟩⟩
    refine mn_an ((p_rt_some e e2).trans ((cif_pos c1).trans ?_)) m1 (fc.of f1 (by omega)) k
    unfold wyO
    rw [psG_eq (g := fun ps => ps (R.length - 1) - t - wyS (lgF R S) (R.length - 1)) hp (fun a b hab => by show a _ - t - _ = b _ - t - _; rw [hab _ (by omega)])]
  · have m1 := m.work f1 (by omega) (by omega) (m.2.1.oP f1 w1)
    refine ⟨m1.1.1, mn_an ((p_rt_some e e2).trans ((cif_pos c1).trans ?_)) m1 (fc.of f1 (by omega)) k⟩
    unfold wyO
    rw [psG_no hno]
theorem s_Main_start {h : am_H} {s : St} {n b t : Int} {Q : Int32 → am_H → Prop} (m : mnA h s) (hn : -2147483648 ≤ n ∧ n < 2147483648) (hb : -2147483648 ≤ b ∧ b < 2147483648) (ht : -2147483648 ≤ t ∧ t < 2147483648) (k : ∀ h', fc h h' → mnA h' (p_start s n b t).2 → Q (ji (p_start s n b t).1) h') : am_Ei m_Main_start 0 0 [.ref 0, .int (ji n), .int (ji b), .int (ji t)] h Q := by
  refine ev_Main_start 0 (ji n) (ji b) (ji t) h Q ?_
  rw [jm1, jk1, jk3, ji_none]
  refine ⟨m.1.1, s_Main_routeAt m hn (fun e => ⟨fun _ => ⟨m.1.1, s_Main_shipAt m hb (fun e2 => ⟨fun _ => ⟨m.1.1, mn_rf (p_rt_no (Or.inl e)) m fc.rf k⟩, fun _ _ => ⟨m.1.1, mn_rf (p_rt_no (Or.inl e)) m fc.rf k⟩⟩) (fun S x e2 _ _ _ => ⟨fun _ => ⟨m.1.1, mn_rf (p_rt_no (Or.inl e)) m fc.rf k⟩, fun _ _ => ⟨m.1.1, mn_rf (p_rt_no (Or.inl e)) m fc.rf k⟩⟩)⟩, fun b q => (by cases q)⟩) (fun R c e rc ab => ⟨fun q => (by cases q), fun b4 q => ⟨m.1.1, s_Main_shipAt m hb (fun e2 => ⟨fun _ => ⟨m.1.1, mn_rf (p_rt_no (Or.inr e2)) m fc.rf k⟩, fun _ q => (by cases q)⟩) (fun S x e2 os sh ax => ⟨fun q => (by cases q), fun b20 q2 => ?_⟩)⟩⟩)⟩
  obtain rfl := Option.some.inj q
  obtain rfl := Option.some.inj q2
  have rl := rc.1.len
  have hl0 := rc.2.2.1
  refine s_Main_isNumberToAsk ht (fun c1 => ⟨fun _ => ⟨m.1.1, 36, m.pl.1, m.pl.2.1.1, s_Planner_latestStart m.pl.2 rc sh (by omega) os c1 (fun h1 v f1 w1 hp hr v0 v1 => ⟨fun _ => ?_, fun q => absurd q ?_⟩) (fun h1 f1 w1 hno => ⟨fun q => absurd rfl q, fun _ => ?_⟩)⟩, fun q => absurd q (by decide)⟩) (fun c1 => ⟨fun q => absurd rfl q, fun _ => ⟨m.1.1, mn_rf ((p_rt_some e e2).trans (cif_neg c1)) m fc.rf k⟩⟩)
  · have m1 := m.work f1 (by omega) (by omega) (m.2.1.oP f1 w1)
    refine ⟨m1.1.1, mn_an ((p_rt_some e e2).trans ((cif_pos c1).trans ?_)) m1 (fc.of f1 (by omega)) k⟩
    unfold wyO
    rw [grt_max hp hr]
  · rw [ji_eq (by unfold spNone; omega)]
    unfold spNone
    omega
  · have m1 := m.work f1 (by omega) (by omega) (m.2.1.oP f1 w1)
    refine ⟨m1.1.1, mn_an ((p_rt_some e e2).trans ((cif_pos c1).trans ?_)) m1 (fc.of f1 (by omega)) k⟩
    unfold wyO
    rw [grt_no hno]
theorem s_Main_same {h : am_H} {s : St} {a b : Int} {Q : Int32 → am_H → Prop} (m : mnA h s) (ha : -2147483648 ≤ a ∧ a < 2147483648) (hb : -2147483648 ≤ b ∧ b < 2147483648) (k : ∀ h', fc h h' → mnA h' (p_same s a b).2 → Q (ji (p_same s a b).1) h') : am_Ei m_Main_same 0 0 [.ref 0, .int (ji a), .int (ji b)] h Q := by
  have no : (gt s.2.1 a = none ∨ gt s.2.1 b = none) → p_same s a b = rfs s 1 := by
    intro c
    unfold p_same
    rcases c with c | c
    · rw [c]
    · rw [c]
      cases gt s.2.1 a <;> rfl
  refine ev_Main_same 0 (ji a) (ji b) h Q ?_
  rw [jk1]
  refine ⟨m.1.1, s_Main_portAt m ha (fun e => ⟨fun _ => ⟨m.1.1, s_Main_portAt m hb (fun e2 => ⟨fun _ => ⟨m.1.1, mn_rf (no (Or.inl e)) m fc.rf k⟩, fun _ _ => ⟨m.1.1, mn_rf (no (Or.inl e)) m fc.rf k⟩⟩) (fun P c e2 _ _ _ _ => ⟨fun _ => ⟨m.1.1, mn_rf (no (Or.inl e)) m fc.rf k⟩, fun _ _ => ⟨m.1.1, mn_rf (no (Or.inl e)) m fc.rf k⟩⟩)⟩, fun b q => (by cases q)⟩) (fun P c e g hc pt ac => ⟨fun q => (by cases q), fun b4 q => ⟨m.1.1, s_Main_portAt m hb (fun e2 => ⟨fun _ => ⟨m.1.1, mn_rf (no (Or.inr e2)) m fc.rf k⟩, fun _ q => (by cases q)⟩) (fun P' c' e2 g' hc' pt' ac' => ⟨fun q => (by cases q), fun b20 q2 => ?_⟩)⟩⟩)⟩
  obtain rfl := Option.some.inj q
  obtain rfl := Option.some.inj q2
  have er : p_same s a b = ans s (cif (sameW P P' = true) 1 0) := by
    unfold p_same
    rw [e, e2]
  refine ⟨pt.1, s_Port_isWrittenAs pt pt' (fun p hp => (g.mem hp).1) (fun p hp => (g'.mem hp).1) ?_⟩
  rw [bi_0]
  refine ⟨fun c => ⟨m.1.1, ?_⟩, fun c => ⟨m.1.1, ?_⟩⟩
  · rw [jk0]
    exact mn_an (er.trans (by rw [cif_neg (by rw [c]; decide)])) m fc.rf k
  · exact mn_an (er.trans (by rw [cif_pos (by cases e2 : sameW P P'; exact absurd e2 c; rfl)])) m fc.rf k
theorem s_Main_writeOut {h : am_H} {s : St} {w n : Int} {Q : am_H → Prop} (m : mnA h s) (hw : 0 ≤ w ∧ w ≤ 3) (hn : -2147483648 ≤ n ∧ n < 2147483648) (k : ∀ h', fc h h' → mnA h' s → pgA h' 85 (wrt s w n) → Q h') : am_Ew m_Main_writeOut 0 0 [.ref 0, .int (ji w), .int (ji n)] h Q := by
  obtain ⟨l0, pg⟩ := m.2.1.2.2.2.2.2.2
  have p10 := m.1.2.2.2.2.2.2.2.2.2.2.2.1
  have K : ∀ h' l, fi h h' 85 (85 + 2) → pgA h' 85 l → l = wrt s w n → Q h' := fun h' l f p e => k h' (fc.of f (by omega)) (m.work f (by omega) (by omega) (m.2.1.oG f p)) (by rw [← e]; exact p)
  have f0 : fi h (am_si h 85 1 0) 85 (85 + 2) := fi.si (by omega) (by omega)
  refine ev_Main_writeOut 0 (ji w) (ji n) h Q ?_
  rw [show ((ji w = 0) ↔ (ji w = ji 0)) from Iff.rfl, show ((ji w = 1) ↔ (ji w = ji 1)) from Iff.rfl, show ((ji w = 2) ↔ (ji w = ji 2)) from Iff.rfl, ji_eq, ji_eq, ji_eq]
  refine ⟨fun c => ⟨m.1.1, 85, p10, s_Main_portAt m hn (fun e => ⟨fun _ => ⟨pg.1, ev_Page_writePortN 85 h _ ⟨pg.1, K _ _ f0 pg.clr ?_⟩⟩, fun b q => (by cases q)⟩) (fun P x e g hc pt ax => ⟨fun q => (by cases q), fun b q => ?_⟩)⟩, fun c => ⟨m.1.1, 85, p10, s_Main_sillAt m hn (fun e => ⟨fun _ => ⟨pg.1, ev_Page_writeSillN 85 h _ ⟨pg.1, K _ _ f0 pg.clr ?_⟩⟩, fun b q => (by cases q)⟩) (fun L x y P e o hx sl ax hP g pt ay => ⟨fun q => (by cases q), fun b q => ?_⟩)⟩, fun c => ⟨m.1.1, 85, p10, s_Main_shipAt m hn (fun e => ⟨fun _ => ⟨pg.1, ev_Page_writeShipN 85 h _ ⟨pg.1, K _ _ f0 pg.clr ?_⟩⟩, fun b q => (by cases q)⟩) (fun S x e o sh ax => ⟨fun q => (by cases q), fun b q => ?_⟩)⟩, fun n0 n1 n2 => ⟨m.1.1, 85, p10, s_Main_routeAt m hn (fun e => ⟨fun _ => ⟨pg.1, ev_Page_writeRouteN 85 h _ ⟨pg.1, K _ _ f0 pg.clr ?_⟩⟩, fun b q => (by cases q)⟩) (fun R x e rc ab => ⟨fun q => (by cases q), fun b q => ?_⟩)⟩⟩
  · unfold wrt
    rw [if_pos c, e]
  · obtain rfl := Option.some.inj q
    refine ⟨pg.1, s_Page_writePort pg pt g (by omega) (fun h1 f1 p1 => K h1 _ f1 p1 ?_)⟩
    unfold wrt
    rw [if_pos c, e]
  · unfold wrt
    rw [if_neg (by omega), if_pos c, e]
  · obtain rfl := Option.some.inj q
    refine ⟨pg.1, s_Page_writeSill pg sl (by omega) (fun h1 f1 p1 => K h1 _ f1 p1 ?_)⟩
    unfold wrt
    rw [if_neg (by omega), if_pos c, e]
  · unfold wrt
    rw [if_neg (by omega), if_neg (by omega), if_pos c, e]
  · obtain rfl := Option.some.inj q
    refine ⟨pg.1, s_Page_writeShip pg sh (by omega) (fun h1 f1 p1 => K h1 _ f1 p1 ?_)⟩
    unfold wrt
    rw [if_neg (by omega), if_neg (by omega), if_pos c, e]
  · unfold wrt
    rw [if_neg n0, if_neg n1, if_neg n2, e]
  · obtain rfl := Option.some.inj q
    have rl := rc.1.len
    have hb := rc.2.1
    refine ⟨pg.1, s_Page_writeRoute pg rc.1 (by omega) (by omega) (fun h1 f1 p1 => K h1 _ f1 p1 ?_)⟩
    unfold wrt
    rw [if_neg n0, if_neg n1, if_neg n2, e]
theorem s_Main_letter {h : am_H} {s : St} {w n i : Int} {Q : Int32 → am_H → Prop} (m : mnA h s) (hw : -2147483648 ≤ w ∧ w < 2147483648) (hn : -2147483648 ≤ n ∧ n < 2147483648) (hi : -2147483648 ≤ i ∧ i < 2147483648) (k : ∀ h', fc h h' → mnA h' (p_letter s w n i).2 → Q (ji (p_letter s w n i).1) h') : am_Ei m_Main_letter 0 0 [.ref 0, .int (ji w), .int (ji n), .int (ji i)] h Q := by
  refine ev_Main_letter 0 (ji w) (ji n) (ji i) h Q ?_
  rw [jk0, jk3, ji_lt, ji_le]
  refine ⟨fun c => ⟨m.1.1, mn_rf (cif_neg (by omega)) m fc.rf k⟩, fun c => ⟨fun c2 => ⟨m.1.1, s_Main_writeOut m (by omega) hn (fun h1 f1 m1 pg => ⟨m1.1.1, s_Main_answerLetter (cif_pos (by omega)) m1 pg f1 hi k⟩)⟩, fun c2 => ⟨m.1.1, mn_rf (cif_neg (by omega)) m fc.rf k⟩⟩⟩
theorem s_Main_status {h : am_H} {s : St} {Q : Int32 → am_H → Prop} (m : mnA h s) (k : Q (ji s.2.2.2.2.2.1) h) : am_Ei m_Main_status 0 0 [.ref 0] h Q := by
  refine ev_Main_status 0 h Q ⟨m.1.1, ?_⟩
  rw [m.2.2.2.2.2.2.2.2.1.1]
  exact k
theorem s_Main_place {h : am_H} {s : St} {Q : Int32 → am_H → Prop} (m : mnA h s) (k : Q (ji s.2.2.2.2.2.2.1) h) : am_Ei m_Main_place 0 0 [.ref 0] h Q := by
  refine ev_Main_place 0 h Q ⟨m.1.1, ?_⟩
  rw [m.2.2.2.2.2.2.2.2.1.2.1]
  exact k
theorem s_Main_fault {h : am_H} {s : St} {Q : Int32 → am_H → Prop} (m : mnA h s) (k : Q (ji s.2.2.2.2.2.2.2) h) : am_Ei m_Main_fault 0 0 [.ref 0] h Q := by
  refine ev_Main_fault 0 h Q ⟨m.1.1, ?_⟩
  rw [m.2.2.2.2.2.2.2.2.1.2.2]
  exact k
