/-! routes are told -/
theorem rdR_ne (T : List Int) (n : Nat) (mi : Int) (s : Nat × Bool) : 0 < (rdR T (n + 1) mi s).1.length := by
  unfold rdR
  split
  · simp
  · split <;> simp
theorem rtA.sp {h : am_H} {a r i : Nat} {v : Option Nat} {R : List RtStop} (s : rtA h a r R) : rtA (am_sp h (a + 1) i v) a r R := by
  unfold rtA
  rw [am_P_spn (by omega : a ≠ a + 1)]
  exact s
noncomputable def kpR (s : St) (R : List RtStop) : Int × St := cif (rtO s.2.2.1.length R) (cif (s.2.2.2.2.1.length < 8 ∧ R.length ≤ 8) ((s.2.2.2.2.1.length : Int), stS (stRt (stF s 0) R) 0) (rfs (stF s 0) 9)) (rfs (stF s 10) 4)
noncomputable def p_route (s : St) : Int × St := rdP s (rdR s.1 32 0 (sk s.1 0, true)).2 (fun s' => kpR s' (rdR s.1 32 0 (sk s.1 0, true)).1)
theorem rt_loop {h0 : am_H} {s : St} {b z : Nat} {R : List RtStop} {X : Int × St} {x1 x2 : Int32} {Q : Int32 → am_H → Prop} (hb : z ≤ b) (hz : am_sz h0 ≤ b) (hR : 0 < R.length) (ro : rtO s.2.2.1.length R) (hl : s.2.2.2.2.1.length < 8) (e : X = ((s.2.2.2.2.1.length : Int), stS (stRt s R) 0)) (k : ∀ h', fc h0 h' → mnA h' X.2 → Q (ji X.1) h') :
    ∀ (n i : Nat) (h : am_H), i + n = R.length → fc h0 h → mnB h s z → rtA h b 8 R → b + 6 ≤ am_sz h → (∀ (j : Nat) (q : RtStop), j < i → R[j]? = some q → am_P h (b + 1) j = am_P h 20 q.2.1.toNat) → am_EI m_Main_route 0 0 106 [.ref 0, .int x1, .int x2, .ref b, .int (ji i)] [] h (am_qi Q) := by
  intro n
  induction n with
  | zero =>
    intro i h hi f0 m rt hz2 ha
    have mz := m.2.2.2.2.2.2.2.2.2
    have rl := rt.len
    have cc := m.2.2.2.1.2.2.2
    have tt := m.1.2.2.2.2.2.2.2.2.2.2.2.2.2.2.2
    refine sg_Main_route_106 0 b x1 x2 (ji i) h _ ⟨rt.1, s_Route_stopCount rt ?_⟩
    rw [cc.1, jk1, ji_le, ji_add, ji_tn, Int.toNat_natCast]
    refine ⟨fun _ => ⟨m.1.1, 22, m.1.2.2.2.2.2.2.2.1, by rw [rt.1], by rw [tt], by rw [tt, ji_in]; omega, ?_⟩, fun c => absurd (by omega) c⟩
    rw [am_I_sis, va_up_at, ji_sub, show (s.2.2.2.2.1.length : Int) + 1 - 1 = (s.2.2.2.2.1.length : Int) by omega]
    have m2 : mnB h s (b + 6) := m.up (by omega) (by omega)
    have m4 := m2.addR (x := b) rt hR (fun j q hq => ⟨(ro q (List.mem_of_getElem? hq)).1, (ro q (List.mem_of_getElem? hq)).2, ha j q (by have := (List.getElem?_eq_some_iff.mp hq).1; omega) hq⟩) (by omega) (by omega) hl
    rw [e] at k
    exact mn_ans m4.A ((f0.sp (by omega)).si (by omega)) k
  | succ n ih =>
    intro i h hi f0 m rt hz2 ha
    have mz := m.2.2.2.2.2.2.2.2.2
    have rl := rt.len
    obtain ⟨q, hq⟩ : ∃ q, R[i]? = some q := ⟨_, List.getElem?_eq_getElem (by omega)⟩
    have row := (rt.row hq).2.2.2.2.2.1
    have rq := (ro q (List.mem_of_getElem? hq)).1
    refine sg_Main_route_106 0 b x1 x2 (ji i) h _ ⟨rt.1, s_Route_stopCount rt ?_⟩
    rw [jk1, ji_le, ji_add]
    refine ⟨fun c => absurd c (by omega), fun _ => ⟨rt.1, s_Route_sillNumberOf rt (by omega) ⟨m.1.1, ?_⟩⟩⟩
    rw [rtG_at hq]
    refine s_Main_sillAt m.A (by omega) (fun e => ?_) (fun L x c P e o hx sl ax hP g pt ac => ⟨fun q => (by cases q), fun b19 q19 => ⟨rt.1, ?_⟩⟩)
    · have := gt_none e
      omega
    · obtain rfl := Option.some.inj q19
      refine s_Route_setSill rt (by omega) sl.1 ?_
      refine ih (i + 1) _ (by omega) (f0.sp (by omega)) (m.grow (es.sp (by omega)) (Nat.le_refl _)) rt.sp hz2 (fun j q' hj hq' => ?_)
      rw [am_P_sps, am_P_spn (by omega)]
      by_cases cj : j = i
      · subst cj
        rw [hq] at hq'
        cases hq'
        rw [va_up_at]
        exact hx.symm
      · rw [va_up_no _ _ cj]
        exact ha j q' (by omega) hq'
theorem rt_no {h h0 : am_H} {s : St} {R : List RtStop} {f : Int} {X : Int × St} {Q : Int32 → am_H → Prop} (m : mnA h s) (f0 : fc h0 h) (hf : f = 0 ∨ f = 10) (hf0 : f = 0 ↔ rtO s.2.2.1.length R) (e : X = kpR s R) (k : ∀ h', fc h0 h' → mnA h' X.2 → Q (ji X.1) h') (hb : ¬ (s.2.2.2.2.1.length < 8 ∧ R.length ≤ 8)) : (am_tg h 0 = (11, 18) ∧ (am_Ei m_Main_judge 0 0 [.ref 0, .int (ji f), .int 0] h (fun r26 h25 => ((r26 = 0 → (am_Ew m_Route_init 5 40 [.ref (am_sz h25), .int 8] (am_nw h25 4 7) (fun h28 => (am_tg h28 0 = (11, 18) ∧ (∃ b29, am_P h28 0 2 = some b29 ∧ (am_tg h28 (am_sz h25) = (4, 7) ∧ (am_Ew m_Route_copyFrom 0 0 [.ref (am_sz h25), .ref b29] h28 (fun h33 => am_EI m_Main_route 0 0 106 [.ref 0, .int 0, .int r26, .ref (am_sz h25), .int 0] [] h33 (am_qi Q))))))))) ∧ (¬ r26 = 0 → (am_tg h25 0 = (11, 18) ∧ (am_Ei m_Main_refuse 0 0 [.ref 0, .int r26] h25 (fun r36 h35 => Q r36 h35)))))))) := by
  have no : ∀ (r : Bool) (h1 : am_H), fi h h1 0 1 → mnA h1 (stF s f) → (f = 0 → r = false) → (f = 0 → ¬ (s.2.2.2.2.1.length < 8 ∧ R.length ≤ 8)) → (ji (if f = 0 then (if r then 0 else 9) else 4) ≠ 0) ∧ (am_Ei m_Main_refuse 0 0 [.ref 0, .int (ji (if f = 0 then (if r then 0 else 9) else 4))] h1 (fun r27 h26 => Q r27 h26)) := by
    intro r h1 f1 m1 hr hb
    by_cases c : f = 0
    · rw [if_pos c, hr c]
      refine ⟨by decide, mn_rf (X := X) ?_ m1 (f0.fi f1 (by omega)) k⟩
      rw [e]
      exact (cif_pos (hf0.mp c)).trans ((cif_neg (hb c)).trans (by rw [c]; rfl))
    · rw [if_neg c]
      refine ⟨by decide, mn_rf (X := X) ?_ m1 (f0.fi f1 (by omega)) k⟩
      rw [e]
      exact (cif_neg (fun q => c (hf0.mpr q))).trans (by rw [show f = 10 by omega])
  refine ⟨m.1.1, s_Main_judge m (by omega) (r := false) (by decide) (fun h1 f1 m1 => ?_)⟩
  have n := no false h1 f1 m1.A (fun _ => rfl) (fun _ => hb)
  exact ⟨fun q => absurd q n.1, fun _ => ⟨m1.1.1, n.2⟩⟩
theorem rt_yes {h h0 : am_H} {s : St} {R : List RtStop} {f : Int} {X : Int × St} {Q : Int32 → am_H → Prop} (m : mnA h s) (f0 : fc h0 h) (hf : f = 0 ∨ f = 10) (hf0 : f = 0 ↔ rtO s.2.2.1.length R) (e : X = kpR s R) (k : ∀ h', fc h0 h' → mnA h' X.2 → Q (ji X.1) h') (rt : rtA h 13 32 R) (hR : 0 < R.length) (hb : s.2.2.2.2.1.length < 8 ∧ R.length ≤ 8) : (am_tg h 0 = (11, 18) ∧ (am_Ei m_Main_judge 0 0 [.ref 0, .int (ji f), .int 1] h (fun r70 h69 => ((r70 = 0 → (am_Ew m_Route_init 5 40 [.ref (am_sz h69), .int 8] (am_nw h69 4 7) (fun h72 => (am_tg h72 0 = (11, 18) ∧ (∃ b73, am_P h72 0 2 = some b73 ∧ (am_tg h72 (am_sz h69) = (4, 7) ∧ (am_Ew m_Route_copyFrom 0 0 [.ref (am_sz h69), .ref b73] h72 (fun h77 => am_EI m_Main_route 0 0 106 [.ref 0, .int 1, .int r70, .ref (am_sz h69), .int 0] [] h77 (am_qi Q))))))))) ∧ (¬ r70 = 0 → (am_tg h69 0 = (11, 18) ∧ (am_Ei m_Main_refuse 0 0 [.ref 0, .int r70] h69 (fun r80 h79 => Q r80 h79)))))))) := by
  have no : ∀ (r : Bool) (h1 : am_H), fi h h1 0 1 → mnA h1 (stF s f) → (f = 0 → r = false) → (f = 0 → ¬ (s.2.2.2.2.1.length < 8 ∧ R.length ≤ 8)) → (ji (if f = 0 then (if r then 0 else 9) else 4) ≠ 0) ∧ (am_Ei m_Main_refuse 0 0 [.ref 0, .int (ji (if f = 0 then (if r then 0 else 9) else 4))] h1 (fun r27 h26 => Q r27 h26)) := by
    intro r h1 f1 m1 hr hb
    by_cases c : f = 0
    · rw [if_pos c, hr c]
      refine ⟨by decide, mn_rf (X := X) ?_ m1 (f0.fi f1 (by omega)) k⟩
      rw [e]
      exact (cif_pos (hf0.mp c)).trans ((cif_neg (hb c)).trans (by rw [c]; rfl))
    · rw [if_neg c]
      refine ⟨by decide, mn_rf (X := X) ?_ m1 (f0.fi f1 (by omega)) k⟩
      rw [e]
      exact (cif_neg (fun q => c (hf0.mpr q))).trans (by rw [show f = 10 by omega])
  have mz := m.2.2.2.2.2.2.2.2.2
  refine ⟨m.1.1, s_Main_judge m (by omega) (r := true) (by decide) (fun h1 f1 m1 => ⟨fun q => ?_, fun q => ⟨m1.1.1, ?_⟩⟩)⟩
  · have c : f = 0 := by
      by_cases c : f = 0
      · exact c
      · rw [if_neg c] at q
        exact absurd q (by decide)
    have ek : X = ((s.2.2.2.2.1.length : Int), stS (stRt (stF s 0) R) 0) := by
      rw [e]
      exact (cif_pos (hf0.mp c)).trans (cif_pos hb)
    rw [c] at m1
    have z1 : am_sz h1 = am_sz h := f1.1
    refine mk_Route (N := 8) (by omega) (fun h2 z2 e2 p2 => ?_)
    have m2 : mnB h2 (stF s 0) (am_sz h) := m1.grow (e2.sub (by omega) (by omega)) (by omega)
    have rt2 : rtA h2 13 32 R := (rt.kept f1 (by omega)).es (e2.sub (by omega) (by omega))
    refine ⟨m2.1.1, 13, m2.1.2.2.2.1, p2.1, s_Route_copyFrom p2 rt2 (by omega) hb.2 (fun h3 f3 p3 => ?_)⟩
    have m3 : mnB h3 (stF s 0) (am_sz h) := m2.grow (f3.es (by omega)) (by rw [f3.1]; omega)
    have f0z := f0.1
    have F3 : fc h0 h3 := ((f0.fi f1 (by omega)).tr (fc.es e2 (by omega))).fi f3 (by omega)
    rw [jk0]
    exact rt_loop (s := stF s 0) (by omega) (by omega) hR (hf0.mp c) hb.1 ek k R.length 0 h3 (by omega) F3 m3 p3 (by rw [f3.1]; omega) (fun j q hj => absurd hj (by omega))
  · have c : f ≠ 0 := by
      intro c
      rw [if_pos c] at q
      exact q rfl
    exact (no true h1 f1 m1.A (fun q => absurd q c) (fun q => absurd q c)).2
theorem s_Main_route {h : am_H} {s : St} {Q : Int32 → am_H → Prop} (m : mnA h s) (k : ∀ h', fc h h' → mnA h' (p_route s).2 → Q (ji (p_route s).1) h') : am_Ei m_Main_route 6 47 [.ref 0] h Q := by
  have mT := m.2.2.1
  refine ev_Main_route 0 h Q ⟨m.1.1, 1, m.1.2.1, mT.1, s_Tape_rewind mT (fun h1 f1 t1 => ?_)⟩
  have m1 : mnA h1 s := (m.tape (f1.wd (by omega) (by omega)) t1.1).A
  obtain ⟨R0, r1⟩ := m1.2.1.2.2.1
  refine ⟨m1.1.1, 13, m1.1.2.2.2.1, 1, m1.1.2.1, r1.1, s_Route_readFrom r1 t1 (by omega) (fun h2 f2 r2 t2 => ?_)⟩
  have x2 : mnX h2 := by
    obtain ⟨⟨D, x1⟩, ⟨M, x2⟩, -, x4, x5, x6, ⟨l, x7⟩⟩ := m1.2.1
    exact ⟨⟨D, x1.es (f2.es (by omega) (by omega))⟩, ⟨M, x2.es (f2.es (by omega) (by omega))⟩, ⟨_, r2⟩, x4.es (f2.es (by omega) (by omega)), x5.es (f2.es (by omega) (by omega)), x6.es (f2.es (by omega) (by omega)), ⟨l, x7.es (f2.es (by omega) (by omega))⟩⟩
  have m2 : mnA h2 s := (mnB.gen m1 (by rw [f2.1]; omega) (f2.es (by omega) (by omega)) (f2.es (by omega) (by omega)) (f2.es (by omega) (by omega)) x2 t2.1).A
  refine ⟨m2.1.1, s_Main_textWasRight m2 t2 (fun h3 f3 m3 => ?_)⟩
  have F3 : fc h h3 := ((fc.of f1 (by omega)).fr f2 (by omega) (by omega)).fi f3 (by omega)
  have m3' : mnA h3 _ := m3.A
  rw [bi_0, jk2]
  refine ⟨fun c => ?_, fun c => ⟨m3.1.1, mn_rf (X := p_route s) (cif_neg (by rw [c]; decide)) m3' F3 k⟩⟩
  have hw : rdW s.1 (rdR s.1 32 0 (sk s.1 0, true)).2 = true := by
    cases e2 : rdW s.1 (rdR s.1 32 0 (sk s.1 0, true)).2
    · exact absurd e2 c
    · rfl
  have r3 : rtA h3 13 32 (rdR s.1 32 0 (sk s.1 0, true)).1 := r2.kept f3 (by omega)
  have rl := r3.len
  have hR : 0 < (rdR s.1 32 0 (sk s.1 0, true)).1.length := rdR_ne s.1 31 0 (sk s.1 0, true)
  have cc := m3.2.2.2.1
  have c12 := cc.2.1.1
  have c14 := cc.2.2.2.1
  have l12 := cc.2.1.2
  have l14 := cc.2.2.2.2
  rw [c12, c14, jk8, ji_le]
  refine ⟨m3.1.1, fun c8 => ⟨13, m3.1.2.2.2.1, r3.1, ?_⟩, fun c8 => ⟨13, m3.1.2.2.2.1, r3.1, s_Route_stopCount r3 ?_⟩⟩
  · refine s_Route_findFault r3 (by omega) (fun o => ?_) (fun o => ?_)
    · exact rt_no (X := p_route s) (f := 0) m3' F3 (Or.inl rfl) ⟨fun _ => o, fun _ => rfl⟩ (cif_pos hw) k (by omega)
    · exact rt_no (X := p_route s) (f := 10) m3' F3 (Or.inr rfl) ⟨fun q => absurd q (by decide), fun q => absurd q o⟩ (cif_pos hw) k (by omega)
  · rw [ji_lt]
    refine ⟨fun c9 => ⟨m3.1.1, 13, m3.1.2.2.2.1, r3.1, ?_⟩, fun c9 => ⟨m3.1.1, 13, m3.1.2.2.2.1, r3.1, ?_⟩⟩
    · rw [c12]
      refine s_Route_findFault r3 (by omega) (fun o => ?_) (fun o => ?_)
      · exact rt_no (X := p_route s) (f := 0) m3' F3 (Or.inl rfl) ⟨fun _ => o, fun _ => rfl⟩ (cif_pos hw) k (by omega)
      · exact rt_no (X := p_route s) (f := 10) m3' F3 (Or.inr rfl) ⟨fun q => absurd q (by decide), fun q => absurd q o⟩ (cif_pos hw) k (by omega)
    · rw [c12]
      refine s_Route_findFault r3 (by omega) (fun o => ?_) (fun o => ?_)
      · exact rt_yes (X := p_route s) (f := 0) m3' F3 (Or.inl rfl) ⟨fun _ => o, fun _ => rfl⟩ (cif_pos hw) k r3 hR (by omega)
      · exact rt_yes (X := p_route s) (f := 10) m3' F3 (Or.inr rfl) ⟨fun q => absurd q (by decide), fun q => absurd q o⟩ (cif_pos hw) k r3 hR (by omega)
