/-! port, longer, second -/
noncomputable def rdP (s : St) (e : Nat × Bool) (f : St → Int × St) : Int × St := cif (rdW s.1 e = true) (f (rdS s e)) (rfs (rdS s e) 2)
noncomputable def tbl (s : St) (B : List Tn) : Int × St := rdP s (rdT s.1 24 (sk s.1 0, true)).2 (fun s' => kpP s' (flw B (rdT s.1 24 (sk s.1 0, true)).1).1 (flw B (rdT s.1 24 (sk s.1 0, true)).1).2)
noncomputable def p_port (s : St) : Int × St := tbl s []
noncomputable def p_longer (s : St) (n : Int) : Int × St := match gt s.2.1 n with | some B => tbl s B | none => unr s
noncomputable def p_second (s : St) (n : Int) : Int × St := match gt s.2.1 n with | some P => rdP s (dfE s.1 (sk s.1 0, true)) (fun s' => kpP s' (cif (shO (dfS1 s.1 (sk s.1 0, true)) ∧ shO (dfS2 s.1 (sk s.1 0, true))) (cif (okT (P.map (shT (dfS1 s.1 (sk s.1 0, true)) (dfS2 s.1 (sk s.1 0, true))))) 0 7) 6) (P.map (shT (dfS1 s.1 (sk s.1 0, true)) (dfS2 s.1 (sk s.1 0, true))))) | none => unr s
theorem kpP_ne {s : St} {f : Int} {M : List Tn} (h : f ≠ 0) : kpP s f M = rfs (stF s f) 4 := cif_neg h
theorem tpA.T {h : am_H} {a : Nat} {T : List Int} {e : Nat × Bool} (t : tpA h a T e) : tpT h a T := t.1
/-- the draft and the tape have changed -/
theorem mnA.draft {h h' : am_H} {s : St} {D : List Tn} (m : mnA h s) (f : fr h h' 1 3 9) (t : tpT h' 1 s.1) (d : dfA h' 3 D) : mnA h' s := by
  have z : am_sz h' = am_sz h := f.1
  have mX := m.2.1
  obtain ⟨-, ⟨M, x2⟩, ⟨R, x3⟩, x4, x5, x6, ⟨l, x7⟩⟩ := mX
  have x : mnX h' := ⟨⟨D, d⟩, ⟨M, x2.es (f.es (by omega) (by omega))⟩, ⟨R, x3.es (f.es (by omega) (by omega))⟩, x4.es (f.es (by omega) (by omega)), x5.es (f.es (by omega) (by omega)), x6.es (f.es (by omega) (by omega)), ⟨l, x7.es (f.es (by omega) (by omega))⟩⟩
  exact (mnB.gen m (by omega) (f.es (by omega) (by omega)) (f.es (by omega) (by omega)) (f.es (by omega) (by omega)) x t).A
theorem mnA.mdP {h h' : am_H} {s : St} {M : List Tn} (m : mnA h s) (f : fi h h' 9 13) (p : ptA h' 9 40 M) : mnA h' s := by
  obtain ⟨⟨D, x1⟩, -, ⟨R, x3⟩, x4, x5, x6, ⟨l, x7⟩⟩ := m.2.1
  exact m.work f (by omega) (by omega) ⟨⟨D, x1.kept f (by omega)⟩, ⟨M, p⟩, ⟨R, x3.kept f (by omega)⟩, x4.kept f (by omega), x5.kept f (by omega), x6.kept f (by omega), ⟨l, x7.kept f (by omega)⟩⟩
theorem rdS_ps (s : St) (e : Nat × Bool) : (rdS s e).2.1 = s.2.1 := rfl
theorem s_Main_addTable {h : am_H} {s : St} {B : List Tn} {b : Nat} {X : Int × St} {Q : Int32 → am_H → Prop} (e : X = tbl s B) (m : mnA h s) (pt : ptA h b 16 B) (hb : 146 ≤ b) (g : gW B) (k : ∀ h', fc h h' → mnA h' X.2 → Q (ji X.1) h') : am_Ei m_Main_addTable 4 53 [.ref 0, .ref b] h Q := by
  have mT := m.2.2.1
  refine ev_Main_addTable 0 b h Q ⟨m.1.1, 1, m.1.2.1, mT.1, s_Tape_rewind mT (fun h1 f1 t1 => ?_)⟩
  have m1 : mnA h1 s := (m.tape (f1.wd (by omega) (by omega)) t1.1).A
  obtain ⟨D0, d1⟩ := m1.2.1.1
  refine ⟨m1.1.1, 3, m1.1.2.2.1, 1, m1.1.2.1, d1.1.1, s_Draft_readTable d1 t1 (by omega) (fun h2 f2 d2 t2 => ?_)⟩
  have m2 : mnA h2 s := m1.draft (f2.wd (by omega) (by omega)) t2.1 d2
  refine ⟨m2.1.1, s_Main_textWasRight m2 t2 (fun h3 f3 m3 => ?_)⟩
  have F3 : fc h h3 := ((fc.of f1 (by omega)).fr f2 (by omega) (by omega)).fi f3 (by omega)
  have m3' : mnA h3 _ := m3.A
  rw [bi_0, jk2]
  refine ⟨fun c => ?_, fun c => ⟨m3.1.1, mn_rf (X := X) ?_ m3' F3 k⟩⟩
  · have hw : rdW s.1 (rdT s.1 24 (sk s.1 0, true)).2 = true := by
      cases e2 : rdW s.1 (rdT s.1 24 (sk s.1 0, true)).2
      · exact absurd e2 c
      · rfl
    have d3 : dfA h3 3 _ := d2.kept f3 (by omega)
    obtain ⟨M0, p0⟩ := m3.2.1.2.1
    have pt3 : ptA h3 b 16 B := ((pt.kept f1 (by omega)).es (f2.es (by omega) (by omega))).kept f3 (by omega)
    refine ⟨m3.1.1, 3, m3.1.2.2.1, d3.1.1, s_Draft_followOn d3 p0 pt3 (by omega) g.2.1 g.pW (fun h4 f4 p4 w4 => ?_)⟩
    have m4 : mnA h4 _ := m3'.mdP f4 p4
    refine ⟨m4.1.1, s_Main_keepPort (X := X) ?_ m4 (F3.fi f4 (by omega)) p4 (flw_bd _ _) (fun c0 c16 => w4.gW ?_ c16) k⟩
    · rw [e]
      exact cif_pos hw
    · rw [flw_len _ _ c0]
      have : 0 < (rdT s.1 24 (sk s.1 0, true)).1.length := rdT_ne s.1 23 (sk s.1 0, true)
      omega
  · rw [e]
    exact cif_neg (by rw [c]; decide)
theorem s_Main_port {h : am_H} {s : St} {Q : Int32 → am_H → Prop} (m : mnA h s) (k : ∀ h', fc h h' → mnA h' (p_port s).2 → Q (ji (p_port s).1) h') : am_Ei m_Main_port 4 53 [.ref 0] h Q := by
  have mT := m.2.2.1
  refine ev_Main_port 0 h Q ⟨m.1.1, ?_⟩
  refine ev_Main_addTableN 0 h _ ⟨m.1.1, 1, m.1.2.1, mT.1, s_Tape_rewind mT (fun h1 f1 t1 => ?_)⟩
  have m1 : mnA h1 s := (m.tape (f1.wd (by omega) (by omega)) t1.1).A
  obtain ⟨D0, d1⟩ := m1.2.1.1
  refine ⟨m1.1.1, 3, m1.1.2.2.1, 1, m1.1.2.1, d1.1.1, s_Draft_readTable d1 t1 (by omega) (fun h2 f2 d2 t2 => ?_)⟩
  have m2 : mnA h2 s := m1.draft (f2.wd (by omega) (by omega)) t2.1 d2
  refine ⟨m2.1.1, s_Main_textWasRight m2 t2 (fun h3 f3 m3 => ?_)⟩
  have F3 : fc h h3 := ((fc.of f1 (by omega)).fr f2 (by omega) (by omega)).fi f3 (by omega)
  have m3' : mnA h3 _ := m3.A
  rw [bi_0, jk2]
  refine ⟨fun c => ?_, fun c => ⟨m3.1.1, mn_rf (X := p_port s) (cif_neg (by rw [c]; decide)) m3' F3 k⟩⟩
  have hw : rdW s.1 (rdT s.1 24 (sk s.1 0, true)).2 = true := by
    cases e2 : rdW s.1 (rdT s.1 24 (sk s.1 0, true)).2
    · exact absurd e2 c
    · rfl
  have d3 : dfA h3 3 _ := d2.kept f3 (by omega)
  obtain ⟨M0, p0⟩ := m3.2.1.2.1
  refine ⟨m3.1.1, 3, m3.1.2.2.1, d3.1.1, s_Draft_followOnN d3 p0 (fun h4 f4 p4 w4 => ?_)⟩
  have m4 : mnA h4 _ := m3'.mdP f4 p4
  refine ⟨m4.1.1, s_Main_keepPort (X := p_port s) (cif_pos hw) m4 (F3.fi f4 (by omega)) p4 (flw_bd _ _) (fun c0 c16 => w4.gW ?_ c16) k⟩
  rw [flw_len _ _ c0]
  have : 0 < (rdT s.1 24 (sk s.1 0, true)).1.length := rdT_ne s.1 23 (sk s.1 0, true)
  omega
theorem s_Main_longer {h : am_H} {s : St} {n : Int} {Q : Int32 → am_H → Prop} (m : mnA h s) (hn : -2147483648 ≤ n ∧ n < 2147483648) (k : ∀ h', fc h h' → mnA h' (p_longer s n).2 → Q (ji (p_longer s n).1) h') : am_Ei m_Main_longer 4 53 [.ref 0, .int (ji n)] h Q := by
  refine ev_Main_longer 0 (ji n) h Q ⟨m.1.1, s_Main_portAt m hn (fun e => ⟨fun _ => ⟨m.1.1, s_Main_refuseUnread (X := p_longer s n) (by unfold p_longer; rw [e]) m k⟩, fun b q => (by cases q)⟩) (fun P c e g hc pt hb => ⟨fun q => (by cases q), fun b q => ?_⟩)⟩
  obtain rfl := Option.some.inj q
  exact ⟨m.1.1, s_Main_addTable (X := p_longer s n) (by unfold p_longer; rw [e]) m pt hb g k⟩
theorem s_Main_second {h : am_H} {s : St} {n : Int} {Q : Int32 → am_H → Prop} (m : mnA h s) (hn : -2147483648 ≤ n ∧ n < 2147483648) (k : ∀ h', fc h h' → mnA h' (p_second s n).2 → Q (ji (p_second s n).1) h') : am_Ei m_Main_second 4 53 [.ref 0, .int (ji n)] h Q := by
  refine ev_Main_second 0 (ji n) h Q ⟨m.1.1, s_Main_portAt m hn (fun e => ⟨fun _ => ⟨m.1.1, s_Main_refuseUnread (X := p_second s n) (by unfold p_second; rw [e]) m k⟩, fun b q => (by cases q)⟩) (fun P b e g hc pt hb => ⟨fun q => (by cases q), fun b' q => ?_⟩)⟩
  obtain rfl := Option.some.inj q
  have mT := m.2.2.1
  refine ⟨m.1.1, 1, m.1.2.1, mT.1, s_Tape_rewind mT (fun h1 f1 t1 => ?_)⟩
  have m1 : mnA h1 s := (m.tape (f1.wd (by omega) (by omega)) t1.1).A
  obtain ⟨D0, d1⟩ := m1.2.1.1
  refine ⟨m1.1.1, 3, m1.1.2.2.1, 1, m1.1.2.1, d1.1.1, s_Draft_readDifferences d1.1 t1 (by omega) (fun h2 f2 sa sb t2 => ?_)⟩
  have d2 : dfA h2 3 D0 := by
    refine ⟨d1.1.kept f2.2.1 f2.2.2.1, ?_⟩
    rw [f2.2.2.2 3 (by omega) (by omega), f2.2.2.2 (3 + 1) (by omega) (by omega), f2.2.2.2 (3 + 2) (by omega) (by omega), f2.2.2.2 (3 + 3) (by omega) (by omega)]
    exact d1.2
  have m2 : mnA h2 s := m1.draft (f2.wd (by omega) (by omega)) t2.1 d2
  refine ⟨m2.1.1, s_Main_textWasRight m2 t2 (fun h3 f3 m3 => ?_)⟩
  have F3 : fc h h3 := ((fc.of f1 (by omega)).fr f2 (by omega) (by omega)).fi f3 (by omega)
  have m3' : mnA h3 _ := m3.A
  rw [bi_0, jk2]
  have ep : p_second s n = rdP s (dfE s.1 (sk s.1 0, true)) (fun s' => kpP s' (cif (shO (dfS1 s.1 (sk s.1 0, true)) ∧ shO (dfS2 s.1 (sk s.1 0, true))) (cif (okT (P.map (shT (dfS1 s.1 (sk s.1 0, true)) (dfS2 s.1 (sk s.1 0, true))))) 0 7) 6) (P.map (shT (dfS1 s.1 (sk s.1 0, true)) (dfS2 s.1 (sk s.1 0, true))))) := by
    unfold p_second
    rw [e]
  refine ⟨fun c => ?_, fun c => ⟨m3.1.1, mn_rf (X := p_second s n) (ep.trans (cif_neg (by rw [c]; decide))) m3' F3 k⟩⟩
  have hw : rdW s.1 (dfE s.1 (sk s.1 0, true)) = true := by
    cases e2 : rdW s.1 (dfE s.1 (sk s.1 0, true))
    · exact absurd e2 c
    · rfl
  have d3 : dfA h3 3 _ := d2.kept f3 (by omega)
  obtain ⟨M0, p0⟩ := m3.2.1.2.1
  have pt3 : ptA h3 b 16 P := ((pt.kept f1 (by omega)).es (f2.es (by omega) (by omega))).kept f3 (by omega)
  have sa3 := sa.kept f3 (by omega)
  have sb3 := sb.kept f3 (by omega)
  refine ⟨m3.1.1, 3, m3.1.2.2.1, d3.1.1, s_Draft_shiftFrom d3.1 sa3 sb3 p0 pt3 (by omega) g (fun c1 h4 M f4 p4 => ?_) (fun c1 c2 h4 M f4 p4 => ?_) (fun c1 c2 h4 f4 p4 => ?_)⟩
  · have m4 : mnA h4 _ := m3'.mdP f4 p4
    refine ⟨m4.1.1, s_Main_keepPort (X := p_second s n) ?_ m4 (F3.fi f4 (by omega)) p4 (by omega) (fun q => absurd q (by omega)) k⟩
    refine (ep.trans (cif_pos hw)).trans ?_
    rw [cif_neg c1]
    exact (kpP_ne (by omega)).trans (kpP_ne (by omega)).symm
  · have m4 : mnA h4 _ := m3'.mdP f4 p4
    refine ⟨m4.1.1, s_Main_keepPort (X := p_second s n) ?_ m4 (F3.fi f4 (by omega)) p4 (by omega) (fun q => absurd q (by omega)) k⟩
    refine (ep.trans (cif_pos hw)).trans ?_
    rw [cif_pos c1, cif_neg c2]
    exact (kpP_ne (by omega)).trans (kpP_ne (by omega)).symm
  · have m4 : mnA h4 _ := m3'.mdP f4 p4
    refine ⟨m4.1.1, s_Main_keepPort (X := p_second s n) ?_ m4 (F3.fi f4 (by omega)) p4 (by omega) (fun _ _ => shT_gW g c2) k⟩
    refine (ep.trans (cif_pos hw)).trans ?_
    rw [cif_pos c1, cif_pos c2]
