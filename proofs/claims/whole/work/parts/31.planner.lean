def bk_Planner_allowEarlier_0_2 : List am_E := [(0, .aload_n 1, 1, 0, 0), (1, .iload_n 2, 1, 0, 0)]
theorem bk_Planner_allowEarlier_0_2_ok : bk_Planner_allowEarlier_0_2.all (am_ok 1 false m_Planner_allowEarlier.2.1) = true := by decide +kernel
def bk_Planner_allowEarlier_5_8 : List am_E := [(5, .istore 5, 2, 0, 0), (7, .aload_n 0, 1, 0, 0), (8, .getfield 38, 3, 421, 0), (11, .iload_n 2, 1, 0, 0), (12, .aaload, 1, 38, 0), (13, .astore 6, 2, 0, 0), (15, .iload 5, 2, 0, 0), (17, .iconst 1, 1, 0, 1)]
theorem bk_Planner_allowEarlier_5_8_ok : bk_Planner_allowEarlier_5_8.all (am_ok 1 false m_Planner_allowEarlier.2.1) = true := by decide +kernel
def bk_Planner_allowEarlier_34_1 : List am_E := [(34, .iload 5, 2, 0, 0)]
theorem bk_Planner_allowEarlier_34_1_ok : bk_Planner_allowEarlier_34_1.all (am_ok 1 false m_Planner_allowEarlier.2.1) = true := by decide +kernel
def bk_Planner_allowEarlier_65_4 : List am_E := [(65, .aload_n 0, 1, 0, 0), (66, .aload_n 3, 1, 0, 0), (67, .aload_n 1, 1, 0, 0), (68, .iload_n 2, 1, 0, 0)]
theorem bk_Planner_allowEarlier_65_4_ok : bk_Planner_allowEarlier_65_4.all (am_ok 1 false m_Planner_allowEarlier.2.1) = true := by decide +kernel
def bk_Planner_allowEarlier_72_1 : List am_E := [(72, .aload 4, 2, 0, 0)]
theorem bk_Planner_allowEarlier_72_1_ok : bk_Planner_allowEarlier_72_1.all (am_ok 1 false m_Planner_allowEarlier.2.1) = true := by decide +kernel
def bk_Planner_allowEarlier_77_1 : List am_E := [(77, .iadd, 1, 0, 0)]
theorem bk_Planner_allowEarlier_77_1_ok : bk_Planner_allowEarlier_77_1.all (am_ok 1 false m_Planner_allowEarlier.2.1) = true := by decide +kernel
def bk_Planner_allowEarlier_81_2 : List am_E := [(81, .aload_n 0, 1, 0, 0), (82, .getfield 27, 3, 409, 0)]
theorem bk_Planner_allowEarlier_81_2_ok : bk_Planner_allowEarlier_81_2.all (am_ok 1 false m_Planner_allowEarlier.2.1) = true := by decide +kernel
def bk_Planner_allowEarlier_88_2 : List am_E := [(88, .iconst 0, 1, 0, 0), (89, .istore 7, 2, 0, 0)]
theorem bk_Planner_allowEarlier_88_2_ok : bk_Planner_allowEarlier_88_2.all (am_ok 1 false m_Planner_allowEarlier.2.1) = true := by decide +kernel
def bk_Planner_allowEarlier_39_2 : List am_E := [(39, .aload_n 0, 1, 0, 0), (40, .getfield 30, 3, 413, 0)]
theorem bk_Planner_allowEarlier_39_2_ok : bk_Planner_allowEarlier_39_2.all (am_ok 1 false m_Planner_allowEarlier.2.1) = true := by decide +kernel
def bk_Planner_allowEarlier_46_5 : List am_E := [(46, .aload_n 0, 1, 0, 0), (47, .getfield 30, 3, 413, 0), (50, .ldc 139, 2, 0, -1000000), (52, .aload 6, 2, 0, 0), (54, .ldc 107, 2, 0, 1000000)]
theorem bk_Planner_allowEarlier_46_5_ok : bk_Planner_allowEarlier_46_5.all (am_ok 1 false m_Planner_allowEarlier.2.1) = true := by decide +kernel
def bk_Planner_allowEarlier_62_1 : List am_E := [(62, .goto 101, 3, 0, 101)]
theorem bk_Planner_allowEarlier_62_1_ok : bk_Planner_allowEarlier_62_1.all (am_ok 1 false m_Planner_allowEarlier.2.1) = true := by decide +kernel
def bk_Planner_allowEarlier_21_4 : List am_E := [(21, .aload_n 0, 1, 0, 0), (22, .getfield 30, 3, 413, 0), (25, .aload 6, 2, 0, 0), (27, .iconst 0, 1, 0, 0)]
theorem bk_Planner_allowEarlier_21_4_ok : bk_Planner_allowEarlier_21_4.all (am_ok 1 false m_Planner_allowEarlier.2.1) = true := by decide +kernel
def bk_Planner_allowEarlier_31_1 : List am_E := [(31, .goto 132, 3, 0, 132)]
theorem bk_Planner_allowEarlier_31_1_ok : bk_Planner_allowEarlier_31_1.all (am_ok 1 false m_Planner_allowEarlier.2.1) = true := by decide +kernel
def bk_Planner_allowEarlier_91_3 : List am_E := [(91, .iload 7, 2, 0, 0), (93, .aload_n 0, 1, 0, 0), (94, .getfield 23, 3, 405, 0)]
theorem bk_Planner_allowEarlier_91_3_ok : bk_Planner_allowEarlier_91_3.all (am_ok 1 false m_Planner_allowEarlier.2.1) = true := by decide +kernel
def bk_Planner_allowEarlier_150_5 : List am_E := [(150, .aload_n 0, 1, 0, 0), (151, .getfield 30, 3, 413, 0), (154, .aload 6, 2, 0, 0), (156, .aload_n 0, 1, 0, 0), (157, .getfield 27, 3, 409, 0)]
theorem bk_Planner_allowEarlier_150_5_ok : bk_Planner_allowEarlier_150_5.all (am_ok 1 false m_Planner_allowEarlier.2.1) = true := by decide +kernel
def bk_Planner_allowEarlier_103_4 : List am_E := [(103, .aload 6, 2, 0, 0), (105, .aload_n 0, 1, 0, 0), (106, .getfield 23, 3, 405, 0), (109, .iload 7, 2, 0, 0)]
theorem bk_Planner_allowEarlier_103_4_ok : bk_Planner_allowEarlier_103_4.all (am_ok 1 false m_Planner_allowEarlier.2.1) = true := by decide +kernel
def bk_Planner_allowEarlier_117_3 : List am_E := [(117, .istore 8, 2, 0, 0), (119, .iload 8, 2, 0, 0), (121, .ldc 106, 2, 0, -2147483648)]
theorem bk_Planner_allowEarlier_117_3_ok : bk_Planner_allowEarlier_117_3.all (am_ok 1 false m_Planner_allowEarlier.2.1) = true := by decide +kernel
def bk_Planner_allowEarlier_144_2 : List am_E := [(144, .iinc 7 1, 3, 0, 1), (147, .goto (-56), 3, 0, -56)]
theorem bk_Planner_allowEarlier_144_2_ok : bk_Planner_allowEarlier_144_2.all (am_ok 1 false m_Planner_allowEarlier.2.1) = true := by decide +kernel
def bk_Planner_allowEarlier_126_5 : List am_E := [(126, .aload_n 0, 1, 0, 0), (127, .getfield 27, 3, 409, 0), (130, .aload_n 0, 1, 0, 0), (131, .getfield 23, 3, 405, 0), (134, .iload 7, 2, 0, 0)]
theorem bk_Planner_allowEarlier_126_5_ok : bk_Planner_allowEarlier_126_5.all (am_ok 1 false m_Planner_allowEarlier.2.1) = true := by decide +kernel
def bk_Planner_allowEarlier_139_1 : List am_E := [(139, .iload 8, 2, 0, 0)]
theorem bk_Planner_allowEarlier_139_1_ok : bk_Planner_allowEarlier_139_1.all (am_ok 1 false m_Planner_allowEarlier.2.1) = true := by decide +kernel
theorem dc_Planner_allowEarlier_2 : decode m_Planner_allowEarlier.2.1 2 = .ok (.invokevirtual 117, 3) := by decide +kernel
theorem dc_Planner_allowEarlier_69 : decode m_Planner_allowEarlier.2.1 69 = .ok (.invokevirtual 120, 3) := by decide +kernel
theorem dc_Planner_allowEarlier_74 : decode m_Planner_allowEarlier.2.1 74 = .ok (.invokevirtual 123, 3) := by decide +kernel
theorem dc_Planner_allowEarlier_78 : decode m_Planner_allowEarlier.2.1 78 = .ok (.invokevirtual 126, 3) := by decide +kernel
theorem dc_Planner_allowEarlier_85 : decode m_Planner_allowEarlier.2.1 85 = .ok (.invokevirtual 62, 3) := by decide +kernel
theorem dc_Planner_allowEarlier_43 : decode m_Planner_allowEarlier.2.1 43 = .ok (.invokevirtual 62, 3) := by decide +kernel
theorem dc_Planner_allowEarlier_56 : decode m_Planner_allowEarlier.2.1 56 = .ok (.invokevirtual 108, 3) := by decide +kernel
theorem dc_Planner_allowEarlier_59 : decode m_Planner_allowEarlier.2.1 59 = .ok (.invokevirtual 65, 3) := by decide +kernel
theorem dc_Planner_allowEarlier_163 : decode m_Planner_allowEarlier.2.1 163 = .ok (.return_, 1) := by decide +kernel
theorem dc_Planner_allowEarlier_36 : decode m_Planner_allowEarlier.2.1 36 = .ok (.ifCond .ne 29, 3) := by decide +kernel
theorem dc_Planner_allowEarlier_28 : decode m_Planner_allowEarlier.2.1 28 = .ok (.invokevirtual 98, 3) := by decide +kernel
theorem dc_Planner_allowEarlier_18 : decode m_Planner_allowEarlier.2.1 18 = .ok (.if_icmp .ne 16, 3) := by decide +kernel
theorem dc_Planner_allowEarlier_97 : decode m_Planner_allowEarlier.2.1 97 = .ok (.invokevirtual 95, 3) := by decide +kernel
theorem dc_Planner_allowEarlier_160 : decode m_Planner_allowEarlier.2.1 160 = .ok (.invokevirtual 136, 3) := by decide +kernel
theorem dc_Planner_allowEarlier_111 : decode m_Planner_allowEarlier.2.1 111 = .ok (.invokevirtual 133, 3) := by decide +kernel
theorem dc_Planner_allowEarlier_114 : decode m_Planner_allowEarlier.2.1 114 = .ok (.invokevirtual 108, 3) := by decide +kernel
theorem dc_Planner_allowEarlier_136 : decode m_Planner_allowEarlier.2.1 136 = .ok (.invokevirtual 114, 3) := by decide +kernel
theorem dc_Planner_allowEarlier_141 : decode m_Planner_allowEarlier.2.1 141 = .ok (.invokevirtual 65, 3) := by decide +kernel
theorem dc_Planner_allowEarlier_123 : decode m_Planner_allowEarlier.2.1 123 = .ok (.if_icmp .eq 21, 3) := by decide +kernel
theorem dc_Planner_allowEarlier_100 : decode m_Planner_allowEarlier.2.1 100 = .ok (.if_icmp .ge 50, 3) := by decide +kernel
set_option maxRecDepth 20000 in
theorem sg_Planner_allowEarlier_0 {kc ks : Nat} (a0 a1 a3 a4 : Nat) (x2 : Int32) (h : am_H) (Q : Option Value → am_H → Prop) (t : (am_tg h a1 = (4, 7) ∧ (am_Ei m_Route_kindOf 0 0 [.ref a1, .int x2] h (fun r3 h2 => (am_tg h2 a0 = (1, 7) ∧ (∃ b4, am_P h2 a0 5 = some b4 ∧ ((am_tg h2 b4).1 = 38 ∧ (vp_in x2 (am_tg h2 b4).2 ∧ (∃ b5, am_P h2 b4 x2.toNatClampNeg = some b5 ∧ ((¬ r3 = 1 → ((¬ r3 = 0 → (am_tg h2 a1 = (4, 7) ∧ (am_Ei m_Route_levelOf 0 0 [.ref a1, .int x2] h2 (fun r15 h14 => (am_tg h14 a4 = (6, 3) ∧ (am_Ei m_Ship_draught 0 0 [.ref a4] h14 (fun r18 h17 => (am_tg h17 a0 = (1, 7) ∧ (am_Ew m_Planner_findDeep 0 0 [.ref a0, .ref a3, .int (r15 + r18)] h17 (fun h20 => (am_tg h20 a0 = (1, 7) ∧ (∃ b21, am_P h20 a0 2 = some b21 ∧ (am_tg h20 b21 = (8, 4) ∧ (am_Ew m_Spans_clear 0 0 [.ref b21] h20 (fun h25 => am_EI m_Planner_allowEarlier kc ks 91 [.ref a0, .ref a1, .int x2, .ref a3, .ref a4, .int r3, .ref b5, .int 0, .float 0] [] h25 Q))))))))))))))) ∧ (r3 = 0 → (∃ b26, am_P h2 a0 3 = some b26 ∧ (am_tg h2 b26 = (8, 4) ∧ (am_Ew m_Spans_clear 0 0 [.ref b26] h2 (fun h29 => (am_tg h29 a0 = (1, 7) ∧ (∃ b30, am_P h29 a0 3 = some b30 ∧ (am_tg h29 b5 = (8, 4) ∧ (am_Ei m_Spans_latestUpTo 0 0 [.ref b5, .int 1000000] h29 (fun r35 h34 => (am_tg h34 b30 = (8, 4) ∧ (am_Ew m_Spans_add 0 0 [.ref b30, .int (-1000000), .int r35] h34 (fun h37 => Q none h37))))))))))))))) ∧ (r3 = 1 → (∃ b38, am_P h2 a0 3 = some b38 ∧ (am_tg h2 b38 = (8, 4) ∧ (am_Ew m_Spans_copyShifted 0 0 [.ref b38, .ref b5, .int 0] h2 (fun h41 => Q none h41))))))))))))))) : am_EI m_Planner_allowEarlier kc ks 0 [.ref a0, .ref a1, .int x2, .ref a3, .ref a4, .float 0, .float 0, .float 0, .float 0] [] h Q := by
  refine am_blk_ok (c := 1) (ini := false) (by decide) rfl (fun q => by cases q) bk_Planner_allowEarlier_0_2 _ 2 _ _ _ bk_Planner_allowEarlier_0_2_ok rfl ?_
  show am_EI m_Planner_allowEarlier kc ks 2 [.ref a0, .ref a1, .int x2, .ref a3, .ref a4, .float 0, .float 0, .float 0, .float 0] [.int x2, .ref a1] h Q
  obtain ⟨o1, t⟩ := t
  refine am_callV (M2 := m_Route_kindOf) (ci := 4) (a := a1) (kc := kc) (ks := ks) (k2c := 0) (k2s := 0) (as := []) [.int x2] dc_Planner_allowEarlier_2 lk_1_117 im_Route_kindOf se_Route_kindOf lm_Route_kindOf np_Route_kindOf ⟨Nat.le_of_ble_eq_true rfl, Nat.le_of_ble_eq_true rfl⟩ (fun _ => Nat.le_of_ble_eq_true rfl) (by decide) rfl o1 (am_Ei.end (am_Ei.mono t (fun r3 h2 t => ?_)))
  refine am_blk_ok (c := 1) (ini := false) (by decide) rfl (fun q => by cases q) bk_Planner_allowEarlier_5_8 _ 18 _ _ _ bk_Planner_allowEarlier_5_8_ok rfl ?_
  show (am_tg h2 a0 = (1, 7) ∧ (∃ b4, am_P h2 a0 5 = some b4 ∧ ((am_tg h2 b4).1 = 38 ∧ ((38 ∈ am_ks ∧ 30 ≤ 38) ∧ (vp_in x2 (am_tg h2 b4).2 ∧ (∃ b5, am_P h2 b4 x2.toNatClampNeg = some b5 ∧ am_EI m_Planner_allowEarlier kc ks 18 [.ref a0, .ref a1, .int x2, .ref a3, .ref a4, .int r3, .ref b5, .float 0, .float 0] [.int 1, .int r3] h2 Q))))))
  obtain ⟨o6, b4, q7, o8, o9, b5, q10, t⟩ := t
  refine ⟨o6, b4, q7, o8, ⟨by decide, by decide⟩, o9, b5, q10, ?_⟩
  refine am_ic_ne (tgt := 34) dc_Planner_allowEarlier_18 (by decide) (fun c11 => ?_) (fun c11 => ?_)
  · replace t := t.1 c11
    refine am_blk_ok (c := 1) (ini := false) (by decide) rfl (fun q => by cases q) bk_Planner_allowEarlier_34_1 _ 36 _ _ _ bk_Planner_allowEarlier_34_1_ok rfl ?_
    show am_EI m_Planner_allowEarlier kc ks 36 [.ref a0, .ref a1, .int x2, .ref a3, .ref a4, .int r3, .ref b5, .float 0, .float 0] [.int r3] h2 Q
    refine am_if_ne (tgt := 65) dc_Planner_allowEarlier_36 (by decide) (fun c12 => ?_) (fun c12 => ?_)
    · replace t := t.1 c12
      refine am_blk_ok (c := 1) (ini := false) (by decide) rfl (fun q => by cases q) bk_Planner_allowEarlier_65_4 _ 69 _ _ _ bk_Planner_allowEarlier_65_4_ok rfl ?_
      show am_EI m_Planner_allowEarlier kc ks 69 [.ref a0, .ref a1, .int x2, .ref a3, .ref a4, .int r3, .ref b5, .float 0, .float 0] [.int x2, .ref a1, .ref a3, .ref a0] h2 Q
      obtain ⟨o13, t⟩ := t
      refine am_callV (M2 := m_Route_levelOf) (ci := 4) (a := a1) (kc := kc) (ks := ks) (k2c := 0) (k2s := 0) (as := [.ref a3, .ref a0]) [.int x2] dc_Planner_allowEarlier_69 lk_1_120 im_Route_levelOf se_Route_levelOf lm_Route_levelOf np_Route_levelOf ⟨Nat.le_of_ble_eq_true rfl, Nat.le_of_ble_eq_true rfl⟩ (fun _ => Nat.le_of_ble_eq_true rfl) (by decide) rfl o13 (am_Ei.end (am_Ei.mono t (fun r15 h14 t => ?_)))
      refine am_blk_ok (c := 1) (ini := false) (by decide) rfl (fun q => by cases q) bk_Planner_allowEarlier_72_1 _ 74 _ _ _ bk_Planner_allowEarlier_72_1_ok rfl ?_
      show am_EI m_Planner_allowEarlier kc ks 74 [.ref a0, .ref a1, .int x2, .ref a3, .ref a4, .int r3, .ref b5, .float 0, .float 0] [.ref a4, .int r15, .ref a3, .ref a0] h14 Q
      obtain ⟨o16, t⟩ := t
      refine am_callV (M2 := m_Ship_draught) (ci := 6) (a := a4) (kc := kc) (ks := ks) (k2c := 0) (k2s := 0) (as := [.int r15, .ref a3, .ref a0]) [] dc_Planner_allowEarlier_74 lk_1_123 im_Ship_draught se_Ship_draught lm_Ship_draught np_Ship_draught ⟨Nat.le_of_ble_eq_true rfl, Nat.le_of_ble_eq_true rfl⟩ (fun _ => Nat.le_of_ble_eq_true rfl) (by decide) rfl o16 (am_Ei.end (am_Ei.mono t (fun r18 h17 t => ?_)))
      refine am_blk_ok (c := 1) (ini := false) (by decide) rfl (fun q => by cases q) bk_Planner_allowEarlier_77_1 _ 78 _ _ _ bk_Planner_allowEarlier_77_1_ok rfl ?_
      show am_EI m_Planner_allowEarlier kc ks 78 [.ref a0, .ref a1, .int x2, .ref a3, .ref a4, .int r3, .ref b5, .float 0, .float 0] [.int (r15 + r18), .ref a3, .ref a0] h17 Q
      obtain ⟨o19, t⟩ := t
      refine am_callV (M2 := m_Planner_findDeep) (ci := 1) (a := a0) (kc := kc) (ks := ks) (k2c := 0) (k2s := 0) (as := []) [.ref a3, .int (r15 + r18)] dc_Planner_allowEarlier_78 lk_1_126 im_Planner_findDeep se_Planner_findDeep lm_Planner_findDeep np_Planner_findDeep ⟨Nat.le_of_ble_eq_true rfl, Nat.le_of_ble_eq_true rfl⟩ (fun _ => Nat.le_of_ble_eq_true rfl) (by decide) rfl o19 (am_Ew.end (am_Ew.mono t (fun h20 t => ?_)))
      refine am_blk_ok (c := 1) (ini := false) (by decide) rfl (fun q => by cases q) bk_Planner_allowEarlier_81_2 _ 85 _ _ _ bk_Planner_allowEarlier_81_2_ok rfl ?_
      show (am_tg h20 a0 = (1, 7) ∧ (∃ b21, am_P h20 a0 2 = some b21 ∧ am_EI m_Planner_allowEarlier kc ks 85 [.ref a0, .ref a1, .int x2, .ref a3, .ref a4, .int r3, .ref b5, .float 0, .float 0] [.ref b21] h20 Q))
      obtain ⟨o22, b21, q23, t⟩ := t
      refine ⟨o22, b21, q23, ?_⟩
      obtain ⟨o24, t⟩ := t
      refine am_callV (M2 := m_Spans_clear) (ci := 8) (a := b21) (kc := kc) (ks := ks) (k2c := 0) (k2s := 0) (as := []) [] dc_Planner_allowEarlier_85 lk_1_62 im_Spans_clear se_Spans_clear lm_Spans_clear np_Spans_clear ⟨Nat.le_of_ble_eq_true rfl, Nat.le_of_ble_eq_true rfl⟩ (fun _ => Nat.le_of_ble_eq_true rfl) (by decide) rfl o24 (am_Ew.end (am_Ew.mono t (fun h25 t => ?_)))
      refine am_blk_ok (c := 1) (ini := false) (by decide) rfl (fun q => by cases q) bk_Planner_allowEarlier_88_2 _ 91 _ _ _ bk_Planner_allowEarlier_88_2_ok rfl ?_
      show am_EI m_Planner_allowEarlier kc ks 91 [.ref a0, .ref a1, .int x2, .ref a3, .ref a4, .int r3, .ref b5, .int 0, .float 0] [] h25 Q
      exact t
    · replace t := t.2 c12
      refine am_blk_ok (c := 1) (ini := false) (by decide) rfl (fun q => by cases q) bk_Planner_allowEarlier_39_2 _ 43 _ _ _ bk_Planner_allowEarlier_39_2_ok rfl ?_
      show (am_tg h2 a0 = (1, 7) ∧ (∃ b26, am_P h2 a0 3 = some b26 ∧ am_EI m_Planner_allowEarlier kc ks 43 [.ref a0, .ref a1, .int x2, .ref a3, .ref a4, .int r3, .ref b5, .float 0, .float 0] [.ref b26] h2 Q))
      obtain ⟨b26, q27, t⟩ := t
      refine ⟨o6, b26, q27, ?_⟩
      obtain ⟨o28, t⟩ := t
      refine am_callV (M2 := m_Spans_clear) (ci := 8) (a := b26) (kc := kc) (ks := ks) (k2c := 0) (k2s := 0) (as := []) [] dc_Planner_allowEarlier_43 lk_1_62 im_Spans_clear se_Spans_clear lm_Spans_clear np_Spans_clear ⟨Nat.le_of_ble_eq_true rfl, Nat.le_of_ble_eq_true rfl⟩ (fun _ => Nat.le_of_ble_eq_true rfl) (by decide) rfl o28 (am_Ew.end (am_Ew.mono t (fun h29 t => ?_)))
      refine am_blk_ok (c := 1) (ini := false) (by decide) rfl (fun q => by cases q) bk_Planner_allowEarlier_46_5 _ 56 _ _ _ bk_Planner_allowEarlier_46_5_ok rfl ?_
      show (am_tg h29 a0 = (1, 7) ∧ (∃ b30, am_P h29 a0 3 = some b30 ∧ am_EI m_Planner_allowEarlier kc ks 56 [.ref a0, .ref a1, .int x2, .ref a3, .ref a4, .int r3, .ref b5, .float 0, .float 0] [.int 1000000, .ref b5, .int (-1000000), .ref b30] h29 Q))
      obtain ⟨o31, b30, q32, t⟩ := t
      refine ⟨o31, b30, q32, ?_⟩
      obtain ⟨o33, t⟩ := t
      refine am_callV (M2 := m_Spans_latestUpTo) (ci := 8) (a := b5) (kc := kc) (ks := ks) (k2c := 0) (k2s := 0) (as := [.int (-1000000), .ref b30]) [.int 1000000] dc_Planner_allowEarlier_56 lk_1_108 im_Spans_latestUpTo se_Spans_latestUpTo lm_Spans_latestUpTo np_Spans_latestUpTo ⟨Nat.le_of_ble_eq_true rfl, Nat.le_of_ble_eq_true rfl⟩ (fun _ => Nat.le_of_ble_eq_true rfl) (by decide) rfl o33 (am_Ei.end (am_Ei.mono t (fun r35 h34 t => ?_)))
      obtain ⟨o36, t⟩ := t
      refine am_callV (M2 := m_Spans_add) (ci := 8) (a := b30) (kc := kc) (ks := ks) (k2c := 0) (k2s := 0) (as := []) [.int (-1000000), .int r35] dc_Planner_allowEarlier_59 lk_1_65 im_Spans_add se_Spans_add lm_Spans_add np_Spans_add ⟨Nat.le_of_ble_eq_true rfl, Nat.le_of_ble_eq_true rfl⟩ (fun _ => Nat.le_of_ble_eq_true rfl) (by decide) rfl o36 (am_Ew.end (am_Ew.mono t (fun h37 t => ?_)))
      refine am_blk_ok (c := 1) (ini := false) (by decide) rfl (fun q => by cases q) bk_Planner_allowEarlier_62_1 _ 163 _ _ _ bk_Planner_allowEarlier_62_1_ok rfl ?_
      show am_EI m_Planner_allowEarlier kc ks 163 [.ref a0, .ref a1, .int x2, .ref a3, .ref a4, .int r3, .ref b5, .float 0, .float 0] [] h37 Q
      exact am_vret dc_Planner_allowEarlier_163 rfl t
  · replace t := t.2 c11
    refine am_blk_ok (c := 1) (ini := false) (by decide) rfl (fun q => by cases q) bk_Planner_allowEarlier_21_4 _ 28 _ _ _ bk_Planner_allowEarlier_21_4_ok rfl ?_
    show (am_tg h2 a0 = (1, 7) ∧ (∃ b38, am_P h2 a0 3 = some b38 ∧ am_EI m_Planner_allowEarlier kc ks 28 [.ref a0, .ref a1, .int x2, .ref a3, .ref a4, .int r3, .ref b5, .float 0, .float 0] [.int 0, .ref b5, .ref b38] h2 Q))
    obtain ⟨b38, q39, t⟩ := t
    refine ⟨o6, b38, q39, ?_⟩
    obtain ⟨o40, t⟩ := t
    refine am_callV (M2 := m_Spans_copyShifted) (ci := 8) (a := b38) (kc := kc) (ks := ks) (k2c := 0) (k2s := 0) (as := []) [.ref b5, .int 0] dc_Planner_allowEarlier_28 lk_1_98 im_Spans_copyShifted se_Spans_copyShifted lm_Spans_copyShifted np_Spans_copyShifted ⟨Nat.le_of_ble_eq_true rfl, Nat.le_of_ble_eq_true rfl⟩ (fun _ => Nat.le_of_ble_eq_true rfl) (by decide) rfl o40 (am_Ew.end (am_Ew.mono t (fun h41 t => ?_)))
    refine am_blk_ok (c := 1) (ini := false) (by decide) rfl (fun q => by cases q) bk_Planner_allowEarlier_31_1 _ 163 _ _ _ bk_Planner_allowEarlier_31_1_ok rfl ?_
    show am_EI m_Planner_allowEarlier kc ks 163 [.ref a0, .ref a1, .int x2, .ref a3, .ref a4, .int r3, .ref b5, .float 0, .float 0] [] h41 Q
    exact am_vret dc_Planner_allowEarlier_163 rfl t
set_option maxRecDepth 20000 in
theorem ev_Planner_allowEarlier (a0 a1 a3 a4 : Nat) (x2 : Int32) (h : am_H) (Q : am_H → Prop) (t : (am_tg h a1 = (4, 7) ∧ (am_Ei m_Route_kindOf 0 0 [.ref a1, .int x2] h (fun r3 h2 => (am_tg h2 a0 = (1, 7) ∧ (∃ b4, am_P h2 a0 5 = some b4 ∧ ((am_tg h2 b4).1 = 38 ∧ (vp_in x2 (am_tg h2 b4).2 ∧ (∃ b5, am_P h2 b4 x2.toNatClampNeg = some b5 ∧ ((¬ r3 = 1 → ((¬ r3 = 0 → (am_tg h2 a1 = (4, 7) ∧ (am_Ei m_Route_levelOf 0 0 [.ref a1, .int x2] h2 (fun r15 h14 => (am_tg h14 a4 = (6, 3) ∧ (am_Ei m_Ship_draught 0 0 [.ref a4] h14 (fun r18 h17 => (am_tg h17 a0 = (1, 7) ∧ (am_Ew m_Planner_findDeep 0 0 [.ref a0, .ref a3, .int (r15 + r18)] h17 (fun h20 => (am_tg h20 a0 = (1, 7) ∧ (∃ b21, am_P h20 a0 2 = some b21 ∧ (am_tg h20 b21 = (8, 4) ∧ (am_Ew m_Spans_clear 0 0 [.ref b21] h20 (fun h25 => am_EI m_Planner_allowEarlier 0 0 91 [.ref a0, .ref a1, .int x2, .ref a3, .ref a4, .int r3, .ref b5, .int 0, .float 0] [] h25 (am_qw Q)))))))))))))))) ∧ (r3 = 0 → (∃ b26, am_P h2 a0 3 = some b26 ∧ (am_tg h2 b26 = (8, 4) ∧ (am_Ew m_Spans_clear 0 0 [.ref b26] h2 (fun h29 => (am_tg h29 a0 = (1, 7) ∧ (∃ b30, am_P h29 a0 3 = some b30 ∧ (am_tg h29 b5 = (8, 4) ∧ (am_Ei m_Spans_latestUpTo 0 0 [.ref b5, .int 1000000] h29 (fun r35 h34 => (am_tg h34 b30 = (8, 4) ∧ (am_Ew m_Spans_add 0 0 [.ref b30, .int (-1000000), .int r35] h34 (fun h37 => Q h37))))))))))))))) ∧ (r3 = 1 → (∃ b38, am_P h2 a0 3 = some b38 ∧ (am_tg h2 b38 = (8, 4) ∧ (am_Ew m_Spans_copyShifted 0 0 [.ref b38, .ref b5, .int 0] h2 (fun h41 => Q h41))))))))))))))) : am_Ew m_Planner_allowEarlier 0 0 [.ref a0, .ref a1, .int x2, .ref a3, .ref a4] h Q :=
  am_Ev.of (by decide +kernel) (Nat.le_of_ble_eq_true rfl) (by simp only [List.mem_cons, List.not_mem_nil, or_false]; intro v hv; rcases hv with rfl | rfl | rfl | rfl | rfl; all_goals first | exact trivial) (sg_Planner_allowEarlier_0 (kc := 0) (ks := 0) a0 a1 a3 a4 x2 h (am_qw Q) t)
set_option maxRecDepth 20000 in
theorem sg_Planner_allowEarlier_91 {kc ks : Nat} (a0 a1 a3 a4 a6 : Nat) (x2 x5 x7 : Int32) (h : am_H) (Q : Option Value → am_H → Prop) (t : (am_tg h a0 = (1, 7) ∧ (∃ b1, am_P h a0 1 = some b1 ∧ (am_tg h b1 = (8, 4) ∧ (am_Ei m_Spans_size 0 0 [.ref b1] h (fun r6 h5 => ((r6 ≤ x7 → (am_tg h5 a0 = (1, 7) ∧ (∃ b8, am_P h5 a0 3 = some b8 ∧ (∃ b9, am_P h5 a0 2 = some b9 ∧ (am_tg h5 b8 = (8, 4) ∧ (am_Ew m_Spans_unite 0 0 [.ref b8, .ref a6, .ref b9] h5 (fun h14 => Q none h14))))))) ∧ (¬ r6 ≤ x7 → (am_tg h5 a0 = (1, 7) ∧ (∃ b15, am_P h5 a0 1 = some b15 ∧ (am_tg h5 b15 = (8, 4) ∧ (am_Ei m_Spans_lastOf 0 0 [.ref b15, .int x7] h5 (fun r20 h19 => (am_tg h19 a6 = (8, 4) ∧ (am_Ei m_Spans_latestUpTo 0 0 [.ref a6, .int r20] h19 (fun r23 h22 => ((r23 = (-2147483648) → am_EI m_Planner_allowEarlier kc ks 91 [.ref a0, .ref a1, .int x2, .ref a3, .ref a4, .int x5, .ref a6, .int (x7 + 1), .float 0] [] h22 Q) ∧ (¬ r23 = (-2147483648) → (am_tg h22 a0 = (1, 7) ∧ (∃ b25, am_P h22 a0 2 = some b25 ∧ (∃ b26, am_P h22 a0 1 = some b26 ∧ (am_tg h22 b26 = (8, 4) ∧ (am_Ei m_Spans_firstOf 0 0 [.ref b26, .int x7] h22 (fun r32 h31 => (am_tg h31 b25 = (8, 4) ∧ (am_Ew m_Spans_add 0 0 [.ref b25, .int r32, .int r23] h31 (fun h34 => am_EI m_Planner_allowEarlier kc ks 91 [.ref a0, .ref a1, .int x2, .ref a3, .ref a4, .int x5, .ref a6, .int (x7 + 1), .float 0] [] h34 Q))))))))))))))))))))))))))) : am_EI m_Planner_allowEarlier kc ks 91 [.ref a0, .ref a1, .int x2, .ref a3, .ref a4, .int x5, .ref a6, .int x7, .float 0] [] h Q := by
  refine am_blk_ok (c := 1) (ini := false) (by decide) rfl (fun q => by cases q) bk_Planner_allowEarlier_91_3 _ 97 _ _ _ bk_Planner_allowEarlier_91_3_ok rfl ?_
  show (am_tg h a0 = (1, 7) ∧ (∃ b1, am_P h a0 1 = some b1 ∧ am_EI m_Planner_allowEarlier kc ks 97 [.ref a0, .ref a1, .int x2, .ref a3, .ref a4, .int x5, .ref a6, .int x7, .float 0] [.ref b1, .int x7] h Q))
  obtain ⟨o2, b1, q3, t⟩ := t
  refine ⟨o2, b1, q3, ?_⟩
  obtain ⟨o4, t⟩ := t
  refine am_callV (M2 := m_Spans_size) (ci := 8) (a := b1) (kc := kc) (ks := ks) (k2c := 0) (k2s := 0) (as := [.int x7]) [] dc_Planner_allowEarlier_97 lk_1_95 im_Spans_size se_Spans_size lm_Spans_size np_Spans_size ⟨Nat.le_of_ble_eq_true rfl, Nat.le_of_ble_eq_true rfl⟩ (fun _ => Nat.le_of_ble_eq_true rfl) (by decide) rfl o4 (am_Ei.end (am_Ei.mono t (fun r6 h5 t => ?_)))
  refine am_ic_ge (tgt := 150) dc_Planner_allowEarlier_100 (by decide) (fun c7 => ?_) (fun c7 => ?_)
  · replace t := t.1 c7
    refine am_blk_ok (c := 1) (ini := false) (by decide) rfl (fun q => by cases q) bk_Planner_allowEarlier_150_5 _ 160 _ _ _ bk_Planner_allowEarlier_150_5_ok rfl ?_
    show (am_tg h5 a0 = (1, 7) ∧ (∃ b8, am_P h5 a0 3 = some b8 ∧ (am_tg h5 a0 = (1, 7) ∧ (∃ b9, am_P h5 a0 2 = some b9 ∧ am_EI m_Planner_allowEarlier kc ks 160 [.ref a0, .ref a1, .int x2, .ref a3, .ref a4, .int x5, .ref a6, .int x7, .float 0] [.ref b9, .ref a6, .ref b8] h5 Q))))
    obtain ⟨o10, b8, q11, b9, q12, t⟩ := t
    refine ⟨o10, b8, q11, o10, b9, q12, ?_⟩
    obtain ⟨o13, t⟩ := t
    refine am_callV (M2 := m_Spans_unite) (ci := 8) (a := b8) (kc := kc) (ks := ks) (k2c := 0) (k2s := 0) (as := []) [.ref a6, .ref b9] dc_Planner_allowEarlier_160 lk_1_136 im_Spans_unite se_Spans_unite lm_Spans_unite np_Spans_unite ⟨Nat.le_of_ble_eq_true rfl, Nat.le_of_ble_eq_true rfl⟩ (fun _ => Nat.le_of_ble_eq_true rfl) (by decide) rfl o13 (am_Ew.end (am_Ew.mono t (fun h14 t => ?_)))
    exact am_vret dc_Planner_allowEarlier_163 rfl t
  · replace t := t.2 c7
    refine am_blk_ok (c := 1) (ini := false) (by decide) rfl (fun q => by cases q) bk_Planner_allowEarlier_103_4 _ 111 _ _ _ bk_Planner_allowEarlier_103_4_ok rfl ?_
    show (am_tg h5 a0 = (1, 7) ∧ (∃ b15, am_P h5 a0 1 = some b15 ∧ am_EI m_Planner_allowEarlier kc ks 111 [.ref a0, .ref a1, .int x2, .ref a3, .ref a4, .int x5, .ref a6, .int x7, .float 0] [.int x7, .ref b15, .ref a6] h5 Q))
    obtain ⟨o16, b15, q17, t⟩ := t
    refine ⟨o16, b15, q17, ?_⟩
    obtain ⟨o18, t⟩ := t
    refine am_callV (M2 := m_Spans_lastOf) (ci := 8) (a := b15) (kc := kc) (ks := ks) (k2c := 0) (k2s := 0) (as := [.ref a6]) [.int x7] dc_Planner_allowEarlier_111 lk_1_133 im_Spans_lastOf se_Spans_lastOf lm_Spans_lastOf np_Spans_lastOf ⟨Nat.le_of_ble_eq_true rfl, Nat.le_of_ble_eq_true rfl⟩ (fun _ => Nat.le_of_ble_eq_true rfl) (by decide) rfl o18 (am_Ei.end (am_Ei.mono t (fun r20 h19 t => ?_)))
    obtain ⟨o21, t⟩ := t
    refine am_callV (M2 := m_Spans_latestUpTo) (ci := 8) (a := a6) (kc := kc) (ks := ks) (k2c := 0) (k2s := 0) (as := []) [.int r20] dc_Planner_allowEarlier_114 lk_1_108 im_Spans_latestUpTo se_Spans_latestUpTo lm_Spans_latestUpTo np_Spans_latestUpTo ⟨Nat.le_of_ble_eq_true rfl, Nat.le_of_ble_eq_true rfl⟩ (fun _ => Nat.le_of_ble_eq_true rfl) (by decide) rfl o21 (am_Ei.end (am_Ei.mono t (fun r23 h22 t => ?_)))
    refine am_blk_ok (c := 1) (ini := false) (by decide) rfl (fun q => by cases q) bk_Planner_allowEarlier_117_3 _ 123 _ _ _ bk_Planner_allowEarlier_117_3_ok rfl ?_
    show am_EI m_Planner_allowEarlier kc ks 123 [.ref a0, .ref a1, .int x2, .ref a3, .ref a4, .int x5, .ref a6, .int x7, .int r23] [.int (-2147483648), .int r23] h22 Q
    refine am_ic_eq (tgt := 144) dc_Planner_allowEarlier_123 (by decide) (fun c24 => ?_) (fun c24 => ?_)
    · replace t := t.1 c24
      refine am_blk_ok (c := 1) (ini := false) (by decide) rfl (fun q => by cases q) bk_Planner_allowEarlier_144_2 _ 91 _ _ _ bk_Planner_allowEarlier_144_2_ok rfl ?_
      show am_EI m_Planner_allowEarlier kc ks 91 [.ref a0, .ref a1, .int x2, .ref a3, .ref a4, .int x5, .ref a6, .int (x7 + 1), .int r23] [] h22 Q
      refine am_EI.fg 8 ?_
      show am_EI m_Planner_allowEarlier kc ks 91 [.ref a0, .ref a1, .int x2, .ref a3, .ref a4, .int x5, .ref a6, .int (x7 + 1), .float 0] [] h22 Q
      exact t
    · replace t := t.2 c24
      refine am_blk_ok (c := 1) (ini := false) (by decide) rfl (fun q => by cases q) bk_Planner_allowEarlier_126_5 _ 136 _ _ _ bk_Planner_allowEarlier_126_5_ok rfl ?_
      show (am_tg h22 a0 = (1, 7) ∧ (∃ b25, am_P h22 a0 2 = some b25 ∧ (am_tg h22 a0 = (1, 7) ∧ (∃ b26, am_P h22 a0 1 = some b26 ∧ am_EI m_Planner_allowEarlier kc ks 136 [.ref a0, .ref a1, .int x2, .ref a3, .ref a4, .int x5, .ref a6, .int x7, .int r23] [.int x7, .ref b26, .ref b25] h22 Q))))
      obtain ⟨o27, b25, q28, b26, q29, t⟩ := t
      refine ⟨o27, b25, q28, o27, b26, q29, ?_⟩
      obtain ⟨o30, t⟩ := t
      refine am_callV (M2 := m_Spans_firstOf) (ci := 8) (a := b26) (kc := kc) (ks := ks) (k2c := 0) (k2s := 0) (as := [.ref b25]) [.int x7] dc_Planner_allowEarlier_136 lk_1_114 im_Spans_firstOf se_Spans_firstOf lm_Spans_firstOf np_Spans_firstOf ⟨Nat.le_of_ble_eq_true rfl, Nat.le_of_ble_eq_true rfl⟩ (fun _ => Nat.le_of_ble_eq_true rfl) (by decide) rfl o30 (am_Ei.end (am_Ei.mono t (fun r32 h31 t => ?_)))
      refine am_blk_ok (c := 1) (ini := false) (by decide) rfl (fun q => by cases q) bk_Planner_allowEarlier_139_1 _ 141 _ _ _ bk_Planner_allowEarlier_139_1_ok rfl ?_
      show am_EI m_Planner_allowEarlier kc ks 141 [.ref a0, .ref a1, .int x2, .ref a3, .ref a4, .int x5, .ref a6, .int x7, .int r23] [.int r23, .int r32, .ref b25] h31 Q
      obtain ⟨o33, t⟩ := t
      refine am_callV (M2 := m_Spans_add) (ci := 8) (a := b25) (kc := kc) (ks := ks) (k2c := 0) (k2s := 0) (as := []) [.int r32, .int r23] dc_Planner_allowEarlier_141 lk_1_65 im_Spans_add se_Spans_add lm_Spans_add np_Spans_add ⟨Nat.le_of_ble_eq_true rfl, Nat.le_of_ble_eq_true rfl⟩ (fun _ => Nat.le_of_ble_eq_true rfl) (by decide) rfl o33 (am_Ew.end (am_Ew.mono t (fun h34 t => ?_)))
      refine am_blk_ok (c := 1) (ini := false) (by decide) rfl (fun q => by cases q) bk_Planner_allowEarlier_144_2 _ 91 _ _ _ bk_Planner_allowEarlier_144_2_ok rfl ?_
      show am_EI m_Planner_allowEarlier kc ks 91 [.ref a0, .ref a1, .int x2, .ref a3, .ref a4, .int x5, .ref a6, .int (x7 + 1), .int r23] [] h34 Q
      refine am_EI.fg 8 ?_
      show am_EI m_Planner_allowEarlier kc ks 91 [.ref a0, .ref a1, .int x2, .ref a3, .ref a4, .int x5, .ref a6, .int (x7 + 1), .float 0] [] h34 Q
      exact t
def bk_Planner_allowLater_0_2 : List am_E := [(0, .aload_n 1, 1, 0, 0), (1, .iload_n 2, 1, 0, 0)]
theorem bk_Planner_allowLater_0_2_ok : bk_Planner_allowLater_0_2.all (am_ok 1 false m_Planner_allowLater.2.1) = true := by decide +kernel
def bk_Planner_allowLater_5_3 : List am_E := [(5, .istore 5, 2, 0, 0), (7, .iload 5, 2, 0, 0), (9, .iconst 1, 1, 0, 1)]
theorem bk_Planner_allowLater_5_3_ok : bk_Planner_allowLater_5_3.all (am_ok 1 false m_Planner_allowLater.2.1) = true := by decide +kernel
def bk_Planner_allowLater_28_1 : List am_E := [(28, .iload 5, 2, 0, 0)]
theorem bk_Planner_allowLater_28_1_ok : bk_Planner_allowLater_28_1.all (am_ok 1 false m_Planner_allowLater.2.1) = true := by decide +kernel
def bk_Planner_allowLater_60_4 : List am_E := [(60, .aload_n 0, 1, 0, 0), (61, .aload_n 3, 1, 0, 0), (62, .aload_n 1, 1, 0, 0), (63, .iload_n 2, 1, 0, 0)]
theorem bk_Planner_allowLater_60_4_ok : bk_Planner_allowLater_60_4.all (am_ok 1 false m_Planner_allowLater.2.1) = true := by decide +kernel
def bk_Planner_allowLater_67_1 : List am_E := [(67, .aload 4, 2, 0, 0)]
theorem bk_Planner_allowLater_67_1_ok : bk_Planner_allowLater_67_1.all (am_ok 1 false m_Planner_allowLater.2.1) = true := by decide +kernel
def bk_Planner_allowLater_72_1 : List am_E := [(72, .iadd, 1, 0, 0)]
theorem bk_Planner_allowLater_72_1_ok : bk_Planner_allowLater_72_1.all (am_ok 1 false m_Planner_allowLater.2.1) = true := by decide +kernel
def bk_Planner_allowLater_76_2 : List am_E := [(76, .aload_n 0, 1, 0, 0), (77, .getfield 27, 3, 409, 0)]
theorem bk_Planner_allowLater_76_2_ok : bk_Planner_allowLater_76_2.all (am_ok 1 false m_Planner_allowLater.2.1) = true := by decide +kernel
def bk_Planner_allowLater_83_2 : List am_E := [(83, .iconst 0, 1, 0, 0), (84, .istore 6, 2, 0, 0)]
theorem bk_Planner_allowLater_83_2_ok : bk_Planner_allowLater_83_2.all (am_ok 1 false m_Planner_allowLater.2.1) = true := by decide +kernel
def bk_Planner_allowLater_33_2 : List am_E := [(33, .aload_n 0, 1, 0, 0), (34, .getfield 33, 3, 417, 0)]
theorem bk_Planner_allowLater_33_2_ok : bk_Planner_allowLater_33_2.all (am_ok 1 false m_Planner_allowLater.2.1) = true := by decide +kernel
def bk_Planner_allowLater_40_5 : List am_E := [(40, .aload_n 0, 1, 0, 0), (41, .getfield 33, 3, 417, 0), (44, .aload_n 0, 1, 0, 0), (45, .getfield 30, 3, 413, 0), (48, .iconst 0, 1, 0, 0)]
theorem bk_Planner_allowLater_40_5_ok : bk_Planner_allowLater_40_5.all (am_ok 1 false m_Planner_allowLater.2.1) = true := by decide +kernel
def bk_Planner_allowLater_52_1 : List am_E := [(52, .ldc 107, 2, 0, 1000000)]
theorem bk_Planner_allowLater_52_1_ok : bk_Planner_allowLater_52_1.all (am_ok 1 false m_Planner_allowLater.2.1) = true := by decide +kernel
def bk_Planner_allowLater_57_1 : List am_E := [(57, .goto 105, 3, 0, 105)]
theorem bk_Planner_allowLater_57_1_ok : bk_Planner_allowLater_57_1.all (am_ok 1 false m_Planner_allowLater.2.1) = true := by decide +kernel
def bk_Planner_allowLater_13_5 : List am_E := [(13, .aload_n 0, 1, 0, 0), (14, .getfield 33, 3, 417, 0), (17, .aload_n 0, 1, 0, 0), (18, .getfield 30, 3, 413, 0), (21, .iconst 0, 1, 0, 0)]
theorem bk_Planner_allowLater_13_5_ok : bk_Planner_allowLater_13_5.all (am_ok 1 false m_Planner_allowLater.2.1) = true := by decide +kernel
def bk_Planner_allowLater_25_1 : List am_E := [(25, .goto 137, 3, 0, 137)]
theorem bk_Planner_allowLater_25_1_ok : bk_Planner_allowLater_25_1.all (am_ok 1 false m_Planner_allowLater.2.1) = true := by decide +kernel
def bk_Planner_allowLater_86_3 : List am_E := [(86, .iload 6, 2, 0, 0), (88, .aload_n 0, 1, 0, 0), (89, .getfield 23, 3, 405, 0)]
theorem bk_Planner_allowLater_86_3_ok : bk_Planner_allowLater_86_3.all (am_ok 1 false m_Planner_allowLater.2.1) = true := by decide +kernel
def bk_Planner_allowLater_147_6 : List am_E := [(147, .aload_n 0, 1, 0, 0), (148, .getfield 33, 3, 417, 0), (151, .aload_n 0, 1, 0, 0), (152, .getfield 30, 3, 413, 0), (155, .aload_n 0, 1, 0, 0), (156, .getfield 27, 3, 409, 0)]
theorem bk_Planner_allowLater_147_6_ok : bk_Planner_allowLater_147_6.all (am_ok 1 false m_Planner_allowLater.2.1) = true := by decide +kernel
def bk_Planner_allowLater_98_5 : List am_E := [(98, .aload_n 0, 1, 0, 0), (99, .getfield 30, 3, 413, 0), (102, .aload_n 0, 1, 0, 0), (103, .getfield 23, 3, 405, 0), (106, .iload 6, 2, 0, 0)]
theorem bk_Planner_allowLater_98_5_ok : bk_Planner_allowLater_98_5.all (am_ok 1 false m_Planner_allowLater.2.1) = true := by decide +kernel
def bk_Planner_allowLater_114_3 : List am_E := [(114, .istore 7, 2, 0, 0), (116, .iload 7, 2, 0, 0), (118, .ldc 106, 2, 0, -2147483648)]
theorem bk_Planner_allowLater_114_3_ok : bk_Planner_allowLater_114_3.all (am_ok 1 false m_Planner_allowLater.2.1) = true := by decide +kernel
def bk_Planner_allowLater_141_2 : List am_E := [(141, .iinc 6 1, 3, 0, 1), (144, .goto (-58), 3, 0, -58)]
theorem bk_Planner_allowLater_141_2_ok : bk_Planner_allowLater_141_2.all (am_ok 1 false m_Planner_allowLater.2.1) = true := by decide +kernel
def bk_Planner_allowLater_123_6 : List am_E := [(123, .aload_n 0, 1, 0, 0), (124, .getfield 27, 3, 409, 0), (127, .iload 7, 2, 0, 0), (129, .aload_n 0, 1, 0, 0), (130, .getfield 23, 3, 405, 0), (133, .iload 6, 2, 0, 0)]
theorem bk_Planner_allowLater_123_6_ok : bk_Planner_allowLater_123_6.all (am_ok 1 false m_Planner_allowLater.2.1) = true := by decide +kernel
theorem dc_Planner_allowLater_2 : decode m_Planner_allowLater.2.1 2 = .ok (.invokevirtual 117, 3) := by decide +kernel
theorem dc_Planner_allowLater_64 : decode m_Planner_allowLater.2.1 64 = .ok (.invokevirtual 120, 3) := by decide +kernel
theorem dc_Planner_allowLater_69 : decode m_Planner_allowLater.2.1 69 = .ok (.invokevirtual 123, 3) := by decide +kernel
theorem dc_Planner_allowLater_73 : decode m_Planner_allowLater.2.1 73 = .ok (.invokevirtual 126, 3) := by decide +kernel
theorem dc_Planner_allowLater_80 : decode m_Planner_allowLater.2.1 80 = .ok (.invokevirtual 62, 3) := by decide +kernel
theorem dc_Planner_allowLater_37 : decode m_Planner_allowLater.2.1 37 = .ok (.invokevirtual 62, 3) := by decide +kernel
theorem dc_Planner_allowLater_49 : decode m_Planner_allowLater.2.1 49 = .ok (.invokevirtual 114, 3) := by decide +kernel
theorem dc_Planner_allowLater_54 : decode m_Planner_allowLater.2.1 54 = .ok (.invokevirtual 65, 3) := by decide +kernel
theorem dc_Planner_allowLater_162 : decode m_Planner_allowLater.2.1 162 = .ok (.return_, 1) := by decide +kernel
theorem dc_Planner_allowLater_30 : decode m_Planner_allowLater.2.1 30 = .ok (.ifCond .ne 30, 3) := by decide +kernel
theorem dc_Planner_allowLater_22 : decode m_Planner_allowLater.2.1 22 = .ok (.invokevirtual 98, 3) := by decide +kernel
theorem dc_Planner_allowLater_10 : decode m_Planner_allowLater.2.1 10 = .ok (.if_icmp .ne 18, 3) := by decide +kernel
theorem dc_Planner_allowLater_92 : decode m_Planner_allowLater.2.1 92 = .ok (.invokevirtual 95, 3) := by decide +kernel
theorem dc_Planner_allowLater_159 : decode m_Planner_allowLater.2.1 159 = .ok (.invokevirtual 136, 3) := by decide +kernel
theorem dc_Planner_allowLater_108 : decode m_Planner_allowLater.2.1 108 = .ok (.invokevirtual 114, 3) := by decide +kernel
theorem dc_Planner_allowLater_111 : decode m_Planner_allowLater.2.1 111 = .ok (.invokevirtual 130, 3) := by decide +kernel
theorem dc_Planner_allowLater_135 : decode m_Planner_allowLater.2.1 135 = .ok (.invokevirtual 133, 3) := by decide +kernel
theorem dc_Planner_allowLater_138 : decode m_Planner_allowLater.2.1 138 = .ok (.invokevirtual 65, 3) := by decide +kernel
theorem dc_Planner_allowLater_120 : decode m_Planner_allowLater.2.1 120 = .ok (.if_icmp .eq 21, 3) := by decide +kernel
theorem dc_Planner_allowLater_95 : decode m_Planner_allowLater.2.1 95 = .ok (.if_icmp .ge 52, 3) := by decide +kernel
set_option maxRecDepth 20000 in
theorem sg_Planner_allowLater_0 {kc ks : Nat} (a0 a1 a3 a4 : Nat) (x2 : Int32) (h : am_H) (Q : Option Value → am_H → Prop) (t : (am_tg h a1 = (4, 7) ∧ (am_Ei m_Route_kindOf 0 0 [.ref a1, .int x2] h (fun r3 h2 => ((¬ r3 = 1 → ((¬ r3 = 0 → (am_tg h2 a1 = (4, 7) ∧ (am_Ei m_Route_levelOf 0 0 [.ref a1, .int x2] h2 (fun r8 h7 => (am_tg h7 a4 = (6, 3) ∧ (am_Ei m_Ship_draught 0 0 [.ref a4] h7 (fun r11 h10 => (am_tg h10 a0 = (1, 7) ∧ (am_Ew m_Planner_findDeep 0 0 [.ref a0, .ref a3, .int (r8 + r11)] h10 (fun h13 => (am_tg h13 a0 = (1, 7) ∧ (∃ b14, am_P h13 a0 2 = some b14 ∧ (am_tg h13 b14 = (8, 4) ∧ (am_Ew m_Spans_clear 0 0 [.ref b14] h13 (fun h18 => am_EI m_Planner_allowLater kc ks 86 [.ref a0, .ref a1, .int x2, .ref a3, .ref a4, .int r3, .int 0, .float 0] [] h18 Q))))))))))))))) ∧ (r3 = 0 → (am_tg h2 a0 = (1, 7) ∧ (∃ b19, am_P h2 a0 4 = some b19 ∧ (am_tg h2 b19 = (8, 4) ∧ (am_Ew m_Spans_clear 0 0 [.ref b19] h2 (fun h23 => (am_tg h23 a0 = (1, 7) ∧ (∃ b24, am_P h23 a0 4 = some b24 ∧ (∃ b25, am_P h23 a0 3 = some b25 ∧ (am_tg h23 b25 = (8, 4) ∧ (am_Ei m_Spans_firstOf 0 0 [.ref b25, .int 0] h23 (fun r31 h30 => (am_tg h30 b24 = (8, 4) ∧ (am_Ew m_Spans_add 0 0 [.ref b24, .int r31, .int 1000000] h30 (fun h33 => Q none h33))))))))))))))))) ∧ (r3 = 1 → (am_tg h2 a0 = (1, 7) ∧ (∃ b34, am_P h2 a0 4 = some b34 ∧ (∃ b35, am_P h2 a0 3 = some b35 ∧ (am_tg h2 b34 = (8, 4) ∧ (am_Ew m_Spans_copyShifted 0 0 [.ref b34, .ref b35, .int 0] h2 (fun h40 => Q none h40)))))))))))) : am_EI m_Planner_allowLater kc ks 0 [.ref a0, .ref a1, .int x2, .ref a3, .ref a4, .float 0, .float 0, .float 0] [] h Q := by
  refine am_blk_ok (c := 1) (ini := false) (by decide) rfl (fun q => by cases q) bk_Planner_allowLater_0_2 _ 2 _ _ _ bk_Planner_allowLater_0_2_ok rfl ?_
  show am_EI m_Planner_allowLater kc ks 2 [.ref a0, .ref a1, .int x2, .ref a3, .ref a4, .float 0, .float 0, .float 0] [.int x2, .ref a1] h Q
  obtain ⟨o1, t⟩ := t
  refine am_callV (M2 := m_Route_kindOf) (ci := 4) (a := a1) (kc := kc) (ks := ks) (k2c := 0) (k2s := 0) (as := []) [.int x2] dc_Planner_allowLater_2 lk_1_117 im_Route_kindOf se_Route_kindOf lm_Route_kindOf np_Route_kindOf ⟨Nat.le_of_ble_eq_true rfl, Nat.le_of_ble_eq_true rfl⟩ (fun _ => Nat.le_of_ble_eq_true rfl) (by decide) rfl o1 (am_Ei.end (am_Ei.mono t (fun r3 h2 t => ?_)))
  refine am_blk_ok (c := 1) (ini := false) (by decide) rfl (fun q => by cases q) bk_Planner_allowLater_5_3 _ 10 _ _ _ bk_Planner_allowLater_5_3_ok rfl ?_
  show am_EI m_Planner_allowLater kc ks 10 [.ref a0, .ref a1, .int x2, .ref a3, .ref a4, .int r3, .float 0, .float 0] [.int 1, .int r3] h2 Q
  refine am_ic_ne (tgt := 28) dc_Planner_allowLater_10 (by decide) (fun c4 => ?_) (fun c4 => ?_)
  · replace t := t.1 c4
    refine am_blk_ok (c := 1) (ini := false) (by decide) rfl (fun q => by cases q) bk_Planner_allowLater_28_1 _ 30 _ _ _ bk_Planner_allowLater_28_1_ok rfl ?_
    show am_EI m_Planner_allowLater kc ks 30 [.ref a0, .ref a1, .int x2, .ref a3, .ref a4, .int r3, .float 0, .float 0] [.int r3] h2 Q
    refine am_if_ne (tgt := 60) dc_Planner_allowLater_30 (by decide) (fun c5 => ?_) (fun c5 => ?_)
    · replace t := t.1 c5
      refine am_blk_ok (c := 1) (ini := false) (by decide) rfl (fun q => by cases q) bk_Planner_allowLater_60_4 _ 64 _ _ _ bk_Planner_allowLater_60_4_ok rfl ?_
      show am_EI m_Planner_allowLater kc ks 64 [.ref a0, .ref a1, .int x2, .ref a3, .ref a4, .int r3, .float 0, .float 0] [.int x2, .ref a1, .ref a3, .ref a0] h2 Q
      obtain ⟨o6, t⟩ := t
      refine am_callV (M2 := m_Route_levelOf) (ci := 4) (a := a1) (kc := kc) (ks := ks) (k2c := 0) (k2s := 0) (as := [.ref a3, .ref a0]) [.int x2] dc_Planner_allowLater_64 lk_1_120 im_Route_levelOf se_Route_levelOf lm_Route_levelOf np_Route_levelOf ⟨Nat.le_of_ble_eq_true rfl, Nat.le_of_ble_eq_true rfl⟩ (fun _ => Nat.le_of_ble_eq_true rfl) (by decide) rfl o6 (am_Ei.end (am_Ei.mono t (fun r8 h7 t => ?_)))
      refine am_blk_ok (c := 1) (ini := false) (by decide) rfl (fun q => by cases q) bk_Planner_allowLater_67_1 _ 69 _ _ _ bk_Planner_allowLater_67_1_ok rfl ?_
      show am_EI m_Planner_allowLater kc ks 69 [.ref a0, .ref a1, .int x2, .ref a3, .ref a4, .int r3, .float 0, .float 0] [.ref a4, .int r8, .ref a3, .ref a0] h7 Q
      obtain ⟨o9, t⟩ := t
      refine am_callV (M2 := m_Ship_draught) (ci := 6) (a := a4) (kc := kc) (ks := ks) (k2c := 0) (k2s := 0) (as := [.int r8, .ref a3, .ref a0]) [] dc_Planner_allowLater_69 lk_1_123 im_Ship_draught se_Ship_draught lm_Ship_draught np_Ship_draught ⟨Nat.le_of_ble_eq_true rfl, Nat.le_of_ble_eq_true rfl⟩ (fun _ => Nat.le_of_ble_eq_true rfl) (by decide) rfl o9 (am_Ei.end (am_Ei.mono t (fun r11 h10 t => ?_)))
      refine am_blk_ok (c := 1) (ini := false) (by decide) rfl (fun q => by cases q) bk_Planner_allowLater_72_1 _ 73 _ _ _ bk_Planner_allowLater_72_1_ok rfl ?_
      show am_EI m_Planner_allowLater kc ks 73 [.ref a0, .ref a1, .int x2, .ref a3, .ref a4, .int r3, .float 0, .float 0] [.int (r8 + r11), .ref a3, .ref a0] h10 Q
      obtain ⟨o12, t⟩ := t
      refine am_callV (M2 := m_Planner_findDeep) (ci := 1) (a := a0) (kc := kc) (ks := ks) (k2c := 0) (k2s := 0) (as := []) [.ref a3, .int (r8 + r11)] dc_Planner_allowLater_73 lk_1_126 im_Planner_findDeep se_Planner_findDeep lm_Planner_findDeep np_Planner_findDeep ⟨Nat.le_of_ble_eq_true rfl, Nat.le_of_ble_eq_true rfl⟩ (fun _ => Nat.le_of_ble_eq_true rfl) (by decide) rfl o12 (am_Ew.end (am_Ew.mono t (fun h13 t => ?_)))
      refine am_blk_ok (c := 1) (ini := false) (by decide) rfl (fun q => by cases q) bk_Planner_allowLater_76_2 _ 80 _ _ _ bk_Planner_allowLater_76_2_ok rfl ?_
      show (am_tg h13 a0 = (1, 7) ∧ (∃ b14, am_P h13 a0 2 = some b14 ∧ am_EI m_Planner_allowLater kc ks 80 [.ref a0, .ref a1, .int x2, .ref a3, .ref a4, .int r3, .float 0, .float 0] [.ref b14] h13 Q))
      obtain ⟨o15, b14, q16, t⟩ := t
      refine ⟨o15, b14, q16, ?_⟩
      obtain ⟨o17, t⟩ := t
      refine am_callV (M2 := m_Spans_clear) (ci := 8) (a := b14) (kc := kc) (ks := ks) (k2c := 0) (k2s := 0) (as := []) [] dc_Planner_allowLater_80 lk_1_62 im_Spans_clear se_Spans_clear lm_Spans_clear np_Spans_clear ⟨Nat.le_of_ble_eq_true rfl, Nat.le_of_ble_eq_true rfl⟩ (fun _ => Nat.le_of_ble_eq_true rfl) (by decide) rfl o17 (am_Ew.end (am_Ew.mono t (fun h18 t => ?_)))
      refine am_blk_ok (c := 1) (ini := false) (by decide) rfl (fun q => by cases q) bk_Planner_allowLater_83_2 _ 86 _ _ _ bk_Planner_allowLater_83_2_ok rfl ?_
      show am_EI m_Planner_allowLater kc ks 86 [.ref a0, .ref a1, .int x2, .ref a3, .ref a4, .int r3, .int 0, .float 0] [] h18 Q
      exact t
    · replace t := t.2 c5
      refine am_blk_ok (c := 1) (ini := false) (by decide) rfl (fun q => by cases q) bk_Planner_allowLater_33_2 _ 37 _ _ _ bk_Planner_allowLater_33_2_ok rfl ?_
      show (am_tg h2 a0 = (1, 7) ∧ (∃ b19, am_P h2 a0 4 = some b19 ∧ am_EI m_Planner_allowLater kc ks 37 [.ref a0, .ref a1, .int x2, .ref a3, .ref a4, .int r3, .float 0, .float 0] [.ref b19] h2 Q))
      obtain ⟨o20, b19, q21, t⟩ := t
      refine ⟨o20, b19, q21, ?_⟩
      obtain ⟨o22, t⟩ := t
      refine am_callV (M2 := m_Spans_clear) (ci := 8) (a := b19) (kc := kc) (ks := ks) (k2c := 0) (k2s := 0) (as := []) [] dc_Planner_allowLater_37 lk_1_62 im_Spans_clear se_Spans_clear lm_Spans_clear np_Spans_clear ⟨Nat.le_of_ble_eq_true rfl, Nat.le_of_ble_eq_true rfl⟩ (fun _ => Nat.le_of_ble_eq_true rfl) (by decide) rfl o22 (am_Ew.end (am_Ew.mono t (fun h23 t => ?_)))
      refine am_blk_ok (c := 1) (ini := false) (by decide) rfl (fun q => by cases q) bk_Planner_allowLater_40_5 _ 49 _ _ _ bk_Planner_allowLater_40_5_ok rfl ?_
      show (am_tg h23 a0 = (1, 7) ∧ (∃ b24, am_P h23 a0 4 = some b24 ∧ (am_tg h23 a0 = (1, 7) ∧ (∃ b25, am_P h23 a0 3 = some b25 ∧ am_EI m_Planner_allowLater kc ks 49 [.ref a0, .ref a1, .int x2, .ref a3, .ref a4, .int r3, .float 0, .float 0] [.int 0, .ref b25, .ref b24] h23 Q))))
      obtain ⟨o26, b24, q27, b25, q28, t⟩ := t
      refine ⟨o26, b24, q27, o26, b25, q28, ?_⟩
      obtain ⟨o29, t⟩ := t
      refine am_callV (M2 := m_Spans_firstOf) (ci := 8) (a := b25) (kc := kc) (ks := ks) (k2c := 0) (k2s := 0) (as := [.ref b24]) [.int 0] dc_Planner_allowLater_49 lk_1_114 im_Spans_firstOf se_Spans_firstOf lm_Spans_firstOf np_Spans_firstOf ⟨Nat.le_of_ble_eq_true rfl, Nat.le_of_ble_eq_true rfl⟩ (fun _ => Nat.le_of_ble_eq_true rfl) (by decide) rfl o29 (am_Ei.end (am_Ei.mono t (fun r31 h30 t => ?_)))
      refine am_blk_ok (c := 1) (ini := false) (by decide) rfl (fun q => by cases q) bk_Planner_allowLater_52_1 _ 54 _ _ _ bk_Planner_allowLater_52_1_ok rfl ?_
      show am_EI m_Planner_allowLater kc ks 54 [.ref a0, .ref a1, .int x2, .ref a3, .ref a4, .int r3, .float 0, .float 0] [.int 1000000, .int r31, .ref b24] h30 Q
      obtain ⟨o32, t⟩ := t
      refine am_callV (M2 := m_Spans_add) (ci := 8) (a := b24) (kc := kc) (ks := ks) (k2c := 0) (k2s := 0) (as := []) [.int r31, .int 1000000] dc_Planner_allowLater_54 lk_1_65 im_Spans_add se_Spans_add lm_Spans_add np_Spans_add ⟨Nat.le_of_ble_eq_true rfl, Nat.le_of_ble_eq_true rfl⟩ (fun _ => Nat.le_of_ble_eq_true rfl) (by decide) rfl o32 (am_Ew.end (am_Ew.mono t (fun h33 t => ?_)))
      refine am_blk_ok (c := 1) (ini := false) (by decide) rfl (fun q => by cases q) bk_Planner_allowLater_57_1 _ 162 _ _ _ bk_Planner_allowLater_57_1_ok rfl ?_
      show am_EI m_Planner_allowLater kc ks 162 [.ref a0, .ref a1, .int x2, .ref a3, .ref a4, .int r3, .float 0, .float 0] [] h33 Q
      exact am_vret dc_Planner_allowLater_162 rfl t
  · replace t := t.2 c4
    refine am_blk_ok (c := 1) (ini := false) (by decide) rfl (fun q => by cases q) bk_Planner_allowLater_13_5 _ 22 _ _ _ bk_Planner_allowLater_13_5_ok rfl ?_
    show (am_tg h2 a0 = (1, 7) ∧ (∃ b34, am_P h2 a0 4 = some b34 ∧ (am_tg h2 a0 = (1, 7) ∧ (∃ b35, am_P h2 a0 3 = some b35 ∧ am_EI m_Planner_allowLater kc ks 22 [.ref a0, .ref a1, .int x2, .ref a3, .ref a4, .int r3, .float 0, .float 0] [.int 0, .ref b35, .ref b34] h2 Q))))
    obtain ⟨o36, b34, q37, b35, q38, t⟩ := t
    refine ⟨o36, b34, q37, o36, b35, q38, ?_⟩
    obtain ⟨o39, t⟩ := t
    refine am_callV (M2 := m_Spans_copyShifted) (ci := 8) (a := b34) (kc := kc) (ks := ks) (k2c := 0) (k2s := 0) (as := []) [.ref b35, .int 0] dc_Planner_allowLater_22 lk_1_98 im_Spans_copyShifted se_Spans_copyShifted lm_Spans_copyShifted np_Spans_copyShifted ⟨Nat.le_of_ble_eq_true rfl, Nat.le_of_ble_eq_true rfl⟩ (fun _ => Nat.le_of_ble_eq_true rfl) (by decide) rfl o39 (am_Ew.end (am_Ew.mono t (fun h40 t => ?_)))
    refine am_blk_ok (c := 1) (ini := false) (by decide) rfl (fun q => by cases q) bk_Planner_allowLater_25_1 _ 162 _ _ _ bk_Planner_allowLater_25_1_ok rfl ?_
    show am_EI m_Planner_allowLater kc ks 162 [.ref a0, .ref a1, .int x2, .ref a3, .ref a4, .int r3, .float 0, .float 0] [] h40 Q
    exact am_vret dc_Planner_allowLater_162 rfl t
set_option maxRecDepth 20000 in
theorem ev_Planner_allowLater (a0 a1 a3 a4 : Nat) (x2 : Int32) (h : am_H) (Q : am_H → Prop) (t : (am_tg h a1 = (4, 7) ∧ (am_Ei m_Route_kindOf 0 0 [.ref a1, .int x2] h (fun r3 h2 => ((¬ r3 = 1 → ((¬ r3 = 0 → (am_tg h2 a1 = (4, 7) ∧ (am_Ei m_Route_levelOf 0 0 [.ref a1, .int x2] h2 (fun r8 h7 => (am_tg h7 a4 = (6, 3) ∧ (am_Ei m_Ship_draught 0 0 [.ref a4] h7 (fun r11 h10 => (am_tg h10 a0 = (1, 7) ∧ (am_Ew m_Planner_findDeep 0 0 [.ref a0, .ref a3, .int (r8 + r11)] h10 (fun h13 => (am_tg h13 a0 = (1, 7) ∧ (∃ b14, am_P h13 a0 2 = some b14 ∧ (am_tg h13 b14 = (8, 4) ∧ (am_Ew m_Spans_clear 0 0 [.ref b14] h13 (fun h18 => am_EI m_Planner_allowLater 0 0 86 [.ref a0, .ref a1, .int x2, .ref a3, .ref a4, .int r3, .int 0, .float 0] [] h18 (am_qw Q)))))))))))))))) ∧ (r3 = 0 → (am_tg h2 a0 = (1, 7) ∧ (∃ b19, am_P h2 a0 4 = some b19 ∧ (am_tg h2 b19 = (8, 4) ∧ (am_Ew m_Spans_clear 0 0 [.ref b19] h2 (fun h23 => (am_tg h23 a0 = (1, 7) ∧ (∃ b24, am_P h23 a0 4 = some b24 ∧ (∃ b25, am_P h23 a0 3 = some b25 ∧ (am_tg h23 b25 = (8, 4) ∧ (am_Ei m_Spans_firstOf 0 0 [.ref b25, .int 0] h23 (fun r31 h30 => (am_tg h30 b24 = (8, 4) ∧ (am_Ew m_Spans_add 0 0 [.ref b24, .int r31, .int 1000000] h30 (fun h33 => Q h33))))))))))))))))) ∧ (r3 = 1 → (am_tg h2 a0 = (1, 7) ∧ (∃ b34, am_P h2 a0 4 = some b34 ∧ (∃ b35, am_P h2 a0 3 = some b35 ∧ (am_tg h2 b34 = (8, 4) ∧ (am_Ew m_Spans_copyShifted 0 0 [.ref b34, .ref b35, .int 0] h2 (fun h40 => Q h40)))))))))))) : am_Ew m_Planner_allowLater 0 0 [.ref a0, .ref a1, .int x2, .ref a3, .ref a4] h Q :=
  am_Ev.of (by decide +kernel) (Nat.le_of_ble_eq_true rfl) (by simp only [List.mem_cons, List.not_mem_nil, or_false]; intro v hv; rcases hv with rfl | rfl | rfl | rfl | rfl; all_goals first | exact trivial) (sg_Planner_allowLater_0 (kc := 0) (ks := 0) a0 a1 a3 a4 x2 h (am_qw Q) t)
set_option maxRecDepth 20000 in
theorem sg_Planner_allowLater_86 {kc ks : Nat} (a0 a1 a3 a4 : Nat) (x2 x5 x6 : Int32) (h : am_H) (Q : Option Value → am_H → Prop) (t : (am_tg h a0 = (1, 7) ∧ (∃ b1, am_P h a0 1 = some b1 ∧ (am_tg h b1 = (8, 4) ∧ (am_Ei m_Spans_size 0 0 [.ref b1] h (fun r6 h5 => ((r6 ≤ x6 → (am_tg h5 a0 = (1, 7) ∧ (∃ b8, am_P h5 a0 4 = some b8 ∧ (∃ b9, am_P h5 a0 3 = some b9 ∧ (∃ b10, am_P h5 a0 2 = some b10 ∧ (am_tg h5 b8 = (8, 4) ∧ (am_Ew m_Spans_unite 0 0 [.ref b8, .ref b9, .ref b10] h5 (fun h16 => Q none h16)))))))) ∧ (¬ r6 ≤ x6 → (am_tg h5 a0 = (1, 7) ∧ (∃ b17, am_P h5 a0 3 = some b17 ∧ (∃ b18, am_P h5 a0 1 = some b18 ∧ (am_tg h5 b18 = (8, 4) ∧ (am_Ei m_Spans_firstOf 0 0 [.ref b18, .int x6] h5 (fun r24 h23 => (am_tg h23 b17 = (8, 4) ∧ (am_Ei m_Spans_earliestFrom 0 0 [.ref b17, .int r24] h23 (fun r27 h26 => ((r27 = (-2147483648) → am_EI m_Planner_allowLater kc ks 86 [.ref a0, .ref a1, .int x2, .ref a3, .ref a4, .int x5, .int (x6 + 1), .float 0] [] h26 Q) ∧ (¬ r27 = (-2147483648) → (am_tg h26 a0 = (1, 7) ∧ (∃ b29, am_P h26 a0 2 = some b29 ∧ (∃ b30, am_P h26 a0 1 = some b30 ∧ (am_tg h26 b30 = (8, 4) ∧ (am_Ei m_Spans_lastOf 0 0 [.ref b30, .int x6] h26 (fun r36 h35 => (am_tg h35 b29 = (8, 4) ∧ (am_Ew m_Spans_add 0 0 [.ref b29, .int r27, .int r36] h35 (fun h38 => am_EI m_Planner_allowLater kc ks 86 [.ref a0, .ref a1, .int x2, .ref a3, .ref a4, .int x5, .int (x6 + 1), .float 0] [] h38 Q)))))))))))))))))))))))))))) : am_EI m_Planner_allowLater kc ks 86 [.ref a0, .ref a1, .int x2, .ref a3, .ref a4, .int x5, .int x6, .float 0] [] h Q := by
  refine am_blk_ok (c := 1) (ini := false) (by decide) rfl (fun q => by cases q) bk_Planner_allowLater_86_3 _ 92 _ _ _ bk_Planner_allowLater_86_3_ok rfl ?_
  show (am_tg h a0 = (1, 7) ∧ (∃ b1, am_P h a0 1 = some b1 ∧ am_EI m_Planner_allowLater kc ks 92 [.ref a0, .ref a1, .int x2, .ref a3, .ref a4, .int x5, .int x6, .float 0] [.ref b1, .int x6] h Q))
  obtain ⟨o2, b1, q3, t⟩ := t
  refine ⟨o2, b1, q3, ?_⟩
  obtain ⟨o4, t⟩ := t
  refine am_callV (M2 := m_Spans_size) (ci := 8) (a := b1) (kc := kc) (ks := ks) (k2c := 0) (k2s := 0) (as := [.int x6]) [] dc_Planner_allowLater_92 lk_1_95 im_Spans_size se_Spans_size lm_Spans_size np_Spans_size ⟨Nat.le_of_ble_eq_true rfl, Nat.le_of_ble_eq_true rfl⟩ (fun _ => Nat.le_of_ble_eq_true rfl) (by decide) rfl o4 (am_Ei.end (am_Ei.mono t (fun r6 h5 t => ?_)))
  refine am_ic_ge (tgt := 147) dc_Planner_allowLater_95 (by decide) (fun c7 => ?_) (fun c7 => ?_)
  · replace t := t.1 c7
    refine am_blk_ok (c := 1) (ini := false) (by decide) rfl (fun q => by cases q) bk_Planner_allowLater_147_6 _ 159 _ _ _ bk_Planner_allowLater_147_6_ok rfl ?_
    show (am_tg h5 a0 = (1, 7) ∧ (∃ b8, am_P h5 a0 4 = some b8 ∧ (am_tg h5 a0 = (1, 7) ∧ (∃ b9, am_P h5 a0 3 = some b9 ∧ (am_tg h5 a0 = (1, 7) ∧ (∃ b10, am_P h5 a0 2 = some b10 ∧ am_EI m_Planner_allowLater kc ks 159 [.ref a0, .ref a1, .int x2, .ref a3, .ref a4, .int x5, .int x6, .float 0] [.ref b10, .ref b9, .ref b8] h5 Q))))))
    obtain ⟨o11, b8, q12, b9, q13, b10, q14, t⟩ := t
    refine ⟨o11, b8, q12, o11, b9, q13, o11, b10, q14, ?_⟩
    obtain ⟨o15, t⟩ := t
    refine am_callV (M2 := m_Spans_unite) (ci := 8) (a := b8) (kc := kc) (ks := ks) (k2c := 0) (k2s := 0) (as := []) [.ref b9, .ref b10] dc_Planner_allowLater_159 lk_1_136 im_Spans_unite se_Spans_unite lm_Spans_unite np_Spans_unite ⟨Nat.le_of_ble_eq_true rfl, Nat.le_of_ble_eq_true rfl⟩ (fun _ => Nat.le_of_ble_eq_true rfl) (by decide) rfl o15 (am_Ew.end (am_Ew.mono t (fun h16 t => ?_)))
    exact am_vret dc_Planner_allowLater_162 rfl t
  · replace t := t.2 c7
    refine am_blk_ok (c := 1) (ini := false) (by decide) rfl (fun q => by cases q) bk_Planner_allowLater_98_5 _ 108 _ _ _ bk_Planner_allowLater_98_5_ok rfl ?_
    show (am_tg h5 a0 = (1, 7) ∧ (∃ b17, am_P h5 a0 3 = some b17 ∧ (am_tg h5 a0 = (1, 7) ∧ (∃ b18, am_P h5 a0 1 = some b18 ∧ am_EI m_Planner_allowLater kc ks 108 [.ref a0, .ref a1, .int x2, .ref a3, .ref a4, .int x5, .int x6, .float 0] [.int x6, .ref b18, .ref b17] h5 Q))))
    obtain ⟨o19, b17, q20, b18, q21, t⟩ := t
    refine ⟨o19, b17, q20, o19, b18, q21, ?_⟩
    obtain ⟨o22, t⟩ := t
    refine am_callV (M2 := m_Spans_firstOf) (ci := 8) (a := b18) (kc := kc) (ks := ks) (k2c := 0) (k2s := 0) (as := [.ref b17]) [.int x6] dc_Planner_allowLater_108 lk_1_114 im_Spans_firstOf se_Spans_firstOf lm_Spans_firstOf np_Spans_firstOf ⟨Nat.le_of_ble_eq_true rfl, Nat.le_of_ble_eq_true rfl⟩ (fun _ => Nat.le_of_ble_eq_true rfl) (by decide) rfl o22 (am_Ei.end (am_Ei.mono t (fun r24 h23 t => ?_)))
    obtain ⟨o25, t⟩ := t
    refine am_callV (M2 := m_Spans_earliestFrom) (ci := 8) (a := b17) (kc := kc) (ks := ks) (k2c := 0) (k2s := 0) (as := []) [.int r24] dc_Planner_allowLater_111 lk_1_130 im_Spans_earliestFrom se_Spans_earliestFrom lm_Spans_earliestFrom np_Spans_earliestFrom ⟨Nat.le_of_ble_eq_true rfl, Nat.le_of_ble_eq_true rfl⟩ (fun _ => Nat.le_of_ble_eq_true rfl) (by decide) rfl o25 (am_Ei.end (am_Ei.mono t (fun r27 h26 t => ?_)))
    refine am_blk_ok (c := 1) (ini := false) (by decide) rfl (fun q => by cases q) bk_Planner_allowLater_114_3 _ 120 _ _ _ bk_Planner_allowLater_114_3_ok rfl ?_
    show am_EI m_Planner_allowLater kc ks 120 [.ref a0, .ref a1, .int x2, .ref a3, .ref a4, .int x5, .int x6, .int r27] [.int (-2147483648), .int r27] h26 Q
    refine am_ic_eq (tgt := 141) dc_Planner_allowLater_120 (by decide) (fun c28 => ?_) (fun c28 => ?_)
    · replace t := t.1 c28
      refine am_blk_ok (c := 1) (ini := false) (by decide) rfl (fun q => by cases q) bk_Planner_allowLater_141_2 _ 86 _ _ _ bk_Planner_allowLater_141_2_ok rfl ?_
      show am_EI m_Planner_allowLater kc ks 86 [.ref a0, .ref a1, .int x2, .ref a3, .ref a4, .int x5, .int (x6 + 1), .int r27] [] h26 Q
      refine am_EI.fg 7 ?_
      show am_EI m_Planner_allowLater kc ks 86 [.ref a0, .ref a1, .int x2, .ref a3, .ref a4, .int x5, .int (x6 + 1), .float 0] [] h26 Q
      exact t
    · replace t := t.2 c28
      refine am_blk_ok (c := 1) (ini := false) (by decide) rfl (fun q => by cases q) bk_Planner_allowLater_123_6 _ 135 _ _ _ bk_Planner_allowLater_123_6_ok rfl ?_
      show (am_tg h26 a0 = (1, 7) ∧ (∃ b29, am_P h26 a0 2 = some b29 ∧ (am_tg h26 a0 = (1, 7) ∧ (∃ b30, am_P h26 a0 1 = some b30 ∧ am_EI m_Planner_allowLater kc ks 135 [.ref a0, .ref a1, .int x2, .ref a3, .ref a4, .int x5, .int x6, .int r27] [.int x6, .ref b30, .int r27, .ref b29] h26 Q))))
      obtain ⟨o31, b29, q32, b30, q33, t⟩ := t
      refine ⟨o31, b29, q32, o31, b30, q33, ?_⟩
      obtain ⟨o34, t⟩ := t
      refine am_callV (M2 := m_Spans_lastOf) (ci := 8) (a := b30) (kc := kc) (ks := ks) (k2c := 0) (k2s := 0) (as := [.int r27, .ref b29]) [.int x6] dc_Planner_allowLater_135 lk_1_133 im_Spans_lastOf se_Spans_lastOf lm_Spans_lastOf np_Spans_lastOf ⟨Nat.le_of_ble_eq_true rfl, Nat.le_of_ble_eq_true rfl⟩ (fun _ => Nat.le_of_ble_eq_true rfl) (by decide) rfl o34 (am_Ei.end (am_Ei.mono t (fun r36 h35 t => ?_)))
      obtain ⟨o37, t⟩ := t
      refine am_callV (M2 := m_Spans_add) (ci := 8) (a := b29) (kc := kc) (ks := ks) (k2c := 0) (k2s := 0) (as := []) [.int r27, .int r36] dc_Planner_allowLater_138 lk_1_65 im_Spans_add se_Spans_add lm_Spans_add np_Spans_add ⟨Nat.le_of_ble_eq_true rfl, Nat.le_of_ble_eq_true rfl⟩ (fun _ => Nat.le_of_ble_eq_true rfl) (by decide) rfl o37 (am_Ew.end (am_Ew.mono t (fun h38 t => ?_)))
      refine am_blk_ok (c := 1) (ini := false) (by decide) rfl (fun q => by cases q) bk_Planner_allowLater_141_2 _ 86 _ _ _ bk_Planner_allowLater_141_2_ok rfl ?_
      show am_EI m_Planner_allowLater kc ks 86 [.ref a0, .ref a1, .int x2, .ref a3, .ref a4, .int x5, .int (x6 + 1), .int r27] [] h38 Q
      refine am_EI.fg 7 ?_
      show am_EI m_Planner_allowLater kc ks 86 [.ref a0, .ref a1, .int x2, .ref a3, .ref a4, .int x5, .int (x6 + 1), .float 0] [] h38 Q
      exact t
def bk_Planner_choosePasses_0_6 : List am_E := [(0, .ldc 107, 2, 0, 1000000), (2, .istore 4, 2, 0, 0), (4, .iload_n 3, 1, 0, 0), (5, .iconst 1, 1, 0, 1), (6, .isub, 1, 0, 0), (7, .istore 5, 2, 0, 0)]
theorem bk_Planner_choosePasses_0_6_ok : bk_Planner_choosePasses_0_6.all (am_ok 1 false m_Planner_choosePasses.2.1) = true := by decide +kernel
def bk_Planner_choosePasses_9_1 : List am_E := [(9, .iload 5, 2, 0, 0)]
theorem bk_Planner_choosePasses_9_1_ok : bk_Planner_choosePasses_9_1.all (am_ok 1 false m_Planner_choosePasses.2.1) = true := by decide +kernel
def bk_Planner_choosePasses_14_7 : List am_E := [(14, .aload_n 0, 1, 0, 0), (15, .getfield 42, 3, 425, 0), (18, .iload 5, 2, 0, 0), (20, .iload 5, 2, 0, 0), (22, .iload_n 3, 1, 0, 0), (23, .iconst 1, 1, 0, 1), (24, .isub, 1, 0, 0)]
theorem bk_Planner_choosePasses_14_7_ok : bk_Planner_choosePasses_14_7.all (am_ok 1 false m_Planner_choosePasses.2.1) = true := by decide +kernel
def bk_Planner_choosePasses_42_5 : List am_E := [(42, .aload_n 0, 1, 0, 0), (43, .getfield 38, 3, 421, 0), (46, .iload 5, 2, 0, 0), (48, .aaload, 1, 38, 0), (49, .iload 4, 2, 0, 0)]
theorem bk_Planner_choosePasses_42_5_ok : bk_Planner_choosePasses_42_5.all (am_ok 1 false m_Planner_choosePasses.2.1) = true := by decide +kernel
def bk_Planner_choosePasses_54_8 : List am_E := [(54, .iastore, 1, 0, 0), (55, .aload_n 0, 1, 0, 0), (56, .getfield 42, 3, 425, 0), (59, .iload 5, 2, 0, 0), (61, .iaload, 1, 0, 0), (62, .aload_n 2, 1, 0, 0), (63, .aload_n 1, 1, 0, 0), (64, .iload 5, 2, 0, 0)]
theorem bk_Planner_choosePasses_54_8_ok : bk_Planner_choosePasses_54_8.all (am_ok 1 false m_Planner_choosePasses.2.1) = true := by decide +kernel
def bk_Planner_choosePasses_72_4 : List am_E := [(72, .isub, 1, 0, 0), (73, .istore 4, 2, 0, 0), (75, .iinc 5 (-1), 3, 0, -1), (78, .goto (-69), 3, 0, -69)]
theorem bk_Planner_choosePasses_72_4_ok : bk_Planner_choosePasses_72_4.all (am_ok 1 false m_Planner_choosePasses.2.1) = true := by decide +kernel
def bk_Planner_choosePasses_28_5 : List am_E := [(28, .aload_n 0, 1, 0, 0), (29, .getfield 38, 3, 421, 0), (32, .iload 5, 2, 0, 0), (34, .aaload, 1, 38, 0), (35, .iconst 0, 1, 0, 0)]
theorem bk_Planner_choosePasses_28_5_ok : bk_Planner_choosePasses_28_5.all (am_ok 1 false m_Planner_choosePasses.2.1) = true := by decide +kernel
def bk_Planner_choosePasses_39_9 : List am_E := [(39, .goto 15, 3, 0, 15), (54, .iastore, 1, 0, 0), (55, .aload_n 0, 1, 0, 0), (56, .getfield 42, 3, 425, 0), (59, .iload 5, 2, 0, 0), (61, .iaload, 1, 0, 0), (62, .aload_n 2, 1, 0, 0), (63, .aload_n 1, 1, 0, 0), (64, .iload 5, 2, 0, 0)]
theorem bk_Planner_choosePasses_39_9_ok : bk_Planner_choosePasses_39_9.all (am_ok 1 false m_Planner_choosePasses.2.1) = true := by decide +kernel
theorem dc_Planner_choosePasses_81 : decode m_Planner_choosePasses.2.1 81 = .ok (.return_, 1) := by decide +kernel
theorem dc_Planner_choosePasses_51 : decode m_Planner_choosePasses.2.1 51 = .ok (.invokevirtual 108, 3) := by decide +kernel
theorem dc_Planner_choosePasses_66 : decode m_Planner_choosePasses.2.1 66 = .ok (.invokevirtual 54, 3) := by decide +kernel
theorem dc_Planner_choosePasses_69 : decode m_Planner_choosePasses.2.1 69 = .ok (.invokevirtual 57, 3) := by decide +kernel
theorem dc_Planner_choosePasses_36 : decode m_Planner_choosePasses.2.1 36 = .ok (.invokevirtual 114, 3) := by decide +kernel
theorem dc_Planner_choosePasses_25 : decode m_Planner_choosePasses.2.1 25 = .ok (.if_icmp .ne 17, 3) := by decide +kernel
theorem dc_Planner_choosePasses_11 : decode m_Planner_choosePasses.2.1 11 = .ok (.ifCond .lt 70, 3) := by decide +kernel
set_option maxRecDepth 20000 in
theorem sg_Planner_choosePasses_0 {kc ks : Nat} (a0 a1 a2 : Nat) (x3 : Int32) (h : am_H) (Q : Option Value → am_H → Prop) (t : am_EI m_Planner_choosePasses kc ks 9 [.ref a0, .ref a1, .ref a2, .int x3, .int 1000000, .int (x3 - 1)] [] h Q) : am_EI m_Planner_choosePasses kc ks 0 [.ref a0, .ref a1, .ref a2, .int x3, .float 0, .float 0] [] h Q := by
  refine am_blk_ok (c := 1) (ini := false) (by decide) rfl (fun q => by cases q) bk_Planner_choosePasses_0_6 _ 9 _ _ _ bk_Planner_choosePasses_0_6_ok rfl ?_
  show am_EI m_Planner_choosePasses kc ks 9 [.ref a0, .ref a1, .ref a2, .int x3, .int 1000000, .int (x3 - 1)] [] h Q
  exact t
set_option maxRecDepth 20000 in
theorem ev_Planner_choosePasses (a0 a1 a2 : Nat) (x3 : Int32) (h : am_H) (Q : am_H → Prop) (t : am_EI m_Planner_choosePasses 0 0 9 [.ref a0, .ref a1, .ref a2, .int x3, .int 1000000, .int (x3 - 1)] [] h (am_qw Q)) : am_Ew m_Planner_choosePasses 0 0 [.ref a0, .ref a1, .ref a2, .int x3] h Q :=
  am_Ev.of (by decide +kernel) (Nat.le_of_ble_eq_true rfl) (by simp only [List.mem_cons, List.not_mem_nil, or_false]; intro v hv; rcases hv with rfl | rfl | rfl | rfl; all_goals first | exact trivial) (sg_Planner_choosePasses_0 (kc := 0) (ks := 0) a0 a1 a2 x3 h (am_qw Q) t)
set_option maxRecDepth 20000 in
theorem sg_Planner_choosePasses_9 {kc ks : Nat} (a0 a1 a2 : Nat) (x3 x4 x5 : Int32) (h : am_H) (Q : Option Value → am_H → Prop) (t : ((x5 < 0 → Q none h) ∧ (¬ x5 < 0 → (am_tg h a0 = (1, 7) ∧ (∃ b2, am_P h a0 6 = some b2 ∧ ((¬ x5 = (x3 - 1) → (∃ b6, am_P h a0 5 = some b6 ∧ ((am_tg h b6).1 = 38 ∧ (vp_in x5 (am_tg h b6).2 ∧ (∃ b7, am_P h b6 x5.toNatClampNeg = some b7 ∧ (am_tg h b7 = (8, 4) ∧ (am_Ei m_Spans_latestUpTo 0 0 [.ref b7, .int x4] h (fun r14 h13 => ((am_tg h13 b2).1 = 20 ∧ (vp_in x5 (am_tg h13 b2).2 ∧ (am_tg h13 a0 = (1, 7) ∧ (∃ b15, am_P h13 a0 6 = some b15 ∧ ((am_tg h13 b15).1 = 20 ∧ (vp_in x5 (am_tg h13 b15).2 ∧ (am_tg h13 a1 = (4, 7) ∧ (am_Ei m_Route_milesTo 0 0 [.ref a1, .int x5] (am_si h13 b2 x5.toNatClampNeg r14) (fun r24 h23 => (am_tg h23 a2 = (6, 3) ∧ (am_Ei m_Ship_minutesFor 0 0 [.ref a2, .int r24] h23 (fun r27 h26 => am_EI m_Planner_choosePasses kc ks 9 [.ref a0, .ref a1, .ref a2, .int x3, .int ((am_I (am_si h13 b2 x5.toNatClampNeg r14) b15 x5.toNatClampNeg) - r27), .int (x5 + (-1))] [] h26 Q)))))))))))))))))))) ∧ (x5 = (x3 - 1) → (∃ b28, am_P h a0 5 = some b28 ∧ ((am_tg h b28).1 = 38 ∧ (vp_in x5 (am_tg h b28).2 ∧ (∃ b29, am_P h b28 x5.toNatClampNeg = some b29 ∧ (am_tg h b29 = (8, 4) ∧ (am_Ei m_Spans_firstOf 0 0 [.ref b29, .int 0] h (fun r36 h35 => ((am_tg h35 b2).1 = 20 ∧ (vp_in x5 (am_tg h35 b2).2 ∧ (am_tg h35 a0 = (1, 7) ∧ (∃ b37, am_P h35 a0 6 = some b37 ∧ ((am_tg h35 b37).1 = 20 ∧ (vp_in x5 (am_tg h35 b37).2 ∧ (am_tg h35 a1 = (4, 7) ∧ (am_Ei m_Route_milesTo 0 0 [.ref a1, .int x5] (am_si h35 b2 x5.toNatClampNeg r36) (fun r46 h45 => (am_tg h45 a2 = (6, 3) ∧ (am_Ei m_Ship_minutesFor 0 0 [.ref a2, .int r46] h45 (fun r49 h48 => am_EI m_Planner_choosePasses kc ks 9 [.ref a0, .ref a1, .ref a2, .int x3, .int ((am_I (am_si h35 b2 x5.toNatClampNeg r36) b37 x5.toNatClampNeg) - r49), .int (x5 + (-1))] [] h48 Q)))))))))))))))))))))))))) : am_EI m_Planner_choosePasses kc ks 9 [.ref a0, .ref a1, .ref a2, .int x3, .int x4, .int x5] [] h Q := by
  refine am_blk_ok (c := 1) (ini := false) (by decide) rfl (fun q => by cases q) bk_Planner_choosePasses_9_1 _ 11 _ _ _ bk_Planner_choosePasses_9_1_ok rfl ?_
  show am_EI m_Planner_choosePasses kc ks 11 [.ref a0, .ref a1, .ref a2, .int x3, .int x4, .int x5] [.int x5] h Q
  refine am_if_lt (tgt := 81) dc_Planner_choosePasses_11 (by decide) (fun c1 => ?_) (fun c1 => ?_)
  · replace t := t.1 c1
    exact am_vret dc_Planner_choosePasses_81 rfl t
  · replace t := t.2 c1
    refine am_blk_ok (c := 1) (ini := false) (by decide) rfl (fun q => by cases q) bk_Planner_choosePasses_14_7 _ 25 _ _ _ bk_Planner_choosePasses_14_7_ok rfl ?_
    show (am_tg h a0 = (1, 7) ∧ (∃ b2, am_P h a0 6 = some b2 ∧ am_EI m_Planner_choosePasses kc ks 25 [.ref a0, .ref a1, .ref a2, .int x3, .int x4, .int x5] [.int (x3 - 1), .int x5, .int x5, .ref b2] h Q))
    obtain ⟨o3, b2, q4, t⟩ := t
    refine ⟨o3, b2, q4, ?_⟩
    refine am_ic_ne (tgt := 42) dc_Planner_choosePasses_25 (by decide) (fun c5 => ?_) (fun c5 => ?_)
    · replace t := t.1 c5
      refine am_blk_ok (c := 1) (ini := false) (by decide) rfl (fun q => by cases q) bk_Planner_choosePasses_42_5 _ 51 _ _ _ bk_Planner_choosePasses_42_5_ok rfl ?_
      show (am_tg h a0 = (1, 7) ∧ (∃ b6, am_P h a0 5 = some b6 ∧ ((am_tg h b6).1 = 38 ∧ ((38 ∈ am_ks ∧ 30 ≤ 38) ∧ (vp_in x5 (am_tg h b6).2 ∧ (∃ b7, am_P h b6 x5.toNatClampNeg = some b7 ∧ am_EI m_Planner_choosePasses kc ks 51 [.ref a0, .ref a1, .ref a2, .int x3, .int x4, .int x5] [.int x4, .ref b7, .int x5, .ref b2] h Q))))))
      obtain ⟨b6, q8, o9, o10, b7, q11, t⟩ := t
      refine ⟨o3, b6, q8, o9, ⟨by decide, by decide⟩, o10, b7, q11, ?_⟩
      obtain ⟨o12, t⟩ := t
      refine am_callV (M2 := m_Spans_latestUpTo) (ci := 8) (a := b7) (kc := kc) (ks := ks) (k2c := 0) (k2s := 0) (as := [.int x5, .ref b2]) [.int x4] dc_Planner_choosePasses_51 lk_1_108 im_Spans_latestUpTo se_Spans_latestUpTo lm_Spans_latestUpTo np_Spans_latestUpTo ⟨Nat.le_of_ble_eq_true rfl, Nat.le_of_ble_eq_true rfl⟩ (fun _ => Nat.le_of_ble_eq_true rfl) (by decide) rfl o12 (am_Ei.end (am_Ei.mono t (fun r14 h13 t => ?_)))
      refine am_blk_ok (c := 1) (ini := false) (by decide) rfl (fun q => by cases q) bk_Planner_choosePasses_54_8 _ 66 _ _ _ bk_Planner_choosePasses_54_8_ok rfl ?_
      show ((am_tg h13 b2).1 = 20 ∧ (vp_in x5 (am_tg h13 b2).2 ∧ (am_tg h13 a0 = (1, 7) ∧ (∃ b15, am_P h13 a0 6 = some b15 ∧ ((am_tg h13 b15).1 = 20 ∧ (vp_in x5 (am_tg h13 b15).2 ∧ am_EI m_Planner_choosePasses kc ks 66 [.ref a0, .ref a1, .ref a2, .int x3, .int x4, .int x5] [.int x5, .ref a1, .ref a2, .int (am_I (am_si h13 b2 x5.toNatClampNeg r14) b15 x5.toNatClampNeg)] (am_si h13 b2 x5.toNatClampNeg r14) Q))))))
      obtain ⟨o16, o17, o18, b15, q19, o20, o21, t⟩ := t
      refine ⟨o16, o17, o18, b15, q19, o20, o21, ?_⟩
      obtain ⟨o22, t⟩ := t
      refine am_callV (M2 := m_Route_milesTo) (ci := 4) (a := a1) (kc := kc) (ks := ks) (k2c := 0) (k2s := 0) (as := [.ref a2, .int (am_I (am_si h13 b2 x5.toNatClampNeg r14) b15 x5.toNatClampNeg)]) [.int x5] dc_Planner_choosePasses_66 lk_1_54 im_Route_milesTo se_Route_milesTo lm_Route_milesTo np_Route_milesTo ⟨Nat.le_of_ble_eq_true rfl, Nat.le_of_ble_eq_true rfl⟩ (fun _ => Nat.le_of_ble_eq_true rfl) (by decide) rfl o22 (am_Ei.end (am_Ei.mono t (fun r24 h23 t => ?_)))
      obtain ⟨o25, t⟩ := t
      refine am_callV (M2 := m_Ship_minutesFor) (ci := 6) (a := a2) (kc := kc) (ks := ks) (k2c := 0) (k2s := 0) (as := [.int (am_I (am_si h13 b2 x5.toNatClampNeg r14) b15 x5.toNatClampNeg)]) [.int r24] dc_Planner_choosePasses_69 lk_1_57 im_Ship_minutesFor se_Ship_minutesFor lm_Ship_minutesFor np_Ship_minutesFor ⟨Nat.le_of_ble_eq_true rfl, Nat.le_of_ble_eq_true rfl⟩ (fun _ => Nat.le_of_ble_eq_true rfl) (by decide) rfl o25 (am_Ei.end (am_Ei.mono t (fun r27 h26 t => ?_)))
      refine am_blk_ok (c := 1) (ini := false) (by decide) rfl (fun q => by cases q) bk_Planner_choosePasses_72_4 _ 9 _ _ _ bk_Planner_choosePasses_72_4_ok rfl ?_
      show am_EI m_Planner_choosePasses kc ks 9 [.ref a0, .ref a1, .ref a2, .int x3, .int ((am_I (am_si h13 b2 x5.toNatClampNeg r14) b15 x5.toNatClampNeg) - r27), .int (x5 + (-1))] [] h26 Q
      exact t
    · replace t := t.2 c5
      refine am_blk_ok (c := 1) (ini := false) (by decide) rfl (fun q => by cases q) bk_Planner_choosePasses_28_5 _ 36 _ _ _ bk_Planner_choosePasses_28_5_ok rfl ?_
      show (am_tg h a0 = (1, 7) ∧ (∃ b28, am_P h a0 5 = some b28 ∧ ((am_tg h b28).1 = 38 ∧ ((38 ∈ am_ks ∧ 30 ≤ 38) ∧ (vp_in x5 (am_tg h b28).2 ∧ (∃ b29, am_P h b28 x5.toNatClampNeg = some b29 ∧ am_EI m_Planner_choosePasses kc ks 36 [.ref a0, .ref a1, .ref a2, .int x3, .int x4, .int x5] [.int 0, .ref b29, .int x5, .ref b2] h Q))))))
      obtain ⟨b28, q30, o31, o32, b29, q33, t⟩ := t
      refine ⟨o3, b28, q30, o31, ⟨by decide, by decide⟩, o32, b29, q33, ?_⟩
      obtain ⟨o34, t⟩ := t
      refine am_callV (M2 := m_Spans_firstOf) (ci := 8) (a := b29) (kc := kc) (ks := ks) (k2c := 0) (k2s := 0) (as := [.int x5, .ref b2]) [.int 0] dc_Planner_choosePasses_36 lk_1_114 im_Spans_firstOf se_Spans_firstOf lm_Spans_firstOf np_Spans_firstOf ⟨Nat.le_of_ble_eq_true rfl, Nat.le_of_ble_eq_true rfl⟩ (fun _ => Nat.le_of_ble_eq_true rfl) (by decide) rfl o34 (am_Ei.end (am_Ei.mono t (fun r36 h35 t => ?_)))
      refine am_blk_ok (c := 1) (ini := false) (by decide) rfl (fun q => by cases q) bk_Planner_choosePasses_39_9 _ 66 _ _ _ bk_Planner_choosePasses_39_9_ok rfl ?_
      show ((am_tg h35 b2).1 = 20 ∧ (vp_in x5 (am_tg h35 b2).2 ∧ (am_tg h35 a0 = (1, 7) ∧ (∃ b37, am_P h35 a0 6 = some b37 ∧ ((am_tg h35 b37).1 = 20 ∧ (vp_in x5 (am_tg h35 b37).2 ∧ am_EI m_Planner_choosePasses kc ks 66 [.ref a0, .ref a1, .ref a2, .int x3, .int x4, .int x5] [.int x5, .ref a1, .ref a2, .int (am_I (am_si h35 b2 x5.toNatClampNeg r36) b37 x5.toNatClampNeg)] (am_si h35 b2 x5.toNatClampNeg r36) Q))))))
      obtain ⟨o38, o39, o40, b37, q41, o42, o43, t⟩ := t
      refine ⟨o38, o39, o40, b37, q41, o42, o43, ?_⟩
      obtain ⟨o44, t⟩ := t
      refine am_callV (M2 := m_Route_milesTo) (ci := 4) (a := a1) (kc := kc) (ks := ks) (k2c := 0) (k2s := 0) (as := [.ref a2, .int (am_I (am_si h35 b2 x5.toNatClampNeg r36) b37 x5.toNatClampNeg)]) [.int x5] dc_Planner_choosePasses_66 lk_1_54 im_Route_milesTo se_Route_milesTo lm_Route_milesTo np_Route_milesTo ⟨Nat.le_of_ble_eq_true rfl, Nat.le_of_ble_eq_true rfl⟩ (fun _ => Nat.le_of_ble_eq_true rfl) (by decide) rfl o44 (am_Ei.end (am_Ei.mono t (fun r46 h45 t => ?_)))
      obtain ⟨o47, t⟩ := t
      refine am_callV (M2 := m_Ship_minutesFor) (ci := 6) (a := a2) (kc := kc) (ks := ks) (k2c := 0) (k2s := 0) (as := [.int (am_I (am_si h35 b2 x5.toNatClampNeg r36) b37 x5.toNatClampNeg)]) [.int r46] dc_Planner_choosePasses_69 lk_1_57 im_Ship_minutesFor se_Ship_minutesFor lm_Ship_minutesFor np_Ship_minutesFor ⟨Nat.le_of_ble_eq_true rfl, Nat.le_of_ble_eq_true rfl⟩ (fun _ => Nat.le_of_ble_eq_true rfl) (by decide) rfl o47 (am_Ei.end (am_Ei.mono t (fun r49 h48 t => ?_)))
      refine am_blk_ok (c := 1) (ini := false) (by decide) rfl (fun q => by cases q) bk_Planner_choosePasses_72_4 _ 9 _ _ _ bk_Planner_choosePasses_72_4_ok rfl ?_
      show am_EI m_Planner_choosePasses kc ks 9 [.ref a0, .ref a1, .ref a2, .int x3, .int ((am_I (am_si h35 b2 x5.toNatClampNeg r36) b37 x5.toNatClampNeg) - r49), .int (x5 + (-1))] [] h48 Q
      exact t
def bk_Planner_findDeep_0_2 : List am_E := [(0, .aload_n 0, 1, 0, 0), (1, .getfield 23, 3, 405, 0)]
theorem bk_Planner_findDeep_0_2_ok : bk_Planner_findDeep_0_2.all (am_ok 1 false m_Planner_findDeep.2.1) = true := by decide +kernel
def bk_Planner_findDeep_7_1 : List am_E := [(7, .aload_n 1, 1, 0, 0)]
theorem bk_Planner_findDeep_7_1_ok : bk_Planner_findDeep_7_1.all (am_ok 1 false m_Planner_findDeep.2.1) = true := by decide +kernel
def bk_Planner_findDeep_11_2 : List am_E := [(11, .astore_n 3, 1, 0, 0), (12, .aload_n 3, 1, 0, 0)]
theorem bk_Planner_findDeep_11_2_ok : bk_Planner_findDeep_11_2.all (am_ok 1 false m_Planner_findDeep.2.1) = true := by decide +kernel
def bk_Planner_findDeep_16_5 : List am_E := [(16, .aload_n 3, 1, 0, 0), (17, .iconst 0, 1, 0, 0), (18, .iload_n 2, 1, 0, 0), (19, .aload_n 0, 1, 0, 0), (20, .getfield 23, 3, 405, 0)]
theorem bk_Planner_findDeep_16_5_ok : bk_Planner_findDeep_16_5.all (am_ok 1 false m_Planner_findDeep.2.1) = true := by decide +kernel
theorem dc_Planner_findDeep_4 : decode m_Planner_findDeep.2.1 4 = .ok (.invokevirtual 62, 3) := by decide +kernel
theorem dc_Planner_findDeep_8 : decode m_Planner_findDeep.2.1 8 = .ok (.invokevirtual 140, 3) := by decide +kernel
theorem dc_Planner_findDeep_13 : decode m_Planner_findDeep.2.1 13 = .ok (.ifnull 13, 3) := by decide +kernel
theorem dc_Planner_findDeep_26 : decode m_Planner_findDeep.2.1 26 = .ok (.return_, 1) := by decide +kernel
theorem dc_Planner_findDeep_23 : decode m_Planner_findDeep.2.1 23 = .ok (.invokevirtual 148, 3) := by decide +kernel
set_option maxRecDepth 20000 in
theorem sg_Planner_findDeep_0 {kc ks : Nat} (a0 a1 : Nat) (x2 : Int32) (h : am_H) (Q : Option Value → am_H → Prop) (t : (am_tg h a0 = (1, 7) ∧ (∃ b1, am_P h a0 1 = some b1 ∧ (am_tg h b1 = (8, 4) ∧ (am_Ew m_Spans_clear 0 0 [.ref b1] h (fun h5 => (am_tg h5 a1 = (7, 5) ∧ (am_Er m_Sill_home 0 0 [.ref a1] h5 (fun r8 h7 => (r8 = none → Q none h7) ∧ ∀ b9, r8 = some b9 → (am_tg h7 a0 = (1, 7) ∧ (∃ b11, am_P h7 a0 1 = some b11 ∧ (am_tg h7 b9 = (2, 5) ∧ (am_Ew m_Port_collect 0 0 [.ref b9, .int 0, .int x2, .ref b11] h7 (fun h15 => Q none h15)))))))))))))) : am_EI m_Planner_findDeep kc ks 0 [.ref a0, .ref a1, .int x2, .float 0] [] h Q := by
  refine am_blk_ok (c := 1) (ini := false) (by decide) rfl (fun q => by cases q) bk_Planner_findDeep_0_2 _ 4 _ _ _ bk_Planner_findDeep_0_2_ok rfl ?_
  show (am_tg h a0 = (1, 7) ∧ (∃ b1, am_P h a0 1 = some b1 ∧ am_EI m_Planner_findDeep kc ks 4 [.ref a0, .ref a1, .int x2, .float 0] [.ref b1] h Q))
  obtain ⟨o2, b1, q3, t⟩ := t
  refine ⟨o2, b1, q3, ?_⟩
  obtain ⟨o4, t⟩ := t
  refine am_callV (M2 := m_Spans_clear) (ci := 8) (a := b1) (kc := kc) (ks := ks) (k2c := 0) (k2s := 0) (as := []) [] dc_Planner_findDeep_4 lk_1_62 im_Spans_clear se_Spans_clear lm_Spans_clear np_Spans_clear ⟨Nat.le_of_ble_eq_true rfl, Nat.le_of_ble_eq_true rfl⟩ (fun _ => Nat.le_of_ble_eq_true rfl) (by decide) rfl o4 (am_Ew.end (am_Ew.mono t (fun h5 t => ?_)))
  refine am_blk_ok (c := 1) (ini := false) (by decide) rfl (fun q => by cases q) bk_Planner_findDeep_7_1 _ 8 _ _ _ bk_Planner_findDeep_7_1_ok rfl ?_
  show am_EI m_Planner_findDeep kc ks 8 [.ref a0, .ref a1, .int x2, .float 0] [.ref a1] h5 Q
  obtain ⟨o6, t⟩ := t
  refine am_callV (M2 := m_Sill_home) (ci := 7) (a := a1) (kc := kc) (ks := ks) (k2c := 0) (k2s := 0) (as := []) [] dc_Planner_findDeep_8 lk_1_140 im_Sill_home se_Sill_home lm_Sill_home np_Sill_home ⟨Nat.le_of_ble_eq_true rfl, Nat.le_of_ble_eq_true rfl⟩ (fun _ => Nat.le_of_ble_eq_true rfl) (by decide) rfl o6 (am_Er.end (am_Er.mono t (fun r8 h7 t => ⟨fun c10 => ?_, fun b9 c10 => ?_⟩)))
  · replace t := t.1 c10
    refine am_blk_ok (c := 1) (ini := false) (by decide) rfl (fun q => by cases q) bk_Planner_findDeep_11_2 _ 13 _ _ _ bk_Planner_findDeep_11_2_ok rfl ?_
    show am_EI m_Planner_findDeep kc ks 13 [.ref a0, .ref a1, .int x2, .null] [.null] h7 Q
    refine am_ifnullN (tgt := 26) dc_Planner_findDeep_13 (by decide) ?_
    exact am_vret dc_Planner_findDeep_26 rfl t
  · replace t := t.2 b9 c10
    refine am_blk_ok (c := 1) (ini := false) (by decide) rfl (fun q => by cases q) bk_Planner_findDeep_11_2 _ 13 _ _ _ bk_Planner_findDeep_11_2_ok rfl ?_
    show am_EI m_Planner_findDeep kc ks 13 [.ref a0, .ref a1, .int x2, .ref b9] [.ref b9] h7 Q
    refine am_ifnull dc_Planner_findDeep_13 ?_
    refine am_blk_ok (c := 1) (ini := false) (by decide) rfl (fun q => by cases q) bk_Planner_findDeep_16_5 _ 23 _ _ _ bk_Planner_findDeep_16_5_ok rfl ?_
    show (am_tg h7 a0 = (1, 7) ∧ (∃ b11, am_P h7 a0 1 = some b11 ∧ am_EI m_Planner_findDeep kc ks 23 [.ref a0, .ref a1, .int x2, .ref b9] [.ref b11, .int x2, .int 0, .ref b9] h7 Q))
    obtain ⟨o12, b11, q13, t⟩ := t
    refine ⟨o12, b11, q13, ?_⟩
    obtain ⟨o14, t⟩ := t
    refine am_callV (M2 := m_Port_collect) (ci := 2) (a := b9) (kc := kc) (ks := ks) (k2c := 0) (k2s := 0) (as := []) [.int 0, .int x2, .ref b11] dc_Planner_findDeep_23 lk_1_148 im_Port_collect se_Port_collect lm_Port_collect np_Port_collect ⟨Nat.le_of_ble_eq_true rfl, Nat.le_of_ble_eq_true rfl⟩ (fun _ => Nat.le_of_ble_eq_true rfl) (by decide) rfl o14 (am_Ew.end (am_Ew.mono t (fun h15 t => ?_)))
    exact am_vret dc_Planner_findDeep_26 rfl t
set_option maxRecDepth 20000 in
theorem ev_Planner_findDeep (a0 a1 : Nat) (x2 : Int32) (h : am_H) (Q : am_H → Prop) (t : (am_tg h a0 = (1, 7) ∧ (∃ b1, am_P h a0 1 = some b1 ∧ (am_tg h b1 = (8, 4) ∧ (am_Ew m_Spans_clear 0 0 [.ref b1] h (fun h5 => (am_tg h5 a1 = (7, 5) ∧ (am_Er m_Sill_home 0 0 [.ref a1] h5 (fun r8 h7 => (r8 = none → Q h7) ∧ ∀ b9, r8 = some b9 → (am_tg h7 a0 = (1, 7) ∧ (∃ b11, am_P h7 a0 1 = some b11 ∧ (am_tg h7 b9 = (2, 5) ∧ (am_Ew m_Port_collect 0 0 [.ref b9, .int 0, .int x2, .ref b11] h7 (fun h15 => Q h15)))))))))))))) : am_Ew m_Planner_findDeep 0 0 [.ref a0, .ref a1, .int x2] h Q :=
  am_Ev.of (by decide +kernel) (Nat.le_of_ble_eq_true rfl) (by simp only [List.mem_cons, List.not_mem_nil, or_false]; intro v hv; rcases hv with rfl | rfl | rfl; all_goals first | exact trivial) (sg_Planner_findDeep_0 (kc := 0) (ks := 0) a0 a1 x2 h (am_qw Q) t)
def bk_Planner_init_0_1 : List am_E := [(0, .aload_n 0, 1, 0, 0)]
theorem bk_Planner_init_0_1_ok : bk_Planner_init_0_1.all (am_ok 1 true m_Planner_init.2.1) = true := by decide +kernel
def bk_Planner_init_4_1 : List am_E := [(4, .aload_n 0, 1, 0, 0)]
theorem bk_Planner_init_4_1_ok : bk_Planner_init_4_1.all (am_ok 1 true m_Planner_init.2.1) = true := by decide +kernel
def bk_Planner_init_8_1 : List am_E := [(8, .dup, 1, 0, 0)]
theorem bk_Planner_init_8_1_ok : bk_Planner_init_8_1.all (am_ok 1 true m_Planner_init.2.1) = true := by decide +kernel
def bk_Planner_init_12_2 : List am_E := [(12, .putfield 12, 3, 401, 0), (15, .aload_n 0, 1, 0, 0)]
theorem bk_Planner_init_12_2_ok : bk_Planner_init_12_2.all (am_ok 1 true m_Planner_init.2.1) = true := by decide +kernel
def bk_Planner_init_19_2 : List am_E := [(19, .dup, 1, 0, 0), (20, .bipush 24, 2, 0, 24)]
theorem bk_Planner_init_19_2_ok : bk_Planner_init_19_2.all (am_ok 1 true m_Planner_init.2.1) = true := by decide +kernel
def bk_Planner_init_25_2 : List am_E := [(25, .putfield 23, 3, 405, 0), (28, .aload_n 0, 1, 0, 0)]
theorem bk_Planner_init_25_2_ok : bk_Planner_init_25_2.all (am_ok 1 true m_Planner_init.2.1) = true := by decide +kernel
def bk_Planner_init_32_2 : List am_E := [(32, .dup, 1, 0, 0), (33, .bipush 24, 2, 0, 24)]
theorem bk_Planner_init_32_2_ok : bk_Planner_init_32_2.all (am_ok 1 true m_Planner_init.2.1) = true := by decide +kernel
def bk_Planner_init_38_2 : List am_E := [(38, .putfield 27, 3, 409, 0), (41, .aload_n 0, 1, 0, 0)]
theorem bk_Planner_init_38_2_ok : bk_Planner_init_38_2.all (am_ok 1 true m_Planner_init.2.1) = true := by decide +kernel
def bk_Planner_init_45_2 : List am_E := [(45, .dup, 1, 0, 0), (46, .sipush 128, 3, 0, 128)]
theorem bk_Planner_init_45_2_ok : bk_Planner_init_45_2.all (am_ok 1 true m_Planner_init.2.1) = true := by decide +kernel
def bk_Planner_init_52_2 : List am_E := [(52, .putfield 30, 3, 413, 0), (55, .aload_n 0, 1, 0, 0)]
theorem bk_Planner_init_52_2_ok : bk_Planner_init_52_2.all (am_ok 1 true m_Planner_init.2.1) = true := by decide +kernel
def bk_Planner_init_59_2 : List am_E := [(59, .dup, 1, 0, 0), (60, .sipush 128, 3, 0, 128)]
theorem bk_Planner_init_59_2_ok : bk_Planner_init_59_2.all (am_ok 1 true m_Planner_init.2.1) = true := by decide +kernel
def bk_Planner_init_66_3 : List am_E := [(66, .putfield 33, 3, 417, 0), (69, .aload_n 0, 1, 0, 0), (70, .bipush 8, 2, 0, 8)]
theorem bk_Planner_init_66_3_ok : bk_Planner_init_66_3.all (am_ok 1 true m_Planner_init.2.1) = true := by decide +kernel
def bk_Planner_init_75_3 : List am_E := [(75, .putfield 38, 3, 421, 0), (78, .aload_n 0, 1, 0, 0), (79, .bipush 8, 2, 0, 8)]
theorem bk_Planner_init_75_3_ok : bk_Planner_init_75_3.all (am_ok 1 true m_Planner_init.2.1) = true := by decide +kernel
def bk_Planner_init_83_3 : List am_E := [(83, .putfield 42, 3, 425, 0), (86, .iconst 0, 1, 0, 0), (87, .istore_n 1, 1, 0, 0)]
theorem bk_Planner_init_83_3_ok : bk_Planner_init_83_3.all (am_ok 1 true m_Planner_init.2.1) = true := by decide +kernel
def bk_Planner_init_88_2 : List am_E := [(88, .iload_n 1, 1, 0, 0), (89, .bipush 8, 2, 0, 8)]
theorem bk_Planner_init_88_2_ok : bk_Planner_init_88_2.all (am_ok 1 true m_Planner_init.2.1) = true := by decide +kernel
def bk_Planner_init_94_3 : List am_E := [(94, .aload_n 0, 1, 0, 0), (95, .getfield 38, 3, 421, 0), (98, .iload_n 1, 1, 0, 0)]
theorem bk_Planner_init_94_3_ok : bk_Planner_init_94_3.all (am_ok 1 true m_Planner_init.2.1) = true := by decide +kernel
def bk_Planner_init_102_2 : List am_E := [(102, .dup, 1, 0, 0), (103, .sipush 128, 3, 0, 128)]
theorem bk_Planner_init_102_2_ok : bk_Planner_init_102_2.all (am_ok 1 true m_Planner_init.2.1) = true := by decide +kernel
def bk_Planner_init_109_3 : List am_E := [(109, .aastore, 1, 8, 0), (110, .iinc 1 1, 3, 0, 1), (113, .goto (-25), 3, 0, -25)]
theorem bk_Planner_init_109_3_ok : bk_Planner_init_109_3.all (am_ok 1 true m_Planner_init.2.1) = true := by decide +kernel
theorem dc_Planner_init_9 : decode m_Planner_init.2.1 9 = .ok (.invokespecial 11, 3) := by decide +kernel
theorem dc_Planner_init_22 : decode m_Planner_init.2.1 22 = .ok (.invokespecial 20, 3) := by decide +kernel
theorem dc_Planner_init_35 : decode m_Planner_init.2.1 35 = .ok (.invokespecial 20, 3) := by decide +kernel
theorem dc_Planner_init_49 : decode m_Planner_init.2.1 49 = .ok (.invokespecial 20, 3) := by decide +kernel
theorem dc_Planner_init_63 : decode m_Planner_init.2.1 63 = .ok (.invokespecial 20, 3) := by decide +kernel
theorem dc_Planner_init_81 : decode m_Planner_init.2.1 81 = .ok (.newarray .int, 2) := by decide +kernel
theorem dc_Planner_init_72 : decode m_Planner_init.2.1 72 = .ok (.anewarray 18, 3) := by decide +kernel
theorem dc_Planner_init_56 : decode m_Planner_init.2.1 56 = .ok (.new 18, 3) := by decide +kernel
theorem dc_Planner_init_42 : decode m_Planner_init.2.1 42 = .ok (.new 18, 3) := by decide +kernel
theorem dc_Planner_init_29 : decode m_Planner_init.2.1 29 = .ok (.new 18, 3) := by decide +kernel
theorem dc_Planner_init_16 : decode m_Planner_init.2.1 16 = .ok (.new 18, 3) := by decide +kernel
theorem dc_Planner_init_5 : decode m_Planner_init.2.1 5 = .ok (.new 9, 3) := by decide +kernel
theorem dc_Planner_init_1 : decode m_Planner_init.2.1 1 = .ok (.invokespecial 3, 3) := by decide +kernel
theorem dc_Planner_init_116 : decode m_Planner_init.2.1 116 = .ok (.return_, 1) := by decide +kernel
theorem dc_Planner_init_106 : decode m_Planner_init.2.1 106 = .ok (.invokespecial 20, 3) := by decide +kernel
theorem dc_Planner_init_99 : decode m_Planner_init.2.1 99 = .ok (.new 18, 3) := by decide +kernel
theorem dc_Planner_init_91 : decode m_Planner_init.2.1 91 = .ok (.if_icmp .ge 25, 3) := by decide +kernel
set_option maxRecDepth 20000 in
theorem sg_Planner_init_0 {kc ks : Nat} (a0 : Nat) (h : am_H) (Q : Option Value → am_H → Prop) (t : (am_Ew m_Windows_init 9 156 [.ref (am_sz h)] (am_nw h 10 4) (fun h1 => (am_tg h1 a0 = (1, 7) ∧ (am_Ew m_Spans_init 2 48 [.ref (am_sz h1), .int 24] (am_nw (am_sp h1 a0 0 (some (am_sz h))) 8 4) (fun h3 => (am_tg h3 a0 = (1, 7) ∧ (am_Ew m_Spans_init 2 48 [.ref (am_sz h3), .int 24] (am_nw (am_sp h3 a0 1 (some (am_sz h1))) 8 4) (fun h5 => (am_tg h5 a0 = (1, 7) ∧ (am_Ew m_Spans_init 2 256 [.ref (am_sz h5), .int 128] (am_nw (am_sp h5 a0 2 (some (am_sz h3))) 8 4) (fun h7 => (am_tg h7 a0 = (1, 7) ∧ (am_Ew m_Spans_init 2 256 [.ref (am_sz h7), .int 128] (am_nw (am_sp h7 a0 3 (some (am_sz h5))) 8 4) (fun h9 => (am_tg h9 a0 = (1, 7) ∧ (am_tg (am_nw (am_sp h9 a0 4 (some (am_sz h7))) 38 8) a0 = (1, 7) ∧ (am_tg (am_nw (am_sp (am_nw (am_sp h9 a0 4 (some (am_sz h7))) 38 8) a0 5 (some (am_sz h9))) 20 8) a0 = (1, 7) ∧ am_EI m_Planner_init kc ks 88 [.ref a0, .int 0] [] (am_sp (am_nw (am_sp (am_nw (am_sp h9 a0 4 (some (am_sz h7))) 38 8) a0 5 (some (am_sz h9))) 20 8) a0 6 (some (am_sz (am_nw (am_sp h9 a0 4 (some (am_sz h7))) 38 8)))) Q)))))))))))))))))) : am_EI m_Planner_init (kc + 1 + 1 + 2 + 1 + 2 + 1 + 2 + 1 + 2 + 1 + 9 + 1) (ks + 8 + 8 + 256 + 4 + 256 + 4 + 48 + 4 + 48 + 4 + 156 + 4) 0 [.ref a0, .float 0] [] h Q := by
  refine am_blk_ok (c := 1) (ini := true) (by decide) rfl (fun _ => rfl) bk_Planner_init_0_1 _ 1 _ _ _ bk_Planner_init_0_1_ok rfl ?_
  show am_EI m_Planner_init (kc + 1 + 1 + 2 + 1 + 2 + 1 + 2 + 1 + 2 + 1 + 9 + 1) (ks + 8 + 8 + 256 + 4 + 256 + 4 + 48 + 4 + 48 + 4 + 156 + 4) 1 [.ref a0, .float 0] [.ref a0] h Q
  refine am_oinit (a := a0) dc_Planner_init_1 lk_1_3 oi_2 oi_3 (by decide) (by decide) ?_
  refine am_blk_ok (c := 1) (ini := true) (by decide) rfl (fun _ => rfl) bk_Planner_init_4_1 _ 5 _ _ _ bk_Planner_init_4_1_ok rfl ?_
  show am_EI m_Planner_init (kc + 1 + 1 + 2 + 1 + 2 + 1 + 2 + 1 + 2 + 1 + 9 + 1) (ks + 8 + 8 + 256 + 4 + 256 + 4 + 48 + 4 + 48 + 4 + 156 + 4) 5 [.ref a0, .float 0] [.ref a0] h Q
  refine am_new (kc := (kc + 1 + 1 + 2 + 1 + 2 + 1 + 2 + 1 + 2 + 1 + 9)) (ks := (ks + 8 + 8 + 256 + 4 + 256 + 4 + 48 + 4 + 48 + 4 + 156)) (ci := 10) dc_Planner_init_5 (by decide) cl_1_9 in_10 ii_10 ?_
  refine am_blk_ok (c := 1) (ini := true) (by decide) rfl (fun _ => rfl) bk_Planner_init_8_1 _ 9 _ _ _ bk_Planner_init_8_1_ok rfl ?_
  show am_EI m_Planner_init (kc + 1 + 1 + 2 + 1 + 2 + 1 + 2 + 1 + 2 + 1 + 9) (ks + 8 + 8 + 256 + 4 + 256 + 4 + 48 + 4 + 48 + 4 + 156) 9 [.ref a0, .float 0] [.ref (am_sz h), .ref (am_sz h), .ref a0] (am_nw h 10 4) Q
  refine am_callIN (M2 := m_Windows_init) (host := "SillHours") (a := am_sz h) (kc := (kc + 1 + 1 + 2 + 1 + 2 + 1 + 2 + 1 + 2 + 1)) (ks := (ks + 8 + 8 + 256 + 4 + 256 + 4 + 48 + 4 + 48 + 4)) (k2c := 9) (k2s := 156) (as := [.ref (am_sz h), .ref a0]) [] dc_Planner_init_9 (by decide) im_Windows_init rfl rfl lm_Windows_init np_Windows_init ⟨Nat.le_of_ble_eq_true rfl, Nat.le_of_ble_eq_true rfl⟩ (fun _ => Nat.le_of_ble_eq_true rfl) (am_Ew.end (am_Ew.mono t (fun h1 t => ?_)))
  refine am_blk_ok (c := 1) (ini := true) (by decide) rfl (fun _ => rfl) bk_Planner_init_12_2 _ 16 _ _ _ bk_Planner_init_12_2_ok rfl ?_
  show (am_tg h1 a0 = (1, 7) ∧ am_EI m_Planner_init (kc + 1 + 1 + 2 + 1 + 2 + 1 + 2 + 1 + 2 + 1) (ks + 8 + 8 + 256 + 4 + 256 + 4 + 48 + 4 + 48 + 4) 16 [.ref a0, .float 0] [.ref a0] (am_sp h1 a0 0 (some (am_sz h))) Q)
  obtain ⟨o2, t⟩ := t
  refine ⟨o2, ?_⟩
  refine am_new (kc := (kc + 1 + 1 + 2 + 1 + 2 + 1 + 2 + 1 + 2)) (ks := (ks + 8 + 8 + 256 + 4 + 256 + 4 + 48 + 4 + 48)) (ci := 8) dc_Planner_init_16 (by decide) cl_1_18 in_8 ii_8 ?_
  refine am_blk_ok (c := 1) (ini := true) (by decide) rfl (fun _ => rfl) bk_Planner_init_19_2 _ 22 _ _ _ bk_Planner_init_19_2_ok rfl ?_
  show am_EI m_Planner_init (kc + 1 + 1 + 2 + 1 + 2 + 1 + 2 + 1 + 2) (ks + 8 + 8 + 256 + 4 + 256 + 4 + 48 + 4 + 48) 22 [.ref a0, .float 0] [.int 24, .ref (am_sz h1), .ref (am_sz h1), .ref a0] (am_nw (am_sp h1 a0 0 (some (am_sz h))) 8 4) Q
  refine am_callI (M2 := m_Spans_init) (a := am_sz h1) (kc := (kc + 1 + 1 + 2 + 1 + 2 + 1 + 2 + 1)) (ks := (ks + 8 + 8 + 256 + 4 + 256 + 4 + 48 + 4)) (k2c := 2) (k2s := 48) (as := [.ref (am_sz h1), .ref a0]) [.int 24] dc_Planner_init_22 lk_1_20 im_Spans_init rfl rfl lm_Spans_init np_Spans_init ⟨Nat.le_of_ble_eq_true rfl, Nat.le_of_ble_eq_true rfl⟩ (fun _ => Nat.le_of_ble_eq_true rfl) (am_Ew.end (am_Ew.mono t (fun h3 t => ?_)))
  refine am_blk_ok (c := 1) (ini := true) (by decide) rfl (fun _ => rfl) bk_Planner_init_25_2 _ 29 _ _ _ bk_Planner_init_25_2_ok rfl ?_
  show (am_tg h3 a0 = (1, 7) ∧ am_EI m_Planner_init (kc + 1 + 1 + 2 + 1 + 2 + 1 + 2 + 1) (ks + 8 + 8 + 256 + 4 + 256 + 4 + 48 + 4) 29 [.ref a0, .float 0] [.ref a0] (am_sp h3 a0 1 (some (am_sz h1))) Q)
  obtain ⟨o4, t⟩ := t
  refine ⟨o4, ?_⟩
  refine am_new (kc := (kc + 1 + 1 + 2 + 1 + 2 + 1 + 2)) (ks := (ks + 8 + 8 + 256 + 4 + 256 + 4 + 48)) (ci := 8) dc_Planner_init_29 (by decide) cl_1_18 in_8 ii_8 ?_
  refine am_blk_ok (c := 1) (ini := true) (by decide) rfl (fun _ => rfl) bk_Planner_init_32_2 _ 35 _ _ _ bk_Planner_init_32_2_ok rfl ?_
  show am_EI m_Planner_init (kc + 1 + 1 + 2 + 1 + 2 + 1 + 2) (ks + 8 + 8 + 256 + 4 + 256 + 4 + 48) 35 [.ref a0, .float 0] [.int 24, .ref (am_sz h3), .ref (am_sz h3), .ref a0] (am_nw (am_sp h3 a0 1 (some (am_sz h1))) 8 4) Q
  refine am_callI (M2 := m_Spans_init) (a := am_sz h3) (kc := (kc + 1 + 1 + 2 + 1 + 2 + 1)) (ks := (ks + 8 + 8 + 256 + 4 + 256 + 4)) (k2c := 2) (k2s := 48) (as := [.ref (am_sz h3), .ref a0]) [.int 24] dc_Planner_init_35 lk_1_20 im_Spans_init rfl rfl lm_Spans_init np_Spans_init ⟨Nat.le_of_ble_eq_true rfl, Nat.le_of_ble_eq_true rfl⟩ (fun _ => Nat.le_of_ble_eq_true rfl) (am_Ew.end (am_Ew.mono t (fun h5 t => ?_)))
  refine am_blk_ok (c := 1) (ini := true) (by decide) rfl (fun _ => rfl) bk_Planner_init_38_2 _ 42 _ _ _ bk_Planner_init_38_2_ok rfl ?_
  show (am_tg h5 a0 = (1, 7) ∧ am_EI m_Planner_init (kc + 1 + 1 + 2 + 1 + 2 + 1) (ks + 8 + 8 + 256 + 4 + 256 + 4) 42 [.ref a0, .float 0] [.ref a0] (am_sp h5 a0 2 (some (am_sz h3))) Q)
  obtain ⟨o6, t⟩ := t
  refine ⟨o6, ?_⟩
  refine am_new (kc := (kc + 1 + 1 + 2 + 1 + 2)) (ks := (ks + 8 + 8 + 256 + 4 + 256)) (ci := 8) dc_Planner_init_42 (by decide) cl_1_18 in_8 ii_8 ?_
  refine am_blk_ok (c := 1) (ini := true) (by decide) rfl (fun _ => rfl) bk_Planner_init_45_2 _ 49 _ _ _ bk_Planner_init_45_2_ok rfl ?_
  show am_EI m_Planner_init (kc + 1 + 1 + 2 + 1 + 2) (ks + 8 + 8 + 256 + 4 + 256) 49 [.ref a0, .float 0] [.int 128, .ref (am_sz h5), .ref (am_sz h5), .ref a0] (am_nw (am_sp h5 a0 2 (some (am_sz h3))) 8 4) Q
  refine am_callI (M2 := m_Spans_init) (a := am_sz h5) (kc := (kc + 1 + 1 + 2 + 1)) (ks := (ks + 8 + 8 + 256 + 4)) (k2c := 2) (k2s := 256) (as := [.ref (am_sz h5), .ref a0]) [.int 128] dc_Planner_init_49 lk_1_20 im_Spans_init rfl rfl lm_Spans_init np_Spans_init ⟨Nat.le_of_ble_eq_true rfl, Nat.le_of_ble_eq_true rfl⟩ (fun _ => Nat.le_of_ble_eq_true rfl) (am_Ew.end (am_Ew.mono t (fun h7 t => ?_)))
  refine am_blk_ok (c := 1) (ini := true) (by decide) rfl (fun _ => rfl) bk_Planner_init_52_2 _ 56 _ _ _ bk_Planner_init_52_2_ok rfl ?_
  show (am_tg h7 a0 = (1, 7) ∧ am_EI m_Planner_init (kc + 1 + 1 + 2 + 1) (ks + 8 + 8 + 256 + 4) 56 [.ref a0, .float 0] [.ref a0] (am_sp h7 a0 3 (some (am_sz h5))) Q)
  obtain ⟨o8, t⟩ := t
  refine ⟨o8, ?_⟩
  refine am_new (kc := (kc + 1 + 1 + 2)) (ks := (ks + 8 + 8 + 256)) (ci := 8) dc_Planner_init_56 (by decide) cl_1_18 in_8 ii_8 ?_
  refine am_blk_ok (c := 1) (ini := true) (by decide) rfl (fun _ => rfl) bk_Planner_init_59_2 _ 63 _ _ _ bk_Planner_init_59_2_ok rfl ?_
  show am_EI m_Planner_init (kc + 1 + 1 + 2) (ks + 8 + 8 + 256) 63 [.ref a0, .float 0] [.int 128, .ref (am_sz h7), .ref (am_sz h7), .ref a0] (am_nw (am_sp h7 a0 3 (some (am_sz h5))) 8 4) Q
  refine am_callI (M2 := m_Spans_init) (a := am_sz h7) (kc := (kc + 1 + 1)) (ks := (ks + 8 + 8)) (k2c := 2) (k2s := 256) (as := [.ref (am_sz h7), .ref a0]) [.int 128] dc_Planner_init_63 lk_1_20 im_Spans_init rfl rfl lm_Spans_init np_Spans_init ⟨Nat.le_of_ble_eq_true rfl, Nat.le_of_ble_eq_true rfl⟩ (fun _ => Nat.le_of_ble_eq_true rfl) (am_Ew.end (am_Ew.mono t (fun h9 t => ?_)))
  refine am_blk_ok (c := 1) (ini := true) (by decide) rfl (fun _ => rfl) bk_Planner_init_66_3 _ 72 _ _ _ bk_Planner_init_66_3_ok rfl ?_
  show (am_tg h9 a0 = (1, 7) ∧ am_EI m_Planner_init (kc + 1 + 1) (ks + 8 + 8) 72 [.ref a0, .float 0] [.int 8, .ref a0] (am_sp h9 a0 4 (some (am_sz h7))) Q)
  obtain ⟨o10, t⟩ := t
  refine ⟨o10, ?_⟩
  refine am_anew (kc := (kc + 1)) (ks := (ks + 8)) (cb := 8) (N := 8) dc_Planner_init_72 (by decide) cl_1_18 (by decide) (by decide) (by decide) ?_
  refine am_blk_ok (c := 1) (ini := true) (by decide) rfl (fun _ => rfl) bk_Planner_init_75_3 _ 81 _ _ _ bk_Planner_init_75_3_ok rfl ?_
  show (am_tg (am_nw (am_sp h9 a0 4 (some (am_sz h7))) 38 8) a0 = (1, 7) ∧ am_EI m_Planner_init (kc + 1) (ks + 8) 81 [.ref a0, .float 0] [.int 8, .ref a0] (am_sp (am_nw (am_sp h9 a0 4 (some (am_sz h7))) 38 8) a0 5 (some (am_sz h9))) Q)
  obtain ⟨o11, t⟩ := t
  refine ⟨o11, ?_⟩
  refine am_newa (kc := kc) (ks := ks) (kd := 20) (N := 8) dc_Planner_init_81 (by decide) ac_int (by decide) (by decide) (by decide) ?_
  refine am_blk_ok (c := 1) (ini := true) (by decide) rfl (fun _ => rfl) bk_Planner_init_83_3 _ 88 _ _ _ bk_Planner_init_83_3_ok rfl ?_
  show (am_tg (am_nw (am_sp (am_nw (am_sp h9 a0 4 (some (am_sz h7))) 38 8) a0 5 (some (am_sz h9))) 20 8) a0 = (1, 7) ∧ am_EI m_Planner_init kc ks 88 [.ref a0, .int 0] [] (am_sp (am_nw (am_sp (am_nw (am_sp h9 a0 4 (some (am_sz h7))) 38 8) a0 5 (some (am_sz h9))) 20 8) a0 6 (some (am_sz (am_nw (am_sp h9 a0 4 (some (am_sz h7))) 38 8)))) Q)
  obtain ⟨o12, t⟩ := t
  refine ⟨o12, ?_⟩
  exact t
set_option maxRecDepth 20000 in
theorem ev_Planner_init (a0 : Nat) (h : am_H) (Q : am_H → Prop) (t : (am_Ew m_Windows_init 9 156 [.ref (am_sz h)] (am_nw h 10 4) (fun h1 => (am_tg h1 a0 = (1, 7) ∧ (am_Ew m_Spans_init 2 48 [.ref (am_sz h1), .int 24] (am_nw (am_sp h1 a0 0 (some (am_sz h))) 8 4) (fun h3 => (am_tg h3 a0 = (1, 7) ∧ (am_Ew m_Spans_init 2 48 [.ref (am_sz h3), .int 24] (am_nw (am_sp h3 a0 1 (some (am_sz h1))) 8 4) (fun h5 => (am_tg h5 a0 = (1, 7) ∧ (am_Ew m_Spans_init 2 256 [.ref (am_sz h5), .int 128] (am_nw (am_sp h5 a0 2 (some (am_sz h3))) 8 4) (fun h7 => (am_tg h7 a0 = (1, 7) ∧ (am_Ew m_Spans_init 2 256 [.ref (am_sz h7), .int 128] (am_nw (am_sp h7 a0 3 (some (am_sz h5))) 8 4) (fun h9 => (am_tg h9 a0 = (1, 7) ∧ (am_tg (am_nw (am_sp h9 a0 4 (some (am_sz h7))) 38 8) a0 = (1, 7) ∧ (am_tg (am_nw (am_sp (am_nw (am_sp h9 a0 4 (some (am_sz h7))) 38 8) a0 5 (some (am_sz h9))) 20 8) a0 = (1, 7) ∧ am_EI m_Planner_init 0 0 88 [.ref a0, .int 0] [] (am_sp (am_nw (am_sp (am_nw (am_sp h9 a0 4 (some (am_sz h7))) 38 8) a0 5 (some (am_sz h9))) 20 8) a0 6 (some (am_sz (am_nw (am_sp h9 a0 4 (some (am_sz h7))) 38 8)))) (am_qw Q))))))))))))))))))) : am_Ew m_Planner_init (0 + 1 + 1 + 2 + 1 + 2 + 1 + 2 + 1 + 2 + 1 + 9 + 1) (0 + 8 + 8 + 256 + 4 + 256 + 4 + 48 + 4 + 48 + 4 + 156 + 4) [.ref a0] h Q :=
  am_Ev.of (by decide +kernel) (Nat.le_of_ble_eq_true rfl) (by simp only [List.mem_cons, List.not_mem_nil, or_false]; intro v hv; rcases hv with rfl; all_goals first | exact trivial) (sg_Planner_init_0 (kc := 0) (ks := 0) a0 h (am_qw Q) t)
set_option maxRecDepth 20000 in
theorem sg_Planner_init_88 {kc ks : Nat} (a0 : Nat) (x1 : Int32) (h : am_H) (Q : Option Value → am_H → Prop) (t : ((8 ≤ x1 → Q none h) ∧ (¬ 8 ≤ x1 → (am_tg h a0 = (1, 7) ∧ (∃ b2, am_P h a0 5 = some b2 ∧ (am_Ew m_Spans_init 2 256 [.ref (am_sz h), .int 128] (am_nw h 8 4) (fun h5 => (am_tg h5 (am_sz h) = (8, (am_tg h5 (am_sz h)).2) ∧ ((am_tg h5 b2).1 = 30 + 8 ∧ (vp_in x1 (am_tg h5 b2).2 ∧ am_EI m_Planner_init kc ks 88 [.ref a0, .int (x1 + 1)] [] (am_sp h5 b2 x1.toNatClampNeg (some (am_sz h))) Q)))))))))) : am_EI m_Planner_init (kc + 2 + 1) (ks + 256 + 4) 88 [.ref a0, .int x1] [] h Q := by
  refine am_blk_ok (c := 1) (ini := true) (by decide) rfl (fun _ => rfl) bk_Planner_init_88_2 _ 91 _ _ _ bk_Planner_init_88_2_ok rfl ?_
  show am_EI m_Planner_init (kc + 2 + 1) (ks + 256 + 4) 91 [.ref a0, .int x1] [.int 8, .int x1] h Q
  refine am_ic_ge (tgt := 116) dc_Planner_init_91 (by decide) (fun c1 => ?_) (fun c1 => ?_)
  · refine am_EI.more (kc := kc) (ks := ks) 3 260 ?_
    replace t := t.1 c1
    exact am_vret dc_Planner_init_116 rfl t
  · replace t := t.2 c1
    refine am_blk_ok (c := 1) (ini := true) (by decide) rfl (fun _ => rfl) bk_Planner_init_94_3 _ 99 _ _ _ bk_Planner_init_94_3_ok rfl ?_
    show (am_tg h a0 = (1, 7) ∧ (∃ b2, am_P h a0 5 = some b2 ∧ am_EI m_Planner_init (kc + 2 + 1) (ks + 256 + 4) 99 [.ref a0, .int x1] [.int x1, .ref b2] h Q))
    obtain ⟨o3, b2, q4, t⟩ := t
    refine ⟨o3, b2, q4, ?_⟩
    refine am_new (kc := (kc + 2)) (ks := (ks + 256)) (ci := 8) dc_Planner_init_99 (by decide) cl_1_18 in_8 ii_8 ?_
    refine am_blk_ok (c := 1) (ini := true) (by decide) rfl (fun _ => rfl) bk_Planner_init_102_2 _ 106 _ _ _ bk_Planner_init_102_2_ok rfl ?_
    show am_EI m_Planner_init (kc + 2) (ks + 256) 106 [.ref a0, .int x1] [.int 128, .ref (am_sz h), .ref (am_sz h), .int x1, .ref b2] (am_nw h 8 4) Q
    refine am_callI (M2 := m_Spans_init) (a := am_sz h) (kc := kc) (ks := ks) (k2c := 2) (k2s := 256) (as := [.ref (am_sz h), .int x1, .ref b2]) [.int 128] dc_Planner_init_106 lk_1_20 im_Spans_init rfl rfl lm_Spans_init np_Spans_init ⟨Nat.le_of_ble_eq_true rfl, Nat.le_of_ble_eq_true rfl⟩ (fun _ => Nat.le_of_ble_eq_true rfl) (am_Ew.end (am_Ew.mono t (fun h5 t => ?_)))
    refine am_blk_ok (c := 1) (ini := true) (by decide) rfl (fun _ => rfl) bk_Planner_init_109_3 _ 88 _ _ _ bk_Planner_init_109_3_ok rfl ?_
    show (am_tg h5 (am_sz h) = (8, (am_tg h5 (am_sz h)).2) ∧ ((am_tg h5 b2).1 = 30 + 8 ∧ ((8 = 2 ∨ 8 = 4 ∨ 8 = 6 ∨ 8 = 7 ∨ 8 = 8) ∧ (vp_in x1 (am_tg h5 b2).2 ∧ am_EI m_Planner_init kc ks 88 [.ref a0, .int (x1 + 1)] [] (am_sp h5 b2 x1.toNatClampNeg (some (am_sz h))) Q))))
    obtain ⟨o6, o7, o8, t⟩ := t
    refine ⟨o6, o7, (by decide), o8, ?_⟩
    exact t
def bk_Planner_latestStart_0_2 : List am_E := [(0, .aload_n 0, 1, 0, 0), (1, .getfield 33, 3, 417, 0)]
theorem bk_Planner_latestStart_0_2_ok : bk_Planner_latestStart_0_2.all (am_ok 1 false m_Planner_latestStart.2.1) = true := by decide +kernel
def bk_Planner_latestStart_7_4 : List am_E := [(7, .aload_n 0, 1, 0, 0), (8, .getfield 33, 3, 417, 0), (11, .iconst 0, 1, 0, 0), (12, .iload_n 3, 1, 0, 0)]
theorem bk_Planner_latestStart_7_4_ok : bk_Planner_latestStart_7_4.all (am_ok 1 false m_Planner_latestStart.2.1) = true := by decide +kernel
def bk_Planner_latestStart_16_1 : List am_E := [(16, .aload_n 1, 1, 0, 0)]
theorem bk_Planner_latestStart_16_1_ok : bk_Planner_latestStart_16_1.all (am_ok 1 false m_Planner_latestStart.2.1) = true := by decide +kernel
def bk_Planner_latestStart_20_1 : List am_E := [(20, .bipush 8, 2, 0, 8)]
theorem bk_Planner_latestStart_20_1_ok : bk_Planner_latestStart_20_1.all (am_ok 1 false m_Planner_latestStart.2.1) = true := by decide +kernel
def bk_Planner_latestStart_25_7 : List am_E := [(25, .istore 4, 2, 0, 0), (27, .ldc 106, 2, 0, -2147483648), (29, .istore 5, 2, 0, 0), (31, .iload 4, 2, 0, 0), (33, .iconst 1, 1, 0, 1), (34, .isub, 1, 0, 0), (35, .istore 6, 2, 0, 0)]
theorem bk_Planner_latestStart_25_7_ok : bk_Planner_latestStart_25_7.all (am_ok 1 false m_Planner_latestStart.2.1) = true := by decide +kernel
def bk_Planner_latestStart_37_1 : List am_E := [(37, .iload 6, 2, 0, 0)]
theorem bk_Planner_latestStart_37_1_ok : bk_Planner_latestStart_37_1.all (am_ok 1 false m_Planner_latestStart.2.1) = true := by decide +kernel
def bk_Planner_latestStart_151_1 : List am_E := [(151, .iload 5, 2, 0, 0)]
theorem bk_Planner_latestStart_151_1_ok : bk_Planner_latestStart_151_1.all (am_ok 1 false m_Planner_latestStart.2.1) = true := by decide +kernel
def bk_Planner_latestStart_42_2 : List am_E := [(42, .aload_n 1, 1, 0, 0), (43, .iload 6, 2, 0, 0)]
theorem bk_Planner_latestStart_42_2_ok : bk_Planner_latestStart_42_2.all (am_ok 1 false m_Planner_latestStart.2.1) = true := by decide +kernel
def bk_Planner_latestStart_48_2 : List am_E := [(48, .astore 7, 2, 0, 0), (50, .aload 7, 2, 0, 0)]
theorem bk_Planner_latestStart_48_2_ok : bk_Planner_latestStart_48_2.all (am_ok 1 false m_Planner_latestStart.2.1) = true := by decide +kernel
def bk_Planner_latestStart_55_1 : List am_E := [(55, .ldc 106, 2, 0, -2147483648)]
theorem bk_Planner_latestStart_55_1_ok : bk_Planner_latestStart_55_1.all (am_ok 1 false m_Planner_latestStart.2.1) = true := by decide +kernel
def bk_Planner_latestStart_58_4 : List am_E := [(58, .aload_n 0, 1, 0, 0), (59, .getfield 12, 3, 401, 0), (62, .aload 7, 2, 0, 0), (64, .aload_n 2, 1, 0, 0)]
theorem bk_Planner_latestStart_58_4_ok : bk_Planner_latestStart_58_4.all (am_ok 1 false m_Planner_latestStart.2.1) = true := by decide +kernel
def bk_Planner_latestStart_68_8 : List am_E := [(68, .aload_n 0, 1, 0, 0), (69, .getfield 38, 3, 421, 0), (72, .iload 6, 2, 0, 0), (74, .aaload, 1, 38, 0), (75, .aload_n 0, 1, 0, 0), (76, .getfield 33, 3, 417, 0), (79, .aload_n 0, 1, 0, 0), (80, .getfield 12, 3, 401, 0)]
theorem bk_Planner_latestStart_68_8_ok : bk_Planner_latestStart_68_8.all (am_ok 1 false m_Planner_latestStart.2.1) = true := by decide +kernel
def bk_Planner_latestStart_89_5 : List am_E := [(89, .aload_n 0, 1, 0, 0), (90, .getfield 38, 3, 421, 0), (93, .iload 6, 2, 0, 0), (95, .aaload, 1, 38, 0), (96, .ldc 107, 2, 0, 1000000)]
theorem bk_Planner_latestStart_89_5_ok : bk_Planner_latestStart_89_5.all (am_ok 1 false m_Planner_latestStart.2.1) = true := by decide +kernel
def bk_Planner_latestStart_101_3 : List am_E := [(101, .istore 5, 2, 0, 0), (103, .iload 5, 2, 0, 0), (105, .ldc 106, 2, 0, -2147483648)]
theorem bk_Planner_latestStart_101_3_ok : bk_Planner_latestStart_101_3.all (am_ok 1 false m_Planner_latestStart.2.1) = true := by decide +kernel
def bk_Planner_latestStart_113_5 : List am_E := [(113, .aload_n 0, 1, 0, 0), (114, .aload_n 1, 1, 0, 0), (115, .iload 6, 2, 0, 0), (117, .aload 7, 2, 0, 0), (119, .aload_n 2, 1, 0, 0)]
theorem bk_Planner_latestStart_113_5_ok : bk_Planner_latestStart_113_5.all (am_ok 1 false m_Planner_latestStart.2.1) = true := by decide +kernel
def bk_Planner_latestStart_123_7 : List am_E := [(123, .aload_n 0, 1, 0, 0), (124, .getfield 33, 3, 417, 0), (127, .aload_n 0, 1, 0, 0), (128, .getfield 30, 3, 413, 0), (131, .aload_n 2, 1, 0, 0), (132, .aload_n 1, 1, 0, 0), (133, .iload 6, 2, 0, 0)]
theorem bk_Planner_latestStart_123_7_ok : bk_Planner_latestStart_123_7.all (am_ok 1 false m_Planner_latestStart.2.1) = true := by decide +kernel
def bk_Planner_latestStart_141_1 : List am_E := [(141, .ineg, 1, 0, 0)]
theorem bk_Planner_latestStart_141_1_ok : bk_Planner_latestStart_141_1.all (am_ok 1 false m_Planner_latestStart.2.1) = true := by decide +kernel
def bk_Planner_latestStart_145_2 : List am_E := [(145, .iinc 6 (-1), 3, 0, -1), (148, .goto (-111), 3, 0, -111)]
theorem bk_Planner_latestStart_145_2_ok : bk_Planner_latestStart_145_2.all (am_ok 1 false m_Planner_latestStart.2.1) = true := by decide +kernel
def bk_Planner_latestStart_110_1 : List am_E := [(110, .ldc 106, 2, 0, -2147483648)]
theorem bk_Planner_latestStart_110_1_ok : bk_Planner_latestStart_110_1.all (am_ok 1 false m_Planner_latestStart.2.1) = true := by decide +kernel
theorem dc_Planner_latestStart_4 : decode m_Planner_latestStart.2.1 4 = .ok (.invokevirtual 62, 3) := by decide +kernel
theorem dc_Planner_latestStart_13 : decode m_Planner_latestStart.2.1 13 = .ok (.invokevirtual 65, 3) := by decide +kernel
theorem dc_Planner_latestStart_17 : decode m_Planner_latestStart.2.1 17 = .ok (.invokevirtual 46, 3) := by decide +kernel
theorem dc_Planner_latestStart_22 : decode m_Planner_latestStart.2.1 22 = .ok (.invokestatic 69, 3) := by decide +kernel
theorem dc_Planner_latestStart_153 : decode m_Planner_latestStart.2.1 153 = .ok (.ireturn, 1) := by decide +kernel
theorem dc_Planner_latestStart_45 : decode m_Planner_latestStart.2.1 45 = .ok (.invokevirtual 75, 3) := by decide +kernel
theorem dc_Planner_latestStart_52 : decode m_Planner_latestStart.2.1 52 = .ok (.ifnonnull 6, 3) := by decide +kernel
theorem dc_Planner_latestStart_57 : decode m_Planner_latestStart.2.1 57 = .ok (.ireturn, 1) := by decide +kernel
theorem dc_Planner_latestStart_65 : decode m_Planner_latestStart.2.1 65 = .ok (.invokevirtual 83, 3) := by decide +kernel
theorem dc_Planner_latestStart_83 : decode m_Planner_latestStart.2.1 83 = .ok (.invokevirtual 87, 3) := by decide +kernel
theorem dc_Planner_latestStart_86 : decode m_Planner_latestStart.2.1 86 = .ok (.invokevirtual 91, 3) := by decide +kernel
theorem dc_Planner_latestStart_98 : decode m_Planner_latestStart.2.1 98 = .ok (.invokevirtual 108, 3) := by decide +kernel
theorem dc_Planner_latestStart_120 : decode m_Planner_latestStart.2.1 120 = .ok (.invokevirtual 111, 3) := by decide +kernel
theorem dc_Planner_latestStart_135 : decode m_Planner_latestStart.2.1 135 = .ok (.invokevirtual 54, 3) := by decide +kernel
theorem dc_Planner_latestStart_138 : decode m_Planner_latestStart.2.1 138 = .ok (.invokevirtual 57, 3) := by decide +kernel
theorem dc_Planner_latestStart_142 : decode m_Planner_latestStart.2.1 142 = .ok (.invokevirtual 98, 3) := by decide +kernel
theorem dc_Planner_latestStart_112 : decode m_Planner_latestStart.2.1 112 = .ok (.ireturn, 1) := by decide +kernel
theorem dc_Planner_latestStart_107 : decode m_Planner_latestStart.2.1 107 = .ok (.if_icmp .ne 6, 3) := by decide +kernel
theorem dc_Planner_latestStart_39 : decode m_Planner_latestStart.2.1 39 = .ok (.ifCond .lt 112, 3) := by decide +kernel
set_option maxRecDepth 20000 in
theorem sg_Planner_latestStart_0 {kc ks : Nat} (a0 a1 a2 : Nat) (x3 : Int32) (h : am_H) (Q : Option Value → am_H → Prop) (t : (am_tg h a0 = (1, 7) ∧ (∃ b1, am_P h a0 4 = some b1 ∧ (am_tg h b1 = (8, 4) ∧ (am_Ew m_Spans_clear 0 0 [.ref b1] h (fun h5 => (am_tg h5 a0 = (1, 7) ∧ (∃ b6, am_P h5 a0 4 = some b6 ∧ (am_tg h5 b6 = (8, 4) ∧ (am_Ew m_Spans_add 0 0 [.ref b6, .int 0, .int x3] h5 (fun h10 => (am_tg h10 a1 = (4, 7) ∧ (am_Ei m_Route_stopCount 0 0 [.ref a1] h10 (fun r13 h12 => (am_Ei m_Math_min 0 0 [.int r13, .int 8] h12 (fun r15 h14 => am_EI m_Planner_latestStart kc ks 37 [.ref a0, .ref a1, .ref a2, .int x3, .int r15, .int (-2147483648), .int (r15 - 1), .float 0] [] h14 Q)))))))))))))))) : am_EI m_Planner_latestStart kc ks 0 [.ref a0, .ref a1, .ref a2, .int x3, .float 0, .float 0, .float 0, .float 0] [] h Q := by
  refine am_blk_ok (c := 1) (ini := false) (by decide) rfl (fun q => by cases q) bk_Planner_latestStart_0_2 _ 4 _ _ _ bk_Planner_latestStart_0_2_ok rfl ?_
  show (am_tg h a0 = (1, 7) ∧ (∃ b1, am_P h a0 4 = some b1 ∧ am_EI m_Planner_latestStart kc ks 4 [.ref a0, .ref a1, .ref a2, .int x3, .float 0, .float 0, .float 0, .float 0] [.ref b1] h Q))
  obtain ⟨o2, b1, q3, t⟩ := t
  refine ⟨o2, b1, q3, ?_⟩
  obtain ⟨o4, t⟩ := t
  refine am_callV (M2 := m_Spans_clear) (ci := 8) (a := b1) (kc := kc) (ks := ks) (k2c := 0) (k2s := 0) (as := []) [] dc_Planner_latestStart_4 lk_1_62 im_Spans_clear se_Spans_clear lm_Spans_clear np_Spans_clear ⟨Nat.le_of_ble_eq_true rfl, Nat.le_of_ble_eq_true rfl⟩ (fun _ => Nat.le_of_ble_eq_true rfl) (by decide) rfl o4 (am_Ew.end (am_Ew.mono t (fun h5 t => ?_)))
  refine am_blk_ok (c := 1) (ini := false) (by decide) rfl (fun q => by cases q) bk_Planner_latestStart_7_4 _ 13 _ _ _ bk_Planner_latestStart_7_4_ok rfl ?_
  show (am_tg h5 a0 = (1, 7) ∧ (∃ b6, am_P h5 a0 4 = some b6 ∧ am_EI m_Planner_latestStart kc ks 13 [.ref a0, .ref a1, .ref a2, .int x3, .float 0, .float 0, .float 0, .float 0] [.int x3, .int 0, .ref b6] h5 Q))
  obtain ⟨o7, b6, q8, t⟩ := t
  refine ⟨o7, b6, q8, ?_⟩
  obtain ⟨o9, t⟩ := t
  refine am_callV (M2 := m_Spans_add) (ci := 8) (a := b6) (kc := kc) (ks := ks) (k2c := 0) (k2s := 0) (as := []) [.int 0, .int x3] dc_Planner_latestStart_13 lk_1_65 im_Spans_add se_Spans_add lm_Spans_add np_Spans_add ⟨Nat.le_of_ble_eq_true rfl, Nat.le_of_ble_eq_true rfl⟩ (fun _ => Nat.le_of_ble_eq_true rfl) (by decide) rfl o9 (am_Ew.end (am_Ew.mono t (fun h10 t => ?_)))
  refine am_blk_ok (c := 1) (ini := false) (by decide) rfl (fun q => by cases q) bk_Planner_latestStart_16_1 _ 17 _ _ _ bk_Planner_latestStart_16_1_ok rfl ?_
  show am_EI m_Planner_latestStart kc ks 17 [.ref a0, .ref a1, .ref a2, .int x3, .float 0, .float 0, .float 0, .float 0] [.ref a1] h10 Q
  obtain ⟨o11, t⟩ := t
  refine am_callV (M2 := m_Route_stopCount) (ci := 4) (a := a1) (kc := kc) (ks := ks) (k2c := 0) (k2s := 0) (as := []) [] dc_Planner_latestStart_17 lk_1_46 im_Route_stopCount se_Route_stopCount lm_Route_stopCount np_Route_stopCount ⟨Nat.le_of_ble_eq_true rfl, Nat.le_of_ble_eq_true rfl⟩ (fun _ => Nat.le_of_ble_eq_true rfl) (by decide) rfl o11 (am_Ei.end (am_Ei.mono t (fun r13 h12 t => ?_)))
  refine am_blk_ok (c := 1) (ini := false) (by decide) rfl (fun q => by cases q) bk_Planner_latestStart_20_1 _ 22 _ _ _ bk_Planner_latestStart_20_1_ok rfl ?_
  show am_EI m_Planner_latestStart kc ks 22 [.ref a0, .ref a1, .ref a2, .int x3, .float 0, .float 0, .float 0, .float 0] [.int 8, .int r13] h12 Q
  refine am_callS (M2 := m_Math_min) (kc := kc) (ks := ks) (k2c := 0) (k2s := 0) (as := []) [.int r13, .int 8] dc_Planner_latestStart_22 lk_1_69 st_Math_min lm_Math_min np_Math_min ⟨Nat.le_of_ble_eq_true rfl, Nat.le_of_ble_eq_true rfl⟩ (fun _ => Nat.le_of_ble_eq_true rfl) (am_Ei.end (am_Ei.mono t (fun r15 h14 t => ?_)))
  refine am_blk_ok (c := 1) (ini := false) (by decide) rfl (fun q => by cases q) bk_Planner_latestStart_25_7 _ 37 _ _ _ bk_Planner_latestStart_25_7_ok rfl ?_
  show am_EI m_Planner_latestStart kc ks 37 [.ref a0, .ref a1, .ref a2, .int x3, .int r15, .int (-2147483648), .int (r15 - 1), .float 0] [] h14 Q
  exact t
set_option maxRecDepth 20000 in
theorem ev_Planner_latestStart (a0 a1 a2 : Nat) (x3 : Int32) (h : am_H) (Q : Int32 → am_H → Prop) (t : (am_tg h a0 = (1, 7) ∧ (∃ b1, am_P h a0 4 = some b1 ∧ (am_tg h b1 = (8, 4) ∧ (am_Ew m_Spans_clear 0 0 [.ref b1] h (fun h5 => (am_tg h5 a0 = (1, 7) ∧ (∃ b6, am_P h5 a0 4 = some b6 ∧ (am_tg h5 b6 = (8, 4) ∧ (am_Ew m_Spans_add 0 0 [.ref b6, .int 0, .int x3] h5 (fun h10 => (am_tg h10 a1 = (4, 7) ∧ (am_Ei m_Route_stopCount 0 0 [.ref a1] h10 (fun r13 h12 => (am_Ei m_Math_min 0 0 [.int r13, .int 8] h12 (fun r15 h14 => am_EI m_Planner_latestStart 0 0 37 [.ref a0, .ref a1, .ref a2, .int x3, .int r15, .int (-2147483648), .int (r15 - 1), .float 0] [] h14 (am_qi Q))))))))))))))))) : am_Ei m_Planner_latestStart 0 0 [.ref a0, .ref a1, .ref a2, .int x3] h Q :=
  am_Ev.of (by decide +kernel) (Nat.le_of_ble_eq_true rfl) (by simp only [List.mem_cons, List.not_mem_nil, or_false]; intro v hv; rcases hv with rfl | rfl | rfl | rfl; all_goals first | exact trivial) (sg_Planner_latestStart_0 (kc := 0) (ks := 0) a0 a1 a2 x3 h (am_qi Q) t)
set_option maxRecDepth 20000 in
theorem sg_Planner_latestStart_37 {kc ks : Nat} (a0 a1 a2 : Nat) (x3 x4 x5 x6 : Int32) (h : am_H) (Q : Option Value → am_H → Prop) (t : ((x6 < 0 → Q (some (.int x5)) h) ∧ (¬ x6 < 0 → (am_tg h a1 = (4, 7) ∧ (am_Er m_Route_sillOf 0 0 [.ref a1, .int x6] h (fun r4 h3 => (r4 = none → Q (some (.int (-2147483648))) h3) ∧ ∀ b5, r4 = some b5 → (am_tg h3 a0 = (1, 7) ∧ (∃ b7, am_P h3 a0 0 = some b7 ∧ (am_tg h3 b7 = (10, 4) ∧ (am_Ew m_Windows_find 0 0 [.ref b7, .ref b5, .ref a2] h3 (fun h11 => (am_tg h11 a0 = (1, 7) ∧ (∃ b12, am_P h11 a0 5 = some b12 ∧ ((am_tg h11 b12).1 = 38 ∧ (vp_in x6 (am_tg h11 b12).2 ∧ (∃ b13, am_P h11 b12 x6.toNatClampNeg = some b13 ∧ (∃ b14, am_P h11 a0 4 = some b14 ∧ (∃ b15, am_P h11 a0 0 = some b15 ∧ (am_tg h11 b15 = (10, 4) ∧ (am_Er m_Windows_found 0 0 [.ref b15] h11 (fun r25 h24 => (r25 = none → (am_tg h24 b13 = (8, 4) ∧ (am_Ew m_Spans_intersect 0 0 [.ref b13, .ref b14, .null] h24 (fun h29 => (am_tg h29 a0 = (1, 7) ∧ (∃ b30, am_P h29 a0 5 = some b30 ∧ ((am_tg h29 b30).1 = 38 ∧ (vp_in x6 (am_tg h29 b30).2 ∧ (∃ b31, am_P h29 b30 x6.toNatClampNeg = some b31 ∧ (am_tg h29 b31 = (8, 4) ∧ (am_Ei m_Spans_latestUpTo 0 0 [.ref b31, .int 1000000] h29 (fun r39 h38 => ((¬ r39 = (-2147483648) → (am_tg h38 a0 = (1, 7) ∧ (am_Ew m_Planner_allowEarlier 0 0 [.ref a0, .ref a1, .int x6, .ref b5, .ref a2] h38 (fun h42 => (am_tg h42 a0 = (1, 7) ∧ (∃ b43, am_P h42 a0 4 = some b43 ∧ (∃ b44, am_P h42 a0 3 = some b44 ∧ (am_tg h42 a1 = (4, 7) ∧ (am_Ei m_Route_milesTo 0 0 [.ref a1, .int x6] h42 (fun r50 h49 => (am_tg h49 a2 = (6, 3) ∧ (am_Ei m_Ship_minutesFor 0 0 [.ref a2, .int r50] h49 (fun r53 h52 => (am_tg h52 b43 = (8, 4) ∧ (am_Ew m_Spans_copyShifted 0 0 [.ref b43, .ref b44, .int (-r53)] h52 (fun h55 => am_EI m_Planner_latestStart kc ks 37 [.ref a0, .ref a1, .ref a2, .int x3, .int x4, .int r39, .int (x6 + (-1)), .float 0] [] h55 Q)))))))))))))))) ∧ (r39 = (-2147483648) → Q (some (.int (-2147483648))) h38)))))))))))))) ∧ ∀ b26, r25 = some b26 → (am_tg h24 b13 = (8, 4) ∧ (am_Ew m_Spans_intersect 0 0 [.ref b13, .ref b14, .ref b26] h24 (fun h57 => (am_tg h57 a0 = (1, 7) ∧ (∃ b58, am_P h57 a0 5 = some b58 ∧ ((am_tg h57 b58).1 = 38 ∧ (vp_in x6 (am_tg h57 b58).2 ∧ (∃ b59, am_P h57 b58 x6.toNatClampNeg = some b59 ∧ (am_tg h57 b59 = (8, 4) ∧ (am_Ei m_Spans_latestUpTo 0 0 [.ref b59, .int 1000000] h57 (fun r67 h66 => ((¬ r67 = (-2147483648) → (am_tg h66 a0 = (1, 7) ∧ (am_Ew m_Planner_allowEarlier 0 0 [.ref a0, .ref a1, .int x6, .ref b5, .ref a2] h66 (fun h70 => (am_tg h70 a0 = (1, 7) ∧ (∃ b71, am_P h70 a0 4 = some b71 ∧ (∃ b72, am_P h70 a0 3 = some b72 ∧ (am_tg h70 a1 = (4, 7) ∧ (am_Ei m_Route_milesTo 0 0 [.ref a1, .int x6] h70 (fun r78 h77 => (am_tg h77 a2 = (6, 3) ∧ (am_Ei m_Ship_minutesFor 0 0 [.ref a2, .int r78] h77 (fun r81 h80 => (am_tg h80 b71 = (8, 4) ∧ (am_Ew m_Spans_copyShifted 0 0 [.ref b71, .ref b72, .int (-r81)] h80 (fun h83 => am_EI m_Planner_latestStart kc ks 37 [.ref a0, .ref a1, .ref a2, .int x3, .int x4, .int r67, .int (x6 + (-1)), .float 0] [] h83 Q)))))))))))))))) ∧ (r67 = (-2147483648) → Q (some (.int (-2147483648))) h66)))))))))))))))))))))))))))))))))) : am_EI m_Planner_latestStart kc ks 37 [.ref a0, .ref a1, .ref a2, .int x3, .int x4, .int x5, .int x6, .float 0] [] h Q := by
  refine am_blk_ok (c := 1) (ini := false) (by decide) rfl (fun q => by cases q) bk_Planner_latestStart_37_1 _ 39 _ _ _ bk_Planner_latestStart_37_1_ok rfl ?_
  show am_EI m_Planner_latestStart kc ks 39 [.ref a0, .ref a1, .ref a2, .int x3, .int x4, .int x5, .int x6, .float 0] [.int x6] h Q
  refine am_if_lt (tgt := 151) dc_Planner_latestStart_39 (by decide) (fun c1 => ?_) (fun c1 => ?_)
  · replace t := t.1 c1
    refine am_blk_ok (c := 1) (ini := false) (by decide) rfl (fun q => by cases q) bk_Planner_latestStart_151_1 _ 153 _ _ _ bk_Planner_latestStart_151_1_ok rfl ?_
    show am_EI m_Planner_latestStart kc ks 153 [.ref a0, .ref a1, .ref a2, .int x3, .int x4, .int x5, .int x6, .float 0] [.int x5] h Q
    exact am_iret dc_Planner_latestStart_153 rfl t
  · replace t := t.2 c1
    refine am_blk_ok (c := 1) (ini := false) (by decide) rfl (fun q => by cases q) bk_Planner_latestStart_42_2 _ 45 _ _ _ bk_Planner_latestStart_42_2_ok rfl ?_
    show am_EI m_Planner_latestStart kc ks 45 [.ref a0, .ref a1, .ref a2, .int x3, .int x4, .int x5, .int x6, .float 0] [.int x6, .ref a1] h Q
    obtain ⟨o2, t⟩ := t
    refine am_callV (M2 := m_Route_sillOf) (ci := 4) (a := a1) (kc := kc) (ks := ks) (k2c := 0) (k2s := 0) (as := []) [.int x6] dc_Planner_latestStart_45 lk_1_75 im_Route_sillOf se_Route_sillOf lm_Route_sillOf np_Route_sillOf ⟨Nat.le_of_ble_eq_true rfl, Nat.le_of_ble_eq_true rfl⟩ (fun _ => Nat.le_of_ble_eq_true rfl) (by decide) rfl o2 (am_Er.end (am_Er.mono t (fun r4 h3 t => ⟨fun c6 => ?_, fun b5 c6 => ?_⟩)))
    · replace t := t.1 c6
      refine am_blk_ok (c := 1) (ini := false) (by decide) rfl (fun q => by cases q) bk_Planner_latestStart_48_2 _ 52 _ _ _ bk_Planner_latestStart_48_2_ok rfl ?_
      show am_EI m_Planner_latestStart kc ks 52 [.ref a0, .ref a1, .ref a2, .int x3, .int x4, .int x5, .int x6, .null] [.null] h3 Q
      refine am_ifnonnullN dc_Planner_latestStart_52 ?_
      refine am_blk_ok (c := 1) (ini := false) (by decide) rfl (fun q => by cases q) bk_Planner_latestStart_55_1 _ 57 _ _ _ bk_Planner_latestStart_55_1_ok rfl ?_
      show am_EI m_Planner_latestStart kc ks 57 [.ref a0, .ref a1, .ref a2, .int x3, .int x4, .int x5, .int x6, .null] [.int (-2147483648)] h3 Q
      exact am_iret dc_Planner_latestStart_57 rfl t
    · replace t := t.2 b5 c6
      refine am_blk_ok (c := 1) (ini := false) (by decide) rfl (fun q => by cases q) bk_Planner_latestStart_48_2 _ 52 _ _ _ bk_Planner_latestStart_48_2_ok rfl ?_
      show am_EI m_Planner_latestStart kc ks 52 [.ref a0, .ref a1, .ref a2, .int x3, .int x4, .int x5, .int x6, .ref b5] [.ref b5] h3 Q
      refine am_ifnonnull (tgt := 58) dc_Planner_latestStart_52 (by decide) ?_
      refine am_blk_ok (c := 1) (ini := false) (by decide) rfl (fun q => by cases q) bk_Planner_latestStart_58_4 _ 65 _ _ _ bk_Planner_latestStart_58_4_ok rfl ?_
      show (am_tg h3 a0 = (1, 7) ∧ (∃ b7, am_P h3 a0 0 = some b7 ∧ am_EI m_Planner_latestStart kc ks 65 [.ref a0, .ref a1, .ref a2, .int x3, .int x4, .int x5, .int x6, .ref b5] [.ref a2, .ref b5, .ref b7] h3 Q))
      obtain ⟨o8, b7, q9, t⟩ := t
      refine ⟨o8, b7, q9, ?_⟩
      obtain ⟨o10, t⟩ := t
      refine am_callV (M2 := m_Windows_find) (ci := 10) (a := b7) (kc := kc) (ks := ks) (k2c := 0) (k2s := 0) (as := []) [.ref b5, .ref a2] dc_Planner_latestStart_65 lk_1_83 im_Windows_find se_Windows_find lm_Windows_find np_Windows_find ⟨Nat.le_of_ble_eq_true rfl, Nat.le_of_ble_eq_true rfl⟩ (fun _ => Nat.le_of_ble_eq_true rfl) (by decide) rfl o10 (am_Ew.end (am_Ew.mono t (fun h11 t => ?_)))
      refine am_blk_ok (c := 1) (ini := false) (by decide) rfl (fun q => by cases q) bk_Planner_latestStart_68_8 _ 83 _ _ _ bk_Planner_latestStart_68_8_ok rfl ?_
      show (am_tg h11 a0 = (1, 7) ∧ (∃ b12, am_P h11 a0 5 = some b12 ∧ ((am_tg h11 b12).1 = 38 ∧ ((38 ∈ am_ks ∧ 30 ≤ 38) ∧ (vp_in x6 (am_tg h11 b12).2 ∧ (∃ b13, am_P h11 b12 x6.toNatClampNeg = some b13 ∧ (am_tg h11 a0 = (1, 7) ∧ (∃ b14, am_P h11 a0 4 = some b14 ∧ (am_tg h11 a0 = (1, 7) ∧ (∃ b15, am_P h11 a0 0 = some b15 ∧ am_EI m_Planner_latestStart kc ks 83 [.ref a0, .ref a1, .ref a2, .int x3, .int x4, .int x5, .int x6, .ref b5] [.ref b15, .ref b14, .ref b13] h11 Q))))))))))
      obtain ⟨o16, b12, q17, o18, o19, b13, q20, b14, q21, b15, q22, t⟩ := t
      refine ⟨o16, b12, q17, o18, ⟨by decide, by decide⟩, o19, b13, q20, o16, b14, q21, o16, b15, q22, ?_⟩
      obtain ⟨o23, t⟩ := t
      refine am_callV (M2 := m_Windows_found) (ci := 10) (a := b15) (kc := kc) (ks := ks) (k2c := 0) (k2s := 0) (as := [.ref b14, .ref b13]) [] dc_Planner_latestStart_83 lk_1_87 im_Windows_found se_Windows_found lm_Windows_found np_Windows_found ⟨Nat.le_of_ble_eq_true rfl, Nat.le_of_ble_eq_true rfl⟩ (fun _ => Nat.le_of_ble_eq_true rfl) (by decide) rfl o23 (am_Er.end (am_Er.mono t (fun r25 h24 t => ⟨fun c27 => ?_, fun b26 c27 => ?_⟩)))
      · replace t := t.1 c27
        obtain ⟨o28, t⟩ := t
        refine am_callV (M2 := m_Spans_intersect) (ci := 8) (a := b13) (kc := kc) (ks := ks) (k2c := 0) (k2s := 0) (as := []) [.ref b14, .null] dc_Planner_latestStart_86 lk_1_91 im_Spans_intersect se_Spans_intersect lm_Spans_intersect np_Spans_intersect ⟨Nat.le_of_ble_eq_true rfl, Nat.le_of_ble_eq_true rfl⟩ (fun _ => Nat.le_of_ble_eq_true rfl) (by decide) rfl o28 (am_Ew.end (am_Ew.mono t (fun h29 t => ?_)))
        refine am_blk_ok (c := 1) (ini := false) (by decide) rfl (fun q => by cases q) bk_Planner_latestStart_89_5 _ 98 _ _ _ bk_Planner_latestStart_89_5_ok rfl ?_
        show (am_tg h29 a0 = (1, 7) ∧ (∃ b30, am_P h29 a0 5 = some b30 ∧ ((am_tg h29 b30).1 = 38 ∧ ((38 ∈ am_ks ∧ 30 ≤ 38) ∧ (vp_in x6 (am_tg h29 b30).2 ∧ (∃ b31, am_P h29 b30 x6.toNatClampNeg = some b31 ∧ am_EI m_Planner_latestStart kc ks 98 [.ref a0, .ref a1, .ref a2, .int x3, .int x4, .int x5, .int x6, .ref b5] [.int 1000000, .ref b31] h29 Q))))))
        obtain ⟨o32, b30, q33, o34, o35, b31, q36, t⟩ := t
        refine ⟨o32, b30, q33, o34, ⟨by decide, by decide⟩, o35, b31, q36, ?_⟩
        obtain ⟨o37, t⟩ := t
        refine am_callV (M2 := m_Spans_latestUpTo) (ci := 8) (a := b31) (kc := kc) (ks := ks) (k2c := 0) (k2s := 0) (as := []) [.int 1000000] dc_Planner_latestStart_98 lk_1_108 im_Spans_latestUpTo se_Spans_latestUpTo lm_Spans_latestUpTo np_Spans_latestUpTo ⟨Nat.le_of_ble_eq_true rfl, Nat.le_of_ble_eq_true rfl⟩ (fun _ => Nat.le_of_ble_eq_true rfl) (by decide) rfl o37 (am_Ei.end (am_Ei.mono t (fun r39 h38 t => ?_)))
        refine am_blk_ok (c := 1) (ini := false) (by decide) rfl (fun q => by cases q) bk_Planner_latestStart_101_3 _ 107 _ _ _ bk_Planner_latestStart_101_3_ok rfl ?_
        show am_EI m_Planner_latestStart kc ks 107 [.ref a0, .ref a1, .ref a2, .int x3, .int x4, .int r39, .int x6, .ref b5] [.int (-2147483648), .int r39] h38 Q
        refine am_ic_ne (tgt := 113) dc_Planner_latestStart_107 (by decide) (fun c40 => ?_) (fun c40 => ?_)
        · replace t := t.1 c40
          refine am_blk_ok (c := 1) (ini := false) (by decide) rfl (fun q => by cases q) bk_Planner_latestStart_113_5 _ 120 _ _ _ bk_Planner_latestStart_113_5_ok rfl ?_
          show am_EI m_Planner_latestStart kc ks 120 [.ref a0, .ref a1, .ref a2, .int x3, .int x4, .int r39, .int x6, .ref b5] [.ref a2, .ref b5, .int x6, .ref a1, .ref a0] h38 Q
          obtain ⟨o41, t⟩ := t
          refine am_callV (M2 := m_Planner_allowEarlier) (ci := 1) (a := a0) (kc := kc) (ks := ks) (k2c := 0) (k2s := 0) (as := []) [.ref a1, .int x6, .ref b5, .ref a2] dc_Planner_latestStart_120 lk_1_111 im_Planner_allowEarlier se_Planner_allowEarlier lm_Planner_allowEarlier np_Planner_allowEarlier ⟨Nat.le_of_ble_eq_true rfl, Nat.le_of_ble_eq_true rfl⟩ (fun _ => Nat.le_of_ble_eq_true rfl) (by decide) rfl o41 (am_Ew.end (am_Ew.mono t (fun h42 t => ?_)))
          refine am_blk_ok (c := 1) (ini := false) (by decide) rfl (fun q => by cases q) bk_Planner_latestStart_123_7 _ 135 _ _ _ bk_Planner_latestStart_123_7_ok rfl ?_
          show (am_tg h42 a0 = (1, 7) ∧ (∃ b43, am_P h42 a0 4 = some b43 ∧ (am_tg h42 a0 = (1, 7) ∧ (∃ b44, am_P h42 a0 3 = some b44 ∧ am_EI m_Planner_latestStart kc ks 135 [.ref a0, .ref a1, .ref a2, .int x3, .int x4, .int r39, .int x6, .ref b5] [.int x6, .ref a1, .ref a2, .ref b44, .ref b43] h42 Q))))
          obtain ⟨o45, b43, q46, b44, q47, t⟩ := t
          refine ⟨o45, b43, q46, o45, b44, q47, ?_⟩
          obtain ⟨o48, t⟩ := t
          refine am_callV (M2 := m_Route_milesTo) (ci := 4) (a := a1) (kc := kc) (ks := ks) (k2c := 0) (k2s := 0) (as := [.ref a2, .ref b44, .ref b43]) [.int x6] dc_Planner_latestStart_135 lk_1_54 im_Route_milesTo se_Route_milesTo lm_Route_milesTo np_Route_milesTo ⟨Nat.le_of_ble_eq_true rfl, Nat.le_of_ble_eq_true rfl⟩ (fun _ => Nat.le_of_ble_eq_true rfl) (by decide) rfl o48 (am_Ei.end (am_Ei.mono t (fun r50 h49 t => ?_)))
          obtain ⟨o51, t⟩ := t
          refine am_callV (M2 := m_Ship_minutesFor) (ci := 6) (a := a2) (kc := kc) (ks := ks) (k2c := 0) (k2s := 0) (as := [.ref b44, .ref b43]) [.int r50] dc_Planner_latestStart_138 lk_1_57 im_Ship_minutesFor se_Ship_minutesFor lm_Ship_minutesFor np_Ship_minutesFor ⟨Nat.le_of_ble_eq_true rfl, Nat.le_of_ble_eq_true rfl⟩ (fun _ => Nat.le_of_ble_eq_true rfl) (by decide) rfl o51 (am_Ei.end (am_Ei.mono t (fun r53 h52 t => ?_)))
          refine am_blk_ok (c := 1) (ini := false) (by decide) rfl (fun q => by cases q) bk_Planner_latestStart_141_1 _ 142 _ _ _ bk_Planner_latestStart_141_1_ok rfl ?_
          show am_EI m_Planner_latestStart kc ks 142 [.ref a0, .ref a1, .ref a2, .int x3, .int x4, .int r39, .int x6, .ref b5] [.int (-r53), .ref b44, .ref b43] h52 Q
          obtain ⟨o54, t⟩ := t
          refine am_callV (M2 := m_Spans_copyShifted) (ci := 8) (a := b43) (kc := kc) (ks := ks) (k2c := 0) (k2s := 0) (as := []) [.ref b44, .int (-r53)] dc_Planner_latestStart_142 lk_1_98 im_Spans_copyShifted se_Spans_copyShifted lm_Spans_copyShifted np_Spans_copyShifted ⟨Nat.le_of_ble_eq_true rfl, Nat.le_of_ble_eq_true rfl⟩ (fun _ => Nat.le_of_ble_eq_true rfl) (by decide) rfl o54 (am_Ew.end (am_Ew.mono t (fun h55 t => ?_)))
          refine am_blk_ok (c := 1) (ini := false) (by decide) rfl (fun q => by cases q) bk_Planner_latestStart_145_2 _ 37 _ _ _ bk_Planner_latestStart_145_2_ok rfl ?_
          show am_EI m_Planner_latestStart kc ks 37 [.ref a0, .ref a1, .ref a2, .int x3, .int x4, .int r39, .int (x6 + (-1)), .ref b5] [] h55 Q
          refine am_EI.fg 7 ?_
          show am_EI m_Planner_latestStart kc ks 37 [.ref a0, .ref a1, .ref a2, .int x3, .int x4, .int r39, .int (x6 + (-1)), .float 0] [] h55 Q
          exact t
        · replace t := t.2 c40
          refine am_blk_ok (c := 1) (ini := false) (by decide) rfl (fun q => by cases q) bk_Planner_latestStart_110_1 _ 112 _ _ _ bk_Planner_latestStart_110_1_ok rfl ?_
          show am_EI m_Planner_latestStart kc ks 112 [.ref a0, .ref a1, .ref a2, .int x3, .int x4, .int r39, .int x6, .ref b5] [.int (-2147483648)] h38 Q
          exact am_iret dc_Planner_latestStart_112 rfl t
      · replace t := t.2 b26 c27
        obtain ⟨o56, t⟩ := t
        refine am_callV (M2 := m_Spans_intersect) (ci := 8) (a := b13) (kc := kc) (ks := ks) (k2c := 0) (k2s := 0) (as := []) [.ref b14, .ref b26] dc_Planner_latestStart_86 lk_1_91 im_Spans_intersect se_Spans_intersect lm_Spans_intersect np_Spans_intersect ⟨Nat.le_of_ble_eq_true rfl, Nat.le_of_ble_eq_true rfl⟩ (fun _ => Nat.le_of_ble_eq_true rfl) (by decide) rfl o56 (am_Ew.end (am_Ew.mono t (fun h57 t => ?_)))
        refine am_blk_ok (c := 1) (ini := false) (by decide) rfl (fun q => by cases q) bk_Planner_latestStart_89_5 _ 98 _ _ _ bk_Planner_latestStart_89_5_ok rfl ?_
        show (am_tg h57 a0 = (1, 7) ∧ (∃ b58, am_P h57 a0 5 = some b58 ∧ ((am_tg h57 b58).1 = 38 ∧ ((38 ∈ am_ks ∧ 30 ≤ 38) ∧ (vp_in x6 (am_tg h57 b58).2 ∧ (∃ b59, am_P h57 b58 x6.toNatClampNeg = some b59 ∧ am_EI m_Planner_latestStart kc ks 98 [.ref a0, .ref a1, .ref a2, .int x3, .int x4, .int x5, .int x6, .ref b5] [.int 1000000, .ref b59] h57 Q))))))
        obtain ⟨o60, b58, q61, o62, o63, b59, q64, t⟩ := t
        refine ⟨o60, b58, q61, o62, ⟨by decide, by decide⟩, o63, b59, q64, ?_⟩
        obtain ⟨o65, t⟩ := t
        refine am_callV (M2 := m_Spans_latestUpTo) (ci := 8) (a := b59) (kc := kc) (ks := ks) (k2c := 0) (k2s := 0) (as := []) [.int 1000000] dc_Planner_latestStart_98 lk_1_108 im_Spans_latestUpTo se_Spans_latestUpTo lm_Spans_latestUpTo np_Spans_latestUpTo ⟨Nat.le_of_ble_eq_true rfl, Nat.le_of_ble_eq_true rfl⟩ (fun _ => Nat.le_of_ble_eq_true rfl) (by decide) rfl o65 (am_Ei.end (am_Ei.mono t (fun r67 h66 t => ?_)))
        refine am_blk_ok (c := 1) (ini := false) (by decide) rfl (fun q => by cases q) bk_Planner_latestStart_101_3 _ 107 _ _ _ bk_Planner_latestStart_101_3_ok rfl ?_
        show am_EI m_Planner_latestStart kc ks 107 [.ref a0, .ref a1, .ref a2, .int x3, .int x4, .int r67, .int x6, .ref b5] [.int (-2147483648), .int r67] h66 Q
        refine am_ic_ne (tgt := 113) dc_Planner_latestStart_107 (by decide) (fun c68 => ?_) (fun c68 => ?_)
        · replace t := t.1 c68
          refine am_blk_ok (c := 1) (ini := false) (by decide) rfl (fun q => by cases q) bk_Planner_latestStart_113_5 _ 120 _ _ _ bk_Planner_latestStart_113_5_ok rfl ?_
          show am_EI m_Planner_latestStart kc ks 120 [.ref a0, .ref a1, .ref a2, .int x3, .int x4, .int r67, .int x6, .ref b5] [.ref a2, .ref b5, .int x6, .ref a1, .ref a0] h66 Q
          obtain ⟨o69, t⟩ := t
          refine am_callV (M2 := m_Planner_allowEarlier) (ci := 1) (a := a0) (kc := kc) (ks := ks) (k2c := 0) (k2s := 0) (as := []) [.ref a1, .int x6, .ref b5, .ref a2] dc_Planner_latestStart_120 lk_1_111 im_Planner_allowEarlier se_Planner_allowEarlier lm_Planner_allowEarlier np_Planner_allowEarlier ⟨Nat.le_of_ble_eq_true rfl, Nat.le_of_ble_eq_true rfl⟩ (fun _ => Nat.le_of_ble_eq_true rfl) (by decide) rfl o69 (am_Ew.end (am_Ew.mono t (fun h70 t => ?_)))
          refine am_blk_ok (c := 1) (ini := false) (by decide) rfl (fun q => by cases q) bk_Planner_latestStart_123_7 _ 135 _ _ _ bk_Planner_latestStart_123_7_ok rfl ?_
          show (am_tg h70 a0 = (1, 7) ∧ (∃ b71, am_P h70 a0 4 = some b71 ∧ (am_tg h70 a0 = (1, 7) ∧ (∃ b72, am_P h70 a0 3 = some b72 ∧ am_EI m_Planner_latestStart kc ks 135 [.ref a0, .ref a1, .ref a2, .int x3, .int x4, .int r67, .int x6, .ref b5] [.int x6, .ref a1, .ref a2, .ref b72, .ref b71] h70 Q))))
          obtain ⟨o73, b71, q74, b72, q75, t⟩ := t
          refine ⟨o73, b71, q74, o73, b72, q75, ?_⟩
          obtain ⟨o76, t⟩ := t
          refine am_callV (M2 := m_Route_milesTo) (ci := 4) (a := a1) (kc := kc) (ks := ks) (k2c := 0) (k2s := 0) (as := [.ref a2, .ref b72, .ref b71]) [.int x6] dc_Planner_latestStart_135 lk_1_54 im_Route_milesTo se_Route_milesTo lm_Route_milesTo np_Route_milesTo ⟨Nat.le_of_ble_eq_true rfl, Nat.le_of_ble_eq_true rfl⟩ (fun _ => Nat.le_of_ble_eq_true rfl) (by decide) rfl o76 (am_Ei.end (am_Ei.mono t (fun r78 h77 t => ?_)))
          obtain ⟨o79, t⟩ := t
          refine am_callV (M2 := m_Ship_minutesFor) (ci := 6) (a := a2) (kc := kc) (ks := ks) (k2c := 0) (k2s := 0) (as := [.ref b72, .ref b71]) [.int r78] dc_Planner_latestStart_138 lk_1_57 im_Ship_minutesFor se_Ship_minutesFor lm_Ship_minutesFor np_Ship_minutesFor ⟨Nat.le_of_ble_eq_true rfl, Nat.le_of_ble_eq_true rfl⟩ (fun _ => Nat.le_of_ble_eq_true rfl) (by decide) rfl o79 (am_Ei.end (am_Ei.mono t (fun r81 h80 t => ?_)))
          refine am_blk_ok (c := 1) (ini := false) (by decide) rfl (fun q => by cases q) bk_Planner_latestStart_141_1 _ 142 _ _ _ bk_Planner_latestStart_141_1_ok rfl ?_
          show am_EI m_Planner_latestStart kc ks 142 [.ref a0, .ref a1, .ref a2, .int x3, .int x4, .int r67, .int x6, .ref b5] [.int (-r81), .ref b72, .ref b71] h80 Q
          obtain ⟨o82, t⟩ := t
          refine am_callV (M2 := m_Spans_copyShifted) (ci := 8) (a := b71) (kc := kc) (ks := ks) (k2c := 0) (k2s := 0) (as := []) [.ref b72, .int (-r81)] dc_Planner_latestStart_142 lk_1_98 im_Spans_copyShifted se_Spans_copyShifted lm_Spans_copyShifted np_Spans_copyShifted ⟨Nat.le_of_ble_eq_true rfl, Nat.le_of_ble_eq_true rfl⟩ (fun _ => Nat.le_of_ble_eq_true rfl) (by decide) rfl o82 (am_Ew.end (am_Ew.mono t (fun h83 t => ?_)))
          refine am_blk_ok (c := 1) (ini := false) (by decide) rfl (fun q => by cases q) bk_Planner_latestStart_145_2 _ 37 _ _ _ bk_Planner_latestStart_145_2_ok rfl ?_
          show am_EI m_Planner_latestStart kc ks 37 [.ref a0, .ref a1, .ref a2, .int x3, .int x4, .int r67, .int (x6 + (-1)), .ref b5] [] h83 Q
          refine am_EI.fg 7 ?_
          show am_EI m_Planner_latestStart kc ks 37 [.ref a0, .ref a1, .ref a2, .int x3, .int x4, .int r67, .int (x6 + (-1)), .float 0] [] h83 Q
          exact t
        · replace t := t.2 c68
          refine am_blk_ok (c := 1) (ini := false) (by decide) rfl (fun q => by cases q) bk_Planner_latestStart_110_1 _ 112 _ _ _ bk_Planner_latestStart_110_1_ok rfl ?_
          show am_EI m_Planner_latestStart kc ks 112 [.ref a0, .ref a1, .ref a2, .int x3, .int x4, .int r67, .int x6, .ref b5] [.int (-2147483648)] h66 Q
          exact am_iret dc_Planner_latestStart_112 rfl t
def bk_Planner_passOf_0_1 : List am_E := [(0, .iload_n 1, 1, 0, 0)]
theorem bk_Planner_passOf_0_1_ok : bk_Planner_passOf_0_1.all (am_ok 1 false m_Planner_passOf.2.1) = true := by decide +kernel
def bk_Planner_passOf_19_1 : List am_E := [(19, .iconst (-1), 1, 0, -1)]
theorem bk_Planner_passOf_19_1_ok : bk_Planner_passOf_19_1.all (am_ok 1 false m_Planner_passOf.2.1) = true := by decide +kernel
def bk_Planner_passOf_4_2 : List am_E := [(4, .iload_n 1, 1, 0, 0), (5, .bipush 8, 2, 0, 8)]
theorem bk_Planner_passOf_4_2_ok : bk_Planner_passOf_4_2.all (am_ok 1 false m_Planner_passOf.2.1) = true := by decide +kernel
def bk_Planner_passOf_10_5 : List am_E := [(10, .aload_n 0, 1, 0, 0), (11, .getfield 42, 3, 425, 0), (14, .iload_n 1, 1, 0, 0), (15, .iaload, 1, 0, 0), (16, .goto 4, 3, 0, 4)]
theorem bk_Planner_passOf_10_5_ok : bk_Planner_passOf_10_5.all (am_ok 1 false m_Planner_passOf.2.1) = true := by decide +kernel
theorem dc_Planner_passOf_20 : decode m_Planner_passOf.2.1 20 = .ok (.ireturn, 1) := by decide +kernel
theorem dc_Planner_passOf_7 : decode m_Planner_passOf.2.1 7 = .ok (.if_icmp .ge 12, 3) := by decide +kernel
theorem dc_Planner_passOf_1 : decode m_Planner_passOf.2.1 1 = .ok (.ifCond .lt 18, 3) := by decide +kernel
set_option maxRecDepth 20000 in
theorem sg_Planner_passOf_0 {kc ks : Nat} (a0 : Nat) (x1 : Int32) (h : am_H) (Q : Option Value → am_H → Prop) (t : ((x1 < 0 → Q (some (.int (-1))) h) ∧ (¬ x1 < 0 → ((8 ≤ x1 → Q (some (.int (-1))) h) ∧ (¬ 8 ≤ x1 → (am_tg h a0 = (1, 7) ∧ (∃ b3, am_P h a0 6 = some b3 ∧ ((am_tg h b3).1 = 20 ∧ (vp_in x1 (am_tg h b3).2 ∧ Q (some (.int (am_I h b3 x1.toNatClampNeg))) h))))))))) : am_EI m_Planner_passOf kc ks 0 [.ref a0, .int x1] [] h Q := by
  refine am_blk_ok (c := 1) (ini := false) (by decide) rfl (fun q => by cases q) bk_Planner_passOf_0_1 _ 1 _ _ _ bk_Planner_passOf_0_1_ok rfl ?_
  show am_EI m_Planner_passOf kc ks 1 [.ref a0, .int x1] [.int x1] h Q
  refine am_if_lt (tgt := 19) dc_Planner_passOf_1 (by decide) (fun c1 => ?_) (fun c1 => ?_)
  · replace t := t.1 c1
    refine am_blk_ok (c := 1) (ini := false) (by decide) rfl (fun q => by cases q) bk_Planner_passOf_19_1 _ 20 _ _ _ bk_Planner_passOf_19_1_ok rfl ?_
    show am_EI m_Planner_passOf kc ks 20 [.ref a0, .int x1] [.int (-1)] h Q
    exact am_iret dc_Planner_passOf_20 rfl t
  · replace t := t.2 c1
    refine am_blk_ok (c := 1) (ini := false) (by decide) rfl (fun q => by cases q) bk_Planner_passOf_4_2 _ 7 _ _ _ bk_Planner_passOf_4_2_ok rfl ?_
    show am_EI m_Planner_passOf kc ks 7 [.ref a0, .int x1] [.int 8, .int x1] h Q
    refine am_ic_ge (tgt := 19) dc_Planner_passOf_7 (by decide) (fun c2 => ?_) (fun c2 => ?_)
    · replace t := t.1 c2
      refine am_blk_ok (c := 1) (ini := false) (by decide) rfl (fun q => by cases q) bk_Planner_passOf_19_1 _ 20 _ _ _ bk_Planner_passOf_19_1_ok rfl ?_
      show am_EI m_Planner_passOf kc ks 20 [.ref a0, .int x1] [.int (-1)] h Q
      exact am_iret dc_Planner_passOf_20 rfl t
    · replace t := t.2 c2
      refine am_blk_ok (c := 1) (ini := false) (by decide) rfl (fun q => by cases q) bk_Planner_passOf_10_5 _ 20 _ _ _ bk_Planner_passOf_10_5_ok rfl ?_
      show (am_tg h a0 = (1, 7) ∧ (∃ b3, am_P h a0 6 = some b3 ∧ ((am_tg h b3).1 = 20 ∧ (vp_in x1 (am_tg h b3).2 ∧ am_EI m_Planner_passOf kc ks 20 [.ref a0, .int x1] [.int (am_I h b3 x1.toNatClampNeg)] h Q))))
      obtain ⟨o4, b3, q5, o6, o7, t⟩ := t
      refine ⟨o4, b3, q5, o6, o7, ?_⟩
      exact am_iret dc_Planner_passOf_20 rfl t
set_option maxRecDepth 20000 in
theorem ev_Planner_passOf (a0 : Nat) (x1 : Int32) (h : am_H) (Q : Int32 → am_H → Prop) (t : ((x1 < 0 → Q (-1) h) ∧ (¬ x1 < 0 → ((8 ≤ x1 → Q (-1) h) ∧ (¬ 8 ≤ x1 → (am_tg h a0 = (1, 7) ∧ (∃ b3, am_P h a0 6 = some b3 ∧ ((am_tg h b3).1 = 20 ∧ (vp_in x1 (am_tg h b3).2 ∧ Q (am_I h b3 x1.toNatClampNeg) h))))))))) : am_Ei m_Planner_passOf 0 0 [.ref a0, .int x1] h Q :=
  am_Ev.of (by decide +kernel) (Nat.le_of_ble_eq_true rfl) (by simp only [List.mem_cons, List.not_mem_nil, or_false]; intro v hv; rcases hv with rfl | rfl; all_goals first | exact trivial) (sg_Planner_passOf_0 (kc := 0) (ks := 0) a0 x1 h (am_qi Q) t)
def bk_Planner_plan_0_2 : List am_E := [(0, .aload_n 0, 1, 0, 0), (1, .getfield 30, 3, 413, 0)]
theorem bk_Planner_plan_0_2_ok : bk_Planner_plan_0_2.all (am_ok 1 false m_Planner_plan.2.1) = true := by decide +kernel
def bk_Planner_plan_7_4 : List am_E := [(7, .aload_n 0, 1, 0, 0), (8, .getfield 30, 3, 413, 0), (11, .iload_n 3, 1, 0, 0), (12, .iload_n 3, 1, 0, 0)]
theorem bk_Planner_plan_7_4_ok : bk_Planner_plan_7_4.all (am_ok 1 false m_Planner_plan.2.1) = true := by decide +kernel
def bk_Planner_plan_16_1 : List am_E := [(16, .aload_n 1, 1, 0, 0)]
theorem bk_Planner_plan_16_1_ok : bk_Planner_plan_16_1.all (am_ok 1 false m_Planner_plan.2.1) = true := by decide +kernel
def bk_Planner_plan_20_1 : List am_E := [(20, .bipush 8, 2, 0, 8)]
theorem bk_Planner_plan_20_1_ok : bk_Planner_plan_20_1.all (am_ok 1 false m_Planner_plan.2.1) = true := by decide +kernel
def bk_Planner_plan_25_3 : List am_E := [(25, .istore 4, 2, 0, 0), (27, .iconst 0, 1, 0, 0), (28, .istore 5, 2, 0, 0)]
theorem bk_Planner_plan_25_3_ok : bk_Planner_plan_25_3.all (am_ok 1 false m_Planner_plan.2.1) = true := by decide +kernel
def bk_Planner_plan_30_2 : List am_E := [(30, .iload 5, 2, 0, 0), (32, .iload 4, 2, 0, 0)]
theorem bk_Planner_plan_30_2_ok : bk_Planner_plan_30_2.all (am_ok 1 false m_Planner_plan.2.1) = true := by decide +kernel
def bk_Planner_plan_140_4 : List am_E := [(140, .aload_n 0, 1, 0, 0), (141, .aload_n 1, 1, 0, 0), (142, .aload_n 2, 1, 0, 0), (143, .iload 4, 2, 0, 0)]
theorem bk_Planner_plan_140_4_ok : bk_Planner_plan_140_4.all (am_ok 1 false m_Planner_plan.2.1) = true := by decide +kernel
def bk_Planner_plan_148_1 : List am_E := [(148, .iconst 1, 1, 0, 1)]
theorem bk_Planner_plan_148_1_ok : bk_Planner_plan_148_1.all (am_ok 1 false m_Planner_plan.2.1) = true := by decide +kernel
def bk_Planner_plan_37_2 : List am_E := [(37, .aload_n 1, 1, 0, 0), (38, .iload 5, 2, 0, 0)]
theorem bk_Planner_plan_37_2_ok : bk_Planner_plan_37_2.all (am_ok 1 false m_Planner_plan.2.1) = true := by decide +kernel
def bk_Planner_plan_43_2 : List am_E := [(43, .astore 6, 2, 0, 0), (45, .aload 6, 2, 0, 0)]
theorem bk_Planner_plan_43_2_ok : bk_Planner_plan_43_2.all (am_ok 1 false m_Planner_plan.2.1) = true := by decide +kernel
def bk_Planner_plan_50_1 : List am_E := [(50, .iconst 0, 1, 0, 0)]
theorem bk_Planner_plan_50_1_ok : bk_Planner_plan_50_1.all (am_ok 1 false m_Planner_plan.2.1) = true := by decide +kernel
def bk_Planner_plan_52_5 : List am_E := [(52, .aload_n 0, 1, 0, 0), (53, .aload_n 1, 1, 0, 0), (54, .iload 5, 2, 0, 0), (56, .aload 6, 2, 0, 0), (58, .aload_n 2, 1, 0, 0)]
theorem bk_Planner_plan_52_5_ok : bk_Planner_plan_52_5.all (am_ok 1 false m_Planner_plan.2.1) = true := by decide +kernel
def bk_Planner_plan_62_4 : List am_E := [(62, .aload_n 0, 1, 0, 0), (63, .getfield 12, 3, 401, 0), (66, .aload 6, 2, 0, 0), (68, .aload_n 2, 1, 0, 0)]
theorem bk_Planner_plan_62_4_ok : bk_Planner_plan_62_4.all (am_ok 1 false m_Planner_plan.2.1) = true := by decide +kernel
def bk_Planner_plan_72_8 : List am_E := [(72, .aload_n 0, 1, 0, 0), (73, .getfield 38, 3, 421, 0), (76, .iload 5, 2, 0, 0), (78, .aaload, 1, 38, 0), (79, .aload_n 0, 1, 0, 0), (80, .getfield 33, 3, 417, 0), (83, .aload_n 0, 1, 0, 0), (84, .getfield 12, 3, 401, 0)]
theorem bk_Planner_plan_72_8_ok : bk_Planner_plan_72_8.all (am_ok 1 false m_Planner_plan.2.1) = true := by decide +kernel
def bk_Planner_plan_93_4 : List am_E := [(93, .aload_n 0, 1, 0, 0), (94, .getfield 38, 3, 421, 0), (97, .iload 5, 2, 0, 0), (99, .aaload, 1, 38, 0)]
theorem bk_Planner_plan_93_4_ok : bk_Planner_plan_93_4.all (am_ok 1 false m_Planner_plan.2.1) = true := by decide +kernel
def bk_Planner_plan_108_11 : List am_E := [(108, .aload_n 0, 1, 0, 0), (109, .getfield 30, 3, 413, 0), (112, .aload_n 0, 1, 0, 0), (113, .getfield 38, 3, 421, 0), (116, .iload 5, 2, 0, 0), (118, .aaload, 1, 38, 0), (119, .aload_n 2, 1, 0, 0), (120, .aload_n 1, 1, 0, 0), (121, .iload 5, 2, 0, 0), (123, .iconst 1, 1, 0, 1), (124, .iadd, 1, 0, 0)]
theorem bk_Planner_plan_108_11_ok : bk_Planner_plan_108_11.all (am_ok 1 false m_Planner_plan.2.1) = true := by decide +kernel
def bk_Planner_plan_134_2 : List am_E := [(134, .iinc 5 1, 3, 0, 1), (137, .goto (-107), 3, 0, -107)]
theorem bk_Planner_plan_134_2_ok : bk_Planner_plan_134_2.all (am_ok 1 false m_Planner_plan.2.1) = true := by decide +kernel
def bk_Planner_plan_106_1 : List am_E := [(106, .iconst 0, 1, 0, 0)]
theorem bk_Planner_plan_106_1_ok : bk_Planner_plan_106_1.all (am_ok 1 false m_Planner_plan.2.1) = true := by decide +kernel
theorem dc_Planner_plan_4 : decode m_Planner_plan.2.1 4 = .ok (.invokevirtual 62, 3) := by decide +kernel
theorem dc_Planner_plan_13 : decode m_Planner_plan.2.1 13 = .ok (.invokevirtual 65, 3) := by decide +kernel
theorem dc_Planner_plan_17 : decode m_Planner_plan.2.1 17 = .ok (.invokevirtual 46, 3) := by decide +kernel
theorem dc_Planner_plan_22 : decode m_Planner_plan.2.1 22 = .ok (.invokestatic 69, 3) := by decide +kernel
theorem dc_Planner_plan_145 : decode m_Planner_plan.2.1 145 = .ok (.invokevirtual 102, 3) := by decide +kernel
theorem dc_Planner_plan_149 : decode m_Planner_plan.2.1 149 = .ok (.ireturn, 1) := by decide +kernel
theorem dc_Planner_plan_40 : decode m_Planner_plan.2.1 40 = .ok (.invokevirtual 75, 3) := by decide +kernel
theorem dc_Planner_plan_47 : decode m_Planner_plan.2.1 47 = .ok (.ifnonnull 5, 3) := by decide +kernel
theorem dc_Planner_plan_51 : decode m_Planner_plan.2.1 51 = .ok (.ireturn, 1) := by decide +kernel
theorem dc_Planner_plan_59 : decode m_Planner_plan.2.1 59 = .ok (.invokevirtual 79, 3) := by decide +kernel
theorem dc_Planner_plan_69 : decode m_Planner_plan.2.1 69 = .ok (.invokevirtual 83, 3) := by decide +kernel
theorem dc_Planner_plan_87 : decode m_Planner_plan.2.1 87 = .ok (.invokevirtual 87, 3) := by decide +kernel
theorem dc_Planner_plan_90 : decode m_Planner_plan.2.1 90 = .ok (.invokevirtual 91, 3) := by decide +kernel
theorem dc_Planner_plan_100 : decode m_Planner_plan.2.1 100 = .ok (.invokevirtual 95, 3) := by decide +kernel
theorem dc_Planner_plan_125 : decode m_Planner_plan.2.1 125 = .ok (.invokevirtual 54, 3) := by decide +kernel
theorem dc_Planner_plan_128 : decode m_Planner_plan.2.1 128 = .ok (.invokevirtual 57, 3) := by decide +kernel
theorem dc_Planner_plan_131 : decode m_Planner_plan.2.1 131 = .ok (.invokevirtual 98, 3) := by decide +kernel
theorem dc_Planner_plan_107 : decode m_Planner_plan.2.1 107 = .ok (.ireturn, 1) := by decide +kernel
theorem dc_Planner_plan_103 : decode m_Planner_plan.2.1 103 = .ok (.ifCond .ne 5, 3) := by decide +kernel
theorem dc_Planner_plan_34 : decode m_Planner_plan.2.1 34 = .ok (.if_icmp .ge 106, 3) := by decide +kernel
set_option maxRecDepth 20000 in
theorem sg_Planner_plan_0 {kc ks : Nat} (a0 a1 a2 : Nat) (x3 : Int32) (h : am_H) (Q : Option Value → am_H → Prop) (t : (am_tg h a0 = (1, 7) ∧ (∃ b1, am_P h a0 3 = some b1 ∧ (am_tg h b1 = (8, 4) ∧ (am_Ew m_Spans_clear 0 0 [.ref b1] h (fun h5 => (am_tg h5 a0 = (1, 7) ∧ (∃ b6, am_P h5 a0 3 = some b6 ∧ (am_tg h5 b6 = (8, 4) ∧ (am_Ew m_Spans_add 0 0 [.ref b6, .int x3, .int x3] h5 (fun h10 => (am_tg h10 a1 = (4, 7) ∧ (am_Ei m_Route_stopCount 0 0 [.ref a1] h10 (fun r13 h12 => (am_Ei m_Math_min 0 0 [.int r13, .int 8] h12 (fun r15 h14 => am_EI m_Planner_plan kc ks 30 [.ref a0, .ref a1, .ref a2, .int x3, .int r15, .int 0, .float 0] [] h14 Q)))))))))))))))) : am_EI m_Planner_plan kc ks 0 [.ref a0, .ref a1, .ref a2, .int x3, .float 0, .float 0, .float 0] [] h Q := by
  refine am_blk_ok (c := 1) (ini := false) (by decide) rfl (fun q => by cases q) bk_Planner_plan_0_2 _ 4 _ _ _ bk_Planner_plan_0_2_ok rfl ?_
  show (am_tg h a0 = (1, 7) ∧ (∃ b1, am_P h a0 3 = some b1 ∧ am_EI m_Planner_plan kc ks 4 [.ref a0, .ref a1, .ref a2, .int x3, .float 0, .float 0, .float 0] [.ref b1] h Q))
  obtain ⟨o2, b1, q3, t⟩ := t
  refine ⟨o2, b1, q3, ?_⟩
  obtain ⟨o4, t⟩ := t
  refine am_callV (M2 := m_Spans_clear) (ci := 8) (a := b1) (kc := kc) (ks := ks) (k2c := 0) (k2s := 0) (as := []) [] dc_Planner_plan_4 lk_1_62 im_Spans_clear se_Spans_clear lm_Spans_clear np_Spans_clear ⟨Nat.le_of_ble_eq_true rfl, Nat.le_of_ble_eq_true rfl⟩ (fun _ => Nat.le_of_ble_eq_true rfl) (by decide) rfl o4 (am_Ew.end (am_Ew.mono t (fun h5 t => ?_)))
  refine am_blk_ok (c := 1) (ini := false) (by decide) rfl (fun q => by cases q) bk_Planner_plan_7_4 _ 13 _ _ _ bk_Planner_plan_7_4_ok rfl ?_
  show (am_tg h5 a0 = (1, 7) ∧ (∃ b6, am_P h5 a0 3 = some b6 ∧ am_EI m_Planner_plan kc ks 13 [.ref a0, .ref a1, .ref a2, .int x3, .float 0, .float 0, .float 0] [.int x3, .int x3, .ref b6] h5 Q))
  obtain ⟨o7, b6, q8, t⟩ := t
  refine ⟨o7, b6, q8, ?_⟩
  obtain ⟨o9, t⟩ := t
  refine am_callV (M2 := m_Spans_add) (ci := 8) (a := b6) (kc := kc) (ks := ks) (k2c := 0) (k2s := 0) (as := []) [.int x3, .int x3] dc_Planner_plan_13 lk_1_65 im_Spans_add se_Spans_add lm_Spans_add np_Spans_add ⟨Nat.le_of_ble_eq_true rfl, Nat.le_of_ble_eq_true rfl⟩ (fun _ => Nat.le_of_ble_eq_true rfl) (by decide) rfl o9 (am_Ew.end (am_Ew.mono t (fun h10 t => ?_)))
  refine am_blk_ok (c := 1) (ini := false) (by decide) rfl (fun q => by cases q) bk_Planner_plan_16_1 _ 17 _ _ _ bk_Planner_plan_16_1_ok rfl ?_
  show am_EI m_Planner_plan kc ks 17 [.ref a0, .ref a1, .ref a2, .int x3, .float 0, .float 0, .float 0] [.ref a1] h10 Q
  obtain ⟨o11, t⟩ := t
  refine am_callV (M2 := m_Route_stopCount) (ci := 4) (a := a1) (kc := kc) (ks := ks) (k2c := 0) (k2s := 0) (as := []) [] dc_Planner_plan_17 lk_1_46 im_Route_stopCount se_Route_stopCount lm_Route_stopCount np_Route_stopCount ⟨Nat.le_of_ble_eq_true rfl, Nat.le_of_ble_eq_true rfl⟩ (fun _ => Nat.le_of_ble_eq_true rfl) (by decide) rfl o11 (am_Ei.end (am_Ei.mono t (fun r13 h12 t => ?_)))
  refine am_blk_ok (c := 1) (ini := false) (by decide) rfl (fun q => by cases q) bk_Planner_plan_20_1 _ 22 _ _ _ bk_Planner_plan_20_1_ok rfl ?_
  show am_EI m_Planner_plan kc ks 22 [.ref a0, .ref a1, .ref a2, .int x3, .float 0, .float 0, .float 0] [.int 8, .int r13] h12 Q
  refine am_callS (M2 := m_Math_min) (kc := kc) (ks := ks) (k2c := 0) (k2s := 0) (as := []) [.int r13, .int 8] dc_Planner_plan_22 lk_1_69 st_Math_min lm_Math_min np_Math_min ⟨Nat.le_of_ble_eq_true rfl, Nat.le_of_ble_eq_true rfl⟩ (fun _ => Nat.le_of_ble_eq_true rfl) (am_Ei.end (am_Ei.mono t (fun r15 h14 t => ?_)))
  refine am_blk_ok (c := 1) (ini := false) (by decide) rfl (fun q => by cases q) bk_Planner_plan_25_3 _ 30 _ _ _ bk_Planner_plan_25_3_ok rfl ?_
  show am_EI m_Planner_plan kc ks 30 [.ref a0, .ref a1, .ref a2, .int x3, .int r15, .int 0, .float 0] [] h14 Q
  exact t
set_option maxRecDepth 20000 in
theorem ev_Planner_plan (a0 a1 a2 : Nat) (x3 : Int32) (h : am_H) (Q : Int32 → am_H → Prop) (t : (am_tg h a0 = (1, 7) ∧ (∃ b1, am_P h a0 3 = some b1 ∧ (am_tg h b1 = (8, 4) ∧ (am_Ew m_Spans_clear 0 0 [.ref b1] h (fun h5 => (am_tg h5 a0 = (1, 7) ∧ (∃ b6, am_P h5 a0 3 = some b6 ∧ (am_tg h5 b6 = (8, 4) ∧ (am_Ew m_Spans_add 0 0 [.ref b6, .int x3, .int x3] h5 (fun h10 => (am_tg h10 a1 = (4, 7) ∧ (am_Ei m_Route_stopCount 0 0 [.ref a1] h10 (fun r13 h12 => (am_Ei m_Math_min 0 0 [.int r13, .int 8] h12 (fun r15 h14 => am_EI m_Planner_plan 0 0 30 [.ref a0, .ref a1, .ref a2, .int x3, .int r15, .int 0, .float 0] [] h14 (am_qi Q))))))))))))))))) : am_Ei m_Planner_plan 0 0 [.ref a0, .ref a1, .ref a2, .int x3] h Q :=
  am_Ev.of (by decide +kernel) (Nat.le_of_ble_eq_true rfl) (by simp only [List.mem_cons, List.not_mem_nil, or_false]; intro v hv; rcases hv with rfl | rfl | rfl | rfl; all_goals first | exact trivial) (sg_Planner_plan_0 (kc := 0) (ks := 0) a0 a1 a2 x3 h (am_qi Q) t)
set_option maxRecDepth 20000 in
theorem sg_Planner_plan_30 {kc ks : Nat} (a0 a1 a2 : Nat) (x3 x4 x5 : Int32) (h : am_H) (Q : Option Value → am_H → Prop) (t : ((x4 ≤ x5 → (am_tg h a0 = (1, 7) ∧ (am_Ew m_Planner_choosePasses 0 0 [.ref a0, .ref a1, .ref a2, .int x4] h (fun h3 => Q (some (.int 1)) h3)))) ∧ (¬ x4 ≤ x5 → (am_tg h a1 = (4, 7) ∧ (am_Er m_Route_sillOf 0 0 [.ref a1, .int x5] h (fun r6 h5 => (r6 = none → Q (some (.int 0)) h5) ∧ ∀ b7, r6 = some b7 → (am_tg h5 a0 = (1, 7) ∧ (am_Ew m_Planner_allowLater 0 0 [.ref a0, .ref a1, .int x5, .ref b7, .ref a2] h5 (fun h10 => (am_tg h10 a0 = (1, 7) ∧ (∃ b11, am_P h10 a0 0 = some b11 ∧ (am_tg h10 b11 = (10, 4) ∧ (am_Ew m_Windows_find 0 0 [.ref b11, .ref b7, .ref a2] h10 (fun h15 => (am_tg h15 a0 = (1, 7) ∧ (∃ b16, am_P h15 a0 5 = some b16 ∧ ((am_tg h15 b16).1 = 38 ∧ (vp_in x5 (am_tg h15 b16).2 ∧ (∃ b17, am_P h15 b16 x5.toNatClampNeg = some b17 ∧ (∃ b18, am_P h15 a0 4 = some b18 ∧ (∃ b19, am_P h15 a0 0 = some b19 ∧ (am_tg h15 b19 = (10, 4) ∧ (am_Er m_Windows_found 0 0 [.ref b19] h15 (fun r29 h28 => (r29 = none → (am_tg h28 b17 = (8, 4) ∧ (am_Ew m_Spans_intersect 0 0 [.ref b17, .ref b18, .null] h28 (fun h33 => (am_tg h33 a0 = (1, 7) ∧ (∃ b34, am_P h33 a0 5 = some b34 ∧ ((am_tg h33 b34).1 = 38 ∧ (vp_in x5 (am_tg h33 b34).2 ∧ (∃ b35, am_P h33 b34 x5.toNatClampNeg = some b35 ∧ (am_tg h33 b35 = (8, 4) ∧ (am_Ei m_Spans_size 0 0 [.ref b35] h33 (fun r43 h42 => ((¬ r43 = 0 → (am_tg h42 a0 = (1, 7) ∧ (∃ b45, am_P h42 a0 3 = some b45 ∧ (∃ b46, am_P h42 a0 5 = some b46 ∧ ((am_tg h42 b46).1 = 38 ∧ (vp_in x5 (am_tg h42 b46).2 ∧ (∃ b47, am_P h42 b46 x5.toNatClampNeg = some b47 ∧ (am_tg h42 a1 = (4, 7) ∧ (am_Ei m_Route_milesTo 0 0 [.ref a1, .int (x5 + 1)] h42 (fun r56 h55 => (am_tg h55 a2 = (6, 3) ∧ (am_Ei m_Ship_minutesFor 0 0 [.ref a2, .int r56] h55 (fun r59 h58 => (am_tg h58 b45 = (8, 4) ∧ (am_Ew m_Spans_copyShifted 0 0 [.ref b45, .ref b47, .int r59] h58 (fun h61 => am_EI m_Planner_plan kc ks 30 [.ref a0, .ref a1, .ref a2, .int x3, .int x4, .int (x5 + 1), .float 0] [] h61 Q)))))))))))))))) ∧ (r43 = 0 → Q (some (.int 0)) h42)))))))))))))) ∧ ∀ b30, r29 = some b30 → (am_tg h28 b17 = (8, 4) ∧ (am_Ew m_Spans_intersect 0 0 [.ref b17, .ref b18, .ref b30] h28 (fun h63 => (am_tg h63 a0 = (1, 7) ∧ (∃ b64, am_P h63 a0 5 = some b64 ∧ ((am_tg h63 b64).1 = 38 ∧ (vp_in x5 (am_tg h63 b64).2 ∧ (∃ b65, am_P h63 b64 x5.toNatClampNeg = some b65 ∧ (am_tg h63 b65 = (8, 4) ∧ (am_Ei m_Spans_size 0 0 [.ref b65] h63 (fun r73 h72 => ((¬ r73 = 0 → (am_tg h72 a0 = (1, 7) ∧ (∃ b75, am_P h72 a0 3 = some b75 ∧ (∃ b76, am_P h72 a0 5 = some b76 ∧ ((am_tg h72 b76).1 = 38 ∧ (vp_in x5 (am_tg h72 b76).2 ∧ (∃ b77, am_P h72 b76 x5.toNatClampNeg = some b77 ∧ (am_tg h72 a1 = (4, 7) ∧ (am_Ei m_Route_milesTo 0 0 [.ref a1, .int (x5 + 1)] h72 (fun r86 h85 => (am_tg h85 a2 = (6, 3) ∧ (am_Ei m_Ship_minutesFor 0 0 [.ref a2, .int r86] h85 (fun r89 h88 => (am_tg h88 b75 = (8, 4) ∧ (am_Ew m_Spans_copyShifted 0 0 [.ref b75, .ref b77, .int r89] h88 (fun h91 => am_EI m_Planner_plan kc ks 30 [.ref a0, .ref a1, .ref a2, .int x3, .int x4, .int (x5 + 1), .float 0] [] h91 Q)))))))))))))))) ∧ (r73 = 0 → Q (some (.int 0)) h72))))))))))))))))))))))))))))))))))))) : am_EI m_Planner_plan kc ks 30 [.ref a0, .ref a1, .ref a2, .int x3, .int x4, .int x5, .float 0] [] h Q := by
  refine am_blk_ok (c := 1) (ini := false) (by decide) rfl (fun q => by cases q) bk_Planner_plan_30_2 _ 34 _ _ _ bk_Planner_plan_30_2_ok rfl ?_
  show am_EI m_Planner_plan kc ks 34 [.ref a0, .ref a1, .ref a2, .int x3, .int x4, .int x5, .float 0] [.int x4, .int x5] h Q
  refine am_ic_ge (tgt := 140) dc_Planner_plan_34 (by decide) (fun c1 => ?_) (fun c1 => ?_)
  · replace t := t.1 c1
    refine am_blk_ok (c := 1) (ini := false) (by decide) rfl (fun q => by cases q) bk_Planner_plan_140_4 _ 145 _ _ _ bk_Planner_plan_140_4_ok rfl ?_
    show am_EI m_Planner_plan kc ks 145 [.ref a0, .ref a1, .ref a2, .int x3, .int x4, .int x5, .float 0] [.int x4, .ref a2, .ref a1, .ref a0] h Q
    obtain ⟨o2, t⟩ := t
    refine am_callV (M2 := m_Planner_choosePasses) (ci := 1) (a := a0) (kc := kc) (ks := ks) (k2c := 0) (k2s := 0) (as := []) [.ref a1, .ref a2, .int x4] dc_Planner_plan_145 lk_1_102 im_Planner_choosePasses se_Planner_choosePasses lm_Planner_choosePasses np_Planner_choosePasses ⟨Nat.le_of_ble_eq_true rfl, Nat.le_of_ble_eq_true rfl⟩ (fun _ => Nat.le_of_ble_eq_true rfl) (by decide) rfl o2 (am_Ew.end (am_Ew.mono t (fun h3 t => ?_)))
    refine am_blk_ok (c := 1) (ini := false) (by decide) rfl (fun q => by cases q) bk_Planner_plan_148_1 _ 149 _ _ _ bk_Planner_plan_148_1_ok rfl ?_
    show am_EI m_Planner_plan kc ks 149 [.ref a0, .ref a1, .ref a2, .int x3, .int x4, .int x5, .float 0] [.int 1] h3 Q
    exact am_zret dc_Planner_plan_149 rfl (Or.inr rfl) t
  · replace t := t.2 c1
    refine am_blk_ok (c := 1) (ini := false) (by decide) rfl (fun q => by cases q) bk_Planner_plan_37_2 _ 40 _ _ _ bk_Planner_plan_37_2_ok rfl ?_
    show am_EI m_Planner_plan kc ks 40 [.ref a0, .ref a1, .ref a2, .int x3, .int x4, .int x5, .float 0] [.int x5, .ref a1] h Q
    obtain ⟨o4, t⟩ := t
    refine am_callV (M2 := m_Route_sillOf) (ci := 4) (a := a1) (kc := kc) (ks := ks) (k2c := 0) (k2s := 0) (as := []) [.int x5] dc_Planner_plan_40 lk_1_75 im_Route_sillOf se_Route_sillOf lm_Route_sillOf np_Route_sillOf ⟨Nat.le_of_ble_eq_true rfl, Nat.le_of_ble_eq_true rfl⟩ (fun _ => Nat.le_of_ble_eq_true rfl) (by decide) rfl o4 (am_Er.end (am_Er.mono t (fun r6 h5 t => ⟨fun c8 => ?_, fun b7 c8 => ?_⟩)))
    · replace t := t.1 c8
      refine am_blk_ok (c := 1) (ini := false) (by decide) rfl (fun q => by cases q) bk_Planner_plan_43_2 _ 47 _ _ _ bk_Planner_plan_43_2_ok rfl ?_
      show am_EI m_Planner_plan kc ks 47 [.ref a0, .ref a1, .ref a2, .int x3, .int x4, .int x5, .null] [.null] h5 Q
      refine am_ifnonnullN dc_Planner_plan_47 ?_
      refine am_blk_ok (c := 1) (ini := false) (by decide) rfl (fun q => by cases q) bk_Planner_plan_50_1 _ 51 _ _ _ bk_Planner_plan_50_1_ok rfl ?_
      show am_EI m_Planner_plan kc ks 51 [.ref a0, .ref a1, .ref a2, .int x3, .int x4, .int x5, .null] [.int 0] h5 Q
      exact am_zret dc_Planner_plan_51 rfl (Or.inl rfl) t
    · replace t := t.2 b7 c8
      refine am_blk_ok (c := 1) (ini := false) (by decide) rfl (fun q => by cases q) bk_Planner_plan_43_2 _ 47 _ _ _ bk_Planner_plan_43_2_ok rfl ?_
      show am_EI m_Planner_plan kc ks 47 [.ref a0, .ref a1, .ref a2, .int x3, .int x4, .int x5, .ref b7] [.ref b7] h5 Q
      refine am_ifnonnull (tgt := 52) dc_Planner_plan_47 (by decide) ?_
      refine am_blk_ok (c := 1) (ini := false) (by decide) rfl (fun q => by cases q) bk_Planner_plan_52_5 _ 59 _ _ _ bk_Planner_plan_52_5_ok rfl ?_
      show am_EI m_Planner_plan kc ks 59 [.ref a0, .ref a1, .ref a2, .int x3, .int x4, .int x5, .ref b7] [.ref a2, .ref b7, .int x5, .ref a1, .ref a0] h5 Q
      obtain ⟨o9, t⟩ := t
      refine am_callV (M2 := m_Planner_allowLater) (ci := 1) (a := a0) (kc := kc) (ks := ks) (k2c := 0) (k2s := 0) (as := []) [.ref a1, .int x5, .ref b7, .ref a2] dc_Planner_plan_59 lk_1_79 im_Planner_allowLater se_Planner_allowLater lm_Planner_allowLater np_Planner_allowLater ⟨Nat.le_of_ble_eq_true rfl, Nat.le_of_ble_eq_true rfl⟩ (fun _ => Nat.le_of_ble_eq_true rfl) (by decide) rfl o9 (am_Ew.end (am_Ew.mono t (fun h10 t => ?_)))
      refine am_blk_ok (c := 1) (ini := false) (by decide) rfl (fun q => by cases q) bk_Planner_plan_62_4 _ 69 _ _ _ bk_Planner_plan_62_4_ok rfl ?_
      show (am_tg h10 a0 = (1, 7) ∧ (∃ b11, am_P h10 a0 0 = some b11 ∧ am_EI m_Planner_plan kc ks 69 [.ref a0, .ref a1, .ref a2, .int x3, .int x4, .int x5, .ref b7] [.ref a2, .ref b7, .ref b11] h10 Q))
      obtain ⟨o12, b11, q13, t⟩ := t
      refine ⟨o12, b11, q13, ?_⟩
      obtain ⟨o14, t⟩ := t
      refine am_callV (M2 := m_Windows_find) (ci := 10) (a := b11) (kc := kc) (ks := ks) (k2c := 0) (k2s := 0) (as := []) [.ref b7, .ref a2] dc_Planner_plan_69 lk_1_83 im_Windows_find se_Windows_find lm_Windows_find np_Windows_find ⟨Nat.le_of_ble_eq_true rfl, Nat.le_of_ble_eq_true rfl⟩ (fun _ => Nat.le_of_ble_eq_true rfl) (by decide) rfl o14 (am_Ew.end (am_Ew.mono t (fun h15 t => ?_)))
      refine am_blk_ok (c := 1) (ini := false) (by decide) rfl (fun q => by cases q) bk_Planner_plan_72_8 _ 87 _ _ _ bk_Planner_plan_72_8_ok rfl ?_
      show (am_tg h15 a0 = (1, 7) ∧ (∃ b16, am_P h15 a0 5 = some b16 ∧ ((am_tg h15 b16).1 = 38 ∧ ((38 ∈ am_ks ∧ 30 ≤ 38) ∧ (vp_in x5 (am_tg h15 b16).2 ∧ (∃ b17, am_P h15 b16 x5.toNatClampNeg = some b17 ∧ (am_tg h15 a0 = (1, 7) ∧ (∃ b18, am_P h15 a0 4 = some b18 ∧ (am_tg h15 a0 = (1, 7) ∧ (∃ b19, am_P h15 a0 0 = some b19 ∧ am_EI m_Planner_plan kc ks 87 [.ref a0, .ref a1, .ref a2, .int x3, .int x4, .int x5, .ref b7] [.ref b19, .ref b18, .ref b17] h15 Q))))))))))
      obtain ⟨o20, b16, q21, o22, o23, b17, q24, b18, q25, b19, q26, t⟩ := t
      refine ⟨o20, b16, q21, o22, ⟨by decide, by decide⟩, o23, b17, q24, o20, b18, q25, o20, b19, q26, ?_⟩
      obtain ⟨o27, t⟩ := t
      refine am_callV (M2 := m_Windows_found) (ci := 10) (a := b19) (kc := kc) (ks := ks) (k2c := 0) (k2s := 0) (as := [.ref b18, .ref b17]) [] dc_Planner_plan_87 lk_1_87 im_Windows_found se_Windows_found lm_Windows_found np_Windows_found ⟨Nat.le_of_ble_eq_true rfl, Nat.le_of_ble_eq_true rfl⟩ (fun _ => Nat.le_of_ble_eq_true rfl) (by decide) rfl o27 (am_Er.end (am_Er.mono t (fun r29 h28 t => ⟨fun c31 => ?_, fun b30 c31 => ?_⟩)))
      · replace t := t.1 c31
        obtain ⟨o32, t⟩ := t
        refine am_callV (M2 := m_Spans_intersect) (ci := 8) (a := b17) (kc := kc) (ks := ks) (k2c := 0) (k2s := 0) (as := []) [.ref b18, .null] dc_Planner_plan_90 lk_1_91 im_Spans_intersect se_Spans_intersect lm_Spans_intersect np_Spans_intersect ⟨Nat.le_of_ble_eq_true rfl, Nat.le_of_ble_eq_true rfl⟩ (fun _ => Nat.le_of_ble_eq_true rfl) (by decide) rfl o32 (am_Ew.end (am_Ew.mono t (fun h33 t => ?_)))
        refine am_blk_ok (c := 1) (ini := false) (by decide) rfl (fun q => by cases q) bk_Planner_plan_93_4 _ 100 _ _ _ bk_Planner_plan_93_4_ok rfl ?_
        show (am_tg h33 a0 = (1, 7) ∧ (∃ b34, am_P h33 a0 5 = some b34 ∧ ((am_tg h33 b34).1 = 38 ∧ ((38 ∈ am_ks ∧ 30 ≤ 38) ∧ (vp_in x5 (am_tg h33 b34).2 ∧ (∃ b35, am_P h33 b34 x5.toNatClampNeg = some b35 ∧ am_EI m_Planner_plan kc ks 100 [.ref a0, .ref a1, .ref a2, .int x3, .int x4, .int x5, .ref b7] [.ref b35] h33 Q))))))
        obtain ⟨o36, b34, q37, o38, o39, b35, q40, t⟩ := t
        refine ⟨o36, b34, q37, o38, ⟨by decide, by decide⟩, o39, b35, q40, ?_⟩
        obtain ⟨o41, t⟩ := t
        refine am_callV (M2 := m_Spans_size) (ci := 8) (a := b35) (kc := kc) (ks := ks) (k2c := 0) (k2s := 0) (as := []) [] dc_Planner_plan_100 lk_1_95 im_Spans_size se_Spans_size lm_Spans_size np_Spans_size ⟨Nat.le_of_ble_eq_true rfl, Nat.le_of_ble_eq_true rfl⟩ (fun _ => Nat.le_of_ble_eq_true rfl) (by decide) rfl o41 (am_Ei.end (am_Ei.mono t (fun r43 h42 t => ?_)))
        refine am_if_ne (tgt := 108) dc_Planner_plan_103 (by decide) (fun c44 => ?_) (fun c44 => ?_)
        · replace t := t.1 c44
          refine am_blk_ok (c := 1) (ini := false) (by decide) rfl (fun q => by cases q) bk_Planner_plan_108_11 _ 125 _ _ _ bk_Planner_plan_108_11_ok rfl ?_
          show (am_tg h42 a0 = (1, 7) ∧ (∃ b45, am_P h42 a0 3 = some b45 ∧ (am_tg h42 a0 = (1, 7) ∧ (∃ b46, am_P h42 a0 5 = some b46 ∧ ((am_tg h42 b46).1 = 38 ∧ ((38 ∈ am_ks ∧ 30 ≤ 38) ∧ (vp_in x5 (am_tg h42 b46).2 ∧ (∃ b47, am_P h42 b46 x5.toNatClampNeg = some b47 ∧ am_EI m_Planner_plan kc ks 125 [.ref a0, .ref a1, .ref a2, .int x3, .int x4, .int x5, .ref b7] [.int (x5 + 1), .ref a1, .ref a2, .ref b47, .ref b45] h42 Q))))))))
          obtain ⟨o48, b45, q49, b46, q50, o51, o52, b47, q53, t⟩ := t
          refine ⟨o48, b45, q49, o48, b46, q50, o51, ⟨by decide, by decide⟩, o52, b47, q53, ?_⟩
          obtain ⟨o54, t⟩ := t
          refine am_callV (M2 := m_Route_milesTo) (ci := 4) (a := a1) (kc := kc) (ks := ks) (k2c := 0) (k2s := 0) (as := [.ref a2, .ref b47, .ref b45]) [.int (x5 + 1)] dc_Planner_plan_125 lk_1_54 im_Route_milesTo se_Route_milesTo lm_Route_milesTo np_Route_milesTo ⟨Nat.le_of_ble_eq_true rfl, Nat.le_of_ble_eq_true rfl⟩ (fun _ => Nat.le_of_ble_eq_true rfl) (by decide) rfl o54 (am_Ei.end (am_Ei.mono t (fun r56 h55 t => ?_)))
          obtain ⟨o57, t⟩ := t
          refine am_callV (M2 := m_Ship_minutesFor) (ci := 6) (a := a2) (kc := kc) (ks := ks) (k2c := 0) (k2s := 0) (as := [.ref b47, .ref b45]) [.int r56] dc_Planner_plan_128 lk_1_57 im_Ship_minutesFor se_Ship_minutesFor lm_Ship_minutesFor np_Ship_minutesFor ⟨Nat.le_of_ble_eq_true rfl, Nat.le_of_ble_eq_true rfl⟩ (fun _ => Nat.le_of_ble_eq_true rfl) (by decide) rfl o57 (am_Ei.end (am_Ei.mono t (fun r59 h58 t => ?_)))
          obtain ⟨o60, t⟩ := t
          refine am_callV (M2 := m_Spans_copyShifted) (ci := 8) (a := b45) (kc := kc) (ks := ks) (k2c := 0) (k2s := 0) (as := []) [.ref b47, .int r59] dc_Planner_plan_131 lk_1_98 im_Spans_copyShifted se_Spans_copyShifted lm_Spans_copyShifted np_Spans_copyShifted ⟨Nat.le_of_ble_eq_true rfl, Nat.le_of_ble_eq_true rfl⟩ (fun _ => Nat.le_of_ble_eq_true rfl) (by decide) rfl o60 (am_Ew.end (am_Ew.mono t (fun h61 t => ?_)))
          refine am_blk_ok (c := 1) (ini := false) (by decide) rfl (fun q => by cases q) bk_Planner_plan_134_2 _ 30 _ _ _ bk_Planner_plan_134_2_ok rfl ?_
          show am_EI m_Planner_plan kc ks 30 [.ref a0, .ref a1, .ref a2, .int x3, .int x4, .int (x5 + 1), .ref b7] [] h61 Q
          refine am_EI.fg 6 ?_
          show am_EI m_Planner_plan kc ks 30 [.ref a0, .ref a1, .ref a2, .int x3, .int x4, .int (x5 + 1), .float 0] [] h61 Q
          exact t
        · replace t := t.2 c44
          refine am_blk_ok (c := 1) (ini := false) (by decide) rfl (fun q => by cases q) bk_Planner_plan_106_1 _ 107 _ _ _ bk_Planner_plan_106_1_ok rfl ?_
          show am_EI m_Planner_plan kc ks 107 [.ref a0, .ref a1, .ref a2, .int x3, .int x4, .int x5, .ref b7] [.int 0] h42 Q
          exact am_zret dc_Planner_plan_107 rfl (Or.inl rfl) t
      · replace t := t.2 b30 c31
        obtain ⟨o62, t⟩ := t
        refine am_callV (M2 := m_Spans_intersect) (ci := 8) (a := b17) (kc := kc) (ks := ks) (k2c := 0) (k2s := 0) (as := []) [.ref b18, .ref b30] dc_Planner_plan_90 lk_1_91 im_Spans_intersect se_Spans_intersect lm_Spans_intersect np_Spans_intersect ⟨Nat.le_of_ble_eq_true rfl, Nat.le_of_ble_eq_true rfl⟩ (fun _ => Nat.le_of_ble_eq_true rfl) (by decide) rfl o62 (am_Ew.end (am_Ew.mono t (fun h63 t => ?_)))
        refine am_blk_ok (c := 1) (ini := false) (by decide) rfl (fun q => by cases q) bk_Planner_plan_93_4 _ 100 _ _ _ bk_Planner_plan_93_4_ok rfl ?_
        show (am_tg h63 a0 = (1, 7) ∧ (∃ b64, am_P h63 a0 5 = some b64 ∧ ((am_tg h63 b64).1 = 38 ∧ ((38 ∈ am_ks ∧ 30 ≤ 38) ∧ (vp_in x5 (am_tg h63 b64).2 ∧ (∃ b65, am_P h63 b64 x5.toNatClampNeg = some b65 ∧ am_EI m_Planner_plan kc ks 100 [.ref a0, .ref a1, .ref a2, .int x3, .int x4, .int x5, .ref b7] [.ref b65] h63 Q))))))
        obtain ⟨o66, b64, q67, o68, o69, b65, q70, t⟩ := t
        refine ⟨o66, b64, q67, o68, ⟨by decide, by decide⟩, o69, b65, q70, ?_⟩
        obtain ⟨o71, t⟩ := t
        refine am_callV (M2 := m_Spans_size) (ci := 8) (a := b65) (kc := kc) (ks := ks) (k2c := 0) (k2s := 0) (as := []) [] dc_Planner_plan_100 lk_1_95 im_Spans_size se_Spans_size lm_Spans_size np_Spans_size ⟨Nat.le_of_ble_eq_true rfl, Nat.le_of_ble_eq_true rfl⟩ (fun _ => Nat.le_of_ble_eq_true rfl) (by decide) rfl o71 (am_Ei.end (am_Ei.mono t (fun r73 h72 t => ?_)))
        refine am_if_ne (tgt := 108) dc_Planner_plan_103 (by decide) (fun c74 => ?_) (fun c74 => ?_)
        · replace t := t.1 c74
          refine am_blk_ok (c := 1) (ini := false) (by decide) rfl (fun q => by cases q) bk_Planner_plan_108_11 _ 125 _ _ _ bk_Planner_plan_108_11_ok rfl ?_
          show (am_tg h72 a0 = (1, 7) ∧ (∃ b75, am_P h72 a0 3 = some b75 ∧ (am_tg h72 a0 = (1, 7) ∧ (∃ b76, am_P h72 a0 5 = some b76 ∧ ((am_tg h72 b76).1 = 38 ∧ ((38 ∈ am_ks ∧ 30 ≤ 38) ∧ (vp_in x5 (am_tg h72 b76).2 ∧ (∃ b77, am_P h72 b76 x5.toNatClampNeg = some b77 ∧ am_EI m_Planner_plan kc ks 125 [.ref a0, .ref a1, .ref a2, .int x3, .int x4, .int x5, .ref b7] [.int (x5 + 1), .ref a1, .ref a2, .ref b77, .ref b75] h72 Q))))))))
          obtain ⟨o78, b75, q79, b76, q80, o81, o82, b77, q83, t⟩ := t
          refine ⟨o78, b75, q79, o78, b76, q80, o81, ⟨by decide, by decide⟩, o82, b77, q83, ?_⟩
          obtain ⟨o84, t⟩ := t
          refine am_callV (M2 := m_Route_milesTo) (ci := 4) (a := a1) (kc := kc) (ks := ks) (k2c := 0) (k2s := 0) (as := [.ref a2, .ref b77, .ref b75]) [.int (x5 + 1)] dc_Planner_plan_125 lk_1_54 im_Route_milesTo se_Route_milesTo lm_Route_milesTo np_Route_milesTo ⟨Nat.le_of_ble_eq_true rfl, Nat.le_of_ble_eq_true rfl⟩ (fun _ => Nat.le_of_ble_eq_true rfl) (by decide) rfl o84 (am_Ei.end (am_Ei.mono t (fun r86 h85 t => ?_)))
          obtain ⟨o87, t⟩ := t
          refine am_callV (M2 := m_Ship_minutesFor) (ci := 6) (a := a2) (kc := kc) (ks := ks) (k2c := 0) (k2s := 0) (as := [.ref b77, .ref b75]) [.int r86] dc_Planner_plan_128 lk_1_57 im_Ship_minutesFor se_Ship_minutesFor lm_Ship_minutesFor np_Ship_minutesFor ⟨Nat.le_of_ble_eq_true rfl, Nat.le_of_ble_eq_true rfl⟩ (fun _ => Nat.le_of_ble_eq_true rfl) (by decide) rfl o87 (am_Ei.end (am_Ei.mono t (fun r89 h88 t => ?_)))
          obtain ⟨o90, t⟩ := t
          refine am_callV (M2 := m_Spans_copyShifted) (ci := 8) (a := b75) (kc := kc) (ks := ks) (k2c := 0) (k2s := 0) (as := []) [.ref b77, .int r89] dc_Planner_plan_131 lk_1_98 im_Spans_copyShifted se_Spans_copyShifted lm_Spans_copyShifted np_Spans_copyShifted ⟨Nat.le_of_ble_eq_true rfl, Nat.le_of_ble_eq_true rfl⟩ (fun _ => Nat.le_of_ble_eq_true rfl) (by decide) rfl o90 (am_Ew.end (am_Ew.mono t (fun h91 t => ?_)))
          refine am_blk_ok (c := 1) (ini := false) (by decide) rfl (fun q => by cases q) bk_Planner_plan_134_2 _ 30 _ _ _ bk_Planner_plan_134_2_ok rfl ?_
          show am_EI m_Planner_plan kc ks 30 [.ref a0, .ref a1, .ref a2, .int x3, .int x4, .int (x5 + 1), .ref b7] [] h91 Q
          refine am_EI.fg 6 ?_
          show am_EI m_Planner_plan kc ks 30 [.ref a0, .ref a1, .ref a2, .int x3, .int x4, .int (x5 + 1), .float 0] [] h91 Q
          exact t
        · replace t := t.2 c74
          refine am_blk_ok (c := 1) (ini := false) (by decide) rfl (fun q => by cases q) bk_Planner_plan_106_1 _ 107 _ _ _ bk_Planner_plan_106_1_ok rfl ?_
          show am_EI m_Planner_plan kc ks 107 [.ref a0, .ref a1, .ref a2, .int x3, .int x4, .int x5, .ref b7] [.int 0] h72 Q
          exact am_zret dc_Planner_plan_107 rfl (Or.inl rfl) t
def bk_Planner_waitedFrom_0_2 : List am_E := [(0, .aload_n 0, 1, 0, 0), (1, .aload_n 2, 1, 0, 0)]
theorem bk_Planner_waitedFrom_0_2_ok : bk_Planner_waitedFrom_0_2.all (am_ok 1 false m_Planner_waitedFrom.2.1) = true := by decide +kernel
def bk_Planner_waitedFrom_5_2 : List am_E := [(5, .iconst 1, 1, 0, 1), (6, .isub, 1, 0, 0)]
theorem bk_Planner_waitedFrom_5_2_ok : bk_Planner_waitedFrom_5_2.all (am_ok 1 false m_Planner_waitedFrom.2.1) = true := by decide +kernel
def bk_Planner_waitedFrom_10_5 : List am_E := [(10, .iload_n 1, 1, 0, 0), (11, .isub, 1, 0, 0), (12, .istore 4, 2, 0, 0), (14, .iconst 1, 1, 0, 1), (15, .istore 5, 2, 0, 0)]
theorem bk_Planner_waitedFrom_10_5_ok : bk_Planner_waitedFrom_10_5.all (am_ok 1 false m_Planner_waitedFrom.2.1) = true := by decide +kernel
def bk_Planner_waitedFrom_17_2 : List am_E := [(17, .iload 5, 2, 0, 0), (19, .aload_n 2, 1, 0, 0)]
theorem bk_Planner_waitedFrom_17_2_ok : bk_Planner_waitedFrom_17_2.all (am_ok 1 false m_Planner_waitedFrom.2.1) = true := by decide +kernel
def bk_Planner_waitedFrom_47_1 : List am_E := [(47, .iload 4, 2, 0, 0)]
theorem bk_Planner_waitedFrom_47_1_ok : bk_Planner_waitedFrom_47_1.all (am_ok 1 false m_Planner_waitedFrom.2.1) = true := by decide +kernel
def bk_Planner_waitedFrom_26_4 : List am_E := [(26, .iload 4, 2, 0, 0), (28, .aload_n 3, 1, 0, 0), (29, .aload_n 2, 1, 0, 0), (30, .iload 5, 2, 0, 0)]
theorem bk_Planner_waitedFrom_26_4_ok : bk_Planner_waitedFrom_26_4.all (am_ok 1 false m_Planner_waitedFrom.2.1) = true := by decide +kernel
def bk_Planner_waitedFrom_38_4 : List am_E := [(38, .isub, 1, 0, 0), (39, .istore 4, 2, 0, 0), (41, .iinc 5 1, 3, 0, 1), (44, .goto (-27), 3, 0, -27)]
theorem bk_Planner_waitedFrom_38_4_ok : bk_Planner_waitedFrom_38_4.all (am_ok 1 false m_Planner_waitedFrom.2.1) = true := by decide +kernel
theorem dc_Planner_waitedFrom_2 : decode m_Planner_waitedFrom.2.1 2 = .ok (.invokevirtual 46, 3) := by decide +kernel
theorem dc_Planner_waitedFrom_7 : decode m_Planner_waitedFrom.2.1 7 = .ok (.invokevirtual 50, 3) := by decide +kernel
theorem dc_Planner_waitedFrom_20 : decode m_Planner_waitedFrom.2.1 20 = .ok (.invokevirtual 46, 3) := by decide +kernel
theorem dc_Planner_waitedFrom_49 : decode m_Planner_waitedFrom.2.1 49 = .ok (.ireturn, 1) := by decide +kernel
theorem dc_Planner_waitedFrom_32 : decode m_Planner_waitedFrom.2.1 32 = .ok (.invokevirtual 54, 3) := by decide +kernel
theorem dc_Planner_waitedFrom_35 : decode m_Planner_waitedFrom.2.1 35 = .ok (.invokevirtual 57, 3) := by decide +kernel
theorem dc_Planner_waitedFrom_23 : decode m_Planner_waitedFrom.2.1 23 = .ok (.if_icmp .ge 24, 3) := by decide +kernel
set_option maxRecDepth 20000 in
theorem sg_Planner_waitedFrom_0 {kc ks : Nat} (a0 a2 a3 : Nat) (x1 : Int32) (h : am_H) (Q : Option Value → am_H → Prop) (t : (am_tg h a2 = (4, 7) ∧ (am_Ei m_Route_stopCount 0 0 [.ref a2] h (fun r3 h2 => (am_tg h2 a0 = (1, 7) ∧ (am_Ei m_Planner_passOf 0 0 [.ref a0, .int (r3 - 1)] h2 (fun r6 h5 => am_EI m_Planner_waitedFrom kc ks 17 [.ref a0, .int x1, .ref a2, .ref a3, .int (r6 - x1), .int 1] [] h5 Q))))))) : am_EI m_Planner_waitedFrom kc ks 0 [.ref a0, .int x1, .ref a2, .ref a3, .float 0, .float 0] [] h Q := by
  refine am_blk_ok (c := 1) (ini := false) (by decide) rfl (fun q => by cases q) bk_Planner_waitedFrom_0_2 _ 2 _ _ _ bk_Planner_waitedFrom_0_2_ok rfl ?_
  show am_EI m_Planner_waitedFrom kc ks 2 [.ref a0, .int x1, .ref a2, .ref a3, .float 0, .float 0] [.ref a2, .ref a0] h Q
  obtain ⟨o1, t⟩ := t
  refine am_callV (M2 := m_Route_stopCount) (ci := 4) (a := a2) (kc := kc) (ks := ks) (k2c := 0) (k2s := 0) (as := [.ref a0]) [] dc_Planner_waitedFrom_2 lk_1_46 im_Route_stopCount se_Route_stopCount lm_Route_stopCount np_Route_stopCount ⟨Nat.le_of_ble_eq_true rfl, Nat.le_of_ble_eq_true rfl⟩ (fun _ => Nat.le_of_ble_eq_true rfl) (by decide) rfl o1 (am_Ei.end (am_Ei.mono t (fun r3 h2 t => ?_)))
  refine am_blk_ok (c := 1) (ini := false) (by decide) rfl (fun q => by cases q) bk_Planner_waitedFrom_5_2 _ 7 _ _ _ bk_Planner_waitedFrom_5_2_ok rfl ?_
  show am_EI m_Planner_waitedFrom kc ks 7 [.ref a0, .int x1, .ref a2, .ref a3, .float 0, .float 0] [.int (r3 - 1), .ref a0] h2 Q
  obtain ⟨o4, t⟩ := t
  refine am_callV (M2 := m_Planner_passOf) (ci := 1) (a := a0) (kc := kc) (ks := ks) (k2c := 0) (k2s := 0) (as := []) [.int (r3 - 1)] dc_Planner_waitedFrom_7 lk_1_50 im_Planner_passOf se_Planner_passOf lm_Planner_passOf np_Planner_passOf ⟨Nat.le_of_ble_eq_true rfl, Nat.le_of_ble_eq_true rfl⟩ (fun _ => Nat.le_of_ble_eq_true rfl) (by decide) rfl o4 (am_Ei.end (am_Ei.mono t (fun r6 h5 t => ?_)))
  refine am_blk_ok (c := 1) (ini := false) (by decide) rfl (fun q => by cases q) bk_Planner_waitedFrom_10_5 _ 17 _ _ _ bk_Planner_waitedFrom_10_5_ok rfl ?_
  show am_EI m_Planner_waitedFrom kc ks 17 [.ref a0, .int x1, .ref a2, .ref a3, .int (r6 - x1), .int 1] [] h5 Q
  exact t
set_option maxRecDepth 20000 in
theorem ev_Planner_waitedFrom (a0 a2 a3 : Nat) (x1 : Int32) (h : am_H) (Q : Int32 → am_H → Prop) (t : (am_tg h a2 = (4, 7) ∧ (am_Ei m_Route_stopCount 0 0 [.ref a2] h (fun r3 h2 => (am_tg h2 a0 = (1, 7) ∧ (am_Ei m_Planner_passOf 0 0 [.ref a0, .int (r3 - 1)] h2 (fun r6 h5 => am_EI m_Planner_waitedFrom 0 0 17 [.ref a0, .int x1, .ref a2, .ref a3, .int (r6 - x1), .int 1] [] h5 (am_qi Q)))))))) : am_Ei m_Planner_waitedFrom 0 0 [.ref a0, .int x1, .ref a2, .ref a3] h Q :=
  am_Ev.of (by decide +kernel) (Nat.le_of_ble_eq_true rfl) (by simp only [List.mem_cons, List.not_mem_nil, or_false]; intro v hv; rcases hv with rfl | rfl | rfl | rfl; all_goals first | exact trivial) (sg_Planner_waitedFrom_0 (kc := 0) (ks := 0) a0 a2 a3 x1 h (am_qi Q) t)
set_option maxRecDepth 20000 in
theorem sg_Planner_waitedFrom_17 {kc ks : Nat} (a0 a2 a3 : Nat) (x1 x4 x5 : Int32) (h : am_H) (Q : Option Value → am_H → Prop) (t : (am_tg h a2 = (4, 7) ∧ (am_Ei m_Route_stopCount 0 0 [.ref a2] h (fun r3 h2 => ((r3 ≤ x5 → Q (some (.int x4)) h2) ∧ (¬ r3 ≤ x5 → (am_tg h2 a2 = (4, 7) ∧ (am_Ei m_Route_milesTo 0 0 [.ref a2, .int x5] h2 (fun r7 h6 => (am_tg h6 a3 = (6, 3) ∧ (am_Ei m_Ship_minutesFor 0 0 [.ref a3, .int r7] h6 (fun r10 h9 => am_EI m_Planner_waitedFrom kc ks 17 [.ref a0, .int x1, .ref a2, .ref a3, .int (x4 - r10), .int (x5 + 1)] [] h9 Q)))))))))))) : am_EI m_Planner_waitedFrom kc ks 17 [.ref a0, .int x1, .ref a2, .ref a3, .int x4, .int x5] [] h Q := by
  refine am_blk_ok (c := 1) (ini := false) (by decide) rfl (fun q => by cases q) bk_Planner_waitedFrom_17_2 _ 20 _ _ _ bk_Planner_waitedFrom_17_2_ok rfl ?_
  show am_EI m_Planner_waitedFrom kc ks 20 [.ref a0, .int x1, .ref a2, .ref a3, .int x4, .int x5] [.ref a2, .int x5] h Q
  obtain ⟨o1, t⟩ := t
  refine am_callV (M2 := m_Route_stopCount) (ci := 4) (a := a2) (kc := kc) (ks := ks) (k2c := 0) (k2s := 0) (as := [.int x5]) [] dc_Planner_waitedFrom_20 lk_1_46 im_Route_stopCount se_Route_stopCount lm_Route_stopCount np_Route_stopCount ⟨Nat.le_of_ble_eq_true rfl, Nat.le_of_ble_eq_true rfl⟩ (fun _ => Nat.le_of_ble_eq_true rfl) (by decide) rfl o1 (am_Ei.end (am_Ei.mono t (fun r3 h2 t => ?_)))
  refine am_ic_ge (tgt := 47) dc_Planner_waitedFrom_23 (by decide) (fun c4 => ?_) (fun c4 => ?_)
  · replace t := t.1 c4
    refine am_blk_ok (c := 1) (ini := false) (by decide) rfl (fun q => by cases q) bk_Planner_waitedFrom_47_1 _ 49 _ _ _ bk_Planner_waitedFrom_47_1_ok rfl ?_
    show am_EI m_Planner_waitedFrom kc ks 49 [.ref a0, .int x1, .ref a2, .ref a3, .int x4, .int x5] [.int x4] h2 Q
    exact am_iret dc_Planner_waitedFrom_49 rfl t
  · replace t := t.2 c4
    refine am_blk_ok (c := 1) (ini := false) (by decide) rfl (fun q => by cases q) bk_Planner_waitedFrom_26_4 _ 32 _ _ _ bk_Planner_waitedFrom_26_4_ok rfl ?_
    show am_EI m_Planner_waitedFrom kc ks 32 [.ref a0, .int x1, .ref a2, .ref a3, .int x4, .int x5] [.int x5, .ref a2, .ref a3, .int x4] h2 Q
    obtain ⟨o5, t⟩ := t
    refine am_callV (M2 := m_Route_milesTo) (ci := 4) (a := a2) (kc := kc) (ks := ks) (k2c := 0) (k2s := 0) (as := [.ref a3, .int x4]) [.int x5] dc_Planner_waitedFrom_32 lk_1_54 im_Route_milesTo se_Route_milesTo lm_Route_milesTo np_Route_milesTo ⟨Nat.le_of_ble_eq_true rfl, Nat.le_of_ble_eq_true rfl⟩ (fun _ => Nat.le_of_ble_eq_true rfl) (by decide) rfl o5 (am_Ei.end (am_Ei.mono t (fun r7 h6 t => ?_)))
    obtain ⟨o8, t⟩ := t
    refine am_callV (M2 := m_Ship_minutesFor) (ci := 6) (a := a3) (kc := kc) (ks := ks) (k2c := 0) (k2s := 0) (as := [.int x4]) [.int r7] dc_Planner_waitedFrom_35 lk_1_57 im_Ship_minutesFor se_Ship_minutesFor lm_Ship_minutesFor np_Ship_minutesFor ⟨Nat.le_of_ble_eq_true rfl, Nat.le_of_ble_eq_true rfl⟩ (fun _ => Nat.le_of_ble_eq_true rfl) (by decide) rfl o8 (am_Ei.end (am_Ei.mono t (fun r10 h9 t => ?_)))
    refine am_blk_ok (c := 1) (ini := false) (by decide) rfl (fun q => by cases q) bk_Planner_waitedFrom_38_4 _ 17 _ _ _ bk_Planner_waitedFrom_38_4_ok rfl ?_
    show am_EI m_Planner_waitedFrom kc ks 17 [.ref a0, .int x1, .ref a2, .ref a3, .int (x4 - r10), .int (x5 + 1)] [] h9 Q
    exact t
