def bk_Draft_followOn_0_2 : List am_E := [(0, .aload_n 0, 1, 0, 0), (1, .getfield 39, 3, 1225, 0)]
theorem bk_Draft_followOn_0_2_ok : bk_Draft_followOn_0_2.all (am_ok 3 false m_Draft_followOn.2.1) = true := by decide +kernel
def bk_Draft_followOn_7_1 : List am_E := [(7, .aload_n 1, 1, 0, 0)]
theorem bk_Draft_followOn_7_1_ok : bk_Draft_followOn_7_1.all (am_ok 3 false m_Draft_followOn.2.1) = true := by decide +kernel
def bk_Draft_followOn_11_3 : List am_E := [(11, .aload_n 0, 1, 0, 0), (12, .getfield 39, 3, 1225, 0), (15, .aload_n 1, 1, 0, 0)]
theorem bk_Draft_followOn_11_3_ok : bk_Draft_followOn_11_3.all (am_ok 3 false m_Draft_followOn.2.1) = true := by decide +kernel
def bk_Draft_followOn_19_2 : List am_E := [(19, .iconst 0, 1, 0, 0), (20, .istore_n 2, 1, 0, 0)]
theorem bk_Draft_followOn_19_2_ok : bk_Draft_followOn_19_2.all (am_ok 3 false m_Draft_followOn.2.1) = true := by decide +kernel
def bk_Draft_followOn_21_3 : List am_E := [(21, .iload_n 2, 1, 0, 0), (22, .aload_n 0, 1, 0, 0), (23, .getfield 20, 3, 1212, 0)]
theorem bk_Draft_followOn_21_3_ok : bk_Draft_followOn_21_3.all (am_ok 3 false m_Draft_followOn.2.1) = true := by decide +kernel
def bk_Draft_followOn_105_1 : List am_E := [(105, .iconst 0, 1, 0, 0)]
theorem bk_Draft_followOn_105_1_ok : bk_Draft_followOn_105_1.all (am_ok 3 false m_Draft_followOn.2.1) = true := by decide +kernel
def bk_Draft_followOn_29_2 : List am_E := [(29, .iload_n 2, 1, 0, 0), (30, .bipush 24, 2, 0, 24)]
theorem bk_Draft_followOn_29_2_ok : bk_Draft_followOn_29_2.all (am_ok 3 false m_Draft_followOn.2.1) = true := by decide +kernel
def bk_Draft_followOn_35_14 : List am_E := [(35, .aload_n 0, 1, 0, 0), (36, .getfield 39, 3, 1225, 0), (39, .aload_n 0, 1, 0, 0), (40, .getfield 9, 3, 1201, 0), (43, .iload_n 2, 1, 0, 0), (44, .baload, 1, 21, 0), (45, .aload_n 0, 1, 0, 0), (46, .getfield 13, 3, 1205, 0), (49, .iload_n 2, 1, 0, 0), (50, .iaload, 1, 0, 0), (51, .aload_n 0, 1, 0, 0), (52, .getfield 17, 3, 1209, 0), (55, .iload_n 2, 1, 0, 0), (56, .iaload, 1, 0, 0)]
theorem bk_Draft_followOn_35_14_ok : bk_Draft_followOn_35_14.all (am_ok 3 false m_Draft_followOn.2.1) = true := by decide +kernel
def bk_Draft_followOn_60_2 : List am_E := [(60, .istore_n 3, 1, 0, 0), (61, .iload_n 3, 1, 0, 0)]
theorem bk_Draft_followOn_60_2_ok : bk_Draft_followOn_60_2.all (am_ok 3 false m_Draft_followOn.2.1) = true := by decide +kernel
def bk_Draft_followOn_67_12 : List am_E := [(67, .aload_n 0, 1, 0, 0), (68, .getfield 39, 3, 1225, 0), (71, .aload_n 0, 1, 0, 0), (72, .getfield 9, 3, 1201, 0), (75, .iload_n 2, 1, 0, 0), (76, .baload, 1, 21, 0), (77, .aload_n 0, 1, 0, 0), (78, .getfield 39, 3, 1225, 0), (81, .aload_n 0, 1, 0, 0), (82, .getfield 13, 3, 1205, 0), (85, .iload_n 2, 1, 0, 0), (86, .iaload, 1, 0, 0)]
theorem bk_Draft_followOn_67_12_ok : bk_Draft_followOn_67_12.all (am_ok 3 false m_Draft_followOn.2.1) = true := by decide +kernel
def bk_Draft_followOn_90_4 : List am_E := [(90, .aload_n 0, 1, 0, 0), (91, .getfield 17, 3, 1209, 0), (94, .iload_n 2, 1, 0, 0), (95, .iaload, 1, 0, 0)]
theorem bk_Draft_followOn_90_4_ok : bk_Draft_followOn_90_4.all (am_ok 3 false m_Draft_followOn.2.1) = true := by decide +kernel
def bk_Draft_followOn_99_2 : List am_E := [(99, .iinc 2 1, 3, 0, 1), (102, .goto (-81), 3, 0, -81)]
theorem bk_Draft_followOn_99_2_ok : bk_Draft_followOn_99_2.all (am_ok 3 false m_Draft_followOn.2.1) = true := by decide +kernel
def bk_Draft_followOn_65_1 : List am_E := [(65, .iload_n 3, 1, 0, 0)]
theorem bk_Draft_followOn_65_1_ok : bk_Draft_followOn_65_1.all (am_ok 3 false m_Draft_followOn.2.1) = true := by decide +kernel
theorem dc_Draft_followOn_4 : decode m_Draft_followOn.2.1 4 = .ok (.invokevirtual 68, 3) := by decide +kernel
theorem dc_Draft_followOn_8 : decode m_Draft_followOn.2.1 8 = .ok (.ifnull 11, 3) := by decide +kernel
theorem dc_Draft_followOn_16 : decode m_Draft_followOn.2.1 16 = .ok (.invokevirtual 71, 3) := by decide +kernel
theorem dc_Draft_followOn_106 : decode m_Draft_followOn.2.1 106 = .ok (.ireturn, 1) := by decide +kernel
theorem dc_Draft_followOn_57 : decode m_Draft_followOn.2.1 57 = .ok (.invokevirtual 75, 3) := by decide +kernel
theorem dc_Draft_followOn_87 : decode m_Draft_followOn.2.1 87 = .ok (.invokevirtual 79, 3) := by decide +kernel
theorem dc_Draft_followOn_96 : decode m_Draft_followOn.2.1 96 = .ok (.invokevirtual 83, 3) := by decide +kernel
theorem dc_Draft_followOn_66 : decode m_Draft_followOn.2.1 66 = .ok (.ireturn, 1) := by decide +kernel
theorem dc_Draft_followOn_62 : decode m_Draft_followOn.2.1 62 = .ok (.ifCond .eq 5, 3) := by decide +kernel
theorem dc_Draft_followOn_32 : decode m_Draft_followOn.2.1 32 = .ok (.if_icmp .ge 73, 3) := by decide +kernel
theorem dc_Draft_followOn_26 : decode m_Draft_followOn.2.1 26 = .ok (.if_icmp .ge 79, 3) := by decide +kernel
set_option maxRecDepth 20000 in
theorem sg_Draft_followOn_0 {kc ks : Nat} (a0 a1 : Nat) (h : am_H) (Q : Option Value → am_H → Prop) (t : (am_tg h a0 = (3, 7) ∧ (∃ b1, am_P h a0 6 = some b1 ∧ (am_tg h b1 = (2, 5) ∧ (am_Ew m_Port_clear 0 0 [.ref b1] h (fun h5 => (am_tg h5 a0 = (3, 7) ∧ (∃ b6, am_P h5 a0 6 = some b6 ∧ (am_tg h5 b6 = (2, 5) ∧ (am_Ew m_Port_copyFrom 0 0 [.ref b6, .ref a1] h5 (fun h10 => am_EI m_Draft_followOn kc ks 21 [.ref a0, .ref a1, .int 0, .float 0] [] h10 Q))))))))))) : am_EI m_Draft_followOn kc ks 0 [.ref a0, .ref a1, .float 0, .float 0] [] h Q := by
  refine am_blk_ok (c := 3) (ini := false) (by decide) rfl (fun q => by cases q) bk_Draft_followOn_0_2 _ 4 _ _ _ bk_Draft_followOn_0_2_ok rfl ?_
  show (am_tg h a0 = (3, 7) ∧ (∃ b1, am_P h a0 6 = some b1 ∧ am_EI m_Draft_followOn kc ks 4 [.ref a0, .ref a1, .float 0, .float 0] [.ref b1] h Q))
  obtain ⟨o2, b1, q3, t⟩ := t
  refine ⟨o2, b1, q3, ?_⟩
  obtain ⟨o4, t⟩ := t
  refine am_callV (M2 := m_Port_clear) (ci := 2) (a := b1) (kc := kc) (ks := ks) (k2c := 0) (k2s := 0) (as := []) [] dc_Draft_followOn_4 lk_3_68 im_Port_clear se_Port_clear lm_Port_clear np_Port_clear ⟨Nat.le_of_ble_eq_true rfl, Nat.le_of_ble_eq_true rfl⟩ (fun _ => Nat.le_of_ble_eq_true rfl) (by decide) rfl o4 (am_Ew.end (am_Ew.mono t (fun h5 t => ?_)))
  refine am_blk_ok (c := 3) (ini := false) (by decide) rfl (fun q => by cases q) bk_Draft_followOn_7_1 _ 8 _ _ _ bk_Draft_followOn_7_1_ok rfl ?_
  show am_EI m_Draft_followOn kc ks 8 [.ref a0, .ref a1, .float 0, .float 0] [.ref a1] h5 Q
  refine am_ifnull dc_Draft_followOn_8 ?_
  refine am_blk_ok (c := 3) (ini := false) (by decide) rfl (fun q => by cases q) bk_Draft_followOn_11_3 _ 16 _ _ _ bk_Draft_followOn_11_3_ok rfl ?_
  show (am_tg h5 a0 = (3, 7) ∧ (∃ b6, am_P h5 a0 6 = some b6 ∧ am_EI m_Draft_followOn kc ks 16 [.ref a0, .ref a1, .float 0, .float 0] [.ref a1, .ref b6] h5 Q))
  obtain ⟨o7, b6, q8, t⟩ := t
  refine ⟨o7, b6, q8, ?_⟩
  obtain ⟨o9, t⟩ := t
  refine am_callV (M2 := m_Port_copyFrom) (ci := 2) (a := b6) (kc := kc) (ks := ks) (k2c := 0) (k2s := 0) (as := []) [.ref a1] dc_Draft_followOn_16 lk_3_71 im_Port_copyFrom se_Port_copyFrom lm_Port_copyFrom np_Port_copyFrom ⟨Nat.le_of_ble_eq_true rfl, Nat.le_of_ble_eq_true rfl⟩ (fun _ => Nat.le_of_ble_eq_true rfl) (by decide) rfl o9 (am_Ew.end (am_Ew.mono t (fun h10 t => ?_)))
  refine am_blk_ok (c := 3) (ini := false) (by decide) rfl (fun q => by cases q) bk_Draft_followOn_19_2 _ 21 _ _ _ bk_Draft_followOn_19_2_ok rfl ?_
  show am_EI m_Draft_followOn kc ks 21 [.ref a0, .ref a1, .int 0, .float 0] [] h10 Q
  exact t
set_option maxRecDepth 20000 in
theorem ev_Draft_followOn (a0 a1 : Nat) (h : am_H) (Q : Int32 → am_H → Prop) (t : (am_tg h a0 = (3, 7) ∧ (∃ b1, am_P h a0 6 = some b1 ∧ (am_tg h b1 = (2, 5) ∧ (am_Ew m_Port_clear 0 0 [.ref b1] h (fun h5 => (am_tg h5 a0 = (3, 7) ∧ (∃ b6, am_P h5 a0 6 = some b6 ∧ (am_tg h5 b6 = (2, 5) ∧ (am_Ew m_Port_copyFrom 0 0 [.ref b6, .ref a1] h5 (fun h10 => am_EI m_Draft_followOn 0 0 21 [.ref a0, .ref a1, .int 0, .float 0] [] h10 (am_qi Q)))))))))))) : am_Ei m_Draft_followOn 0 0 [.ref a0, .ref a1] h Q :=
  am_Ev.of (by decide +kernel) (Nat.le_of_ble_eq_true rfl) (by simp only [List.mem_cons, List.not_mem_nil, or_false]; intro v hv; rcases hv with rfl | rfl; all_goals first | exact trivial) (sg_Draft_followOn_0 (kc := 0) (ks := 0) a0 a1 h (am_qi Q) t)
set_option maxRecDepth 20000 in
theorem sg_Draft_followOn_21 {kc ks : Nat} (a0 a1 : Nat) (x2 : Int32) (h : am_H) (Q : Option Value → am_H → Prop) (t : (am_tg h a0 = (3, 7) ∧ (((am_I h a0 3) ≤ x2 → Q (some (.int 0)) h) ∧ (¬ (am_I h a0 3) ≤ x2 → ((24 ≤ x2 → Q (some (.int 0)) h) ∧ (¬ 24 ≤ x2 → (∃ b4, am_P h a0 6 = some b4 ∧ (∃ b5, am_P h a0 0 = some b5 ∧ ((am_tg h b5).1 = 21 ∧ (vp_in x2 (am_tg h b5).2 ∧ (∃ b6, am_P h a0 1 = some b6 ∧ ((am_tg h b6).1 = 20 ∧ (vp_in x2 (am_tg h b6).2 ∧ (∃ b7, am_P h a0 2 = some b7 ∧ ((am_tg h b7).1 = 20 ∧ (vp_in x2 (am_tg h b7).2 ∧ (am_tg h b4 = (2, 5) ∧ (am_Ei m_Port_faultOfNext 0 0 [.ref b4, .int (am_I h b5 x2.toNatClampNeg), .int (am_I h b6 x2.toNatClampNeg), .int (am_I h b7 x2.toNatClampNeg)] h (fun r20 h19 => ((r20 = 0 → (am_tg h19 a0 = (3, 7) ∧ (∃ b22, am_P h19 a0 6 = some b22 ∧ (∃ b23, am_P h19 a0 0 = some b23 ∧ ((am_tg h19 b23).1 = 21 ∧ (vp_in x2 (am_tg h19 b23).2 ∧ (∃ b25, am_P h19 a0 1 = some b25 ∧ ((am_tg h19 b25).1 = 20 ∧ (vp_in x2 (am_tg h19 b25).2 ∧ (am_tg h19 b22 = (2, 5) ∧ (am_Ei m_Port_minuteOfNext 0 0 [.ref b22, .int (am_I h19 b25 x2.toNatClampNeg)] h19 (fun r36 h35 => (am_tg h35 a0 = (3, 7) ∧ (∃ b37, am_P h35 a0 2 = some b37 ∧ ((am_tg h35 b37).1 = 20 ∧ (vp_in x2 (am_tg h35 b37).2 ∧ (am_tg h35 b22 = (2, 5) ∧ (am_Ew m_Port_add 0 0 [.ref b22, .int (am_I h19 b23 x2.toNatClampNeg), .int r36, .int (am_I h35 b37 x2.toNatClampNeg)] h35 (fun h43 => am_EI m_Draft_followOn kc ks 21 [.ref a0, .ref a1, .int (x2 + 1), .float 0] [] h43 Q))))))))))))))))))) ∧ (¬ r20 = 0 → Q (some (.int r20)) h19))))))))))))))))))))) : am_EI m_Draft_followOn kc ks 21 [.ref a0, .ref a1, .int x2, .float 0] [] h Q := by
  refine am_blk_ok (c := 3) (ini := false) (by decide) rfl (fun q => by cases q) bk_Draft_followOn_21_3 _ 26 _ _ _ bk_Draft_followOn_21_3_ok rfl ?_
  show (am_tg h a0 = (3, 7) ∧ am_EI m_Draft_followOn kc ks 26 [.ref a0, .ref a1, .int x2, .float 0] [.int (am_I h a0 3), .int x2] h Q)
  obtain ⟨o1, t⟩ := t
  refine ⟨o1, ?_⟩
  refine am_ic_ge (tgt := 105) dc_Draft_followOn_26 (by decide) (fun c2 => ?_) (fun c2 => ?_)
  · replace t := t.1 c2
    refine am_blk_ok (c := 3) (ini := false) (by decide) rfl (fun q => by cases q) bk_Draft_followOn_105_1 _ 106 _ _ _ bk_Draft_followOn_105_1_ok rfl ?_
    show am_EI m_Draft_followOn kc ks 106 [.ref a0, .ref a1, .int x2, .float 0] [.int 0] h Q
    exact am_iret dc_Draft_followOn_106 rfl t
  · replace t := t.2 c2
    refine am_blk_ok (c := 3) (ini := false) (by decide) rfl (fun q => by cases q) bk_Draft_followOn_29_2 _ 32 _ _ _ bk_Draft_followOn_29_2_ok rfl ?_
    show am_EI m_Draft_followOn kc ks 32 [.ref a0, .ref a1, .int x2, .float 0] [.int 24, .int x2] h Q
    refine am_ic_ge (tgt := 105) dc_Draft_followOn_32 (by decide) (fun c3 => ?_) (fun c3 => ?_)
    · replace t := t.1 c3
      refine am_blk_ok (c := 3) (ini := false) (by decide) rfl (fun q => by cases q) bk_Draft_followOn_105_1 _ 106 _ _ _ bk_Draft_followOn_105_1_ok rfl ?_
      show am_EI m_Draft_followOn kc ks 106 [.ref a0, .ref a1, .int x2, .float 0] [.int 0] h Q
      exact am_iret dc_Draft_followOn_106 rfl t
    · replace t := t.2 c3
      refine am_blk_ok (c := 3) (ini := false) (by decide) rfl (fun q => by cases q) bk_Draft_followOn_35_14 _ 57 _ _ _ bk_Draft_followOn_35_14_ok rfl ?_
      show (am_tg h a0 = (3, 7) ∧ (∃ b4, am_P h a0 6 = some b4 ∧ (am_tg h a0 = (3, 7) ∧ (∃ b5, am_P h a0 0 = some b5 ∧ ((am_tg h b5).1 = 21 ∧ ((21 = 21 ∨ 21 = 22) ∧ (vp_in x2 (am_tg h b5).2 ∧ (am_tg h a0 = (3, 7) ∧ (∃ b6, am_P h a0 1 = some b6 ∧ ((am_tg h b6).1 = 20 ∧ (vp_in x2 (am_tg h b6).2 ∧ (am_tg h a0 = (3, 7) ∧ (∃ b7, am_P h a0 2 = some b7 ∧ ((am_tg h b7).1 = 20 ∧ (vp_in x2 (am_tg h b7).2 ∧ am_EI m_Draft_followOn kc ks 57 [.ref a0, .ref a1, .int x2, .float 0] [.int (am_I h b7 x2.toNatClampNeg), .int (am_I h b6 x2.toNatClampNeg), .int (am_I h b5 x2.toNatClampNeg), .ref b4] h Q)))))))))))))))
      obtain ⟨b4, q8, b5, q9, o10, o11, b6, q12, o13, o14, b7, q15, o16, o17, t⟩ := t
      refine ⟨o1, b4, q8, o1, b5, q9, o10, (by decide), o11, o1, b6, q12, o13, o14, o1, b7, q15, o16, o17, ?_⟩
      obtain ⟨o18, t⟩ := t
      refine am_callV (M2 := m_Port_faultOfNext) (ci := 2) (a := b4) (kc := kc) (ks := ks) (k2c := 0) (k2s := 0) (as := []) [.int (am_I h b5 x2.toNatClampNeg), .int (am_I h b6 x2.toNatClampNeg), .int (am_I h b7 x2.toNatClampNeg)] dc_Draft_followOn_57 lk_3_75 im_Port_faultOfNext se_Port_faultOfNext lm_Port_faultOfNext np_Port_faultOfNext ⟨Nat.le_of_ble_eq_true rfl, Nat.le_of_ble_eq_true rfl⟩ (fun _ => Nat.le_of_ble_eq_true rfl) (by decide) rfl o18 (am_Ei.end (am_Ei.mono t (fun r20 h19 t => ?_)))
      refine am_blk_ok (c := 3) (ini := false) (by decide) rfl (fun q => by cases q) bk_Draft_followOn_60_2 _ 62 _ _ _ bk_Draft_followOn_60_2_ok rfl ?_
      show am_EI m_Draft_followOn kc ks 62 [.ref a0, .ref a1, .int x2, .int r20] [.int r20] h19 Q
      refine am_if_eq (tgt := 67) dc_Draft_followOn_62 (by decide) (fun c21 => ?_) (fun c21 => ?_)
      · replace t := t.1 c21
        refine am_blk_ok (c := 3) (ini := false) (by decide) rfl (fun q => by cases q) bk_Draft_followOn_67_12 _ 87 _ _ _ bk_Draft_followOn_67_12_ok rfl ?_
        show (am_tg h19 a0 = (3, 7) ∧ (∃ b22, am_P h19 a0 6 = some b22 ∧ (am_tg h19 a0 = (3, 7) ∧ (∃ b23, am_P h19 a0 0 = some b23 ∧ ((am_tg h19 b23).1 = 21 ∧ ((21 = 21 ∨ 21 = 22) ∧ (vp_in x2 (am_tg h19 b23).2 ∧ (am_tg h19 a0 = (3, 7) ∧ (∃ b24, am_P h19 a0 6 = some b24 ∧ (am_tg h19 a0 = (3, 7) ∧ (∃ b25, am_P h19 a0 1 = some b25 ∧ ((am_tg h19 b25).1 = 20 ∧ (vp_in x2 (am_tg h19 b25).2 ∧ am_EI m_Draft_followOn kc ks 87 [.ref a0, .ref a1, .int x2, .int r20] [.int (am_I h19 b25 x2.toNatClampNeg), .ref b24, .int (am_I h19 b23 x2.toNatClampNeg), .ref b22] h19 Q)))))))))))))
        obtain ⟨o26, b22, q27, b23, q28, o29, o30, b25, q31, o32, o33, t⟩ := t
        refine ⟨o26, b22, q27, o26, b23, q28, o29, (by decide), o30, o26, b22, q27, o26, b25, q31, o32, o33, ?_⟩
        obtain ⟨o34, t⟩ := t
        refine am_callV (M2 := m_Port_minuteOfNext) (ci := 2) (a := b22) (kc := kc) (ks := ks) (k2c := 0) (k2s := 0) (as := [.int (am_I h19 b23 x2.toNatClampNeg), .ref b22]) [.int (am_I h19 b25 x2.toNatClampNeg)] dc_Draft_followOn_87 lk_3_79 im_Port_minuteOfNext se_Port_minuteOfNext lm_Port_minuteOfNext np_Port_minuteOfNext ⟨Nat.le_of_ble_eq_true rfl, Nat.le_of_ble_eq_true rfl⟩ (fun _ => Nat.le_of_ble_eq_true rfl) (by decide) rfl o34 (am_Ei.end (am_Ei.mono t (fun r36 h35 t => ?_)))
        refine am_blk_ok (c := 3) (ini := false) (by decide) rfl (fun q => by cases q) bk_Draft_followOn_90_4 _ 96 _ _ _ bk_Draft_followOn_90_4_ok rfl ?_
        show (am_tg h35 a0 = (3, 7) ∧ (∃ b37, am_P h35 a0 2 = some b37 ∧ ((am_tg h35 b37).1 = 20 ∧ (vp_in x2 (am_tg h35 b37).2 ∧ am_EI m_Draft_followOn kc ks 96 [.ref a0, .ref a1, .int x2, .int r20] [.int (am_I h35 b37 x2.toNatClampNeg), .int r36, .int (am_I h19 b23 x2.toNatClampNeg), .ref b22] h35 Q))))
        obtain ⟨o38, b37, q39, o40, o41, t⟩ := t
        refine ⟨o38, b37, q39, o40, o41, ?_⟩
        obtain ⟨o42, t⟩ := t
        refine am_callV (M2 := m_Port_add) (ci := 2) (a := b22) (kc := kc) (ks := ks) (k2c := 0) (k2s := 0) (as := []) [.int (am_I h19 b23 x2.toNatClampNeg), .int r36, .int (am_I h35 b37 x2.toNatClampNeg)] dc_Draft_followOn_96 lk_3_83 im_Port_add se_Port_add lm_Port_add np_Port_add ⟨Nat.le_of_ble_eq_true rfl, Nat.le_of_ble_eq_true rfl⟩ (fun _ => Nat.le_of_ble_eq_true rfl) (by decide) rfl o42 (am_Ew.end (am_Ew.mono t (fun h43 t => ?_)))
        refine am_blk_ok (c := 3) (ini := false) (by decide) rfl (fun q => by cases q) bk_Draft_followOn_99_2 _ 21 _ _ _ bk_Draft_followOn_99_2_ok rfl ?_
        show am_EI m_Draft_followOn kc ks 21 [.ref a0, .ref a1, .int (x2 + 1), .int r20] [] h43 Q
        refine am_EI.fg 3 ?_
        show am_EI m_Draft_followOn kc ks 21 [.ref a0, .ref a1, .int (x2 + 1), .float 0] [] h43 Q
        exact t
      · replace t := t.2 c21
        refine am_blk_ok (c := 3) (ini := false) (by decide) rfl (fun q => by cases q) bk_Draft_followOn_65_1 _ 66 _ _ _ bk_Draft_followOn_65_1_ok rfl ?_
        show am_EI m_Draft_followOn kc ks 66 [.ref a0, .ref a1, .int x2, .int r20] [.int r20] h19 Q
        exact am_iret dc_Draft_followOn_66 rfl t
def bk_Draft_init_0_1 : List am_E := [(0, .aload_n 0, 1, 0, 0)]
theorem bk_Draft_init_0_1_ok : bk_Draft_init_0_1.all (am_ok 3 true m_Draft_init.2.1) = true := by decide +kernel
def bk_Draft_init_4_2 : List am_E := [(4, .aload_n 0, 1, 0, 0), (5, .bipush 24, 2, 0, 24)]
theorem bk_Draft_init_4_2_ok : bk_Draft_init_4_2.all (am_ok 3 true m_Draft_init.2.1) = true := by decide +kernel
def bk_Draft_init_9_3 : List am_E := [(9, .putfield 9, 3, 1201, 0), (12, .aload_n 0, 1, 0, 0), (13, .bipush 24, 2, 0, 24)]
theorem bk_Draft_init_9_3_ok : bk_Draft_init_9_3.all (am_ok 3 true m_Draft_init.2.1) = true := by decide +kernel
def bk_Draft_init_17_3 : List am_E := [(17, .putfield 13, 3, 1205, 0), (20, .aload_n 0, 1, 0, 0), (21, .bipush 24, 2, 0, 24)]
theorem bk_Draft_init_17_3_ok : bk_Draft_init_17_3.all (am_ok 3 true m_Draft_init.2.1) = true := by decide +kernel
def bk_Draft_init_25_5 : List am_E := [(25, .putfield 17, 3, 1209, 0), (28, .aload_n 0, 1, 0, 0), (29, .iconst 0, 1, 0, 0), (30, .putfield 20, 3, 1212, 0), (33, .aload_n 0, 1, 0, 0)]
theorem bk_Draft_init_25_5_ok : bk_Draft_init_25_5.all (am_ok 3 true m_Draft_init.2.1) = true := by decide +kernel
def bk_Draft_init_37_1 : List am_E := [(37, .dup, 1, 0, 0)]
theorem bk_Draft_init_37_1_ok : bk_Draft_init_37_1.all (am_ok 3 true m_Draft_init.2.1) = true := by decide +kernel
def bk_Draft_init_41_2 : List am_E := [(41, .putfield 27, 3, 1217, 0), (44, .aload_n 0, 1, 0, 0)]
theorem bk_Draft_init_41_2_ok : bk_Draft_init_41_2.all (am_ok 3 true m_Draft_init.2.1) = true := by decide +kernel
def bk_Draft_init_48_1 : List am_E := [(48, .dup, 1, 0, 0)]
theorem bk_Draft_init_48_1_ok : bk_Draft_init_48_1.all (am_ok 3 true m_Draft_init.2.1) = true := by decide +kernel
def bk_Draft_init_52_2 : List am_E := [(52, .putfield 31, 3, 1221, 0), (55, .aload_n 0, 1, 0, 0)]
theorem bk_Draft_init_52_2_ok : bk_Draft_init_52_2.all (am_ok 3 true m_Draft_init.2.1) = true := by decide +kernel
def bk_Draft_init_59_2 : List am_E := [(59, .dup, 1, 0, 0), (60, .bipush 40, 2, 0, 40)]
theorem bk_Draft_init_59_2_ok : bk_Draft_init_59_2.all (am_ok 3 true m_Draft_init.2.1) = true := by decide +kernel
def bk_Draft_init_65_1 : List am_E := [(65, .putfield 39, 3, 1225, 0)]
theorem bk_Draft_init_65_1_ok : bk_Draft_init_65_1.all (am_ok 3 true m_Draft_init.2.1) = true := by decide +kernel
theorem dc_Draft_init_38 : decode m_Draft_init.2.1 38 = .ok (.invokespecial 26, 3) := by decide +kernel
theorem dc_Draft_init_49 : decode m_Draft_init.2.1 49 = .ok (.invokespecial 26, 3) := by decide +kernel
theorem dc_Draft_init_62 : decode m_Draft_init.2.1 62 = .ok (.invokespecial 36, 3) := by decide +kernel
theorem dc_Draft_init_68 : decode m_Draft_init.2.1 68 = .ok (.return_, 1) := by decide +kernel
theorem dc_Draft_init_56 : decode m_Draft_init.2.1 56 = .ok (.new 34, 3) := by decide +kernel
theorem dc_Draft_init_45 : decode m_Draft_init.2.1 45 = .ok (.new 24, 3) := by decide +kernel
theorem dc_Draft_init_34 : decode m_Draft_init.2.1 34 = .ok (.new 24, 3) := by decide +kernel
theorem dc_Draft_init_23 : decode m_Draft_init.2.1 23 = .ok (.newarray .int, 2) := by decide +kernel
theorem dc_Draft_init_15 : decode m_Draft_init.2.1 15 = .ok (.newarray .int, 2) := by decide +kernel
theorem dc_Draft_init_7 : decode m_Draft_init.2.1 7 = .ok (.newarray .boolean, 2) := by decide +kernel
theorem dc_Draft_init_1 : decode m_Draft_init.2.1 1 = .ok (.invokespecial 1, 3) := by decide +kernel
set_option maxRecDepth 20000 in
theorem sg_Draft_init_0 {kc ks : Nat} (a0 : Nat) (h : am_H) (Q : Option Value → am_H → Prop) (t : (am_tg (am_nw h 21 24) a0 = (3, 7) ∧ (am_tg (am_nw (am_sp (am_nw h 21 24) a0 0 (some (am_sz h))) 20 24) a0 = (3, 7) ∧ (am_tg (am_nw (am_sp (am_nw (am_sp (am_nw h 21 24) a0 0 (some (am_sz h))) 20 24) a0 1 (some (am_sz (am_nw h 21 24)))) 20 24) a0 = (3, 7) ∧ (am_Ew m_Shift_init 0 0 [.ref (am_sz (am_nw (am_sp (am_nw (am_sp (am_nw h 21 24) a0 0 (some (am_sz h))) 20 24) a0 1 (some (am_sz (am_nw h 21 24)))) 20 24))] (am_nw (am_si (am_sp (am_nw (am_sp (am_nw (am_sp (am_nw h 21 24) a0 0 (some (am_sz h))) 20 24) a0 1 (some (am_sz (am_nw h 21 24)))) 20 24) a0 2 (some (am_sz (am_nw (am_sp (am_nw h 21 24) a0 0 (some (am_sz h))) 20 24)))) a0 3 0) 5 5) (fun h4 => (am_tg h4 a0 = (3, 7) ∧ (am_Ew m_Shift_init 0 0 [.ref (am_sz h4)] (am_nw (am_sp h4 a0 4 (some (am_sz (am_nw (am_sp (am_nw (am_sp (am_nw h 21 24) a0 0 (some (am_sz h))) 20 24) a0 1 (some (am_sz (am_nw h 21 24)))) 20 24)))) 5 5) (fun h6 => (am_tg h6 a0 = (3, 7) ∧ (am_Ew m_Port_init 3 120 [.ref (am_sz h6), .int 40] (am_nw (am_sp h6 a0 5 (some (am_sz h4))) 2 5) (fun h8 => (am_tg h8 a0 = (3, 7) ∧ Q none (am_sp h8 a0 6 (some (am_sz h6)))))))))))))))) : am_EI m_Draft_init (kc + 3 + 1 + 1 + 1 + 1 + 1 + 1) (ks + 120 + 5 + 5 + 5 + 24 + 24 + 24) 0 [.ref a0] [] h Q := by
  refine am_blk_ok (c := 3) (ini := true) (by decide) rfl (fun _ => rfl) bk_Draft_init_0_1 _ 1 _ _ _ bk_Draft_init_0_1_ok rfl ?_
  show am_EI m_Draft_init (kc + 3 + 1 + 1 + 1 + 1 + 1 + 1) (ks + 120 + 5 + 5 + 5 + 24 + 24 + 24) 1 [.ref a0] [.ref a0] h Q
  refine am_oinit (a := a0) dc_Draft_init_1 lk_3_1 oi_2 oi_3 (by decide) (by decide) ?_
  refine am_blk_ok (c := 3) (ini := true) (by decide) rfl (fun _ => rfl) bk_Draft_init_4_2 _ 7 _ _ _ bk_Draft_init_4_2_ok rfl ?_
  show am_EI m_Draft_init (kc + 3 + 1 + 1 + 1 + 1 + 1 + 1) (ks + 120 + 5 + 5 + 5 + 24 + 24 + 24) 7 [.ref a0] [.int 24, .ref a0] h Q
  refine am_newa (kc := (kc + 3 + 1 + 1 + 1 + 1 + 1)) (ks := (ks + 120 + 5 + 5 + 5 + 24 + 24)) (kd := 21) (N := 24) dc_Draft_init_7 (by decide) ac_boolean (by decide) (by decide) (by decide) ?_
  refine am_blk_ok (c := 3) (ini := true) (by decide) rfl (fun _ => rfl) bk_Draft_init_9_3 _ 15 _ _ _ bk_Draft_init_9_3_ok rfl ?_
  show (am_tg (am_nw h 21 24) a0 = (3, 7) ∧ am_EI m_Draft_init (kc + 3 + 1 + 1 + 1 + 1 + 1) (ks + 120 + 5 + 5 + 5 + 24 + 24) 15 [.ref a0] [.int 24, .ref a0] (am_sp (am_nw h 21 24) a0 0 (some (am_sz h))) Q)
  obtain ⟨o1, t⟩ := t
  refine ⟨o1, ?_⟩
  refine am_newa (kc := (kc + 3 + 1 + 1 + 1 + 1)) (ks := (ks + 120 + 5 + 5 + 5 + 24)) (kd := 20) (N := 24) dc_Draft_init_15 (by decide) ac_int (by decide) (by decide) (by decide) ?_
  refine am_blk_ok (c := 3) (ini := true) (by decide) rfl (fun _ => rfl) bk_Draft_init_17_3 _ 23 _ _ _ bk_Draft_init_17_3_ok rfl ?_
  show (am_tg (am_nw (am_sp (am_nw h 21 24) a0 0 (some (am_sz h))) 20 24) a0 = (3, 7) ∧ am_EI m_Draft_init (kc + 3 + 1 + 1 + 1 + 1) (ks + 120 + 5 + 5 + 5 + 24) 23 [.ref a0] [.int 24, .ref a0] (am_sp (am_nw (am_sp (am_nw h 21 24) a0 0 (some (am_sz h))) 20 24) a0 1 (some (am_sz (am_nw h 21 24)))) Q)
  obtain ⟨o2, t⟩ := t
  refine ⟨o2, ?_⟩
  refine am_newa (kc := (kc + 3 + 1 + 1 + 1)) (ks := (ks + 120 + 5 + 5 + 5)) (kd := 20) (N := 24) dc_Draft_init_23 (by decide) ac_int (by decide) (by decide) (by decide) ?_
  refine am_blk_ok (c := 3) (ini := true) (by decide) rfl (fun _ => rfl) bk_Draft_init_25_5 _ 34 _ _ _ bk_Draft_init_25_5_ok rfl ?_
  show (am_tg (am_nw (am_sp (am_nw (am_sp (am_nw h 21 24) a0 0 (some (am_sz h))) 20 24) a0 1 (some (am_sz (am_nw h 21 24)))) 20 24) a0 = (3, 7) ∧ (am_tg (am_nw (am_sp (am_nw (am_sp (am_nw h 21 24) a0 0 (some (am_sz h))) 20 24) a0 1 (some (am_sz (am_nw h 21 24)))) 20 24) a0 = (3, 7) ∧ am_EI m_Draft_init (kc + 3 + 1 + 1 + 1) (ks + 120 + 5 + 5 + 5) 34 [.ref a0] [.ref a0] (am_si (am_sp (am_nw (am_sp (am_nw (am_sp (am_nw h 21 24) a0 0 (some (am_sz h))) 20 24) a0 1 (some (am_sz (am_nw h 21 24)))) 20 24) a0 2 (some (am_sz (am_nw (am_sp (am_nw h 21 24) a0 0 (some (am_sz h))) 20 24)))) a0 3 0) Q))
  obtain ⟨o3, t⟩ := t
  refine ⟨o3, o3, ?_⟩
  refine am_new (kc := (kc + 3 + 1 + 1)) (ks := (ks + 120 + 5 + 5)) (ci := 5) dc_Draft_init_34 (by decide) cl_3_24 in_5 ii_5 ?_
  refine am_blk_ok (c := 3) (ini := true) (by decide) rfl (fun _ => rfl) bk_Draft_init_37_1 _ 38 _ _ _ bk_Draft_init_37_1_ok rfl ?_
  show am_EI m_Draft_init (kc + 3 + 1 + 1) (ks + 120 + 5 + 5) 38 [.ref a0] [.ref (am_sz (am_nw (am_sp (am_nw (am_sp (am_nw h 21 24) a0 0 (some (am_sz h))) 20 24) a0 1 (some (am_sz (am_nw h 21 24)))) 20 24)), .ref (am_sz (am_nw (am_sp (am_nw (am_sp (am_nw h 21 24) a0 0 (some (am_sz h))) 20 24) a0 1 (some (am_sz (am_nw h 21 24)))) 20 24)), .ref a0] (am_nw (am_si (am_sp (am_nw (am_sp (am_nw (am_sp (am_nw h 21 24) a0 0 (some (am_sz h))) 20 24) a0 1 (some (am_sz (am_nw h 21 24)))) 20 24) a0 2 (some (am_sz (am_nw (am_sp (am_nw h 21 24) a0 0 (some (am_sz h))) 20 24)))) a0 3 0) 5 5) Q
  refine am_callIN (M2 := m_Shift_init) (host := "SillHours") (a := am_sz (am_nw (am_sp (am_nw (am_sp (am_nw h 21 24) a0 0 (some (am_sz h))) 20 24) a0 1 (some (am_sz (am_nw h 21 24)))) 20 24)) (kc := (kc + 3 + 1 + 1)) (ks := (ks + 120 + 5 + 5)) (k2c := 0) (k2s := 0) (as := [.ref (am_sz (am_nw (am_sp (am_nw (am_sp (am_nw h 21 24) a0 0 (some (am_sz h))) 20 24) a0 1 (some (am_sz (am_nw h 21 24)))) 20 24)), .ref a0]) [] dc_Draft_init_38 (by decide) im_Shift_init rfl rfl lm_Shift_init np_Shift_init ⟨Nat.le_of_ble_eq_true rfl, Nat.le_of_ble_eq_true rfl⟩ (fun _ => Nat.le_of_ble_eq_true rfl) (am_Ew.end (am_Ew.mono t (fun h4 t => ?_)))
  refine am_blk_ok (c := 3) (ini := true) (by decide) rfl (fun _ => rfl) bk_Draft_init_41_2 _ 45 _ _ _ bk_Draft_init_41_2_ok rfl ?_
  show (am_tg h4 a0 = (3, 7) ∧ am_EI m_Draft_init (kc + 3 + 1 + 1) (ks + 120 + 5 + 5) 45 [.ref a0] [.ref a0] (am_sp h4 a0 4 (some (am_sz (am_nw (am_sp (am_nw (am_sp (am_nw h 21 24) a0 0 (some (am_sz h))) 20 24) a0 1 (some (am_sz (am_nw h 21 24)))) 20 24)))) Q)
  obtain ⟨o5, t⟩ := t
  refine ⟨o5, ?_⟩
  refine am_new (kc := (kc + 3 + 1)) (ks := (ks + 120 + 5)) (ci := 5) dc_Draft_init_45 (by decide) cl_3_24 in_5 ii_5 ?_
  refine am_blk_ok (c := 3) (ini := true) (by decide) rfl (fun _ => rfl) bk_Draft_init_48_1 _ 49 _ _ _ bk_Draft_init_48_1_ok rfl ?_
  show am_EI m_Draft_init (kc + 3 + 1) (ks + 120 + 5) 49 [.ref a0] [.ref (am_sz h4), .ref (am_sz h4), .ref a0] (am_nw (am_sp h4 a0 4 (some (am_sz (am_nw (am_sp (am_nw (am_sp (am_nw h 21 24) a0 0 (some (am_sz h))) 20 24) a0 1 (some (am_sz (am_nw h 21 24)))) 20 24)))) 5 5) Q
  refine am_callIN (M2 := m_Shift_init) (host := "SillHours") (a := am_sz h4) (kc := (kc + 3 + 1)) (ks := (ks + 120 + 5)) (k2c := 0) (k2s := 0) (as := [.ref (am_sz h4), .ref a0]) [] dc_Draft_init_49 (by decide) im_Shift_init rfl rfl lm_Shift_init np_Shift_init ⟨Nat.le_of_ble_eq_true rfl, Nat.le_of_ble_eq_true rfl⟩ (fun _ => Nat.le_of_ble_eq_true rfl) (am_Ew.end (am_Ew.mono t (fun h6 t => ?_)))
  refine am_blk_ok (c := 3) (ini := true) (by decide) rfl (fun _ => rfl) bk_Draft_init_52_2 _ 56 _ _ _ bk_Draft_init_52_2_ok rfl ?_
  show (am_tg h6 a0 = (3, 7) ∧ am_EI m_Draft_init (kc + 3 + 1) (ks + 120 + 5) 56 [.ref a0] [.ref a0] (am_sp h6 a0 5 (some (am_sz h4))) Q)
  obtain ⟨o7, t⟩ := t
  refine ⟨o7, ?_⟩
  refine am_new (kc := (kc + 3)) (ks := (ks + 120)) (ci := 2) dc_Draft_init_56 (by decide) cl_3_34 in_2 ii_2 ?_
  refine am_blk_ok (c := 3) (ini := true) (by decide) rfl (fun _ => rfl) bk_Draft_init_59_2 _ 62 _ _ _ bk_Draft_init_59_2_ok rfl ?_
  show am_EI m_Draft_init (kc + 3) (ks + 120) 62 [.ref a0] [.int 40, .ref (am_sz h6), .ref (am_sz h6), .ref a0] (am_nw (am_sp h6 a0 5 (some (am_sz h4))) 2 5) Q
  refine am_callI (M2 := m_Port_init) (a := am_sz h6) (kc := kc) (ks := ks) (k2c := 3) (k2s := 120) (as := [.ref (am_sz h6), .ref a0]) [.int 40] dc_Draft_init_62 lk_3_36 im_Port_init rfl rfl lm_Port_init np_Port_init ⟨Nat.le_of_ble_eq_true rfl, Nat.le_of_ble_eq_true rfl⟩ (fun _ => Nat.le_of_ble_eq_true rfl) (am_Ew.end (am_Ew.mono t (fun h8 t => ?_)))
  refine am_blk_ok (c := 3) (ini := true) (by decide) rfl (fun _ => rfl) bk_Draft_init_65_1 _ 68 _ _ _ bk_Draft_init_65_1_ok rfl ?_
  show (am_tg h8 a0 = (3, 7) ∧ am_EI m_Draft_init kc ks 68 [.ref a0] [] (am_sp h8 a0 6 (some (am_sz h6))) Q)
  obtain ⟨o9, t⟩ := t
  refine ⟨o9, ?_⟩
  exact am_vret dc_Draft_init_68 rfl t
set_option maxRecDepth 20000 in
theorem ev_Draft_init (a0 : Nat) (h : am_H) (Q : am_H → Prop) (t : (am_tg (am_nw h 21 24) a0 = (3, 7) ∧ (am_tg (am_nw (am_sp (am_nw h 21 24) a0 0 (some (am_sz h))) 20 24) a0 = (3, 7) ∧ (am_tg (am_nw (am_sp (am_nw (am_sp (am_nw h 21 24) a0 0 (some (am_sz h))) 20 24) a0 1 (some (am_sz (am_nw h 21 24)))) 20 24) a0 = (3, 7) ∧ (am_Ew m_Shift_init 0 0 [.ref (am_sz (am_nw (am_sp (am_nw (am_sp (am_nw h 21 24) a0 0 (some (am_sz h))) 20 24) a0 1 (some (am_sz (am_nw h 21 24)))) 20 24))] (am_nw (am_si (am_sp (am_nw (am_sp (am_nw (am_sp (am_nw h 21 24) a0 0 (some (am_sz h))) 20 24) a0 1 (some (am_sz (am_nw h 21 24)))) 20 24) a0 2 (some (am_sz (am_nw (am_sp (am_nw h 21 24) a0 0 (some (am_sz h))) 20 24)))) a0 3 0) 5 5) (fun h4 => (am_tg h4 a0 = (3, 7) ∧ (am_Ew m_Shift_init 0 0 [.ref (am_sz h4)] (am_nw (am_sp h4 a0 4 (some (am_sz (am_nw (am_sp (am_nw (am_sp (am_nw h 21 24) a0 0 (some (am_sz h))) 20 24) a0 1 (some (am_sz (am_nw h 21 24)))) 20 24)))) 5 5) (fun h6 => (am_tg h6 a0 = (3, 7) ∧ (am_Ew m_Port_init 3 120 [.ref (am_sz h6), .int 40] (am_nw (am_sp h6 a0 5 (some (am_sz h4))) 2 5) (fun h8 => (am_tg h8 a0 = (3, 7) ∧ Q (am_sp h8 a0 6 (some (am_sz h6)))))))))))))))) : am_Ew m_Draft_init (0 + 3 + 1 + 1 + 1 + 1 + 1 + 1) (0 + 120 + 5 + 5 + 5 + 24 + 24 + 24) [.ref a0] h Q :=
  am_Ev.of (by decide +kernel) (Nat.le_of_ble_eq_true rfl) (by simp only [List.mem_cons, List.not_mem_nil, or_false]; intro v hv; rcases hv with rfl; all_goals first | exact trivial) (sg_Draft_init_0 (kc := 0) (ks := 0) a0 h (am_qw Q) t)
def bk_Draft_made_0_2 : List am_E := [(0, .aload_n 0, 1, 0, 0), (1, .getfield 39, 3, 1225, 0)]
theorem bk_Draft_made_0_2_ok : bk_Draft_made_0_2.all (am_ok 3 false m_Draft_made.2.1) = true := by decide +kernel
theorem dc_Draft_made_4 : decode m_Draft_made.2.1 4 = .ok (.areturn, 1) := by decide +kernel
set_option maxRecDepth 20000 in
theorem sg_Draft_made_0 {kc ks : Nat} (a0 : Nat) (h : am_H) (Q : Option Value → am_H → Prop) (t : (am_tg h a0 = (3, 7) ∧ (∃ b1, am_P h a0 6 = some b1 ∧ Q (some (.ref b1)) h))) : am_EI m_Draft_made kc ks 0 [.ref a0] [] h Q := by
  refine am_blk_ok (c := 3) (ini := false) (by decide) rfl (fun q => by cases q) bk_Draft_made_0_2 _ 4 _ _ _ bk_Draft_made_0_2_ok rfl ?_
  show (am_tg h a0 = (3, 7) ∧ (∃ b1, am_P h a0 6 = some b1 ∧ am_EI m_Draft_made kc ks 4 [.ref a0] [.ref b1] h Q))
  obtain ⟨o2, b1, q3, t⟩ := t
  refine ⟨o2, b1, q3, ?_⟩
  exact am_aret (o := some b1) dc_Draft_made_4 rfl rfl t
set_option maxRecDepth 20000 in
theorem ev_Draft_made (a0 : Nat) (h : am_H) (Q : Option Nat → am_H → Prop) (t : (am_tg h a0 = (3, 7) ∧ (∃ b1, am_P h a0 6 = some b1 ∧ Q (some b1) h))) : am_Er m_Draft_made 0 0 [.ref a0] h Q :=
  am_Ev.of (by decide +kernel) (Nat.le_of_ble_eq_true rfl) (by simp only [List.mem_cons, List.not_mem_nil, or_false]; intro v hv; rcases hv with rfl; all_goals first | exact trivial) (sg_Draft_made_0 (kc := 0) (ks := 0) a0 h (am_qr Q) t)
def bk_Draft_readDifferences_0_2 : List am_E := [(0, .aload_n 1, 1, 0, 0), (1, .ldc 53, 2, 1, 0)]
theorem bk_Draft_readDifferences_0_2_ok : bk_Draft_readDifferences_0_2.all (am_ok 3 false m_Draft_readDifferences.2.1) = true := by decide +kernel
def bk_Draft_readDifferences_6_3 : List am_E := [(6, .aload_n 0, 1, 0, 0), (7, .getfield 27, 3, 1217, 0), (10, .aload_n 1, 1, 0, 0)]
theorem bk_Draft_readDifferences_6_3_ok : bk_Draft_readDifferences_6_3.all (am_ok 3 false m_Draft_readDifferences.2.1) = true := by decide +kernel
def bk_Draft_readDifferences_14_2 : List am_E := [(14, .aload_n 1, 1, 0, 0), (15, .bipush 44, 2, 0, 44)]
theorem bk_Draft_readDifferences_14_2_ok : bk_Draft_readDifferences_14_2.all (am_ok 3 false m_Draft_readDifferences.2.1) = true := by decide +kernel
def bk_Draft_readDifferences_20_2 : List am_E := [(20, .aload_n 1, 1, 0, 0), (21, .ldc 66, 2, 2, 0)]
theorem bk_Draft_readDifferences_20_2_ok : bk_Draft_readDifferences_20_2.all (am_ok 3 false m_Draft_readDifferences.2.1) = true := by decide +kernel
def bk_Draft_readDifferences_26_3 : List am_E := [(26, .aload_n 0, 1, 0, 0), (27, .getfield 31, 3, 1221, 0), (30, .aload_n 1, 1, 0, 0)]
theorem bk_Draft_readDifferences_26_3_ok : bk_Draft_readDifferences_26_3.all (am_ok 3 false m_Draft_readDifferences.2.1) = true := by decide +kernel
theorem dc_Draft_readDifferences_3 : decode m_Draft_readDifferences.2.1 3 = .ok (.invokevirtual 55, 3) := by decide +kernel
theorem dc_Draft_readDifferences_11 : decode m_Draft_readDifferences.2.1 11 = .ok (.invokevirtual 59, 3) := by decide +kernel
theorem dc_Draft_readDifferences_17 : decode m_Draft_readDifferences.2.1 17 = .ok (.invokevirtual 62, 3) := by decide +kernel
theorem dc_Draft_readDifferences_23 : decode m_Draft_readDifferences.2.1 23 = .ok (.invokevirtual 55, 3) := by decide +kernel
theorem dc_Draft_readDifferences_31 : decode m_Draft_readDifferences.2.1 31 = .ok (.invokevirtual 59, 3) := by decide +kernel
theorem dc_Draft_readDifferences_34 : decode m_Draft_readDifferences.2.1 34 = .ok (.return_, 1) := by decide +kernel
set_option maxRecDepth 20000 in
theorem sg_Draft_readDifferences_0 {kc ks : Nat} (a0 a1 : Nat) (h : am_H) (Q : Option Value → am_H → Prop) (t : (am_tg h a1 = (9, 4) ∧ (am_Ew m_Tape_wantWord 0 0 [.ref a1, .retAddr 0] h (fun h2 => (am_tg h2 a0 = (3, 7) ∧ (∃ b3, am_P h2 a0 4 = some b3 ∧ (am_tg h2 b3 = (5, 5) ∧ (am_Ew m_Shift_readFrom 0 0 [.ref b3, .ref a1] h2 (fun h7 => (am_tg h7 a1 = (9, 4) ∧ (am_Ew m_Tape_wantMark 0 0 [.ref a1, .int 44] h7 (fun h9 => (am_tg h9 a1 = (9, 4) ∧ (am_Ew m_Tape_wantWord 0 0 [.ref a1, .retAddr 1] h9 (fun h11 => (am_tg h11 a0 = (3, 7) ∧ (∃ b12, am_P h11 a0 5 = some b12 ∧ (am_tg h11 b12 = (5, 5) ∧ (am_Ew m_Shift_readFrom 0 0 [.ref b12, .ref a1] h11 (fun h16 => Q none h16)))))))))))))))))))) : am_EI m_Draft_readDifferences kc ks 0 [.ref a0, .ref a1] [] h Q := by
  refine am_blk_ok (c := 3) (ini := false) (by decide) rfl (fun q => by cases q) bk_Draft_readDifferences_0_2 _ 3 _ _ _ bk_Draft_readDifferences_0_2_ok rfl ?_
  show am_EI m_Draft_readDifferences kc ks 3 [.ref a0, .ref a1] [.retAddr 0, .ref a1] h Q
  obtain ⟨o1, t⟩ := t
  refine am_callV (M2 := m_Tape_wantWord) (ci := 9) (a := a1) (kc := kc) (ks := ks) (k2c := 0) (k2s := 0) (as := []) [.retAddr 0] dc_Draft_readDifferences_3 lk_3_55 im_Tape_wantWord se_Tape_wantWord lm_Tape_wantWord np_Tape_wantWord ⟨Nat.le_of_ble_eq_true rfl, Nat.le_of_ble_eq_true rfl⟩ (fun _ => Nat.le_of_ble_eq_true rfl) (by decide) rfl o1 (am_Ew.end (am_Ew.mono t (fun h2 t => ?_)))
  refine am_blk_ok (c := 3) (ini := false) (by decide) rfl (fun q => by cases q) bk_Draft_readDifferences_6_3 _ 11 _ _ _ bk_Draft_readDifferences_6_3_ok rfl ?_
  show (am_tg h2 a0 = (3, 7) ∧ (∃ b3, am_P h2 a0 4 = some b3 ∧ am_EI m_Draft_readDifferences kc ks 11 [.ref a0, .ref a1] [.ref a1, .ref b3] h2 Q))
  obtain ⟨o4, b3, q5, t⟩ := t
  refine ⟨o4, b3, q5, ?_⟩
  obtain ⟨o6, t⟩ := t
  refine am_callV (M2 := m_Shift_readFrom) (ci := 5) (a := b3) (kc := kc) (ks := ks) (k2c := 0) (k2s := 0) (as := []) [.ref a1] dc_Draft_readDifferences_11 lk_3_59 im_Shift_readFrom se_Shift_readFrom lm_Shift_readFrom np_Shift_readFrom ⟨Nat.le_of_ble_eq_true rfl, Nat.le_of_ble_eq_true rfl⟩ (fun _ => Nat.le_of_ble_eq_true rfl) (by decide) rfl o6 (am_Ew.end (am_Ew.mono t (fun h7 t => ?_)))
  refine am_blk_ok (c := 3) (ini := false) (by decide) rfl (fun q => by cases q) bk_Draft_readDifferences_14_2 _ 17 _ _ _ bk_Draft_readDifferences_14_2_ok rfl ?_
  show am_EI m_Draft_readDifferences kc ks 17 [.ref a0, .ref a1] [.int 44, .ref a1] h7 Q
  obtain ⟨o8, t⟩ := t
  refine am_callV (M2 := m_Tape_wantMark) (ci := 9) (a := a1) (kc := kc) (ks := ks) (k2c := 0) (k2s := 0) (as := []) [.int 44] dc_Draft_readDifferences_17 lk_3_62 im_Tape_wantMark se_Tape_wantMark lm_Tape_wantMark np_Tape_wantMark ⟨Nat.le_of_ble_eq_true rfl, Nat.le_of_ble_eq_true rfl⟩ (fun _ => Nat.le_of_ble_eq_true rfl) (by decide) rfl o8 (am_Ew.end (am_Ew.mono t (fun h9 t => ?_)))
  refine am_blk_ok (c := 3) (ini := false) (by decide) rfl (fun q => by cases q) bk_Draft_readDifferences_20_2 _ 23 _ _ _ bk_Draft_readDifferences_20_2_ok rfl ?_
  show am_EI m_Draft_readDifferences kc ks 23 [.ref a0, .ref a1] [.retAddr 1, .ref a1] h9 Q
  obtain ⟨o10, t⟩ := t
  refine am_callV (M2 := m_Tape_wantWord) (ci := 9) (a := a1) (kc := kc) (ks := ks) (k2c := 0) (k2s := 0) (as := []) [.retAddr 1] dc_Draft_readDifferences_23 lk_3_55 im_Tape_wantWord se_Tape_wantWord lm_Tape_wantWord np_Tape_wantWord ⟨Nat.le_of_ble_eq_true rfl, Nat.le_of_ble_eq_true rfl⟩ (fun _ => Nat.le_of_ble_eq_true rfl) (by decide) rfl o10 (am_Ew.end (am_Ew.mono t (fun h11 t => ?_)))
  refine am_blk_ok (c := 3) (ini := false) (by decide) rfl (fun q => by cases q) bk_Draft_readDifferences_26_3 _ 31 _ _ _ bk_Draft_readDifferences_26_3_ok rfl ?_
  show (am_tg h11 a0 = (3, 7) ∧ (∃ b12, am_P h11 a0 5 = some b12 ∧ am_EI m_Draft_readDifferences kc ks 31 [.ref a0, .ref a1] [.ref a1, .ref b12] h11 Q))
  obtain ⟨o13, b12, q14, t⟩ := t
  refine ⟨o13, b12, q14, ?_⟩
  obtain ⟨o15, t⟩ := t
  refine am_callV (M2 := m_Shift_readFrom) (ci := 5) (a := b12) (kc := kc) (ks := ks) (k2c := 0) (k2s := 0) (as := []) [.ref a1] dc_Draft_readDifferences_31 lk_3_59 im_Shift_readFrom se_Shift_readFrom lm_Shift_readFrom np_Shift_readFrom ⟨Nat.le_of_ble_eq_true rfl, Nat.le_of_ble_eq_true rfl⟩ (fun _ => Nat.le_of_ble_eq_true rfl) (by decide) rfl o15 (am_Ew.end (am_Ew.mono t (fun h16 t => ?_)))
  exact am_vret dc_Draft_readDifferences_34 rfl t
set_option maxRecDepth 20000 in
theorem ev_Draft_readDifferences (a0 a1 : Nat) (h : am_H) (Q : am_H → Prop) (t : (am_tg h a1 = (9, 4) ∧ (am_Ew m_Tape_wantWord 0 0 [.ref a1, .retAddr 0] h (fun h2 => (am_tg h2 a0 = (3, 7) ∧ (∃ b3, am_P h2 a0 4 = some b3 ∧ (am_tg h2 b3 = (5, 5) ∧ (am_Ew m_Shift_readFrom 0 0 [.ref b3, .ref a1] h2 (fun h7 => (am_tg h7 a1 = (9, 4) ∧ (am_Ew m_Tape_wantMark 0 0 [.ref a1, .int 44] h7 (fun h9 => (am_tg h9 a1 = (9, 4) ∧ (am_Ew m_Tape_wantWord 0 0 [.ref a1, .retAddr 1] h9 (fun h11 => (am_tg h11 a0 = (3, 7) ∧ (∃ b12, am_P h11 a0 5 = some b12 ∧ (am_tg h11 b12 = (5, 5) ∧ (am_Ew m_Shift_readFrom 0 0 [.ref b12, .ref a1] h11 (fun h16 => Q h16)))))))))))))))))))) : am_Ew m_Draft_readDifferences 0 0 [.ref a0, .ref a1] h Q :=
  am_Ev.of (by decide +kernel) (Nat.le_of_ble_eq_true rfl) (by simp only [List.mem_cons, List.not_mem_nil, or_false]; intro v hv; rcases hv with rfl | rfl; all_goals first | exact trivial) (sg_Draft_readDifferences_0 (kc := 0) (ks := 0) a0 a1 h (am_qw Q) t)
def bk_Draft_readTable_0_5 : List am_E := [(0, .aload_n 0, 1, 0, 0), (1, .iconst 0, 1, 0, 0), (2, .putfield 20, 3, 1212, 0), (5, .aload_n 0, 1, 0, 0), (6, .aload_n 1, 1, 0, 0)]
theorem bk_Draft_readTable_0_5_ok : bk_Draft_readTable_0_5.all (am_ok 3 false m_Draft_readTable.2.1) = true := by decide +kernel
def bk_Draft_readTable_10_2 : List am_E := [(10, .iconst 1, 1, 0, 1), (11, .istore_n 2, 1, 0, 0)]
theorem bk_Draft_readTable_10_2_ok : bk_Draft_readTable_10_2.all (am_ok 3 false m_Draft_readTable.2.1) = true := by decide +kernel
def bk_Draft_readTable_12_2 : List am_E := [(12, .iload_n 2, 1, 0, 0), (13, .bipush 24, 2, 0, 24)]
theorem bk_Draft_readTable_12_2_ok : bk_Draft_readTable_12_2.all (am_ok 3 false m_Draft_readTable.2.1) = true := by decide +kernel
def bk_Draft_readTable_18_2 : List am_E := [(18, .aload_n 1, 1, 0, 0), (19, .bipush 44, 2, 0, 44)]
theorem bk_Draft_readTable_18_2_ok : bk_Draft_readTable_18_2.all (am_ok 3 false m_Draft_readTable.2.1) = true := by decide +kernel
def bk_Draft_readTable_27_2 : List am_E := [(27, .aload_n 0, 1, 0, 0), (28, .aload_n 1, 1, 0, 0)]
theorem bk_Draft_readTable_27_2_ok : bk_Draft_readTable_27_2.all (am_ok 3 false m_Draft_readTable.2.1) = true := by decide +kernel
def bk_Draft_readTable_32_2 : List am_E := [(32, .iinc 2 1, 3, 0, 1), (35, .goto (-23), 3, 0, -23)]
theorem bk_Draft_readTable_32_2_ok : bk_Draft_readTable_32_2.all (am_ok 3 false m_Draft_readTable.2.1) = true := by decide +kernel
theorem dc_Draft_readTable_7 : decode m_Draft_readTable.2.1 7 = .ok (.invokevirtual 43, 3) := by decide +kernel
theorem dc_Draft_readTable_38 : decode m_Draft_readTable.2.1 38 = .ok (.return_, 1) := by decide +kernel
theorem dc_Draft_readTable_21 : decode m_Draft_readTable.2.1 21 = .ok (.invokevirtual 47, 3) := by decide +kernel
theorem dc_Draft_readTable_29 : decode m_Draft_readTable.2.1 29 = .ok (.invokevirtual 43, 3) := by decide +kernel
theorem dc_Draft_readTable_24 : decode m_Draft_readTable.2.1 24 = .ok (.ifCond .eq 14, 3) := by decide +kernel
theorem dc_Draft_readTable_15 : decode m_Draft_readTable.2.1 15 = .ok (.if_icmp .ge 23, 3) := by decide +kernel
set_option maxRecDepth 20000 in
theorem sg_Draft_readTable_0 {kc ks : Nat} (a0 a1 : Nat) (h : am_H) (Q : Option Value → am_H → Prop) (t : (am_tg h a0 = (3, 7) ∧ (am_Ew m_Draft_readTurn 0 0 [.ref a0, .ref a1] (am_si h a0 3 0) (fun h2 => am_EI m_Draft_readTable kc ks 12 [.ref a0, .ref a1, .int 1] [] h2 Q)))) : am_EI m_Draft_readTable kc ks 0 [.ref a0, .ref a1, .float 0] [] h Q := by
  refine am_blk_ok (c := 3) (ini := false) (by decide) rfl (fun q => by cases q) bk_Draft_readTable_0_5 _ 7 _ _ _ bk_Draft_readTable_0_5_ok rfl ?_
  show (am_tg h a0 = (3, 7) ∧ am_EI m_Draft_readTable kc ks 7 [.ref a0, .ref a1, .float 0] [.ref a1, .ref a0] (am_si h a0 3 0) Q)
  obtain ⟨o1, t⟩ := t
  refine ⟨o1, ?_⟩
  refine am_callV (M2 := m_Draft_readTurn) (ci := 3) (a := a0) (kc := kc) (ks := ks) (k2c := 0) (k2s := 0) (as := []) [.ref a1] dc_Draft_readTable_7 lk_3_43 im_Draft_readTurn se_Draft_readTurn lm_Draft_readTurn np_Draft_readTurn ⟨Nat.le_of_ble_eq_true rfl, Nat.le_of_ble_eq_true rfl⟩ (fun _ => Nat.le_of_ble_eq_true rfl) (by decide) rfl o1 (am_Ew.end (am_Ew.mono t (fun h2 t => ?_)))
  refine am_blk_ok (c := 3) (ini := false) (by decide) rfl (fun q => by cases q) bk_Draft_readTable_10_2 _ 12 _ _ _ bk_Draft_readTable_10_2_ok rfl ?_
  show am_EI m_Draft_readTable kc ks 12 [.ref a0, .ref a1, .int 1] [] h2 Q
  exact t
set_option maxRecDepth 20000 in
theorem ev_Draft_readTable (a0 a1 : Nat) (h : am_H) (Q : am_H → Prop) (t : (am_tg h a0 = (3, 7) ∧ (am_Ew m_Draft_readTurn 0 0 [.ref a0, .ref a1] (am_si h a0 3 0) (fun h2 => am_EI m_Draft_readTable 0 0 12 [.ref a0, .ref a1, .int 1] [] h2 (am_qw Q))))) : am_Ew m_Draft_readTable 0 0 [.ref a0, .ref a1] h Q :=
  am_Ev.of (by decide +kernel) (Nat.le_of_ble_eq_true rfl) (by simp only [List.mem_cons, List.not_mem_nil, or_false]; intro v hv; rcases hv with rfl | rfl; all_goals first | exact trivial) (sg_Draft_readTable_0 (kc := 0) (ks := 0) a0 a1 h (am_qw Q) t)
set_option maxRecDepth 20000 in
theorem sg_Draft_readTable_12 {kc ks : Nat} (a0 a1 : Nat) (x2 : Int32) (h : am_H) (Q : Option Value → am_H → Prop) (t : ((24 ≤ x2 → Q none h) ∧ (¬ 24 ≤ x2 → (am_tg h a1 = (9, 4) ∧ (am_Ei m_Tape_takeMark 0 0 [.ref a1, .int 44] h (fun r4 h3 => ((r4 = 0 → Q none h3) ∧ (¬ r4 = 0 → (am_tg h3 a0 = (3, 7) ∧ (am_Ew m_Draft_readTurn 0 0 [.ref a0, .ref a1] h3 (fun h7 => am_EI m_Draft_readTable kc ks 12 [.ref a0, .ref a1, .int (x2 + 1)] [] h7 Q))))))))))) : am_EI m_Draft_readTable kc ks 12 [.ref a0, .ref a1, .int x2] [] h Q := by
  refine am_blk_ok (c := 3) (ini := false) (by decide) rfl (fun q => by cases q) bk_Draft_readTable_12_2 _ 15 _ _ _ bk_Draft_readTable_12_2_ok rfl ?_
  show am_EI m_Draft_readTable kc ks 15 [.ref a0, .ref a1, .int x2] [.int 24, .int x2] h Q
  refine am_ic_ge (tgt := 38) dc_Draft_readTable_15 (by decide) (fun c1 => ?_) (fun c1 => ?_)
  · replace t := t.1 c1
    exact am_vret dc_Draft_readTable_38 rfl t
  · replace t := t.2 c1
    refine am_blk_ok (c := 3) (ini := false) (by decide) rfl (fun q => by cases q) bk_Draft_readTable_18_2 _ 21 _ _ _ bk_Draft_readTable_18_2_ok rfl ?_
    show am_EI m_Draft_readTable kc ks 21 [.ref a0, .ref a1, .int x2] [.int 44, .ref a1] h Q
    obtain ⟨o2, t⟩ := t
    refine am_callV (M2 := m_Tape_takeMark) (ci := 9) (a := a1) (kc := kc) (ks := ks) (k2c := 0) (k2s := 0) (as := []) [.int 44] dc_Draft_readTable_21 lk_3_47 im_Tape_takeMark se_Tape_takeMark lm_Tape_takeMark np_Tape_takeMark ⟨Nat.le_of_ble_eq_true rfl, Nat.le_of_ble_eq_true rfl⟩ (fun _ => Nat.le_of_ble_eq_true rfl) (by decide) rfl o2 (am_Ei.end (am_Ei.mono t (fun r4 h3 t => ?_)))
    refine am_if_eq (tgt := 38) dc_Draft_readTable_24 (by decide) (fun c5 => ?_) (fun c5 => ?_)
    · replace t := t.1 c5
      exact am_vret dc_Draft_readTable_38 rfl t
    · replace t := t.2 c5
      refine am_blk_ok (c := 3) (ini := false) (by decide) rfl (fun q => by cases q) bk_Draft_readTable_27_2 _ 29 _ _ _ bk_Draft_readTable_27_2_ok rfl ?_
      show am_EI m_Draft_readTable kc ks 29 [.ref a0, .ref a1, .int x2] [.ref a1, .ref a0] h3 Q
      obtain ⟨o6, t⟩ := t
      refine am_callV (M2 := m_Draft_readTurn) (ci := 3) (a := a0) (kc := kc) (ks := ks) (k2c := 0) (k2s := 0) (as := []) [.ref a1] dc_Draft_readTable_29 lk_3_43 im_Draft_readTurn se_Draft_readTurn lm_Draft_readTurn np_Draft_readTurn ⟨Nat.le_of_ble_eq_true rfl, Nat.le_of_ble_eq_true rfl⟩ (fun _ => Nat.le_of_ble_eq_true rfl) (by decide) rfl o6 (am_Ew.end (am_Ew.mono t (fun h7 t => ?_)))
      refine am_blk_ok (c := 3) (ini := false) (by decide) rfl (fun q => by cases q) bk_Draft_readTable_32_2 _ 12 _ _ _ bk_Draft_readTable_32_2_ok rfl ?_
      show am_EI m_Draft_readTable kc ks 12 [.ref a0, .ref a1, .int (x2 + 1)] [] h7 Q
      exact t
def bk_Draft_readTurn_0_2 : List am_E := [(0, .aload_n 1, 1, 0, 0), (1, .ldc 53, 2, 1, 0)]
theorem bk_Draft_readTurn_0_2_ok : bk_Draft_readTurn_0_2.all (am_ok 3 false m_Draft_readTurn.2.1) = true := by decide +kernel
def bk_Draft_readTurn_6_2 : List am_E := [(6, .istore_n 2, 1, 0, 0), (7, .iload_n 2, 1, 0, 0)]
theorem bk_Draft_readTurn_6_2_ok : bk_Draft_readTurn_6_2.all (am_ok 3 false m_Draft_readTurn.2.1) = true := by decide +kernel
def bk_Draft_readTurn_17_1 : List am_E := [(17, .aload_n 1, 1, 0, 0)]
theorem bk_Draft_readTurn_17_1_ok : bk_Draft_readTurn_17_1.all (am_ok 3 false m_Draft_readTurn.2.1) = true := by decide +kernel
def bk_Draft_readTurn_21_2 : List am_E := [(21, .istore_n 3, 1, 0, 0), (22, .aload_n 1, 1, 0, 0)]
theorem bk_Draft_readTurn_21_2_ok : bk_Draft_readTurn_21_2.all (am_ok 3 false m_Draft_readTurn.2.1) = true := by decide +kernel
def bk_Draft_readTurn_26_4 : List am_E := [(26, .istore 4, 2, 0, 0), (28, .aload_n 0, 1, 0, 0), (29, .getfield 20, 3, 1212, 0), (32, .bipush 24, 2, 0, 24)]
theorem bk_Draft_readTurn_26_4_ok : bk_Draft_readTurn_26_4.all (am_ok 3 false m_Draft_readTurn.2.1) = true := by decide +kernel
def bk_Draft_readTurn_37_24 : List am_E := [(37, .aload_n 0, 1, 0, 0), (38, .getfield 9, 3, 1201, 0), (41, .aload_n 0, 1, 0, 0), (42, .getfield 20, 3, 1212, 0), (45, .iload_n 2, 1, 0, 0), (46, .bastore, 1, 21, 0), (47, .aload_n 0, 1, 0, 0), (48, .getfield 13, 3, 1205, 0), (51, .aload_n 0, 1, 0, 0), (52, .getfield 20, 3, 1212, 0), (55, .iload_n 3, 1, 0, 0), (56, .iastore, 1, 0, 0), (57, .aload_n 0, 1, 0, 0), (58, .getfield 17, 3, 1209, 0), (61, .aload_n 0, 1, 0, 0), (62, .getfield 20, 3, 1212, 0), (65, .iload 4, 2, 0, 0), (67, .iastore, 1, 0, 0), (68, .aload_n 0, 1, 0, 0), (69, .dup, 1, 0, 0), (70, .getfield 20, 3, 1212, 0), (73, .iconst 1, 1, 0, 1), (74, .iadd, 1, 0, 0), (75, .putfield 20, 3, 1212, 0)]
theorem bk_Draft_readTurn_37_24_ok : bk_Draft_readTurn_37_24.all (am_ok 3 false m_Draft_readTurn.2.1) = true := by decide +kernel
def bk_Draft_readTurn_11_2 : List am_E := [(11, .aload_n 1, 1, 0, 0), (12, .ldc 66, 2, 2, 0)]
theorem bk_Draft_readTurn_11_2_ok : bk_Draft_readTurn_11_2.all (am_ok 3 false m_Draft_readTurn.2.1) = true := by decide +kernel
theorem dc_Draft_readTurn_3 : decode m_Draft_readTurn.2.1 3 = .ok (.invokevirtual 118, 3) := by decide +kernel
theorem dc_Draft_readTurn_18 : decode m_Draft_readTurn.2.1 18 = .ok (.invokevirtual 122, 3) := by decide +kernel
theorem dc_Draft_readTurn_23 : decode m_Draft_readTurn.2.1 23 = .ok (.invokevirtual 125, 3) := by decide +kernel
theorem dc_Draft_readTurn_78 : decode m_Draft_readTurn.2.1 78 = .ok (.return_, 1) := by decide +kernel
theorem dc_Draft_readTurn_34 : decode m_Draft_readTurn.2.1 34 = .ok (.if_icmp .ge 44, 3) := by decide +kernel
theorem dc_Draft_readTurn_14 : decode m_Draft_readTurn.2.1 14 = .ok (.invokevirtual 55, 3) := by decide +kernel
theorem dc_Draft_readTurn_8 : decode m_Draft_readTurn.2.1 8 = .ok (.ifCond .ne 9, 3) := by decide +kernel
set_option maxRecDepth 20000 in
theorem sg_Draft_readTurn_0 {kc ks : Nat} (a0 a1 : Nat) (h : am_H) (Q : Option Value → am_H → Prop) (t : (am_tg h a1 = (9, 4) ∧ (am_Ei m_Tape_takeWord 0 0 [.ref a1, .retAddr 0] h (fun r3 h2 => ((¬ r3 = 0 → (am_tg h2 a1 = (9, 4) ∧ (am_Ei m_Tape_wantNumber 0 0 [.ref a1] h2 (fun r7 h6 => (am_tg h6 a1 = (9, 4) ∧ (am_Ei m_Tape_wantSize 0 0 [.ref a1] h6 (fun r10 h9 => (am_tg h9 a0 = (3, 7) ∧ ((24 ≤ (am_I h9 a0 3) → Q none h9) ∧ (¬ 24 ≤ (am_I h9 a0 3) → (∃ b13, am_P h9 a0 0 = some b13 ∧ ((am_tg h9 b13).1 = 21 ∧ (vp_in (am_I h9 a0 3) (am_tg h9 b13).2 ∧ (am_b01 r3 ∧ (∃ b14, am_P h9 a0 1 = some b14 ∧ ((am_tg h9 b14).1 = 20 ∧ (vp_in (am_I (am_si h9 b13 ((am_I h9 a0 3).toNatClampNeg) r3) a0 3) (am_tg h9 b14).2 ∧ (∃ b15, am_P h9 a0 2 = some b15 ∧ ((am_tg h9 b15).1 = 20 ∧ (vp_in (am_I (am_si (am_si h9 b13 ((am_I h9 a0 3).toNatClampNeg) r3) b14 ((am_I (am_si h9 b13 ((am_I h9 a0 3).toNatClampNeg) r3) a0 3).toNatClampNeg) r7) a0 3) (am_tg h9 b15).2 ∧ Q none (am_si (am_si (am_si (am_si h9 b13 ((am_I h9 a0 3).toNatClampNeg) r3) b14 ((am_I (am_si h9 b13 ((am_I h9 a0 3).toNatClampNeg) r3) a0 3).toNatClampNeg) r7) b15 ((am_I (am_si (am_si h9 b13 ((am_I h9 a0 3).toNatClampNeg) r3) b14 ((am_I (am_si h9 b13 ((am_I h9 a0 3).toNatClampNeg) r3) a0 3).toNatClampNeg) r7) a0 3).toNatClampNeg) r10) a0 3 ((am_I (am_si (am_si (am_si h9 b13 ((am_I h9 a0 3).toNatClampNeg) r3) b14 ((am_I (am_si h9 b13 ((am_I h9 a0 3).toNatClampNeg) r3) a0 3).toNatClampNeg) r7) b15 ((am_I (am_si (am_si h9 b13 ((am_I h9 a0 3).toNatClampNeg) r3) b14 ((am_I (am_si h9 b13 ((am_I h9 a0 3).toNatClampNeg) r3) a0 3).toNatClampNeg) r7) a0 3).toNatClampNeg) r10) a0 3) + 1)))))))))))))))))))))) ∧ (r3 = 0 → (am_tg h2 a1 = (9, 4) ∧ (am_Ew m_Tape_wantWord 0 0 [.ref a1, .retAddr 1] h2 (fun h27 => (am_tg h27 a1 = (9, 4) ∧ (am_Ei m_Tape_wantNumber 0 0 [.ref a1] h27 (fun r30 h29 => (am_tg h29 a1 = (9, 4) ∧ (am_Ei m_Tape_wantSize 0 0 [.ref a1] h29 (fun r33 h32 => (am_tg h32 a0 = (3, 7) ∧ ((24 ≤ (am_I h32 a0 3) → Q none h32) ∧ (¬ 24 ≤ (am_I h32 a0 3) → (∃ b36, am_P h32 a0 0 = some b36 ∧ ((am_tg h32 b36).1 = 21 ∧ (vp_in (am_I h32 a0 3) (am_tg h32 b36).2 ∧ (am_b01 r3 ∧ (∃ b37, am_P h32 a0 1 = some b37 ∧ ((am_tg h32 b37).1 = 20 ∧ (vp_in (am_I (am_si h32 b36 ((am_I h32 a0 3).toNatClampNeg) r3) a0 3) (am_tg h32 b37).2 ∧ (∃ b38, am_P h32 a0 2 = some b38 ∧ ((am_tg h32 b38).1 = 20 ∧ (vp_in (am_I (am_si (am_si h32 b36 ((am_I h32 a0 3).toNatClampNeg) r3) b37 ((am_I (am_si h32 b36 ((am_I h32 a0 3).toNatClampNeg) r3) a0 3).toNatClampNeg) r30) a0 3) (am_tg h32 b38).2 ∧ Q none (am_si (am_si (am_si (am_si h32 b36 ((am_I h32 a0 3).toNatClampNeg) r3) b37 ((am_I (am_si h32 b36 ((am_I h32 a0 3).toNatClampNeg) r3) a0 3).toNatClampNeg) r30) b38 ((am_I (am_si (am_si h32 b36 ((am_I h32 a0 3).toNatClampNeg) r3) b37 ((am_I (am_si h32 b36 ((am_I h32 a0 3).toNatClampNeg) r3) a0 3).toNatClampNeg) r30) a0 3).toNatClampNeg) r33) a0 3 ((am_I (am_si (am_si (am_si h32 b36 ((am_I h32 a0 3).toNatClampNeg) r3) b37 ((am_I (am_si h32 b36 ((am_I h32 a0 3).toNatClampNeg) r3) a0 3).toNatClampNeg) r30) b38 ((am_I (am_si (am_si h32 b36 ((am_I h32 a0 3).toNatClampNeg) r3) b37 ((am_I (am_si h32 b36 ((am_I h32 a0 3).toNatClampNeg) r3) a0 3).toNatClampNeg) r30) a0 3).toNatClampNeg) r33) a0 3) + 1)))))))))))))))))))))))))))))) : am_EI m_Draft_readTurn kc ks 0 [.ref a0, .ref a1, .float 0, .float 0, .float 0] [] h Q := by
  refine am_blk_ok (c := 3) (ini := false) (by decide) rfl (fun q => by cases q) bk_Draft_readTurn_0_2 _ 3 _ _ _ bk_Draft_readTurn_0_2_ok rfl ?_
  show am_EI m_Draft_readTurn kc ks 3 [.ref a0, .ref a1, .float 0, .float 0, .float 0] [.retAddr 0, .ref a1] h Q
  obtain ⟨o1, t⟩ := t
  refine am_callV (M2 := m_Tape_takeWord) (ci := 9) (a := a1) (kc := kc) (ks := ks) (k2c := 0) (k2s := 0) (as := []) [.retAddr 0] dc_Draft_readTurn_3 lk_3_118 im_Tape_takeWord se_Tape_takeWord lm_Tape_takeWord np_Tape_takeWord ⟨Nat.le_of_ble_eq_true rfl, Nat.le_of_ble_eq_true rfl⟩ (fun _ => Nat.le_of_ble_eq_true rfl) (by decide) rfl o1 (am_Ei.end (am_Ei.mono t (fun r3 h2 t => ?_)))
  refine am_blk_ok (c := 3) (ini := false) (by decide) rfl (fun q => by cases q) bk_Draft_readTurn_6_2 _ 8 _ _ _ bk_Draft_readTurn_6_2_ok rfl ?_
  show am_EI m_Draft_readTurn kc ks 8 [.ref a0, .ref a1, .int r3, .float 0, .float 0] [.int r3] h2 Q
  refine am_if_ne (tgt := 17) dc_Draft_readTurn_8 (by decide) (fun c4 => ?_) (fun c4 => ?_)
  · replace t := t.1 c4
    refine am_blk_ok (c := 3) (ini := false) (by decide) rfl (fun q => by cases q) bk_Draft_readTurn_17_1 _ 18 _ _ _ bk_Draft_readTurn_17_1_ok rfl ?_
    show am_EI m_Draft_readTurn kc ks 18 [.ref a0, .ref a1, .int r3, .float 0, .float 0] [.ref a1] h2 Q
    obtain ⟨o5, t⟩ := t
    refine am_callV (M2 := m_Tape_wantNumber) (ci := 9) (a := a1) (kc := kc) (ks := ks) (k2c := 0) (k2s := 0) (as := []) [] dc_Draft_readTurn_18 lk_3_122 im_Tape_wantNumber se_Tape_wantNumber lm_Tape_wantNumber np_Tape_wantNumber ⟨Nat.le_of_ble_eq_true rfl, Nat.le_of_ble_eq_true rfl⟩ (fun _ => Nat.le_of_ble_eq_true rfl) (by decide) rfl o5 (am_Ei.end (am_Ei.mono t (fun r7 h6 t => ?_)))
    refine am_blk_ok (c := 3) (ini := false) (by decide) rfl (fun q => by cases q) bk_Draft_readTurn_21_2 _ 23 _ _ _ bk_Draft_readTurn_21_2_ok rfl ?_
    show am_EI m_Draft_readTurn kc ks 23 [.ref a0, .ref a1, .int r3, .int r7, .float 0] [.ref a1] h6 Q
    obtain ⟨o8, t⟩ := t
    refine am_callV (M2 := m_Tape_wantSize) (ci := 9) (a := a1) (kc := kc) (ks := ks) (k2c := 0) (k2s := 0) (as := []) [] dc_Draft_readTurn_23 lk_3_125 im_Tape_wantSize se_Tape_wantSize lm_Tape_wantSize np_Tape_wantSize ⟨Nat.le_of_ble_eq_true rfl, Nat.le_of_ble_eq_true rfl⟩ (fun _ => Nat.le_of_ble_eq_true rfl) (by decide) rfl o8 (am_Ei.end (am_Ei.mono t (fun r10 h9 t => ?_)))
    refine am_blk_ok (c := 3) (ini := false) (by decide) rfl (fun q => by cases q) bk_Draft_readTurn_26_4 _ 34 _ _ _ bk_Draft_readTurn_26_4_ok rfl ?_
    show (am_tg h9 a0 = (3, 7) ∧ am_EI m_Draft_readTurn kc ks 34 [.ref a0, .ref a1, .int r3, .int r7, .int r10] [.int 24, .int (am_I h9 a0 3)] h9 Q)
    obtain ⟨o11, t⟩ := t
    refine ⟨o11, ?_⟩
    refine am_ic_ge (tgt := 78) dc_Draft_readTurn_34 (by decide) (fun c12 => ?_) (fun c12 => ?_)
    · replace t := t.1 c12
      exact am_vret dc_Draft_readTurn_78 rfl t
    · replace t := t.2 c12
      refine am_blk_ok (c := 3) (ini := false) (by decide) rfl (fun q => by cases q) bk_Draft_readTurn_37_24 _ 78 _ _ _ bk_Draft_readTurn_37_24_ok rfl ?_
      show (am_tg h9 a0 = (3, 7) ∧ (∃ b13, am_P h9 a0 0 = some b13 ∧ (am_tg h9 a0 = (3, 7) ∧ ((am_tg h9 b13).1 = 21 ∧ (vp_in (am_I h9 a0 3) (am_tg h9 b13).2 ∧ (am_b01 r3 ∧ (am_tg h9 a0 = (3, 7) ∧ (∃ b14, am_P h9 a0 1 = some b14 ∧ (am_tg h9 a0 = (3, 7) ∧ ((am_tg h9 b14).1 = 20 ∧ (vp_in (am_I (am_si h9 b13 ((am_I h9 a0 3).toNatClampNeg) r3) a0 3) (am_tg h9 b14).2 ∧ (am_tg h9 a0 = (3, 7) ∧ (∃ b15, am_P h9 a0 2 = some b15 ∧ (am_tg h9 a0 = (3, 7) ∧ ((am_tg h9 b15).1 = 20 ∧ (vp_in (am_I (am_si (am_si h9 b13 ((am_I h9 a0 3).toNatClampNeg) r3) b14 ((am_I (am_si h9 b13 ((am_I h9 a0 3).toNatClampNeg) r3) a0 3).toNatClampNeg) r7) a0 3) (am_tg h9 b15).2 ∧ (am_tg h9 a0 = (3, 7) ∧ (am_tg h9 a0 = (3, 7) ∧ am_EI m_Draft_readTurn kc ks 78 [.ref a0, .ref a1, .int r3, .int r7, .int r10] [] (am_si (am_si (am_si (am_si h9 b13 ((am_I h9 a0 3).toNatClampNeg) r3) b14 ((am_I (am_si h9 b13 ((am_I h9 a0 3).toNatClampNeg) r3) a0 3).toNatClampNeg) r7) b15 ((am_I (am_si (am_si h9 b13 ((am_I h9 a0 3).toNatClampNeg) r3) b14 ((am_I (am_si h9 b13 ((am_I h9 a0 3).toNatClampNeg) r3) a0 3).toNatClampNeg) r7) a0 3).toNatClampNeg) r10) a0 3 ((am_I (am_si (am_si (am_si h9 b13 ((am_I h9 a0 3).toNatClampNeg) r3) b14 ((am_I (am_si h9 b13 ((am_I h9 a0 3).toNatClampNeg) r3) a0 3).toNatClampNeg) r7) b15 ((am_I (am_si (am_si h9 b13 ((am_I h9 a0 3).toNatClampNeg) r3) b14 ((am_I (am_si h9 b13 ((am_I h9 a0 3).toNatClampNeg) r3) a0 3).toNatClampNeg) r7) a0 3).toNatClampNeg) r10) a0 3) + 1)) Q))))))))))))))))))
      obtain ⟨b13, q16, o17, o18, o19, b14, q20, o21, o22, b15, q23, o24, o25, t⟩ := t
      refine ⟨o11, b13, q16, o11, o17, o18, o19, o11, b14, q20, o11, o21, o22, o11, b15, q23, o11, o24, o25, o11, o11, ?_⟩
      exact am_vret dc_Draft_readTurn_78 rfl t
  · replace t := t.2 c4
    refine am_blk_ok (c := 3) (ini := false) (by decide) rfl (fun q => by cases q) bk_Draft_readTurn_11_2 _ 14 _ _ _ bk_Draft_readTurn_11_2_ok rfl ?_
    show am_EI m_Draft_readTurn kc ks 14 [.ref a0, .ref a1, .int r3, .float 0, .float 0] [.retAddr 1, .ref a1] h2 Q
    obtain ⟨o26, t⟩ := t
    refine am_callV (M2 := m_Tape_wantWord) (ci := 9) (a := a1) (kc := kc) (ks := ks) (k2c := 0) (k2s := 0) (as := []) [.retAddr 1] dc_Draft_readTurn_14 lk_3_55 im_Tape_wantWord se_Tape_wantWord lm_Tape_wantWord np_Tape_wantWord ⟨Nat.le_of_ble_eq_true rfl, Nat.le_of_ble_eq_true rfl⟩ (fun _ => Nat.le_of_ble_eq_true rfl) (by decide) rfl o26 (am_Ew.end (am_Ew.mono t (fun h27 t => ?_)))
    refine am_blk_ok (c := 3) (ini := false) (by decide) rfl (fun q => by cases q) bk_Draft_readTurn_17_1 _ 18 _ _ _ bk_Draft_readTurn_17_1_ok rfl ?_
    show am_EI m_Draft_readTurn kc ks 18 [.ref a0, .ref a1, .int r3, .float 0, .float 0] [.ref a1] h27 Q
    obtain ⟨o28, t⟩ := t
    refine am_callV (M2 := m_Tape_wantNumber) (ci := 9) (a := a1) (kc := kc) (ks := ks) (k2c := 0) (k2s := 0) (as := []) [] dc_Draft_readTurn_18 lk_3_122 im_Tape_wantNumber se_Tape_wantNumber lm_Tape_wantNumber np_Tape_wantNumber ⟨Nat.le_of_ble_eq_true rfl, Nat.le_of_ble_eq_true rfl⟩ (fun _ => Nat.le_of_ble_eq_true rfl) (by decide) rfl o28 (am_Ei.end (am_Ei.mono t (fun r30 h29 t => ?_)))
    refine am_blk_ok (c := 3) (ini := false) (by decide) rfl (fun q => by cases q) bk_Draft_readTurn_21_2 _ 23 _ _ _ bk_Draft_readTurn_21_2_ok rfl ?_
    show am_EI m_Draft_readTurn kc ks 23 [.ref a0, .ref a1, .int r3, .int r30, .float 0] [.ref a1] h29 Q
    obtain ⟨o31, t⟩ := t
    refine am_callV (M2 := m_Tape_wantSize) (ci := 9) (a := a1) (kc := kc) (ks := ks) (k2c := 0) (k2s := 0) (as := []) [] dc_Draft_readTurn_23 lk_3_125 im_Tape_wantSize se_Tape_wantSize lm_Tape_wantSize np_Tape_wantSize ⟨Nat.le_of_ble_eq_true rfl, Nat.le_of_ble_eq_true rfl⟩ (fun _ => Nat.le_of_ble_eq_true rfl) (by decide) rfl o31 (am_Ei.end (am_Ei.mono t (fun r33 h32 t => ?_)))
    refine am_blk_ok (c := 3) (ini := false) (by decide) rfl (fun q => by cases q) bk_Draft_readTurn_26_4 _ 34 _ _ _ bk_Draft_readTurn_26_4_ok rfl ?_
    show (am_tg h32 a0 = (3, 7) ∧ am_EI m_Draft_readTurn kc ks 34 [.ref a0, .ref a1, .int r3, .int r30, .int r33] [.int 24, .int (am_I h32 a0 3)] h32 Q)
    obtain ⟨o34, t⟩ := t
    refine ⟨o34, ?_⟩
    refine am_ic_ge (tgt := 78) dc_Draft_readTurn_34 (by decide) (fun c35 => ?_) (fun c35 => ?_)
    · replace t := t.1 c35
      exact am_vret dc_Draft_readTurn_78 rfl t
    · replace t := t.2 c35
      refine am_blk_ok (c := 3) (ini := false) (by decide) rfl (fun q => by cases q) bk_Draft_readTurn_37_24 _ 78 _ _ _ bk_Draft_readTurn_37_24_ok rfl ?_
      show (am_tg h32 a0 = (3, 7) ∧ (∃ b36, am_P h32 a0 0 = some b36 ∧ (am_tg h32 a0 = (3, 7) ∧ ((am_tg h32 b36).1 = 21 ∧ (vp_in (am_I h32 a0 3) (am_tg h32 b36).2 ∧ (am_b01 r3 ∧ (am_tg h32 a0 = (3, 7) ∧ (∃ b37, am_P h32 a0 1 = some b37 ∧ (am_tg h32 a0 = (3, 7) ∧ ((am_tg h32 b37).1 = 20 ∧ (vp_in (am_I (am_si h32 b36 ((am_I h32 a0 3).toNatClampNeg) r3) a0 3) (am_tg h32 b37).2 ∧ (am_tg h32 a0 = (3, 7) ∧ (∃ b38, am_P h32 a0 2 = some b38 ∧ (am_tg h32 a0 = (3, 7) ∧ ((am_tg h32 b38).1 = 20 ∧ (vp_in (am_I (am_si (am_si h32 b36 ((am_I h32 a0 3).toNatClampNeg) r3) b37 ((am_I (am_si h32 b36 ((am_I h32 a0 3).toNatClampNeg) r3) a0 3).toNatClampNeg) r30) a0 3) (am_tg h32 b38).2 ∧ (am_tg h32 a0 = (3, 7) ∧ (am_tg h32 a0 = (3, 7) ∧ am_EI m_Draft_readTurn kc ks 78 [.ref a0, .ref a1, .int r3, .int r30, .int r33] [] (am_si (am_si (am_si (am_si h32 b36 ((am_I h32 a0 3).toNatClampNeg) r3) b37 ((am_I (am_si h32 b36 ((am_I h32 a0 3).toNatClampNeg) r3) a0 3).toNatClampNeg) r30) b38 ((am_I (am_si (am_si h32 b36 ((am_I h32 a0 3).toNatClampNeg) r3) b37 ((am_I (am_si h32 b36 ((am_I h32 a0 3).toNatClampNeg) r3) a0 3).toNatClampNeg) r30) a0 3).toNatClampNeg) r33) a0 3 ((am_I (am_si (am_si (am_si h32 b36 ((am_I h32 a0 3).toNatClampNeg) r3) b37 ((am_I (am_si h32 b36 ((am_I h32 a0 3).toNatClampNeg) r3) a0 3).toNatClampNeg) r30) b38 ((am_I (am_si (am_si h32 b36 ((am_I h32 a0 3).toNatClampNeg) r3) b37 ((am_I (am_si h32 b36 ((am_I h32 a0 3).toNatClampNeg) r3) a0 3).toNatClampNeg) r30) a0 3).toNatClampNeg) r33) a0 3) + 1)) Q))))))))))))))))))
      obtain ⟨b36, q39, o40, o41, o42, b37, q43, o44, o45, b38, q46, o47, o48, t⟩ := t
      refine ⟨o34, b36, q39, o34, o40, o41, o42, o34, b37, q43, o34, o44, o45, o34, b38, q46, o34, o47, o48, o34, o34, ?_⟩
      exact am_vret dc_Draft_readTurn_78 rfl t
set_option maxRecDepth 20000 in
theorem ev_Draft_readTurn (a0 a1 : Nat) (h : am_H) (Q : am_H → Prop) (t : (am_tg h a1 = (9, 4) ∧ (am_Ei m_Tape_takeWord 0 0 [.ref a1, .retAddr 0] h (fun r3 h2 => ((¬ r3 = 0 → (am_tg h2 a1 = (9, 4) ∧ (am_Ei m_Tape_wantNumber 0 0 [.ref a1] h2 (fun r7 h6 => (am_tg h6 a1 = (9, 4) ∧ (am_Ei m_Tape_wantSize 0 0 [.ref a1] h6 (fun r10 h9 => (am_tg h9 a0 = (3, 7) ∧ ((24 ≤ (am_I h9 a0 3) → Q h9) ∧ (¬ 24 ≤ (am_I h9 a0 3) → (∃ b13, am_P h9 a0 0 = some b13 ∧ ((am_tg h9 b13).1 = 21 ∧ (vp_in (am_I h9 a0 3) (am_tg h9 b13).2 ∧ (am_b01 r3 ∧ (∃ b14, am_P h9 a0 1 = some b14 ∧ ((am_tg h9 b14).1 = 20 ∧ (vp_in (am_I (am_si h9 b13 ((am_I h9 a0 3).toNatClampNeg) r3) a0 3) (am_tg h9 b14).2 ∧ (∃ b15, am_P h9 a0 2 = some b15 ∧ ((am_tg h9 b15).1 = 20 ∧ (vp_in (am_I (am_si (am_si h9 b13 ((am_I h9 a0 3).toNatClampNeg) r3) b14 ((am_I (am_si h9 b13 ((am_I h9 a0 3).toNatClampNeg) r3) a0 3).toNatClampNeg) r7) a0 3) (am_tg h9 b15).2 ∧ Q (am_si (am_si (am_si (am_si h9 b13 ((am_I h9 a0 3).toNatClampNeg) r3) b14 ((am_I (am_si h9 b13 ((am_I h9 a0 3).toNatClampNeg) r3) a0 3).toNatClampNeg) r7) b15 ((am_I (am_si (am_si h9 b13 ((am_I h9 a0 3).toNatClampNeg) r3) b14 ((am_I (am_si h9 b13 ((am_I h9 a0 3).toNatClampNeg) r3) a0 3).toNatClampNeg) r7) a0 3).toNatClampNeg) r10) a0 3 ((am_I (am_si (am_si (am_si h9 b13 ((am_I h9 a0 3).toNatClampNeg) r3) b14 ((am_I (am_si h9 b13 ((am_I h9 a0 3).toNatClampNeg) r3) a0 3).toNatClampNeg) r7) b15 ((am_I (am_si (am_si h9 b13 ((am_I h9 a0 3).toNatClampNeg) r3) b14 ((am_I (am_si h9 b13 ((am_I h9 a0 3).toNatClampNeg) r3) a0 3).toNatClampNeg) r7) a0 3).toNatClampNeg) r10) a0 3) + 1)))))))))))))))))))))) ∧ (r3 = 0 → (am_tg h2 a1 = (9, 4) ∧ (am_Ew m_Tape_wantWord 0 0 [.ref a1, .retAddr 1] h2 (fun h27 => (am_tg h27 a1 = (9, 4) ∧ (am_Ei m_Tape_wantNumber 0 0 [.ref a1] h27 (fun r30 h29 => (am_tg h29 a1 = (9, 4) ∧ (am_Ei m_Tape_wantSize 0 0 [.ref a1] h29 (fun r33 h32 => (am_tg h32 a0 = (3, 7) ∧ ((24 ≤ (am_I h32 a0 3) → Q h32) ∧ (¬ 24 ≤ (am_I h32 a0 3) → (∃ b36, am_P h32 a0 0 = some b36 ∧ ((am_tg h32 b36).1 = 21 ∧ (vp_in (am_I h32 a0 3) (am_tg h32 b36).2 ∧ (am_b01 r3 ∧ (∃ b37, am_P h32 a0 1 = some b37 ∧ ((am_tg h32 b37).1 = 20 ∧ (vp_in (am_I (am_si h32 b36 ((am_I h32 a0 3).toNatClampNeg) r3) a0 3) (am_tg h32 b37).2 ∧ (∃ b38, am_P h32 a0 2 = some b38 ∧ ((am_tg h32 b38).1 = 20 ∧ (vp_in (am_I (am_si (am_si h32 b36 ((am_I h32 a0 3).toNatClampNeg) r3) b37 ((am_I (am_si h32 b36 ((am_I h32 a0 3).toNatClampNeg) r3) a0 3).toNatClampNeg) r30) a0 3) (am_tg h32 b38).2 ∧ Q (am_si (am_si (am_si (am_si h32 b36 ((am_I h32 a0 3).toNatClampNeg) r3) b37 ((am_I (am_si h32 b36 ((am_I h32 a0 3).toNatClampNeg) r3) a0 3).toNatClampNeg) r30) b38 ((am_I (am_si (am_si h32 b36 ((am_I h32 a0 3).toNatClampNeg) r3) b37 ((am_I (am_si h32 b36 ((am_I h32 a0 3).toNatClampNeg) r3) a0 3).toNatClampNeg) r30) a0 3).toNatClampNeg) r33) a0 3 ((am_I (am_si (am_si (am_si h32 b36 ((am_I h32 a0 3).toNatClampNeg) r3) b37 ((am_I (am_si h32 b36 ((am_I h32 a0 3).toNatClampNeg) r3) a0 3).toNatClampNeg) r30) b38 ((am_I (am_si (am_si h32 b36 ((am_I h32 a0 3).toNatClampNeg) r3) b37 ((am_I (am_si h32 b36 ((am_I h32 a0 3).toNatClampNeg) r3) a0 3).toNatClampNeg) r30) a0 3).toNatClampNeg) r33) a0 3) + 1)))))))))))))))))))))))))))))) : am_Ew m_Draft_readTurn 0 0 [.ref a0, .ref a1] h Q :=
  am_Ev.of (by decide +kernel) (Nat.le_of_ble_eq_true rfl) (by simp only [List.mem_cons, List.not_mem_nil, or_false]; intro v hv; rcases hv with rfl | rfl; all_goals first | exact trivial) (sg_Draft_readTurn_0 (kc := 0) (ks := 0) a0 a1 h (am_qw Q) t)
def bk_Draft_shiftFrom_0_2 : List am_E := [(0, .aload_n 0, 1, 0, 0), (1, .getfield 39, 3, 1225, 0)]
theorem bk_Draft_shiftFrom_0_2_ok : bk_Draft_shiftFrom_0_2.all (am_ok 3 false m_Draft_shiftFrom.2.1) = true := by decide +kernel
def bk_Draft_shiftFrom_7_2 : List am_E := [(7, .aload_n 0, 1, 0, 0), (8, .getfield 27, 3, 1217, 0)]
theorem bk_Draft_shiftFrom_7_2_ok : bk_Draft_shiftFrom_7_2.all (am_ok 3 false m_Draft_shiftFrom.2.1) = true := by decide +kernel
def bk_Draft_shiftFrom_17_2 : List am_E := [(17, .aload_n 0, 1, 0, 0), (18, .getfield 31, 3, 1221, 0)]
theorem bk_Draft_shiftFrom_17_2_ok : bk_Draft_shiftFrom_17_2.all (am_ok 3 false m_Draft_shiftFrom.2.1) = true := by decide +kernel
def bk_Draft_shiftFrom_30_2 : List am_E := [(30, .iconst 0, 1, 0, 0), (31, .istore_n 2, 1, 0, 0)]
theorem bk_Draft_shiftFrom_30_2_ok : bk_Draft_shiftFrom_30_2.all (am_ok 3 false m_Draft_shiftFrom.2.1) = true := by decide +kernel
def bk_Draft_shiftFrom_27_1 : List am_E := [(27, .bipush 6, 2, 0, 6)]
theorem bk_Draft_shiftFrom_27_1_ok : bk_Draft_shiftFrom_27_1.all (am_ok 3 false m_Draft_shiftFrom.2.1) = true := by decide +kernel
def bk_Draft_shiftFrom_32_2 : List am_E := [(32, .iload_n 2, 1, 0, 0), (33, .aload_n 1, 1, 0, 0)]
theorem bk_Draft_shiftFrom_32_2_ok : bk_Draft_shiftFrom_32_2.all (am_ok 3 false m_Draft_shiftFrom.2.1) = true := by decide +kernel
def bk_Draft_shiftFrom_162_1 : List am_E := [(162, .iconst 0, 1, 0, 0)]
theorem bk_Draft_shiftFrom_162_1_ok : bk_Draft_shiftFrom_162_1.all (am_ok 3 false m_Draft_shiftFrom.2.1) = true := by decide +kernel
def bk_Draft_shiftFrom_40_2 : List am_E := [(40, .aload_n 1, 1, 0, 0), (41, .iload_n 2, 1, 0, 0)]
theorem bk_Draft_shiftFrom_40_2_ok : bk_Draft_shiftFrom_40_2.all (am_ok 3 false m_Draft_shiftFrom.2.1) = true := by decide +kernel
def bk_Draft_shiftFrom_45_2 : List am_E := [(45, .istore_n 3, 1, 0, 0), (46, .iload_n 3, 1, 0, 0)]
theorem bk_Draft_shiftFrom_45_2_ok : bk_Draft_shiftFrom_45_2.all (am_ok 3 false m_Draft_shiftFrom.2.1) = true := by decide +kernel
def bk_Draft_shiftFrom_57_2 : List am_E := [(57, .aload_n 0, 1, 0, 0), (58, .getfield 31, 3, 1221, 0)]
theorem bk_Draft_shiftFrom_57_2_ok : bk_Draft_shiftFrom_57_2.all (am_ok 3 false m_Draft_shiftFrom.2.1) = true := by decide +kernel
def bk_Draft_shiftFrom_50_3 : List am_E := [(50, .aload_n 0, 1, 0, 0), (51, .getfield 27, 3, 1217, 0), (54, .goto 7, 3, 0, 7)]
theorem bk_Draft_shiftFrom_50_3_ok : bk_Draft_shiftFrom_50_3.all (am_ok 3 false m_Draft_shiftFrom.2.1) = true := by decide +kernel
def bk_Draft_shiftFrom_61_4 : List am_E := [(61, .astore 4, 2, 0, 0), (63, .aload 4, 2, 0, 0), (65, .aload_n 1, 1, 0, 0), (66, .iload_n 2, 1, 0, 0)]
theorem bk_Draft_shiftFrom_61_4_ok : bk_Draft_shiftFrom_61_4.all (am_ok 3 false m_Draft_shiftFrom.2.1) = true := by decide +kernel
def bk_Draft_shiftFrom_73_4 : List am_E := [(73, .istore 5, 2, 0, 0), (75, .aload 4, 2, 0, 0), (77, .aload_n 1, 1, 0, 0), (78, .iload_n 2, 1, 0, 0)]
theorem bk_Draft_shiftFrom_73_4_ok : bk_Draft_shiftFrom_73_4.all (am_ok 3 false m_Draft_shiftFrom.2.1) = true := by decide +kernel
def bk_Draft_shiftFrom_85_2 : List am_E := [(85, .istore 6, 2, 0, 0), (87, .iload_n 2, 1, 0, 0)]
theorem bk_Draft_shiftFrom_85_2_ok : bk_Draft_shiftFrom_85_2.all (am_ok 3 false m_Draft_shiftFrom.2.1) = true := by decide +kernel
def bk_Draft_shiftFrom_91_1 : List am_E := [(91, .iload 5, 2, 0, 0)]
theorem bk_Draft_shiftFrom_91_1_ok : bk_Draft_shiftFrom_91_1.all (am_ok 3 false m_Draft_shiftFrom.2.1) = true := by decide +kernel
def bk_Draft_shiftFrom_96_2 : List am_E := [(96, .iload 5, 2, 0, 0), (98, .sipush 1440, 3, 0, 1440)]
theorem bk_Draft_shiftFrom_96_2_ok : bk_Draft_shiftFrom_96_2.all (am_ok 3 false m_Draft_shiftFrom.2.1) = true := by decide +kernel
def bk_Draft_shiftFrom_104_2 : List am_E := [(104, .iconst 1, 1, 0, 1), (105, .goto 4, 3, 0, 4)]
theorem bk_Draft_shiftFrom_104_2_ok : bk_Draft_shiftFrom_104_2.all (am_ok 3 false m_Draft_shiftFrom.2.1) = true := by decide +kernel
def bk_Draft_shiftFrom_108_1 : List am_E := [(108, .iconst 0, 1, 0, 0)]
theorem bk_Draft_shiftFrom_108_1_ok : bk_Draft_shiftFrom_108_1.all (am_ok 3 false m_Draft_shiftFrom.2.1) = true := by decide +kernel
def bk_Draft_shiftFrom_109_2 : List am_E := [(109, .istore 7, 2, 0, 0), (111, .iload 7, 2, 0, 0)]
theorem bk_Draft_shiftFrom_109_2_ok : bk_Draft_shiftFrom_109_2.all (am_ok 3 false m_Draft_shiftFrom.2.1) = true := by decide +kernel
def bk_Draft_shiftFrom_116_4 : List am_E := [(116, .aload_n 0, 1, 0, 0), (117, .getfield 39, 3, 1225, 0), (120, .iload_n 3, 1, 0, 0), (121, .iload 6, 2, 0, 0)]
theorem bk_Draft_shiftFrom_116_4_ok : bk_Draft_shiftFrom_116_4.all (am_ok 3 false m_Draft_shiftFrom.2.1) = true := by decide +kernel
def bk_Draft_shiftFrom_129_3 : List am_E := [(129, .aload_n 0, 1, 0, 0), (130, .getfield 39, 3, 1225, 0), (133, .iload 5, 2, 0, 0)]
theorem bk_Draft_shiftFrom_129_3_ok : bk_Draft_shiftFrom_129_3.all (am_ok 3 false m_Draft_shiftFrom.2.1) = true := by decide +kernel
def bk_Draft_shiftFrom_144_5 : List am_E := [(144, .aload_n 0, 1, 0, 0), (145, .getfield 39, 3, 1225, 0), (148, .iload_n 3, 1, 0, 0), (149, .iload 5, 2, 0, 0), (151, .iload 6, 2, 0, 0)]
theorem bk_Draft_shiftFrom_144_5_ok : bk_Draft_shiftFrom_144_5.all (am_ok 3 false m_Draft_shiftFrom.2.1) = true := by decide +kernel
def bk_Draft_shiftFrom_156_2 : List am_E := [(156, .iinc 2 1, 3, 0, 1), (159, .goto (-127), 3, 0, -127)]
theorem bk_Draft_shiftFrom_156_2_ok : bk_Draft_shiftFrom_156_2.all (am_ok 3 false m_Draft_shiftFrom.2.1) = true := by decide +kernel
def bk_Draft_shiftFrom_141_1 : List am_E := [(141, .bipush 7, 2, 0, 7)]
theorem bk_Draft_shiftFrom_141_1_ok : bk_Draft_shiftFrom_141_1.all (am_ok 3 false m_Draft_shiftFrom.2.1) = true := by decide +kernel
theorem dc_Draft_shiftFrom_4 : decode m_Draft_shiftFrom.2.1 4 = .ok (.invokevirtual 68, 3) := by decide +kernel
theorem dc_Draft_shiftFrom_11 : decode m_Draft_shiftFrom.2.1 11 = .ok (.invokevirtual 87, 3) := by decide +kernel
theorem dc_Draft_shiftFrom_21 : decode m_Draft_shiftFrom.2.1 21 = .ok (.invokevirtual 87, 3) := by decide +kernel
theorem dc_Draft_shiftFrom_24 : decode m_Draft_shiftFrom.2.1 24 = .ok (.ifCond .ne 6, 3) := by decide +kernel
theorem dc_Draft_shiftFrom_14 : decode m_Draft_shiftFrom.2.1 14 = .ok (.ifCond .eq 13, 3) := by decide +kernel
theorem dc_Draft_shiftFrom_29 : decode m_Draft_shiftFrom.2.1 29 = .ok (.ireturn, 1) := by decide +kernel
theorem dc_Draft_shiftFrom_34 : decode m_Draft_shiftFrom.2.1 34 = .ok (.invokevirtual 91, 3) := by decide +kernel
theorem dc_Draft_shiftFrom_163 : decode m_Draft_shiftFrom.2.1 163 = .ok (.ireturn, 1) := by decide +kernel
theorem dc_Draft_shiftFrom_42 : decode m_Draft_shiftFrom.2.1 42 = .ok (.invokevirtual 95, 3) := by decide +kernel
theorem dc_Draft_shiftFrom_47 : decode m_Draft_shiftFrom.2.1 47 = .ok (.ifCond .eq 10, 3) := by decide +kernel
theorem dc_Draft_shiftFrom_37 : decode m_Draft_shiftFrom.2.1 37 = .ok (.if_icmp .ge 125, 3) := by decide +kernel
theorem dc_Draft_shiftFrom_67 : decode m_Draft_shiftFrom.2.1 67 = .ok (.invokevirtual 99, 3) := by decide +kernel
theorem dc_Draft_shiftFrom_70 : decode m_Draft_shiftFrom.2.1 70 = .ok (.invokevirtual 102, 3) := by decide +kernel
theorem dc_Draft_shiftFrom_79 : decode m_Draft_shiftFrom.2.1 79 = .ok (.invokevirtual 105, 3) := by decide +kernel
theorem dc_Draft_shiftFrom_82 : decode m_Draft_shiftFrom.2.1 82 = .ok (.invokevirtual 108, 3) := by decide +kernel
theorem dc_Draft_shiftFrom_101 : decode m_Draft_shiftFrom.2.1 101 = .ok (.if_icmp .ge 7, 3) := by decide +kernel
theorem dc_Draft_shiftFrom_93 : decode m_Draft_shiftFrom.2.1 93 = .ok (.ifCond .lt 15, 3) := by decide +kernel
theorem dc_Draft_shiftFrom_88 : decode m_Draft_shiftFrom.2.1 88 = .ok (.ifCond .gt 16, 3) := by decide +kernel
theorem dc_Draft_shiftFrom_123 : decode m_Draft_shiftFrom.2.1 123 = .ok (.invokevirtual 111, 3) := by decide +kernel
theorem dc_Draft_shiftFrom_135 : decode m_Draft_shiftFrom.2.1 135 = .ok (.invokevirtual 115, 3) := by decide +kernel
theorem dc_Draft_shiftFrom_153 : decode m_Draft_shiftFrom.2.1 153 = .ok (.invokevirtual 83, 3) := by decide +kernel
theorem dc_Draft_shiftFrom_138 : decode m_Draft_shiftFrom.2.1 138 = .ok (.ifCond .eq 6, 3) := by decide +kernel
theorem dc_Draft_shiftFrom_126 : decode m_Draft_shiftFrom.2.1 126 = .ok (.ifCond .ne 15, 3) := by decide +kernel
theorem dc_Draft_shiftFrom_113 : decode m_Draft_shiftFrom.2.1 113 = .ok (.ifCond .eq 28, 3) := by decide +kernel
theorem dc_Draft_shiftFrom_143 : decode m_Draft_shiftFrom.2.1 143 = .ok (.ireturn, 1) := by decide +kernel
set_option maxRecDepth 20000 in
theorem sg_Draft_shiftFrom_0 {kc ks : Nat} (a0 a1 : Nat) (h : am_H) (Q : Option Value → am_H → Prop) (t : (am_tg h a0 = (3, 7) ∧ (∃ b1, am_P h a0 6 = some b1 ∧ (am_tg h b1 = (2, 5) ∧ (am_Ew m_Port_clear 0 0 [.ref b1] h (fun h5 => (am_tg h5 a0 = (3, 7) ∧ (∃ b6, am_P h5 a0 4 = some b6 ∧ (am_tg h5 b6 = (5, 5) ∧ (am_Ei m_Shift_isSound 0 0 [.ref b6] h5 (fun r11 h10 => ((r11 = 0 → am_EI m_Draft_shiftFrom kc ks 27 [.ref a0, .ref a1, .float 0, .float 0, .float 0, .float 0, .float 0, .float 0] [] h10 Q) ∧ (¬ r11 = 0 → (am_tg h10 a0 = (3, 7) ∧ (∃ b13, am_P h10 a0 5 = some b13 ∧ (am_tg h10 b13 = (5, 5) ∧ (am_Ei m_Shift_isSound 0 0 [.ref b13] h10 (fun r18 h17 => ((¬ r18 = 0 → am_EI m_Draft_shiftFrom kc ks 32 [.ref a0, .ref a1, .int 0, .float 0, .float 0, .float 0, .float 0, .float 0] [] h17 Q) ∧ (r18 = 0 → am_EI m_Draft_shiftFrom kc ks 27 [.ref a0, .ref a1, .float 0, .float 0, .float 0, .float 0, .float 0, .float 0] [] h17 Q)))))))))))))))))))) : am_EI m_Draft_shiftFrom kc ks 0 [.ref a0, .ref a1, .float 0, .float 0, .float 0, .float 0, .float 0, .float 0] [] h Q := by
  refine am_blk_ok (c := 3) (ini := false) (by decide) rfl (fun q => by cases q) bk_Draft_shiftFrom_0_2 _ 4 _ _ _ bk_Draft_shiftFrom_0_2_ok rfl ?_
  show (am_tg h a0 = (3, 7) ∧ (∃ b1, am_P h a0 6 = some b1 ∧ am_EI m_Draft_shiftFrom kc ks 4 [.ref a0, .ref a1, .float 0, .float 0, .float 0, .float 0, .float 0, .float 0] [.ref b1] h Q))
  obtain ⟨o2, b1, q3, t⟩ := t
  refine ⟨o2, b1, q3, ?_⟩
  obtain ⟨o4, t⟩ := t
  refine am_callV (M2 := m_Port_clear) (ci := 2) (a := b1) (kc := kc) (ks := ks) (k2c := 0) (k2s := 0) (as := []) [] dc_Draft_shiftFrom_4 lk_3_68 im_Port_clear se_Port_clear lm_Port_clear np_Port_clear ⟨Nat.le_of_ble_eq_true rfl, Nat.le_of_ble_eq_true rfl⟩ (fun _ => Nat.le_of_ble_eq_true rfl) (by decide) rfl o4 (am_Ew.end (am_Ew.mono t (fun h5 t => ?_)))
  refine am_blk_ok (c := 3) (ini := false) (by decide) rfl (fun q => by cases q) bk_Draft_shiftFrom_7_2 _ 11 _ _ _ bk_Draft_shiftFrom_7_2_ok rfl ?_
  show (am_tg h5 a0 = (3, 7) ∧ (∃ b6, am_P h5 a0 4 = some b6 ∧ am_EI m_Draft_shiftFrom kc ks 11 [.ref a0, .ref a1, .float 0, .float 0, .float 0, .float 0, .float 0, .float 0] [.ref b6] h5 Q))
  obtain ⟨o7, b6, q8, t⟩ := t
  refine ⟨o7, b6, q8, ?_⟩
  obtain ⟨o9, t⟩ := t
  refine am_callV (M2 := m_Shift_isSound) (ci := 5) (a := b6) (kc := kc) (ks := ks) (k2c := 0) (k2s := 0) (as := []) [] dc_Draft_shiftFrom_11 lk_3_87 im_Shift_isSound se_Shift_isSound lm_Shift_isSound np_Shift_isSound ⟨Nat.le_of_ble_eq_true rfl, Nat.le_of_ble_eq_true rfl⟩ (fun _ => Nat.le_of_ble_eq_true rfl) (by decide) rfl o9 (am_Ei.end (am_Ei.mono t (fun r11 h10 t => ?_)))
  refine am_if_eq (tgt := 27) dc_Draft_shiftFrom_14 (by decide) (fun c12 => ?_) (fun c12 => ?_)
  · replace t := t.1 c12
    exact t
  · replace t := t.2 c12
    refine am_blk_ok (c := 3) (ini := false) (by decide) rfl (fun q => by cases q) bk_Draft_shiftFrom_17_2 _ 21 _ _ _ bk_Draft_shiftFrom_17_2_ok rfl ?_
    show (am_tg h10 a0 = (3, 7) ∧ (∃ b13, am_P h10 a0 5 = some b13 ∧ am_EI m_Draft_shiftFrom kc ks 21 [.ref a0, .ref a1, .float 0, .float 0, .float 0, .float 0, .float 0, .float 0] [.ref b13] h10 Q))
    obtain ⟨o14, b13, q15, t⟩ := t
    refine ⟨o14, b13, q15, ?_⟩
    obtain ⟨o16, t⟩ := t
    refine am_callV (M2 := m_Shift_isSound) (ci := 5) (a := b13) (kc := kc) (ks := ks) (k2c := 0) (k2s := 0) (as := []) [] dc_Draft_shiftFrom_21 lk_3_87 im_Shift_isSound se_Shift_isSound lm_Shift_isSound np_Shift_isSound ⟨Nat.le_of_ble_eq_true rfl, Nat.le_of_ble_eq_true rfl⟩ (fun _ => Nat.le_of_ble_eq_true rfl) (by decide) rfl o16 (am_Ei.end (am_Ei.mono t (fun r18 h17 t => ?_)))
    refine am_if_ne (tgt := 30) dc_Draft_shiftFrom_24 (by decide) (fun c19 => ?_) (fun c19 => ?_)
    · replace t := t.1 c19
      refine am_blk_ok (c := 3) (ini := false) (by decide) rfl (fun q => by cases q) bk_Draft_shiftFrom_30_2 _ 32 _ _ _ bk_Draft_shiftFrom_30_2_ok rfl ?_
      show am_EI m_Draft_shiftFrom kc ks 32 [.ref a0, .ref a1, .int 0, .float 0, .float 0, .float 0, .float 0, .float 0] [] h17 Q
      exact t
    · replace t := t.2 c19
      exact t
set_option maxRecDepth 20000 in
theorem ev_Draft_shiftFrom (a0 a1 : Nat) (h : am_H) (Q : Int32 → am_H → Prop) (t : (am_tg h a0 = (3, 7) ∧ (∃ b1, am_P h a0 6 = some b1 ∧ (am_tg h b1 = (2, 5) ∧ (am_Ew m_Port_clear 0 0 [.ref b1] h (fun h5 => (am_tg h5 a0 = (3, 7) ∧ (∃ b6, am_P h5 a0 4 = some b6 ∧ (am_tg h5 b6 = (5, 5) ∧ (am_Ei m_Shift_isSound 0 0 [.ref b6] h5 (fun r11 h10 => ((r11 = 0 → am_EI m_Draft_shiftFrom 0 0 27 [.ref a0, .ref a1, .float 0, .float 0, .float 0, .float 0, .float 0, .float 0] [] h10 (am_qi Q)) ∧ (¬ r11 = 0 → (am_tg h10 a0 = (3, 7) ∧ (∃ b13, am_P h10 a0 5 = some b13 ∧ (am_tg h10 b13 = (5, 5) ∧ (am_Ei m_Shift_isSound 0 0 [.ref b13] h10 (fun r18 h17 => ((¬ r18 = 0 → am_EI m_Draft_shiftFrom 0 0 32 [.ref a0, .ref a1, .int 0, .float 0, .float 0, .float 0, .float 0, .float 0] [] h17 (am_qi Q)) ∧ (r18 = 0 → am_EI m_Draft_shiftFrom 0 0 27 [.ref a0, .ref a1, .float 0, .float 0, .float 0, .float 0, .float 0, .float 0] [] h17 (am_qi Q))))))))))))))))))))) : am_Ei m_Draft_shiftFrom 0 0 [.ref a0, .ref a1] h Q :=
  am_Ev.of (by decide +kernel) (Nat.le_of_ble_eq_true rfl) (by simp only [List.mem_cons, List.not_mem_nil, or_false]; intro v hv; rcases hv with rfl | rfl; all_goals first | exact trivial) (sg_Draft_shiftFrom_0 (kc := 0) (ks := 0) a0 a1 h (am_qi Q) t)
set_option maxRecDepth 20000 in
theorem sg_Draft_shiftFrom_27 {kc ks : Nat} (a0 a1 : Nat) (h : am_H) (Q : Option Value → am_H → Prop) (t : Q (some (.int 6)) h) : am_EI m_Draft_shiftFrom kc ks 27 [.ref a0, .ref a1, .float 0, .float 0, .float 0, .float 0, .float 0, .float 0] [] h Q := by
  refine am_blk_ok (c := 3) (ini := false) (by decide) rfl (fun q => by cases q) bk_Draft_shiftFrom_27_1 _ 29 _ _ _ bk_Draft_shiftFrom_27_1_ok rfl ?_
  show am_EI m_Draft_shiftFrom kc ks 29 [.ref a0, .ref a1, .float 0, .float 0, .float 0, .float 0, .float 0, .float 0] [.int 6] h Q
  exact am_iret dc_Draft_shiftFrom_29 rfl t
set_option maxRecDepth 20000 in
theorem sg_Draft_shiftFrom_32 {kc ks : Nat} (a0 a1 : Nat) (x2 : Int32) (h : am_H) (Q : Option Value → am_H → Prop) (t : (am_tg h a1 = (2, 5) ∧ (am_Ei m_Port_turnCount 0 0 [.ref a1] h (fun r3 h2 => ((r3 ≤ x2 → Q (some (.int 0)) h2) ∧ (¬ r3 ≤ x2 → (am_tg h2 a1 = (2, 5) ∧ (am_Ei m_Port_isHigh 0 0 [.ref a1, .int x2] h2 (fun r7 h6 => ((r7 = 0 → (am_tg h6 a0 = (3, 7) ∧ (∃ b9, am_P h6 a0 5 = some b9 ∧ am_EI m_Draft_shiftFrom kc ks 61 [.ref a0, .ref a1, .int x2, .int r7, .float 0, .float 0, .float 0, .float 0] [.ref b9] h6 Q))) ∧ (¬ r7 = 0 → (am_tg h6 a0 = (3, 7) ∧ (∃ b12, am_P h6 a0 4 = some b12 ∧ am_EI m_Draft_shiftFrom kc ks 61 [.ref a0, .ref a1, .int x2, .int r7, .float 0, .float 0, .float 0, .float 0] [.ref b12] h6 Q))))))))))))) : am_EI m_Draft_shiftFrom kc ks 32 [.ref a0, .ref a1, .int x2, .float 0, .float 0, .float 0, .float 0, .float 0] [] h Q := by
  refine am_blk_ok (c := 3) (ini := false) (by decide) rfl (fun q => by cases q) bk_Draft_shiftFrom_32_2 _ 34 _ _ _ bk_Draft_shiftFrom_32_2_ok rfl ?_
  show am_EI m_Draft_shiftFrom kc ks 34 [.ref a0, .ref a1, .int x2, .float 0, .float 0, .float 0, .float 0, .float 0] [.ref a1, .int x2] h Q
  obtain ⟨o1, t⟩ := t
  refine am_callV (M2 := m_Port_turnCount) (ci := 2) (a := a1) (kc := kc) (ks := ks) (k2c := 0) (k2s := 0) (as := [.int x2]) [] dc_Draft_shiftFrom_34 lk_3_91 im_Port_turnCount se_Port_turnCount lm_Port_turnCount np_Port_turnCount ⟨Nat.le_of_ble_eq_true rfl, Nat.le_of_ble_eq_true rfl⟩ (fun _ => Nat.le_of_ble_eq_true rfl) (by decide) rfl o1 (am_Ei.end (am_Ei.mono t (fun r3 h2 t => ?_)))
  refine am_ic_ge (tgt := 162) dc_Draft_shiftFrom_37 (by decide) (fun c4 => ?_) (fun c4 => ?_)
  · replace t := t.1 c4
    refine am_blk_ok (c := 3) (ini := false) (by decide) rfl (fun q => by cases q) bk_Draft_shiftFrom_162_1 _ 163 _ _ _ bk_Draft_shiftFrom_162_1_ok rfl ?_
    show am_EI m_Draft_shiftFrom kc ks 163 [.ref a0, .ref a1, .int x2, .float 0, .float 0, .float 0, .float 0, .float 0] [.int 0] h2 Q
    exact am_iret dc_Draft_shiftFrom_163 rfl t
  · replace t := t.2 c4
    refine am_blk_ok (c := 3) (ini := false) (by decide) rfl (fun q => by cases q) bk_Draft_shiftFrom_40_2 _ 42 _ _ _ bk_Draft_shiftFrom_40_2_ok rfl ?_
    show am_EI m_Draft_shiftFrom kc ks 42 [.ref a0, .ref a1, .int x2, .float 0, .float 0, .float 0, .float 0, .float 0] [.int x2, .ref a1] h2 Q
    obtain ⟨o5, t⟩ := t
    refine am_callV (M2 := m_Port_isHigh) (ci := 2) (a := a1) (kc := kc) (ks := ks) (k2c := 0) (k2s := 0) (as := []) [.int x2] dc_Draft_shiftFrom_42 lk_3_95 im_Port_isHigh se_Port_isHigh lm_Port_isHigh np_Port_isHigh ⟨Nat.le_of_ble_eq_true rfl, Nat.le_of_ble_eq_true rfl⟩ (fun _ => Nat.le_of_ble_eq_true rfl) (by decide) rfl o5 (am_Ei.end (am_Ei.mono t (fun r7 h6 t => ?_)))
    refine am_blk_ok (c := 3) (ini := false) (by decide) rfl (fun q => by cases q) bk_Draft_shiftFrom_45_2 _ 47 _ _ _ bk_Draft_shiftFrom_45_2_ok rfl ?_
    show am_EI m_Draft_shiftFrom kc ks 47 [.ref a0, .ref a1, .int x2, .int r7, .float 0, .float 0, .float 0, .float 0] [.int r7] h6 Q
    refine am_if_eq (tgt := 57) dc_Draft_shiftFrom_47 (by decide) (fun c8 => ?_) (fun c8 => ?_)
    · replace t := t.1 c8
      refine am_blk_ok (c := 3) (ini := false) (by decide) rfl (fun q => by cases q) bk_Draft_shiftFrom_57_2 _ 61 _ _ _ bk_Draft_shiftFrom_57_2_ok rfl ?_
      show (am_tg h6 a0 = (3, 7) ∧ (∃ b9, am_P h6 a0 5 = some b9 ∧ am_EI m_Draft_shiftFrom kc ks 61 [.ref a0, .ref a1, .int x2, .int r7, .float 0, .float 0, .float 0, .float 0] [.ref b9] h6 Q))
      obtain ⟨o10, b9, q11, t⟩ := t
      refine ⟨o10, b9, q11, ?_⟩
      exact t
    · replace t := t.2 c8
      refine am_blk_ok (c := 3) (ini := false) (by decide) rfl (fun q => by cases q) bk_Draft_shiftFrom_50_3 _ 61 _ _ _ bk_Draft_shiftFrom_50_3_ok rfl ?_
      show (am_tg h6 a0 = (3, 7) ∧ (∃ b12, am_P h6 a0 4 = some b12 ∧ am_EI m_Draft_shiftFrom kc ks 61 [.ref a0, .ref a1, .int x2, .int r7, .float 0, .float 0, .float 0, .float 0] [.ref b12] h6 Q))
      obtain ⟨o13, b12, q14, t⟩ := t
      refine ⟨o13, b12, q14, ?_⟩
      exact t
set_option maxRecDepth 20000 in
theorem sg_Draft_shiftFrom_61 {kc ks : Nat} (a0 a1 d0 : Nat) (x2 x3 : Int32) (h : am_H) (Q : Option Value → am_H → Prop) (t : (am_tg h a1 = (2, 5) ∧ (am_Ei m_Port_minuteOf 0 0 [.ref a1, .int x2] h (fun r3 h2 => (am_tg h2 d0 = (5, 5) ∧ (am_Ei m_Shift_minuteFor 0 0 [.ref d0, .int r3] h2 (fun r6 h5 => (am_tg h5 a1 = (2, 5) ∧ (am_Ei m_Port_heightOf 0 0 [.ref a1, .int x2] h5 (fun r9 h8 => (am_tg h8 d0 = (5, 5) ∧ (am_Ei m_Shift_heightFor 0 0 [.ref d0, .int r9] h8 (fun r12 h11 => ((0 < x2 → am_EI m_Draft_shiftFrom kc ks 104 [.ref a0, .ref a1, .int x2, .int x3, .ref d0, .int r6, .int r12, .float 0] [] h11 Q) ∧ (¬ 0 < x2 → ((r6 < 0 → am_EI m_Draft_shiftFrom kc ks 108 [.ref a0, .ref a1, .int x2, .int x3, .ref d0, .int r6, .int r12, .float 0] [] h11 Q) ∧ (¬ r6 < 0 → ((1440 ≤ r6 → am_EI m_Draft_shiftFrom kc ks 108 [.ref a0, .ref a1, .int x2, .int x3, .ref d0, .int r6, .int r12, .float 0] [] h11 Q) ∧ (¬ 1440 ≤ r6 → am_EI m_Draft_shiftFrom kc ks 104 [.ref a0, .ref a1, .int x2, .int x3, .ref d0, .int r6, .int r12, .float 0] [] h11 Q))))))))))))))))))) : am_EI m_Draft_shiftFrom kc ks 61 [.ref a0, .ref a1, .int x2, .int x3, .float 0, .float 0, .float 0, .float 0] [.ref d0] h Q := by
  refine am_blk_ok (c := 3) (ini := false) (by decide) rfl (fun q => by cases q) bk_Draft_shiftFrom_61_4 _ 67 _ _ _ bk_Draft_shiftFrom_61_4_ok rfl ?_
  show am_EI m_Draft_shiftFrom kc ks 67 [.ref a0, .ref a1, .int x2, .int x3, .ref d0, .float 0, .float 0, .float 0] [.int x2, .ref a1, .ref d0] h Q
  obtain ⟨o1, t⟩ := t
  refine am_callV (M2 := m_Port_minuteOf) (ci := 2) (a := a1) (kc := kc) (ks := ks) (k2c := 0) (k2s := 0) (as := [.ref d0]) [.int x2] dc_Draft_shiftFrom_67 lk_3_99 im_Port_minuteOf se_Port_minuteOf lm_Port_minuteOf np_Port_minuteOf ⟨Nat.le_of_ble_eq_true rfl, Nat.le_of_ble_eq_true rfl⟩ (fun _ => Nat.le_of_ble_eq_true rfl) (by decide) rfl o1 (am_Ei.end (am_Ei.mono t (fun r3 h2 t => ?_)))
  obtain ⟨o4, t⟩ := t
  refine am_callV (M2 := m_Shift_minuteFor) (ci := 5) (a := d0) (kc := kc) (ks := ks) (k2c := 0) (k2s := 0) (as := []) [.int r3] dc_Draft_shiftFrom_70 lk_3_102 im_Shift_minuteFor se_Shift_minuteFor lm_Shift_minuteFor np_Shift_minuteFor ⟨Nat.le_of_ble_eq_true rfl, Nat.le_of_ble_eq_true rfl⟩ (fun _ => Nat.le_of_ble_eq_true rfl) (by decide) rfl o4 (am_Ei.end (am_Ei.mono t (fun r6 h5 t => ?_)))
  refine am_blk_ok (c := 3) (ini := false) (by decide) rfl (fun q => by cases q) bk_Draft_shiftFrom_73_4 _ 79 _ _ _ bk_Draft_shiftFrom_73_4_ok rfl ?_
  show am_EI m_Draft_shiftFrom kc ks 79 [.ref a0, .ref a1, .int x2, .int x3, .ref d0, .int r6, .float 0, .float 0] [.int x2, .ref a1, .ref d0] h5 Q
  obtain ⟨o7, t⟩ := t
  refine am_callV (M2 := m_Port_heightOf) (ci := 2) (a := a1) (kc := kc) (ks := ks) (k2c := 0) (k2s := 0) (as := [.ref d0]) [.int x2] dc_Draft_shiftFrom_79 lk_3_105 im_Port_heightOf se_Port_heightOf lm_Port_heightOf np_Port_heightOf ⟨Nat.le_of_ble_eq_true rfl, Nat.le_of_ble_eq_true rfl⟩ (fun _ => Nat.le_of_ble_eq_true rfl) (by decide) rfl o7 (am_Ei.end (am_Ei.mono t (fun r9 h8 t => ?_)))
  obtain ⟨o10, t⟩ := t
  refine am_callV (M2 := m_Shift_heightFor) (ci := 5) (a := d0) (kc := kc) (ks := ks) (k2c := 0) (k2s := 0) (as := []) [.int r9] dc_Draft_shiftFrom_82 lk_3_108 im_Shift_heightFor se_Shift_heightFor lm_Shift_heightFor np_Shift_heightFor ⟨Nat.le_of_ble_eq_true rfl, Nat.le_of_ble_eq_true rfl⟩ (fun _ => Nat.le_of_ble_eq_true rfl) (by decide) rfl o10 (am_Ei.end (am_Ei.mono t (fun r12 h11 t => ?_)))
  refine am_blk_ok (c := 3) (ini := false) (by decide) rfl (fun q => by cases q) bk_Draft_shiftFrom_85_2 _ 88 _ _ _ bk_Draft_shiftFrom_85_2_ok rfl ?_
  show am_EI m_Draft_shiftFrom kc ks 88 [.ref a0, .ref a1, .int x2, .int x3, .ref d0, .int r6, .int r12, .float 0] [.int x2] h11 Q
  refine am_if_gt (tgt := 104) dc_Draft_shiftFrom_88 (by decide) (fun c13 => ?_) (fun c13 => ?_)
  · replace t := t.1 c13
    exact t
  · replace t := t.2 c13
    refine am_blk_ok (c := 3) (ini := false) (by decide) rfl (fun q => by cases q) bk_Draft_shiftFrom_91_1 _ 93 _ _ _ bk_Draft_shiftFrom_91_1_ok rfl ?_
    show am_EI m_Draft_shiftFrom kc ks 93 [.ref a0, .ref a1, .int x2, .int x3, .ref d0, .int r6, .int r12, .float 0] [.int r6] h11 Q
    refine am_if_lt (tgt := 108) dc_Draft_shiftFrom_93 (by decide) (fun c14 => ?_) (fun c14 => ?_)
    · replace t := t.1 c14
      exact t
    · replace t := t.2 c14
      refine am_blk_ok (c := 3) (ini := false) (by decide) rfl (fun q => by cases q) bk_Draft_shiftFrom_96_2 _ 101 _ _ _ bk_Draft_shiftFrom_96_2_ok rfl ?_
      show am_EI m_Draft_shiftFrom kc ks 101 [.ref a0, .ref a1, .int x2, .int x3, .ref d0, .int r6, .int r12, .float 0] [.int 1440, .int r6] h11 Q
      refine am_ic_ge (tgt := 108) dc_Draft_shiftFrom_101 (by decide) (fun c15 => ?_) (fun c15 => ?_)
      · replace t := t.1 c15
        exact t
      · replace t := t.2 c15
        exact t
set_option maxRecDepth 20000 in
theorem sg_Draft_shiftFrom_104 {kc ks : Nat} (a0 a1 a4 : Nat) (x2 x3 x5 x6 : Int32) (h : am_H) (Q : Option Value → am_H → Prop) (t : am_EI m_Draft_shiftFrom kc ks 109 [.ref a0, .ref a1, .int x2, .int x3, .ref a4, .int x5, .int x6, .float 0] [.int 1] h Q) : am_EI m_Draft_shiftFrom kc ks 104 [.ref a0, .ref a1, .int x2, .int x3, .ref a4, .int x5, .int x6, .float 0] [] h Q := by
  refine am_blk_ok (c := 3) (ini := false) (by decide) rfl (fun q => by cases q) bk_Draft_shiftFrom_104_2 _ 109 _ _ _ bk_Draft_shiftFrom_104_2_ok rfl ?_
  show am_EI m_Draft_shiftFrom kc ks 109 [.ref a0, .ref a1, .int x2, .int x3, .ref a4, .int x5, .int x6, .float 0] [.int 1] h Q
  exact t
set_option maxRecDepth 20000 in
theorem sg_Draft_shiftFrom_108 {kc ks : Nat} (a0 a1 a4 : Nat) (x2 x3 x5 x6 : Int32) (h : am_H) (Q : Option Value → am_H → Prop) (t : am_EI m_Draft_shiftFrom kc ks 109 [.ref a0, .ref a1, .int x2, .int x3, .ref a4, .int x5, .int x6, .float 0] [.int 0] h Q) : am_EI m_Draft_shiftFrom kc ks 108 [.ref a0, .ref a1, .int x2, .int x3, .ref a4, .int x5, .int x6, .float 0] [] h Q := by
  refine am_blk_ok (c := 3) (ini := false) (by decide) rfl (fun q => by cases q) bk_Draft_shiftFrom_108_1 _ 109 _ _ _ bk_Draft_shiftFrom_108_1_ok rfl ?_
  show am_EI m_Draft_shiftFrom kc ks 109 [.ref a0, .ref a1, .int x2, .int x3, .ref a4, .int x5, .int x6, .float 0] [.int 0] h Q
  exact t
set_option maxRecDepth 20000 in
theorem sg_Draft_shiftFrom_109 {kc ks : Nat} (a0 a1 a4 : Nat) (x2 x3 x5 x6 y0 : Int32) (h : am_H) (Q : Option Value → am_H → Prop) (t : ((y0 = 0 → am_EI m_Draft_shiftFrom kc ks 141 [.ref a0, .ref a1, .int x2, .int x3, .ref a4, .int x5, .int x6, .int y0] [] h Q) ∧ (¬ y0 = 0 → (am_tg h a0 = (3, 7) ∧ (∃ b2, am_P h a0 6 = some b2 ∧ (am_tg h b2 = (2, 5) ∧ (am_Ei m_Port_faultOfHeight 0 0 [.ref b2, .int x3, .int x6] h (fun r7 h6 => ((¬ r7 = 0 → am_EI m_Draft_shiftFrom kc ks 141 [.ref a0, .ref a1, .int x2, .int x3, .ref a4, .int x5, .int x6, .int y0] [] h6 Q) ∧ (r7 = 0 → (am_tg h6 a0 = (3, 7) ∧ (∃ b9, am_P h6 a0 6 = some b9 ∧ (am_tg h6 b9 = (2, 5) ∧ (am_Ei m_Port_faultOfMinute 0 0 [.ref b9, .int x5] h6 (fun r14 h13 => ((r14 = 0 → (am_tg h13 a0 = (3, 7) ∧ (∃ b16, am_P h13 a0 6 = some b16 ∧ (am_tg h13 b16 = (2, 5) ∧ (am_Ew m_Port_add 0 0 [.ref b16, .int x3, .int x5, .int x6] h13 (fun h20 => am_EI m_Draft_shiftFrom kc ks 32 [.ref a0, .ref a1, .int (x2 + 1), .float 0, .float 0, .float 0, .float 0, .float 0] [] h20 Q)))))) ∧ (¬ r14 = 0 → am_EI m_Draft_shiftFrom kc ks 141 [.ref a0, .ref a1, .int x2, .int x3, .ref a4, .int x5, .int x6, .int y0] [] h13 Q))))))))))))))))) : am_EI m_Draft_shiftFrom kc ks 109 [.ref a0, .ref a1, .int x2, .int x3, .ref a4, .int x5, .int x6, .float 0] [.int y0] h Q := by
  refine am_blk_ok (c := 3) (ini := false) (by decide) rfl (fun q => by cases q) bk_Draft_shiftFrom_109_2 _ 113 _ _ _ bk_Draft_shiftFrom_109_2_ok rfl ?_
  show am_EI m_Draft_shiftFrom kc ks 113 [.ref a0, .ref a1, .int x2, .int x3, .ref a4, .int x5, .int x6, .int y0] [.int y0] h Q
  refine am_if_eq (tgt := 141) dc_Draft_shiftFrom_113 (by decide) (fun c1 => ?_) (fun c1 => ?_)
  · replace t := t.1 c1
    exact t
  · replace t := t.2 c1
    refine am_blk_ok (c := 3) (ini := false) (by decide) rfl (fun q => by cases q) bk_Draft_shiftFrom_116_4 _ 123 _ _ _ bk_Draft_shiftFrom_116_4_ok rfl ?_
    show (am_tg h a0 = (3, 7) ∧ (∃ b2, am_P h a0 6 = some b2 ∧ am_EI m_Draft_shiftFrom kc ks 123 [.ref a0, .ref a1, .int x2, .int x3, .ref a4, .int x5, .int x6, .int y0] [.int x6, .int x3, .ref b2] h Q))
    obtain ⟨o3, b2, q4, t⟩ := t
    refine ⟨o3, b2, q4, ?_⟩
    obtain ⟨o5, t⟩ := t
    refine am_callV (M2 := m_Port_faultOfHeight) (ci := 2) (a := b2) (kc := kc) (ks := ks) (k2c := 0) (k2s := 0) (as := []) [.int x3, .int x6] dc_Draft_shiftFrom_123 lk_3_111 im_Port_faultOfHeight se_Port_faultOfHeight lm_Port_faultOfHeight np_Port_faultOfHeight ⟨Nat.le_of_ble_eq_true rfl, Nat.le_of_ble_eq_true rfl⟩ (fun _ => Nat.le_of_ble_eq_true rfl) (by decide) rfl o5 (am_Ei.end (am_Ei.mono t (fun r7 h6 t => ?_)))
    refine am_if_ne (tgt := 141) dc_Draft_shiftFrom_126 (by decide) (fun c8 => ?_) (fun c8 => ?_)
    · replace t := t.1 c8
      exact t
    · replace t := t.2 c8
      refine am_blk_ok (c := 3) (ini := false) (by decide) rfl (fun q => by cases q) bk_Draft_shiftFrom_129_3 _ 135 _ _ _ bk_Draft_shiftFrom_129_3_ok rfl ?_
      show (am_tg h6 a0 = (3, 7) ∧ (∃ b9, am_P h6 a0 6 = some b9 ∧ am_EI m_Draft_shiftFrom kc ks 135 [.ref a0, .ref a1, .int x2, .int x3, .ref a4, .int x5, .int x6, .int y0] [.int x5, .ref b9] h6 Q))
      obtain ⟨o10, b9, q11, t⟩ := t
      refine ⟨o10, b9, q11, ?_⟩
      obtain ⟨o12, t⟩ := t
      refine am_callV (M2 := m_Port_faultOfMinute) (ci := 2) (a := b9) (kc := kc) (ks := ks) (k2c := 0) (k2s := 0) (as := []) [.int x5] dc_Draft_shiftFrom_135 lk_3_115 im_Port_faultOfMinute se_Port_faultOfMinute lm_Port_faultOfMinute np_Port_faultOfMinute ⟨Nat.le_of_ble_eq_true rfl, Nat.le_of_ble_eq_true rfl⟩ (fun _ => Nat.le_of_ble_eq_true rfl) (by decide) rfl o12 (am_Ei.end (am_Ei.mono t (fun r14 h13 t => ?_)))
      refine am_if_eq (tgt := 144) dc_Draft_shiftFrom_138 (by decide) (fun c15 => ?_) (fun c15 => ?_)
      · replace t := t.1 c15
        refine am_blk_ok (c := 3) (ini := false) (by decide) rfl (fun q => by cases q) bk_Draft_shiftFrom_144_5 _ 153 _ _ _ bk_Draft_shiftFrom_144_5_ok rfl ?_
        show (am_tg h13 a0 = (3, 7) ∧ (∃ b16, am_P h13 a0 6 = some b16 ∧ am_EI m_Draft_shiftFrom kc ks 153 [.ref a0, .ref a1, .int x2, .int x3, .ref a4, .int x5, .int x6, .int y0] [.int x6, .int x5, .int x3, .ref b16] h13 Q))
        obtain ⟨o17, b16, q18, t⟩ := t
        refine ⟨o17, b16, q18, ?_⟩
        obtain ⟨o19, t⟩ := t
        refine am_callV (M2 := m_Port_add) (ci := 2) (a := b16) (kc := kc) (ks := ks) (k2c := 0) (k2s := 0) (as := []) [.int x3, .int x5, .int x6] dc_Draft_shiftFrom_153 lk_3_83 im_Port_add se_Port_add lm_Port_add np_Port_add ⟨Nat.le_of_ble_eq_true rfl, Nat.le_of_ble_eq_true rfl⟩ (fun _ => Nat.le_of_ble_eq_true rfl) (by decide) rfl o19 (am_Ew.end (am_Ew.mono t (fun h20 t => ?_)))
        refine am_blk_ok (c := 3) (ini := false) (by decide) rfl (fun q => by cases q) bk_Draft_shiftFrom_156_2 _ 32 _ _ _ bk_Draft_shiftFrom_156_2_ok rfl ?_
        show am_EI m_Draft_shiftFrom kc ks 32 [.ref a0, .ref a1, .int (x2 + 1), .int x3, .ref a4, .int x5, .int x6, .int y0] [] h20 Q
        refine am_EI.fg 3 ?_
        show am_EI m_Draft_shiftFrom kc ks 32 [.ref a0, .ref a1, .int (x2 + 1), .float 0, .ref a4, .int x5, .int x6, .int y0] [] h20 Q
        refine am_EI.fg 4 ?_
        show am_EI m_Draft_shiftFrom kc ks 32 [.ref a0, .ref a1, .int (x2 + 1), .float 0, .float 0, .int x5, .int x6, .int y0] [] h20 Q
        refine am_EI.fg 5 ?_
        show am_EI m_Draft_shiftFrom kc ks 32 [.ref a0, .ref a1, .int (x2 + 1), .float 0, .float 0, .float 0, .int x6, .int y0] [] h20 Q
        refine am_EI.fg 6 ?_
        show am_EI m_Draft_shiftFrom kc ks 32 [.ref a0, .ref a1, .int (x2 + 1), .float 0, .float 0, .float 0, .float 0, .int y0] [] h20 Q
        refine am_EI.fg 7 ?_
        show am_EI m_Draft_shiftFrom kc ks 32 [.ref a0, .ref a1, .int (x2 + 1), .float 0, .float 0, .float 0, .float 0, .float 0] [] h20 Q
        exact t
      · replace t := t.2 c15
        exact t
set_option maxRecDepth 20000 in
theorem sg_Draft_shiftFrom_141 {kc ks : Nat} (a0 a1 a4 : Nat) (x2 x3 x5 x6 x7 : Int32) (h : am_H) (Q : Option Value → am_H → Prop) (t : Q (some (.int 7)) h) : am_EI m_Draft_shiftFrom kc ks 141 [.ref a0, .ref a1, .int x2, .int x3, .ref a4, .int x5, .int x6, .int x7] [] h Q := by
  refine am_blk_ok (c := 3) (ini := false) (by decide) rfl (fun q => by cases q) bk_Draft_shiftFrom_141_1 _ 143 _ _ _ bk_Draft_shiftFrom_141_1_ok rfl ?_
  show am_EI m_Draft_shiftFrom kc ks 143 [.ref a0, .ref a1, .int x2, .int x3, .ref a4, .int x5, .int x6, .int x7] [.int 7] h Q
  exact am_iret dc_Draft_shiftFrom_143 rfl t
