def bk_Draft_followOnN_0_2 : List am_E := [(0, .aload_n 0, 1, 0, 0), (1, .getfield 39, 3, 1225, 0)]
theorem bk_Draft_followOnN_0_2_ok : bk_Draft_followOnN_0_2.all (am_ok 3 false m_Draft_followOn.2.1) = true := by decide +kernel
def bk_Draft_followOnN_7_1 : List am_E := [(7, .aload_n 1, 1, 0, 0)]
theorem bk_Draft_followOnN_7_1_ok : bk_Draft_followOnN_7_1.all (am_ok 3 false m_Draft_followOn.2.1) = true := by decide +kernel
def bk_Draft_followOnN_19_2 : List am_E := [(19, .iconst 0, 1, 0, 0), (20, .istore_n 2, 1, 0, 0)]
theorem bk_Draft_followOnN_19_2_ok : bk_Draft_followOnN_19_2.all (am_ok 3 false m_Draft_followOn.2.1) = true := by decide +kernel
def bk_Draft_followOnN_21_3 : List am_E := [(21, .iload_n 2, 1, 0, 0), (22, .aload_n 0, 1, 0, 0), (23, .getfield 20, 3, 1212, 0)]
theorem bk_Draft_followOnN_21_3_ok : bk_Draft_followOnN_21_3.all (am_ok 3 false m_Draft_followOn.2.1) = true := by decide +kernel
def bk_Draft_followOnN_105_1 : List am_E := [(105, .iconst 0, 1, 0, 0)]
theorem bk_Draft_followOnN_105_1_ok : bk_Draft_followOnN_105_1.all (am_ok 3 false m_Draft_followOn.2.1) = true := by decide +kernel
def bk_Draft_followOnN_29_2 : List am_E := [(29, .iload_n 2, 1, 0, 0), (30, .bipush 24, 2, 0, 24)]
theorem bk_Draft_followOnN_29_2_ok : bk_Draft_followOnN_29_2.all (am_ok 3 false m_Draft_followOn.2.1) = true := by decide +kernel
def bk_Draft_followOnN_35_14 : List am_E := [(35, .aload_n 0, 1, 0, 0), (36, .getfield 39, 3, 1225, 0), (39, .aload_n 0, 1, 0, 0), (40, .getfield 9, 3, 1201, 0), (43, .iload_n 2, 1, 0, 0), (44, .baload, 1, 21, 0), (45, .aload_n 0, 1, 0, 0), (46, .getfield 13, 3, 1205, 0), (49, .iload_n 2, 1, 0, 0), (50, .iaload, 1, 0, 0), (51, .aload_n 0, 1, 0, 0), (52, .getfield 17, 3, 1209, 0), (55, .iload_n 2, 1, 0, 0), (56, .iaload, 1, 0, 0)]
theorem bk_Draft_followOnN_35_14_ok : bk_Draft_followOnN_35_14.all (am_ok 3 false m_Draft_followOn.2.1) = true := by decide +kernel
def bk_Draft_followOnN_60_2 : List am_E := [(60, .istore_n 3, 1, 0, 0), (61, .iload_n 3, 1, 0, 0)]
theorem bk_Draft_followOnN_60_2_ok : bk_Draft_followOnN_60_2.all (am_ok 3 false m_Draft_followOn.2.1) = true := by decide +kernel
def bk_Draft_followOnN_67_12 : List am_E := [(67, .aload_n 0, 1, 0, 0), (68, .getfield 39, 3, 1225, 0), (71, .aload_n 0, 1, 0, 0), (72, .getfield 9, 3, 1201, 0), (75, .iload_n 2, 1, 0, 0), (76, .baload, 1, 21, 0), (77, .aload_n 0, 1, 0, 0), (78, .getfield 39, 3, 1225, 0), (81, .aload_n 0, 1, 0, 0), (82, .getfield 13, 3, 1205, 0), (85, .iload_n 2, 1, 0, 0), (86, .iaload, 1, 0, 0)]
theorem bk_Draft_followOnN_67_12_ok : bk_Draft_followOnN_67_12.all (am_ok 3 false m_Draft_followOn.2.1) = true := by decide +kernel
def bk_Draft_followOnN_90_4 : List am_E := [(90, .aload_n 0, 1, 0, 0), (91, .getfield 17, 3, 1209, 0), (94, .iload_n 2, 1, 0, 0), (95, .iaload, 1, 0, 0)]
theorem bk_Draft_followOnN_90_4_ok : bk_Draft_followOnN_90_4.all (am_ok 3 false m_Draft_followOn.2.1) = true := by decide +kernel
def bk_Draft_followOnN_99_2 : List am_E := [(99, .iinc 2 1, 3, 0, 1), (102, .goto (-81), 3, 0, -81)]
theorem bk_Draft_followOnN_99_2_ok : bk_Draft_followOnN_99_2.all (am_ok 3 false m_Draft_followOn.2.1) = true := by decide +kernel
def bk_Draft_followOnN_65_1 : List am_E := [(65, .iload_n 3, 1, 0, 0)]
theorem bk_Draft_followOnN_65_1_ok : bk_Draft_followOnN_65_1.all (am_ok 3 false m_Draft_followOn.2.1) = true := by decide +kernel
theorem dc_Draft_followOnN_4 : decode m_Draft_followOn.2.1 4 = .ok (.invokevirtual 68, 3) := by decide +kernel
theorem dc_Draft_followOnN_8 : decode m_Draft_followOn.2.1 8 = .ok (.ifnull 11, 3) := by decide +kernel
theorem dc_Draft_followOnN_106 : decode m_Draft_followOn.2.1 106 = .ok (.ireturn, 1) := by decide +kernel
theorem dc_Draft_followOnN_57 : decode m_Draft_followOn.2.1 57 = .ok (.invokevirtual 75, 3) := by decide +kernel
theorem dc_Draft_followOnN_87 : decode m_Draft_followOn.2.1 87 = .ok (.invokevirtual 79, 3) := by decide +kernel
theorem dc_Draft_followOnN_96 : decode m_Draft_followOn.2.1 96 = .ok (.invokevirtual 83, 3) := by decide +kernel
theorem dc_Draft_followOnN_66 : decode m_Draft_followOn.2.1 66 = .ok (.ireturn, 1) := by decide +kernel
theorem dc_Draft_followOnN_62 : decode m_Draft_followOn.2.1 62 = .ok (.ifCond .eq 5, 3) := by decide +kernel
theorem dc_Draft_followOnN_32 : decode m_Draft_followOn.2.1 32 = .ok (.if_icmp .ge 73, 3) := by decide +kernel
theorem dc_Draft_followOnN_26 : decode m_Draft_followOn.2.1 26 = .ok (.if_icmp .ge 79, 3) := by decide +kernel
set_option maxRecDepth 20000 in
theorem sg_Draft_followOnN_0 {kc ks : Nat} (a0 : Nat) (h : am_H) (Q : Option Value → am_H → Prop) (t : (am_tg h a0 = (3, 7) ∧ (∃ b1, am_P h a0 6 = some b1 ∧ (am_tg h b1 = (2, 5) ∧ (am_Ew m_Port_clear 0 0 [.ref b1] h (fun h5 => am_EI m_Draft_followOn kc ks 21 [.ref a0, .null, .int 0, .float 0] [] h5 Q)))))) : am_EI m_Draft_followOn kc ks 0 [.ref a0, .null, .float 0, .float 0] [] h Q := by
  refine am_blk_ok (c := 3) (ini := false) (by decide) rfl (fun q => by cases q) bk_Draft_followOnN_0_2 _ 4 _ _ _ bk_Draft_followOnN_0_2_ok rfl ?_
  show (am_tg h a0 = (3, 7) ∧ (∃ b1, am_P h a0 6 = some b1 ∧ am_EI m_Draft_followOn kc ks 4 [.ref a0, .null, .float 0, .float 0] [.ref b1] h Q))
  obtain ⟨o2, b1, q3, t⟩ := t
  refine ⟨o2, b1, q3, ?_⟩
  obtain ⟨o4, t⟩ := t
  refine am_callV (M2 := m_Port_clear) (ci := 2) (a := b1) (kc := kc) (ks := ks) (k2c := 0) (k2s := 0) (as := []) [] dc_Draft_followOnN_4 lk_3_68 im_Port_clear se_Port_clear lm_Port_clear np_Port_clear ⟨Nat.le_of_ble_eq_true rfl, Nat.le_of_ble_eq_true rfl⟩ (fun _ => Nat.le_of_ble_eq_true rfl) (by decide) rfl o4 (am_Ew.end (am_Ew.mono t (fun h5 t => ?_)))
  refine am_blk_ok (c := 3) (ini := false) (by decide) rfl (fun q => by cases q) bk_Draft_followOnN_7_1 _ 8 _ _ _ bk_Draft_followOnN_7_1_ok rfl ?_
  show am_EI m_Draft_followOn kc ks 8 [.ref a0, .null, .float 0, .float 0] [.null] h5 Q
  refine am_ifnullN (tgt := 19) dc_Draft_followOnN_8 (by decide) ?_
  refine am_blk_ok (c := 3) (ini := false) (by decide) rfl (fun q => by cases q) bk_Draft_followOnN_19_2 _ 21 _ _ _ bk_Draft_followOnN_19_2_ok rfl ?_
  show am_EI m_Draft_followOn kc ks 21 [.ref a0, .null, .int 0, .float 0] [] h5 Q
  exact t
set_option maxRecDepth 20000 in
theorem ev_Draft_followOnN (a0 : Nat) (h : am_H) (Q : Int32 → am_H → Prop) (t : (am_tg h a0 = (3, 7) ∧ (∃ b1, am_P h a0 6 = some b1 ∧ (am_tg h b1 = (2, 5) ∧ (am_Ew m_Port_clear 0 0 [.ref b1] h (fun h5 => am_EI m_Draft_followOn 0 0 21 [.ref a0, .null, .int 0, .float 0] [] h5 (am_qi Q))))))) : am_Ei m_Draft_followOn 0 0 [.ref a0, .null] h Q :=
  am_Ev.of (by decide +kernel) (Nat.le_of_ble_eq_true rfl) (by simp only [List.mem_cons, List.not_mem_nil, or_false]; intro v hv; rcases hv with rfl | rfl; all_goals first | exact trivial) (sg_Draft_followOnN_0 (kc := 0) (ks := 0) a0 h (am_qi Q) t)
set_option maxRecDepth 20000 in
theorem sg_Draft_followOnN_21 {kc ks : Nat} (a0 : Nat) (x2 : Int32) (h : am_H) (Q : Option Value → am_H → Prop) (t : (am_tg h a0 = (3, 7) ∧ (((am_I h a0 3) ≤ x2 → Q (some (.int 0)) h) ∧ (¬ (am_I h a0 3) ≤ x2 → ((24 ≤ x2 → Q (some (.int 0)) h) ∧ (¬ 24 ≤ x2 → (∃ b4, am_P h a0 6 = some b4 ∧ (∃ b5, am_P h a0 0 = some b5 ∧ ((am_tg h b5).1 = 21 ∧ (vp_in x2 (am_tg h b5).2 ∧ (∃ b6, am_P h a0 1 = some b6 ∧ ((am_tg h b6).1 = 20 ∧ (vp_in x2 (am_tg h b6).2 ∧ (∃ b7, am_P h a0 2 = some b7 ∧ ((am_tg h b7).1 = 20 ∧ (vp_in x2 (am_tg h b7).2 ∧ (am_tg h b4 = (2, 5) ∧ (am_Ei m_Port_faultOfNext 0 0 [.ref b4, .int (am_I h b5 x2.toNatClampNeg), .int (am_I h b6 x2.toNatClampNeg), .int (am_I h b7 x2.toNatClampNeg)] h (fun r20 h19 => ((r20 = 0 → (am_tg h19 a0 = (3, 7) ∧ (∃ b22, am_P h19 a0 6 = some b22 ∧ (∃ b23, am_P h19 a0 0 = some b23 ∧ ((am_tg h19 b23).1 = 21 ∧ (vp_in x2 (am_tg h19 b23).2 ∧ (∃ b25, am_P h19 a0 1 = some b25 ∧ ((am_tg h19 b25).1 = 20 ∧ (vp_in x2 (am_tg h19 b25).2 ∧ (am_tg h19 b22 = (2, 5) ∧ (am_Ei m_Port_minuteOfNext 0 0 [.ref b22, .int (am_I h19 b25 x2.toNatClampNeg)] h19 (fun r36 h35 => (am_tg h35 a0 = (3, 7) ∧ (∃ b37, am_P h35 a0 2 = some b37 ∧ ((am_tg h35 b37).1 = 20 ∧ (vp_in x2 (am_tg h35 b37).2 ∧ (am_tg h35 b22 = (2, 5) ∧ (am_Ew m_Port_add 0 0 [.ref b22, .int (am_I h19 b23 x2.toNatClampNeg), .int r36, .int (am_I h35 b37 x2.toNatClampNeg)] h35 (fun h43 => am_EI m_Draft_followOn kc ks 21 [.ref a0, .null, .int (x2 + 1), .float 0] [] h43 Q))))))))))))))))))) ∧ (¬ r20 = 0 → Q (some (.int r20)) h19))))))))))))))))))))) : am_EI m_Draft_followOn kc ks 21 [.ref a0, .null, .int x2, .float 0] [] h Q := by
  refine am_blk_ok (c := 3) (ini := false) (by decide) rfl (fun q => by cases q) bk_Draft_followOnN_21_3 _ 26 _ _ _ bk_Draft_followOnN_21_3_ok rfl ?_
  show (am_tg h a0 = (3, 7) ∧ am_EI m_Draft_followOn kc ks 26 [.ref a0, .null, .int x2, .float 0] [.int (am_I h a0 3), .int x2] h Q)
  obtain ⟨o1, t⟩ := t
  refine ⟨o1, ?_⟩
  refine am_ic_ge (tgt := 105) dc_Draft_followOnN_26 (by decide) (fun c2 => ?_) (fun c2 => ?_)
  · replace t := t.1 c2
    refine am_blk_ok (c := 3) (ini := false) (by decide) rfl (fun q => by cases q) bk_Draft_followOnN_105_1 _ 106 _ _ _ bk_Draft_followOnN_105_1_ok rfl ?_
    show am_EI m_Draft_followOn kc ks 106 [.ref a0, .null, .int x2, .float 0] [.int 0] h Q
    exact am_iret dc_Draft_followOnN_106 rfl t
  · replace t := t.2 c2
    refine am_blk_ok (c := 3) (ini := false) (by decide) rfl (fun q => by cases q) bk_Draft_followOnN_29_2 _ 32 _ _ _ bk_Draft_followOnN_29_2_ok rfl ?_
    show am_EI m_Draft_followOn kc ks 32 [.ref a0, .null, .int x2, .float 0] [.int 24, .int x2] h Q
    refine am_ic_ge (tgt := 105) dc_Draft_followOnN_32 (by decide) (fun c3 => ?_) (fun c3 => ?_)
    · replace t := t.1 c3
      refine am_blk_ok (c := 3) (ini := false) (by decide) rfl (fun q => by cases q) bk_Draft_followOnN_105_1 _ 106 _ _ _ bk_Draft_followOnN_105_1_ok rfl ?_
      show am_EI m_Draft_followOn kc ks 106 [.ref a0, .null, .int x2, .float 0] [.int 0] h Q
      exact am_iret dc_Draft_followOnN_106 rfl t
    · replace t := t.2 c3
      refine am_blk_ok (c := 3) (ini := false) (by decide) rfl (fun q => by cases q) bk_Draft_followOnN_35_14 _ 57 _ _ _ bk_Draft_followOnN_35_14_ok rfl ?_
      show (am_tg h a0 = (3, 7) ∧ (∃ b4, am_P h a0 6 = some b4 ∧ (am_tg h a0 = (3, 7) ∧ (∃ b5, am_P h a0 0 = some b5 ∧ ((am_tg h b5).1 = 21 ∧ ((21 = 21 ∨ 21 = 22) ∧ (vp_in x2 (am_tg h b5).2 ∧ (am_tg h a0 = (3, 7) ∧ (∃ b6, am_P h a0 1 = some b6 ∧ ((am_tg h b6).1 = 20 ∧ (vp_in x2 (am_tg h b6).2 ∧ (am_tg h a0 = (3, 7) ∧ (∃ b7, am_P h a0 2 = some b7 ∧ ((am_tg h b7).1 = 20 ∧ (vp_in x2 (am_tg h b7).2 ∧ am_EI m_Draft_followOn kc ks 57 [.ref a0, .null, .int x2, .float 0] [.int (am_I h b7 x2.toNatClampNeg), .int (am_I h b6 x2.toNatClampNeg), .int (am_I h b5 x2.toNatClampNeg), .ref b4] h Q)))))))))))))))
      obtain ⟨b4, q8, b5, q9, o10, o11, b6, q12, o13, o14, b7, q15, o16, o17, t⟩ := t
      refine ⟨o1, b4, q8, o1, b5, q9, o10, (by decide), o11, o1, b6, q12, o13, o14, o1, b7, q15, o16, o17, ?_⟩
      obtain ⟨o18, t⟩ := t
      refine am_callV (M2 := m_Port_faultOfNext) (ci := 2) (a := b4) (kc := kc) (ks := ks) (k2c := 0) (k2s := 0) (as := []) [.int (am_I h b5 x2.toNatClampNeg), .int (am_I h b6 x2.toNatClampNeg), .int (am_I h b7 x2.toNatClampNeg)] dc_Draft_followOnN_57 lk_3_75 im_Port_faultOfNext se_Port_faultOfNext lm_Port_faultOfNext np_Port_faultOfNext ⟨Nat.le_of_ble_eq_true rfl, Nat.le_of_ble_eq_true rfl⟩ (fun _ => Nat.le_of_ble_eq_true rfl) (by decide) rfl o18 (am_Ei.end (am_Ei.mono t (fun r20 h19 t => ?_)))
      refine am_blk_ok (c := 3) (ini := false) (by decide) rfl (fun q => by cases q) bk_Draft_followOnN_60_2 _ 62 _ _ _ bk_Draft_followOnN_60_2_ok rfl ?_
      show am_EI m_Draft_followOn kc ks 62 [.ref a0, .null, .int x2, .int r20] [.int r20] h19 Q
      refine am_if_eq (tgt := 67) dc_Draft_followOnN_62 (by decide) (fun c21 => ?_) (fun c21 => ?_)
      · replace t := t.1 c21
        refine am_blk_ok (c := 3) (ini := false) (by decide) rfl (fun q => by cases q) bk_Draft_followOnN_67_12 _ 87 _ _ _ bk_Draft_followOnN_67_12_ok rfl ?_
        show (am_tg h19 a0 = (3, 7) ∧ (∃ b22, am_P h19 a0 6 = some b22 ∧ (am_tg h19 a0 = (3, 7) ∧ (∃ b23, am_P h19 a0 0 = some b23 ∧ ((am_tg h19 b23).1 = 21 ∧ ((21 = 21 ∨ 21 = 22) ∧ (vp_in x2 (am_tg h19 b23).2 ∧ (am_tg h19 a0 = (3, 7) ∧ (∃ b24, am_P h19 a0 6 = some b24 ∧ (am_tg h19 a0 = (3, 7) ∧ (∃ b25, am_P h19 a0 1 = some b25 ∧ ((am_tg h19 b25).1 = 20 ∧ (vp_in x2 (am_tg h19 b25).2 ∧ am_EI m_Draft_followOn kc ks 87 [.ref a0, .null, .int x2, .int r20] [.int (am_I h19 b25 x2.toNatClampNeg), .ref b24, .int (am_I h19 b23 x2.toNatClampNeg), .ref b22] h19 Q)))))))))))))
        obtain ⟨o26, b22, q27, b23, q28, o29, o30, b25, q31, o32, o33, t⟩ := t
        refine ⟨o26, b22, q27, o26, b23, q28, o29, (by decide), o30, o26, b22, q27, o26, b25, q31, o32, o33, ?_⟩
        obtain ⟨o34, t⟩ := t
        refine am_callV (M2 := m_Port_minuteOfNext) (ci := 2) (a := b22) (kc := kc) (ks := ks) (k2c := 0) (k2s := 0) (as := [.int (am_I h19 b23 x2.toNatClampNeg), .ref b22]) [.int (am_I h19 b25 x2.toNatClampNeg)] dc_Draft_followOnN_87 lk_3_79 im_Port_minuteOfNext se_Port_minuteOfNext lm_Port_minuteOfNext np_Port_minuteOfNext ⟨Nat.le_of_ble_eq_true rfl, Nat.le_of_ble_eq_true rfl⟩ (fun _ => Nat.le_of_ble_eq_true rfl) (by decide) rfl o34 (am_Ei.end (am_Ei.mono t (fun r36 h35 t => ?_)))
        refine am_blk_ok (c := 3) (ini := false) (by decide) rfl (fun q => by cases q) bk_Draft_followOnN_90_4 _ 96 _ _ _ bk_Draft_followOnN_90_4_ok rfl ?_
        show (am_tg h35 a0 = (3, 7) ∧ (∃ b37, am_P h35 a0 2 = some b37 ∧ ((am_tg h35 b37).1 = 20 ∧ (vp_in x2 (am_tg h35 b37).2 ∧ am_EI m_Draft_followOn kc ks 96 [.ref a0, .null, .int x2, .int r20] [.int (am_I h35 b37 x2.toNatClampNeg), .int r36, .int (am_I h19 b23 x2.toNatClampNeg), .ref b22] h35 Q))))
        obtain ⟨o38, b37, q39, o40, o41, t⟩ := t
        refine ⟨o38, b37, q39, o40, o41, ?_⟩
        obtain ⟨o42, t⟩ := t
        refine am_callV (M2 := m_Port_add) (ci := 2) (a := b22) (kc := kc) (ks := ks) (k2c := 0) (k2s := 0) (as := []) [.int (am_I h19 b23 x2.toNatClampNeg), .int r36, .int (am_I h35 b37 x2.toNatClampNeg)] dc_Draft_followOnN_96 lk_3_83 im_Port_add se_Port_add lm_Port_add np_Port_add ⟨Nat.le_of_ble_eq_true rfl, Nat.le_of_ble_eq_true rfl⟩ (fun _ => Nat.le_of_ble_eq_true rfl) (by decide) rfl o42 (am_Ew.end (am_Ew.mono t (fun h43 t => ?_)))
        refine am_blk_ok (c := 3) (ini := false) (by decide) rfl (fun q => by cases q) bk_Draft_followOnN_99_2 _ 21 _ _ _ bk_Draft_followOnN_99_2_ok rfl ?_
        show am_EI m_Draft_followOn kc ks 21 [.ref a0, .null, .int (x2 + 1), .int r20] [] h43 Q
        refine am_EI.fg 3 ?_
        show am_EI m_Draft_followOn kc ks 21 [.ref a0, .null, .int (x2 + 1), .float 0] [] h43 Q
        exact t
      · replace t := t.2 c21
        refine am_blk_ok (c := 3) (ini := false) (by decide) rfl (fun q => by cases q) bk_Draft_followOnN_65_1 _ 66 _ _ _ bk_Draft_followOnN_65_1_ok rfl ?_
        show am_EI m_Draft_followOn kc ks 66 [.ref a0, .null, .int x2, .int r20] [.int r20] h19 Q
        exact am_iret dc_Draft_followOnN_66 rfl t
def bk_Main_addTableN_0_2 : List am_E := [(0, .aload_n 0, 1, 0, 0), (1, .getfield 10, 3, 4401, 0)]
theorem bk_Main_addTableN_0_2_ok : bk_Main_addTableN_0_2.all (am_ok 11 false m_Main_addTable.2.1) = true := by decide +kernel
def bk_Main_addTableN_7_4 : List am_E := [(7, .aload_n 0, 1, 0, 0), (8, .getfield 19, 3, 4405, 0), (11, .aload_n 0, 1, 0, 0), (12, .getfield 10, 3, 4401, 0)]
theorem bk_Main_addTableN_7_4_ok : bk_Main_addTableN_7_4.all (am_ok 11 false m_Main_addTable.2.1) = true := by decide +kernel
def bk_Main_addTableN_18_1 : List am_E := [(18, .aload_n 0, 1, 0, 0)]
theorem bk_Main_addTableN_18_1_ok : bk_Main_addTableN_18_1.all (am_ok 11 false m_Main_addTable.2.1) = true := by decide +kernel
def bk_Main_addTableN_31_4 : List am_E := [(31, .aload_n 0, 1, 0, 0), (32, .aload_n 0, 1, 0, 0), (33, .getfield 19, 3, 4405, 0), (36, .aload_n 1, 1, 0, 0)]
theorem bk_Main_addTableN_31_4_ok : bk_Main_addTableN_31_4.all (am_ok 11 false m_Main_addTable.2.1) = true := by decide +kernel
def bk_Main_addTableN_25_2 : List am_E := [(25, .aload_n 0, 1, 0, 0), (26, .iconst 2, 1, 0, 2)]
theorem bk_Main_addTableN_25_2_ok : bk_Main_addTableN_25_2.all (am_ok 11 false m_Main_addTable.2.1) = true := by decide +kernel
theorem dc_Main_addTableN_4 : decode m_Main_addTable.2.1 4 = .ok (.invokevirtual 136, 3) := by decide +kernel
theorem dc_Main_addTableN_15 : decode m_Main_addTable.2.1 15 = .ok (.invokevirtual 297, 3) := by decide +kernel
theorem dc_Main_addTableN_19 : decode m_Main_addTable.2.1 19 = .ok (.invokevirtual 143, 3) := by decide +kernel
theorem dc_Main_addTableN_37 : decode m_Main_addTable.2.1 37 = .ok (.invokevirtual 300, 3) := by decide +kernel
theorem dc_Main_addTableN_40 : decode m_Main_addTable.2.1 40 = .ok (.invokevirtual 150, 3) := by decide +kernel
theorem dc_Main_addTableN_43 : decode m_Main_addTable.2.1 43 = .ok (.ireturn, 1) := by decide +kernel
theorem dc_Main_addTableN_27 : decode m_Main_addTable.2.1 27 = .ok (.invokevirtual 108, 3) := by decide +kernel
theorem dc_Main_addTableN_30 : decode m_Main_addTable.2.1 30 = .ok (.ireturn, 1) := by decide +kernel
theorem dc_Main_addTableN_22 : decode m_Main_addTable.2.1 22 = .ok (.ifCond .ne 9, 3) := by decide +kernel
set_option maxRecDepth 20000 in
theorem sg_Main_addTableN_0 {kc ks : Nat} (a0 : Nat) (h : am_H) (Q : Option Value → am_H → Prop) (t : (am_tg h a0 = (11, 18) ∧ (∃ b1, am_P h a0 0 = some b1 ∧ (am_tg h b1 = (9, 4) ∧ (am_Ew m_Tape_rewind 0 0 [.ref b1] h (fun h5 => (am_tg h5 a0 = (11, 18) ∧ (∃ b6, am_P h5 a0 1 = some b6 ∧ (∃ b7, am_P h5 a0 0 = some b7 ∧ (am_tg h5 b6 = (3, 7) ∧ (am_Ew m_Draft_readTable 0 0 [.ref b6, .ref b7] h5 (fun h12 => (am_tg h12 a0 = (11, 18) ∧ (am_Ei m_Main_textWasRight 0 0 [.ref a0] h12 (fun r15 h14 => ((¬ r15 = 0 → (am_tg h14 a0 = (11, 18) ∧ (∃ b17, am_P h14 a0 1 = some b17 ∧ (am_tg h14 b17 = (3, 7) ∧ (am_Ei m_Draft_followOn 0 0 [.ref b17, .null] h14 (fun r22 h21 => (am_tg h21 a0 = (11, 18) ∧ (am_Ei m_Main_keepPort 4 53 [.ref a0, .int r22] h21 (fun r25 h24 => Q (some (.int r25)) h24))))))))) ∧ (r15 = 0 → (am_tg h14 a0 = (11, 18) ∧ (am_Ei m_Main_refuse 0 0 [.ref a0, .int 2] h14 (fun r28 h27 => Q (some (.int r28)) h27)))))))))))))))))))) : am_EI m_Main_addTable (kc + 4) (ks + 53) 0 [.ref a0, .null] [] h Q := by
  refine am_blk_ok (c := 11) (ini := false) (by decide) rfl (fun q => by cases q) bk_Main_addTableN_0_2 _ 4 _ _ _ bk_Main_addTableN_0_2_ok rfl ?_
  show (am_tg h a0 = (11, 18) ∧ (∃ b1, am_P h a0 0 = some b1 ∧ am_EI m_Main_addTable (kc + 4) (ks + 53) 4 [.ref a0, .null] [.ref b1] h Q))
  obtain ⟨o2, b1, q3, t⟩ := t
  refine ⟨o2, b1, q3, ?_⟩
  obtain ⟨o4, t⟩ := t
  refine am_callV (M2 := m_Tape_rewind) (ci := 9) (a := b1) (kc := (kc + 4)) (ks := (ks + 53)) (k2c := 0) (k2s := 0) (as := []) [] dc_Main_addTableN_4 lk_11_136 im_Tape_rewind se_Tape_rewind lm_Tape_rewind np_Tape_rewind ⟨Nat.le_of_ble_eq_true rfl, Nat.le_of_ble_eq_true rfl⟩ (fun _ => Nat.le_of_ble_eq_true rfl) (by decide) rfl o4 (am_Ew.end (am_Ew.mono t (fun h5 t => ?_)))
  refine am_blk_ok (c := 11) (ini := false) (by decide) rfl (fun q => by cases q) bk_Main_addTableN_7_4 _ 15 _ _ _ bk_Main_addTableN_7_4_ok rfl ?_
  show (am_tg h5 a0 = (11, 18) ∧ (∃ b6, am_P h5 a0 1 = some b6 ∧ (am_tg h5 a0 = (11, 18) ∧ (∃ b7, am_P h5 a0 0 = some b7 ∧ am_EI m_Main_addTable (kc + 4) (ks + 53) 15 [.ref a0, .null] [.ref b7, .ref b6] h5 Q))))
  obtain ⟨o8, b6, q9, b7, q10, t⟩ := t
  refine ⟨o8, b6, q9, o8, b7, q10, ?_⟩
  obtain ⟨o11, t⟩ := t
  refine am_callV (M2 := m_Draft_readTable) (ci := 3) (a := b6) (kc := (kc + 4)) (ks := (ks + 53)) (k2c := 0) (k2s := 0) (as := []) [.ref b7] dc_Main_addTableN_15 lk_11_297 im_Draft_readTable se_Draft_readTable lm_Draft_readTable np_Draft_readTable ⟨Nat.le_of_ble_eq_true rfl, Nat.le_of_ble_eq_true rfl⟩ (fun _ => Nat.le_of_ble_eq_true rfl) (by decide) rfl o11 (am_Ew.end (am_Ew.mono t (fun h12 t => ?_)))
  refine am_blk_ok (c := 11) (ini := false) (by decide) rfl (fun q => by cases q) bk_Main_addTableN_18_1 _ 19 _ _ _ bk_Main_addTableN_18_1_ok rfl ?_
  show am_EI m_Main_addTable (kc + 4) (ks + 53) 19 [.ref a0, .null] [.ref a0] h12 Q
  obtain ⟨o13, t⟩ := t
  refine am_callV (M2 := m_Main_textWasRight) (ci := 11) (a := a0) (kc := (kc + 4)) (ks := (ks + 53)) (k2c := 0) (k2s := 0) (as := []) [] dc_Main_addTableN_19 lk_11_143 im_Main_textWasRight se_Main_textWasRight lm_Main_textWasRight np_Main_textWasRight ⟨Nat.le_of_ble_eq_true rfl, Nat.le_of_ble_eq_true rfl⟩ (fun _ => Nat.le_of_ble_eq_true rfl) (by decide) rfl o13 (am_Ei.end (am_Ei.mono t (fun r15 h14 t => ?_)))
  refine am_if_ne (tgt := 31) dc_Main_addTableN_22 (by decide) (fun c16 => ?_) (fun c16 => ?_)
  · replace t := t.1 c16
    refine am_blk_ok (c := 11) (ini := false) (by decide) rfl (fun q => by cases q) bk_Main_addTableN_31_4 _ 37 _ _ _ bk_Main_addTableN_31_4_ok rfl ?_
    show (am_tg h14 a0 = (11, 18) ∧ (∃ b17, am_P h14 a0 1 = some b17 ∧ am_EI m_Main_addTable (kc + 4) (ks + 53) 37 [.ref a0, .null] [.null, .ref b17, .ref a0] h14 Q))
    obtain ⟨o18, b17, q19, t⟩ := t
    refine ⟨o18, b17, q19, ?_⟩
    obtain ⟨o20, t⟩ := t
    refine am_callV (M2 := m_Draft_followOn) (ci := 3) (a := b17) (kc := (kc + 4)) (ks := (ks + 53)) (k2c := 0) (k2s := 0) (as := [.ref a0]) [.null] dc_Main_addTableN_37 lk_11_300 im_Draft_followOn se_Draft_followOn lm_Draft_followOn np_Draft_followOn ⟨Nat.le_of_ble_eq_true rfl, Nat.le_of_ble_eq_true rfl⟩ (fun _ => Nat.le_of_ble_eq_true rfl) (by decide) rfl o20 (am_Ei.end (am_Ei.mono t (fun r22 h21 t => ?_)))
    obtain ⟨o23, t⟩ := t
    refine am_callV (M2 := m_Main_keepPort) (ci := 11) (a := a0) (kc := kc) (ks := ks) (k2c := 4) (k2s := 53) (as := []) [.int r22] dc_Main_addTableN_40 lk_11_150 im_Main_keepPort se_Main_keepPort lm_Main_keepPort np_Main_keepPort ⟨Nat.le_of_ble_eq_true rfl, Nat.le_of_ble_eq_true rfl⟩ (fun _ => Nat.le_of_ble_eq_true rfl) (by decide) rfl o23 (am_Ei.end (am_Ei.mono t (fun r25 h24 t => ?_)))
    exact am_iret dc_Main_addTableN_43 rfl t
  · refine am_EI.more (kc := kc) (ks := ks) 4 53 ?_
    replace t := t.2 c16
    refine am_blk_ok (c := 11) (ini := false) (by decide) rfl (fun q => by cases q) bk_Main_addTableN_25_2 _ 27 _ _ _ bk_Main_addTableN_25_2_ok rfl ?_
    show am_EI m_Main_addTable kc ks 27 [.ref a0, .null] [.int 2, .ref a0] h14 Q
    obtain ⟨o26, t⟩ := t
    refine am_callV (M2 := m_Main_refuse) (ci := 11) (a := a0) (kc := kc) (ks := ks) (k2c := 0) (k2s := 0) (as := []) [.int 2] dc_Main_addTableN_27 lk_11_108 im_Main_refuse se_Main_refuse lm_Main_refuse np_Main_refuse ⟨Nat.le_of_ble_eq_true rfl, Nat.le_of_ble_eq_true rfl⟩ (fun _ => Nat.le_of_ble_eq_true rfl) (by decide) rfl o26 (am_Ei.end (am_Ei.mono t (fun r28 h27 t => ?_)))
    exact am_iret dc_Main_addTableN_30 rfl t
set_option maxRecDepth 20000 in
theorem ev_Main_addTableN (a0 : Nat) (h : am_H) (Q : Int32 → am_H → Prop) (t : (am_tg h a0 = (11, 18) ∧ (∃ b1, am_P h a0 0 = some b1 ∧ (am_tg h b1 = (9, 4) ∧ (am_Ew m_Tape_rewind 0 0 [.ref b1] h (fun h5 => (am_tg h5 a0 = (11, 18) ∧ (∃ b6, am_P h5 a0 1 = some b6 ∧ (∃ b7, am_P h5 a0 0 = some b7 ∧ (am_tg h5 b6 = (3, 7) ∧ (am_Ew m_Draft_readTable 0 0 [.ref b6, .ref b7] h5 (fun h12 => (am_tg h12 a0 = (11, 18) ∧ (am_Ei m_Main_textWasRight 0 0 [.ref a0] h12 (fun r15 h14 => ((¬ r15 = 0 → (am_tg h14 a0 = (11, 18) ∧ (∃ b17, am_P h14 a0 1 = some b17 ∧ (am_tg h14 b17 = (3, 7) ∧ (am_Ei m_Draft_followOn 0 0 [.ref b17, .null] h14 (fun r22 h21 => (am_tg h21 a0 = (11, 18) ∧ (am_Ei m_Main_keepPort 4 53 [.ref a0, .int r22] h21 (fun r25 h24 => Q r25 h24))))))))) ∧ (r15 = 0 → (am_tg h14 a0 = (11, 18) ∧ (am_Ei m_Main_refuse 0 0 [.ref a0, .int 2] h14 (fun r28 h27 => Q r28 h27)))))))))))))))))))) : am_Ei m_Main_addTable (0 + 4) (0 + 53) [.ref a0, .null] h Q :=
  am_Ev.of (by decide +kernel) (Nat.le_of_ble_eq_true rfl) (by simp only [List.mem_cons, List.not_mem_nil, or_false]; intro v hv; rcases hv with rfl | rfl; all_goals first | exact trivial) (sg_Main_addTableN_0 (kc := 0) (ks := 0) a0 h (am_qi Q) t)
