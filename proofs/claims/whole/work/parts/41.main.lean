def bk_Main_above_0_2 : List am_E := [(0, .aload_n 0, 1, 0, 0), (1, .iload_n 1, 1, 0, 0)]
theorem bk_Main_above_0_2_ok : bk_Main_above_0_2.all (am_ok 11 false m_Main_above.2.1) = true := by decide +kernel
def bk_Main_above_5_2 : List am_E := [(5, .astore 4, 2, 0, 0), (7, .aload 4, 2, 0, 0)]
theorem bk_Main_above_5_2_ok : bk_Main_above_5_2.all (am_ok 11 false m_Main_above.2.1) = true := by decide +kernel
def bk_Main_above_21_2 : List am_E := [(21, .aload_n 0, 1, 0, 0), (22, .iconst 1, 1, 0, 1)]
theorem bk_Main_above_21_2_ok : bk_Main_above_21_2.all (am_ok 11 false m_Main_above.2.1) = true := by decide +kernel
def bk_Main_above_12_2 : List am_E := [(12, .aload 4, 2, 0, 0), (14, .iload_n 2, 1, 0, 0)]
theorem bk_Main_above_12_2_ok : bk_Main_above_12_2.all (am_ok 11 false m_Main_above.2.1) = true := by decide +kernel
def bk_Main_above_27_1 : List am_E := [(27, .iload_n 3, 1, 0, 0)]
theorem bk_Main_above_27_1_ok : bk_Main_above_27_1.all (am_ok 11 false m_Main_above.2.1) = true := by decide +kernel
def bk_Main_above_40_3 : List am_E := [(40, .aload_n 0, 1, 0, 0), (41, .aload 4, 2, 0, 0), (43, .iload_n 2, 1, 0, 0)]
theorem bk_Main_above_40_3_ok : bk_Main_above_40_3.all (am_ok 11 false m_Main_above.2.1) = true := by decide +kernel
def bk_Main_above_47_1 : List am_E := [(47, .iload_n 3, 1, 0, 0)]
theorem bk_Main_above_47_1_ok : bk_Main_above_47_1.all (am_ok 11 false m_Main_above.2.1) = true := by decide +kernel
def bk_Main_above_55_1 : List am_E := [(55, .iconst 0, 1, 0, 0)]
theorem bk_Main_above_55_1_ok : bk_Main_above_55_1.all (am_ok 11 false m_Main_above.2.1) = true := by decide +kernel
def bk_Main_above_51_2 : List am_E := [(51, .iconst 1, 1, 0, 1), (52, .goto 4, 3, 0, 4)]
theorem bk_Main_above_51_2_ok : bk_Main_above_51_2.all (am_ok 11 false m_Main_above.2.1) = true := by decide +kernel
def bk_Main_above_34_2 : List am_E := [(34, .aload_n 0, 1, 0, 0), (35, .iconst 3, 1, 0, 3)]
theorem bk_Main_above_34_2_ok : bk_Main_above_34_2.all (am_ok 11 false m_Main_above.2.1) = true := by decide +kernel
theorem dc_Main_above_2 : decode m_Main_above.2.1 2 = .ok (.invokevirtual 129, 3) := by decide +kernel
theorem dc_Main_above_9 : decode m_Main_above.2.1 9 = .ok (.ifnull 12, 3) := by decide +kernel
theorem dc_Main_above_23 : decode m_Main_above.2.1 23 = .ok (.invokevirtual 108, 3) := by decide +kernel
theorem dc_Main_above_26 : decode m_Main_above.2.1 26 = .ok (.ireturn, 1) := by decide +kernel
theorem dc_Main_above_15 : decode m_Main_above.2.1 15 = .ok (.invokevirtual 202, 3) := by decide +kernel
theorem dc_Main_above_28 : decode m_Main_above.2.1 28 = .ok (.invokestatic 208, 3) := by decide +kernel
theorem dc_Main_above_44 : decode m_Main_above.2.1 44 = .ok (.invokevirtual 205, 3) := by decide +kernel
theorem dc_Main_above_56 : decode m_Main_above.2.1 56 = .ok (.invokevirtual 119, 3) := by decide +kernel
theorem dc_Main_above_59 : decode m_Main_above.2.1 59 = .ok (.ireturn, 1) := by decide +kernel
theorem dc_Main_above_48 : decode m_Main_above.2.1 48 = .ok (.if_icmp .lt 7, 3) := by decide +kernel
theorem dc_Main_above_36 : decode m_Main_above.2.1 36 = .ok (.invokevirtual 108, 3) := by decide +kernel
theorem dc_Main_above_39 : decode m_Main_above.2.1 39 = .ok (.ireturn, 1) := by decide +kernel
theorem dc_Main_above_31 : decode m_Main_above.2.1 31 = .ok (.ifCond .ne 9, 3) := by decide +kernel
theorem dc_Main_above_18 : decode m_Main_above.2.1 18 = .ok (.ifCond .ne 9, 3) := by decide +kernel
set_option maxRecDepth 20000 in
theorem sg_Main_above_0 {kc ks : Nat} (a0 : Nat) (x1 x2 x3 : Int32) (h : am_H) (Q : Option Value → am_H → Prop) (t : (am_tg h a0 = (11, 18) ∧ (am_Er m_Main_portAt 0 0 [.ref a0, .int x1] h (fun r3 h2 => (r3 = none → (am_tg h2 a0 = (11, 18) ∧ (am_Ei m_Main_refuse 0 0 [.ref a0, .int 1] h2 (fun r8 h7 => Q (some (.int r8)) h7)))) ∧ ∀ b4, r3 = some b4 → (am_tg h2 b4 = (2, 5) ∧ (am_Ei m_Port_hasMinute 0 0 [.ref b4, .int x2] h2 (fun r11 h10 => ((¬ r11 = 0 → (am_Ei m_Main_isHeightToAsk 0 0 [.int x3] h10 (fun r14 h13 => ((¬ r14 = 0 → (am_tg h13 b4 = (2, 5) ∧ (am_Ei m_Port_wholeHeightAt 0 0 [.ref b4, .int x2] h13 (fun r18 h17 => ((r18 < x3 → (am_tg h17 a0 = (11, 18) ∧ (am_Ei m_Main_answer 0 0 [.ref a0, .int 0] h17 (fun r22 h21 => Q (some (.int r22)) h21)))) ∧ (¬ r18 < x3 → (am_tg h17 a0 = (11, 18) ∧ (am_Ei m_Main_answer 0 0 [.ref a0, .int 1] h17 (fun r25 h24 => Q (some (.int r25)) h24))))))))) ∧ (r14 = 0 → (am_tg h13 a0 = (11, 18) ∧ (am_Ei m_Main_refuse 0 0 [.ref a0, .int 3] h13 (fun r28 h27 => Q (some (.int r28)) h27)))))))) ∧ (r11 = 0 → (am_tg h10 a0 = (11, 18) ∧ (am_Ei m_Main_refuse 0 0 [.ref a0, .int 1] h10 (fun r31 h30 => Q (some (.int r31)) h30)))))))))))) : am_EI m_Main_above kc ks 0 [.ref a0, .int x1, .int x2, .int x3, .float 0] [] h Q := by
  refine am_blk_ok (c := 11) (ini := false) (by decide) rfl (fun q => by cases q) bk_Main_above_0_2 _ 2 _ _ _ bk_Main_above_0_2_ok rfl ?_
  show am_EI m_Main_above kc ks 2 [.ref a0, .int x1, .int x2, .int x3, .float 0] [.int x1, .ref a0] h Q
  obtain ⟨o1, t⟩ := t
  refine am_callV (M2 := m_Main_portAt) (ci := 11) (a := a0) (kc := kc) (ks := ks) (k2c := 0) (k2s := 0) (as := []) [.int x1] dc_Main_above_2 lk_11_129 im_Main_portAt se_Main_portAt lm_Main_portAt np_Main_portAt ⟨Nat.le_of_ble_eq_true rfl, Nat.le_of_ble_eq_true rfl⟩ (fun _ => Nat.le_of_ble_eq_true rfl) (by decide) rfl o1 (am_Er.end (am_Er.mono t (fun r3 h2 t => ⟨fun c5 => ?_, fun b4 c5 => ?_⟩)))
  · replace t := t.1 c5
    refine am_blk_ok (c := 11) (ini := false) (by decide) rfl (fun q => by cases q) bk_Main_above_5_2 _ 9 _ _ _ bk_Main_above_5_2_ok rfl ?_
    show am_EI m_Main_above kc ks 9 [.ref a0, .int x1, .int x2, .int x3, .null] [.null] h2 Q
    refine am_ifnullN (tgt := 21) dc_Main_above_9 (by decide) ?_
    refine am_blk_ok (c := 11) (ini := false) (by decide) rfl (fun q => by cases q) bk_Main_above_21_2 _ 23 _ _ _ bk_Main_above_21_2_ok rfl ?_
    show am_EI m_Main_above kc ks 23 [.ref a0, .int x1, .int x2, .int x3, .null] [.int 1, .ref a0] h2 Q
    obtain ⟨o6, t⟩ := t
    refine am_callV (M2 := m_Main_refuse) (ci := 11) (a := a0) (kc := kc) (ks := ks) (k2c := 0) (k2s := 0) (as := []) [.int 1] dc_Main_above_23 lk_11_108 im_Main_refuse se_Main_refuse lm_Main_refuse np_Main_refuse ⟨Nat.le_of_ble_eq_true rfl, Nat.le_of_ble_eq_true rfl⟩ (fun _ => Nat.le_of_ble_eq_true rfl) (by decide) rfl o6 (am_Ei.end (am_Ei.mono t (fun r8 h7 t => ?_)))
    exact am_iret dc_Main_above_26 rfl t
  · replace t := t.2 b4 c5
    refine am_blk_ok (c := 11) (ini := false) (by decide) rfl (fun q => by cases q) bk_Main_above_5_2 _ 9 _ _ _ bk_Main_above_5_2_ok rfl ?_
    show am_EI m_Main_above kc ks 9 [.ref a0, .int x1, .int x2, .int x3, .ref b4] [.ref b4] h2 Q
    refine am_ifnull dc_Main_above_9 ?_
    refine am_blk_ok (c := 11) (ini := false) (by decide) rfl (fun q => by cases q) bk_Main_above_12_2 _ 15 _ _ _ bk_Main_above_12_2_ok rfl ?_
    show am_EI m_Main_above kc ks 15 [.ref a0, .int x1, .int x2, .int x3, .ref b4] [.int x2, .ref b4] h2 Q
    obtain ⟨o9, t⟩ := t
    refine am_callV (M2 := m_Port_hasMinute) (ci := 2) (a := b4) (kc := kc) (ks := ks) (k2c := 0) (k2s := 0) (as := []) [.int x2] dc_Main_above_15 lk_11_202 im_Port_hasMinute se_Port_hasMinute lm_Port_hasMinute np_Port_hasMinute ⟨Nat.le_of_ble_eq_true rfl, Nat.le_of_ble_eq_true rfl⟩ (fun _ => Nat.le_of_ble_eq_true rfl) (by decide) rfl o9 (am_Ei.end (am_Ei.mono t (fun r11 h10 t => ?_)))
    refine am_if_ne (tgt := 27) dc_Main_above_18 (by decide) (fun c12 => ?_) (fun c12 => ?_)
    · replace t := t.1 c12
      refine am_blk_ok (c := 11) (ini := false) (by decide) rfl (fun q => by cases q) bk_Main_above_27_1 _ 28 _ _ _ bk_Main_above_27_1_ok rfl ?_
      show am_EI m_Main_above kc ks 28 [.ref a0, .int x1, .int x2, .int x3, .ref b4] [.int x3] h10 Q
      refine am_callS (M2 := m_Main_isHeightToAsk) (kc := kc) (ks := ks) (k2c := 0) (k2s := 0) (as := []) [.int x3] dc_Main_above_28 lk_11_208 st_Main_isHeightToAsk lm_Main_isHeightToAsk np_Main_isHeightToAsk ⟨Nat.le_of_ble_eq_true rfl, Nat.le_of_ble_eq_true rfl⟩ (fun _ => Nat.le_of_ble_eq_true rfl) (am_Ei.end (am_Ei.mono t (fun r14 h13 t => ?_)))
      refine am_if_ne (tgt := 40) dc_Main_above_31 (by decide) (fun c15 => ?_) (fun c15 => ?_)
      · replace t := t.1 c15
        refine am_blk_ok (c := 11) (ini := false) (by decide) rfl (fun q => by cases q) bk_Main_above_40_3 _ 44 _ _ _ bk_Main_above_40_3_ok rfl ?_
        show am_EI m_Main_above kc ks 44 [.ref a0, .int x1, .int x2, .int x3, .ref b4] [.int x2, .ref b4, .ref a0] h13 Q
        obtain ⟨o16, t⟩ := t
        refine am_callV (M2 := m_Port_wholeHeightAt) (ci := 2) (a := b4) (kc := kc) (ks := ks) (k2c := 0) (k2s := 0) (as := [.ref a0]) [.int x2] dc_Main_above_44 lk_11_205 im_Port_wholeHeightAt se_Port_wholeHeightAt lm_Port_wholeHeightAt np_Port_wholeHeightAt ⟨Nat.le_of_ble_eq_true rfl, Nat.le_of_ble_eq_true rfl⟩ (fun _ => Nat.le_of_ble_eq_true rfl) (by decide) rfl o16 (am_Ei.end (am_Ei.mono t (fun r18 h17 t => ?_)))
        refine am_blk_ok (c := 11) (ini := false) (by decide) rfl (fun q => by cases q) bk_Main_above_47_1 _ 48 _ _ _ bk_Main_above_47_1_ok rfl ?_
        show am_EI m_Main_above kc ks 48 [.ref a0, .int x1, .int x2, .int x3, .ref b4] [.int x3, .int r18, .ref a0] h17 Q
        refine am_ic_lt (tgt := 55) dc_Main_above_48 (by decide) (fun c19 => ?_) (fun c19 => ?_)
        · replace t := t.1 c19
          refine am_blk_ok (c := 11) (ini := false) (by decide) rfl (fun q => by cases q) bk_Main_above_55_1 _ 56 _ _ _ bk_Main_above_55_1_ok rfl ?_
          show am_EI m_Main_above kc ks 56 [.ref a0, .int x1, .int x2, .int x3, .ref b4] [.int 0, .ref a0] h17 Q
          obtain ⟨o20, t⟩ := t
          refine am_callV (M2 := m_Main_answer) (ci := 11) (a := a0) (kc := kc) (ks := ks) (k2c := 0) (k2s := 0) (as := []) [.int 0] dc_Main_above_56 lk_11_119 im_Main_answer se_Main_answer lm_Main_answer np_Main_answer ⟨Nat.le_of_ble_eq_true rfl, Nat.le_of_ble_eq_true rfl⟩ (fun _ => Nat.le_of_ble_eq_true rfl) (by decide) rfl o20 (am_Ei.end (am_Ei.mono t (fun r22 h21 t => ?_)))
          exact am_iret dc_Main_above_59 rfl t
        · replace t := t.2 c19
          refine am_blk_ok (c := 11) (ini := false) (by decide) rfl (fun q => by cases q) bk_Main_above_51_2 _ 56 _ _ _ bk_Main_above_51_2_ok rfl ?_
          show am_EI m_Main_above kc ks 56 [.ref a0, .int x1, .int x2, .int x3, .ref b4] [.int 1, .ref a0] h17 Q
          obtain ⟨o23, t⟩ := t
          refine am_callV (M2 := m_Main_answer) (ci := 11) (a := a0) (kc := kc) (ks := ks) (k2c := 0) (k2s := 0) (as := []) [.int 1] dc_Main_above_56 lk_11_119 im_Main_answer se_Main_answer lm_Main_answer np_Main_answer ⟨Nat.le_of_ble_eq_true rfl, Nat.le_of_ble_eq_true rfl⟩ (fun _ => Nat.le_of_ble_eq_true rfl) (by decide) rfl o23 (am_Ei.end (am_Ei.mono t (fun r25 h24 t => ?_)))
          exact am_iret dc_Main_above_59 rfl t
      · replace t := t.2 c15
        refine am_blk_ok (c := 11) (ini := false) (by decide) rfl (fun q => by cases q) bk_Main_above_34_2 _ 36 _ _ _ bk_Main_above_34_2_ok rfl ?_
        show am_EI m_Main_above kc ks 36 [.ref a0, .int x1, .int x2, .int x3, .ref b4] [.int 3, .ref a0] h13 Q
        obtain ⟨o26, t⟩ := t
        refine am_callV (M2 := m_Main_refuse) (ci := 11) (a := a0) (kc := kc) (ks := ks) (k2c := 0) (k2s := 0) (as := []) [.int 3] dc_Main_above_36 lk_11_108 im_Main_refuse se_Main_refuse lm_Main_refuse np_Main_refuse ⟨Nat.le_of_ble_eq_true rfl, Nat.le_of_ble_eq_true rfl⟩ (fun _ => Nat.le_of_ble_eq_true rfl) (by decide) rfl o26 (am_Ei.end (am_Ei.mono t (fun r28 h27 t => ?_)))
        exact am_iret dc_Main_above_39 rfl t
    · replace t := t.2 c12
      refine am_blk_ok (c := 11) (ini := false) (by decide) rfl (fun q => by cases q) bk_Main_above_21_2 _ 23 _ _ _ bk_Main_above_21_2_ok rfl ?_
      show am_EI m_Main_above kc ks 23 [.ref a0, .int x1, .int x2, .int x3, .ref b4] [.int 1, .ref a0] h10 Q
      obtain ⟨o29, t⟩ := t
      refine am_callV (M2 := m_Main_refuse) (ci := 11) (a := a0) (kc := kc) (ks := ks) (k2c := 0) (k2s := 0) (as := []) [.int 1] dc_Main_above_23 lk_11_108 im_Main_refuse se_Main_refuse lm_Main_refuse np_Main_refuse ⟨Nat.le_of_ble_eq_true rfl, Nat.le_of_ble_eq_true rfl⟩ (fun _ => Nat.le_of_ble_eq_true rfl) (by decide) rfl o29 (am_Ei.end (am_Ei.mono t (fun r31 h30 t => ?_)))
      exact am_iret dc_Main_above_26 rfl t
set_option maxRecDepth 20000 in
theorem ev_Main_above (a0 : Nat) (x1 x2 x3 : Int32) (h : am_H) (Q : Int32 → am_H → Prop) (t : (am_tg h a0 = (11, 18) ∧ (am_Er m_Main_portAt 0 0 [.ref a0, .int x1] h (fun r3 h2 => (r3 = none → (am_tg h2 a0 = (11, 18) ∧ (am_Ei m_Main_refuse 0 0 [.ref a0, .int 1] h2 (fun r8 h7 => Q r8 h7)))) ∧ ∀ b4, r3 = some b4 → (am_tg h2 b4 = (2, 5) ∧ (am_Ei m_Port_hasMinute 0 0 [.ref b4, .int x2] h2 (fun r11 h10 => ((¬ r11 = 0 → (am_Ei m_Main_isHeightToAsk 0 0 [.int x3] h10 (fun r14 h13 => ((¬ r14 = 0 → (am_tg h13 b4 = (2, 5) ∧ (am_Ei m_Port_wholeHeightAt 0 0 [.ref b4, .int x2] h13 (fun r18 h17 => ((r18 < x3 → (am_tg h17 a0 = (11, 18) ∧ (am_Ei m_Main_answer 0 0 [.ref a0, .int 0] h17 (fun r22 h21 => Q r22 h21)))) ∧ (¬ r18 < x3 → (am_tg h17 a0 = (11, 18) ∧ (am_Ei m_Main_answer 0 0 [.ref a0, .int 1] h17 (fun r25 h24 => Q r25 h24))))))))) ∧ (r14 = 0 → (am_tg h13 a0 = (11, 18) ∧ (am_Ei m_Main_refuse 0 0 [.ref a0, .int 3] h13 (fun r28 h27 => Q r28 h27)))))))) ∧ (r11 = 0 → (am_tg h10 a0 = (11, 18) ∧ (am_Ei m_Main_refuse 0 0 [.ref a0, .int 1] h10 (fun r31 h30 => Q r31 h30)))))))))))) : am_Ei m_Main_above 0 0 [.ref a0, .int x1, .int x2, .int x3] h Q :=
  am_Ev.of (by decide +kernel) (Nat.le_of_ble_eq_true rfl) (by simp only [List.mem_cons, List.not_mem_nil, or_false]; intro v hv; rcases hv with rfl | rfl | rfl | rfl; all_goals first | exact trivial) (sg_Main_above_0 (kc := 0) (ks := 0) a0 x1 x2 x3 h (am_qi Q) t)
def bk_Main_addTable_0_2 : List am_E := [(0, .aload_n 0, 1, 0, 0), (1, .getfield 10, 3, 4401, 0)]
theorem bk_Main_addTable_0_2_ok : bk_Main_addTable_0_2.all (am_ok 11 false m_Main_addTable.2.1) = true := by decide +kernel
def bk_Main_addTable_7_4 : List am_E := [(7, .aload_n 0, 1, 0, 0), (8, .getfield 19, 3, 4405, 0), (11, .aload_n 0, 1, 0, 0), (12, .getfield 10, 3, 4401, 0)]
theorem bk_Main_addTable_7_4_ok : bk_Main_addTable_7_4.all (am_ok 11 false m_Main_addTable.2.1) = true := by decide +kernel
def bk_Main_addTable_18_1 : List am_E := [(18, .aload_n 0, 1, 0, 0)]
theorem bk_Main_addTable_18_1_ok : bk_Main_addTable_18_1.all (am_ok 11 false m_Main_addTable.2.1) = true := by decide +kernel
def bk_Main_addTable_31_4 : List am_E := [(31, .aload_n 0, 1, 0, 0), (32, .aload_n 0, 1, 0, 0), (33, .getfield 19, 3, 4405, 0), (36, .aload_n 1, 1, 0, 0)]
theorem bk_Main_addTable_31_4_ok : bk_Main_addTable_31_4.all (am_ok 11 false m_Main_addTable.2.1) = true := by decide +kernel
def bk_Main_addTable_25_2 : List am_E := [(25, .aload_n 0, 1, 0, 0), (26, .iconst 2, 1, 0, 2)]
theorem bk_Main_addTable_25_2_ok : bk_Main_addTable_25_2.all (am_ok 11 false m_Main_addTable.2.1) = true := by decide +kernel
theorem dc_Main_addTable_4 : decode m_Main_addTable.2.1 4 = .ok (.invokevirtual 136, 3) := by decide +kernel
theorem dc_Main_addTable_15 : decode m_Main_addTable.2.1 15 = .ok (.invokevirtual 297, 3) := by decide +kernel
theorem dc_Main_addTable_19 : decode m_Main_addTable.2.1 19 = .ok (.invokevirtual 143, 3) := by decide +kernel
theorem dc_Main_addTable_37 : decode m_Main_addTable.2.1 37 = .ok (.invokevirtual 300, 3) := by decide +kernel
theorem dc_Main_addTable_40 : decode m_Main_addTable.2.1 40 = .ok (.invokevirtual 150, 3) := by decide +kernel
theorem dc_Main_addTable_43 : decode m_Main_addTable.2.1 43 = .ok (.ireturn, 1) := by decide +kernel
theorem dc_Main_addTable_27 : decode m_Main_addTable.2.1 27 = .ok (.invokevirtual 108, 3) := by decide +kernel
theorem dc_Main_addTable_30 : decode m_Main_addTable.2.1 30 = .ok (.ireturn, 1) := by decide +kernel
theorem dc_Main_addTable_22 : decode m_Main_addTable.2.1 22 = .ok (.ifCond .ne 9, 3) := by decide +kernel
set_option maxRecDepth 20000 in
theorem sg_Main_addTable_0 {kc ks : Nat} (a0 a1 : Nat) (h : am_H) (Q : Option Value → am_H → Prop) (t : (am_tg h a0 = (11, 18) ∧ (∃ b1, am_P h a0 0 = some b1 ∧ (am_tg h b1 = (9, 4) ∧ (am_Ew m_Tape_rewind 0 0 [.ref b1] h (fun h5 => (am_tg h5 a0 = (11, 18) ∧ (∃ b6, am_P h5 a0 1 = some b6 ∧ (∃ b7, am_P h5 a0 0 = some b7 ∧ (am_tg h5 b6 = (3, 7) ∧ (am_Ew m_Draft_readTable 0 0 [.ref b6, .ref b7] h5 (fun h12 => (am_tg h12 a0 = (11, 18) ∧ (am_Ei m_Main_textWasRight 0 0 [.ref a0] h12 (fun r15 h14 => ((¬ r15 = 0 → (am_tg h14 a0 = (11, 18) ∧ (∃ b17, am_P h14 a0 1 = some b17 ∧ (am_tg h14 b17 = (3, 7) ∧ (am_Ei m_Draft_followOn 0 0 [.ref b17, .ref a1] h14 (fun r22 h21 => (am_tg h21 a0 = (11, 18) ∧ (am_Ei m_Main_keepPort 4 53 [.ref a0, .int r22] h21 (fun r25 h24 => Q (some (.int r25)) h24))))))))) ∧ (r15 = 0 → (am_tg h14 a0 = (11, 18) ∧ (am_Ei m_Main_refuse 0 0 [.ref a0, .int 2] h14 (fun r28 h27 => Q (some (.int r28)) h27)))))))))))))))))))) : am_EI m_Main_addTable (kc + 4) (ks + 53) 0 [.ref a0, .ref a1] [] h Q := by
  refine am_blk_ok (c := 11) (ini := false) (by decide) rfl (fun q => by cases q) bk_Main_addTable_0_2 _ 4 _ _ _ bk_Main_addTable_0_2_ok rfl ?_
  show (am_tg h a0 = (11, 18) ∧ (∃ b1, am_P h a0 0 = some b1 ∧ am_EI m_Main_addTable (kc + 4) (ks + 53) 4 [.ref a0, .ref a1] [.ref b1] h Q))
  obtain ⟨o2, b1, q3, t⟩ := t
  refine ⟨o2, b1, q3, ?_⟩
  obtain ⟨o4, t⟩ := t
  refine am_callV (M2 := m_Tape_rewind) (ci := 9) (a := b1) (kc := (kc + 4)) (ks := (ks + 53)) (k2c := 0) (k2s := 0) (as := []) [] dc_Main_addTable_4 lk_11_136 im_Tape_rewind se_Tape_rewind lm_Tape_rewind np_Tape_rewind ⟨Nat.le_of_ble_eq_true rfl, Nat.le_of_ble_eq_true rfl⟩ (fun _ => Nat.le_of_ble_eq_true rfl) (by decide) rfl o4 (am_Ew.end (am_Ew.mono t (fun h5 t => ?_)))
  refine am_blk_ok (c := 11) (ini := false) (by decide) rfl (fun q => by cases q) bk_Main_addTable_7_4 _ 15 _ _ _ bk_Main_addTable_7_4_ok rfl ?_
  show (am_tg h5 a0 = (11, 18) ∧ (∃ b6, am_P h5 a0 1 = some b6 ∧ (am_tg h5 a0 = (11, 18) ∧ (∃ b7, am_P h5 a0 0 = some b7 ∧ am_EI m_Main_addTable (kc + 4) (ks + 53) 15 [.ref a0, .ref a1] [.ref b7, .ref b6] h5 Q))))
  obtain ⟨o8, b6, q9, b7, q10, t⟩ := t
  refine ⟨o8, b6, q9, o8, b7, q10, ?_⟩
  obtain ⟨o11, t⟩ := t
  refine am_callV (M2 := m_Draft_readTable) (ci := 3) (a := b6) (kc := (kc + 4)) (ks := (ks + 53)) (k2c := 0) (k2s := 0) (as := []) [.ref b7] dc_Main_addTable_15 lk_11_297 im_Draft_readTable se_Draft_readTable lm_Draft_readTable np_Draft_readTable ⟨Nat.le_of_ble_eq_true rfl, Nat.le_of_ble_eq_true rfl⟩ (fun _ => Nat.le_of_ble_eq_true rfl) (by decide) rfl o11 (am_Ew.end (am_Ew.mono t (fun h12 t => ?_)))
  refine am_blk_ok (c := 11) (ini := false) (by decide) rfl (fun q => by cases q) bk_Main_addTable_18_1 _ 19 _ _ _ bk_Main_addTable_18_1_ok rfl ?_
  show am_EI m_Main_addTable (kc + 4) (ks + 53) 19 [.ref a0, .ref a1] [.ref a0] h12 Q
  obtain ⟨o13, t⟩ := t
  refine am_callV (M2 := m_Main_textWasRight) (ci := 11) (a := a0) (kc := (kc + 4)) (ks := (ks + 53)) (k2c := 0) (k2s := 0) (as := []) [] dc_Main_addTable_19 lk_11_143 im_Main_textWasRight se_Main_textWasRight lm_Main_textWasRight np_Main_textWasRight ⟨Nat.le_of_ble_eq_true rfl, Nat.le_of_ble_eq_true rfl⟩ (fun _ => Nat.le_of_ble_eq_true rfl) (by decide) rfl o13 (am_Ei.end (am_Ei.mono t (fun r15 h14 t => ?_)))
  refine am_if_ne (tgt := 31) dc_Main_addTable_22 (by decide) (fun c16 => ?_) (fun c16 => ?_)
  · replace t := t.1 c16
    refine am_blk_ok (c := 11) (ini := false) (by decide) rfl (fun q => by cases q) bk_Main_addTable_31_4 _ 37 _ _ _ bk_Main_addTable_31_4_ok rfl ?_
    show (am_tg h14 a0 = (11, 18) ∧ (∃ b17, am_P h14 a0 1 = some b17 ∧ am_EI m_Main_addTable (kc + 4) (ks + 53) 37 [.ref a0, .ref a1] [.ref a1, .ref b17, .ref a0] h14 Q))
    obtain ⟨o18, b17, q19, t⟩ := t
    refine ⟨o18, b17, q19, ?_⟩
    obtain ⟨o20, t⟩ := t
    refine am_callV (M2 := m_Draft_followOn) (ci := 3) (a := b17) (kc := (kc + 4)) (ks := (ks + 53)) (k2c := 0) (k2s := 0) (as := [.ref a0]) [.ref a1] dc_Main_addTable_37 lk_11_300 im_Draft_followOn se_Draft_followOn lm_Draft_followOn np_Draft_followOn ⟨Nat.le_of_ble_eq_true rfl, Nat.le_of_ble_eq_true rfl⟩ (fun _ => Nat.le_of_ble_eq_true rfl) (by decide) rfl o20 (am_Ei.end (am_Ei.mono t (fun r22 h21 t => ?_)))
    obtain ⟨o23, t⟩ := t
    refine am_callV (M2 := m_Main_keepPort) (ci := 11) (a := a0) (kc := kc) (ks := ks) (k2c := 4) (k2s := 53) (as := []) [.int r22] dc_Main_addTable_40 lk_11_150 im_Main_keepPort se_Main_keepPort lm_Main_keepPort np_Main_keepPort ⟨Nat.le_of_ble_eq_true rfl, Nat.le_of_ble_eq_true rfl⟩ (fun _ => Nat.le_of_ble_eq_true rfl) (by decide) rfl o23 (am_Ei.end (am_Ei.mono t (fun r25 h24 t => ?_)))
    exact am_iret dc_Main_addTable_43 rfl t
  · refine am_EI.more (kc := kc) (ks := ks) 4 53 ?_
    replace t := t.2 c16
    refine am_blk_ok (c := 11) (ini := false) (by decide) rfl (fun q => by cases q) bk_Main_addTable_25_2 _ 27 _ _ _ bk_Main_addTable_25_2_ok rfl ?_
    show am_EI m_Main_addTable kc ks 27 [.ref a0, .ref a1] [.int 2, .ref a0] h14 Q
    obtain ⟨o26, t⟩ := t
    refine am_callV (M2 := m_Main_refuse) (ci := 11) (a := a0) (kc := kc) (ks := ks) (k2c := 0) (k2s := 0) (as := []) [.int 2] dc_Main_addTable_27 lk_11_108 im_Main_refuse se_Main_refuse lm_Main_refuse np_Main_refuse ⟨Nat.le_of_ble_eq_true rfl, Nat.le_of_ble_eq_true rfl⟩ (fun _ => Nat.le_of_ble_eq_true rfl) (by decide) rfl o26 (am_Ei.end (am_Ei.mono t (fun r28 h27 t => ?_)))
    exact am_iret dc_Main_addTable_30 rfl t
set_option maxRecDepth 20000 in
theorem ev_Main_addTable (a0 a1 : Nat) (h : am_H) (Q : Int32 → am_H → Prop) (t : (am_tg h a0 = (11, 18) ∧ (∃ b1, am_P h a0 0 = some b1 ∧ (am_tg h b1 = (9, 4) ∧ (am_Ew m_Tape_rewind 0 0 [.ref b1] h (fun h5 => (am_tg h5 a0 = (11, 18) ∧ (∃ b6, am_P h5 a0 1 = some b6 ∧ (∃ b7, am_P h5 a0 0 = some b7 ∧ (am_tg h5 b6 = (3, 7) ∧ (am_Ew m_Draft_readTable 0 0 [.ref b6, .ref b7] h5 (fun h12 => (am_tg h12 a0 = (11, 18) ∧ (am_Ei m_Main_textWasRight 0 0 [.ref a0] h12 (fun r15 h14 => ((¬ r15 = 0 → (am_tg h14 a0 = (11, 18) ∧ (∃ b17, am_P h14 a0 1 = some b17 ∧ (am_tg h14 b17 = (3, 7) ∧ (am_Ei m_Draft_followOn 0 0 [.ref b17, .ref a1] h14 (fun r22 h21 => (am_tg h21 a0 = (11, 18) ∧ (am_Ei m_Main_keepPort 4 53 [.ref a0, .int r22] h21 (fun r25 h24 => Q r25 h24))))))))) ∧ (r15 = 0 → (am_tg h14 a0 = (11, 18) ∧ (am_Ei m_Main_refuse 0 0 [.ref a0, .int 2] h14 (fun r28 h27 => Q r28 h27)))))))))))))))))))) : am_Ei m_Main_addTable (0 + 4) (0 + 53) [.ref a0, .ref a1] h Q :=
  am_Ev.of (by decide +kernel) (Nat.le_of_ble_eq_true rfl) (by simp only [List.mem_cons, List.not_mem_nil, or_false]; intro v hv; rcases hv with rfl | rfl; all_goals first | exact trivial) (sg_Main_addTable_0 (kc := 0) (ks := 0) a0 a1 h (am_qi Q) t)
def bk_Main_answer_0_4 : List am_E := [(0, .aload_n 0, 1, 0, 0), (1, .iconst 0, 1, 0, 0), (2, .putfield 95, 3, 4460, 0), (5, .iload_n 1, 1, 0, 0)]
theorem bk_Main_answer_0_4_ok : bk_Main_answer_0_4.all (am_ok 11 false m_Main_answer.2.1) = true := by decide +kernel
theorem dc_Main_answer_6 : decode m_Main_answer.2.1 6 = .ok (.ireturn, 1) := by decide +kernel
set_option maxRecDepth 20000 in
theorem sg_Main_answer_0 {kc ks : Nat} (a0 : Nat) (x1 : Int32) (h : am_H) (Q : Option Value → am_H → Prop) (t : (am_tg h a0 = (11, 18) ∧ Q (some (.int x1)) (am_si h a0 15 0))) : am_EI m_Main_answer kc ks 0 [.ref a0, .int x1] [] h Q := by
  refine am_blk_ok (c := 11) (ini := false) (by decide) rfl (fun q => by cases q) bk_Main_answer_0_4 _ 6 _ _ _ bk_Main_answer_0_4_ok rfl ?_
  show (am_tg h a0 = (11, 18) ∧ am_EI m_Main_answer kc ks 6 [.ref a0, .int x1] [.int x1] (am_si h a0 15 0) Q)
  obtain ⟨o1, t⟩ := t
  refine ⟨o1, ?_⟩
  exact am_iret dc_Main_answer_6 rfl t
set_option maxRecDepth 20000 in
theorem ev_Main_answer (a0 : Nat) (x1 : Int32) (h : am_H) (Q : Int32 → am_H → Prop) (t : (am_tg h a0 = (11, 18) ∧ Q x1 (am_si h a0 15 0))) : am_Ei m_Main_answer 0 0 [.ref a0, .int x1] h Q :=
  am_Ev.of (by decide +kernel) (Nat.le_of_ble_eq_true rfl) (by simp only [List.mem_cons, List.not_mem_nil, or_false]; intro v hv; rcases hv with rfl | rfl; all_goals first | exact trivial) (sg_Main_answer_0 (kc := 0) (ks := 0) a0 x1 h (am_qi Q) t)
def bk_Main_answerLetter_0_1 : List am_E := [(0, .iload_n 1, 1, 0, 0)]
theorem bk_Main_answerLetter_0_1_ok : bk_Main_answerLetter_0_1.all (am_ok 11 false m_Main_answerLetter.2.1) = true := by decide +kernel
def bk_Main_answerLetter_15_2 : List am_E := [(15, .aload_n 0, 1, 0, 0), (16, .iconst 1, 1, 0, 1)]
theorem bk_Main_answerLetter_15_2_ok : bk_Main_answerLetter_15_2.all (am_ok 11 false m_Main_answerLetter.2.1) = true := by decide +kernel
def bk_Main_answerLetter_4_3 : List am_E := [(4, .iload_n 1, 1, 0, 0), (5, .aload_n 0, 1, 0, 0), (6, .getfield 78, 3, 4441, 0)]
theorem bk_Main_answerLetter_4_3_ok : bk_Main_answerLetter_4_3.all (am_ok 11 false m_Main_answerLetter.2.1) = true := by decide +kernel
def bk_Main_answerLetter_21_4 : List am_E := [(21, .aload_n 0, 1, 0, 0), (22, .aload_n 0, 1, 0, 0), (23, .getfield 78, 3, 4441, 0), (26, .iload_n 1, 1, 0, 0)]
theorem bk_Main_answerLetter_21_4_ok : bk_Main_answerLetter_21_4.all (am_ok 11 false m_Main_answerLetter.2.1) = true := by decide +kernel
theorem dc_Main_answerLetter_17 : decode m_Main_answerLetter.2.1 17 = .ok (.invokevirtual 108, 3) := by decide +kernel
theorem dc_Main_answerLetter_20 : decode m_Main_answerLetter.2.1 20 = .ok (.ireturn, 1) := by decide +kernel
theorem dc_Main_answerLetter_9 : decode m_Main_answerLetter.2.1 9 = .ok (.invokevirtual 287, 3) := by decide +kernel
theorem dc_Main_answerLetter_27 : decode m_Main_answerLetter.2.1 27 = .ok (.invokevirtual 288, 3) := by decide +kernel
theorem dc_Main_answerLetter_30 : decode m_Main_answerLetter.2.1 30 = .ok (.invokevirtual 119, 3) := by decide +kernel
theorem dc_Main_answerLetter_33 : decode m_Main_answerLetter.2.1 33 = .ok (.ireturn, 1) := by decide +kernel
theorem dc_Main_answerLetter_12 : decode m_Main_answerLetter.2.1 12 = .ok (.if_icmp .lt 9, 3) := by decide +kernel
theorem dc_Main_answerLetter_1 : decode m_Main_answerLetter.2.1 1 = .ok (.ifCond .lt 14, 3) := by decide +kernel
set_option maxRecDepth 20000 in
theorem sg_Main_answerLetter_0 {kc ks : Nat} (a0 : Nat) (x1 : Int32) (h : am_H) (Q : Option Value → am_H → Prop) (t : ((x1 < 0 → (am_tg h a0 = (11, 18) ∧ (am_Ei m_Main_refuse 0 0 [.ref a0, .int 1] h (fun r4 h3 => Q (some (.int r4)) h3)))) ∧ (¬ x1 < 0 → (am_tg h a0 = (11, 18) ∧ (∃ b5, am_P h a0 10 = some b5 ∧ (am_tg h b5 = (0, 2) ∧ (am_Ei m_Page_size 0 0 [.ref b5] h (fun r10 h9 => ((x1 < r10 → (am_tg h9 a0 = (11, 18) ∧ (∃ b12, am_P h9 a0 10 = some b12 ∧ (am_tg h9 b12 = (0, 2) ∧ (am_Ei m_Page_letterAt 0 0 [.ref b12, .int x1] h9 (fun r17 h16 => (am_tg h16 a0 = (11, 18) ∧ (am_Ei m_Main_answer 0 0 [.ref a0, .int r17] h16 (fun r20 h19 => Q (some (.int r20)) h19))))))))) ∧ (¬ x1 < r10 → (am_tg h9 a0 = (11, 18) ∧ (am_Ei m_Main_refuse 0 0 [.ref a0, .int 1] h9 (fun r23 h22 => Q (some (.int r23)) h22))))))))))))) : am_EI m_Main_answerLetter kc ks 0 [.ref a0, .int x1] [] h Q := by
  refine am_blk_ok (c := 11) (ini := false) (by decide) rfl (fun q => by cases q) bk_Main_answerLetter_0_1 _ 1 _ _ _ bk_Main_answerLetter_0_1_ok rfl ?_
  show am_EI m_Main_answerLetter kc ks 1 [.ref a0, .int x1] [.int x1] h Q
  refine am_if_lt (tgt := 15) dc_Main_answerLetter_1 (by decide) (fun c1 => ?_) (fun c1 => ?_)
  · replace t := t.1 c1
    refine am_blk_ok (c := 11) (ini := false) (by decide) rfl (fun q => by cases q) bk_Main_answerLetter_15_2 _ 17 _ _ _ bk_Main_answerLetter_15_2_ok rfl ?_
    show am_EI m_Main_answerLetter kc ks 17 [.ref a0, .int x1] [.int 1, .ref a0] h Q
    obtain ⟨o2, t⟩ := t
    refine am_callV (M2 := m_Main_refuse) (ci := 11) (a := a0) (kc := kc) (ks := ks) (k2c := 0) (k2s := 0) (as := []) [.int 1] dc_Main_answerLetter_17 lk_11_108 im_Main_refuse se_Main_refuse lm_Main_refuse np_Main_refuse ⟨Nat.le_of_ble_eq_true rfl, Nat.le_of_ble_eq_true rfl⟩ (fun _ => Nat.le_of_ble_eq_true rfl) (by decide) rfl o2 (am_Ei.end (am_Ei.mono t (fun r4 h3 t => ?_)))
    exact am_iret dc_Main_answerLetter_20 rfl t
  · replace t := t.2 c1
    refine am_blk_ok (c := 11) (ini := false) (by decide) rfl (fun q => by cases q) bk_Main_answerLetter_4_3 _ 9 _ _ _ bk_Main_answerLetter_4_3_ok rfl ?_
    show (am_tg h a0 = (11, 18) ∧ (∃ b5, am_P h a0 10 = some b5 ∧ am_EI m_Main_answerLetter kc ks 9 [.ref a0, .int x1] [.ref b5, .int x1] h Q))
    obtain ⟨o6, b5, q7, t⟩ := t
    refine ⟨o6, b5, q7, ?_⟩
    obtain ⟨o8, t⟩ := t
    refine am_callV (M2 := m_Page_size) (ci := 0) (a := b5) (kc := kc) (ks := ks) (k2c := 0) (k2s := 0) (as := [.int x1]) [] dc_Main_answerLetter_9 lk_11_287 im_Page_size se_Page_size lm_Page_size np_Page_size ⟨Nat.le_of_ble_eq_true rfl, Nat.le_of_ble_eq_true rfl⟩ (fun _ => Nat.le_of_ble_eq_true rfl) (by decide) rfl o8 (am_Ei.end (am_Ei.mono t (fun r10 h9 t => ?_)))
    refine am_ic_lt (tgt := 21) dc_Main_answerLetter_12 (by decide) (fun c11 => ?_) (fun c11 => ?_)
    · replace t := t.1 c11
      refine am_blk_ok (c := 11) (ini := false) (by decide) rfl (fun q => by cases q) bk_Main_answerLetter_21_4 _ 27 _ _ _ bk_Main_answerLetter_21_4_ok rfl ?_
      show (am_tg h9 a0 = (11, 18) ∧ (∃ b12, am_P h9 a0 10 = some b12 ∧ am_EI m_Main_answerLetter kc ks 27 [.ref a0, .int x1] [.int x1, .ref b12, .ref a0] h9 Q))
      obtain ⟨o13, b12, q14, t⟩ := t
      refine ⟨o13, b12, q14, ?_⟩
      obtain ⟨o15, t⟩ := t
      refine am_callV (M2 := m_Page_letterAt) (ci := 0) (a := b12) (kc := kc) (ks := ks) (k2c := 0) (k2s := 0) (as := [.ref a0]) [.int x1] dc_Main_answerLetter_27 lk_11_288 im_Page_letterAt se_Page_letterAt lm_Page_letterAt np_Page_letterAt ⟨Nat.le_of_ble_eq_true rfl, Nat.le_of_ble_eq_true rfl⟩ (fun _ => Nat.le_of_ble_eq_true rfl) (by decide) rfl o15 (am_Ei.end (am_Ei.mono t (fun r17 h16 t => ?_)))
      obtain ⟨o18, t⟩ := t
      refine am_callV (M2 := m_Main_answer) (ci := 11) (a := a0) (kc := kc) (ks := ks) (k2c := 0) (k2s := 0) (as := []) [.int r17] dc_Main_answerLetter_30 lk_11_119 im_Main_answer se_Main_answer lm_Main_answer np_Main_answer ⟨Nat.le_of_ble_eq_true rfl, Nat.le_of_ble_eq_true rfl⟩ (fun _ => Nat.le_of_ble_eq_true rfl) (by decide) rfl o18 (am_Ei.end (am_Ei.mono t (fun r20 h19 t => ?_)))
      exact am_iret dc_Main_answerLetter_33 rfl t
    · replace t := t.2 c11
      refine am_blk_ok (c := 11) (ini := false) (by decide) rfl (fun q => by cases q) bk_Main_answerLetter_15_2 _ 17 _ _ _ bk_Main_answerLetter_15_2_ok rfl ?_
      show am_EI m_Main_answerLetter kc ks 17 [.ref a0, .int x1] [.int 1, .ref a0] h9 Q
      obtain ⟨o21, t⟩ := t
      refine am_callV (M2 := m_Main_refuse) (ci := 11) (a := a0) (kc := kc) (ks := ks) (k2c := 0) (k2s := 0) (as := []) [.int 1] dc_Main_answerLetter_17 lk_11_108 im_Main_refuse se_Main_refuse lm_Main_refuse np_Main_refuse ⟨Nat.le_of_ble_eq_true rfl, Nat.le_of_ble_eq_true rfl⟩ (fun _ => Nat.le_of_ble_eq_true rfl) (by decide) rfl o21 (am_Ei.end (am_Ei.mono t (fun r23 h22 t => ?_)))
      exact am_iret dc_Main_answerLetter_20 rfl t
set_option maxRecDepth 20000 in
theorem ev_Main_answerLetter (a0 : Nat) (x1 : Int32) (h : am_H) (Q : Int32 → am_H → Prop) (t : ((x1 < 0 → (am_tg h a0 = (11, 18) ∧ (am_Ei m_Main_refuse 0 0 [.ref a0, .int 1] h (fun r4 h3 => Q r4 h3)))) ∧ (¬ x1 < 0 → (am_tg h a0 = (11, 18) ∧ (∃ b5, am_P h a0 10 = some b5 ∧ (am_tg h b5 = (0, 2) ∧ (am_Ei m_Page_size 0 0 [.ref b5] h (fun r10 h9 => ((x1 < r10 → (am_tg h9 a0 = (11, 18) ∧ (∃ b12, am_P h9 a0 10 = some b12 ∧ (am_tg h9 b12 = (0, 2) ∧ (am_Ei m_Page_letterAt 0 0 [.ref b12, .int x1] h9 (fun r17 h16 => (am_tg h16 a0 = (11, 18) ∧ (am_Ei m_Main_answer 0 0 [.ref a0, .int r17] h16 (fun r20 h19 => Q r20 h19))))))))) ∧ (¬ x1 < r10 → (am_tg h9 a0 = (11, 18) ∧ (am_Ei m_Main_refuse 0 0 [.ref a0, .int 1] h9 (fun r23 h22 => Q r23 h22))))))))))))) : am_Ei m_Main_answerLetter 0 0 [.ref a0, .int x1] h Q :=
  am_Ev.of (by decide +kernel) (Nat.le_of_ble_eq_true rfl) (by simp only [List.mem_cons, List.not_mem_nil, or_false]; intro v hv; rcases hv with rfl | rfl; all_goals first | exact trivial) (sg_Main_answerLetter_0 (kc := 0) (ks := 0) a0 x1 h (am_qi Q) t)
def bk_Main_arrive_0_2 : List am_E := [(0, .aload_n 0, 1, 0, 0), (1, .iload_n 1, 1, 0, 0)]
theorem bk_Main_arrive_0_2_ok : bk_Main_arrive_0_2.all (am_ok 11 false m_Main_arrive.2.1) = true := by decide +kernel
def bk_Main_arrive_5_3 : List am_E := [(5, .astore 4, 2, 0, 0), (7, .aload_n 0, 1, 0, 0), (8, .iload_n 2, 1, 0, 0)]
theorem bk_Main_arrive_5_3_ok : bk_Main_arrive_5_3.all (am_ok 11 false m_Main_arrive.2.1) = true := by decide +kernel
def bk_Main_arrive_12_2 : List am_E := [(12, .astore 5, 2, 0, 0), (14, .aload 4, 2, 0, 0)]
theorem bk_Main_arrive_12_2_ok : bk_Main_arrive_12_2.all (am_ok 11 false m_Main_arrive.2.1) = true := by decide +kernel
def bk_Main_arrive_24_2 : List am_E := [(24, .aload_n 0, 1, 0, 0), (25, .iconst 1, 1, 0, 1)]
theorem bk_Main_arrive_24_2_ok : bk_Main_arrive_24_2.all (am_ok 11 false m_Main_arrive.2.1) = true := by decide +kernel
def bk_Main_arrive_19_1 : List am_E := [(19, .aload 5, 2, 0, 0)]
theorem bk_Main_arrive_19_1_ok : bk_Main_arrive_19_1.all (am_ok 11 false m_Main_arrive.2.1) = true := by decide +kernel
def bk_Main_arrive_30_1 : List am_E := [(30, .iload_n 3, 1, 0, 0)]
theorem bk_Main_arrive_30_1_ok : bk_Main_arrive_30_1.all (am_ok 11 false m_Main_arrive.2.1) = true := by decide +kernel
def bk_Main_arrive_43_5 : List am_E := [(43, .aload_n 0, 1, 0, 0), (44, .getfield 71, 3, 4437, 0), (47, .aload 4, 2, 0, 0), (49, .aload 5, 2, 0, 0), (51, .iload_n 3, 1, 0, 0)]
theorem bk_Main_arrive_43_5_ok : bk_Main_arrive_43_5.all (am_ok 11 false m_Main_arrive.2.1) = true := by decide +kernel
def bk_Main_arrive_55_3 : List am_E := [(55, .istore 6, 2, 0, 0), (57, .aload_n 0, 1, 0, 0), (58, .iload 6, 2, 0, 0)]
theorem bk_Main_arrive_55_3_ok : bk_Main_arrive_55_3.all (am_ok 11 false m_Main_arrive.2.1) = true := by decide +kernel
def bk_Main_arrive_80_1 : List am_E := [(80, .iconst (-1), 1, 0, -1)]
theorem bk_Main_arrive_80_1_ok : bk_Main_arrive_80_1.all (am_ok 11 false m_Main_arrive.2.1) = true := by decide +kernel
def bk_Main_arrive_63_3 : List am_E := [(63, .aload_n 0, 1, 0, 0), (64, .getfield 71, 3, 4437, 0), (67, .aload 4, 2, 0, 0)]
theorem bk_Main_arrive_63_3_ok : bk_Main_arrive_63_3.all (am_ok 11 false m_Main_arrive.2.1) = true := by decide +kernel
def bk_Main_arrive_72_2 : List am_E := [(72, .iconst 1, 1, 0, 1), (73, .isub, 1, 0, 0)]
theorem bk_Main_arrive_72_2_ok : bk_Main_arrive_72_2.all (am_ok 11 false m_Main_arrive.2.1) = true := by decide +kernel
def bk_Main_arrive_77_1 : List am_E := [(77, .goto 4, 3, 0, 4)]
theorem bk_Main_arrive_77_1_ok : bk_Main_arrive_77_1.all (am_ok 11 false m_Main_arrive.2.1) = true := by decide +kernel
def bk_Main_arrive_37_2 : List am_E := [(37, .aload_n 0, 1, 0, 0), (38, .iconst 3, 1, 0, 3)]
theorem bk_Main_arrive_37_2_ok : bk_Main_arrive_37_2.all (am_ok 11 false m_Main_arrive.2.1) = true := by decide +kernel
theorem dc_Main_arrive_2 : decode m_Main_arrive.2.1 2 = .ok (.invokevirtual 246, 3) := by decide +kernel
theorem dc_Main_arrive_9 : decode m_Main_arrive.2.1 9 = .ok (.invokevirtual 250, 3) := by decide +kernel
theorem dc_Main_arrive_16 : decode m_Main_arrive.2.1 16 = .ok (.ifnull 8, 3) := by decide +kernel
theorem dc_Main_arrive_26 : decode m_Main_arrive.2.1 26 = .ok (.invokevirtual 108, 3) := by decide +kernel
theorem dc_Main_arrive_29 : decode m_Main_arrive.2.1 29 = .ok (.ireturn, 1) := by decide +kernel
theorem dc_Main_arrive_21 : decode m_Main_arrive.2.1 21 = .ok (.ifnonnull 9, 3) := by decide +kernel
theorem dc_Main_arrive_31 : decode m_Main_arrive.2.1 31 = .ok (.invokestatic 260, 3) := by decide +kernel
theorem dc_Main_arrive_52 : decode m_Main_arrive.2.1 52 = .ok (.invokevirtual 263, 3) := by decide +kernel
theorem dc_Main_arrive_81 : decode m_Main_arrive.2.1 81 = .ok (.invokevirtual 119, 3) := by decide +kernel
theorem dc_Main_arrive_84 : decode m_Main_arrive.2.1 84 = .ok (.ireturn, 1) := by decide +kernel
theorem dc_Main_arrive_69 : decode m_Main_arrive.2.1 69 = .ok (.invokevirtual 170, 3) := by decide +kernel
theorem dc_Main_arrive_74 : decode m_Main_arrive.2.1 74 = .ok (.invokevirtual 267, 3) := by decide +kernel
theorem dc_Main_arrive_60 : decode m_Main_arrive.2.1 60 = .ok (.ifCond .eq 20, 3) := by decide +kernel
theorem dc_Main_arrive_39 : decode m_Main_arrive.2.1 39 = .ok (.invokevirtual 108, 3) := by decide +kernel
theorem dc_Main_arrive_42 : decode m_Main_arrive.2.1 42 = .ok (.ireturn, 1) := by decide +kernel
theorem dc_Main_arrive_34 : decode m_Main_arrive.2.1 34 = .ok (.ifCond .ne 9, 3) := by decide +kernel
set_option maxRecDepth 20000 in
theorem sg_Main_arrive_0 {kc ks : Nat} (a0 : Nat) (x1 x2 x3 : Int32) (h : am_H) (Q : Option Value → am_H → Prop) (t : (am_tg h a0 = (11, 18) ∧ (am_Er m_Main_routeAt 0 0 [.ref a0, .int x1] h (fun r3 h2 => (r3 = none → (am_tg h2 a0 = (11, 18) ∧ (am_Er m_Main_shipAt 0 0 [.ref a0, .int x2] h2 (fun r8 h7 => (r8 = none → (am_tg h7 a0 = (11, 18) ∧ (am_Ei m_Main_refuse 0 0 [.ref a0, .int 1] h7 (fun r13 h12 => Q (some (.int r13)) h12)))) ∧ ∀ b9, r8 = some b9 → (am_tg h7 a0 = (11, 18) ∧ (am_Ei m_Main_refuse 0 0 [.ref a0, .int 1] h7 (fun r16 h15 => Q (some (.int r16)) h15))))))) ∧ ∀ b4, r3 = some b4 → (am_tg h2 a0 = (11, 18) ∧ (am_Er m_Main_shipAt 0 0 [.ref a0, .int x2] h2 (fun r19 h18 => (r19 = none → (am_tg h18 a0 = (11, 18) ∧ (am_Ei m_Main_refuse 0 0 [.ref a0, .int 1] h18 (fun r24 h23 => Q (some (.int r24)) h23)))) ∧ ∀ b20, r19 = some b20 → (am_Ei m_Main_isNumberToAsk 0 0 [.int x3] h18 (fun r26 h25 => ((¬ r26 = 0 → (am_tg h25 a0 = (11, 18) ∧ (∃ b28, am_P h25 a0 9 = some b28 ∧ (am_tg h25 b28 = (1, 7) ∧ (am_Ei m_Planner_plan 0 0 [.ref b28, .ref b4, .ref b20, .int x3] h25 (fun r33 h32 => ((r33 = 0 → (am_tg h32 a0 = (11, 18) ∧ (am_Ei m_Main_answer 0 0 [.ref a0, .int (-1)] h32 (fun r37 h36 => Q (some (.int r37)) h36)))) ∧ (¬ r33 = 0 → (am_tg h32 a0 = (11, 18) ∧ (∃ b38, am_P h32 a0 9 = some b38 ∧ (am_tg h32 b4 = (4, 7) ∧ (am_Ei m_Route_stopCount 0 0 [.ref b4] h32 (fun r43 h42 => (am_tg h42 b38 = (1, 7) ∧ (am_Ei m_Planner_passOf 0 0 [.ref b38, .int (r43 - 1)] h42 (fun r46 h45 => (am_tg h45 a0 = (11, 18) ∧ (am_Ei m_Main_answer 0 0 [.ref a0, .int r46] h45 (fun r49 h48 => Q (some (.int r49)) h48))))))))))))))))))) ∧ (r26 = 0 → (am_tg h25 a0 = (11, 18) ∧ (am_Ei m_Main_refuse 0 0 [.ref a0, .int 3] h25 (fun r52 h51 => Q (some (.int r52)) h51)))))))))))))) : am_EI m_Main_arrive kc ks 0 [.ref a0, .int x1, .int x2, .int x3, .float 0, .float 0, .float 0] [] h Q := by
  refine am_blk_ok (c := 11) (ini := false) (by decide) rfl (fun q => by cases q) bk_Main_arrive_0_2 _ 2 _ _ _ bk_Main_arrive_0_2_ok rfl ?_
  show am_EI m_Main_arrive kc ks 2 [.ref a0, .int x1, .int x2, .int x3, .float 0, .float 0, .float 0] [.int x1, .ref a0] h Q
  obtain ⟨o1, t⟩ := t
  refine am_callV (M2 := m_Main_routeAt) (ci := 11) (a := a0) (kc := kc) (ks := ks) (k2c := 0) (k2s := 0) (as := []) [.int x1] dc_Main_arrive_2 lk_11_246 im_Main_routeAt se_Main_routeAt lm_Main_routeAt np_Main_routeAt ⟨Nat.le_of_ble_eq_true rfl, Nat.le_of_ble_eq_true rfl⟩ (fun _ => Nat.le_of_ble_eq_true rfl) (by decide) rfl o1 (am_Er.end (am_Er.mono t (fun r3 h2 t => ⟨fun c5 => ?_, fun b4 c5 => ?_⟩)))
  · replace t := t.1 c5
    refine am_blk_ok (c := 11) (ini := false) (by decide) rfl (fun q => by cases q) bk_Main_arrive_5_3 _ 9 _ _ _ bk_Main_arrive_5_3_ok rfl ?_
    show am_EI m_Main_arrive kc ks 9 [.ref a0, .int x1, .int x2, .int x3, .null, .float 0, .float 0] [.int x2, .ref a0] h2 Q
    obtain ⟨o6, t⟩ := t
    refine am_callV (M2 := m_Main_shipAt) (ci := 11) (a := a0) (kc := kc) (ks := ks) (k2c := 0) (k2s := 0) (as := []) [.int x2] dc_Main_arrive_9 lk_11_250 im_Main_shipAt se_Main_shipAt lm_Main_shipAt np_Main_shipAt ⟨Nat.le_of_ble_eq_true rfl, Nat.le_of_ble_eq_true rfl⟩ (fun _ => Nat.le_of_ble_eq_true rfl) (by decide) rfl o6 (am_Er.end (am_Er.mono t (fun r8 h7 t => ⟨fun c10 => ?_, fun b9 c10 => ?_⟩)))
    · replace t := t.1 c10
      refine am_blk_ok (c := 11) (ini := false) (by decide) rfl (fun q => by cases q) bk_Main_arrive_12_2 _ 16 _ _ _ bk_Main_arrive_12_2_ok rfl ?_
      show am_EI m_Main_arrive kc ks 16 [.ref a0, .int x1, .int x2, .int x3, .null, .null, .float 0] [.null] h7 Q
      refine am_ifnullN (tgt := 24) dc_Main_arrive_16 (by decide) ?_
      refine am_blk_ok (c := 11) (ini := false) (by decide) rfl (fun q => by cases q) bk_Main_arrive_24_2 _ 26 _ _ _ bk_Main_arrive_24_2_ok rfl ?_
      show am_EI m_Main_arrive kc ks 26 [.ref a0, .int x1, .int x2, .int x3, .null, .null, .float 0] [.int 1, .ref a0] h7 Q
      obtain ⟨o11, t⟩ := t
      refine am_callV (M2 := m_Main_refuse) (ci := 11) (a := a0) (kc := kc) (ks := ks) (k2c := 0) (k2s := 0) (as := []) [.int 1] dc_Main_arrive_26 lk_11_108 im_Main_refuse se_Main_refuse lm_Main_refuse np_Main_refuse ⟨Nat.le_of_ble_eq_true rfl, Nat.le_of_ble_eq_true rfl⟩ (fun _ => Nat.le_of_ble_eq_true rfl) (by decide) rfl o11 (am_Ei.end (am_Ei.mono t (fun r13 h12 t => ?_)))
      exact am_iret dc_Main_arrive_29 rfl t
    · replace t := t.2 b9 c10
      refine am_blk_ok (c := 11) (ini := false) (by decide) rfl (fun q => by cases q) bk_Main_arrive_12_2 _ 16 _ _ _ bk_Main_arrive_12_2_ok rfl ?_
      show am_EI m_Main_arrive kc ks 16 [.ref a0, .int x1, .int x2, .int x3, .null, .ref b9, .float 0] [.null] h7 Q
      refine am_ifnullN (tgt := 24) dc_Main_arrive_16 (by decide) ?_
      refine am_blk_ok (c := 11) (ini := false) (by decide) rfl (fun q => by cases q) bk_Main_arrive_24_2 _ 26 _ _ _ bk_Main_arrive_24_2_ok rfl ?_
      show am_EI m_Main_arrive kc ks 26 [.ref a0, .int x1, .int x2, .int x3, .null, .ref b9, .float 0] [.int 1, .ref a0] h7 Q
      obtain ⟨o14, t⟩ := t
      refine am_callV (M2 := m_Main_refuse) (ci := 11) (a := a0) (kc := kc) (ks := ks) (k2c := 0) (k2s := 0) (as := []) [.int 1] dc_Main_arrive_26 lk_11_108 im_Main_refuse se_Main_refuse lm_Main_refuse np_Main_refuse ⟨Nat.le_of_ble_eq_true rfl, Nat.le_of_ble_eq_true rfl⟩ (fun _ => Nat.le_of_ble_eq_true rfl) (by decide) rfl o14 (am_Ei.end (am_Ei.mono t (fun r16 h15 t => ?_)))
      exact am_iret dc_Main_arrive_29 rfl t
  · replace t := t.2 b4 c5
    refine am_blk_ok (c := 11) (ini := false) (by decide) rfl (fun q => by cases q) bk_Main_arrive_5_3 _ 9 _ _ _ bk_Main_arrive_5_3_ok rfl ?_
    show am_EI m_Main_arrive kc ks 9 [.ref a0, .int x1, .int x2, .int x3, .ref b4, .float 0, .float 0] [.int x2, .ref a0] h2 Q
    obtain ⟨o17, t⟩ := t
    refine am_callV (M2 := m_Main_shipAt) (ci := 11) (a := a0) (kc := kc) (ks := ks) (k2c := 0) (k2s := 0) (as := []) [.int x2] dc_Main_arrive_9 lk_11_250 im_Main_shipAt se_Main_shipAt lm_Main_shipAt np_Main_shipAt ⟨Nat.le_of_ble_eq_true rfl, Nat.le_of_ble_eq_true rfl⟩ (fun _ => Nat.le_of_ble_eq_true rfl) (by decide) rfl o17 (am_Er.end (am_Er.mono t (fun r19 h18 t => ⟨fun c21 => ?_, fun b20 c21 => ?_⟩)))
    · replace t := t.1 c21
      refine am_blk_ok (c := 11) (ini := false) (by decide) rfl (fun q => by cases q) bk_Main_arrive_12_2 _ 16 _ _ _ bk_Main_arrive_12_2_ok rfl ?_
      show am_EI m_Main_arrive kc ks 16 [.ref a0, .int x1, .int x2, .int x3, .ref b4, .null, .float 0] [.ref b4] h18 Q
      refine am_ifnull dc_Main_arrive_16 ?_
      refine am_blk_ok (c := 11) (ini := false) (by decide) rfl (fun q => by cases q) bk_Main_arrive_19_1 _ 21 _ _ _ bk_Main_arrive_19_1_ok rfl ?_
      show am_EI m_Main_arrive kc ks 21 [.ref a0, .int x1, .int x2, .int x3, .ref b4, .null, .float 0] [.null] h18 Q
      refine am_ifnonnullN dc_Main_arrive_21 ?_
      refine am_blk_ok (c := 11) (ini := false) (by decide) rfl (fun q => by cases q) bk_Main_arrive_24_2 _ 26 _ _ _ bk_Main_arrive_24_2_ok rfl ?_
      show am_EI m_Main_arrive kc ks 26 [.ref a0, .int x1, .int x2, .int x3, .ref b4, .null, .float 0] [.int 1, .ref a0] h18 Q
      obtain ⟨o22, t⟩ := t
      refine am_callV (M2 := m_Main_refuse) (ci := 11) (a := a0) (kc := kc) (ks := ks) (k2c := 0) (k2s := 0) (as := []) [.int 1] dc_Main_arrive_26 lk_11_108 im_Main_refuse se_Main_refuse lm_Main_refuse np_Main_refuse ⟨Nat.le_of_ble_eq_true rfl, Nat.le_of_ble_eq_true rfl⟩ (fun _ => Nat.le_of_ble_eq_true rfl) (by decide) rfl o22 (am_Ei.end (am_Ei.mono t (fun r24 h23 t => ?_)))
      exact am_iret dc_Main_arrive_29 rfl t
    · replace t := t.2 b20 c21
      refine am_blk_ok (c := 11) (ini := false) (by decide) rfl (fun q => by cases q) bk_Main_arrive_12_2 _ 16 _ _ _ bk_Main_arrive_12_2_ok rfl ?_
      show am_EI m_Main_arrive kc ks 16 [.ref a0, .int x1, .int x2, .int x3, .ref b4, .ref b20, .float 0] [.ref b4] h18 Q
      refine am_ifnull dc_Main_arrive_16 ?_
      refine am_blk_ok (c := 11) (ini := false) (by decide) rfl (fun q => by cases q) bk_Main_arrive_19_1 _ 21 _ _ _ bk_Main_arrive_19_1_ok rfl ?_
      show am_EI m_Main_arrive kc ks 21 [.ref a0, .int x1, .int x2, .int x3, .ref b4, .ref b20, .float 0] [.ref b20] h18 Q
      refine am_ifnonnull (tgt := 30) dc_Main_arrive_21 (by decide) ?_
      refine am_blk_ok (c := 11) (ini := false) (by decide) rfl (fun q => by cases q) bk_Main_arrive_30_1 _ 31 _ _ _ bk_Main_arrive_30_1_ok rfl ?_
      show am_EI m_Main_arrive kc ks 31 [.ref a0, .int x1, .int x2, .int x3, .ref b4, .ref b20, .float 0] [.int x3] h18 Q
      refine am_callS (M2 := m_Main_isNumberToAsk) (kc := kc) (ks := ks) (k2c := 0) (k2s := 0) (as := []) [.int x3] dc_Main_arrive_31 lk_11_260 st_Main_isNumberToAsk lm_Main_isNumberToAsk np_Main_isNumberToAsk ⟨Nat.le_of_ble_eq_true rfl, Nat.le_of_ble_eq_true rfl⟩ (fun _ => Nat.le_of_ble_eq_true rfl) (am_Ei.end (am_Ei.mono t (fun r26 h25 t => ?_)))
      refine am_if_ne (tgt := 43) dc_Main_arrive_34 (by decide) (fun c27 => ?_) (fun c27 => ?_)
      · replace t := t.1 c27
        refine am_blk_ok (c := 11) (ini := false) (by decide) rfl (fun q => by cases q) bk_Main_arrive_43_5 _ 52 _ _ _ bk_Main_arrive_43_5_ok rfl ?_
        show (am_tg h25 a0 = (11, 18) ∧ (∃ b28, am_P h25 a0 9 = some b28 ∧ am_EI m_Main_arrive kc ks 52 [.ref a0, .int x1, .int x2, .int x3, .ref b4, .ref b20, .float 0] [.int x3, .ref b20, .ref b4, .ref b28] h25 Q))
        obtain ⟨o29, b28, q30, t⟩ := t
        refine ⟨o29, b28, q30, ?_⟩
        obtain ⟨o31, t⟩ := t
        refine am_callV (M2 := m_Planner_plan) (ci := 1) (a := b28) (kc := kc) (ks := ks) (k2c := 0) (k2s := 0) (as := []) [.ref b4, .ref b20, .int x3] dc_Main_arrive_52 lk_11_263 im_Planner_plan se_Planner_plan lm_Planner_plan np_Planner_plan ⟨Nat.le_of_ble_eq_true rfl, Nat.le_of_ble_eq_true rfl⟩ (fun _ => Nat.le_of_ble_eq_true rfl) (by decide) rfl o31 (am_Ei.end (am_Ei.mono t (fun r33 h32 t => ?_)))
        refine am_blk_ok (c := 11) (ini := false) (by decide) rfl (fun q => by cases q) bk_Main_arrive_55_3 _ 60 _ _ _ bk_Main_arrive_55_3_ok rfl ?_
        show am_EI m_Main_arrive kc ks 60 [.ref a0, .int x1, .int x2, .int x3, .ref b4, .ref b20, .int r33] [.int r33, .ref a0] h32 Q
        refine am_if_eq (tgt := 80) dc_Main_arrive_60 (by decide) (fun c34 => ?_) (fun c34 => ?_)
        · replace t := t.1 c34
          refine am_blk_ok (c := 11) (ini := false) (by decide) rfl (fun q => by cases q) bk_Main_arrive_80_1 _ 81 _ _ _ bk_Main_arrive_80_1_ok rfl ?_
          show am_EI m_Main_arrive kc ks 81 [.ref a0, .int x1, .int x2, .int x3, .ref b4, .ref b20, .int r33] [.int (-1), .ref a0] h32 Q
          obtain ⟨o35, t⟩ := t
          refine am_callV (M2 := m_Main_answer) (ci := 11) (a := a0) (kc := kc) (ks := ks) (k2c := 0) (k2s := 0) (as := []) [.int (-1)] dc_Main_arrive_81 lk_11_119 im_Main_answer se_Main_answer lm_Main_answer np_Main_answer ⟨Nat.le_of_ble_eq_true rfl, Nat.le_of_ble_eq_true rfl⟩ (fun _ => Nat.le_of_ble_eq_true rfl) (by decide) rfl o35 (am_Ei.end (am_Ei.mono t (fun r37 h36 t => ?_)))
          exact am_iret dc_Main_arrive_84 rfl t
        · replace t := t.2 c34
          refine am_blk_ok (c := 11) (ini := false) (by decide) rfl (fun q => by cases q) bk_Main_arrive_63_3 _ 69 _ _ _ bk_Main_arrive_63_3_ok rfl ?_
          show (am_tg h32 a0 = (11, 18) ∧ (∃ b38, am_P h32 a0 9 = some b38 ∧ am_EI m_Main_arrive kc ks 69 [.ref a0, .int x1, .int x2, .int x3, .ref b4, .ref b20, .int r33] [.ref b4, .ref b38, .ref a0] h32 Q))
          obtain ⟨o39, b38, q40, t⟩ := t
          refine ⟨o39, b38, q40, ?_⟩
          obtain ⟨o41, t⟩ := t
          refine am_callV (M2 := m_Route_stopCount) (ci := 4) (a := b4) (kc := kc) (ks := ks) (k2c := 0) (k2s := 0) (as := [.ref b38, .ref a0]) [] dc_Main_arrive_69 lk_11_170 im_Route_stopCount se_Route_stopCount lm_Route_stopCount np_Route_stopCount ⟨Nat.le_of_ble_eq_true rfl, Nat.le_of_ble_eq_true rfl⟩ (fun _ => Nat.le_of_ble_eq_true rfl) (by decide) rfl o41 (am_Ei.end (am_Ei.mono t (fun r43 h42 t => ?_)))
          refine am_blk_ok (c := 11) (ini := false) (by decide) rfl (fun q => by cases q) bk_Main_arrive_72_2 _ 74 _ _ _ bk_Main_arrive_72_2_ok rfl ?_
          show am_EI m_Main_arrive kc ks 74 [.ref a0, .int x1, .int x2, .int x3, .ref b4, .ref b20, .int r33] [.int (r43 - 1), .ref b38, .ref a0] h42 Q
          obtain ⟨o44, t⟩ := t
          refine am_callV (M2 := m_Planner_passOf) (ci := 1) (a := b38) (kc := kc) (ks := ks) (k2c := 0) (k2s := 0) (as := [.ref a0]) [.int (r43 - 1)] dc_Main_arrive_74 lk_11_267 im_Planner_passOf se_Planner_passOf lm_Planner_passOf np_Planner_passOf ⟨Nat.le_of_ble_eq_true rfl, Nat.le_of_ble_eq_true rfl⟩ (fun _ => Nat.le_of_ble_eq_true rfl) (by decide) rfl o44 (am_Ei.end (am_Ei.mono t (fun r46 h45 t => ?_)))
          refine am_blk_ok (c := 11) (ini := false) (by decide) rfl (fun q => by cases q) bk_Main_arrive_77_1 _ 81 _ _ _ bk_Main_arrive_77_1_ok rfl ?_
          show am_EI m_Main_arrive kc ks 81 [.ref a0, .int x1, .int x2, .int x3, .ref b4, .ref b20, .int r33] [.int r46, .ref a0] h45 Q
          obtain ⟨o47, t⟩ := t
          refine am_callV (M2 := m_Main_answer) (ci := 11) (a := a0) (kc := kc) (ks := ks) (k2c := 0) (k2s := 0) (as := []) [.int r46] dc_Main_arrive_81 lk_11_119 im_Main_answer se_Main_answer lm_Main_answer np_Main_answer ⟨Nat.le_of_ble_eq_true rfl, Nat.le_of_ble_eq_true rfl⟩ (fun _ => Nat.le_of_ble_eq_true rfl) (by decide) rfl o47 (am_Ei.end (am_Ei.mono t (fun r49 h48 t => ?_)))
          exact am_iret dc_Main_arrive_84 rfl t
      · replace t := t.2 c27
        refine am_blk_ok (c := 11) (ini := false) (by decide) rfl (fun q => by cases q) bk_Main_arrive_37_2 _ 39 _ _ _ bk_Main_arrive_37_2_ok rfl ?_
        show am_EI m_Main_arrive kc ks 39 [.ref a0, .int x1, .int x2, .int x3, .ref b4, .ref b20, .float 0] [.int 3, .ref a0] h25 Q
        obtain ⟨o50, t⟩ := t
        refine am_callV (M2 := m_Main_refuse) (ci := 11) (a := a0) (kc := kc) (ks := ks) (k2c := 0) (k2s := 0) (as := []) [.int 3] dc_Main_arrive_39 lk_11_108 im_Main_refuse se_Main_refuse lm_Main_refuse np_Main_refuse ⟨Nat.le_of_ble_eq_true rfl, Nat.le_of_ble_eq_true rfl⟩ (fun _ => Nat.le_of_ble_eq_true rfl) (by decide) rfl o50 (am_Ei.end (am_Ei.mono t (fun r52 h51 t => ?_)))
        exact am_iret dc_Main_arrive_42 rfl t
set_option maxRecDepth 20000 in
theorem ev_Main_arrive (a0 : Nat) (x1 x2 x3 : Int32) (h : am_H) (Q : Int32 → am_H → Prop) (t : (am_tg h a0 = (11, 18) ∧ (am_Er m_Main_routeAt 0 0 [.ref a0, .int x1] h (fun r3 h2 => (r3 = none → (am_tg h2 a0 = (11, 18) ∧ (am_Er m_Main_shipAt 0 0 [.ref a0, .int x2] h2 (fun r8 h7 => (r8 = none → (am_tg h7 a0 = (11, 18) ∧ (am_Ei m_Main_refuse 0 0 [.ref a0, .int 1] h7 (fun r13 h12 => Q r13 h12)))) ∧ ∀ b9, r8 = some b9 → (am_tg h7 a0 = (11, 18) ∧ (am_Ei m_Main_refuse 0 0 [.ref a0, .int 1] h7 (fun r16 h15 => Q r16 h15))))))) ∧ ∀ b4, r3 = some b4 → (am_tg h2 a0 = (11, 18) ∧ (am_Er m_Main_shipAt 0 0 [.ref a0, .int x2] h2 (fun r19 h18 => (r19 = none → (am_tg h18 a0 = (11, 18) ∧ (am_Ei m_Main_refuse 0 0 [.ref a0, .int 1] h18 (fun r24 h23 => Q r24 h23)))) ∧ ∀ b20, r19 = some b20 → (am_Ei m_Main_isNumberToAsk 0 0 [.int x3] h18 (fun r26 h25 => ((¬ r26 = 0 → (am_tg h25 a0 = (11, 18) ∧ (∃ b28, am_P h25 a0 9 = some b28 ∧ (am_tg h25 b28 = (1, 7) ∧ (am_Ei m_Planner_plan 0 0 [.ref b28, .ref b4, .ref b20, .int x3] h25 (fun r33 h32 => ((r33 = 0 → (am_tg h32 a0 = (11, 18) ∧ (am_Ei m_Main_answer 0 0 [.ref a0, .int (-1)] h32 (fun r37 h36 => Q r37 h36)))) ∧ (¬ r33 = 0 → (am_tg h32 a0 = (11, 18) ∧ (∃ b38, am_P h32 a0 9 = some b38 ∧ (am_tg h32 b4 = (4, 7) ∧ (am_Ei m_Route_stopCount 0 0 [.ref b4] h32 (fun r43 h42 => (am_tg h42 b38 = (1, 7) ∧ (am_Ei m_Planner_passOf 0 0 [.ref b38, .int (r43 - 1)] h42 (fun r46 h45 => (am_tg h45 a0 = (11, 18) ∧ (am_Ei m_Main_answer 0 0 [.ref a0, .int r46] h45 (fun r49 h48 => Q r49 h48))))))))))))))))))) ∧ (r26 = 0 → (am_tg h25 a0 = (11, 18) ∧ (am_Ei m_Main_refuse 0 0 [.ref a0, .int 3] h25 (fun r52 h51 => Q r52 h51)))))))))))))) : am_Ei m_Main_arrive 0 0 [.ref a0, .int x1, .int x2, .int x3] h Q :=
  am_Ev.of (by decide +kernel) (Nat.le_of_ble_eq_true rfl) (by simp only [List.mem_cons, List.not_mem_nil, or_false]; intro v hv; rcases hv with rfl | rfl | rfl | rfl; all_goals first | exact trivial) (sg_Main_arrive_0 (kc := 0) (ks := 0) a0 x1 x2 x3 h (am_qi Q) t)
def bk_Main_count_0_1 : List am_E := [(0, .iload_n 1, 1, 0, 0)]
theorem bk_Main_count_0_1_ok : bk_Main_count_0_1.all (am_ok 11 false m_Main_count.2.1) = true := by decide +kernel
def bk_Main_count_36_3 : List am_E := [(36, .aload_n 0, 1, 0, 0), (37, .aload_n 0, 1, 0, 0), (38, .getfield 82, 3, 4444, 0)]
theorem bk_Main_count_36_3_ok : bk_Main_count_36_3.all (am_ok 11 false m_Main_count.2.1) = true := by decide +kernel
def bk_Main_count_45_3 : List am_E := [(45, .aload_n 0, 1, 0, 0), (46, .aload_n 0, 1, 0, 0), (47, .getfield 86, 3, 4448, 0)]
theorem bk_Main_count_45_3_ok : bk_Main_count_45_3.all (am_ok 11 false m_Main_count.2.1) = true := by decide +kernel
def bk_Main_count_54_3 : List am_E := [(54, .aload_n 0, 1, 0, 0), (55, .aload_n 0, 1, 0, 0), (56, .getfield 89, 3, 4452, 0)]
theorem bk_Main_count_54_3_ok : bk_Main_count_54_3.all (am_ok 11 false m_Main_count.2.1) = true := by decide +kernel
def bk_Main_count_63_3 : List am_E := [(63, .aload_n 0, 1, 0, 0), (64, .aload_n 0, 1, 0, 0), (65, .getfield 92, 3, 4456, 0)]
theorem bk_Main_count_63_3_ok : bk_Main_count_63_3.all (am_ok 11 false m_Main_count.2.1) = true := by decide +kernel
def bk_Main_count_72_3 : List am_E := [(72, .aload_n 0, 1, 0, 0), (73, .aload_n 0, 1, 0, 0), (74, .getfield 10, 3, 4401, 0)]
theorem bk_Main_count_72_3_ok : bk_Main_count_72_3.all (am_ok 11 false m_Main_count.2.1) = true := by decide +kernel
def bk_Main_count_84_2 : List am_E := [(84, .aload_n 0, 1, 0, 0), (85, .iconst 3, 1, 0, 3)]
theorem bk_Main_count_84_2_ok : bk_Main_count_84_2.all (am_ok 11 false m_Main_count.2.1) = true := by decide +kernel
theorem dc_Main_count_1 : decode m_Main_count.2.1 1 = .ok (.tableswitch 83 0 4 #[35, 44, 53, 62, 71], 35) := by decide +kernel
theorem dc_Main_count_41 : decode m_Main_count.2.1 41 = .ok (.invokevirtual 119, 3) := by decide +kernel
theorem dc_Main_count_44 : decode m_Main_count.2.1 44 = .ok (.ireturn, 1) := by decide +kernel
theorem dc_Main_count_50 : decode m_Main_count.2.1 50 = .ok (.invokevirtual 119, 3) := by decide +kernel
theorem dc_Main_count_53 : decode m_Main_count.2.1 53 = .ok (.ireturn, 1) := by decide +kernel
theorem dc_Main_count_59 : decode m_Main_count.2.1 59 = .ok (.invokevirtual 119, 3) := by decide +kernel
theorem dc_Main_count_62 : decode m_Main_count.2.1 62 = .ok (.ireturn, 1) := by decide +kernel
theorem dc_Main_count_68 : decode m_Main_count.2.1 68 = .ok (.invokevirtual 119, 3) := by decide +kernel
theorem dc_Main_count_71 : decode m_Main_count.2.1 71 = .ok (.ireturn, 1) := by decide +kernel
theorem dc_Main_count_77 : decode m_Main_count.2.1 77 = .ok (.invokevirtual 115, 3) := by decide +kernel
theorem dc_Main_count_80 : decode m_Main_count.2.1 80 = .ok (.invokevirtual 119, 3) := by decide +kernel
theorem dc_Main_count_83 : decode m_Main_count.2.1 83 = .ok (.ireturn, 1) := by decide +kernel
theorem dc_Main_count_86 : decode m_Main_count.2.1 86 = .ok (.invokevirtual 108, 3) := by decide +kernel
theorem dc_Main_count_89 : decode m_Main_count.2.1 89 = .ok (.ireturn, 1) := by decide +kernel
set_option maxRecDepth 20000 in
theorem sg_Main_count_0 {kc ks : Nat} (a0 : Nat) (x1 : Int32) (h : am_H) (Q : Option Value → am_H → Prop) (t : ((x1 = 0 → (am_tg h a0 = (11, 18) ∧ (am_Ei m_Main_answer 0 0 [.ref a0, .int (am_I h a0 11)] h (fun r4 h3 => Q (some (.int r4)) h3)))) ∧ (x1 = 1 → (am_tg h a0 = (11, 18) ∧ (am_Ei m_Main_answer 0 0 [.ref a0, .int (am_I h a0 12)] h (fun r8 h7 => Q (some (.int r8)) h7)))) ∧ (x1 = 2 → (am_tg h a0 = (11, 18) ∧ (am_Ei m_Main_answer 0 0 [.ref a0, .int (am_I h a0 13)] h (fun r12 h11 => Q (some (.int r12)) h11)))) ∧ (x1 = 3 → (am_tg h a0 = (11, 18) ∧ (am_Ei m_Main_answer 0 0 [.ref a0, .int (am_I h a0 14)] h (fun r16 h15 => Q (some (.int r16)) h15)))) ∧ (x1 = 4 → (am_tg h a0 = (11, 18) ∧ (∃ b18, am_P h a0 0 = some b18 ∧ (am_tg h b18 = (9, 4) ∧ (am_Ei m_Tape_size 0 0 [.ref b18] h (fun r23 h22 => (am_tg h22 a0 = (11, 18) ∧ (am_Ei m_Main_answer 0 0 [.ref a0, .int r23] h22 (fun r26 h25 => Q (some (.int r26)) h25))))))))) ∧ (¬ x1 = 0 → ¬ x1 = 1 → ¬ x1 = 2 → ¬ x1 = 3 → ¬ x1 = 4 → (am_tg h a0 = (11, 18) ∧ (am_Ei m_Main_refuse 0 0 [.ref a0, .int 3] h (fun r29 h28 => Q (some (.int r29)) h28)))))) : am_EI m_Main_count kc ks 0 [.ref a0, .int x1] [] h Q := by
  refine am_blk_ok (c := 11) (ini := false) (by decide) rfl (fun q => by cases q) bk_Main_count_0_1 _ 1 _ _ _ bk_Main_count_0_1_ok rfl ?_
  show am_EI m_Main_count kc ks 1 [.ref a0, .int x1] [.int x1] h Q
  by_cases c1 : x1 = 0
  · refine am_tabIn (x := x1) (tgt := 36) dc_Main_count_1 (by rw [c1]; decide) (by rw [c1]; decide) (by rw [c1]; rfl) (by decide) ?_
    replace t := t.1 c1
    refine am_blk_ok (c := 11) (ini := false) (by decide) rfl (fun q => by cases q) bk_Main_count_36_3 _ 41 _ _ _ bk_Main_count_36_3_ok rfl ?_
    show (am_tg h a0 = (11, 18) ∧ am_EI m_Main_count kc ks 41 [.ref a0, .int x1] [.int (am_I h a0 11), .ref a0] h Q)
    obtain ⟨o2, t⟩ := t
    refine ⟨o2, ?_⟩
    refine am_callV (M2 := m_Main_answer) (ci := 11) (a := a0) (kc := kc) (ks := ks) (k2c := 0) (k2s := 0) (as := []) [.int (am_I h a0 11)] dc_Main_count_41 lk_11_119 im_Main_answer se_Main_answer lm_Main_answer np_Main_answer ⟨Nat.le_of_ble_eq_true rfl, Nat.le_of_ble_eq_true rfl⟩ (fun _ => Nat.le_of_ble_eq_true rfl) (by decide) rfl o2 (am_Ei.end (am_Ei.mono t (fun r4 h3 t => ?_)))
    exact am_iret dc_Main_count_44 rfl t
  by_cases c5 : x1 = 1
  · refine am_tabIn (x := x1) (tgt := 45) dc_Main_count_1 (by rw [c5]; decide) (by rw [c5]; decide) (by rw [c5]; rfl) (by decide) ?_
    replace t := t.2.1 c5
    refine am_blk_ok (c := 11) (ini := false) (by decide) rfl (fun q => by cases q) bk_Main_count_45_3 _ 50 _ _ _ bk_Main_count_45_3_ok rfl ?_
    show (am_tg h a0 = (11, 18) ∧ am_EI m_Main_count kc ks 50 [.ref a0, .int x1] [.int (am_I h a0 12), .ref a0] h Q)
    obtain ⟨o6, t⟩ := t
    refine ⟨o6, ?_⟩
    refine am_callV (M2 := m_Main_answer) (ci := 11) (a := a0) (kc := kc) (ks := ks) (k2c := 0) (k2s := 0) (as := []) [.int (am_I h a0 12)] dc_Main_count_50 lk_11_119 im_Main_answer se_Main_answer lm_Main_answer np_Main_answer ⟨Nat.le_of_ble_eq_true rfl, Nat.le_of_ble_eq_true rfl⟩ (fun _ => Nat.le_of_ble_eq_true rfl) (by decide) rfl o6 (am_Ei.end (am_Ei.mono t (fun r8 h7 t => ?_)))
    exact am_iret dc_Main_count_53 rfl t
  by_cases c9 : x1 = 2
  · refine am_tabIn (x := x1) (tgt := 54) dc_Main_count_1 (by rw [c9]; decide) (by rw [c9]; decide) (by rw [c9]; rfl) (by decide) ?_
    replace t := t.2.2.1 c9
    refine am_blk_ok (c := 11) (ini := false) (by decide) rfl (fun q => by cases q) bk_Main_count_54_3 _ 59 _ _ _ bk_Main_count_54_3_ok rfl ?_
    show (am_tg h a0 = (11, 18) ∧ am_EI m_Main_count kc ks 59 [.ref a0, .int x1] [.int (am_I h a0 13), .ref a0] h Q)
    obtain ⟨o10, t⟩ := t
    refine ⟨o10, ?_⟩
    refine am_callV (M2 := m_Main_answer) (ci := 11) (a := a0) (kc := kc) (ks := ks) (k2c := 0) (k2s := 0) (as := []) [.int (am_I h a0 13)] dc_Main_count_59 lk_11_119 im_Main_answer se_Main_answer lm_Main_answer np_Main_answer ⟨Nat.le_of_ble_eq_true rfl, Nat.le_of_ble_eq_true rfl⟩ (fun _ => Nat.le_of_ble_eq_true rfl) (by decide) rfl o10 (am_Ei.end (am_Ei.mono t (fun r12 h11 t => ?_)))
    exact am_iret dc_Main_count_62 rfl t
  by_cases c13 : x1 = 3
  · refine am_tabIn (x := x1) (tgt := 63) dc_Main_count_1 (by rw [c13]; decide) (by rw [c13]; decide) (by rw [c13]; rfl) (by decide) ?_
    replace t := t.2.2.2.1 c13
    refine am_blk_ok (c := 11) (ini := false) (by decide) rfl (fun q => by cases q) bk_Main_count_63_3 _ 68 _ _ _ bk_Main_count_63_3_ok rfl ?_
    show (am_tg h a0 = (11, 18) ∧ am_EI m_Main_count kc ks 68 [.ref a0, .int x1] [.int (am_I h a0 14), .ref a0] h Q)
    obtain ⟨o14, t⟩ := t
    refine ⟨o14, ?_⟩
    refine am_callV (M2 := m_Main_answer) (ci := 11) (a := a0) (kc := kc) (ks := ks) (k2c := 0) (k2s := 0) (as := []) [.int (am_I h a0 14)] dc_Main_count_68 lk_11_119 im_Main_answer se_Main_answer lm_Main_answer np_Main_answer ⟨Nat.le_of_ble_eq_true rfl, Nat.le_of_ble_eq_true rfl⟩ (fun _ => Nat.le_of_ble_eq_true rfl) (by decide) rfl o14 (am_Ei.end (am_Ei.mono t (fun r16 h15 t => ?_)))
    exact am_iret dc_Main_count_71 rfl t
  by_cases c17 : x1 = 4
  · refine am_tabIn (x := x1) (tgt := 72) dc_Main_count_1 (by rw [c17]; decide) (by rw [c17]; decide) (by rw [c17]; rfl) (by decide) ?_
    replace t := t.2.2.2.2.1 c17
    refine am_blk_ok (c := 11) (ini := false) (by decide) rfl (fun q => by cases q) bk_Main_count_72_3 _ 77 _ _ _ bk_Main_count_72_3_ok rfl ?_
    show (am_tg h a0 = (11, 18) ∧ (∃ b18, am_P h a0 0 = some b18 ∧ am_EI m_Main_count kc ks 77 [.ref a0, .int x1] [.ref b18, .ref a0] h Q))
    obtain ⟨o19, b18, q20, t⟩ := t
    refine ⟨o19, b18, q20, ?_⟩
    obtain ⟨o21, t⟩ := t
    refine am_callV (M2 := m_Tape_size) (ci := 9) (a := b18) (kc := kc) (ks := ks) (k2c := 0) (k2s := 0) (as := [.ref a0]) [] dc_Main_count_77 lk_11_115 im_Tape_size se_Tape_size lm_Tape_size np_Tape_size ⟨Nat.le_of_ble_eq_true rfl, Nat.le_of_ble_eq_true rfl⟩ (fun _ => Nat.le_of_ble_eq_true rfl) (by decide) rfl o21 (am_Ei.end (am_Ei.mono t (fun r23 h22 t => ?_)))
    obtain ⟨o24, t⟩ := t
    refine am_callV (M2 := m_Main_answer) (ci := 11) (a := a0) (kc := kc) (ks := ks) (k2c := 0) (k2s := 0) (as := []) [.int r23] dc_Main_count_80 lk_11_119 im_Main_answer se_Main_answer lm_Main_answer np_Main_answer ⟨Nat.le_of_ble_eq_true rfl, Nat.le_of_ble_eq_true rfl⟩ (fun _ => Nat.le_of_ble_eq_true rfl) (by decide) rfl o24 (am_Ei.end (am_Ei.mono t (fun r26 h25 t => ?_)))
    exact am_iret dc_Main_count_83 rfl t
  refine am_tabOut (x := x1) (tgt := 84) dc_Main_count_1 (by have e0 := am_ne32 c1; have e1 := am_ne32 c5; have e2 := am_ne32 c9; have e3 := am_ne32 c13; have e4 := am_ne32 c17; rw [show (0 : Int32).toInt = 0 from rfl] at e0; rw [show (1 : Int32).toInt = 1 from rfl] at e1; rw [show (2 : Int32).toInt = 2 from rfl] at e2; rw [show (3 : Int32).toInt = 3 from rfl] at e3; rw [show (4 : Int32).toInt = 4 from rfl] at e4; omega) (by decide) ?_
  replace t := t.2.2.2.2.2 c1 c5 c9 c13 c17
  refine am_blk_ok (c := 11) (ini := false) (by decide) rfl (fun q => by cases q) bk_Main_count_84_2 _ 86 _ _ _ bk_Main_count_84_2_ok rfl ?_
  show am_EI m_Main_count kc ks 86 [.ref a0, .int x1] [.int 3, .ref a0] h Q
  obtain ⟨o27, t⟩ := t
  refine am_callV (M2 := m_Main_refuse) (ci := 11) (a := a0) (kc := kc) (ks := ks) (k2c := 0) (k2s := 0) (as := []) [.int 3] dc_Main_count_86 lk_11_108 im_Main_refuse se_Main_refuse lm_Main_refuse np_Main_refuse ⟨Nat.le_of_ble_eq_true rfl, Nat.le_of_ble_eq_true rfl⟩ (fun _ => Nat.le_of_ble_eq_true rfl) (by decide) rfl o27 (am_Ei.end (am_Ei.mono t (fun r29 h28 t => ?_)))
  exact am_iret dc_Main_count_89 rfl t
set_option maxRecDepth 20000 in
theorem ev_Main_count (a0 : Nat) (x1 : Int32) (h : am_H) (Q : Int32 → am_H → Prop) (t : ((x1 = 0 → (am_tg h a0 = (11, 18) ∧ (am_Ei m_Main_answer 0 0 [.ref a0, .int (am_I h a0 11)] h (fun r4 h3 => Q r4 h3)))) ∧ (x1 = 1 → (am_tg h a0 = (11, 18) ∧ (am_Ei m_Main_answer 0 0 [.ref a0, .int (am_I h a0 12)] h (fun r8 h7 => Q r8 h7)))) ∧ (x1 = 2 → (am_tg h a0 = (11, 18) ∧ (am_Ei m_Main_answer 0 0 [.ref a0, .int (am_I h a0 13)] h (fun r12 h11 => Q r12 h11)))) ∧ (x1 = 3 → (am_tg h a0 = (11, 18) ∧ (am_Ei m_Main_answer 0 0 [.ref a0, .int (am_I h a0 14)] h (fun r16 h15 => Q r16 h15)))) ∧ (x1 = 4 → (am_tg h a0 = (11, 18) ∧ (∃ b18, am_P h a0 0 = some b18 ∧ (am_tg h b18 = (9, 4) ∧ (am_Ei m_Tape_size 0 0 [.ref b18] h (fun r23 h22 => (am_tg h22 a0 = (11, 18) ∧ (am_Ei m_Main_answer 0 0 [.ref a0, .int r23] h22 (fun r26 h25 => Q r26 h25))))))))) ∧ (¬ x1 = 0 → ¬ x1 = 1 → ¬ x1 = 2 → ¬ x1 = 3 → ¬ x1 = 4 → (am_tg h a0 = (11, 18) ∧ (am_Ei m_Main_refuse 0 0 [.ref a0, .int 3] h (fun r29 h28 => Q r29 h28)))))) : am_Ei m_Main_count 0 0 [.ref a0, .int x1] h Q :=
  am_Ev.of (by decide +kernel) (Nat.le_of_ble_eq_true rfl) (by simp only [List.mem_cons, List.not_mem_nil, or_false]; intro v hv; rcases hv with rfl | rfl; all_goals first | exact trivial) (sg_Main_count_0 (kc := 0) (ks := 0) a0 x1 h (am_qi Q) t)
def bk_Main_ebb_0_5 : List am_E := [(0, .aload_n 0, 1, 0, 0), (1, .iconst 1, 1, 0, 1), (2, .iload_n 1, 1, 0, 0), (3, .iload_n 2, 1, 0, 0), (4, .iload_n 3, 1, 0, 0)]
theorem bk_Main_ebb_0_5_ok : bk_Main_ebb_0_5.all (am_ok 11 false m_Main_ebb.2.1) = true := by decide +kernel
theorem dc_Main_ebb_5 : decode m_Main_ebb.2.1 5 = .ok (.invokevirtual 211, 3) := by decide +kernel
theorem dc_Main_ebb_8 : decode m_Main_ebb.2.1 8 = .ok (.ireturn, 1) := by decide +kernel
set_option maxRecDepth 20000 in
theorem sg_Main_ebb_0 {kc ks : Nat} (a0 : Nat) (x1 x2 x3 : Int32) (h : am_H) (Q : Option Value → am_H → Prop) (t : (am_tg h a0 = (11, 18) ∧ (am_Ei m_Main_firstMinuteWhere 0 0 [.ref a0, .int 1, .int x1, .int x2, .int x3] h (fun r3 h2 => Q (some (.int r3)) h2)))) : am_EI m_Main_ebb kc ks 0 [.ref a0, .int x1, .int x2, .int x3] [] h Q := by
  refine am_blk_ok (c := 11) (ini := false) (by decide) rfl (fun q => by cases q) bk_Main_ebb_0_5 _ 5 _ _ _ bk_Main_ebb_0_5_ok rfl ?_
  show am_EI m_Main_ebb kc ks 5 [.ref a0, .int x1, .int x2, .int x3] [.int x3, .int x2, .int x1, .int 1, .ref a0] h Q
  obtain ⟨o1, t⟩ := t
  refine am_callV (M2 := m_Main_firstMinuteWhere) (ci := 11) (a := a0) (kc := kc) (ks := ks) (k2c := 0) (k2s := 0) (as := []) [.int 1, .int x1, .int x2, .int x3] dc_Main_ebb_5 lk_11_211 im_Main_firstMinuteWhere se_Main_firstMinuteWhere lm_Main_firstMinuteWhere np_Main_firstMinuteWhere ⟨Nat.le_of_ble_eq_true rfl, Nat.le_of_ble_eq_true rfl⟩ (fun _ => Nat.le_of_ble_eq_true rfl) (by decide) rfl o1 (am_Ei.end (am_Ei.mono t (fun r3 h2 t => ?_)))
  exact am_iret dc_Main_ebb_8 rfl t
set_option maxRecDepth 20000 in
theorem ev_Main_ebb (a0 : Nat) (x1 x2 x3 : Int32) (h : am_H) (Q : Int32 → am_H → Prop) (t : (am_tg h a0 = (11, 18) ∧ (am_Ei m_Main_firstMinuteWhere 0 0 [.ref a0, .int 1, .int x1, .int x2, .int x3] h (fun r3 h2 => Q r3 h2)))) : am_Ei m_Main_ebb 0 0 [.ref a0, .int x1, .int x2, .int x3] h Q :=
  am_Ev.of (by decide +kernel) (Nat.le_of_ble_eq_true rfl) (by simp only [List.mem_cons, List.not_mem_nil, or_false]; intro v hv; rcases hv with rfl | rfl | rfl | rfl; all_goals first | exact trivial) (sg_Main_ebb_0 (kc := 0) (ks := 0) a0 x1 x2 x3 h (am_qi Q) t)
def bk_Main_end_0_1 : List am_E := [(0, .iload_n 1, 1, 0, 0)]
theorem bk_Main_end_0_1_ok : bk_Main_end_0_1.all (am_ok 11 false m_Main_end.2.1) = true := by decide +kernel
def bk_Main_end_15_2 : List am_E := [(15, .aload_n 0, 1, 0, 0), (16, .iconst 3, 1, 0, 3)]
theorem bk_Main_end_15_2_ok : bk_Main_end_15_2.all (am_ok 11 false m_Main_end.2.1) = true := by decide +kernel
def bk_Main_end_4_3 : List am_E := [(4, .iload_n 1, 1, 0, 0), (5, .aload_n 0, 1, 0, 0), (6, .getfield 10, 3, 4401, 0)]
theorem bk_Main_end_4_3_ok : bk_Main_end_4_3.all (am_ok 11 false m_Main_end.2.1) = true := by decide +kernel
def bk_Main_end_21_3 : List am_E := [(21, .aload_n 0, 1, 0, 0), (22, .getfield 10, 3, 4401, 0), (25, .iload_n 1, 1, 0, 0)]
theorem bk_Main_end_21_3_ok : bk_Main_end_21_3.all (am_ok 11 false m_Main_end.2.1) = true := by decide +kernel
def bk_Main_end_29_2 : List am_E := [(29, .aload_n 0, 1, 0, 0), (30, .iload_n 1, 1, 0, 0)]
theorem bk_Main_end_29_2_ok : bk_Main_end_29_2.all (am_ok 11 false m_Main_end.2.1) = true := by decide +kernel
theorem dc_Main_end_17 : decode m_Main_end.2.1 17 = .ok (.invokevirtual 108, 3) := by decide +kernel
theorem dc_Main_end_20 : decode m_Main_end.2.1 20 = .ok (.ireturn, 1) := by decide +kernel
theorem dc_Main_end_9 : decode m_Main_end.2.1 9 = .ok (.invokevirtual 115, 3) := by decide +kernel
theorem dc_Main_end_26 : decode m_Main_end.2.1 26 = .ok (.invokevirtual 122, 3) := by decide +kernel
theorem dc_Main_end_31 : decode m_Main_end.2.1 31 = .ok (.invokevirtual 119, 3) := by decide +kernel
theorem dc_Main_end_34 : decode m_Main_end.2.1 34 = .ok (.ireturn, 1) := by decide +kernel
theorem dc_Main_end_12 : decode m_Main_end.2.1 12 = .ok (.if_icmp .le 9, 3) := by decide +kernel
theorem dc_Main_end_1 : decode m_Main_end.2.1 1 = .ok (.ifCond .lt 14, 3) := by decide +kernel
set_option maxRecDepth 20000 in
theorem sg_Main_end_0 {kc ks : Nat} (a0 : Nat) (x1 : Int32) (h : am_H) (Q : Option Value → am_H → Prop) (t : ((x1 < 0 → (am_tg h a0 = (11, 18) ∧ (am_Ei m_Main_refuse 0 0 [.ref a0, .int 3] h (fun r4 h3 => Q (some (.int r4)) h3)))) ∧ (¬ x1 < 0 → (am_tg h a0 = (11, 18) ∧ (∃ b5, am_P h a0 0 = some b5 ∧ (am_tg h b5 = (9, 4) ∧ (am_Ei m_Tape_size 0 0 [.ref b5] h (fun r10 h9 => ((x1 ≤ r10 → (am_tg h9 a0 = (11, 18) ∧ (∃ b12, am_P h9 a0 0 = some b12 ∧ (am_tg h9 b12 = (9, 4) ∧ (am_Ew m_Tape_keepFirst 0 0 [.ref b12, .int x1] h9 (fun h16 => (am_tg h16 a0 = (11, 18) ∧ (am_Ei m_Main_answer 0 0 [.ref a0, .int x1] h16 (fun r19 h18 => Q (some (.int r19)) h18))))))))) ∧ (¬ x1 ≤ r10 → (am_tg h9 a0 = (11, 18) ∧ (am_Ei m_Main_refuse 0 0 [.ref a0, .int 3] h9 (fun r22 h21 => Q (some (.int r22)) h21))))))))))))) : am_EI m_Main_end kc ks 0 [.ref a0, .int x1] [] h Q := by
  refine am_blk_ok (c := 11) (ini := false) (by decide) rfl (fun q => by cases q) bk_Main_end_0_1 _ 1 _ _ _ bk_Main_end_0_1_ok rfl ?_
  show am_EI m_Main_end kc ks 1 [.ref a0, .int x1] [.int x1] h Q
  refine am_if_lt (tgt := 15) dc_Main_end_1 (by decide) (fun c1 => ?_) (fun c1 => ?_)
  · replace t := t.1 c1
    refine am_blk_ok (c := 11) (ini := false) (by decide) rfl (fun q => by cases q) bk_Main_end_15_2 _ 17 _ _ _ bk_Main_end_15_2_ok rfl ?_
    show am_EI m_Main_end kc ks 17 [.ref a0, .int x1] [.int 3, .ref a0] h Q
    obtain ⟨o2, t⟩ := t
    refine am_callV (M2 := m_Main_refuse) (ci := 11) (a := a0) (kc := kc) (ks := ks) (k2c := 0) (k2s := 0) (as := []) [.int 3] dc_Main_end_17 lk_11_108 im_Main_refuse se_Main_refuse lm_Main_refuse np_Main_refuse ⟨Nat.le_of_ble_eq_true rfl, Nat.le_of_ble_eq_true rfl⟩ (fun _ => Nat.le_of_ble_eq_true rfl) (by decide) rfl o2 (am_Ei.end (am_Ei.mono t (fun r4 h3 t => ?_)))
    exact am_iret dc_Main_end_20 rfl t
  · replace t := t.2 c1
    refine am_blk_ok (c := 11) (ini := false) (by decide) rfl (fun q => by cases q) bk_Main_end_4_3 _ 9 _ _ _ bk_Main_end_4_3_ok rfl ?_
    show (am_tg h a0 = (11, 18) ∧ (∃ b5, am_P h a0 0 = some b5 ∧ am_EI m_Main_end kc ks 9 [.ref a0, .int x1] [.ref b5, .int x1] h Q))
    obtain ⟨o6, b5, q7, t⟩ := t
    refine ⟨o6, b5, q7, ?_⟩
    obtain ⟨o8, t⟩ := t
    refine am_callV (M2 := m_Tape_size) (ci := 9) (a := b5) (kc := kc) (ks := ks) (k2c := 0) (k2s := 0) (as := [.int x1]) [] dc_Main_end_9 lk_11_115 im_Tape_size se_Tape_size lm_Tape_size np_Tape_size ⟨Nat.le_of_ble_eq_true rfl, Nat.le_of_ble_eq_true rfl⟩ (fun _ => Nat.le_of_ble_eq_true rfl) (by decide) rfl o8 (am_Ei.end (am_Ei.mono t (fun r10 h9 t => ?_)))
    refine am_ic_le (tgt := 21) dc_Main_end_12 (by decide) (fun c11 => ?_) (fun c11 => ?_)
    · replace t := t.1 c11
      refine am_blk_ok (c := 11) (ini := false) (by decide) rfl (fun q => by cases q) bk_Main_end_21_3 _ 26 _ _ _ bk_Main_end_21_3_ok rfl ?_
      show (am_tg h9 a0 = (11, 18) ∧ (∃ b12, am_P h9 a0 0 = some b12 ∧ am_EI m_Main_end kc ks 26 [.ref a0, .int x1] [.int x1, .ref b12] h9 Q))
      obtain ⟨o13, b12, q14, t⟩ := t
      refine ⟨o13, b12, q14, ?_⟩
      obtain ⟨o15, t⟩ := t
      refine am_callV (M2 := m_Tape_keepFirst) (ci := 9) (a := b12) (kc := kc) (ks := ks) (k2c := 0) (k2s := 0) (as := []) [.int x1] dc_Main_end_26 lk_11_122 im_Tape_keepFirst se_Tape_keepFirst lm_Tape_keepFirst np_Tape_keepFirst ⟨Nat.le_of_ble_eq_true rfl, Nat.le_of_ble_eq_true rfl⟩ (fun _ => Nat.le_of_ble_eq_true rfl) (by decide) rfl o15 (am_Ew.end (am_Ew.mono t (fun h16 t => ?_)))
      refine am_blk_ok (c := 11) (ini := false) (by decide) rfl (fun q => by cases q) bk_Main_end_29_2 _ 31 _ _ _ bk_Main_end_29_2_ok rfl ?_
      show am_EI m_Main_end kc ks 31 [.ref a0, .int x1] [.int x1, .ref a0] h16 Q
      obtain ⟨o17, t⟩ := t
      refine am_callV (M2 := m_Main_answer) (ci := 11) (a := a0) (kc := kc) (ks := ks) (k2c := 0) (k2s := 0) (as := []) [.int x1] dc_Main_end_31 lk_11_119 im_Main_answer se_Main_answer lm_Main_answer np_Main_answer ⟨Nat.le_of_ble_eq_true rfl, Nat.le_of_ble_eq_true rfl⟩ (fun _ => Nat.le_of_ble_eq_true rfl) (by decide) rfl o17 (am_Ei.end (am_Ei.mono t (fun r19 h18 t => ?_)))
      exact am_iret dc_Main_end_34 rfl t
    · replace t := t.2 c11
      refine am_blk_ok (c := 11) (ini := false) (by decide) rfl (fun q => by cases q) bk_Main_end_15_2 _ 17 _ _ _ bk_Main_end_15_2_ok rfl ?_
      show am_EI m_Main_end kc ks 17 [.ref a0, .int x1] [.int 3, .ref a0] h9 Q
      obtain ⟨o20, t⟩ := t
      refine am_callV (M2 := m_Main_refuse) (ci := 11) (a := a0) (kc := kc) (ks := ks) (k2c := 0) (k2s := 0) (as := []) [.int 3] dc_Main_end_17 lk_11_108 im_Main_refuse se_Main_refuse lm_Main_refuse np_Main_refuse ⟨Nat.le_of_ble_eq_true rfl, Nat.le_of_ble_eq_true rfl⟩ (fun _ => Nat.le_of_ble_eq_true rfl) (by decide) rfl o20 (am_Ei.end (am_Ei.mono t (fun r22 h21 t => ?_)))
      exact am_iret dc_Main_end_20 rfl t
set_option maxRecDepth 20000 in
theorem ev_Main_end (a0 : Nat) (x1 : Int32) (h : am_H) (Q : Int32 → am_H → Prop) (t : ((x1 < 0 → (am_tg h a0 = (11, 18) ∧ (am_Ei m_Main_refuse 0 0 [.ref a0, .int 3] h (fun r4 h3 => Q r4 h3)))) ∧ (¬ x1 < 0 → (am_tg h a0 = (11, 18) ∧ (∃ b5, am_P h a0 0 = some b5 ∧ (am_tg h b5 = (9, 4) ∧ (am_Ei m_Tape_size 0 0 [.ref b5] h (fun r10 h9 => ((x1 ≤ r10 → (am_tg h9 a0 = (11, 18) ∧ (∃ b12, am_P h9 a0 0 = some b12 ∧ (am_tg h9 b12 = (9, 4) ∧ (am_Ew m_Tape_keepFirst 0 0 [.ref b12, .int x1] h9 (fun h16 => (am_tg h16 a0 = (11, 18) ∧ (am_Ei m_Main_answer 0 0 [.ref a0, .int x1] h16 (fun r19 h18 => Q r19 h18))))))))) ∧ (¬ x1 ≤ r10 → (am_tg h9 a0 = (11, 18) ∧ (am_Ei m_Main_refuse 0 0 [.ref a0, .int 3] h9 (fun r22 h21 => Q r22 h21))))))))))))) : am_Ei m_Main_end 0 0 [.ref a0, .int x1] h Q :=
  am_Ev.of (by decide +kernel) (Nat.le_of_ble_eq_true rfl) (by simp only [List.mem_cons, List.not_mem_nil, or_false]; intro v hv; rcases hv with rfl | rfl; all_goals first | exact trivial) (sg_Main_end_0 (kc := 0) (ks := 0) a0 x1 h (am_qi Q) t)
def bk_Main_fault_0_2 : List am_E := [(0, .aload_n 0, 1, 0, 0), (1, .getfield 101, 3, 4468, 0)]
theorem bk_Main_fault_0_2_ok : bk_Main_fault_0_2.all (am_ok 11 false m_Main_fault.2.1) = true := by decide +kernel
theorem dc_Main_fault_4 : decode m_Main_fault.2.1 4 = .ok (.ireturn, 1) := by decide +kernel
set_option maxRecDepth 20000 in
theorem sg_Main_fault_0 {kc ks : Nat} (a0 : Nat) (h : am_H) (Q : Option Value → am_H → Prop) (t : (am_tg h a0 = (11, 18) ∧ Q (some (.int (am_I h a0 17))) h)) : am_EI m_Main_fault kc ks 0 [.ref a0] [] h Q := by
  refine am_blk_ok (c := 11) (ini := false) (by decide) rfl (fun q => by cases q) bk_Main_fault_0_2 _ 4 _ _ _ bk_Main_fault_0_2_ok rfl ?_
  show (am_tg h a0 = (11, 18) ∧ am_EI m_Main_fault kc ks 4 [.ref a0] [.int (am_I h a0 17)] h Q)
  obtain ⟨o1, t⟩ := t
  refine ⟨o1, ?_⟩
  exact am_iret dc_Main_fault_4 rfl t
set_option maxRecDepth 20000 in
theorem ev_Main_fault (a0 : Nat) (h : am_H) (Q : Int32 → am_H → Prop) (t : (am_tg h a0 = (11, 18) ∧ Q (am_I h a0 17) h)) : am_Ei m_Main_fault 0 0 [.ref a0] h Q :=
  am_Ev.of (by decide +kernel) (Nat.le_of_ble_eq_true rfl) (by simp only [List.mem_cons, List.not_mem_nil, or_false]; intro v hv; rcases hv with rfl; all_goals first | exact trivial) (sg_Main_fault_0 (kc := 0) (ks := 0) a0 h (am_qi Q) t)
def bk_Main_feed_0_3 : List am_E := [(0, .aload_n 0, 1, 0, 0), (1, .getfield 10, 3, 4401, 0), (4, .bipush 20, 2, 0, 20)]
theorem bk_Main_feed_0_3_ok : bk_Main_feed_0_3.all (am_ok 11 false m_Main_feed.2.1) = true := by decide +kernel
def bk_Main_feed_19_3 : List am_E := [(19, .aload_n 0, 1, 0, 0), (20, .getfield 10, 3, 4401, 0), (23, .iload_n 1, 1, 0, 0)]
theorem bk_Main_feed_19_3_ok : bk_Main_feed_19_3.all (am_ok 11 false m_Main_feed.2.1) = true := by decide +kernel
def bk_Main_feed_27_3 : List am_E := [(27, .aload_n 0, 1, 0, 0), (28, .getfield 10, 3, 4401, 0), (31, .iload_n 2, 1, 0, 0)]
theorem bk_Main_feed_27_3_ok : bk_Main_feed_27_3.all (am_ok 11 false m_Main_feed.2.1) = true := by decide +kernel
def bk_Main_feed_35_3 : List am_E := [(35, .aload_n 0, 1, 0, 0), (36, .getfield 10, 3, 4401, 0), (39, .iload_n 3, 1, 0, 0)]
theorem bk_Main_feed_35_3_ok : bk_Main_feed_35_3.all (am_ok 11 false m_Main_feed.2.1) = true := by decide +kernel
def bk_Main_feed_43_3 : List am_E := [(43, .aload_n 0, 1, 0, 0), (44, .getfield 10, 3, 4401, 0), (47, .iload 4, 2, 0, 0)]
theorem bk_Main_feed_43_3_ok : bk_Main_feed_43_3.all (am_ok 11 false m_Main_feed.2.1) = true := by decide +kernel
def bk_Main_feed_52_3 : List am_E := [(52, .aload_n 0, 1, 0, 0), (53, .getfield 10, 3, 4401, 0), (56, .iload 5, 2, 0, 0)]
theorem bk_Main_feed_52_3_ok : bk_Main_feed_52_3.all (am_ok 11 false m_Main_feed.2.1) = true := by decide +kernel
def bk_Main_feed_61_3 : List am_E := [(61, .aload_n 0, 1, 0, 0), (62, .aload_n 0, 1, 0, 0), (63, .getfield 10, 3, 4401, 0)]
theorem bk_Main_feed_61_3_ok : bk_Main_feed_61_3.all (am_ok 11 false m_Main_feed.2.1) = true := by decide +kernel
def bk_Main_feed_12_2 : List am_E := [(12, .aload_n 0, 1, 0, 0), (13, .bipush 9, 2, 0, 9)]
theorem bk_Main_feed_12_2_ok : bk_Main_feed_12_2.all (am_ok 11 false m_Main_feed.2.1) = true := by decide +kernel
theorem dc_Main_feed_6 : decode m_Main_feed.2.1 6 = .ok (.invokevirtual 104, 3) := by decide +kernel
theorem dc_Main_feed_24 : decode m_Main_feed.2.1 24 = .ok (.invokevirtual 112, 3) := by decide +kernel
theorem dc_Main_feed_32 : decode m_Main_feed.2.1 32 = .ok (.invokevirtual 112, 3) := by decide +kernel
theorem dc_Main_feed_40 : decode m_Main_feed.2.1 40 = .ok (.invokevirtual 112, 3) := by decide +kernel
theorem dc_Main_feed_49 : decode m_Main_feed.2.1 49 = .ok (.invokevirtual 112, 3) := by decide +kernel
theorem dc_Main_feed_58 : decode m_Main_feed.2.1 58 = .ok (.invokevirtual 112, 3) := by decide +kernel
theorem dc_Main_feed_66 : decode m_Main_feed.2.1 66 = .ok (.invokevirtual 115, 3) := by decide +kernel
theorem dc_Main_feed_69 : decode m_Main_feed.2.1 69 = .ok (.invokevirtual 119, 3) := by decide +kernel
theorem dc_Main_feed_72 : decode m_Main_feed.2.1 72 = .ok (.ireturn, 1) := by decide +kernel
theorem dc_Main_feed_15 : decode m_Main_feed.2.1 15 = .ok (.invokevirtual 108, 3) := by decide +kernel
theorem dc_Main_feed_18 : decode m_Main_feed.2.1 18 = .ok (.ireturn, 1) := by decide +kernel
theorem dc_Main_feed_9 : decode m_Main_feed.2.1 9 = .ok (.ifCond .ne 10, 3) := by decide +kernel
set_option maxRecDepth 20000 in
theorem sg_Main_feed_0 {kc ks : Nat} (a0 : Nat) (x1 x2 x3 x4 x5 : Int32) (h : am_H) (Q : Option Value → am_H → Prop) (t : (am_tg h a0 = (11, 18) ∧ (∃ b1, am_P h a0 0 = some b1 ∧ (am_tg h b1 = (9, 4) ∧ (am_Ei m_Tape_hasRoomFor 0 0 [.ref b1, .int 20] h (fun r6 h5 => ((¬ r6 = 0 → (am_tg h5 a0 = (11, 18) ∧ (∃ b8, am_P h5 a0 0 = some b8 ∧ (am_tg h5 b8 = (9, 4) ∧ (am_Ew m_Tape_append 0 0 [.ref b8, .int x1] h5 (fun h12 => (am_tg h12 a0 = (11, 18) ∧ (∃ b13, am_P h12 a0 0 = some b13 ∧ (am_tg h12 b13 = (9, 4) ∧ (am_Ew m_Tape_append 0 0 [.ref b13, .int x2] h12 (fun h17 => (am_tg h17 a0 = (11, 18) ∧ (∃ b18, am_P h17 a0 0 = some b18 ∧ (am_tg h17 b18 = (9, 4) ∧ (am_Ew m_Tape_append 0 0 [.ref b18, .int x3] h17 (fun h22 => (am_tg h22 a0 = (11, 18) ∧ (∃ b23, am_P h22 a0 0 = some b23 ∧ (am_tg h22 b23 = (9, 4) ∧ (am_Ew m_Tape_append 0 0 [.ref b23, .int x4] h22 (fun h27 => (am_tg h27 a0 = (11, 18) ∧ (∃ b28, am_P h27 a0 0 = some b28 ∧ (am_tg h27 b28 = (9, 4) ∧ (am_Ew m_Tape_append 0 0 [.ref b28, .int x5] h27 (fun h32 => (am_tg h32 a0 = (11, 18) ∧ (∃ b33, am_P h32 a0 0 = some b33 ∧ (am_tg h32 b33 = (9, 4) ∧ (am_Ei m_Tape_size 0 0 [.ref b33] h32 (fun r38 h37 => (am_tg h37 a0 = (11, 18) ∧ (am_Ei m_Main_answer 0 0 [.ref a0, .int r38] h37 (fun r41 h40 => Q (some (.int r41)) h40)))))))))))))))))))))))))))))))))) ∧ (r6 = 0 → (am_tg h5 a0 = (11, 18) ∧ (am_Ei m_Main_refuse 0 0 [.ref a0, .int 9] h5 (fun r44 h43 => Q (some (.int r44)) h43))))))))))) : am_EI m_Main_feed kc ks 0 [.ref a0, .int x1, .int x2, .int x3, .int x4, .int x5] [] h Q := by
  refine am_blk_ok (c := 11) (ini := false) (by decide) rfl (fun q => by cases q) bk_Main_feed_0_3 _ 6 _ _ _ bk_Main_feed_0_3_ok rfl ?_
  show (am_tg h a0 = (11, 18) ∧ (∃ b1, am_P h a0 0 = some b1 ∧ am_EI m_Main_feed kc ks 6 [.ref a0, .int x1, .int x2, .int x3, .int x4, .int x5] [.int 20, .ref b1] h Q))
  obtain ⟨o2, b1, q3, t⟩ := t
  refine ⟨o2, b1, q3, ?_⟩
  obtain ⟨o4, t⟩ := t
  refine am_callV (M2 := m_Tape_hasRoomFor) (ci := 9) (a := b1) (kc := kc) (ks := ks) (k2c := 0) (k2s := 0) (as := []) [.int 20] dc_Main_feed_6 lk_11_104 im_Tape_hasRoomFor se_Tape_hasRoomFor lm_Tape_hasRoomFor np_Tape_hasRoomFor ⟨Nat.le_of_ble_eq_true rfl, Nat.le_of_ble_eq_true rfl⟩ (fun _ => Nat.le_of_ble_eq_true rfl) (by decide) rfl o4 (am_Ei.end (am_Ei.mono t (fun r6 h5 t => ?_)))
  refine am_if_ne (tgt := 19) dc_Main_feed_9 (by decide) (fun c7 => ?_) (fun c7 => ?_)
  · replace t := t.1 c7
    refine am_blk_ok (c := 11) (ini := false) (by decide) rfl (fun q => by cases q) bk_Main_feed_19_3 _ 24 _ _ _ bk_Main_feed_19_3_ok rfl ?_
    show (am_tg h5 a0 = (11, 18) ∧ (∃ b8, am_P h5 a0 0 = some b8 ∧ am_EI m_Main_feed kc ks 24 [.ref a0, .int x1, .int x2, .int x3, .int x4, .int x5] [.int x1, .ref b8] h5 Q))
    obtain ⟨o9, b8, q10, t⟩ := t
    refine ⟨o9, b8, q10, ?_⟩
    obtain ⟨o11, t⟩ := t
    refine am_callV (M2 := m_Tape_append) (ci := 9) (a := b8) (kc := kc) (ks := ks) (k2c := 0) (k2s := 0) (as := []) [.int x1] dc_Main_feed_24 lk_11_112 im_Tape_append se_Tape_append lm_Tape_append np_Tape_append ⟨Nat.le_of_ble_eq_true rfl, Nat.le_of_ble_eq_true rfl⟩ (fun _ => Nat.le_of_ble_eq_true rfl) (by decide) rfl o11 (am_Ew.end (am_Ew.mono t (fun h12 t => ?_)))
    refine am_blk_ok (c := 11) (ini := false) (by decide) rfl (fun q => by cases q) bk_Main_feed_27_3 _ 32 _ _ _ bk_Main_feed_27_3_ok rfl ?_
    show (am_tg h12 a0 = (11, 18) ∧ (∃ b13, am_P h12 a0 0 = some b13 ∧ am_EI m_Main_feed kc ks 32 [.ref a0, .int x1, .int x2, .int x3, .int x4, .int x5] [.int x2, .ref b13] h12 Q))
    obtain ⟨o14, b13, q15, t⟩ := t
    refine ⟨o14, b13, q15, ?_⟩
    obtain ⟨o16, t⟩ := t
    refine am_callV (M2 := m_Tape_append) (ci := 9) (a := b13) (kc := kc) (ks := ks) (k2c := 0) (k2s := 0) (as := []) [.int x2] dc_Main_feed_32 lk_11_112 im_Tape_append se_Tape_append lm_Tape_append np_Tape_append ⟨Nat.le_of_ble_eq_true rfl, Nat.le_of_ble_eq_true rfl⟩ (fun _ => Nat.le_of_ble_eq_true rfl) (by decide) rfl o16 (am_Ew.end (am_Ew.mono t (fun h17 t => ?_)))
    refine am_blk_ok (c := 11) (ini := false) (by decide) rfl (fun q => by cases q) bk_Main_feed_35_3 _ 40 _ _ _ bk_Main_feed_35_3_ok rfl ?_
    show (am_tg h17 a0 = (11, 18) ∧ (∃ b18, am_P h17 a0 0 = some b18 ∧ am_EI m_Main_feed kc ks 40 [.ref a0, .int x1, .int x2, .int x3, .int x4, .int x5] [.int x3, .ref b18] h17 Q))
    obtain ⟨o19, b18, q20, t⟩ := t
    refine ⟨o19, b18, q20, ?_⟩
    obtain ⟨o21, t⟩ := t
    refine am_callV (M2 := m_Tape_append) (ci := 9) (a := b18) (kc := kc) (ks := ks) (k2c := 0) (k2s := 0) (as := []) [.int x3] dc_Main_feed_40 lk_11_112 im_Tape_append se_Tape_append lm_Tape_append np_Tape_append ⟨Nat.le_of_ble_eq_true rfl, Nat.le_of_ble_eq_true rfl⟩ (fun _ => Nat.le_of_ble_eq_true rfl) (by decide) rfl o21 (am_Ew.end (am_Ew.mono t (fun h22 t => ?_)))
    refine am_blk_ok (c := 11) (ini := false) (by decide) rfl (fun q => by cases q) bk_Main_feed_43_3 _ 49 _ _ _ bk_Main_feed_43_3_ok rfl ?_
    show (am_tg h22 a0 = (11, 18) ∧ (∃ b23, am_P h22 a0 0 = some b23 ∧ am_EI m_Main_feed kc ks 49 [.ref a0, .int x1, .int x2, .int x3, .int x4, .int x5] [.int x4, .ref b23] h22 Q))
    obtain ⟨o24, b23, q25, t⟩ := t
    refine ⟨o24, b23, q25, ?_⟩
    obtain ⟨o26, t⟩ := t
    refine am_callV (M2 := m_Tape_append) (ci := 9) (a := b23) (kc := kc) (ks := ks) (k2c := 0) (k2s := 0) (as := []) [.int x4] dc_Main_feed_49 lk_11_112 im_Tape_append se_Tape_append lm_Tape_append np_Tape_append ⟨Nat.le_of_ble_eq_true rfl, Nat.le_of_ble_eq_true rfl⟩ (fun _ => Nat.le_of_ble_eq_true rfl) (by decide) rfl o26 (am_Ew.end (am_Ew.mono t (fun h27 t => ?_)))
    refine am_blk_ok (c := 11) (ini := false) (by decide) rfl (fun q => by cases q) bk_Main_feed_52_3 _ 58 _ _ _ bk_Main_feed_52_3_ok rfl ?_
    show (am_tg h27 a0 = (11, 18) ∧ (∃ b28, am_P h27 a0 0 = some b28 ∧ am_EI m_Main_feed kc ks 58 [.ref a0, .int x1, .int x2, .int x3, .int x4, .int x5] [.int x5, .ref b28] h27 Q))
    obtain ⟨o29, b28, q30, t⟩ := t
    refine ⟨o29, b28, q30, ?_⟩
    obtain ⟨o31, t⟩ := t
    refine am_callV (M2 := m_Tape_append) (ci := 9) (a := b28) (kc := kc) (ks := ks) (k2c := 0) (k2s := 0) (as := []) [.int x5] dc_Main_feed_58 lk_11_112 im_Tape_append se_Tape_append lm_Tape_append np_Tape_append ⟨Nat.le_of_ble_eq_true rfl, Nat.le_of_ble_eq_true rfl⟩ (fun _ => Nat.le_of_ble_eq_true rfl) (by decide) rfl o31 (am_Ew.end (am_Ew.mono t (fun h32 t => ?_)))
    refine am_blk_ok (c := 11) (ini := false) (by decide) rfl (fun q => by cases q) bk_Main_feed_61_3 _ 66 _ _ _ bk_Main_feed_61_3_ok rfl ?_
    show (am_tg h32 a0 = (11, 18) ∧ (∃ b33, am_P h32 a0 0 = some b33 ∧ am_EI m_Main_feed kc ks 66 [.ref a0, .int x1, .int x2, .int x3, .int x4, .int x5] [.ref b33, .ref a0] h32 Q))
    obtain ⟨o34, b33, q35, t⟩ := t
    refine ⟨o34, b33, q35, ?_⟩
    obtain ⟨o36, t⟩ := t
    refine am_callV (M2 := m_Tape_size) (ci := 9) (a := b33) (kc := kc) (ks := ks) (k2c := 0) (k2s := 0) (as := [.ref a0]) [] dc_Main_feed_66 lk_11_115 im_Tape_size se_Tape_size lm_Tape_size np_Tape_size ⟨Nat.le_of_ble_eq_true rfl, Nat.le_of_ble_eq_true rfl⟩ (fun _ => Nat.le_of_ble_eq_true rfl) (by decide) rfl o36 (am_Ei.end (am_Ei.mono t (fun r38 h37 t => ?_)))
    obtain ⟨o39, t⟩ := t
    refine am_callV (M2 := m_Main_answer) (ci := 11) (a := a0) (kc := kc) (ks := ks) (k2c := 0) (k2s := 0) (as := []) [.int r38] dc_Main_feed_69 lk_11_119 im_Main_answer se_Main_answer lm_Main_answer np_Main_answer ⟨Nat.le_of_ble_eq_true rfl, Nat.le_of_ble_eq_true rfl⟩ (fun _ => Nat.le_of_ble_eq_true rfl) (by decide) rfl o39 (am_Ei.end (am_Ei.mono t (fun r41 h40 t => ?_)))
    exact am_iret dc_Main_feed_72 rfl t
  · replace t := t.2 c7
    refine am_blk_ok (c := 11) (ini := false) (by decide) rfl (fun q => by cases q) bk_Main_feed_12_2 _ 15 _ _ _ bk_Main_feed_12_2_ok rfl ?_
    show am_EI m_Main_feed kc ks 15 [.ref a0, .int x1, .int x2, .int x3, .int x4, .int x5] [.int 9, .ref a0] h5 Q
    obtain ⟨o42, t⟩ := t
    refine am_callV (M2 := m_Main_refuse) (ci := 11) (a := a0) (kc := kc) (ks := ks) (k2c := 0) (k2s := 0) (as := []) [.int 9] dc_Main_feed_15 lk_11_108 im_Main_refuse se_Main_refuse lm_Main_refuse np_Main_refuse ⟨Nat.le_of_ble_eq_true rfl, Nat.le_of_ble_eq_true rfl⟩ (fun _ => Nat.le_of_ble_eq_true rfl) (by decide) rfl o42 (am_Ei.end (am_Ei.mono t (fun r44 h43 t => ?_)))
    exact am_iret dc_Main_feed_18 rfl t
set_option maxRecDepth 20000 in
theorem ev_Main_feed (a0 : Nat) (x1 x2 x3 x4 x5 : Int32) (h : am_H) (Q : Int32 → am_H → Prop) (t : (am_tg h a0 = (11, 18) ∧ (∃ b1, am_P h a0 0 = some b1 ∧ (am_tg h b1 = (9, 4) ∧ (am_Ei m_Tape_hasRoomFor 0 0 [.ref b1, .int 20] h (fun r6 h5 => ((¬ r6 = 0 → (am_tg h5 a0 = (11, 18) ∧ (∃ b8, am_P h5 a0 0 = some b8 ∧ (am_tg h5 b8 = (9, 4) ∧ (am_Ew m_Tape_append 0 0 [.ref b8, .int x1] h5 (fun h12 => (am_tg h12 a0 = (11, 18) ∧ (∃ b13, am_P h12 a0 0 = some b13 ∧ (am_tg h12 b13 = (9, 4) ∧ (am_Ew m_Tape_append 0 0 [.ref b13, .int x2] h12 (fun h17 => (am_tg h17 a0 = (11, 18) ∧ (∃ b18, am_P h17 a0 0 = some b18 ∧ (am_tg h17 b18 = (9, 4) ∧ (am_Ew m_Tape_append 0 0 [.ref b18, .int x3] h17 (fun h22 => (am_tg h22 a0 = (11, 18) ∧ (∃ b23, am_P h22 a0 0 = some b23 ∧ (am_tg h22 b23 = (9, 4) ∧ (am_Ew m_Tape_append 0 0 [.ref b23, .int x4] h22 (fun h27 => (am_tg h27 a0 = (11, 18) ∧ (∃ b28, am_P h27 a0 0 = some b28 ∧ (am_tg h27 b28 = (9, 4) ∧ (am_Ew m_Tape_append 0 0 [.ref b28, .int x5] h27 (fun h32 => (am_tg h32 a0 = (11, 18) ∧ (∃ b33, am_P h32 a0 0 = some b33 ∧ (am_tg h32 b33 = (9, 4) ∧ (am_Ei m_Tape_size 0 0 [.ref b33] h32 (fun r38 h37 => (am_tg h37 a0 = (11, 18) ∧ (am_Ei m_Main_answer 0 0 [.ref a0, .int r38] h37 (fun r41 h40 => Q r41 h40)))))))))))))))))))))))))))))))))) ∧ (r6 = 0 → (am_tg h5 a0 = (11, 18) ∧ (am_Ei m_Main_refuse 0 0 [.ref a0, .int 9] h5 (fun r44 h43 => Q r44 h43))))))))))) : am_Ei m_Main_feed 0 0 [.ref a0, .int x1, .int x2, .int x3, .int x4, .int x5] h Q :=
  am_Ev.of (by decide +kernel) (Nat.le_of_ble_eq_true rfl) (by simp only [List.mem_cons, List.not_mem_nil, or_false]; intro v hv; rcases hv with rfl | rfl | rfl | rfl | rfl | rfl; all_goals first | exact trivial) (sg_Main_feed_0 (kc := 0) (ks := 0) a0 x1 x2 x3 x4 x5 h (am_qi Q) t)
def bk_Main_findWindows_0_2 : List am_E := [(0, .aload_n 0, 1, 0, 0), (1, .iload_n 1, 1, 0, 0)]
theorem bk_Main_findWindows_0_2_ok : bk_Main_findWindows_0_2.all (am_ok 11 false m_Main_findWindows.2.1) = true := by decide +kernel
def bk_Main_findWindows_5_3 : List am_E := [(5, .astore_n 3, 1, 0, 0), (6, .aload_n 0, 1, 0, 0), (7, .iload_n 2, 1, 0, 0)]
theorem bk_Main_findWindows_5_3_ok : bk_Main_findWindows_5_3.all (am_ok 11 false m_Main_findWindows.2.1) = true := by decide +kernel
def bk_Main_findWindows_11_2 : List am_E := [(11, .astore 4, 2, 0, 0), (13, .aload_n 3, 1, 0, 0)]
theorem bk_Main_findWindows_11_2_ok : bk_Main_findWindows_11_2.all (am_ok 11 false m_Main_findWindows.2.1) = true := by decide +kernel
def bk_Main_findWindows_22_1 : List am_E := [(22, .iconst 0, 1, 0, 0)]
theorem bk_Main_findWindows_22_1_ok : bk_Main_findWindows_22_1.all (am_ok 11 false m_Main_findWindows.2.1) = true := by decide +kernel
def bk_Main_findWindows_17_1 : List am_E := [(17, .aload 4, 2, 0, 0)]
theorem bk_Main_findWindows_17_1_ok : bk_Main_findWindows_17_1.all (am_ok 11 false m_Main_findWindows.2.1) = true := by decide +kernel
def bk_Main_findWindows_24_4 : List am_E := [(24, .aload_n 0, 1, 0, 0), (25, .getfield 57, 3, 4429, 0), (28, .aload_n 3, 1, 0, 0), (29, .aload 4, 2, 0, 0)]
theorem bk_Main_findWindows_24_4_ok : bk_Main_findWindows_24_4.all (am_ok 11 false m_Main_findWindows.2.1) = true := by decide +kernel
def bk_Main_findWindows_34_1 : List am_E := [(34, .iconst 1, 1, 0, 1)]
theorem bk_Main_findWindows_34_1_ok : bk_Main_findWindows_34_1.all (am_ok 11 false m_Main_findWindows.2.1) = true := by decide +kernel
theorem dc_Main_findWindows_2 : decode m_Main_findWindows.2.1 2 = .ok (.invokevirtual 182, 3) := by decide +kernel
theorem dc_Main_findWindows_8 : decode m_Main_findWindows.2.1 8 = .ok (.invokevirtual 250, 3) := by decide +kernel
theorem dc_Main_findWindows_14 : decode m_Main_findWindows.2.1 14 = .ok (.ifnull 8, 3) := by decide +kernel
theorem dc_Main_findWindows_23 : decode m_Main_findWindows.2.1 23 = .ok (.ireturn, 1) := by decide +kernel
theorem dc_Main_findWindows_19 : decode m_Main_findWindows.2.1 19 = .ok (.ifnonnull 5, 3) := by decide +kernel
theorem dc_Main_findWindows_31 : decode m_Main_findWindows.2.1 31 = .ok (.invokevirtual 318, 3) := by decide +kernel
theorem dc_Main_findWindows_35 : decode m_Main_findWindows.2.1 35 = .ok (.ireturn, 1) := by decide +kernel
set_option maxRecDepth 20000 in
theorem sg_Main_findWindows_0 {kc ks : Nat} (a0 : Nat) (x1 x2 : Int32) (h : am_H) (Q : Option Value → am_H → Prop) (t : (am_tg h a0 = (11, 18) ∧ (am_Er m_Main_sillAt 0 0 [.ref a0, .int x1] h (fun r3 h2 => (r3 = none → (am_tg h2 a0 = (11, 18) ∧ (am_Er m_Main_shipAt 0 0 [.ref a0, .int x2] h2 (fun r8 h7 => (r8 = none → Q (some (.int 0)) h7) ∧ ∀ b9, r8 = some b9 → Q (some (.int 0)) h7)))) ∧ ∀ b4, r3 = some b4 → (am_tg h2 a0 = (11, 18) ∧ (am_Er m_Main_shipAt 0 0 [.ref a0, .int x2] h2 (fun r13 h12 => (r13 = none → Q (some (.int 0)) h12) ∧ ∀ b14, r13 = some b14 → (am_tg h12 a0 = (11, 18) ∧ (∃ b16, am_P h12 a0 7 = some b16 ∧ (am_tg h12 b16 = (10, 4) ∧ (am_Ew m_Windows_find 0 0 [.ref b16, .ref b4, .ref b14] h12 (fun h20 => Q (some (.int 1)) h20)))))))))))) : am_EI m_Main_findWindows kc ks 0 [.ref a0, .int x1, .int x2, .float 0, .float 0] [] h Q := by
  refine am_blk_ok (c := 11) (ini := false) (by decide) rfl (fun q => by cases q) bk_Main_findWindows_0_2 _ 2 _ _ _ bk_Main_findWindows_0_2_ok rfl ?_
  show am_EI m_Main_findWindows kc ks 2 [.ref a0, .int x1, .int x2, .float 0, .float 0] [.int x1, .ref a0] h Q
  obtain ⟨o1, t⟩ := t
  refine am_callV (M2 := m_Main_sillAt) (ci := 11) (a := a0) (kc := kc) (ks := ks) (k2c := 0) (k2s := 0) (as := []) [.int x1] dc_Main_findWindows_2 lk_11_182 im_Main_sillAt se_Main_sillAt lm_Main_sillAt np_Main_sillAt ⟨Nat.le_of_ble_eq_true rfl, Nat.le_of_ble_eq_true rfl⟩ (fun _ => Nat.le_of_ble_eq_true rfl) (by decide) rfl o1 (am_Er.end (am_Er.mono t (fun r3 h2 t => ⟨fun c5 => ?_, fun b4 c5 => ?_⟩)))
  · replace t := t.1 c5
    refine am_blk_ok (c := 11) (ini := false) (by decide) rfl (fun q => by cases q) bk_Main_findWindows_5_3 _ 8 _ _ _ bk_Main_findWindows_5_3_ok rfl ?_
    show am_EI m_Main_findWindows kc ks 8 [.ref a0, .int x1, .int x2, .null, .float 0] [.int x2, .ref a0] h2 Q
    obtain ⟨o6, t⟩ := t
    refine am_callV (M2 := m_Main_shipAt) (ci := 11) (a := a0) (kc := kc) (ks := ks) (k2c := 0) (k2s := 0) (as := []) [.int x2] dc_Main_findWindows_8 lk_11_250 im_Main_shipAt se_Main_shipAt lm_Main_shipAt np_Main_shipAt ⟨Nat.le_of_ble_eq_true rfl, Nat.le_of_ble_eq_true rfl⟩ (fun _ => Nat.le_of_ble_eq_true rfl) (by decide) rfl o6 (am_Er.end (am_Er.mono t (fun r8 h7 t => ⟨fun c10 => ?_, fun b9 c10 => ?_⟩)))
    · replace t := t.1 c10
      refine am_blk_ok (c := 11) (ini := false) (by decide) rfl (fun q => by cases q) bk_Main_findWindows_11_2 _ 14 _ _ _ bk_Main_findWindows_11_2_ok rfl ?_
      show am_EI m_Main_findWindows kc ks 14 [.ref a0, .int x1, .int x2, .null, .null] [.null] h7 Q
      refine am_ifnullN (tgt := 22) dc_Main_findWindows_14 (by decide) ?_
      refine am_blk_ok (c := 11) (ini := false) (by decide) rfl (fun q => by cases q) bk_Main_findWindows_22_1 _ 23 _ _ _ bk_Main_findWindows_22_1_ok rfl ?_
      show am_EI m_Main_findWindows kc ks 23 [.ref a0, .int x1, .int x2, .null, .null] [.int 0] h7 Q
      exact am_zret dc_Main_findWindows_23 rfl (Or.inl rfl) t
    · replace t := t.2 b9 c10
      refine am_blk_ok (c := 11) (ini := false) (by decide) rfl (fun q => by cases q) bk_Main_findWindows_11_2 _ 14 _ _ _ bk_Main_findWindows_11_2_ok rfl ?_
      show am_EI m_Main_findWindows kc ks 14 [.ref a0, .int x1, .int x2, .null, .ref b9] [.null] h7 Q
      refine am_ifnullN (tgt := 22) dc_Main_findWindows_14 (by decide) ?_
      refine am_blk_ok (c := 11) (ini := false) (by decide) rfl (fun q => by cases q) bk_Main_findWindows_22_1 _ 23 _ _ _ bk_Main_findWindows_22_1_ok rfl ?_
      show am_EI m_Main_findWindows kc ks 23 [.ref a0, .int x1, .int x2, .null, .ref b9] [.int 0] h7 Q
      exact am_zret dc_Main_findWindows_23 rfl (Or.inl rfl) t
  · replace t := t.2 b4 c5
    refine am_blk_ok (c := 11) (ini := false) (by decide) rfl (fun q => by cases q) bk_Main_findWindows_5_3 _ 8 _ _ _ bk_Main_findWindows_5_3_ok rfl ?_
    show am_EI m_Main_findWindows kc ks 8 [.ref a0, .int x1, .int x2, .ref b4, .float 0] [.int x2, .ref a0] h2 Q
    obtain ⟨o11, t⟩ := t
    refine am_callV (M2 := m_Main_shipAt) (ci := 11) (a := a0) (kc := kc) (ks := ks) (k2c := 0) (k2s := 0) (as := []) [.int x2] dc_Main_findWindows_8 lk_11_250 im_Main_shipAt se_Main_shipAt lm_Main_shipAt np_Main_shipAt ⟨Nat.le_of_ble_eq_true rfl, Nat.le_of_ble_eq_true rfl⟩ (fun _ => Nat.le_of_ble_eq_true rfl) (by decide) rfl o11 (am_Er.end (am_Er.mono t (fun r13 h12 t => ⟨fun c15 => ?_, fun b14 c15 => ?_⟩)))
    · replace t := t.1 c15
      refine am_blk_ok (c := 11) (ini := false) (by decide) rfl (fun q => by cases q) bk_Main_findWindows_11_2 _ 14 _ _ _ bk_Main_findWindows_11_2_ok rfl ?_
      show am_EI m_Main_findWindows kc ks 14 [.ref a0, .int x1, .int x2, .ref b4, .null] [.ref b4] h12 Q
      refine am_ifnull dc_Main_findWindows_14 ?_
      refine am_blk_ok (c := 11) (ini := false) (by decide) rfl (fun q => by cases q) bk_Main_findWindows_17_1 _ 19 _ _ _ bk_Main_findWindows_17_1_ok rfl ?_
      show am_EI m_Main_findWindows kc ks 19 [.ref a0, .int x1, .int x2, .ref b4, .null] [.null] h12 Q
      refine am_ifnonnullN dc_Main_findWindows_19 ?_
      refine am_blk_ok (c := 11) (ini := false) (by decide) rfl (fun q => by cases q) bk_Main_findWindows_22_1 _ 23 _ _ _ bk_Main_findWindows_22_1_ok rfl ?_
      show am_EI m_Main_findWindows kc ks 23 [.ref a0, .int x1, .int x2, .ref b4, .null] [.int 0] h12 Q
      exact am_zret dc_Main_findWindows_23 rfl (Or.inl rfl) t
    · replace t := t.2 b14 c15
      refine am_blk_ok (c := 11) (ini := false) (by decide) rfl (fun q => by cases q) bk_Main_findWindows_11_2 _ 14 _ _ _ bk_Main_findWindows_11_2_ok rfl ?_
      show am_EI m_Main_findWindows kc ks 14 [.ref a0, .int x1, .int x2, .ref b4, .ref b14] [.ref b4] h12 Q
      refine am_ifnull dc_Main_findWindows_14 ?_
      refine am_blk_ok (c := 11) (ini := false) (by decide) rfl (fun q => by cases q) bk_Main_findWindows_17_1 _ 19 _ _ _ bk_Main_findWindows_17_1_ok rfl ?_
      show am_EI m_Main_findWindows kc ks 19 [.ref a0, .int x1, .int x2, .ref b4, .ref b14] [.ref b14] h12 Q
      refine am_ifnonnull (tgt := 24) dc_Main_findWindows_19 (by decide) ?_
      refine am_blk_ok (c := 11) (ini := false) (by decide) rfl (fun q => by cases q) bk_Main_findWindows_24_4 _ 31 _ _ _ bk_Main_findWindows_24_4_ok rfl ?_
      show (am_tg h12 a0 = (11, 18) ∧ (∃ b16, am_P h12 a0 7 = some b16 ∧ am_EI m_Main_findWindows kc ks 31 [.ref a0, .int x1, .int x2, .ref b4, .ref b14] [.ref b14, .ref b4, .ref b16] h12 Q))
      obtain ⟨o17, b16, q18, t⟩ := t
      refine ⟨o17, b16, q18, ?_⟩
      obtain ⟨o19, t⟩ := t
      refine am_callV (M2 := m_Windows_find) (ci := 10) (a := b16) (kc := kc) (ks := ks) (k2c := 0) (k2s := 0) (as := []) [.ref b4, .ref b14] dc_Main_findWindows_31 lk_11_318 im_Windows_find se_Windows_find lm_Windows_find np_Windows_find ⟨Nat.le_of_ble_eq_true rfl, Nat.le_of_ble_eq_true rfl⟩ (fun _ => Nat.le_of_ble_eq_true rfl) (by decide) rfl o19 (am_Ew.end (am_Ew.mono t (fun h20 t => ?_)))
      refine am_blk_ok (c := 11) (ini := false) (by decide) rfl (fun q => by cases q) bk_Main_findWindows_34_1 _ 35 _ _ _ bk_Main_findWindows_34_1_ok rfl ?_
      show am_EI m_Main_findWindows kc ks 35 [.ref a0, .int x1, .int x2, .ref b4, .ref b14] [.int 1] h20 Q
      exact am_zret dc_Main_findWindows_35 rfl (Or.inr rfl) t
set_option maxRecDepth 20000 in
theorem ev_Main_findWindows (a0 : Nat) (x1 x2 : Int32) (h : am_H) (Q : Int32 → am_H → Prop) (t : (am_tg h a0 = (11, 18) ∧ (am_Er m_Main_sillAt 0 0 [.ref a0, .int x1] h (fun r3 h2 => (r3 = none → (am_tg h2 a0 = (11, 18) ∧ (am_Er m_Main_shipAt 0 0 [.ref a0, .int x2] h2 (fun r8 h7 => (r8 = none → Q 0 h7) ∧ ∀ b9, r8 = some b9 → Q 0 h7)))) ∧ ∀ b4, r3 = some b4 → (am_tg h2 a0 = (11, 18) ∧ (am_Er m_Main_shipAt 0 0 [.ref a0, .int x2] h2 (fun r13 h12 => (r13 = none → Q 0 h12) ∧ ∀ b14, r13 = some b14 → (am_tg h12 a0 = (11, 18) ∧ (∃ b16, am_P h12 a0 7 = some b16 ∧ (am_tg h12 b16 = (10, 4) ∧ (am_Ew m_Windows_find 0 0 [.ref b16, .ref b4, .ref b14] h12 (fun h20 => Q 1 h20)))))))))))) : am_Ei m_Main_findWindows 0 0 [.ref a0, .int x1, .int x2] h Q :=
  am_Ev.of (by decide +kernel) (Nat.le_of_ble_eq_true rfl) (by simp only [List.mem_cons, List.not_mem_nil, or_false]; intro v hv; rcases hv with rfl | rfl | rfl; all_goals first | exact trivial) (sg_Main_findWindows_0 (kc := 0) (ks := 0) a0 x1 x2 h (am_qi Q) t)
def bk_Main_firstMinuteWhere_0_2 : List am_E := [(0, .aload_n 0, 1, 0, 0), (1, .iload_n 2, 1, 0, 0)]
theorem bk_Main_firstMinuteWhere_0_2_ok : bk_Main_firstMinuteWhere_0_2.all (am_ok 11 false m_Main_firstMinuteWhere.2.1) = true := by decide +kernel
def bk_Main_firstMinuteWhere_5_2 : List am_E := [(5, .astore 5, 2, 0, 0), (7, .aload 5, 2, 0, 0)]
theorem bk_Main_firstMinuteWhere_5_2_ok : bk_Main_firstMinuteWhere_5_2.all (am_ok 11 false m_Main_firstMinuteWhere.2.1) = true := by decide +kernel
def bk_Main_firstMinuteWhere_12_2 : List am_E := [(12, .aload_n 0, 1, 0, 0), (13, .iconst 1, 1, 0, 1)]
theorem bk_Main_firstMinuteWhere_12_2_ok : bk_Main_firstMinuteWhere_12_2.all (am_ok 11 false m_Main_firstMinuteWhere.2.1) = true := by decide +kernel
def bk_Main_firstMinuteWhere_18_1 : List am_E := [(18, .iload_n 3, 1, 0, 0)]
theorem bk_Main_firstMinuteWhere_18_1_ok : bk_Main_firstMinuteWhere_18_1.all (am_ok 11 false m_Main_firstMinuteWhere.2.1) = true := by decide +kernel
def bk_Main_firstMinuteWhere_31_5 : List am_E := [(31, .aload 5, 2, 0, 0), (33, .iload_n 1, 1, 0, 0), (34, .iload_n 3, 1, 0, 0), (35, .aload_n 0, 1, 0, 0), (36, .getfield 64, 3, 4433, 0)]
theorem bk_Main_firstMinuteWhere_31_5_ok : bk_Main_firstMinuteWhere_31_5.all (am_ok 11 false m_Main_firstMinuteWhere.2.1) = true := by decide +kernel
def bk_Main_firstMinuteWhere_42_3 : List am_E := [(42, .aload_n 0, 1, 0, 0), (43, .getfield 64, 3, 4433, 0), (46, .iload 4, 2, 0, 0)]
theorem bk_Main_firstMinuteWhere_42_3_ok : bk_Main_firstMinuteWhere_42_3.all (am_ok 11 false m_Main_firstMinuteWhere.2.1) = true := by decide +kernel
def bk_Main_firstMinuteWhere_51_4 : List am_E := [(51, .istore 6, 2, 0, 0), (53, .aload_n 0, 1, 0, 0), (54, .iload 6, 2, 0, 0), (56, .ldc_w 278, 3, 0, -2147483648)]
theorem bk_Main_firstMinuteWhere_51_4_ok : bk_Main_firstMinuteWhere_51_4.all (am_ok 11 false m_Main_firstMinuteWhere.2.1) = true := by decide +kernel
def bk_Main_firstMinuteWhere_66_1 : List am_E := [(66, .iload 6, 2, 0, 0)]
theorem bk_Main_firstMinuteWhere_66_1_ok : bk_Main_firstMinuteWhere_66_1.all (am_ok 11 false m_Main_firstMinuteWhere.2.1) = true := by decide +kernel
def bk_Main_firstMinuteWhere_62_2 : List am_E := [(62, .iconst (-1), 1, 0, -1), (63, .goto 5, 3, 0, 5)]
theorem bk_Main_firstMinuteWhere_62_2_ok : bk_Main_firstMinuteWhere_62_2.all (am_ok 11 false m_Main_firstMinuteWhere.2.1) = true := by decide +kernel
def bk_Main_firstMinuteWhere_25_2 : List am_E := [(25, .aload_n 0, 1, 0, 0), (26, .iconst 3, 1, 0, 3)]
theorem bk_Main_firstMinuteWhere_25_2_ok : bk_Main_firstMinuteWhere_25_2.all (am_ok 11 false m_Main_firstMinuteWhere.2.1) = true := by decide +kernel
theorem dc_Main_firstMinuteWhere_2 : decode m_Main_firstMinuteWhere.2.1 2 = .ok (.invokevirtual 129, 3) := by decide +kernel
theorem dc_Main_firstMinuteWhere_9 : decode m_Main_firstMinuteWhere.2.1 9 = .ok (.ifnonnull 9, 3) := by decide +kernel
theorem dc_Main_firstMinuteWhere_14 : decode m_Main_firstMinuteWhere.2.1 14 = .ok (.invokevirtual 108, 3) := by decide +kernel
theorem dc_Main_firstMinuteWhere_17 : decode m_Main_firstMinuteWhere.2.1 17 = .ok (.ireturn, 1) := by decide +kernel
theorem dc_Main_firstMinuteWhere_19 : decode m_Main_firstMinuteWhere.2.1 19 = .ok (.invokestatic 208, 3) := by decide +kernel
theorem dc_Main_firstMinuteWhere_39 : decode m_Main_firstMinuteWhere.2.1 39 = .ok (.invokevirtual 311, 3) := by decide +kernel
theorem dc_Main_firstMinuteWhere_48 : decode m_Main_firstMinuteWhere.2.1 48 = .ok (.invokevirtual 315, 3) := by decide +kernel
theorem dc_Main_firstMinuteWhere_68 : decode m_Main_firstMinuteWhere.2.1 68 = .ok (.invokevirtual 119, 3) := by decide +kernel
theorem dc_Main_firstMinuteWhere_71 : decode m_Main_firstMinuteWhere.2.1 71 = .ok (.ireturn, 1) := by decide +kernel
theorem dc_Main_firstMinuteWhere_59 : decode m_Main_firstMinuteWhere.2.1 59 = .ok (.if_icmp .ne 7, 3) := by decide +kernel
theorem dc_Main_firstMinuteWhere_27 : decode m_Main_firstMinuteWhere.2.1 27 = .ok (.invokevirtual 108, 3) := by decide +kernel
theorem dc_Main_firstMinuteWhere_30 : decode m_Main_firstMinuteWhere.2.1 30 = .ok (.ireturn, 1) := by decide +kernel
theorem dc_Main_firstMinuteWhere_22 : decode m_Main_firstMinuteWhere.2.1 22 = .ok (.ifCond .ne 9, 3) := by decide +kernel
set_option maxRecDepth 20000 in
theorem sg_Main_firstMinuteWhere_0 {kc ks : Nat} (a0 : Nat) (x1 x2 x3 x4 : Int32) (h : am_H) (Q : Option Value → am_H → Prop) (t : (am_tg h a0 = (11, 18) ∧ (am_Er m_Main_portAt 0 0 [.ref a0, .int x2] h (fun r3 h2 => (r3 = none → (am_tg h2 a0 = (11, 18) ∧ (am_Ei m_Main_refuse 0 0 [.ref a0, .int 1] h2 (fun r8 h7 => Q (some (.int r8)) h7)))) ∧ ∀ b4, r3 = some b4 → (am_Ei m_Main_isHeightToAsk 0 0 [.int x3] h2 (fun r10 h9 => ((¬ r10 = 0 → (am_tg h9 a0 = (11, 18) ∧ (∃ b12, am_P h9 a0 8 = some b12 ∧ (am_tg h9 b4 = (2, 5) ∧ (am_Ew m_Port_collect 0 0 [.ref b4, .int x1, .int x3, .ref b12] h9 (fun h16 => (am_tg h16 a0 = (11, 18) ∧ (∃ b17, am_P h16 a0 8 = some b17 ∧ (am_tg h16 b17 = (8, 4) ∧ (am_Ei m_Spans_earliestFrom 0 0 [.ref b17, .int x4] h16 (fun r22 h21 => ((¬ r22 = (-2147483648) → (am_tg h21 a0 = (11, 18) ∧ (am_Ei m_Main_answer 0 0 [.ref a0, .int r22] h21 (fun r26 h25 => Q (some (.int r26)) h25)))) ∧ (r22 = (-2147483648) → (am_tg h21 a0 = (11, 18) ∧ (am_Ei m_Main_answer 0 0 [.ref a0, .int (-1)] h21 (fun r29 h28 => Q (some (.int r29)) h28)))))))))))))))) ∧ (r10 = 0 → (am_tg h9 a0 = (11, 18) ∧ (am_Ei m_Main_refuse 0 0 [.ref a0, .int 3] h9 (fun r32 h31 => Q (some (.int r32)) h31))))))))))) : am_EI m_Main_firstMinuteWhere kc ks 0 [.ref a0, .int x1, .int x2, .int x3, .int x4, .float 0, .float 0] [] h Q := by
  refine am_blk_ok (c := 11) (ini := false) (by decide) rfl (fun q => by cases q) bk_Main_firstMinuteWhere_0_2 _ 2 _ _ _ bk_Main_firstMinuteWhere_0_2_ok rfl ?_
  show am_EI m_Main_firstMinuteWhere kc ks 2 [.ref a0, .int x1, .int x2, .int x3, .int x4, .float 0, .float 0] [.int x2, .ref a0] h Q
  obtain ⟨o1, t⟩ := t
  refine am_callV (M2 := m_Main_portAt) (ci := 11) (a := a0) (kc := kc) (ks := ks) (k2c := 0) (k2s := 0) (as := []) [.int x2] dc_Main_firstMinuteWhere_2 lk_11_129 im_Main_portAt se_Main_portAt lm_Main_portAt np_Main_portAt ⟨Nat.le_of_ble_eq_true rfl, Nat.le_of_ble_eq_true rfl⟩ (fun _ => Nat.le_of_ble_eq_true rfl) (by decide) rfl o1 (am_Er.end (am_Er.mono t (fun r3 h2 t => ⟨fun c5 => ?_, fun b4 c5 => ?_⟩)))
  · replace t := t.1 c5
    refine am_blk_ok (c := 11) (ini := false) (by decide) rfl (fun q => by cases q) bk_Main_firstMinuteWhere_5_2 _ 9 _ _ _ bk_Main_firstMinuteWhere_5_2_ok rfl ?_
    show am_EI m_Main_firstMinuteWhere kc ks 9 [.ref a0, .int x1, .int x2, .int x3, .int x4, .null, .float 0] [.null] h2 Q
    refine am_ifnonnullN dc_Main_firstMinuteWhere_9 ?_
    refine am_blk_ok (c := 11) (ini := false) (by decide) rfl (fun q => by cases q) bk_Main_firstMinuteWhere_12_2 _ 14 _ _ _ bk_Main_firstMinuteWhere_12_2_ok rfl ?_
    show am_EI m_Main_firstMinuteWhere kc ks 14 [.ref a0, .int x1, .int x2, .int x3, .int x4, .null, .float 0] [.int 1, .ref a0] h2 Q
    obtain ⟨o6, t⟩ := t
    refine am_callV (M2 := m_Main_refuse) (ci := 11) (a := a0) (kc := kc) (ks := ks) (k2c := 0) (k2s := 0) (as := []) [.int 1] dc_Main_firstMinuteWhere_14 lk_11_108 im_Main_refuse se_Main_refuse lm_Main_refuse np_Main_refuse ⟨Nat.le_of_ble_eq_true rfl, Nat.le_of_ble_eq_true rfl⟩ (fun _ => Nat.le_of_ble_eq_true rfl) (by decide) rfl o6 (am_Ei.end (am_Ei.mono t (fun r8 h7 t => ?_)))
    exact am_iret dc_Main_firstMinuteWhere_17 rfl t
  · replace t := t.2 b4 c5
    refine am_blk_ok (c := 11) (ini := false) (by decide) rfl (fun q => by cases q) bk_Main_firstMinuteWhere_5_2 _ 9 _ _ _ bk_Main_firstMinuteWhere_5_2_ok rfl ?_
    show am_EI m_Main_firstMinuteWhere kc ks 9 [.ref a0, .int x1, .int x2, .int x3, .int x4, .ref b4, .float 0] [.ref b4] h2 Q
    refine am_ifnonnull (tgt := 18) dc_Main_firstMinuteWhere_9 (by decide) ?_
    refine am_blk_ok (c := 11) (ini := false) (by decide) rfl (fun q => by cases q) bk_Main_firstMinuteWhere_18_1 _ 19 _ _ _ bk_Main_firstMinuteWhere_18_1_ok rfl ?_
    show am_EI m_Main_firstMinuteWhere kc ks 19 [.ref a0, .int x1, .int x2, .int x3, .int x4, .ref b4, .float 0] [.int x3] h2 Q
    refine am_callS (M2 := m_Main_isHeightToAsk) (kc := kc) (ks := ks) (k2c := 0) (k2s := 0) (as := []) [.int x3] dc_Main_firstMinuteWhere_19 lk_11_208 st_Main_isHeightToAsk lm_Main_isHeightToAsk np_Main_isHeightToAsk ⟨Nat.le_of_ble_eq_true rfl, Nat.le_of_ble_eq_true rfl⟩ (fun _ => Nat.le_of_ble_eq_true rfl) (am_Ei.end (am_Ei.mono t (fun r10 h9 t => ?_)))
    refine am_if_ne (tgt := 31) dc_Main_firstMinuteWhere_22 (by decide) (fun c11 => ?_) (fun c11 => ?_)
    · replace t := t.1 c11
      refine am_blk_ok (c := 11) (ini := false) (by decide) rfl (fun q => by cases q) bk_Main_firstMinuteWhere_31_5 _ 39 _ _ _ bk_Main_firstMinuteWhere_31_5_ok rfl ?_
      show (am_tg h9 a0 = (11, 18) ∧ (∃ b12, am_P h9 a0 8 = some b12 ∧ am_EI m_Main_firstMinuteWhere kc ks 39 [.ref a0, .int x1, .int x2, .int x3, .int x4, .ref b4, .float 0] [.ref b12, .int x3, .int x1, .ref b4] h9 Q))
      obtain ⟨o13, b12, q14, t⟩ := t
      refine ⟨o13, b12, q14, ?_⟩
      obtain ⟨o15, t⟩ := t
      refine am_callV (M2 := m_Port_collect) (ci := 2) (a := b4) (kc := kc) (ks := ks) (k2c := 0) (k2s := 0) (as := []) [.int x1, .int x3, .ref b12] dc_Main_firstMinuteWhere_39 lk_11_311 im_Port_collect se_Port_collect lm_Port_collect np_Port_collect ⟨Nat.le_of_ble_eq_true rfl, Nat.le_of_ble_eq_true rfl⟩ (fun _ => Nat.le_of_ble_eq_true rfl) (by decide) rfl o15 (am_Ew.end (am_Ew.mono t (fun h16 t => ?_)))
      refine am_blk_ok (c := 11) (ini := false) (by decide) rfl (fun q => by cases q) bk_Main_firstMinuteWhere_42_3 _ 48 _ _ _ bk_Main_firstMinuteWhere_42_3_ok rfl ?_
      show (am_tg h16 a0 = (11, 18) ∧ (∃ b17, am_P h16 a0 8 = some b17 ∧ am_EI m_Main_firstMinuteWhere kc ks 48 [.ref a0, .int x1, .int x2, .int x3, .int x4, .ref b4, .float 0] [.int x4, .ref b17] h16 Q))
      obtain ⟨o18, b17, q19, t⟩ := t
      refine ⟨o18, b17, q19, ?_⟩
      obtain ⟨o20, t⟩ := t
      refine am_callV (M2 := m_Spans_earliestFrom) (ci := 8) (a := b17) (kc := kc) (ks := ks) (k2c := 0) (k2s := 0) (as := []) [.int x4] dc_Main_firstMinuteWhere_48 lk_11_315 im_Spans_earliestFrom se_Spans_earliestFrom lm_Spans_earliestFrom np_Spans_earliestFrom ⟨Nat.le_of_ble_eq_true rfl, Nat.le_of_ble_eq_true rfl⟩ (fun _ => Nat.le_of_ble_eq_true rfl) (by decide) rfl o20 (am_Ei.end (am_Ei.mono t (fun r22 h21 t => ?_)))
      refine am_blk_ok (c := 11) (ini := false) (by decide) rfl (fun q => by cases q) bk_Main_firstMinuteWhere_51_4 _ 59 _ _ _ bk_Main_firstMinuteWhere_51_4_ok rfl ?_
      show am_EI m_Main_firstMinuteWhere kc ks 59 [.ref a0, .int x1, .int x2, .int x3, .int x4, .ref b4, .int r22] [.int (-2147483648), .int r22, .ref a0] h21 Q
      refine am_ic_ne (tgt := 66) dc_Main_firstMinuteWhere_59 (by decide) (fun c23 => ?_) (fun c23 => ?_)
      · replace t := t.1 c23
        refine am_blk_ok (c := 11) (ini := false) (by decide) rfl (fun q => by cases q) bk_Main_firstMinuteWhere_66_1 _ 68 _ _ _ bk_Main_firstMinuteWhere_66_1_ok rfl ?_
        show am_EI m_Main_firstMinuteWhere kc ks 68 [.ref a0, .int x1, .int x2, .int x3, .int x4, .ref b4, .int r22] [.int r22, .ref a0] h21 Q
        obtain ⟨o24, t⟩ := t
        refine am_callV (M2 := m_Main_answer) (ci := 11) (a := a0) (kc := kc) (ks := ks) (k2c := 0) (k2s := 0) (as := []) [.int r22] dc_Main_firstMinuteWhere_68 lk_11_119 im_Main_answer se_Main_answer lm_Main_answer np_Main_answer ⟨Nat.le_of_ble_eq_true rfl, Nat.le_of_ble_eq_true rfl⟩ (fun _ => Nat.le_of_ble_eq_true rfl) (by decide) rfl o24 (am_Ei.end (am_Ei.mono t (fun r26 h25 t => ?_)))
        exact am_iret dc_Main_firstMinuteWhere_71 rfl t
      · replace t := t.2 c23
        refine am_blk_ok (c := 11) (ini := false) (by decide) rfl (fun q => by cases q) bk_Main_firstMinuteWhere_62_2 _ 68 _ _ _ bk_Main_firstMinuteWhere_62_2_ok rfl ?_
        show am_EI m_Main_firstMinuteWhere kc ks 68 [.ref a0, .int x1, .int x2, .int x3, .int x4, .ref b4, .int r22] [.int (-1), .ref a0] h21 Q
        obtain ⟨o27, t⟩ := t
        refine am_callV (M2 := m_Main_answer) (ci := 11) (a := a0) (kc := kc) (ks := ks) (k2c := 0) (k2s := 0) (as := []) [.int (-1)] dc_Main_firstMinuteWhere_68 lk_11_119 im_Main_answer se_Main_answer lm_Main_answer np_Main_answer ⟨Nat.le_of_ble_eq_true rfl, Nat.le_of_ble_eq_true rfl⟩ (fun _ => Nat.le_of_ble_eq_true rfl) (by decide) rfl o27 (am_Ei.end (am_Ei.mono t (fun r29 h28 t => ?_)))
        exact am_iret dc_Main_firstMinuteWhere_71 rfl t
    · replace t := t.2 c11
      refine am_blk_ok (c := 11) (ini := false) (by decide) rfl (fun q => by cases q) bk_Main_firstMinuteWhere_25_2 _ 27 _ _ _ bk_Main_firstMinuteWhere_25_2_ok rfl ?_
      show am_EI m_Main_firstMinuteWhere kc ks 27 [.ref a0, .int x1, .int x2, .int x3, .int x4, .ref b4, .float 0] [.int 3, .ref a0] h9 Q
      obtain ⟨o30, t⟩ := t
      refine am_callV (M2 := m_Main_refuse) (ci := 11) (a := a0) (kc := kc) (ks := ks) (k2c := 0) (k2s := 0) (as := []) [.int 3] dc_Main_firstMinuteWhere_27 lk_11_108 im_Main_refuse se_Main_refuse lm_Main_refuse np_Main_refuse ⟨Nat.le_of_ble_eq_true rfl, Nat.le_of_ble_eq_true rfl⟩ (fun _ => Nat.le_of_ble_eq_true rfl) (by decide) rfl o30 (am_Ei.end (am_Ei.mono t (fun r32 h31 t => ?_)))
      exact am_iret dc_Main_firstMinuteWhere_30 rfl t
set_option maxRecDepth 20000 in
theorem ev_Main_firstMinuteWhere (a0 : Nat) (x1 x2 x3 x4 : Int32) (h : am_H) (Q : Int32 → am_H → Prop) (t : (am_tg h a0 = (11, 18) ∧ (am_Er m_Main_portAt 0 0 [.ref a0, .int x2] h (fun r3 h2 => (r3 = none → (am_tg h2 a0 = (11, 18) ∧ (am_Ei m_Main_refuse 0 0 [.ref a0, .int 1] h2 (fun r8 h7 => Q r8 h7)))) ∧ ∀ b4, r3 = some b4 → (am_Ei m_Main_isHeightToAsk 0 0 [.int x3] h2 (fun r10 h9 => ((¬ r10 = 0 → (am_tg h9 a0 = (11, 18) ∧ (∃ b12, am_P h9 a0 8 = some b12 ∧ (am_tg h9 b4 = (2, 5) ∧ (am_Ew m_Port_collect 0 0 [.ref b4, .int x1, .int x3, .ref b12] h9 (fun h16 => (am_tg h16 a0 = (11, 18) ∧ (∃ b17, am_P h16 a0 8 = some b17 ∧ (am_tg h16 b17 = (8, 4) ∧ (am_Ei m_Spans_earliestFrom 0 0 [.ref b17, .int x4] h16 (fun r22 h21 => ((¬ r22 = (-2147483648) → (am_tg h21 a0 = (11, 18) ∧ (am_Ei m_Main_answer 0 0 [.ref a0, .int r22] h21 (fun r26 h25 => Q r26 h25)))) ∧ (r22 = (-2147483648) → (am_tg h21 a0 = (11, 18) ∧ (am_Ei m_Main_answer 0 0 [.ref a0, .int (-1)] h21 (fun r29 h28 => Q r29 h28)))))))))))))))) ∧ (r10 = 0 → (am_tg h9 a0 = (11, 18) ∧ (am_Ei m_Main_refuse 0 0 [.ref a0, .int 3] h9 (fun r32 h31 => Q r32 h31))))))))))) : am_Ei m_Main_firstMinuteWhere 0 0 [.ref a0, .int x1, .int x2, .int x3, .int x4] h Q :=
  am_Ev.of (by decide +kernel) (Nat.le_of_ble_eq_true rfl) (by simp only [List.mem_cons, List.not_mem_nil, or_false]; intro v hv; rcases hv with rfl | rfl | rfl | rfl | rfl; all_goals first | exact trivial) (sg_Main_firstMinuteWhere_0 (kc := 0) (ks := 0) a0 x1 x2 x3 x4 h (am_qi Q) t)
def bk_Main_good_0_3 : List am_E := [(0, .aload_n 0, 1, 0, 0), (1, .iload_n 1, 1, 0, 0), (2, .iload_n 2, 1, 0, 0)]
theorem bk_Main_good_0_3_ok : bk_Main_good_0_3.all (am_ok 11 false m_Main_good.2.1) = true := by decide +kernel
def bk_Main_good_15_3 : List am_E := [(15, .aload_n 0, 1, 0, 0), (16, .aload_n 0, 1, 0, 0), (17, .getfield 57, 3, 4429, 0)]
theorem bk_Main_good_15_3_ok : bk_Main_good_15_3.all (am_ok 11 false m_Main_good.2.1) = true := by decide +kernel
def bk_Main_good_23_1 : List am_E := [(23, .iload_n 3, 1, 0, 0)]
theorem bk_Main_good_23_1_ok : bk_Main_good_23_1.all (am_ok 11 false m_Main_good.2.1) = true := by decide +kernel
def bk_Main_good_34_1 : List am_E := [(34, .iconst 0, 1, 0, 0)]
theorem bk_Main_good_34_1_ok : bk_Main_good_34_1.all (am_ok 11 false m_Main_good.2.1) = true := by decide +kernel
def bk_Main_good_30_2 : List am_E := [(30, .iconst 1, 1, 0, 1), (31, .goto 4, 3, 0, 4)]
theorem bk_Main_good_30_2_ok : bk_Main_good_30_2.all (am_ok 11 false m_Main_good.2.1) = true := by decide +kernel
def bk_Main_good_9_2 : List am_E := [(9, .aload_n 0, 1, 0, 0), (10, .iconst 1, 1, 0, 1)]
theorem bk_Main_good_9_2_ok : bk_Main_good_9_2.all (am_ok 11 false m_Main_good.2.1) = true := by decide +kernel
theorem dc_Main_good_3 : decode m_Main_good.2.1 3 = .ok (.invokevirtual 215, 3) := by decide +kernel
theorem dc_Main_good_20 : decode m_Main_good.2.1 20 = .ok (.invokevirtual 219, 3) := by decide +kernel
theorem dc_Main_good_24 : decode m_Main_good.2.1 24 = .ok (.invokevirtual 233, 3) := by decide +kernel
theorem dc_Main_good_35 : decode m_Main_good.2.1 35 = .ok (.invokevirtual 119, 3) := by decide +kernel
theorem dc_Main_good_38 : decode m_Main_good.2.1 38 = .ok (.ireturn, 1) := by decide +kernel
theorem dc_Main_good_27 : decode m_Main_good.2.1 27 = .ok (.ifCond .eq 7, 3) := by decide +kernel
theorem dc_Main_good_11 : decode m_Main_good.2.1 11 = .ok (.invokevirtual 108, 3) := by decide +kernel
theorem dc_Main_good_14 : decode m_Main_good.2.1 14 = .ok (.ireturn, 1) := by decide +kernel
theorem dc_Main_good_6 : decode m_Main_good.2.1 6 = .ok (.ifCond .ne 9, 3) := by decide +kernel
set_option maxRecDepth 20000 in
theorem sg_Main_good_0 {kc ks : Nat} (a0 : Nat) (x1 x2 x3 : Int32) (h : am_H) (Q : Option Value → am_H → Prop) (t : (am_tg h a0 = (11, 18) ∧ (am_Ei m_Main_findWindows 0 0 [.ref a0, .int x1, .int x2] h (fun r3 h2 => ((¬ r3 = 0 → (am_tg h2 a0 = (11, 18) ∧ (∃ b5, am_P h2 a0 7 = some b5 ∧ (am_tg h2 b5 = (10, 4) ∧ (am_Er m_Windows_found 0 0 [.ref b5] h2 (fun r10 h9 => (r10 = none → False) ∧ ∀ b11, r10 = some b11 → (am_tg h9 b11 = (8, 4) ∧ (am_Ei m_Spans_has 0 0 [.ref b11, .int x3] h9 (fun r15 h14 => ((r15 = 0 → (am_tg h14 a0 = (11, 18) ∧ (am_Ei m_Main_answer 0 0 [.ref a0, .int 0] h14 (fun r19 h18 => Q (some (.int r19)) h18)))) ∧ (¬ r15 = 0 → (am_tg h14 a0 = (11, 18) ∧ (am_Ei m_Main_answer 0 0 [.ref a0, .int 1] h14 (fun r22 h21 => Q (some (.int r22)) h21)))))))))))))) ∧ (r3 = 0 → (am_tg h2 a0 = (11, 18) ∧ (am_Ei m_Main_refuse 0 0 [.ref a0, .int 1] h2 (fun r25 h24 => Q (some (.int r25)) h24))))))))) : am_EI m_Main_good kc ks 0 [.ref a0, .int x1, .int x2, .int x3] [] h Q := by
  refine am_blk_ok (c := 11) (ini := false) (by decide) rfl (fun q => by cases q) bk_Main_good_0_3 _ 3 _ _ _ bk_Main_good_0_3_ok rfl ?_
  show am_EI m_Main_good kc ks 3 [.ref a0, .int x1, .int x2, .int x3] [.int x2, .int x1, .ref a0] h Q
  obtain ⟨o1, t⟩ := t
  refine am_callV (M2 := m_Main_findWindows) (ci := 11) (a := a0) (kc := kc) (ks := ks) (k2c := 0) (k2s := 0) (as := []) [.int x1, .int x2] dc_Main_good_3 lk_11_215 im_Main_findWindows se_Main_findWindows lm_Main_findWindows np_Main_findWindows ⟨Nat.le_of_ble_eq_true rfl, Nat.le_of_ble_eq_true rfl⟩ (fun _ => Nat.le_of_ble_eq_true rfl) (by decide) rfl o1 (am_Ei.end (am_Ei.mono t (fun r3 h2 t => ?_)))
  refine am_if_ne (tgt := 15) dc_Main_good_6 (by decide) (fun c4 => ?_) (fun c4 => ?_)
  · replace t := t.1 c4
    refine am_blk_ok (c := 11) (ini := false) (by decide) rfl (fun q => by cases q) bk_Main_good_15_3 _ 20 _ _ _ bk_Main_good_15_3_ok rfl ?_
    show (am_tg h2 a0 = (11, 18) ∧ (∃ b5, am_P h2 a0 7 = some b5 ∧ am_EI m_Main_good kc ks 20 [.ref a0, .int x1, .int x2, .int x3] [.ref b5, .ref a0] h2 Q))
    obtain ⟨o6, b5, q7, t⟩ := t
    refine ⟨o6, b5, q7, ?_⟩
    obtain ⟨o8, t⟩ := t
    refine am_callV (M2 := m_Windows_found) (ci := 10) (a := b5) (kc := kc) (ks := ks) (k2c := 0) (k2s := 0) (as := [.ref a0]) [] dc_Main_good_20 lk_11_219 im_Windows_found se_Windows_found lm_Windows_found np_Windows_found ⟨Nat.le_of_ble_eq_true rfl, Nat.le_of_ble_eq_true rfl⟩ (fun _ => Nat.le_of_ble_eq_true rfl) (by decide) rfl o8 (am_Er.end (am_Er.mono t (fun r10 h9 t => ⟨fun c12 => ?_, fun b11 c12 => ?_⟩)))
    · replace t := t.1 c12
      refine am_blk_ok (c := 11) (ini := false) (by decide) rfl (fun q => by cases q) bk_Main_good_23_1 _ 24 _ _ _ bk_Main_good_23_1_ok rfl ?_
      show am_EI m_Main_good kc ks 24 [.ref a0, .int x1, .int x2, .int x3] [.int x3, .null, .ref a0] h9 Q
      exact t.elim
    · replace t := t.2 b11 c12
      refine am_blk_ok (c := 11) (ini := false) (by decide) rfl (fun q => by cases q) bk_Main_good_23_1 _ 24 _ _ _ bk_Main_good_23_1_ok rfl ?_
      show am_EI m_Main_good kc ks 24 [.ref a0, .int x1, .int x2, .int x3] [.int x3, .ref b11, .ref a0] h9 Q
      obtain ⟨o13, t⟩ := t
      refine am_callV (M2 := m_Spans_has) (ci := 8) (a := b11) (kc := kc) (ks := ks) (k2c := 0) (k2s := 0) (as := [.ref a0]) [.int x3] dc_Main_good_24 lk_11_233 im_Spans_has se_Spans_has lm_Spans_has np_Spans_has ⟨Nat.le_of_ble_eq_true rfl, Nat.le_of_ble_eq_true rfl⟩ (fun _ => Nat.le_of_ble_eq_true rfl) (by decide) rfl o13 (am_Ei.end (am_Ei.mono t (fun r15 h14 t => ?_)))
      refine am_if_eq (tgt := 34) dc_Main_good_27 (by decide) (fun c16 => ?_) (fun c16 => ?_)
      · replace t := t.1 c16
        refine am_blk_ok (c := 11) (ini := false) (by decide) rfl (fun q => by cases q) bk_Main_good_34_1 _ 35 _ _ _ bk_Main_good_34_1_ok rfl ?_
        show am_EI m_Main_good kc ks 35 [.ref a0, .int x1, .int x2, .int x3] [.int 0, .ref a0] h14 Q
        obtain ⟨o17, t⟩ := t
        refine am_callV (M2 := m_Main_answer) (ci := 11) (a := a0) (kc := kc) (ks := ks) (k2c := 0) (k2s := 0) (as := []) [.int 0] dc_Main_good_35 lk_11_119 im_Main_answer se_Main_answer lm_Main_answer np_Main_answer ⟨Nat.le_of_ble_eq_true rfl, Nat.le_of_ble_eq_true rfl⟩ (fun _ => Nat.le_of_ble_eq_true rfl) (by decide) rfl o17 (am_Ei.end (am_Ei.mono t (fun r19 h18 t => ?_)))
        exact am_iret dc_Main_good_38 rfl t
      · replace t := t.2 c16
        refine am_blk_ok (c := 11) (ini := false) (by decide) rfl (fun q => by cases q) bk_Main_good_30_2 _ 35 _ _ _ bk_Main_good_30_2_ok rfl ?_
        show am_EI m_Main_good kc ks 35 [.ref a0, .int x1, .int x2, .int x3] [.int 1, .ref a0] h14 Q
        obtain ⟨o20, t⟩ := t
        refine am_callV (M2 := m_Main_answer) (ci := 11) (a := a0) (kc := kc) (ks := ks) (k2c := 0) (k2s := 0) (as := []) [.int 1] dc_Main_good_35 lk_11_119 im_Main_answer se_Main_answer lm_Main_answer np_Main_answer ⟨Nat.le_of_ble_eq_true rfl, Nat.le_of_ble_eq_true rfl⟩ (fun _ => Nat.le_of_ble_eq_true rfl) (by decide) rfl o20 (am_Ei.end (am_Ei.mono t (fun r22 h21 t => ?_)))
        exact am_iret dc_Main_good_38 rfl t
  · replace t := t.2 c4
    refine am_blk_ok (c := 11) (ini := false) (by decide) rfl (fun q => by cases q) bk_Main_good_9_2 _ 11 _ _ _ bk_Main_good_9_2_ok rfl ?_
    show am_EI m_Main_good kc ks 11 [.ref a0, .int x1, .int x2, .int x3] [.int 1, .ref a0] h2 Q
    obtain ⟨o23, t⟩ := t
    refine am_callV (M2 := m_Main_refuse) (ci := 11) (a := a0) (kc := kc) (ks := ks) (k2c := 0) (k2s := 0) (as := []) [.int 1] dc_Main_good_11 lk_11_108 im_Main_refuse se_Main_refuse lm_Main_refuse np_Main_refuse ⟨Nat.le_of_ble_eq_true rfl, Nat.le_of_ble_eq_true rfl⟩ (fun _ => Nat.le_of_ble_eq_true rfl) (by decide) rfl o23 (am_Ei.end (am_Ei.mono t (fun r25 h24 t => ?_)))
    exact am_iret dc_Main_good_14 rfl t
set_option maxRecDepth 20000 in
theorem ev_Main_good (a0 : Nat) (x1 x2 x3 : Int32) (h : am_H) (Q : Int32 → am_H → Prop) (t : (am_tg h a0 = (11, 18) ∧ (am_Ei m_Main_findWindows 0 0 [.ref a0, .int x1, .int x2] h (fun r3 h2 => ((¬ r3 = 0 → (am_tg h2 a0 = (11, 18) ∧ (∃ b5, am_P h2 a0 7 = some b5 ∧ (am_tg h2 b5 = (10, 4) ∧ (am_Er m_Windows_found 0 0 [.ref b5] h2 (fun r10 h9 => (r10 = none → False) ∧ ∀ b11, r10 = some b11 → (am_tg h9 b11 = (8, 4) ∧ (am_Ei m_Spans_has 0 0 [.ref b11, .int x3] h9 (fun r15 h14 => ((r15 = 0 → (am_tg h14 a0 = (11, 18) ∧ (am_Ei m_Main_answer 0 0 [.ref a0, .int 0] h14 (fun r19 h18 => Q r19 h18)))) ∧ (¬ r15 = 0 → (am_tg h14 a0 = (11, 18) ∧ (am_Ei m_Main_answer 0 0 [.ref a0, .int 1] h14 (fun r22 h21 => Q r22 h21)))))))))))))) ∧ (r3 = 0 → (am_tg h2 a0 = (11, 18) ∧ (am_Ei m_Main_refuse 0 0 [.ref a0, .int 1] h2 (fun r25 h24 => Q r25 h24))))))))) : am_Ei m_Main_good 0 0 [.ref a0, .int x1, .int x2, .int x3] h Q :=
  am_Ev.of (by decide +kernel) (Nat.le_of_ble_eq_true rfl) (by simp only [List.mem_cons, List.not_mem_nil, or_false]; intro v hv; rcases hv with rfl | rfl | rfl | rfl; all_goals first | exact trivial) (sg_Main_good_0 (kc := 0) (ks := 0) a0 x1 x2 x3 h (am_qi Q) t)
def bk_Main_hour_0_3 : List am_E := [(0, .aload_n 0, 1, 0, 0), (1, .iload_n 1, 1, 0, 0), (2, .iload_n 2, 1, 0, 0)]
theorem bk_Main_hour_0_3_ok : bk_Main_hour_0_3.all (am_ok 11 false m_Main_hour.2.1) = true := by decide +kernel
def bk_Main_hour_27_2 : List am_E := [(27, .aload_n 0, 1, 0, 0), (28, .iconst 1, 1, 0, 1)]
theorem bk_Main_hour_27_2_ok : bk_Main_hour_27_2.all (am_ok 11 false m_Main_hour.2.1) = true := by decide +kernel
def bk_Main_hour_9_1 : List am_E := [(9, .iload_n 3, 1, 0, 0)]
theorem bk_Main_hour_9_1_ok : bk_Main_hour_9_1.all (am_ok 11 false m_Main_hour.2.1) = true := by decide +kernel
def bk_Main_hour_13_3 : List am_E := [(13, .iload_n 3, 1, 0, 0), (14, .aload_n 0, 1, 0, 0), (15, .getfield 57, 3, 4429, 0)]
theorem bk_Main_hour_13_3_ok : bk_Main_hour_13_3.all (am_ok 11 false m_Main_hour.2.1) = true := by decide +kernel
def bk_Main_hour_33_1 : List am_E := [(33, .iload 4, 2, 0, 0)]
theorem bk_Main_hour_33_1_ok : bk_Main_hour_33_1.all (am_ok 11 false m_Main_hour.2.1) = true := by decide +kernel
def bk_Main_hour_60_3 : List am_E := [(60, .aload_n 0, 1, 0, 0), (61, .aload_n 0, 1, 0, 0), (62, .getfield 57, 3, 4429, 0)]
theorem bk_Main_hour_60_3_ok : bk_Main_hour_60_3.all (am_ok 11 false m_Main_hour.2.1) = true := by decide +kernel
def bk_Main_hour_68_1 : List am_E := [(68, .iload_n 3, 1, 0, 0)]
theorem bk_Main_hour_68_1_ok : bk_Main_hour_68_1.all (am_ok 11 false m_Main_hour.2.1) = true := by decide +kernel
def bk_Main_hour_76_3 : List am_E := [(76, .aload_n 0, 1, 0, 0), (77, .aload_n 0, 1, 0, 0), (78, .getfield 57, 3, 4429, 0)]
theorem bk_Main_hour_76_3_ok : bk_Main_hour_76_3.all (am_ok 11 false m_Main_hour.2.1) = true := by decide +kernel
def bk_Main_hour_84_1 : List am_E := [(84, .iload_n 3, 1, 0, 0)]
theorem bk_Main_hour_84_1_ok : bk_Main_hour_84_1.all (am_ok 11 false m_Main_hour.2.1) = true := by decide +kernel
def bk_Main_hour_92_2 : List am_E := [(92, .aload_n 0, 1, 0, 0), (93, .iconst 3, 1, 0, 3)]
theorem bk_Main_hour_92_2_ok : bk_Main_hour_92_2.all (am_ok 11 false m_Main_hour.2.1) = true := by decide +kernel
theorem dc_Main_hour_3 : decode m_Main_hour.2.1 3 = .ok (.invokevirtual 215, 3) := by decide +kernel
theorem dc_Main_hour_29 : decode m_Main_hour.2.1 29 = .ok (.invokevirtual 108, 3) := by decide +kernel
theorem dc_Main_hour_32 : decode m_Main_hour.2.1 32 = .ok (.ireturn, 1) := by decide +kernel
theorem dc_Main_hour_18 : decode m_Main_hour.2.1 18 = .ok (.invokevirtual 219, 3) := by decide +kernel
theorem dc_Main_hour_21 : decode m_Main_hour.2.1 21 = .ok (.invokevirtual 223, 3) := by decide +kernel
theorem dc_Main_hour_35 : decode m_Main_hour.2.1 35 = .ok (.lookupswitch 57 #[(0, 25), (1, 41)], 25) := by decide +kernel
theorem dc_Main_hour_65 : decode m_Main_hour.2.1 65 = .ok (.invokevirtual 219, 3) := by decide +kernel
theorem dc_Main_hour_69 : decode m_Main_hour.2.1 69 = .ok (.invokevirtual 224, 3) := by decide +kernel
theorem dc_Main_hour_72 : decode m_Main_hour.2.1 72 = .ok (.invokevirtual 119, 3) := by decide +kernel
theorem dc_Main_hour_75 : decode m_Main_hour.2.1 75 = .ok (.ireturn, 1) := by decide +kernel
theorem dc_Main_hour_81 : decode m_Main_hour.2.1 81 = .ok (.invokevirtual 219, 3) := by decide +kernel
theorem dc_Main_hour_85 : decode m_Main_hour.2.1 85 = .ok (.invokevirtual 227, 3) := by decide +kernel
theorem dc_Main_hour_88 : decode m_Main_hour.2.1 88 = .ok (.invokevirtual 119, 3) := by decide +kernel
theorem dc_Main_hour_91 : decode m_Main_hour.2.1 91 = .ok (.ireturn, 1) := by decide +kernel
theorem dc_Main_hour_94 : decode m_Main_hour.2.1 94 = .ok (.invokevirtual 108, 3) := by decide +kernel
theorem dc_Main_hour_97 : decode m_Main_hour.2.1 97 = .ok (.ireturn, 1) := by decide +kernel
theorem dc_Main_hour_24 : decode m_Main_hour.2.1 24 = .ok (.if_icmp .lt 9, 3) := by decide +kernel
theorem dc_Main_hour_10 : decode m_Main_hour.2.1 10 = .ok (.ifCond .lt 17, 3) := by decide +kernel
theorem dc_Main_hour_6 : decode m_Main_hour.2.1 6 = .ok (.ifCond .eq 21, 3) := by decide +kernel
set_option maxRecDepth 20000 in
theorem sg_Main_hour_0 {kc ks : Nat} (a0 : Nat) (x1 x2 x3 x4 : Int32) (h : am_H) (Q : Option Value → am_H → Prop) (t : (am_tg h a0 = (11, 18) ∧ (am_Ei m_Main_findWindows 0 0 [.ref a0, .int x1, .int x2] h (fun r3 h2 => ((r3 = 0 → (am_tg h2 a0 = (11, 18) ∧ (am_Ei m_Main_refuse 0 0 [.ref a0, .int 1] h2 (fun r7 h6 => Q (some (.int r7)) h6)))) ∧ (¬ r3 = 0 → ((x3 < 0 → (am_tg h2 a0 = (11, 18) ∧ (am_Ei m_Main_refuse 0 0 [.ref a0, .int 1] h2 (fun r11 h10 => Q (some (.int r11)) h10)))) ∧ (¬ x3 < 0 → (am_tg h2 a0 = (11, 18) ∧ (∃ b12, am_P h2 a0 7 = some b12 ∧ (am_tg h2 b12 = (10, 4) ∧ (am_Er m_Windows_found 0 0 [.ref b12] h2 (fun r17 h16 => (r17 = none → False) ∧ ∀ b18, r17 = some b18 → (am_tg h16 b18 = (8, 4) ∧ (am_Ei m_Spans_size 0 0 [.ref b18] h16 (fun r22 h21 => ((x3 < r22 → ((x4 = 0 → (am_tg h21 a0 = (11, 18) ∧ (∃ b25, am_P h21 a0 7 = some b25 ∧ (am_tg h21 b25 = (10, 4) ∧ (am_Er m_Windows_found 0 0 [.ref b25] h21 (fun r30 h29 => (r30 = none → False) ∧ ∀ b31, r30 = some b31 → (am_tg h29 b31 = (8, 4) ∧ (am_Ei m_Spans_firstOf 0 0 [.ref b31, .int x3] h29 (fun r35 h34 => (am_tg h34 a0 = (11, 18) ∧ (am_Ei m_Main_answer 0 0 [.ref a0, .int r35] h34 (fun r38 h37 => Q (some (.int r38)) h37)))))))))))) ∧ (x4 = 1 → (am_tg h21 a0 = (11, 18) ∧ (∃ b40, am_P h21 a0 7 = some b40 ∧ (am_tg h21 b40 = (10, 4) ∧ (am_Er m_Windows_found 0 0 [.ref b40] h21 (fun r45 h44 => (r45 = none → False) ∧ ∀ b46, r45 = some b46 → (am_tg h44 b46 = (8, 4) ∧ (am_Ei m_Spans_lastOf 0 0 [.ref b46, .int x3] h44 (fun r50 h49 => (am_tg h49 a0 = (11, 18) ∧ (am_Ei m_Main_answer 0 0 [.ref a0, .int r50] h49 (fun r53 h52 => Q (some (.int r53)) h52)))))))))))) ∧ (¬ x4 = 0 → ¬ x4 = 1 → (am_tg h21 a0 = (11, 18) ∧ (am_Ei m_Main_refuse 0 0 [.ref a0, .int 3] h21 (fun r56 h55 => Q (some (.int r56)) h55)))))) ∧ (¬ x3 < r22 → (am_tg h21 a0 = (11, 18) ∧ (am_Ei m_Main_refuse 0 0 [.ref a0, .int 1] h21 (fun r59 h58 => Q (some (.int r59)) h58))))))))))))))))))))) : am_EI m_Main_hour kc ks 0 [.ref a0, .int x1, .int x2, .int x3, .int x4] [] h Q := by
  refine am_blk_ok (c := 11) (ini := false) (by decide) rfl (fun q => by cases q) bk_Main_hour_0_3 _ 3 _ _ _ bk_Main_hour_0_3_ok rfl ?_
  show am_EI m_Main_hour kc ks 3 [.ref a0, .int x1, .int x2, .int x3, .int x4] [.int x2, .int x1, .ref a0] h Q
  obtain ⟨o1, t⟩ := t
  refine am_callV (M2 := m_Main_findWindows) (ci := 11) (a := a0) (kc := kc) (ks := ks) (k2c := 0) (k2s := 0) (as := []) [.int x1, .int x2] dc_Main_hour_3 lk_11_215 im_Main_findWindows se_Main_findWindows lm_Main_findWindows np_Main_findWindows ⟨Nat.le_of_ble_eq_true rfl, Nat.le_of_ble_eq_true rfl⟩ (fun _ => Nat.le_of_ble_eq_true rfl) (by decide) rfl o1 (am_Ei.end (am_Ei.mono t (fun r3 h2 t => ?_)))
  refine am_if_eq (tgt := 27) dc_Main_hour_6 (by decide) (fun c4 => ?_) (fun c4 => ?_)
  · replace t := t.1 c4
    refine am_blk_ok (c := 11) (ini := false) (by decide) rfl (fun q => by cases q) bk_Main_hour_27_2 _ 29 _ _ _ bk_Main_hour_27_2_ok rfl ?_
    show am_EI m_Main_hour kc ks 29 [.ref a0, .int x1, .int x2, .int x3, .int x4] [.int 1, .ref a0] h2 Q
    obtain ⟨o5, t⟩ := t
    refine am_callV (M2 := m_Main_refuse) (ci := 11) (a := a0) (kc := kc) (ks := ks) (k2c := 0) (k2s := 0) (as := []) [.int 1] dc_Main_hour_29 lk_11_108 im_Main_refuse se_Main_refuse lm_Main_refuse np_Main_refuse ⟨Nat.le_of_ble_eq_true rfl, Nat.le_of_ble_eq_true rfl⟩ (fun _ => Nat.le_of_ble_eq_true rfl) (by decide) rfl o5 (am_Ei.end (am_Ei.mono t (fun r7 h6 t => ?_)))
    exact am_iret dc_Main_hour_32 rfl t
  · replace t := t.2 c4
    refine am_blk_ok (c := 11) (ini := false) (by decide) rfl (fun q => by cases q) bk_Main_hour_9_1 _ 10 _ _ _ bk_Main_hour_9_1_ok rfl ?_
    show am_EI m_Main_hour kc ks 10 [.ref a0, .int x1, .int x2, .int x3, .int x4] [.int x3] h2 Q
    refine am_if_lt (tgt := 27) dc_Main_hour_10 (by decide) (fun c8 => ?_) (fun c8 => ?_)
    · replace t := t.1 c8
      refine am_blk_ok (c := 11) (ini := false) (by decide) rfl (fun q => by cases q) bk_Main_hour_27_2 _ 29 _ _ _ bk_Main_hour_27_2_ok rfl ?_
      show am_EI m_Main_hour kc ks 29 [.ref a0, .int x1, .int x2, .int x3, .int x4] [.int 1, .ref a0] h2 Q
      obtain ⟨o9, t⟩ := t
      refine am_callV (M2 := m_Main_refuse) (ci := 11) (a := a0) (kc := kc) (ks := ks) (k2c := 0) (k2s := 0) (as := []) [.int 1] dc_Main_hour_29 lk_11_108 im_Main_refuse se_Main_refuse lm_Main_refuse np_Main_refuse ⟨Nat.le_of_ble_eq_true rfl, Nat.le_of_ble_eq_true rfl⟩ (fun _ => Nat.le_of_ble_eq_true rfl) (by decide) rfl o9 (am_Ei.end (am_Ei.mono t (fun r11 h10 t => ?_)))
      exact am_iret dc_Main_hour_32 rfl t
    · replace t := t.2 c8
      refine am_blk_ok (c := 11) (ini := false) (by decide) rfl (fun q => by cases q) bk_Main_hour_13_3 _ 18 _ _ _ bk_Main_hour_13_3_ok rfl ?_
      show (am_tg h2 a0 = (11, 18) ∧ (∃ b12, am_P h2 a0 7 = some b12 ∧ am_EI m_Main_hour kc ks 18 [.ref a0, .int x1, .int x2, .int x3, .int x4] [.ref b12, .int x3] h2 Q))
      obtain ⟨o13, b12, q14, t⟩ := t
      refine ⟨o13, b12, q14, ?_⟩
      obtain ⟨o15, t⟩ := t
      refine am_callV (M2 := m_Windows_found) (ci := 10) (a := b12) (kc := kc) (ks := ks) (k2c := 0) (k2s := 0) (as := [.int x3]) [] dc_Main_hour_18 lk_11_219 im_Windows_found se_Windows_found lm_Windows_found np_Windows_found ⟨Nat.le_of_ble_eq_true rfl, Nat.le_of_ble_eq_true rfl⟩ (fun _ => Nat.le_of_ble_eq_true rfl) (by decide) rfl o15 (am_Er.end (am_Er.mono t (fun r17 h16 t => ⟨fun c19 => ?_, fun b18 c19 => ?_⟩)))
      · replace t := t.1 c19
        exact t.elim
      · replace t := t.2 b18 c19
        obtain ⟨o20, t⟩ := t
        refine am_callV (M2 := m_Spans_size) (ci := 8) (a := b18) (kc := kc) (ks := ks) (k2c := 0) (k2s := 0) (as := [.int x3]) [] dc_Main_hour_21 lk_11_223 im_Spans_size se_Spans_size lm_Spans_size np_Spans_size ⟨Nat.le_of_ble_eq_true rfl, Nat.le_of_ble_eq_true rfl⟩ (fun _ => Nat.le_of_ble_eq_true rfl) (by decide) rfl o20 (am_Ei.end (am_Ei.mono t (fun r22 h21 t => ?_)))
        refine am_ic_lt (tgt := 33) dc_Main_hour_24 (by decide) (fun c23 => ?_) (fun c23 => ?_)
        · replace t := t.1 c23
          refine am_blk_ok (c := 11) (ini := false) (by decide) rfl (fun q => by cases q) bk_Main_hour_33_1 _ 35 _ _ _ bk_Main_hour_33_1_ok rfl ?_
          show am_EI m_Main_hour kc ks 35 [.ref a0, .int x1, .int x2, .int x3, .int x4] [.int x4] h21 Q
          by_cases c24 : x4 = 0
          · refine am_lookup (x := x4) (tgt := 60) dc_Main_hour_35 (by decide) (by rw [c24] <;> rfl) (by decide) ?_
            replace t := t.1 c24
            refine am_blk_ok (c := 11) (ini := false) (by decide) rfl (fun q => by cases q) bk_Main_hour_60_3 _ 65 _ _ _ bk_Main_hour_60_3_ok rfl ?_
            show (am_tg h21 a0 = (11, 18) ∧ (∃ b25, am_P h21 a0 7 = some b25 ∧ am_EI m_Main_hour kc ks 65 [.ref a0, .int x1, .int x2, .int x3, .int x4] [.ref b25, .ref a0] h21 Q))
            obtain ⟨o26, b25, q27, t⟩ := t
            refine ⟨o26, b25, q27, ?_⟩
            obtain ⟨o28, t⟩ := t
            refine am_callV (M2 := m_Windows_found) (ci := 10) (a := b25) (kc := kc) (ks := ks) (k2c := 0) (k2s := 0) (as := [.ref a0]) [] dc_Main_hour_65 lk_11_219 im_Windows_found se_Windows_found lm_Windows_found np_Windows_found ⟨Nat.le_of_ble_eq_true rfl, Nat.le_of_ble_eq_true rfl⟩ (fun _ => Nat.le_of_ble_eq_true rfl) (by decide) rfl o28 (am_Er.end (am_Er.mono t (fun r30 h29 t => ⟨fun c32 => ?_, fun b31 c32 => ?_⟩)))
            · replace t := t.1 c32
              refine am_blk_ok (c := 11) (ini := false) (by decide) rfl (fun q => by cases q) bk_Main_hour_68_1 _ 69 _ _ _ bk_Main_hour_68_1_ok rfl ?_
              show am_EI m_Main_hour kc ks 69 [.ref a0, .int x1, .int x2, .int x3, .int x4] [.int x3, .null, .ref a0] h29 Q
              exact t.elim
            · replace t := t.2 b31 c32
              refine am_blk_ok (c := 11) (ini := false) (by decide) rfl (fun q => by cases q) bk_Main_hour_68_1 _ 69 _ _ _ bk_Main_hour_68_1_ok rfl ?_
              show am_EI m_Main_hour kc ks 69 [.ref a0, .int x1, .int x2, .int x3, .int x4] [.int x3, .ref b31, .ref a0] h29 Q
              obtain ⟨o33, t⟩ := t
              refine am_callV (M2 := m_Spans_firstOf) (ci := 8) (a := b31) (kc := kc) (ks := ks) (k2c := 0) (k2s := 0) (as := [.ref a0]) [.int x3] dc_Main_hour_69 lk_11_224 im_Spans_firstOf se_Spans_firstOf lm_Spans_firstOf np_Spans_firstOf ⟨Nat.le_of_ble_eq_true rfl, Nat.le_of_ble_eq_true rfl⟩ (fun _ => Nat.le_of_ble_eq_true rfl) (by decide) rfl o33 (am_Ei.end (am_Ei.mono t (fun r35 h34 t => ?_)))
              obtain ⟨o36, t⟩ := t
              refine am_callV (M2 := m_Main_answer) (ci := 11) (a := a0) (kc := kc) (ks := ks) (k2c := 0) (k2s := 0) (as := []) [.int r35] dc_Main_hour_72 lk_11_119 im_Main_answer se_Main_answer lm_Main_answer np_Main_answer ⟨Nat.le_of_ble_eq_true rfl, Nat.le_of_ble_eq_true rfl⟩ (fun _ => Nat.le_of_ble_eq_true rfl) (by decide) rfl o36 (am_Ei.end (am_Ei.mono t (fun r38 h37 t => ?_)))
              exact am_iret dc_Main_hour_75 rfl t
          by_cases c39 : x4 = 1
          · refine am_lookup (x := x4) (tgt := 76) dc_Main_hour_35 (by decide) (by rw [c39] <;> rfl) (by decide) ?_
            replace t := t.2.1 c39
            refine am_blk_ok (c := 11) (ini := false) (by decide) rfl (fun q => by cases q) bk_Main_hour_76_3 _ 81 _ _ _ bk_Main_hour_76_3_ok rfl ?_
            show (am_tg h21 a0 = (11, 18) ∧ (∃ b40, am_P h21 a0 7 = some b40 ∧ am_EI m_Main_hour kc ks 81 [.ref a0, .int x1, .int x2, .int x3, .int x4] [.ref b40, .ref a0] h21 Q))
            obtain ⟨o41, b40, q42, t⟩ := t
            refine ⟨o41, b40, q42, ?_⟩
            obtain ⟨o43, t⟩ := t
            refine am_callV (M2 := m_Windows_found) (ci := 10) (a := b40) (kc := kc) (ks := ks) (k2c := 0) (k2s := 0) (as := [.ref a0]) [] dc_Main_hour_81 lk_11_219 im_Windows_found se_Windows_found lm_Windows_found np_Windows_found ⟨Nat.le_of_ble_eq_true rfl, Nat.le_of_ble_eq_true rfl⟩ (fun _ => Nat.le_of_ble_eq_true rfl) (by decide) rfl o43 (am_Er.end (am_Er.mono t (fun r45 h44 t => ⟨fun c47 => ?_, fun b46 c47 => ?_⟩)))
            · replace t := t.1 c47
              refine am_blk_ok (c := 11) (ini := false) (by decide) rfl (fun q => by cases q) bk_Main_hour_84_1 _ 85 _ _ _ bk_Main_hour_84_1_ok rfl ?_
              show am_EI m_Main_hour kc ks 85 [.ref a0, .int x1, .int x2, .int x3, .int x4] [.int x3, .null, .ref a0] h44 Q
              exact t.elim
            · replace t := t.2 b46 c47
              refine am_blk_ok (c := 11) (ini := false) (by decide) rfl (fun q => by cases q) bk_Main_hour_84_1 _ 85 _ _ _ bk_Main_hour_84_1_ok rfl ?_
              show am_EI m_Main_hour kc ks 85 [.ref a0, .int x1, .int x2, .int x3, .int x4] [.int x3, .ref b46, .ref a0] h44 Q
              obtain ⟨o48, t⟩ := t
              refine am_callV (M2 := m_Spans_lastOf) (ci := 8) (a := b46) (kc := kc) (ks := ks) (k2c := 0) (k2s := 0) (as := [.ref a0]) [.int x3] dc_Main_hour_85 lk_11_227 im_Spans_lastOf se_Spans_lastOf lm_Spans_lastOf np_Spans_lastOf ⟨Nat.le_of_ble_eq_true rfl, Nat.le_of_ble_eq_true rfl⟩ (fun _ => Nat.le_of_ble_eq_true rfl) (by decide) rfl o48 (am_Ei.end (am_Ei.mono t (fun r50 h49 t => ?_)))
              obtain ⟨o51, t⟩ := t
              refine am_callV (M2 := m_Main_answer) (ci := 11) (a := a0) (kc := kc) (ks := ks) (k2c := 0) (k2s := 0) (as := []) [.int r50] dc_Main_hour_88 lk_11_119 im_Main_answer se_Main_answer lm_Main_answer np_Main_answer ⟨Nat.le_of_ble_eq_true rfl, Nat.le_of_ble_eq_true rfl⟩ (fun _ => Nat.le_of_ble_eq_true rfl) (by decide) rfl o51 (am_Ei.end (am_Ei.mono t (fun r53 h52 t => ?_)))
              exact am_iret dc_Main_hour_91 rfl t
          refine am_lookup (x := x4) (tgt := 92) (off := 57) dc_Main_hour_35 (by decide) (by show Op.lookupswitch.offset [(0, 25), (1, 41)] _ _ = _; rw [lv_osw (a := 0) c24 rfl, lv_osw (a := 1) c39 rfl]; first | done | rfl) (by decide) ?_
          replace t := t.2.2 c24 c39
          refine am_blk_ok (c := 11) (ini := false) (by decide) rfl (fun q => by cases q) bk_Main_hour_92_2 _ 94 _ _ _ bk_Main_hour_92_2_ok rfl ?_
          show am_EI m_Main_hour kc ks 94 [.ref a0, .int x1, .int x2, .int x3, .int x4] [.int 3, .ref a0] h21 Q
          obtain ⟨o54, t⟩ := t
          refine am_callV (M2 := m_Main_refuse) (ci := 11) (a := a0) (kc := kc) (ks := ks) (k2c := 0) (k2s := 0) (as := []) [.int 3] dc_Main_hour_94 lk_11_108 im_Main_refuse se_Main_refuse lm_Main_refuse np_Main_refuse ⟨Nat.le_of_ble_eq_true rfl, Nat.le_of_ble_eq_true rfl⟩ (fun _ => Nat.le_of_ble_eq_true rfl) (by decide) rfl o54 (am_Ei.end (am_Ei.mono t (fun r56 h55 t => ?_)))
          exact am_iret dc_Main_hour_97 rfl t
        · replace t := t.2 c23
          refine am_blk_ok (c := 11) (ini := false) (by decide) rfl (fun q => by cases q) bk_Main_hour_27_2 _ 29 _ _ _ bk_Main_hour_27_2_ok rfl ?_
          show am_EI m_Main_hour kc ks 29 [.ref a0, .int x1, .int x2, .int x3, .int x4] [.int 1, .ref a0] h21 Q
          obtain ⟨o57, t⟩ := t
          refine am_callV (M2 := m_Main_refuse) (ci := 11) (a := a0) (kc := kc) (ks := ks) (k2c := 0) (k2s := 0) (as := []) [.int 1] dc_Main_hour_29 lk_11_108 im_Main_refuse se_Main_refuse lm_Main_refuse np_Main_refuse ⟨Nat.le_of_ble_eq_true rfl, Nat.le_of_ble_eq_true rfl⟩ (fun _ => Nat.le_of_ble_eq_true rfl) (by decide) rfl o57 (am_Ei.end (am_Ei.mono t (fun r59 h58 t => ?_)))
          exact am_iret dc_Main_hour_32 rfl t
set_option maxRecDepth 20000 in
theorem ev_Main_hour (a0 : Nat) (x1 x2 x3 x4 : Int32) (h : am_H) (Q : Int32 → am_H → Prop) (t : (am_tg h a0 = (11, 18) ∧ (am_Ei m_Main_findWindows 0 0 [.ref a0, .int x1, .int x2] h (fun r3 h2 => ((r3 = 0 → (am_tg h2 a0 = (11, 18) ∧ (am_Ei m_Main_refuse 0 0 [.ref a0, .int 1] h2 (fun r7 h6 => Q r7 h6)))) ∧ (¬ r3 = 0 → ((x3 < 0 → (am_tg h2 a0 = (11, 18) ∧ (am_Ei m_Main_refuse 0 0 [.ref a0, .int 1] h2 (fun r11 h10 => Q r11 h10)))) ∧ (¬ x3 < 0 → (am_tg h2 a0 = (11, 18) ∧ (∃ b12, am_P h2 a0 7 = some b12 ∧ (am_tg h2 b12 = (10, 4) ∧ (am_Er m_Windows_found 0 0 [.ref b12] h2 (fun r17 h16 => (r17 = none → False) ∧ ∀ b18, r17 = some b18 → (am_tg h16 b18 = (8, 4) ∧ (am_Ei m_Spans_size 0 0 [.ref b18] h16 (fun r22 h21 => ((x3 < r22 → ((x4 = 0 → (am_tg h21 a0 = (11, 18) ∧ (∃ b25, am_P h21 a0 7 = some b25 ∧ (am_tg h21 b25 = (10, 4) ∧ (am_Er m_Windows_found 0 0 [.ref b25] h21 (fun r30 h29 => (r30 = none → False) ∧ ∀ b31, r30 = some b31 → (am_tg h29 b31 = (8, 4) ∧ (am_Ei m_Spans_firstOf 0 0 [.ref b31, .int x3] h29 (fun r35 h34 => (am_tg h34 a0 = (11, 18) ∧ (am_Ei m_Main_answer 0 0 [.ref a0, .int r35] h34 (fun r38 h37 => Q r38 h37)))))))))))) ∧ (x4 = 1 → (am_tg h21 a0 = (11, 18) ∧ (∃ b40, am_P h21 a0 7 = some b40 ∧ (am_tg h21 b40 = (10, 4) ∧ (am_Er m_Windows_found 0 0 [.ref b40] h21 (fun r45 h44 => (r45 = none → False) ∧ ∀ b46, r45 = some b46 → (am_tg h44 b46 = (8, 4) ∧ (am_Ei m_Spans_lastOf 0 0 [.ref b46, .int x3] h44 (fun r50 h49 => (am_tg h49 a0 = (11, 18) ∧ (am_Ei m_Main_answer 0 0 [.ref a0, .int r50] h49 (fun r53 h52 => Q r53 h52)))))))))))) ∧ (¬ x4 = 0 → ¬ x4 = 1 → (am_tg h21 a0 = (11, 18) ∧ (am_Ei m_Main_refuse 0 0 [.ref a0, .int 3] h21 (fun r56 h55 => Q r56 h55)))))) ∧ (¬ x3 < r22 → (am_tg h21 a0 = (11, 18) ∧ (am_Ei m_Main_refuse 0 0 [.ref a0, .int 1] h21 (fun r59 h58 => Q r59 h58))))))))))))))))))))) : am_Ei m_Main_hour 0 0 [.ref a0, .int x1, .int x2, .int x3, .int x4] h Q :=
  am_Ev.of (by decide +kernel) (Nat.le_of_ble_eq_true rfl) (by simp only [List.mem_cons, List.not_mem_nil, or_false]; intro v hv; rcases hv with rfl | rfl | rfl | rfl | rfl; all_goals first | exact trivial) (sg_Main_hour_0 (kc := 0) (ks := 0) a0 x1 x2 x3 x4 h (am_qi Q) t)
def bk_Main_hours_0_3 : List am_E := [(0, .aload_n 0, 1, 0, 0), (1, .iload_n 1, 1, 0, 0), (2, .iload_n 2, 1, 0, 0)]
theorem bk_Main_hours_0_3_ok : bk_Main_hours_0_3.all (am_ok 11 false m_Main_hours.2.1) = true := by decide +kernel
def bk_Main_hours_15_3 : List am_E := [(15, .aload_n 0, 1, 0, 0), (16, .aload_n 0, 1, 0, 0), (17, .getfield 57, 3, 4429, 0)]
theorem bk_Main_hours_15_3_ok : bk_Main_hours_15_3.all (am_ok 11 false m_Main_hours.2.1) = true := by decide +kernel
def bk_Main_hours_9_2 : List am_E := [(9, .aload_n 0, 1, 0, 0), (10, .iconst 1, 1, 0, 1)]
theorem bk_Main_hours_9_2_ok : bk_Main_hours_9_2.all (am_ok 11 false m_Main_hours.2.1) = true := by decide +kernel
theorem dc_Main_hours_3 : decode m_Main_hours.2.1 3 = .ok (.invokevirtual 215, 3) := by decide +kernel
theorem dc_Main_hours_20 : decode m_Main_hours.2.1 20 = .ok (.invokevirtual 219, 3) := by decide +kernel
theorem dc_Main_hours_23 : decode m_Main_hours.2.1 23 = .ok (.invokevirtual 223, 3) := by decide +kernel
theorem dc_Main_hours_26 : decode m_Main_hours.2.1 26 = .ok (.invokevirtual 119, 3) := by decide +kernel
theorem dc_Main_hours_29 : decode m_Main_hours.2.1 29 = .ok (.ireturn, 1) := by decide +kernel
theorem dc_Main_hours_11 : decode m_Main_hours.2.1 11 = .ok (.invokevirtual 108, 3) := by decide +kernel
theorem dc_Main_hours_14 : decode m_Main_hours.2.1 14 = .ok (.ireturn, 1) := by decide +kernel
theorem dc_Main_hours_6 : decode m_Main_hours.2.1 6 = .ok (.ifCond .ne 9, 3) := by decide +kernel
set_option maxRecDepth 20000 in
theorem sg_Main_hours_0 {kc ks : Nat} (a0 : Nat) (x1 x2 : Int32) (h : am_H) (Q : Option Value → am_H → Prop) (t : (am_tg h a0 = (11, 18) ∧ (am_Ei m_Main_findWindows 0 0 [.ref a0, .int x1, .int x2] h (fun r3 h2 => ((¬ r3 = 0 → (am_tg h2 a0 = (11, 18) ∧ (∃ b5, am_P h2 a0 7 = some b5 ∧ (am_tg h2 b5 = (10, 4) ∧ (am_Er m_Windows_found 0 0 [.ref b5] h2 (fun r10 h9 => (r10 = none → False) ∧ ∀ b11, r10 = some b11 → (am_tg h9 b11 = (8, 4) ∧ (am_Ei m_Spans_size 0 0 [.ref b11] h9 (fun r15 h14 => (am_tg h14 a0 = (11, 18) ∧ (am_Ei m_Main_answer 0 0 [.ref a0, .int r15] h14 (fun r18 h17 => Q (some (.int r18)) h17)))))))))))) ∧ (r3 = 0 → (am_tg h2 a0 = (11, 18) ∧ (am_Ei m_Main_refuse 0 0 [.ref a0, .int 1] h2 (fun r21 h20 => Q (some (.int r21)) h20))))))))) : am_EI m_Main_hours kc ks 0 [.ref a0, .int x1, .int x2] [] h Q := by
  refine am_blk_ok (c := 11) (ini := false) (by decide) rfl (fun q => by cases q) bk_Main_hours_0_3 _ 3 _ _ _ bk_Main_hours_0_3_ok rfl ?_
  show am_EI m_Main_hours kc ks 3 [.ref a0, .int x1, .int x2] [.int x2, .int x1, .ref a0] h Q
  obtain ⟨o1, t⟩ := t
  refine am_callV (M2 := m_Main_findWindows) (ci := 11) (a := a0) (kc := kc) (ks := ks) (k2c := 0) (k2s := 0) (as := []) [.int x1, .int x2] dc_Main_hours_3 lk_11_215 im_Main_findWindows se_Main_findWindows lm_Main_findWindows np_Main_findWindows ⟨Nat.le_of_ble_eq_true rfl, Nat.le_of_ble_eq_true rfl⟩ (fun _ => Nat.le_of_ble_eq_true rfl) (by decide) rfl o1 (am_Ei.end (am_Ei.mono t (fun r3 h2 t => ?_)))
  refine am_if_ne (tgt := 15) dc_Main_hours_6 (by decide) (fun c4 => ?_) (fun c4 => ?_)
  · replace t := t.1 c4
    refine am_blk_ok (c := 11) (ini := false) (by decide) rfl (fun q => by cases q) bk_Main_hours_15_3 _ 20 _ _ _ bk_Main_hours_15_3_ok rfl ?_
    show (am_tg h2 a0 = (11, 18) ∧ (∃ b5, am_P h2 a0 7 = some b5 ∧ am_EI m_Main_hours kc ks 20 [.ref a0, .int x1, .int x2] [.ref b5, .ref a0] h2 Q))
    obtain ⟨o6, b5, q7, t⟩ := t
    refine ⟨o6, b5, q7, ?_⟩
    obtain ⟨o8, t⟩ := t
    refine am_callV (M2 := m_Windows_found) (ci := 10) (a := b5) (kc := kc) (ks := ks) (k2c := 0) (k2s := 0) (as := [.ref a0]) [] dc_Main_hours_20 lk_11_219 im_Windows_found se_Windows_found lm_Windows_found np_Windows_found ⟨Nat.le_of_ble_eq_true rfl, Nat.le_of_ble_eq_true rfl⟩ (fun _ => Nat.le_of_ble_eq_true rfl) (by decide) rfl o8 (am_Er.end (am_Er.mono t (fun r10 h9 t => ⟨fun c12 => ?_, fun b11 c12 => ?_⟩)))
    · replace t := t.1 c12
      exact t.elim
    · replace t := t.2 b11 c12
      obtain ⟨o13, t⟩ := t
      refine am_callV (M2 := m_Spans_size) (ci := 8) (a := b11) (kc := kc) (ks := ks) (k2c := 0) (k2s := 0) (as := [.ref a0]) [] dc_Main_hours_23 lk_11_223 im_Spans_size se_Spans_size lm_Spans_size np_Spans_size ⟨Nat.le_of_ble_eq_true rfl, Nat.le_of_ble_eq_true rfl⟩ (fun _ => Nat.le_of_ble_eq_true rfl) (by decide) rfl o13 (am_Ei.end (am_Ei.mono t (fun r15 h14 t => ?_)))
      obtain ⟨o16, t⟩ := t
      refine am_callV (M2 := m_Main_answer) (ci := 11) (a := a0) (kc := kc) (ks := ks) (k2c := 0) (k2s := 0) (as := []) [.int r15] dc_Main_hours_26 lk_11_119 im_Main_answer se_Main_answer lm_Main_answer np_Main_answer ⟨Nat.le_of_ble_eq_true rfl, Nat.le_of_ble_eq_true rfl⟩ (fun _ => Nat.le_of_ble_eq_true rfl) (by decide) rfl o16 (am_Ei.end (am_Ei.mono t (fun r18 h17 t => ?_)))
      exact am_iret dc_Main_hours_29 rfl t
  · replace t := t.2 c4
    refine am_blk_ok (c := 11) (ini := false) (by decide) rfl (fun q => by cases q) bk_Main_hours_9_2 _ 11 _ _ _ bk_Main_hours_9_2_ok rfl ?_
    show am_EI m_Main_hours kc ks 11 [.ref a0, .int x1, .int x2] [.int 1, .ref a0] h2 Q
    obtain ⟨o19, t⟩ := t
    refine am_callV (M2 := m_Main_refuse) (ci := 11) (a := a0) (kc := kc) (ks := ks) (k2c := 0) (k2s := 0) (as := []) [.int 1] dc_Main_hours_11 lk_11_108 im_Main_refuse se_Main_refuse lm_Main_refuse np_Main_refuse ⟨Nat.le_of_ble_eq_true rfl, Nat.le_of_ble_eq_true rfl⟩ (fun _ => Nat.le_of_ble_eq_true rfl) (by decide) rfl o19 (am_Ei.end (am_Ei.mono t (fun r21 h20 t => ?_)))
    exact am_iret dc_Main_hours_14 rfl t
set_option maxRecDepth 20000 in
theorem ev_Main_hours (a0 : Nat) (x1 x2 : Int32) (h : am_H) (Q : Int32 → am_H → Prop) (t : (am_tg h a0 = (11, 18) ∧ (am_Ei m_Main_findWindows 0 0 [.ref a0, .int x1, .int x2] h (fun r3 h2 => ((¬ r3 = 0 → (am_tg h2 a0 = (11, 18) ∧ (∃ b5, am_P h2 a0 7 = some b5 ∧ (am_tg h2 b5 = (10, 4) ∧ (am_Er m_Windows_found 0 0 [.ref b5] h2 (fun r10 h9 => (r10 = none → False) ∧ ∀ b11, r10 = some b11 → (am_tg h9 b11 = (8, 4) ∧ (am_Ei m_Spans_size 0 0 [.ref b11] h9 (fun r15 h14 => (am_tg h14 a0 = (11, 18) ∧ (am_Ei m_Main_answer 0 0 [.ref a0, .int r15] h14 (fun r18 h17 => Q r18 h17)))))))))))) ∧ (r3 = 0 → (am_tg h2 a0 = (11, 18) ∧ (am_Ei m_Main_refuse 0 0 [.ref a0, .int 1] h2 (fun r21 h20 => Q r21 h20))))))))) : am_Ei m_Main_hours 0 0 [.ref a0, .int x1, .int x2] h Q :=
  am_Ev.of (by decide +kernel) (Nat.le_of_ble_eq_true rfl) (by simp only [List.mem_cons, List.not_mem_nil, or_false]; intro v hv; rcases hv with rfl | rfl | rfl; all_goals first | exact trivial) (sg_Main_hours_0 (kc := 0) (ks := 0) a0 x1 x2 h (am_qi Q) t)
def bk_Main_init_0_1 : List am_E := [(0, .aload_n 0, 1, 0, 0)]
theorem bk_Main_init_0_1_ok : bk_Main_init_0_1.all (am_ok 11 true m_Main_init.2.1) = true := by decide +kernel
def bk_Main_init_4_1 : List am_E := [(4, .aload_n 0, 1, 0, 0)]
theorem bk_Main_init_4_1_ok : bk_Main_init_4_1.all (am_ok 11 true m_Main_init.2.1) = true := by decide +kernel
def bk_Main_init_8_1 : List am_E := [(8, .dup, 1, 0, 0)]
theorem bk_Main_init_8_1_ok : bk_Main_init_8_1.all (am_ok 11 true m_Main_init.2.1) = true := by decide +kernel
def bk_Main_init_12_1 : List am_E := [(12, .putfield 10, 3, 4401, 0)]
theorem bk_Main_init_12_1_ok : bk_Main_init_12_1.all (am_ok 11 true m_Main_init.2.1) = true := by decide +kernel
def bk_Main_init_15_1 : List am_E := [(15, .aload_n 0, 1, 0, 0)]
theorem bk_Main_init_15_1_ok : bk_Main_init_15_1.all (am_ok 11 true m_Main_init.2.1) = true := by decide +kernel
def bk_Main_init_19_1 : List am_E := [(19, .dup, 1, 0, 0)]
theorem bk_Main_init_19_1_ok : bk_Main_init_19_1.all (am_ok 11 true m_Main_init.2.1) = true := by decide +kernel
def bk_Main_init_23_1 : List am_E := [(23, .putfield 19, 3, 4405, 0)]
theorem bk_Main_init_23_1_ok : bk_Main_init_23_1.all (am_ok 11 true m_Main_init.2.1) = true := by decide +kernel
def bk_Main_init_26_1 : List am_E := [(26, .aload_n 0, 1, 0, 0)]
theorem bk_Main_init_26_1_ok : bk_Main_init_26_1.all (am_ok 11 true m_Main_init.2.1) = true := by decide +kernel
def bk_Main_init_30_2 : List am_E := [(30, .dup, 1, 0, 0), (31, .bipush 32, 2, 0, 32)]
theorem bk_Main_init_30_2_ok : bk_Main_init_30_2.all (am_ok 11 true m_Main_init.2.1) = true := by decide +kernel
def bk_Main_init_36_1 : List am_E := [(36, .putfield 28, 3, 4409, 0)]
theorem bk_Main_init_36_1_ok : bk_Main_init_36_1.all (am_ok 11 true m_Main_init.2.1) = true := by decide +kernel
def bk_Main_init_39_2 : List am_E := [(39, .aload_n 0, 1, 0, 0), (40, .bipush 8, 2, 0, 8)]
theorem bk_Main_init_39_2_ok : bk_Main_init_39_2.all (am_ok 11 true m_Main_init.2.1) = true := by decide +kernel
def bk_Main_init_45_1 : List am_E := [(45, .putfield 34, 3, 4413, 0)]
theorem bk_Main_init_45_1_ok : bk_Main_init_45_1.all (am_ok 11 true m_Main_init.2.1) = true := by decide +kernel
def bk_Main_init_48_2 : List am_E := [(48, .aload_n 0, 1, 0, 0), (49, .bipush 12, 2, 0, 12)]
theorem bk_Main_init_48_2_ok : bk_Main_init_48_2.all (am_ok 11 true m_Main_init.2.1) = true := by decide +kernel
def bk_Main_init_54_1 : List am_E := [(54, .putfield 40, 3, 4417, 0)]
theorem bk_Main_init_54_1_ok : bk_Main_init_54_1.all (am_ok 11 true m_Main_init.2.1) = true := by decide +kernel
def bk_Main_init_57_2 : List am_E := [(57, .aload_n 0, 1, 0, 0), (58, .bipush 6, 2, 0, 6)]
theorem bk_Main_init_57_2_ok : bk_Main_init_57_2.all (am_ok 11 true m_Main_init.2.1) = true := by decide +kernel
def bk_Main_init_63_1 : List am_E := [(63, .putfield 46, 3, 4421, 0)]
theorem bk_Main_init_63_1_ok : bk_Main_init_63_1.all (am_ok 11 true m_Main_init.2.1) = true := by decide +kernel
def bk_Main_init_66_2 : List am_E := [(66, .aload_n 0, 1, 0, 0), (67, .bipush 8, 2, 0, 8)]
theorem bk_Main_init_66_2_ok : bk_Main_init_66_2.all (am_ok 11 true m_Main_init.2.1) = true := by decide +kernel
def bk_Main_init_72_1 : List am_E := [(72, .putfield 50, 3, 4425, 0)]
theorem bk_Main_init_72_1_ok : bk_Main_init_72_1.all (am_ok 11 true m_Main_init.2.1) = true := by decide +kernel
def bk_Main_init_75_1 : List am_E := [(75, .aload_n 0, 1, 0, 0)]
theorem bk_Main_init_75_1_ok : bk_Main_init_75_1.all (am_ok 11 true m_Main_init.2.1) = true := by decide +kernel
def bk_Main_init_79_1 : List am_E := [(79, .dup, 1, 0, 0)]
theorem bk_Main_init_79_1_ok : bk_Main_init_79_1.all (am_ok 11 true m_Main_init.2.1) = true := by decide +kernel
def bk_Main_init_83_1 : List am_E := [(83, .putfield 57, 3, 4429, 0)]
theorem bk_Main_init_83_1_ok : bk_Main_init_83_1.all (am_ok 11 true m_Main_init.2.1) = true := by decide +kernel
def bk_Main_init_86_1 : List am_E := [(86, .aload_n 0, 1, 0, 0)]
theorem bk_Main_init_86_1_ok : bk_Main_init_86_1.all (am_ok 11 true m_Main_init.2.1) = true := by decide +kernel
def bk_Main_init_90_2 : List am_E := [(90, .dup, 1, 0, 0), (91, .bipush 24, 2, 0, 24)]
theorem bk_Main_init_90_2_ok : bk_Main_init_90_2.all (am_ok 11 true m_Main_init.2.1) = true := by decide +kernel
def bk_Main_init_96_1 : List am_E := [(96, .putfield 64, 3, 4433, 0)]
theorem bk_Main_init_96_1_ok : bk_Main_init_96_1.all (am_ok 11 true m_Main_init.2.1) = true := by decide +kernel
def bk_Main_init_99_1 : List am_E := [(99, .aload_n 0, 1, 0, 0)]
theorem bk_Main_init_99_1_ok : bk_Main_init_99_1.all (am_ok 11 true m_Main_init.2.1) = true := by decide +kernel
def bk_Main_init_103_1 : List am_E := [(103, .dup, 1, 0, 0)]
theorem bk_Main_init_103_1_ok : bk_Main_init_103_1.all (am_ok 11 true m_Main_init.2.1) = true := by decide +kernel
def bk_Main_init_107_1 : List am_E := [(107, .putfield 71, 3, 4437, 0)]
theorem bk_Main_init_107_1_ok : bk_Main_init_107_1.all (am_ok 11 true m_Main_init.2.1) = true := by decide +kernel
def bk_Main_init_110_1 : List am_E := [(110, .aload_n 0, 1, 0, 0)]
theorem bk_Main_init_110_1_ok : bk_Main_init_110_1.all (am_ok 11 true m_Main_init.2.1) = true := by decide +kernel
def bk_Main_init_114_1 : List am_E := [(114, .dup, 1, 0, 0)]
theorem bk_Main_init_114_1_ok : bk_Main_init_114_1.all (am_ok 11 true m_Main_init.2.1) = true := by decide +kernel
def bk_Main_init_118_1 : List am_E := [(118, .putfield 78, 3, 4441, 0)]
theorem bk_Main_init_118_1_ok : bk_Main_init_118_1.all (am_ok 11 true m_Main_init.2.1) = true := by decide +kernel
def bk_Main_init_121_3 : List am_E := [(121, .aload_n 0, 1, 0, 0), (122, .iconst 0, 1, 0, 0), (123, .putfield 82, 3, 4444, 0)]
theorem bk_Main_init_121_3_ok : bk_Main_init_121_3.all (am_ok 11 true m_Main_init.2.1) = true := by decide +kernel
def bk_Main_init_126_3 : List am_E := [(126, .aload_n 0, 1, 0, 0), (127, .iconst 0, 1, 0, 0), (128, .putfield 86, 3, 4448, 0)]
theorem bk_Main_init_126_3_ok : bk_Main_init_126_3.all (am_ok 11 true m_Main_init.2.1) = true := by decide +kernel
def bk_Main_init_131_3 : List am_E := [(131, .aload_n 0, 1, 0, 0), (132, .iconst 0, 1, 0, 0), (133, .putfield 89, 3, 4452, 0)]
theorem bk_Main_init_131_3_ok : bk_Main_init_131_3.all (am_ok 11 true m_Main_init.2.1) = true := by decide +kernel
def bk_Main_init_136_3 : List am_E := [(136, .aload_n 0, 1, 0, 0), (137, .iconst 0, 1, 0, 0), (138, .putfield 92, 3, 4456, 0)]
theorem bk_Main_init_136_3_ok : bk_Main_init_136_3.all (am_ok 11 true m_Main_init.2.1) = true := by decide +kernel
def bk_Main_init_141_3 : List am_E := [(141, .aload_n 0, 1, 0, 0), (142, .iconst 0, 1, 0, 0), (143, .putfield 95, 3, 4460, 0)]
theorem bk_Main_init_141_3_ok : bk_Main_init_141_3.all (am_ok 11 true m_Main_init.2.1) = true := by decide +kernel
def bk_Main_init_146_3 : List am_E := [(146, .aload_n 0, 1, 0, 0), (147, .sipush (-9999), 3, 0, -9999), (150, .putfield 98, 3, 4464, 0)]
theorem bk_Main_init_146_3_ok : bk_Main_init_146_3.all (am_ok 11 true m_Main_init.2.1) = true := by decide +kernel
def bk_Main_init_153_3 : List am_E := [(153, .aload_n 0, 1, 0, 0), (154, .iconst 0, 1, 0, 0), (155, .putfield 101, 3, 4468, 0)]
theorem bk_Main_init_153_3_ok : bk_Main_init_153_3.all (am_ok 11 true m_Main_init.2.1) = true := by decide +kernel
theorem dc_Main_init_9 : decode m_Main_init.2.1 9 = .ok (.invokespecial 9, 3) := by decide +kernel
theorem dc_Main_init_5 : decode m_Main_init.2.1 5 = .ok (.new 7, 3) := by decide +kernel
theorem dc_Main_init_1 : decode m_Main_init.2.1 1 = .ok (.invokespecial 1, 3) := by decide +kernel
theorem dc_Main_init_20 : decode m_Main_init.2.1 20 = .ok (.invokespecial 18, 3) := by decide +kernel
theorem dc_Main_init_16 : decode m_Main_init.2.1 16 = .ok (.new 16, 3) := by decide +kernel
theorem dc_Main_init_33 : decode m_Main_init.2.1 33 = .ok (.invokespecial 25, 3) := by decide +kernel
theorem dc_Main_init_27 : decode m_Main_init.2.1 27 = .ok (.new 23, 3) := by decide +kernel
theorem dc_Main_init_42 : decode m_Main_init.2.1 42 = .ok (.anewarray 32, 3) := by decide +kernel
theorem dc_Main_init_51 : decode m_Main_init.2.1 51 = .ok (.anewarray 38, 3) := by decide +kernel
theorem dc_Main_init_60 : decode m_Main_init.2.1 60 = .ok (.anewarray 44, 3) := by decide +kernel
theorem dc_Main_init_69 : decode m_Main_init.2.1 69 = .ok (.anewarray 23, 3) := by decide +kernel
theorem dc_Main_init_80 : decode m_Main_init.2.1 80 = .ok (.invokespecial 56, 3) := by decide +kernel
theorem dc_Main_init_76 : decode m_Main_init.2.1 76 = .ok (.new 54, 3) := by decide +kernel
theorem dc_Main_init_93 : decode m_Main_init.2.1 93 = .ok (.invokespecial 63, 3) := by decide +kernel
theorem dc_Main_init_87 : decode m_Main_init.2.1 87 = .ok (.new 61, 3) := by decide +kernel
theorem dc_Main_init_104 : decode m_Main_init.2.1 104 = .ok (.invokespecial 70, 3) := by decide +kernel
theorem dc_Main_init_100 : decode m_Main_init.2.1 100 = .ok (.new 68, 3) := by decide +kernel
theorem dc_Main_init_115 : decode m_Main_init.2.1 115 = .ok (.invokespecial 77, 3) := by decide +kernel
theorem dc_Main_init_111 : decode m_Main_init.2.1 111 = .ok (.new 75, 3) := by decide +kernel
theorem dc_Main_init_158 : decode m_Main_init.2.1 158 = .ok (.return_, 1) := by decide +kernel
set_option maxRecDepth 20000 in
theorem sg_Main_init_0 {kc ks : Nat} (a0 : Nat) (h : am_H) (Q : Option Value → am_H → Prop) (t : (am_Ew m_Tape_init 1 120 [.ref (am_sz h)] (am_nw h 9 4) (fun h1 => (am_tg h1 a0 = (11, 18) ∧ am_EI m_Main_init kc ks 15 [.ref a0] [] (am_sp h1 a0 0 (some (am_sz h))) Q)))) : am_EI m_Main_init (kc + 1 + 1) (ks + 120 + 4) 0 [.ref a0] [] h Q := by
  refine am_blk_ok (c := 11) (ini := true) (by decide) rfl (fun _ => rfl) bk_Main_init_0_1 _ 1 _ _ _ bk_Main_init_0_1_ok rfl ?_
  show am_EI m_Main_init (kc + 1 + 1) (ks + 120 + 4) 1 [.ref a0] [.ref a0] h Q
  refine am_oinit (a := a0) dc_Main_init_1 lk_11_1 oi_2 oi_3 (by decide) (by decide) ?_
  refine am_blk_ok (c := 11) (ini := true) (by decide) rfl (fun _ => rfl) bk_Main_init_4_1 _ 5 _ _ _ bk_Main_init_4_1_ok rfl ?_
  show am_EI m_Main_init (kc + 1 + 1) (ks + 120 + 4) 5 [.ref a0] [.ref a0] h Q
  refine am_new (kc := (kc + 1)) (ks := (ks + 120)) (ci := 9) dc_Main_init_5 (by decide) cl_11_7 in_9 ii_9 ?_
  refine am_blk_ok (c := 11) (ini := true) (by decide) rfl (fun _ => rfl) bk_Main_init_8_1 _ 9 _ _ _ bk_Main_init_8_1_ok rfl ?_
  show am_EI m_Main_init (kc + 1) (ks + 120) 9 [.ref a0] [.ref (am_sz h), .ref (am_sz h), .ref a0] (am_nw h 9 4) Q
  refine am_callIN (M2 := m_Tape_init) (host := "SillHours") (a := am_sz h) (kc := kc) (ks := ks) (k2c := 1) (k2s := 120) (as := [.ref (am_sz h), .ref a0]) [] dc_Main_init_9 (by decide) im_Tape_init rfl rfl lm_Tape_init np_Tape_init ⟨Nat.le_of_ble_eq_true rfl, Nat.le_of_ble_eq_true rfl⟩ (fun _ => Nat.le_of_ble_eq_true rfl) (am_Ew.end (am_Ew.mono t (fun h1 t => ?_)))
  refine am_blk_ok (c := 11) (ini := true) (by decide) rfl (fun _ => rfl) bk_Main_init_12_1 _ 15 _ _ _ bk_Main_init_12_1_ok rfl ?_
  show (am_tg h1 a0 = (11, 18) ∧ am_EI m_Main_init kc ks 15 [.ref a0] [] (am_sp h1 a0 0 (some (am_sz h))) Q)
  obtain ⟨o2, t⟩ := t
  refine ⟨o2, ?_⟩
  exact t
set_option maxRecDepth 20000 in
theorem ev_Main_init (a0 : Nat) (h : am_H) (Q : am_H → Prop) (t : (am_Ew m_Tape_init 1 120 [.ref (am_sz h)] (am_nw h 9 4) (fun h1 => (am_tg h1 a0 = (11, 18) ∧ am_EI m_Main_init 0 0 15 [.ref a0] [] (am_sp h1 a0 0 (some (am_sz h))) (am_qw Q))))) : am_Ew m_Main_init (0 + 1 + 1) (0 + 120 + 4) [.ref a0] h Q :=
  am_Ev.of (by decide +kernel) (Nat.le_of_ble_eq_true rfl) (by simp only [List.mem_cons, List.not_mem_nil, or_false]; intro v hv; rcases hv with rfl; all_goals first | exact trivial) (sg_Main_init_0 (kc := 0) (ks := 0) a0 h (am_qw Q) t)
set_option maxRecDepth 20000 in
theorem sg_Main_init_15 {kc ks : Nat} (a0 : Nat) (h : am_H) (Q : Option Value → am_H → Prop) (t : (am_Ew m_Draft_init 9 207 [.ref (am_sz h)] (am_nw h 3 7) (fun h1 => (am_tg h1 a0 = (11, 18) ∧ am_EI m_Main_init kc ks 26 [.ref a0] [] (am_sp h1 a0 1 (some (am_sz h))) Q)))) : am_EI m_Main_init (kc + 9 + 1) (ks + 207 + 7) 15 [.ref a0] [] h Q := by
  refine am_blk_ok (c := 11) (ini := true) (by decide) rfl (fun _ => rfl) bk_Main_init_15_1 _ 16 _ _ _ bk_Main_init_15_1_ok rfl ?_
  show am_EI m_Main_init (kc + 9 + 1) (ks + 207 + 7) 16 [.ref a0] [.ref a0] h Q
  refine am_new (kc := (kc + 9)) (ks := (ks + 207)) (ci := 3) dc_Main_init_16 (by decide) cl_11_16 in_3 ii_3 ?_
  refine am_blk_ok (c := 11) (ini := true) (by decide) rfl (fun _ => rfl) bk_Main_init_19_1 _ 20 _ _ _ bk_Main_init_19_1_ok rfl ?_
  show am_EI m_Main_init (kc + 9) (ks + 207) 20 [.ref a0] [.ref (am_sz h), .ref (am_sz h), .ref a0] (am_nw h 3 7) Q
  refine am_callIN (M2 := m_Draft_init) (host := "SillHours") (a := am_sz h) (kc := kc) (ks := ks) (k2c := 9) (k2s := 207) (as := [.ref (am_sz h), .ref a0]) [] dc_Main_init_20 (by decide) im_Draft_init rfl rfl lm_Draft_init np_Draft_init ⟨Nat.le_of_ble_eq_true rfl, Nat.le_of_ble_eq_true rfl⟩ (fun _ => Nat.le_of_ble_eq_true rfl) (am_Ew.end (am_Ew.mono t (fun h1 t => ?_)))
  refine am_blk_ok (c := 11) (ini := true) (by decide) rfl (fun _ => rfl) bk_Main_init_23_1 _ 26 _ _ _ bk_Main_init_23_1_ok rfl ?_
  show (am_tg h1 a0 = (11, 18) ∧ am_EI m_Main_init kc ks 26 [.ref a0] [] (am_sp h1 a0 1 (some (am_sz h))) Q)
  obtain ⟨o2, t⟩ := t
  refine ⟨o2, ?_⟩
  exact t
set_option maxRecDepth 20000 in
theorem sg_Main_init_26 {kc ks : Nat} (a0 : Nat) (h : am_H) (Q : Option Value → am_H → Prop) (t : (am_Ew m_Route_init 5 160 [.ref (am_sz h), .int 32] (am_nw h 4 7) (fun h1 => (am_tg h1 a0 = (11, 18) ∧ am_EI m_Main_init kc ks 39 [.ref a0] [] (am_sp h1 a0 2 (some (am_sz h))) Q)))) : am_EI m_Main_init (kc + 5 + 1) (ks + 160 + 7) 26 [.ref a0] [] h Q := by
  refine am_blk_ok (c := 11) (ini := true) (by decide) rfl (fun _ => rfl) bk_Main_init_26_1 _ 27 _ _ _ bk_Main_init_26_1_ok rfl ?_
  show am_EI m_Main_init (kc + 5 + 1) (ks + 160 + 7) 27 [.ref a0] [.ref a0] h Q
  refine am_new (kc := (kc + 5)) (ks := (ks + 160)) (ci := 4) dc_Main_init_27 (by decide) cl_11_23 in_4 ii_4 ?_
  refine am_blk_ok (c := 11) (ini := true) (by decide) rfl (fun _ => rfl) bk_Main_init_30_2 _ 33 _ _ _ bk_Main_init_30_2_ok rfl ?_
  show am_EI m_Main_init (kc + 5) (ks + 160) 33 [.ref a0] [.int 32, .ref (am_sz h), .ref (am_sz h), .ref a0] (am_nw h 4 7) Q
  refine am_callI (M2 := m_Route_init) (a := am_sz h) (kc := kc) (ks := ks) (k2c := 5) (k2s := 160) (as := [.ref (am_sz h), .ref a0]) [.int 32] dc_Main_init_33 lk_11_25 im_Route_init rfl rfl lm_Route_init np_Route_init ⟨Nat.le_of_ble_eq_true rfl, Nat.le_of_ble_eq_true rfl⟩ (fun _ => Nat.le_of_ble_eq_true rfl) (am_Ew.end (am_Ew.mono t (fun h1 t => ?_)))
  refine am_blk_ok (c := 11) (ini := true) (by decide) rfl (fun _ => rfl) bk_Main_init_36_1 _ 39 _ _ _ bk_Main_init_36_1_ok rfl ?_
  show (am_tg h1 a0 = (11, 18) ∧ am_EI m_Main_init kc ks 39 [.ref a0] [] (am_sp h1 a0 2 (some (am_sz h))) Q)
  obtain ⟨o2, t⟩ := t
  refine ⟨o2, ?_⟩
  exact t
set_option maxRecDepth 20000 in
theorem sg_Main_init_39 {kc ks : Nat} (a0 : Nat) (h : am_H) (Q : Option Value → am_H → Prop) (t : (am_tg (am_nw h 32 8) a0 = (11, 18) ∧ am_EI m_Main_init kc ks 48 [.ref a0] [] (am_sp (am_nw h 32 8) a0 3 (some (am_sz h))) Q)) : am_EI m_Main_init (kc + 1) (ks + 8) 39 [.ref a0] [] h Q := by
  refine am_blk_ok (c := 11) (ini := true) (by decide) rfl (fun _ => rfl) bk_Main_init_39_2 _ 42 _ _ _ bk_Main_init_39_2_ok rfl ?_
  show am_EI m_Main_init (kc + 1) (ks + 8) 42 [.ref a0] [.int 8, .ref a0] h Q
  refine am_anew (kc := kc) (ks := ks) (cb := 2) (N := 8) dc_Main_init_42 (by decide) cl_11_32 (by decide) (by decide) (by decide) ?_
  refine am_blk_ok (c := 11) (ini := true) (by decide) rfl (fun _ => rfl) bk_Main_init_45_1 _ 48 _ _ _ bk_Main_init_45_1_ok rfl ?_
  show (am_tg (am_nw h 32 8) a0 = (11, 18) ∧ am_EI m_Main_init kc ks 48 [.ref a0] [] (am_sp (am_nw h 32 8) a0 3 (some (am_sz h))) Q)
  obtain ⟨o1, t⟩ := t
  refine ⟨o1, ?_⟩
  exact t
set_option maxRecDepth 20000 in
theorem sg_Main_init_48 {kc ks : Nat} (a0 : Nat) (h : am_H) (Q : Option Value → am_H → Prop) (t : (am_tg (am_nw h 37 12) a0 = (11, 18) ∧ am_EI m_Main_init kc ks 57 [.ref a0] [] (am_sp (am_nw h 37 12) a0 4 (some (am_sz h))) Q)) : am_EI m_Main_init (kc + 1) (ks + 12) 48 [.ref a0] [] h Q := by
  refine am_blk_ok (c := 11) (ini := true) (by decide) rfl (fun _ => rfl) bk_Main_init_48_2 _ 51 _ _ _ bk_Main_init_48_2_ok rfl ?_
  show am_EI m_Main_init (kc + 1) (ks + 12) 51 [.ref a0] [.int 12, .ref a0] h Q
  refine am_anew (kc := kc) (ks := ks) (cb := 7) (N := 12) dc_Main_init_51 (by decide) cl_11_38 (by decide) (by decide) (by decide) ?_
  refine am_blk_ok (c := 11) (ini := true) (by decide) rfl (fun _ => rfl) bk_Main_init_54_1 _ 57 _ _ _ bk_Main_init_54_1_ok rfl ?_
  show (am_tg (am_nw h 37 12) a0 = (11, 18) ∧ am_EI m_Main_init kc ks 57 [.ref a0] [] (am_sp (am_nw h 37 12) a0 4 (some (am_sz h))) Q)
  obtain ⟨o1, t⟩ := t
  refine ⟨o1, ?_⟩
  exact t
set_option maxRecDepth 20000 in
theorem sg_Main_init_57 {kc ks : Nat} (a0 : Nat) (h : am_H) (Q : Option Value → am_H → Prop) (t : (am_tg (am_nw h 36 6) a0 = (11, 18) ∧ am_EI m_Main_init kc ks 66 [.ref a0] [] (am_sp (am_nw h 36 6) a0 5 (some (am_sz h))) Q)) : am_EI m_Main_init (kc + 1) (ks + 6) 57 [.ref a0] [] h Q := by
  refine am_blk_ok (c := 11) (ini := true) (by decide) rfl (fun _ => rfl) bk_Main_init_57_2 _ 60 _ _ _ bk_Main_init_57_2_ok rfl ?_
  show am_EI m_Main_init (kc + 1) (ks + 6) 60 [.ref a0] [.int 6, .ref a0] h Q
  refine am_anew (kc := kc) (ks := ks) (cb := 6) (N := 6) dc_Main_init_60 (by decide) cl_11_44 (by decide) (by decide) (by decide) ?_
  refine am_blk_ok (c := 11) (ini := true) (by decide) rfl (fun _ => rfl) bk_Main_init_63_1 _ 66 _ _ _ bk_Main_init_63_1_ok rfl ?_
  show (am_tg (am_nw h 36 6) a0 = (11, 18) ∧ am_EI m_Main_init kc ks 66 [.ref a0] [] (am_sp (am_nw h 36 6) a0 5 (some (am_sz h))) Q)
  obtain ⟨o1, t⟩ := t
  refine ⟨o1, ?_⟩
  exact t
set_option maxRecDepth 20000 in
theorem sg_Main_init_66 {kc ks : Nat} (a0 : Nat) (h : am_H) (Q : Option Value → am_H → Prop) (t : (am_tg (am_nw h 34 8) a0 = (11, 18) ∧ am_EI m_Main_init kc ks 75 [.ref a0] [] (am_sp (am_nw h 34 8) a0 6 (some (am_sz h))) Q)) : am_EI m_Main_init (kc + 1) (ks + 8) 66 [.ref a0] [] h Q := by
  refine am_blk_ok (c := 11) (ini := true) (by decide) rfl (fun _ => rfl) bk_Main_init_66_2 _ 69 _ _ _ bk_Main_init_66_2_ok rfl ?_
  show am_EI m_Main_init (kc + 1) (ks + 8) 69 [.ref a0] [.int 8, .ref a0] h Q
  refine am_anew (kc := kc) (ks := ks) (cb := 4) (N := 8) dc_Main_init_69 (by decide) cl_11_23 (by decide) (by decide) (by decide) ?_
  refine am_blk_ok (c := 11) (ini := true) (by decide) rfl (fun _ => rfl) bk_Main_init_72_1 _ 75 _ _ _ bk_Main_init_72_1_ok rfl ?_
  show (am_tg (am_nw h 34 8) a0 = (11, 18) ∧ am_EI m_Main_init kc ks 75 [.ref a0] [] (am_sp (am_nw h 34 8) a0 6 (some (am_sz h))) Q)
  obtain ⟨o1, t⟩ := t
  refine ⟨o1, ?_⟩
  exact t
set_option maxRecDepth 20000 in
theorem sg_Main_init_75 {kc ks : Nat} (a0 : Nat) (h : am_H) (Q : Option Value → am_H → Prop) (t : (am_Ew m_Windows_init 9 156 [.ref (am_sz h)] (am_nw h 10 4) (fun h1 => (am_tg h1 a0 = (11, 18) ∧ am_EI m_Main_init kc ks 86 [.ref a0] [] (am_sp h1 a0 7 (some (am_sz h))) Q)))) : am_EI m_Main_init (kc + 9 + 1) (ks + 156 + 4) 75 [.ref a0] [] h Q := by
  refine am_blk_ok (c := 11) (ini := true) (by decide) rfl (fun _ => rfl) bk_Main_init_75_1 _ 76 _ _ _ bk_Main_init_75_1_ok rfl ?_
  show am_EI m_Main_init (kc + 9 + 1) (ks + 156 + 4) 76 [.ref a0] [.ref a0] h Q
  refine am_new (kc := (kc + 9)) (ks := (ks + 156)) (ci := 10) dc_Main_init_76 (by decide) cl_11_54 in_10 ii_10 ?_
  refine am_blk_ok (c := 11) (ini := true) (by decide) rfl (fun _ => rfl) bk_Main_init_79_1 _ 80 _ _ _ bk_Main_init_79_1_ok rfl ?_
  show am_EI m_Main_init (kc + 9) (ks + 156) 80 [.ref a0] [.ref (am_sz h), .ref (am_sz h), .ref a0] (am_nw h 10 4) Q
  refine am_callIN (M2 := m_Windows_init) (host := "SillHours") (a := am_sz h) (kc := kc) (ks := ks) (k2c := 9) (k2s := 156) (as := [.ref (am_sz h), .ref a0]) [] dc_Main_init_80 (by decide) im_Windows_init rfl rfl lm_Windows_init np_Windows_init ⟨Nat.le_of_ble_eq_true rfl, Nat.le_of_ble_eq_true rfl⟩ (fun _ => Nat.le_of_ble_eq_true rfl) (am_Ew.end (am_Ew.mono t (fun h1 t => ?_)))
  refine am_blk_ok (c := 11) (ini := true) (by decide) rfl (fun _ => rfl) bk_Main_init_83_1 _ 86 _ _ _ bk_Main_init_83_1_ok rfl ?_
  show (am_tg h1 a0 = (11, 18) ∧ am_EI m_Main_init kc ks 86 [.ref a0] [] (am_sp h1 a0 7 (some (am_sz h))) Q)
  obtain ⟨o2, t⟩ := t
  refine ⟨o2, ?_⟩
  exact t
set_option maxRecDepth 20000 in
theorem sg_Main_init_86 {kc ks : Nat} (a0 : Nat) (h : am_H) (Q : Option Value → am_H → Prop) (t : (am_Ew m_Spans_init 2 48 [.ref (am_sz h), .int 24] (am_nw h 8 4) (fun h1 => (am_tg h1 a0 = (11, 18) ∧ am_EI m_Main_init kc ks 99 [.ref a0] [] (am_sp h1 a0 8 (some (am_sz h))) Q)))) : am_EI m_Main_init (kc + 2 + 1) (ks + 48 + 4) 86 [.ref a0] [] h Q := by
  refine am_blk_ok (c := 11) (ini := true) (by decide) rfl (fun _ => rfl) bk_Main_init_86_1 _ 87 _ _ _ bk_Main_init_86_1_ok rfl ?_
  show am_EI m_Main_init (kc + 2 + 1) (ks + 48 + 4) 87 [.ref a0] [.ref a0] h Q
  refine am_new (kc := (kc + 2)) (ks := (ks + 48)) (ci := 8) dc_Main_init_87 (by decide) cl_11_61 in_8 ii_8 ?_
  refine am_blk_ok (c := 11) (ini := true) (by decide) rfl (fun _ => rfl) bk_Main_init_90_2 _ 93 _ _ _ bk_Main_init_90_2_ok rfl ?_
  show am_EI m_Main_init (kc + 2) (ks + 48) 93 [.ref a0] [.int 24, .ref (am_sz h), .ref (am_sz h), .ref a0] (am_nw h 8 4) Q
  refine am_callI (M2 := m_Spans_init) (a := am_sz h) (kc := kc) (ks := ks) (k2c := 2) (k2s := 48) (as := [.ref (am_sz h), .ref a0]) [.int 24] dc_Main_init_93 lk_11_63 im_Spans_init rfl rfl lm_Spans_init np_Spans_init ⟨Nat.le_of_ble_eq_true rfl, Nat.le_of_ble_eq_true rfl⟩ (fun _ => Nat.le_of_ble_eq_true rfl) (am_Ew.end (am_Ew.mono t (fun h1 t => ?_)))
  refine am_blk_ok (c := 11) (ini := true) (by decide) rfl (fun _ => rfl) bk_Main_init_96_1 _ 99 _ _ _ bk_Main_init_96_1_ok rfl ?_
  show (am_tg h1 a0 = (11, 18) ∧ am_EI m_Main_init kc ks 99 [.ref a0] [] (am_sp h1 a0 8 (some (am_sz h))) Q)
  obtain ⟨o2, t⟩ := t
  refine ⟨o2, ?_⟩
  exact t
set_option maxRecDepth 20000 in
theorem sg_Main_init_99 {kc ks : Nat} (a0 : Nat) (h : am_H) (Q : Option Value → am_H → Prop) (t : (am_Ew m_Planner_init 48 2880 [.ref (am_sz h)] (am_nw h 1 7) (fun h1 => (am_tg h1 a0 = (11, 18) ∧ am_EI m_Main_init kc ks 110 [.ref a0] [] (am_sp h1 a0 9 (some (am_sz h))) Q)))) : am_EI m_Main_init (kc + 48 + 1) (ks + 2880 + 7) 99 [.ref a0] [] h Q := by
  refine am_blk_ok (c := 11) (ini := true) (by decide) rfl (fun _ => rfl) bk_Main_init_99_1 _ 100 _ _ _ bk_Main_init_99_1_ok rfl ?_
  show am_EI m_Main_init (kc + 48 + 1) (ks + 2880 + 7) 100 [.ref a0] [.ref a0] h Q
  refine am_new (kc := (kc + 48)) (ks := (ks + 2880)) (ci := 1) dc_Main_init_100 (by decide) cl_11_68 in_1 ii_1 ?_
  refine am_blk_ok (c := 11) (ini := true) (by decide) rfl (fun _ => rfl) bk_Main_init_103_1 _ 104 _ _ _ bk_Main_init_103_1_ok rfl ?_
  show am_EI m_Main_init (kc + 48) (ks + 2880) 104 [.ref a0] [.ref (am_sz h), .ref (am_sz h), .ref a0] (am_nw h 1 7) Q
  refine am_callI (M2 := m_Planner_init) (a := am_sz h) (kc := kc) (ks := ks) (k2c := 48) (k2s := 2880) (as := [.ref (am_sz h), .ref a0]) [] dc_Main_init_104 lk_11_70 im_Planner_init rfl rfl lm_Planner_init np_Planner_init ⟨Nat.le_of_ble_eq_true rfl, Nat.le_of_ble_eq_true rfl⟩ (fun _ => Nat.le_of_ble_eq_true rfl) (am_Ew.end (am_Ew.mono t (fun h1 t => ?_)))
  refine am_blk_ok (c := 11) (ini := true) (by decide) rfl (fun _ => rfl) bk_Main_init_107_1 _ 110 _ _ _ bk_Main_init_107_1_ok rfl ?_
  show (am_tg h1 a0 = (11, 18) ∧ am_EI m_Main_init kc ks 110 [.ref a0] [] (am_sp h1 a0 9 (some (am_sz h))) Q)
  obtain ⟨o2, t⟩ := t
  refine ⟨o2, ?_⟩
  exact t
set_option maxRecDepth 20000 in
theorem sg_Main_init_110 {kc ks : Nat} (a0 : Nat) (h : am_H) (Q : Option Value → am_H → Prop) (t : (am_Ew m_Page_init 1 256 [.ref (am_sz h)] (am_nw h 0 2) (fun h1 => (am_tg h1 a0 = (11, 18) ∧ am_EI m_Main_init kc ks 121 [.ref a0] [] (am_sp h1 a0 10 (some (am_sz h))) Q)))) : am_EI m_Main_init (kc + 1 + 1) (ks + 256 + 2) 110 [.ref a0] [] h Q := by
  refine am_blk_ok (c := 11) (ini := true) (by decide) rfl (fun _ => rfl) bk_Main_init_110_1 _ 111 _ _ _ bk_Main_init_110_1_ok rfl ?_
  show am_EI m_Main_init (kc + 1 + 1) (ks + 256 + 2) 111 [.ref a0] [.ref a0] h Q
  refine am_new (kc := (kc + 1)) (ks := (ks + 256)) (ci := 0) dc_Main_init_111 (by decide) cl_11_75 in_0 ii_0 ?_
  refine am_blk_ok (c := 11) (ini := true) (by decide) rfl (fun _ => rfl) bk_Main_init_114_1 _ 115 _ _ _ bk_Main_init_114_1_ok rfl ?_
  show am_EI m_Main_init (kc + 1) (ks + 256) 115 [.ref a0] [.ref (am_sz h), .ref (am_sz h), .ref a0] (am_nw h 0 2) Q
  refine am_callIN (M2 := m_Page_init) (host := "SillHours") (a := am_sz h) (kc := kc) (ks := ks) (k2c := 1) (k2s := 256) (as := [.ref (am_sz h), .ref a0]) [] dc_Main_init_115 (by decide) im_Page_init rfl rfl lm_Page_init np_Page_init ⟨Nat.le_of_ble_eq_true rfl, Nat.le_of_ble_eq_true rfl⟩ (fun _ => Nat.le_of_ble_eq_true rfl) (am_Ew.end (am_Ew.mono t (fun h1 t => ?_)))
  refine am_blk_ok (c := 11) (ini := true) (by decide) rfl (fun _ => rfl) bk_Main_init_118_1 _ 121 _ _ _ bk_Main_init_118_1_ok rfl ?_
  show (am_tg h1 a0 = (11, 18) ∧ am_EI m_Main_init kc ks 121 [.ref a0] [] (am_sp h1 a0 10 (some (am_sz h))) Q)
  obtain ⟨o2, t⟩ := t
  refine ⟨o2, ?_⟩
  exact t
set_option maxRecDepth 20000 in
theorem sg_Main_init_121 {kc ks : Nat} (a0 : Nat) (h : am_H) (Q : Option Value → am_H → Prop) (t : (am_tg h a0 = (11, 18) ∧ am_EI m_Main_init kc ks 126 [.ref a0] [] (am_si h a0 11 0) Q)) : am_EI m_Main_init kc ks 121 [.ref a0] [] h Q := by
  refine am_blk_ok (c := 11) (ini := true) (by decide) rfl (fun _ => rfl) bk_Main_init_121_3 _ 126 _ _ _ bk_Main_init_121_3_ok rfl ?_
  show (am_tg h a0 = (11, 18) ∧ am_EI m_Main_init kc ks 126 [.ref a0] [] (am_si h a0 11 0) Q)
  obtain ⟨o1, t⟩ := t
  refine ⟨o1, ?_⟩
  exact t
set_option maxRecDepth 20000 in
theorem sg_Main_init_126 {kc ks : Nat} (a0 : Nat) (h : am_H) (Q : Option Value → am_H → Prop) (t : (am_tg h a0 = (11, 18) ∧ am_EI m_Main_init kc ks 131 [.ref a0] [] (am_si h a0 12 0) Q)) : am_EI m_Main_init kc ks 126 [.ref a0] [] h Q := by
  refine am_blk_ok (c := 11) (ini := true) (by decide) rfl (fun _ => rfl) bk_Main_init_126_3 _ 131 _ _ _ bk_Main_init_126_3_ok rfl ?_
  show (am_tg h a0 = (11, 18) ∧ am_EI m_Main_init kc ks 131 [.ref a0] [] (am_si h a0 12 0) Q)
  obtain ⟨o1, t⟩ := t
  refine ⟨o1, ?_⟩
  exact t
set_option maxRecDepth 20000 in
theorem sg_Main_init_131 {kc ks : Nat} (a0 : Nat) (h : am_H) (Q : Option Value → am_H → Prop) (t : (am_tg h a0 = (11, 18) ∧ am_EI m_Main_init kc ks 136 [.ref a0] [] (am_si h a0 13 0) Q)) : am_EI m_Main_init kc ks 131 [.ref a0] [] h Q := by
  refine am_blk_ok (c := 11) (ini := true) (by decide) rfl (fun _ => rfl) bk_Main_init_131_3 _ 136 _ _ _ bk_Main_init_131_3_ok rfl ?_
  show (am_tg h a0 = (11, 18) ∧ am_EI m_Main_init kc ks 136 [.ref a0] [] (am_si h a0 13 0) Q)
  obtain ⟨o1, t⟩ := t
  refine ⟨o1, ?_⟩
  exact t
set_option maxRecDepth 20000 in
theorem sg_Main_init_136 {kc ks : Nat} (a0 : Nat) (h : am_H) (Q : Option Value → am_H → Prop) (t : (am_tg h a0 = (11, 18) ∧ am_EI m_Main_init kc ks 141 [.ref a0] [] (am_si h a0 14 0) Q)) : am_EI m_Main_init kc ks 136 [.ref a0] [] h Q := by
  refine am_blk_ok (c := 11) (ini := true) (by decide) rfl (fun _ => rfl) bk_Main_init_136_3 _ 141 _ _ _ bk_Main_init_136_3_ok rfl ?_
  show (am_tg h a0 = (11, 18) ∧ am_EI m_Main_init kc ks 141 [.ref a0] [] (am_si h a0 14 0) Q)
  obtain ⟨o1, t⟩ := t
  refine ⟨o1, ?_⟩
  exact t
set_option maxRecDepth 20000 in
theorem sg_Main_init_141 {kc ks : Nat} (a0 : Nat) (h : am_H) (Q : Option Value → am_H → Prop) (t : (am_tg h a0 = (11, 18) ∧ am_EI m_Main_init kc ks 146 [.ref a0] [] (am_si h a0 15 0) Q)) : am_EI m_Main_init kc ks 141 [.ref a0] [] h Q := by
  refine am_blk_ok (c := 11) (ini := true) (by decide) rfl (fun _ => rfl) bk_Main_init_141_3 _ 146 _ _ _ bk_Main_init_141_3_ok rfl ?_
  show (am_tg h a0 = (11, 18) ∧ am_EI m_Main_init kc ks 146 [.ref a0] [] (am_si h a0 15 0) Q)
  obtain ⟨o1, t⟩ := t
  refine ⟨o1, ?_⟩
  exact t
set_option maxRecDepth 20000 in
theorem sg_Main_init_146 {kc ks : Nat} (a0 : Nat) (h : am_H) (Q : Option Value → am_H → Prop) (t : (am_tg h a0 = (11, 18) ∧ am_EI m_Main_init kc ks 153 [.ref a0] [] (am_si h a0 16 (-9999)) Q)) : am_EI m_Main_init kc ks 146 [.ref a0] [] h Q := by
  refine am_blk_ok (c := 11) (ini := true) (by decide) rfl (fun _ => rfl) bk_Main_init_146_3 _ 153 _ _ _ bk_Main_init_146_3_ok rfl ?_
  show (am_tg h a0 = (11, 18) ∧ am_EI m_Main_init kc ks 153 [.ref a0] [] (am_si h a0 16 (-9999)) Q)
  obtain ⟨o1, t⟩ := t
  refine ⟨o1, ?_⟩
  exact t
set_option maxRecDepth 20000 in
theorem sg_Main_init_153 {kc ks : Nat} (a0 : Nat) (h : am_H) (Q : Option Value → am_H → Prop) (t : (am_tg h a0 = (11, 18) ∧ am_EI m_Main_init kc ks 158 [.ref a0] [] (am_si h a0 17 0) Q)) : am_EI m_Main_init kc ks 153 [.ref a0] [] h Q := by
  refine am_blk_ok (c := 11) (ini := true) (by decide) rfl (fun _ => rfl) bk_Main_init_153_3 _ 158 _ _ _ bk_Main_init_153_3_ok rfl ?_
  show (am_tg h a0 = (11, 18) ∧ am_EI m_Main_init kc ks 158 [.ref a0] [] (am_si h a0 17 0) Q)
  obtain ⟨o1, t⟩ := t
  refine ⟨o1, ?_⟩
  exact t
set_option maxRecDepth 20000 in
theorem sg_Main_init_158 {kc ks : Nat} (a0 : Nat) (h : am_H) (Q : Option Value → am_H → Prop) (t : Q none h) : am_EI m_Main_init kc ks 158 [.ref a0] [] h Q := by
  exact am_vret dc_Main_init_158 rfl t
def bk_Main_isHeightToAsk_0_2 : List am_E := [(0, .iload_n 0, 1, 0, 0), (1, .sipush (-9999), 3, 0, -9999)]
theorem bk_Main_isHeightToAsk_0_2_ok : bk_Main_isHeightToAsk_0_2.all (am_ok 11 false m_Main_isHeightToAsk.2.1) = true := by decide +kernel
def bk_Main_isHeightToAsk_18_1 : List am_E := [(18, .iconst 0, 1, 0, 0)]
theorem bk_Main_isHeightToAsk_18_1_ok : bk_Main_isHeightToAsk_18_1.all (am_ok 11 false m_Main_isHeightToAsk.2.1) = true := by decide +kernel
def bk_Main_isHeightToAsk_7_2 : List am_E := [(7, .iload_n 0, 1, 0, 0), (8, .sipush 9999, 3, 0, 9999)]
theorem bk_Main_isHeightToAsk_7_2_ok : bk_Main_isHeightToAsk_7_2.all (am_ok 11 false m_Main_isHeightToAsk.2.1) = true := by decide +kernel
def bk_Main_isHeightToAsk_14_2 : List am_E := [(14, .iconst 1, 1, 0, 1), (15, .goto 4, 3, 0, 4)]
theorem bk_Main_isHeightToAsk_14_2_ok : bk_Main_isHeightToAsk_14_2.all (am_ok 11 false m_Main_isHeightToAsk.2.1) = true := by decide +kernel
theorem dc_Main_isHeightToAsk_19 : decode m_Main_isHeightToAsk.2.1 19 = .ok (.ireturn, 1) := by decide +kernel
theorem dc_Main_isHeightToAsk_11 : decode m_Main_isHeightToAsk.2.1 11 = .ok (.if_icmp .gt 7, 3) := by decide +kernel
theorem dc_Main_isHeightToAsk_4 : decode m_Main_isHeightToAsk.2.1 4 = .ok (.if_icmp .lt 14, 3) := by decide +kernel
set_option maxRecDepth 20000 in
theorem sg_Main_isHeightToAsk_0 {kc ks : Nat} (x0 : Int32) (h : am_H) (Q : Option Value → am_H → Prop) (t : ((x0 < (-9999) → Q (some (.int 0)) h) ∧ (¬ x0 < (-9999) → ((9999 < x0 → Q (some (.int 0)) h) ∧ (¬ 9999 < x0 → Q (some (.int 1)) h))))) : am_EI m_Main_isHeightToAsk kc ks 0 [.int x0] [] h Q := by
  refine am_blk_ok (c := 11) (ini := false) (by decide) rfl (fun q => by cases q) bk_Main_isHeightToAsk_0_2 _ 4 _ _ _ bk_Main_isHeightToAsk_0_2_ok rfl ?_
  show am_EI m_Main_isHeightToAsk kc ks 4 [.int x0] [.int (-9999), .int x0] h Q
  refine am_ic_lt (tgt := 18) dc_Main_isHeightToAsk_4 (by decide) (fun c1 => ?_) (fun c1 => ?_)
  · replace t := t.1 c1
    refine am_blk_ok (c := 11) (ini := false) (by decide) rfl (fun q => by cases q) bk_Main_isHeightToAsk_18_1 _ 19 _ _ _ bk_Main_isHeightToAsk_18_1_ok rfl ?_
    show am_EI m_Main_isHeightToAsk kc ks 19 [.int x0] [.int 0] h Q
    exact am_zret dc_Main_isHeightToAsk_19 rfl (Or.inl rfl) t
  · replace t := t.2 c1
    refine am_blk_ok (c := 11) (ini := false) (by decide) rfl (fun q => by cases q) bk_Main_isHeightToAsk_7_2 _ 11 _ _ _ bk_Main_isHeightToAsk_7_2_ok rfl ?_
    show am_EI m_Main_isHeightToAsk kc ks 11 [.int x0] [.int 9999, .int x0] h Q
    refine am_ic_gt (tgt := 18) dc_Main_isHeightToAsk_11 (by decide) (fun c2 => ?_) (fun c2 => ?_)
    · replace t := t.1 c2
      refine am_blk_ok (c := 11) (ini := false) (by decide) rfl (fun q => by cases q) bk_Main_isHeightToAsk_18_1 _ 19 _ _ _ bk_Main_isHeightToAsk_18_1_ok rfl ?_
      show am_EI m_Main_isHeightToAsk kc ks 19 [.int x0] [.int 0] h Q
      exact am_zret dc_Main_isHeightToAsk_19 rfl (Or.inl rfl) t
    · replace t := t.2 c2
      refine am_blk_ok (c := 11) (ini := false) (by decide) rfl (fun q => by cases q) bk_Main_isHeightToAsk_14_2 _ 19 _ _ _ bk_Main_isHeightToAsk_14_2_ok rfl ?_
      show am_EI m_Main_isHeightToAsk kc ks 19 [.int x0] [.int 1] h Q
      exact am_zret dc_Main_isHeightToAsk_19 rfl (Or.inr rfl) t
set_option maxRecDepth 20000 in
theorem ev_Main_isHeightToAsk (x0 : Int32) (h : am_H) (Q : Int32 → am_H → Prop) (t : ((x0 < (-9999) → Q 0 h) ∧ (¬ x0 < (-9999) → ((9999 < x0 → Q 0 h) ∧ (¬ 9999 < x0 → Q 1 h))))) : am_Ei m_Main_isHeightToAsk 0 0 [.int x0] h Q :=
  am_Ev.of (by decide +kernel) (Nat.le_of_ble_eq_true rfl) (by simp only [List.mem_cons, List.not_mem_nil, or_false]; intro v hv; rcases hv with rfl; all_goals first | exact trivial) (sg_Main_isHeightToAsk_0 (kc := 0) (ks := 0) x0 h (am_qi Q) t)
def bk_Main_isNumberToAsk_0_1 : List am_E := [(0, .iload_n 0, 1, 0, 0)]
theorem bk_Main_isNumberToAsk_0_1_ok : bk_Main_isNumberToAsk_0_1.all (am_ok 11 false m_Main_isNumberToAsk.2.1) = true := by decide +kernel
def bk_Main_isNumberToAsk_15_1 : List am_E := [(15, .iconst 0, 1, 0, 0)]
theorem bk_Main_isNumberToAsk_15_1_ok : bk_Main_isNumberToAsk_15_1.all (am_ok 11 false m_Main_isNumberToAsk.2.1) = true := by decide +kernel
def bk_Main_isNumberToAsk_4_2 : List am_E := [(4, .iload_n 0, 1, 0, 0), (5, .ldc_w 310, 3, 0, 99999)]
theorem bk_Main_isNumberToAsk_4_2_ok : bk_Main_isNumberToAsk_4_2.all (am_ok 11 false m_Main_isNumberToAsk.2.1) = true := by decide +kernel
def bk_Main_isNumberToAsk_11_2 : List am_E := [(11, .iconst 1, 1, 0, 1), (12, .goto 4, 3, 0, 4)]
theorem bk_Main_isNumberToAsk_11_2_ok : bk_Main_isNumberToAsk_11_2.all (am_ok 11 false m_Main_isNumberToAsk.2.1) = true := by decide +kernel
theorem dc_Main_isNumberToAsk_16 : decode m_Main_isNumberToAsk.2.1 16 = .ok (.ireturn, 1) := by decide +kernel
theorem dc_Main_isNumberToAsk_8 : decode m_Main_isNumberToAsk.2.1 8 = .ok (.if_icmp .gt 7, 3) := by decide +kernel
theorem dc_Main_isNumberToAsk_1 : decode m_Main_isNumberToAsk.2.1 1 = .ok (.ifCond .lt 14, 3) := by decide +kernel
set_option maxRecDepth 20000 in
theorem sg_Main_isNumberToAsk_0 {kc ks : Nat} (x0 : Int32) (h : am_H) (Q : Option Value → am_H → Prop) (t : ((x0 < 0 → Q (some (.int 0)) h) ∧ (¬ x0 < 0 → ((99999 < x0 → Q (some (.int 0)) h) ∧ (¬ 99999 < x0 → Q (some (.int 1)) h))))) : am_EI m_Main_isNumberToAsk kc ks 0 [.int x0] [] h Q := by
  refine am_blk_ok (c := 11) (ini := false) (by decide) rfl (fun q => by cases q) bk_Main_isNumberToAsk_0_1 _ 1 _ _ _ bk_Main_isNumberToAsk_0_1_ok rfl ?_
  show am_EI m_Main_isNumberToAsk kc ks 1 [.int x0] [.int x0] h Q
  refine am_if_lt (tgt := 15) dc_Main_isNumberToAsk_1 (by decide) (fun c1 => ?_) (fun c1 => ?_)
  · replace t := t.1 c1
    refine am_blk_ok (c := 11) (ini := false) (by decide) rfl (fun q => by cases q) bk_Main_isNumberToAsk_15_1 _ 16 _ _ _ bk_Main_isNumberToAsk_15_1_ok rfl ?_
    show am_EI m_Main_isNumberToAsk kc ks 16 [.int x0] [.int 0] h Q
    exact am_zret dc_Main_isNumberToAsk_16 rfl (Or.inl rfl) t
  · replace t := t.2 c1
    refine am_blk_ok (c := 11) (ini := false) (by decide) rfl (fun q => by cases q) bk_Main_isNumberToAsk_4_2 _ 8 _ _ _ bk_Main_isNumberToAsk_4_2_ok rfl ?_
    show am_EI m_Main_isNumberToAsk kc ks 8 [.int x0] [.int 99999, .int x0] h Q
    refine am_ic_gt (tgt := 15) dc_Main_isNumberToAsk_8 (by decide) (fun c2 => ?_) (fun c2 => ?_)
    · replace t := t.1 c2
      refine am_blk_ok (c := 11) (ini := false) (by decide) rfl (fun q => by cases q) bk_Main_isNumberToAsk_15_1 _ 16 _ _ _ bk_Main_isNumberToAsk_15_1_ok rfl ?_
      show am_EI m_Main_isNumberToAsk kc ks 16 [.int x0] [.int 0] h Q
      exact am_zret dc_Main_isNumberToAsk_16 rfl (Or.inl rfl) t
    · replace t := t.2 c2
      refine am_blk_ok (c := 11) (ini := false) (by decide) rfl (fun q => by cases q) bk_Main_isNumberToAsk_11_2 _ 16 _ _ _ bk_Main_isNumberToAsk_11_2_ok rfl ?_
      show am_EI m_Main_isNumberToAsk kc ks 16 [.int x0] [.int 1] h Q
      exact am_zret dc_Main_isNumberToAsk_16 rfl (Or.inr rfl) t
set_option maxRecDepth 20000 in
theorem ev_Main_isNumberToAsk (x0 : Int32) (h : am_H) (Q : Int32 → am_H → Prop) (t : ((x0 < 0 → Q 0 h) ∧ (¬ x0 < 0 → ((99999 < x0 → Q 0 h) ∧ (¬ 99999 < x0 → Q 1 h))))) : am_Ei m_Main_isNumberToAsk 0 0 [.int x0] h Q :=
  am_Ev.of (by decide +kernel) (Nat.le_of_ble_eq_true rfl) (by simp only [List.mem_cons, List.not_mem_nil, or_false]; intro v hv; rcases hv with rfl; all_goals first | exact trivial) (sg_Main_isNumberToAsk_0 (kc := 0) (ks := 0) x0 h (am_qi Q) t)
def bk_Main_judge_0_4 : List am_E := [(0, .aload_n 0, 1, 0, 0), (1, .iload_n 1, 1, 0, 0), (2, .putfield 101, 3, 4468, 0), (5, .iload_n 1, 1, 0, 0)]
theorem bk_Main_judge_0_4_ok : bk_Main_judge_0_4.all (am_ok 11 false m_Main_judge.2.1) = true := by decide +kernel
def bk_Main_judge_11_1 : List am_E := [(11, .iload_n 2, 1, 0, 0)]
theorem bk_Main_judge_11_1_ok : bk_Main_judge_11_1.all (am_ok 11 false m_Main_judge.2.1) = true := by decide +kernel
def bk_Main_judge_19_1 : List am_E := [(19, .bipush 9, 2, 0, 9)]
theorem bk_Main_judge_19_1_ok : bk_Main_judge_19_1.all (am_ok 11 false m_Main_judge.2.1) = true := by decide +kernel
def bk_Main_judge_15_2 : List am_E := [(15, .iconst 0, 1, 0, 0), (16, .goto 5, 3, 0, 5)]
theorem bk_Main_judge_15_2_ok : bk_Main_judge_15_2.all (am_ok 11 false m_Main_judge.2.1) = true := by decide +kernel
def bk_Main_judge_9_1 : List am_E := [(9, .iconst 4, 1, 0, 4)]
theorem bk_Main_judge_9_1_ok : bk_Main_judge_9_1.all (am_ok 11 false m_Main_judge.2.1) = true := by decide +kernel
theorem dc_Main_judge_21 : decode m_Main_judge.2.1 21 = .ok (.ireturn, 1) := by decide +kernel
theorem dc_Main_judge_12 : decode m_Main_judge.2.1 12 = .ok (.ifCond .eq 7, 3) := by decide +kernel
theorem dc_Main_judge_10 : decode m_Main_judge.2.1 10 = .ok (.ireturn, 1) := by decide +kernel
theorem dc_Main_judge_6 : decode m_Main_judge.2.1 6 = .ok (.ifCond .eq 5, 3) := by decide +kernel
set_option maxRecDepth 20000 in
theorem sg_Main_judge_0 {kc ks : Nat} (a0 : Nat) (x1 x2 : Int32) (h : am_H) (Q : Option Value → am_H → Prop) (t : (am_tg h a0 = (11, 18) ∧ ((x1 = 0 → ((x2 = 0 → Q (some (.int 9)) (am_si h a0 17 x1)) ∧ (¬ x2 = 0 → Q (some (.int 0)) (am_si h a0 17 x1)))) ∧ (¬ x1 = 0 → Q (some (.int 4)) (am_si h a0 17 x1))))) : am_EI m_Main_judge kc ks 0 [.ref a0, .int x1, .int x2] [] h Q := by
  refine am_blk_ok (c := 11) (ini := false) (by decide) rfl (fun q => by cases q) bk_Main_judge_0_4 _ 6 _ _ _ bk_Main_judge_0_4_ok rfl ?_
  show (am_tg h a0 = (11, 18) ∧ am_EI m_Main_judge kc ks 6 [.ref a0, .int x1, .int x2] [.int x1] (am_si h a0 17 x1) Q)
  obtain ⟨o1, t⟩ := t
  refine ⟨o1, ?_⟩
  refine am_if_eq (tgt := 11) dc_Main_judge_6 (by decide) (fun c2 => ?_) (fun c2 => ?_)
  · replace t := t.1 c2
    refine am_blk_ok (c := 11) (ini := false) (by decide) rfl (fun q => by cases q) bk_Main_judge_11_1 _ 12 _ _ _ bk_Main_judge_11_1_ok rfl ?_
    show am_EI m_Main_judge kc ks 12 [.ref a0, .int x1, .int x2] [.int x2] (am_si h a0 17 x1) Q
    refine am_if_eq (tgt := 19) dc_Main_judge_12 (by decide) (fun c3 => ?_) (fun c3 => ?_)
    · replace t := t.1 c3
      refine am_blk_ok (c := 11) (ini := false) (by decide) rfl (fun q => by cases q) bk_Main_judge_19_1 _ 21 _ _ _ bk_Main_judge_19_1_ok rfl ?_
      show am_EI m_Main_judge kc ks 21 [.ref a0, .int x1, .int x2] [.int 9] (am_si h a0 17 x1) Q
      exact am_iret dc_Main_judge_21 rfl t
    · replace t := t.2 c3
      refine am_blk_ok (c := 11) (ini := false) (by decide) rfl (fun q => by cases q) bk_Main_judge_15_2 _ 21 _ _ _ bk_Main_judge_15_2_ok rfl ?_
      show am_EI m_Main_judge kc ks 21 [.ref a0, .int x1, .int x2] [.int 0] (am_si h a0 17 x1) Q
      exact am_iret dc_Main_judge_21 rfl t
  · replace t := t.2 c2
    refine am_blk_ok (c := 11) (ini := false) (by decide) rfl (fun q => by cases q) bk_Main_judge_9_1 _ 10 _ _ _ bk_Main_judge_9_1_ok rfl ?_
    show am_EI m_Main_judge kc ks 10 [.ref a0, .int x1, .int x2] [.int 4] (am_si h a0 17 x1) Q
    exact am_iret dc_Main_judge_10 rfl t
set_option maxRecDepth 20000 in
theorem ev_Main_judge (a0 : Nat) (x1 x2 : Int32) (h : am_H) (Q : Int32 → am_H → Prop) (t : (am_tg h a0 = (11, 18) ∧ ((x1 = 0 → ((x2 = 0 → Q 9 (am_si h a0 17 x1)) ∧ (¬ x2 = 0 → Q 0 (am_si h a0 17 x1)))) ∧ (¬ x1 = 0 → Q 4 (am_si h a0 17 x1))))) : am_Ei m_Main_judge 0 0 [.ref a0, .int x1, .int x2] h Q :=
  am_Ev.of (by decide +kernel) (Nat.le_of_ble_eq_true rfl) (by simp only [List.mem_cons, List.not_mem_nil, or_false]; intro v hv; rcases hv with rfl | rfl | rfl; all_goals first | exact trivial) (sg_Main_judge_0 (kc := 0) (ks := 0) a0 x1 x2 h (am_qi Q) t)
def bk_Main_keepPort_0_2 : List am_E := [(0, .aload_n 0, 1, 0, 0), (1, .getfield 19, 3, 4405, 0)]
theorem bk_Main_keepPort_0_2_ok : bk_Main_keepPort_0_2.all (am_ok 11 false m_Main_keepPort.2.1) = true := by decide +kernel
def bk_Main_keepPort_7_4 : List am_E := [(7, .astore_n 2, 1, 0, 0), (8, .aload_n 0, 1, 0, 0), (9, .getfield 82, 3, 4444, 0), (12, .bipush 8, 2, 0, 8)]
theorem bk_Main_keepPort_7_4_ok : bk_Main_keepPort_7_4.all (am_ok 11 false m_Main_keepPort.2.1) = true := by decide +kernel
def bk_Main_keepPort_30_5 : List am_E := [(30, .iconst 0, 1, 0, 0), (31, .istore_n 3, 1, 0, 0), (32, .aload_n 0, 1, 0, 0), (33, .iload_n 1, 1, 0, 0), (34, .iload_n 3, 1, 0, 0)]
theorem bk_Main_keepPort_30_5_ok : bk_Main_keepPort_30_5.all (am_ok 11 false m_Main_keepPort.2.1) = true := by decide +kernel
def bk_Main_keepPort_38_2 : List am_E := [(38, .istore 4, 2, 0, 0), (40, .iload 4, 2, 0, 0)]
theorem bk_Main_keepPort_38_2_ok : bk_Main_keepPort_38_2.all (am_ok 11 false m_Main_keepPort.2.1) = true := by decide +kernel
def bk_Main_keepPort_55_2 : List am_E := [(55, .dup, 1, 0, 0), (56, .bipush 16, 2, 0, 16)]
theorem bk_Main_keepPort_55_2_ok : bk_Main_keepPort_55_2.all (am_ok 11 false m_Main_keepPort.2.1) = true := by decide +kernel
def bk_Main_keepPort_61_3 : List am_E := [(61, .astore 5, 2, 0, 0), (63, .aload 5, 2, 0, 0), (65, .aload_n 2, 1, 0, 0)]
theorem bk_Main_keepPort_61_3_ok : bk_Main_keepPort_61_3.all (am_ok 11 false m_Main_keepPort.2.1) = true := by decide +kernel
def bk_Main_keepPort_69_17 : List am_E := [(69, .aload_n 0, 1, 0, 0), (70, .getfield 34, 3, 4413, 0), (73, .aload_n 0, 1, 0, 0), (74, .getfield 82, 3, 4444, 0), (77, .aload 5, 2, 0, 0), (79, .aastore, 1, 2, 0), (80, .aload_n 0, 1, 0, 0), (81, .dup, 1, 0, 0), (82, .getfield 82, 3, 4444, 0), (85, .iconst 1, 1, 0, 1), (86, .iadd, 1, 0, 0), (87, .putfield 82, 3, 4444, 0), (90, .aload_n 0, 1, 0, 0), (91, .aload_n 0, 1, 0, 0), (92, .getfield 82, 3, 4444, 0), (95, .iconst 1, 1, 0, 1), (96, .isub, 1, 0, 0)]
theorem bk_Main_keepPort_69_17_ok : bk_Main_keepPort_69_17.all (am_ok 11 false m_Main_keepPort.2.1) = true := by decide +kernel
def bk_Main_keepPort_45_2 : List am_E := [(45, .aload_n 0, 1, 0, 0), (46, .iload 4, 2, 0, 0)]
theorem bk_Main_keepPort_45_2_ok : bk_Main_keepPort_45_2.all (am_ok 11 false m_Main_keepPort.2.1) = true := by decide +kernel
def bk_Main_keepPort_17_1 : List am_E := [(17, .aload_n 2, 1, 0, 0)]
theorem bk_Main_keepPort_17_1_ok : bk_Main_keepPort_17_1.all (am_ok 11 false m_Main_keepPort.2.1) = true := by decide +kernel
def bk_Main_keepPort_21_1 : List am_E := [(21, .bipush 16, 2, 0, 16)]
theorem bk_Main_keepPort_21_1_ok : bk_Main_keepPort_21_1.all (am_ok 11 false m_Main_keepPort.2.1) = true := by decide +kernel
def bk_Main_keepPort_26_6 : List am_E := [(26, .iconst 1, 1, 0, 1), (27, .goto 4, 3, 0, 4), (31, .istore_n 3, 1, 0, 0), (32, .aload_n 0, 1, 0, 0), (33, .iload_n 1, 1, 0, 0), (34, .iload_n 3, 1, 0, 0)]
theorem bk_Main_keepPort_26_6_ok : bk_Main_keepPort_26_6.all (am_ok 11 false m_Main_keepPort.2.1) = true := by decide +kernel
theorem dc_Main_keepPort_4 : decode m_Main_keepPort.2.1 4 = .ok (.invokevirtual 303, 3) := by decide +kernel
theorem dc_Main_keepPort_35 : decode m_Main_keepPort.2.1 35 = .ok (.invokevirtual 162, 3) := by decide +kernel
theorem dc_Main_keepPort_58 : decode m_Main_keepPort.2.1 58 = .ok (.invokespecial 307, 3) := by decide +kernel
theorem dc_Main_keepPort_66 : decode m_Main_keepPort.2.1 66 = .ok (.invokevirtual 308, 3) := by decide +kernel
theorem dc_Main_keepPort_97 : decode m_Main_keepPort.2.1 97 = .ok (.invokevirtual 119, 3) := by decide +kernel
theorem dc_Main_keepPort_100 : decode m_Main_keepPort.2.1 100 = .ok (.ireturn, 1) := by decide +kernel
theorem dc_Main_keepPort_52 : decode m_Main_keepPort.2.1 52 = .ok (.new 32, 3) := by decide +kernel
theorem dc_Main_keepPort_48 : decode m_Main_keepPort.2.1 48 = .ok (.invokevirtual 108, 3) := by decide +kernel
theorem dc_Main_keepPort_51 : decode m_Main_keepPort.2.1 51 = .ok (.ireturn, 1) := by decide +kernel
theorem dc_Main_keepPort_42 : decode m_Main_keepPort.2.1 42 = .ok (.ifCond .eq 10, 3) := by decide +kernel
theorem dc_Main_keepPort_14 : decode m_Main_keepPort.2.1 14 = .ok (.if_icmp .ge 16, 3) := by decide +kernel
theorem dc_Main_keepPort_18 : decode m_Main_keepPort.2.1 18 = .ok (.invokevirtual 190, 3) := by decide +kernel
theorem dc_Main_keepPort_23 : decode m_Main_keepPort.2.1 23 = .ok (.if_icmp .gt 7, 3) := by decide +kernel
set_option maxRecDepth 20000 in
theorem sg_Main_keepPort_0 {kc ks : Nat} (a0 : Nat) (x1 : Int32) (h : am_H) (Q : Option Value → am_H → Prop) (t : (am_tg h a0 = (11, 18) ∧ (∃ b1, am_P h a0 1 = some b1 ∧ (am_tg h b1 = (3, 7) ∧ (am_Er m_Draft_made 0 0 [.ref b1] h (fun r6 h5 => (r6 = none → (am_tg h5 a0 = (11, 18) ∧ ((8 ≤ (am_I h5 a0 11) → (am_Ei m_Main_judge 0 0 [.ref a0, .int x1, .int 0] h5 (fun r12 h11 => ((r12 = 0 → (am_Ew m_Port_init 3 48 [.ref (am_sz h11), .int 16] (am_nw h11 2 5) (fun h14 => (am_tg h14 (am_sz h11) = (2, 5) ∧ (am_Ew m_Port_copyFrom 0 0 [.ref (am_sz h11), .null] h14 (fun h16 => (am_tg h16 a0 = (11, 18) ∧ (∃ b17, am_P h16 a0 3 = some b17 ∧ (am_tg h16 (am_sz h11) = (2, (am_tg h16 (am_sz h11)).2) ∧ ((am_tg h16 b17).1 = 30 + 2 ∧ (vp_in (am_I h16 a0 11) (am_tg h16 b17).2 ∧ (am_Ei m_Main_answer 0 0 [.ref a0, .int ((am_I (am_si (am_sp h16 b17 ((am_I h16 a0 11).toNatClampNeg) (some (am_sz h11))) a0 11 ((am_I h16 a0 11) + 1)) a0 11) - 1)] (am_si (am_sp h16 b17 ((am_I h16 a0 11).toNatClampNeg) (some (am_sz h11))) a0 11 ((am_I h16 a0 11) + 1)) (fun r24 h23 => Q (some (.int r24)) h23))))))))))))) ∧ (¬ r12 = 0 → (am_tg h11 a0 = (11, 18) ∧ (am_Ei m_Main_refuse 0 0 [.ref a0, .int r12] h11 (fun r27 h26 => Q (some (.int r27)) h26)))))))) ∧ (¬ 8 ≤ (am_I h5 a0 11) → False)))) ∧ ∀ b7, r6 = some b7 → (am_tg h5 a0 = (11, 18) ∧ ((8 ≤ (am_I h5 a0 11) → (am_Ei m_Main_judge 0 0 [.ref a0, .int x1, .int 0] h5 (fun r31 h30 => ((r31 = 0 → (am_Ew m_Port_init 3 48 [.ref (am_sz h30), .int 16] (am_nw h30 2 5) (fun h33 => (am_tg h33 (am_sz h30) = (2, 5) ∧ (am_Ew m_Port_copyFrom 0 0 [.ref (am_sz h30), .ref b7] h33 (fun h35 => (am_tg h35 a0 = (11, 18) ∧ (∃ b36, am_P h35 a0 3 = some b36 ∧ (am_tg h35 (am_sz h30) = (2, (am_tg h35 (am_sz h30)).2) ∧ ((am_tg h35 b36).1 = 30 + 2 ∧ (vp_in (am_I h35 a0 11) (am_tg h35 b36).2 ∧ (am_Ei m_Main_answer 0 0 [.ref a0, .int ((am_I (am_si (am_sp h35 b36 ((am_I h35 a0 11).toNatClampNeg) (some (am_sz h30))) a0 11 ((am_I h35 a0 11) + 1)) a0 11) - 1)] (am_si (am_sp h35 b36 ((am_I h35 a0 11).toNatClampNeg) (some (am_sz h30))) a0 11 ((am_I h35 a0 11) + 1)) (fun r43 h42 => Q (some (.int r43)) h42))))))))))))) ∧ (¬ r31 = 0 → (am_tg h30 a0 = (11, 18) ∧ (am_Ei m_Main_refuse 0 0 [.ref a0, .int r31] h30 (fun r46 h45 => Q (some (.int r46)) h45)))))))) ∧ (¬ 8 ≤ (am_I h5 a0 11) → (am_tg h5 b7 = (2, 5) ∧ (am_Ei m_Port_turnCount 0 0 [.ref b7] h5 (fun r49 h48 => ((16 < r49 → (am_tg h48 a0 = (11, 18) ∧ (am_Ei m_Main_judge 0 0 [.ref a0, .int x1, .int 0] h48 (fun r53 h52 => ((r53 = 0 → (am_Ew m_Port_init 3 48 [.ref (am_sz h52), .int 16] (am_nw h52 2 5) (fun h55 => (am_tg h55 (am_sz h52) = (2, 5) ∧ (am_Ew m_Port_copyFrom 0 0 [.ref (am_sz h52), .ref b7] h55 (fun h57 => (am_tg h57 a0 = (11, 18) ∧ (∃ b58, am_P h57 a0 3 = some b58 ∧ (am_tg h57 (am_sz h52) = (2, (am_tg h57 (am_sz h52)).2) ∧ ((am_tg h57 b58).1 = 30 + 2 ∧ (vp_in (am_I h57 a0 11) (am_tg h57 b58).2 ∧ (am_Ei m_Main_answer 0 0 [.ref a0, .int ((am_I (am_si (am_sp h57 b58 ((am_I h57 a0 11).toNatClampNeg) (some (am_sz h52))) a0 11 ((am_I h57 a0 11) + 1)) a0 11) - 1)] (am_si (am_sp h57 b58 ((am_I h57 a0 11).toNatClampNeg) (some (am_sz h52))) a0 11 ((am_I h57 a0 11) + 1)) (fun r65 h64 => Q (some (.int r65)) h64))))))))))))) ∧ (¬ r53 = 0 → (am_tg h52 a0 = (11, 18) ∧ (am_Ei m_Main_refuse 0 0 [.ref a0, .int r53] h52 (fun r68 h67 => Q (some (.int r68)) h67))))))))) ∧ (¬ 16 < r49 → (am_tg h48 a0 = (11, 18) ∧ (am_Ei m_Main_judge 0 0 [.ref a0, .int x1, .int 1] h48 (fun r71 h70 => ((r71 = 0 → (am_Ew m_Port_init 3 48 [.ref (am_sz h70), .int 16] (am_nw h70 2 5) (fun h73 => (am_tg h73 (am_sz h70) = (2, 5) ∧ (am_Ew m_Port_copyFrom 0 0 [.ref (am_sz h70), .ref b7] h73 (fun h75 => (am_tg h75 a0 = (11, 18) ∧ (∃ b76, am_P h75 a0 3 = some b76 ∧ (am_tg h75 (am_sz h70) = (2, (am_tg h75 (am_sz h70)).2) ∧ ((am_tg h75 b76).1 = 30 + 2 ∧ (vp_in (am_I h75 a0 11) (am_tg h75 b76).2 ∧ (am_Ei m_Main_answer 0 0 [.ref a0, .int ((am_I (am_si (am_sp h75 b76 ((am_I h75 a0 11).toNatClampNeg) (some (am_sz h70))) a0 11 ((am_I h75 a0 11) + 1)) a0 11) - 1)] (am_si (am_sp h75 b76 ((am_I h75 a0 11).toNatClampNeg) (some (am_sz h70))) a0 11 ((am_I h75 a0 11) + 1)) (fun r83 h82 => Q (some (.int r83)) h82))))))))))))) ∧ (¬ r71 = 0 → (am_tg h70 a0 = (11, 18) ∧ (am_Ei m_Main_refuse 0 0 [.ref a0, .int r71] h70 (fun r86 h85 => Q (some (.int r86)) h85)))))))))))))))))))))) : am_EI m_Main_keepPort (kc + 3 + 1) (ks + 48 + 5) 0 [.ref a0, .int x1, .float 0, .float 0, .float 0, .float 0] [] h Q := by
  refine am_blk_ok (c := 11) (ini := false) (by decide) rfl (fun q => by cases q) bk_Main_keepPort_0_2 _ 4 _ _ _ bk_Main_keepPort_0_2_ok rfl ?_
  show (am_tg h a0 = (11, 18) ∧ (∃ b1, am_P h a0 1 = some b1 ∧ am_EI m_Main_keepPort (kc + 3 + 1) (ks + 48 + 5) 4 [.ref a0, .int x1, .float 0, .float 0, .float 0, .float 0] [.ref b1] h Q))
  obtain ⟨o2, b1, q3, t⟩ := t
  refine ⟨o2, b1, q3, ?_⟩
  obtain ⟨o4, t⟩ := t
  refine am_callV (M2 := m_Draft_made) (ci := 3) (a := b1) (kc := (kc + 3 + 1)) (ks := (ks + 48 + 5)) (k2c := 0) (k2s := 0) (as := []) [] dc_Main_keepPort_4 lk_11_303 im_Draft_made se_Draft_made lm_Draft_made np_Draft_made ⟨Nat.le_of_ble_eq_true rfl, Nat.le_of_ble_eq_true rfl⟩ (fun _ => Nat.le_of_ble_eq_true rfl) (by decide) rfl o4 (am_Er.end (am_Er.mono t (fun r6 h5 t => ⟨fun c8 => ?_, fun b7 c8 => ?_⟩)))
  · replace t := t.1 c8
    refine am_blk_ok (c := 11) (ini := false) (by decide) rfl (fun q => by cases q) bk_Main_keepPort_7_4 _ 14 _ _ _ bk_Main_keepPort_7_4_ok rfl ?_
    show (am_tg h5 a0 = (11, 18) ∧ am_EI m_Main_keepPort (kc + 3 + 1) (ks + 48 + 5) 14 [.ref a0, .int x1, .null, .float 0, .float 0, .float 0] [.int 8, .int (am_I h5 a0 11)] h5 Q)
    obtain ⟨o9, t⟩ := t
    refine ⟨o9, ?_⟩
    refine am_ic_ge (tgt := 30) dc_Main_keepPort_14 (by decide) (fun c10 => ?_) (fun c10 => ?_)
    · replace t := t.1 c10
      refine am_blk_ok (c := 11) (ini := false) (by decide) rfl (fun q => by cases q) bk_Main_keepPort_30_5 _ 35 _ _ _ bk_Main_keepPort_30_5_ok rfl ?_
      show am_EI m_Main_keepPort (kc + 3 + 1) (ks + 48 + 5) 35 [.ref a0, .int x1, .null, .int 0, .float 0, .float 0] [.int 0, .int x1, .ref a0] h5 Q
      refine am_callV (M2 := m_Main_judge) (ci := 11) (a := a0) (kc := (kc + 3 + 1)) (ks := (ks + 48 + 5)) (k2c := 0) (k2s := 0) (as := []) [.int x1, .int 0] dc_Main_keepPort_35 lk_11_162 im_Main_judge se_Main_judge lm_Main_judge np_Main_judge ⟨Nat.le_of_ble_eq_true rfl, Nat.le_of_ble_eq_true rfl⟩ (fun _ => Nat.le_of_ble_eq_true rfl) (by decide) rfl o9 (am_Ei.end (am_Ei.mono t (fun r12 h11 t => ?_)))
      refine am_blk_ok (c := 11) (ini := false) (by decide) rfl (fun q => by cases q) bk_Main_keepPort_38_2 _ 42 _ _ _ bk_Main_keepPort_38_2_ok rfl ?_
      show am_EI m_Main_keepPort (kc + 3 + 1) (ks + 48 + 5) 42 [.ref a0, .int x1, .null, .int 0, .int r12, .float 0] [.int r12] h11 Q
      refine am_if_eq (tgt := 52) dc_Main_keepPort_42 (by decide) (fun c13 => ?_) (fun c13 => ?_)
      · replace t := t.1 c13
        refine am_new (kc := (kc + 3)) (ks := (ks + 48)) (ci := 2) dc_Main_keepPort_52 (by decide) cl_11_32 in_2 ii_2 ?_
        refine am_blk_ok (c := 11) (ini := false) (by decide) rfl (fun q => by cases q) bk_Main_keepPort_55_2 _ 58 _ _ _ bk_Main_keepPort_55_2_ok rfl ?_
        show am_EI m_Main_keepPort (kc + 3) (ks + 48) 58 [.ref a0, .int x1, .null, .int 0, .int r12, .float 0] [.int 16, .ref (am_sz h11), .ref (am_sz h11)] (am_nw h11 2 5) Q
        refine am_callI (M2 := m_Port_init) (a := am_sz h11) (kc := kc) (ks := ks) (k2c := 3) (k2s := 48) (as := [.ref (am_sz h11)]) [.int 16] dc_Main_keepPort_58 lk_11_307 im_Port_init rfl rfl lm_Port_init np_Port_init ⟨Nat.le_of_ble_eq_true rfl, Nat.le_of_ble_eq_true rfl⟩ (fun _ => Nat.le_of_ble_eq_true rfl) (am_Ew.end (am_Ew.mono t (fun h14 t => ?_)))
        refine am_blk_ok (c := 11) (ini := false) (by decide) rfl (fun q => by cases q) bk_Main_keepPort_61_3 _ 66 _ _ _ bk_Main_keepPort_61_3_ok rfl ?_
        show am_EI m_Main_keepPort kc ks 66 [.ref a0, .int x1, .null, .int 0, .int r12, .ref (am_sz h11)] [.null, .ref (am_sz h11)] h14 Q
        obtain ⟨o15, t⟩ := t
        refine am_callV (M2 := m_Port_copyFrom) (ci := 2) (a := am_sz h11) (kc := kc) (ks := ks) (k2c := 0) (k2s := 0) (as := []) [.null] dc_Main_keepPort_66 lk_11_308 im_Port_copyFrom se_Port_copyFrom lm_Port_copyFrom np_Port_copyFrom ⟨Nat.le_of_ble_eq_true rfl, Nat.le_of_ble_eq_true rfl⟩ (fun _ => Nat.le_of_ble_eq_true rfl) (by decide) rfl o15 (am_Ew.end (am_Ew.mono t (fun h16 t => ?_)))
        refine am_blk_ok (c := 11) (ini := false) (by decide) rfl (fun q => by cases q) bk_Main_keepPort_69_17 _ 97 _ _ _ bk_Main_keepPort_69_17_ok rfl ?_
        show (am_tg h16 a0 = (11, 18) ∧ (∃ b17, am_P h16 a0 3 = some b17 ∧ (am_tg h16 a0 = (11, 18) ∧ (am_tg h16 (am_sz h11) = (2, (am_tg h16 (am_sz h11)).2) ∧ ((am_tg h16 b17).1 = 30 + 2 ∧ ((2 = 2 ∨ 2 = 4 ∨ 2 = 6 ∨ 2 = 7 ∨ 2 = 8) ∧ (vp_in (am_I h16 a0 11) (am_tg h16 b17).2 ∧ (am_tg h16 a0 = (11, 18) ∧ (am_tg h16 a0 = (11, 18) ∧ (am_tg h16 a0 = (11, 18) ∧ am_EI m_Main_keepPort kc ks 97 [.ref a0, .int x1, .null, .int 0, .int r12, .ref (am_sz h11)] [.int ((am_I (am_si (am_sp h16 b17 ((am_I h16 a0 11).toNatClampNeg) (some (am_sz h11))) a0 11 ((am_I h16 a0 11) + 1)) a0 11) - 1), .ref a0] (am_si (am_sp h16 b17 ((am_I h16 a0 11).toNatClampNeg) (some (am_sz h11))) a0 11 ((am_I h16 a0 11) + 1)) Q))))))))))
        obtain ⟨o18, b17, q19, o20, o21, o22, t⟩ := t
        refine ⟨o18, b17, q19, o18, o20, o21, (by decide), o22, o18, o18, o18, ?_⟩
        refine am_callV (M2 := m_Main_answer) (ci := 11) (a := a0) (kc := kc) (ks := ks) (k2c := 0) (k2s := 0) (as := []) [.int ((am_I (am_si (am_sp h16 b17 ((am_I h16 a0 11).toNatClampNeg) (some (am_sz h11))) a0 11 ((am_I h16 a0 11) + 1)) a0 11) - 1)] dc_Main_keepPort_97 lk_11_119 im_Main_answer se_Main_answer lm_Main_answer np_Main_answer ⟨Nat.le_of_ble_eq_true rfl, Nat.le_of_ble_eq_true rfl⟩ (fun _ => Nat.le_of_ble_eq_true rfl) (by decide) rfl o18 (am_Ei.end (am_Ei.mono t (fun r24 h23 t => ?_)))
        exact am_iret dc_Main_keepPort_100 rfl t
      · refine am_EI.more (kc := kc) (ks := ks) 4 53 ?_
        replace t := t.2 c13
        refine am_blk_ok (c := 11) (ini := false) (by decide) rfl (fun q => by cases q) bk_Main_keepPort_45_2 _ 48 _ _ _ bk_Main_keepPort_45_2_ok rfl ?_
        show am_EI m_Main_keepPort kc ks 48 [.ref a0, .int x1, .null, .int 0, .int r12, .float 0] [.int r12, .ref a0] h11 Q
        obtain ⟨o25, t⟩ := t
        refine am_callV (M2 := m_Main_refuse) (ci := 11) (a := a0) (kc := kc) (ks := ks) (k2c := 0) (k2s := 0) (as := []) [.int r12] dc_Main_keepPort_48 lk_11_108 im_Main_refuse se_Main_refuse lm_Main_refuse np_Main_refuse ⟨Nat.le_of_ble_eq_true rfl, Nat.le_of_ble_eq_true rfl⟩ (fun _ => Nat.le_of_ble_eq_true rfl) (by decide) rfl o25 (am_Ei.end (am_Ei.mono t (fun r27 h26 t => ?_)))
        exact am_iret dc_Main_keepPort_51 rfl t
    · replace t := t.2 c10
      refine am_blk_ok (c := 11) (ini := false) (by decide) rfl (fun q => by cases q) bk_Main_keepPort_17_1 _ 18 _ _ _ bk_Main_keepPort_17_1_ok rfl ?_
      show am_EI m_Main_keepPort (kc + 3 + 1) (ks + 48 + 5) 18 [.ref a0, .int x1, .null, .float 0, .float 0, .float 0] [.null] h5 Q
      exact t.elim
  · replace t := t.2 b7 c8
    refine am_blk_ok (c := 11) (ini := false) (by decide) rfl (fun q => by cases q) bk_Main_keepPort_7_4 _ 14 _ _ _ bk_Main_keepPort_7_4_ok rfl ?_
    show (am_tg h5 a0 = (11, 18) ∧ am_EI m_Main_keepPort (kc + 3 + 1) (ks + 48 + 5) 14 [.ref a0, .int x1, .ref b7, .float 0, .float 0, .float 0] [.int 8, .int (am_I h5 a0 11)] h5 Q)
    obtain ⟨o28, t⟩ := t
    refine ⟨o28, ?_⟩
    refine am_ic_ge (tgt := 30) dc_Main_keepPort_14 (by decide) (fun c29 => ?_) (fun c29 => ?_)
    · replace t := t.1 c29
      refine am_blk_ok (c := 11) (ini := false) (by decide) rfl (fun q => by cases q) bk_Main_keepPort_30_5 _ 35 _ _ _ bk_Main_keepPort_30_5_ok rfl ?_
      show am_EI m_Main_keepPort (kc + 3 + 1) (ks + 48 + 5) 35 [.ref a0, .int x1, .ref b7, .int 0, .float 0, .float 0] [.int 0, .int x1, .ref a0] h5 Q
      refine am_callV (M2 := m_Main_judge) (ci := 11) (a := a0) (kc := (kc + 3 + 1)) (ks := (ks + 48 + 5)) (k2c := 0) (k2s := 0) (as := []) [.int x1, .int 0] dc_Main_keepPort_35 lk_11_162 im_Main_judge se_Main_judge lm_Main_judge np_Main_judge ⟨Nat.le_of_ble_eq_true rfl, Nat.le_of_ble_eq_true rfl⟩ (fun _ => Nat.le_of_ble_eq_true rfl) (by decide) rfl o28 (am_Ei.end (am_Ei.mono t (fun r31 h30 t => ?_)))
      refine am_blk_ok (c := 11) (ini := false) (by decide) rfl (fun q => by cases q) bk_Main_keepPort_38_2 _ 42 _ _ _ bk_Main_keepPort_38_2_ok rfl ?_
      show am_EI m_Main_keepPort (kc + 3 + 1) (ks + 48 + 5) 42 [.ref a0, .int x1, .ref b7, .int 0, .int r31, .float 0] [.int r31] h30 Q
      refine am_if_eq (tgt := 52) dc_Main_keepPort_42 (by decide) (fun c32 => ?_) (fun c32 => ?_)
      · replace t := t.1 c32
        refine am_new (kc := (kc + 3)) (ks := (ks + 48)) (ci := 2) dc_Main_keepPort_52 (by decide) cl_11_32 in_2 ii_2 ?_
        refine am_blk_ok (c := 11) (ini := false) (by decide) rfl (fun q => by cases q) bk_Main_keepPort_55_2 _ 58 _ _ _ bk_Main_keepPort_55_2_ok rfl ?_
        show am_EI m_Main_keepPort (kc + 3) (ks + 48) 58 [.ref a0, .int x1, .ref b7, .int 0, .int r31, .float 0] [.int 16, .ref (am_sz h30), .ref (am_sz h30)] (am_nw h30 2 5) Q
        refine am_callI (M2 := m_Port_init) (a := am_sz h30) (kc := kc) (ks := ks) (k2c := 3) (k2s := 48) (as := [.ref (am_sz h30)]) [.int 16] dc_Main_keepPort_58 lk_11_307 im_Port_init rfl rfl lm_Port_init np_Port_init ⟨Nat.le_of_ble_eq_true rfl, Nat.le_of_ble_eq_true rfl⟩ (fun _ => Nat.le_of_ble_eq_true rfl) (am_Ew.end (am_Ew.mono t (fun h33 t => ?_)))
        refine am_blk_ok (c := 11) (ini := false) (by decide) rfl (fun q => by cases q) bk_Main_keepPort_61_3 _ 66 _ _ _ bk_Main_keepPort_61_3_ok rfl ?_
        show am_EI m_Main_keepPort kc ks 66 [.ref a0, .int x1, .ref b7, .int 0, .int r31, .ref (am_sz h30)] [.ref b7, .ref (am_sz h30)] h33 Q
        obtain ⟨o34, t⟩ := t
        refine am_callV (M2 := m_Port_copyFrom) (ci := 2) (a := am_sz h30) (kc := kc) (ks := ks) (k2c := 0) (k2s := 0) (as := []) [.ref b7] dc_Main_keepPort_66 lk_11_308 im_Port_copyFrom se_Port_copyFrom lm_Port_copyFrom np_Port_copyFrom ⟨Nat.le_of_ble_eq_true rfl, Nat.le_of_ble_eq_true rfl⟩ (fun _ => Nat.le_of_ble_eq_true rfl) (by decide) rfl o34 (am_Ew.end (am_Ew.mono t (fun h35 t => ?_)))
        refine am_blk_ok (c := 11) (ini := false) (by decide) rfl (fun q => by cases q) bk_Main_keepPort_69_17 _ 97 _ _ _ bk_Main_keepPort_69_17_ok rfl ?_
        show (am_tg h35 a0 = (11, 18) ∧ (∃ b36, am_P h35 a0 3 = some b36 ∧ (am_tg h35 a0 = (11, 18) ∧ (am_tg h35 (am_sz h30) = (2, (am_tg h35 (am_sz h30)).2) ∧ ((am_tg h35 b36).1 = 30 + 2 ∧ ((2 = 2 ∨ 2 = 4 ∨ 2 = 6 ∨ 2 = 7 ∨ 2 = 8) ∧ (vp_in (am_I h35 a0 11) (am_tg h35 b36).2 ∧ (am_tg h35 a0 = (11, 18) ∧ (am_tg h35 a0 = (11, 18) ∧ (am_tg h35 a0 = (11, 18) ∧ am_EI m_Main_keepPort kc ks 97 [.ref a0, .int x1, .ref b7, .int 0, .int r31, .ref (am_sz h30)] [.int ((am_I (am_si (am_sp h35 b36 ((am_I h35 a0 11).toNatClampNeg) (some (am_sz h30))) a0 11 ((am_I h35 a0 11) + 1)) a0 11) - 1), .ref a0] (am_si (am_sp h35 b36 ((am_I h35 a0 11).toNatClampNeg) (some (am_sz h30))) a0 11 ((am_I h35 a0 11) + 1)) Q))))))))))
        obtain ⟨o37, b36, q38, o39, o40, o41, t⟩ := t
        refine ⟨o37, b36, q38, o37, o39, o40, (by decide), o41, o37, o37, o37, ?_⟩
        refine am_callV (M2 := m_Main_answer) (ci := 11) (a := a0) (kc := kc) (ks := ks) (k2c := 0) (k2s := 0) (as := []) [.int ((am_I (am_si (am_sp h35 b36 ((am_I h35 a0 11).toNatClampNeg) (some (am_sz h30))) a0 11 ((am_I h35 a0 11) + 1)) a0 11) - 1)] dc_Main_keepPort_97 lk_11_119 im_Main_answer se_Main_answer lm_Main_answer np_Main_answer ⟨Nat.le_of_ble_eq_true rfl, Nat.le_of_ble_eq_true rfl⟩ (fun _ => Nat.le_of_ble_eq_true rfl) (by decide) rfl o37 (am_Ei.end (am_Ei.mono t (fun r43 h42 t => ?_)))
        exact am_iret dc_Main_keepPort_100 rfl t
      · refine am_EI.more (kc := kc) (ks := ks) 4 53 ?_
        replace t := t.2 c32
        refine am_blk_ok (c := 11) (ini := false) (by decide) rfl (fun q => by cases q) bk_Main_keepPort_45_2 _ 48 _ _ _ bk_Main_keepPort_45_2_ok rfl ?_
        show am_EI m_Main_keepPort kc ks 48 [.ref a0, .int x1, .ref b7, .int 0, .int r31, .float 0] [.int r31, .ref a0] h30 Q
        obtain ⟨o44, t⟩ := t
        refine am_callV (M2 := m_Main_refuse) (ci := 11) (a := a0) (kc := kc) (ks := ks) (k2c := 0) (k2s := 0) (as := []) [.int r31] dc_Main_keepPort_48 lk_11_108 im_Main_refuse se_Main_refuse lm_Main_refuse np_Main_refuse ⟨Nat.le_of_ble_eq_true rfl, Nat.le_of_ble_eq_true rfl⟩ (fun _ => Nat.le_of_ble_eq_true rfl) (by decide) rfl o44 (am_Ei.end (am_Ei.mono t (fun r46 h45 t => ?_)))
        exact am_iret dc_Main_keepPort_51 rfl t
    · replace t := t.2 c29
      refine am_blk_ok (c := 11) (ini := false) (by decide) rfl (fun q => by cases q) bk_Main_keepPort_17_1 _ 18 _ _ _ bk_Main_keepPort_17_1_ok rfl ?_
      show am_EI m_Main_keepPort (kc + 3 + 1) (ks + 48 + 5) 18 [.ref a0, .int x1, .ref b7, .float 0, .float 0, .float 0] [.ref b7] h5 Q
      obtain ⟨o47, t⟩ := t
      refine am_callV (M2 := m_Port_turnCount) (ci := 2) (a := b7) (kc := (kc + 3 + 1)) (ks := (ks + 48 + 5)) (k2c := 0) (k2s := 0) (as := []) [] dc_Main_keepPort_18 lk_11_190 im_Port_turnCount se_Port_turnCount lm_Port_turnCount np_Port_turnCount ⟨Nat.le_of_ble_eq_true rfl, Nat.le_of_ble_eq_true rfl⟩ (fun _ => Nat.le_of_ble_eq_true rfl) (by decide) rfl o47 (am_Ei.end (am_Ei.mono t (fun r49 h48 t => ?_)))
      refine am_blk_ok (c := 11) (ini := false) (by decide) rfl (fun q => by cases q) bk_Main_keepPort_21_1 _ 23 _ _ _ bk_Main_keepPort_21_1_ok rfl ?_
      show am_EI m_Main_keepPort (kc + 3 + 1) (ks + 48 + 5) 23 [.ref a0, .int x1, .ref b7, .float 0, .float 0, .float 0] [.int 16, .int r49] h48 Q
      refine am_ic_gt (tgt := 30) dc_Main_keepPort_23 (by decide) (fun c50 => ?_) (fun c50 => ?_)
      · replace t := t.1 c50
        refine am_blk_ok (c := 11) (ini := false) (by decide) rfl (fun q => by cases q) bk_Main_keepPort_30_5 _ 35 _ _ _ bk_Main_keepPort_30_5_ok rfl ?_
        show am_EI m_Main_keepPort (kc + 3 + 1) (ks + 48 + 5) 35 [.ref a0, .int x1, .ref b7, .int 0, .float 0, .float 0] [.int 0, .int x1, .ref a0] h48 Q
        obtain ⟨o51, t⟩ := t
        refine am_callV (M2 := m_Main_judge) (ci := 11) (a := a0) (kc := (kc + 3 + 1)) (ks := (ks + 48 + 5)) (k2c := 0) (k2s := 0) (as := []) [.int x1, .int 0] dc_Main_keepPort_35 lk_11_162 im_Main_judge se_Main_judge lm_Main_judge np_Main_judge ⟨Nat.le_of_ble_eq_true rfl, Nat.le_of_ble_eq_true rfl⟩ (fun _ => Nat.le_of_ble_eq_true rfl) (by decide) rfl o51 (am_Ei.end (am_Ei.mono t (fun r53 h52 t => ?_)))
        refine am_blk_ok (c := 11) (ini := false) (by decide) rfl (fun q => by cases q) bk_Main_keepPort_38_2 _ 42 _ _ _ bk_Main_keepPort_38_2_ok rfl ?_
        show am_EI m_Main_keepPort (kc + 3 + 1) (ks + 48 + 5) 42 [.ref a0, .int x1, .ref b7, .int 0, .int r53, .float 0] [.int r53] h52 Q
        refine am_if_eq (tgt := 52) dc_Main_keepPort_42 (by decide) (fun c54 => ?_) (fun c54 => ?_)
        · replace t := t.1 c54
          refine am_new (kc := (kc + 3)) (ks := (ks + 48)) (ci := 2) dc_Main_keepPort_52 (by decide) cl_11_32 in_2 ii_2 ?_
          refine am_blk_ok (c := 11) (ini := false) (by decide) rfl (fun q => by cases q) bk_Main_keepPort_55_2 _ 58 _ _ _ bk_Main_keepPort_55_2_ok rfl ?_
          show am_EI m_Main_keepPort (kc + 3) (ks + 48) 58 [.ref a0, .int x1, .ref b7, .int 0, .int r53, .float 0] [.int 16, .ref (am_sz h52), .ref (am_sz h52)] (am_nw h52 2 5) Q
          refine am_callI (M2 := m_Port_init) (a := am_sz h52) (kc := kc) (ks := ks) (k2c := 3) (k2s := 48) (as := [.ref (am_sz h52)]) [.int 16] dc_Main_keepPort_58 lk_11_307 im_Port_init rfl rfl lm_Port_init np_Port_init ⟨Nat.le_of_ble_eq_true rfl, Nat.le_of_ble_eq_true rfl⟩ (fun _ => Nat.le_of_ble_eq_true rfl) (am_Ew.end (am_Ew.mono t (fun h55 t => ?_)))
          refine am_blk_ok (c := 11) (ini := false) (by decide) rfl (fun q => by cases q) bk_Main_keepPort_61_3 _ 66 _ _ _ bk_Main_keepPort_61_3_ok rfl ?_
          show am_EI m_Main_keepPort kc ks 66 [.ref a0, .int x1, .ref b7, .int 0, .int r53, .ref (am_sz h52)] [.ref b7, .ref (am_sz h52)] h55 Q
          obtain ⟨o56, t⟩ := t
          refine am_callV (M2 := m_Port_copyFrom) (ci := 2) (a := am_sz h52) (kc := kc) (ks := ks) (k2c := 0) (k2s := 0) (as := []) [.ref b7] dc_Main_keepPort_66 lk_11_308 im_Port_copyFrom se_Port_copyFrom lm_Port_copyFrom np_Port_copyFrom ⟨Nat.le_of_ble_eq_true rfl, Nat.le_of_ble_eq_true rfl⟩ (fun _ => Nat.le_of_ble_eq_true rfl) (by decide) rfl o56 (am_Ew.end (am_Ew.mono t (fun h57 t => ?_)))
          refine am_blk_ok (c := 11) (ini := false) (by decide) rfl (fun q => by cases q) bk_Main_keepPort_69_17 _ 97 _ _ _ bk_Main_keepPort_69_17_ok rfl ?_
          show (am_tg h57 a0 = (11, 18) ∧ (∃ b58, am_P h57 a0 3 = some b58 ∧ (am_tg h57 a0 = (11, 18) ∧ (am_tg h57 (am_sz h52) = (2, (am_tg h57 (am_sz h52)).2) ∧ ((am_tg h57 b58).1 = 30 + 2 ∧ ((2 = 2 ∨ 2 = 4 ∨ 2 = 6 ∨ 2 = 7 ∨ 2 = 8) ∧ (vp_in (am_I h57 a0 11) (am_tg h57 b58).2 ∧ (am_tg h57 a0 = (11, 18) ∧ (am_tg h57 a0 = (11, 18) ∧ (am_tg h57 a0 = (11, 18) ∧ am_EI m_Main_keepPort kc ks 97 [.ref a0, .int x1, .ref b7, .int 0, .int r53, .ref (am_sz h52)] [.int ((am_I (am_si (am_sp h57 b58 ((am_I h57 a0 11).toNatClampNeg) (some (am_sz h52))) a0 11 ((am_I h57 a0 11) + 1)) a0 11) - 1), .ref a0] (am_si (am_sp h57 b58 ((am_I h57 a0 11).toNatClampNeg) (some (am_sz h52))) a0 11 ((am_I h57 a0 11) + 1)) Q))))))))))
          obtain ⟨o59, b58, q60, o61, o62, o63, t⟩ := t
          refine ⟨o59, b58, q60, o59, o61, o62, (by decide), o63, o59, o59, o59, ?_⟩
          refine am_callV (M2 := m_Main_answer) (ci := 11) (a := a0) (kc := kc) (ks := ks) (k2c := 0) (k2s := 0) (as := []) [.int ((am_I (am_si (am_sp h57 b58 ((am_I h57 a0 11).toNatClampNeg) (some (am_sz h52))) a0 11 ((am_I h57 a0 11) + 1)) a0 11) - 1)] dc_Main_keepPort_97 lk_11_119 im_Main_answer se_Main_answer lm_Main_answer np_Main_answer ⟨Nat.le_of_ble_eq_true rfl, Nat.le_of_ble_eq_true rfl⟩ (fun _ => Nat.le_of_ble_eq_true rfl) (by decide) rfl o59 (am_Ei.end (am_Ei.mono t (fun r65 h64 t => ?_)))
          exact am_iret dc_Main_keepPort_100 rfl t
        · refine am_EI.more (kc := kc) (ks := ks) 4 53 ?_
          replace t := t.2 c54
          refine am_blk_ok (c := 11) (ini := false) (by decide) rfl (fun q => by cases q) bk_Main_keepPort_45_2 _ 48 _ _ _ bk_Main_keepPort_45_2_ok rfl ?_
          show am_EI m_Main_keepPort kc ks 48 [.ref a0, .int x1, .ref b7, .int 0, .int r53, .float 0] [.int r53, .ref a0] h52 Q
          obtain ⟨o66, t⟩ := t
          refine am_callV (M2 := m_Main_refuse) (ci := 11) (a := a0) (kc := kc) (ks := ks) (k2c := 0) (k2s := 0) (as := []) [.int r53] dc_Main_keepPort_48 lk_11_108 im_Main_refuse se_Main_refuse lm_Main_refuse np_Main_refuse ⟨Nat.le_of_ble_eq_true rfl, Nat.le_of_ble_eq_true rfl⟩ (fun _ => Nat.le_of_ble_eq_true rfl) (by decide) rfl o66 (am_Ei.end (am_Ei.mono t (fun r68 h67 t => ?_)))
          exact am_iret dc_Main_keepPort_51 rfl t
      · replace t := t.2 c50
        refine am_blk_ok (c := 11) (ini := false) (by decide) rfl (fun q => by cases q) bk_Main_keepPort_26_6 _ 35 _ _ _ bk_Main_keepPort_26_6_ok rfl ?_
        show am_EI m_Main_keepPort (kc + 3 + 1) (ks + 48 + 5) 35 [.ref a0, .int x1, .ref b7, .int 1, .float 0, .float 0] [.int 1, .int x1, .ref a0] h48 Q
        obtain ⟨o69, t⟩ := t
        refine am_callV (M2 := m_Main_judge) (ci := 11) (a := a0) (kc := (kc + 3 + 1)) (ks := (ks + 48 + 5)) (k2c := 0) (k2s := 0) (as := []) [.int x1, .int 1] dc_Main_keepPort_35 lk_11_162 im_Main_judge se_Main_judge lm_Main_judge np_Main_judge ⟨Nat.le_of_ble_eq_true rfl, Nat.le_of_ble_eq_true rfl⟩ (fun _ => Nat.le_of_ble_eq_true rfl) (by decide) rfl o69 (am_Ei.end (am_Ei.mono t (fun r71 h70 t => ?_)))
        refine am_blk_ok (c := 11) (ini := false) (by decide) rfl (fun q => by cases q) bk_Main_keepPort_38_2 _ 42 _ _ _ bk_Main_keepPort_38_2_ok rfl ?_
        show am_EI m_Main_keepPort (kc + 3 + 1) (ks + 48 + 5) 42 [.ref a0, .int x1, .ref b7, .int 1, .int r71, .float 0] [.int r71] h70 Q
        refine am_if_eq (tgt := 52) dc_Main_keepPort_42 (by decide) (fun c72 => ?_) (fun c72 => ?_)
        · replace t := t.1 c72
          refine am_new (kc := (kc + 3)) (ks := (ks + 48)) (ci := 2) dc_Main_keepPort_52 (by decide) cl_11_32 in_2 ii_2 ?_
          refine am_blk_ok (c := 11) (ini := false) (by decide) rfl (fun q => by cases q) bk_Main_keepPort_55_2 _ 58 _ _ _ bk_Main_keepPort_55_2_ok rfl ?_
          show am_EI m_Main_keepPort (kc + 3) (ks + 48) 58 [.ref a0, .int x1, .ref b7, .int 1, .int r71, .float 0] [.int 16, .ref (am_sz h70), .ref (am_sz h70)] (am_nw h70 2 5) Q
          refine am_callI (M2 := m_Port_init) (a := am_sz h70) (kc := kc) (ks := ks) (k2c := 3) (k2s := 48) (as := [.ref (am_sz h70)]) [.int 16] dc_Main_keepPort_58 lk_11_307 im_Port_init rfl rfl lm_Port_init np_Port_init ⟨Nat.le_of_ble_eq_true rfl, Nat.le_of_ble_eq_true rfl⟩ (fun _ => Nat.le_of_ble_eq_true rfl) (am_Ew.end (am_Ew.mono t (fun h73 t => ?_)))
          refine am_blk_ok (c := 11) (ini := false) (by decide) rfl (fun q => by cases q) bk_Main_keepPort_61_3 _ 66 _ _ _ bk_Main_keepPort_61_3_ok rfl ?_
          show am_EI m_Main_keepPort kc ks 66 [.ref a0, .int x1, .ref b7, .int 1, .int r71, .ref (am_sz h70)] [.ref b7, .ref (am_sz h70)] h73 Q
          obtain ⟨o74, t⟩ := t
          refine am_callV (M2 := m_Port_copyFrom) (ci := 2) (a := am_sz h70) (kc := kc) (ks := ks) (k2c := 0) (k2s := 0) (as := []) [.ref b7] dc_Main_keepPort_66 lk_11_308 im_Port_copyFrom se_Port_copyFrom lm_Port_copyFrom np_Port_copyFrom ⟨Nat.le_of_ble_eq_true rfl, Nat.le_of_ble_eq_true rfl⟩ (fun _ => Nat.le_of_ble_eq_true rfl) (by decide) rfl o74 (am_Ew.end (am_Ew.mono t (fun h75 t => ?_)))
          refine am_blk_ok (c := 11) (ini := false) (by decide) rfl (fun q => by cases q) bk_Main_keepPort_69_17 _ 97 _ _ _ bk_Main_keepPort_69_17_ok rfl ?_
          show (am_tg h75 a0 = (11, 18) ∧ (∃ b76, am_P h75 a0 3 = some b76 ∧ (am_tg h75 a0 = (11, 18) ∧ (am_tg h75 (am_sz h70) = (2, (am_tg h75 (am_sz h70)).2) ∧ ((am_tg h75 b76).1 = 30 + 2 ∧ ((2 = 2 ∨ 2 = 4 ∨ 2 = 6 ∨ 2 = 7 ∨ 2 = 8) ∧ (vp_in (am_I h75 a0 11) (am_tg h75 b76).2 ∧ (am_tg h75 a0 = (11, 18) ∧ (am_tg h75 a0 = (11, 18) ∧ (am_tg h75 a0 = (11, 18) ∧ am_EI m_Main_keepPort kc ks 97 [.ref a0, .int x1, .ref b7, .int 1, .int r71, .ref (am_sz h70)] [.int ((am_I (am_si (am_sp h75 b76 ((am_I h75 a0 11).toNatClampNeg) (some (am_sz h70))) a0 11 ((am_I h75 a0 11) + 1)) a0 11) - 1), .ref a0] (am_si (am_sp h75 b76 ((am_I h75 a0 11).toNatClampNeg) (some (am_sz h70))) a0 11 ((am_I h75 a0 11) + 1)) Q))))))))))
          obtain ⟨o77, b76, q78, o79, o80, o81, t⟩ := t
          refine ⟨o77, b76, q78, o77, o79, o80, (by decide), o81, o77, o77, o77, ?_⟩
          refine am_callV (M2 := m_Main_answer) (ci := 11) (a := a0) (kc := kc) (ks := ks) (k2c := 0) (k2s := 0) (as := []) [.int ((am_I (am_si (am_sp h75 b76 ((am_I h75 a0 11).toNatClampNeg) (some (am_sz h70))) a0 11 ((am_I h75 a0 11) + 1)) a0 11) - 1)] dc_Main_keepPort_97 lk_11_119 im_Main_answer se_Main_answer lm_Main_answer np_Main_answer ⟨Nat.le_of_ble_eq_true rfl, Nat.le_of_ble_eq_true rfl⟩ (fun _ => Nat.le_of_ble_eq_true rfl) (by decide) rfl o77 (am_Ei.end (am_Ei.mono t (fun r83 h82 t => ?_)))
          exact am_iret dc_Main_keepPort_100 rfl t
        · refine am_EI.more (kc := kc) (ks := ks) 4 53 ?_
          replace t := t.2 c72
          refine am_blk_ok (c := 11) (ini := false) (by decide) rfl (fun q => by cases q) bk_Main_keepPort_45_2 _ 48 _ _ _ bk_Main_keepPort_45_2_ok rfl ?_
          show am_EI m_Main_keepPort kc ks 48 [.ref a0, .int x1, .ref b7, .int 1, .int r71, .float 0] [.int r71, .ref a0] h70 Q
          obtain ⟨o84, t⟩ := t
          refine am_callV (M2 := m_Main_refuse) (ci := 11) (a := a0) (kc := kc) (ks := ks) (k2c := 0) (k2s := 0) (as := []) [.int r71] dc_Main_keepPort_48 lk_11_108 im_Main_refuse se_Main_refuse lm_Main_refuse np_Main_refuse ⟨Nat.le_of_ble_eq_true rfl, Nat.le_of_ble_eq_true rfl⟩ (fun _ => Nat.le_of_ble_eq_true rfl) (by decide) rfl o84 (am_Ei.end (am_Ei.mono t (fun r86 h85 t => ?_)))
          exact am_iret dc_Main_keepPort_51 rfl t
set_option maxRecDepth 20000 in
theorem ev_Main_keepPort (a0 : Nat) (x1 : Int32) (h : am_H) (Q : Int32 → am_H → Prop) (t : (am_tg h a0 = (11, 18) ∧ (∃ b1, am_P h a0 1 = some b1 ∧ (am_tg h b1 = (3, 7) ∧ (am_Er m_Draft_made 0 0 [.ref b1] h (fun r6 h5 => (r6 = none → (am_tg h5 a0 = (11, 18) ∧ ((8 ≤ (am_I h5 a0 11) → (am_Ei m_Main_judge 0 0 [.ref a0, .int x1, .int 0] h5 (fun r12 h11 => ((r12 = 0 → (am_Ew m_Port_init 3 48 [.ref (am_sz h11), .int 16] (am_nw h11 2 5) (fun h14 => (am_tg h14 (am_sz h11) = (2, 5) ∧ (am_Ew m_Port_copyFrom 0 0 [.ref (am_sz h11), .null] h14 (fun h16 => (am_tg h16 a0 = (11, 18) ∧ (∃ b17, am_P h16 a0 3 = some b17 ∧ (am_tg h16 (am_sz h11) = (2, (am_tg h16 (am_sz h11)).2) ∧ ((am_tg h16 b17).1 = 30 + 2 ∧ (vp_in (am_I h16 a0 11) (am_tg h16 b17).2 ∧ (am_Ei m_Main_answer 0 0 [.ref a0, .int ((am_I (am_si (am_sp h16 b17 ((am_I h16 a0 11).toNatClampNeg) (some (am_sz h11))) a0 11 ((am_I h16 a0 11) + 1)) a0 11) - 1)] (am_si (am_sp h16 b17 ((am_I h16 a0 11).toNatClampNeg) (some (am_sz h11))) a0 11 ((am_I h16 a0 11) + 1)) (fun r24 h23 => Q r24 h23))))))))))))) ∧ (¬ r12 = 0 → (am_tg h11 a0 = (11, 18) ∧ (am_Ei m_Main_refuse 0 0 [.ref a0, .int r12] h11 (fun r27 h26 => Q r27 h26)))))))) ∧ (¬ 8 ≤ (am_I h5 a0 11) → False)))) ∧ ∀ b7, r6 = some b7 → (am_tg h5 a0 = (11, 18) ∧ ((8 ≤ (am_I h5 a0 11) → (am_Ei m_Main_judge 0 0 [.ref a0, .int x1, .int 0] h5 (fun r31 h30 => ((r31 = 0 → (am_Ew m_Port_init 3 48 [.ref (am_sz h30), .int 16] (am_nw h30 2 5) (fun h33 => (am_tg h33 (am_sz h30) = (2, 5) ∧ (am_Ew m_Port_copyFrom 0 0 [.ref (am_sz h30), .ref b7] h33 (fun h35 => (am_tg h35 a0 = (11, 18) ∧ (∃ b36, am_P h35 a0 3 = some b36 ∧ (am_tg h35 (am_sz h30) = (2, (am_tg h35 (am_sz h30)).2) ∧ ((am_tg h35 b36).1 = 30 + 2 ∧ (vp_in (am_I h35 a0 11) (am_tg h35 b36).2 ∧ (am_Ei m_Main_answer 0 0 [.ref a0, .int ((am_I (am_si (am_sp h35 b36 ((am_I h35 a0 11).toNatClampNeg) (some (am_sz h30))) a0 11 ((am_I h35 a0 11) + 1)) a0 11) - 1)] (am_si (am_sp h35 b36 ((am_I h35 a0 11).toNatClampNeg) (some (am_sz h30))) a0 11 ((am_I h35 a0 11) + 1)) (fun r43 h42 => Q r43 h42))))))))))))) ∧ (¬ r31 = 0 → (am_tg h30 a0 = (11, 18) ∧ (am_Ei m_Main_refuse 0 0 [.ref a0, .int r31] h30 (fun r46 h45 => Q r46 h45)))))))) ∧ (¬ 8 ≤ (am_I h5 a0 11) → (am_tg h5 b7 = (2, 5) ∧ (am_Ei m_Port_turnCount 0 0 [.ref b7] h5 (fun r49 h48 => ((16 < r49 → (am_tg h48 a0 = (11, 18) ∧ (am_Ei m_Main_judge 0 0 [.ref a0, .int x1, .int 0] h48 (fun r53 h52 => ((r53 = 0 → (am_Ew m_Port_init 3 48 [.ref (am_sz h52), .int 16] (am_nw h52 2 5) (fun h55 => (am_tg h55 (am_sz h52) = (2, 5) ∧ (am_Ew m_Port_copyFrom 0 0 [.ref (am_sz h52), .ref b7] h55 (fun h57 => (am_tg h57 a0 = (11, 18) ∧ (∃ b58, am_P h57 a0 3 = some b58 ∧ (am_tg h57 (am_sz h52) = (2, (am_tg h57 (am_sz h52)).2) ∧ ((am_tg h57 b58).1 = 30 + 2 ∧ (vp_in (am_I h57 a0 11) (am_tg h57 b58).2 ∧ (am_Ei m_Main_answer 0 0 [.ref a0, .int ((am_I (am_si (am_sp h57 b58 ((am_I h57 a0 11).toNatClampNeg) (some (am_sz h52))) a0 11 ((am_I h57 a0 11) + 1)) a0 11) - 1)] (am_si (am_sp h57 b58 ((am_I h57 a0 11).toNatClampNeg) (some (am_sz h52))) a0 11 ((am_I h57 a0 11) + 1)) (fun r65 h64 => Q r65 h64))))))))))))) ∧ (¬ r53 = 0 → (am_tg h52 a0 = (11, 18) ∧ (am_Ei m_Main_refuse 0 0 [.ref a0, .int r53] h52 (fun r68 h67 => Q r68 h67))))))))) ∧ (¬ 16 < r49 → (am_tg h48 a0 = (11, 18) ∧ (am_Ei m_Main_judge 0 0 [.ref a0, .int x1, .int 1] h48 (fun r71 h70 => ((r71 = 0 → (am_Ew m_Port_init 3 48 [.ref (am_sz h70), .int 16] (am_nw h70 2 5) (fun h73 => (am_tg h73 (am_sz h70) = (2, 5) ∧ (am_Ew m_Port_copyFrom 0 0 [.ref (am_sz h70), .ref b7] h73 (fun h75 => (am_tg h75 a0 = (11, 18) ∧ (∃ b76, am_P h75 a0 3 = some b76 ∧ (am_tg h75 (am_sz h70) = (2, (am_tg h75 (am_sz h70)).2) ∧ ((am_tg h75 b76).1 = 30 + 2 ∧ (vp_in (am_I h75 a0 11) (am_tg h75 b76).2 ∧ (am_Ei m_Main_answer 0 0 [.ref a0, .int ((am_I (am_si (am_sp h75 b76 ((am_I h75 a0 11).toNatClampNeg) (some (am_sz h70))) a0 11 ((am_I h75 a0 11) + 1)) a0 11) - 1)] (am_si (am_sp h75 b76 ((am_I h75 a0 11).toNatClampNeg) (some (am_sz h70))) a0 11 ((am_I h75 a0 11) + 1)) (fun r83 h82 => Q r83 h82))))))))))))) ∧ (¬ r71 = 0 → (am_tg h70 a0 = (11, 18) ∧ (am_Ei m_Main_refuse 0 0 [.ref a0, .int r71] h70 (fun r86 h85 => Q r86 h85)))))))))))))))))))))) : am_Ei m_Main_keepPort (0 + 3 + 1) (0 + 48 + 5) [.ref a0, .int x1] h Q :=
  am_Ev.of (by decide +kernel) (Nat.le_of_ble_eq_true rfl) (by simp only [List.mem_cons, List.not_mem_nil, or_false]; intro v hv; rcases hv with rfl | rfl; all_goals first | exact trivial) (sg_Main_keepPort_0 (kc := 0) (ks := 0) a0 x1 h (am_qi Q) t)
def bk_Main_leg_0_2 : List am_E := [(0, .aload_n 0, 1, 0, 0), (1, .iload_n 1, 1, 0, 0)]
theorem bk_Main_leg_0_2_ok : bk_Main_leg_0_2.all (am_ok 11 false m_Main_leg.2.1) = true := by decide +kernel
def bk_Main_leg_5_3 : List am_E := [(5, .astore 4, 2, 0, 0), (7, .aload_n 0, 1, 0, 0), (8, .iload_n 2, 1, 0, 0)]
theorem bk_Main_leg_5_3_ok : bk_Main_leg_5_3.all (am_ok 11 false m_Main_leg.2.1) = true := by decide +kernel
def bk_Main_leg_12_2 : List am_E := [(12, .astore 5, 2, 0, 0), (14, .aload 4, 2, 0, 0)]
theorem bk_Main_leg_12_2_ok : bk_Main_leg_12_2.all (am_ok 11 false m_Main_leg.2.1) = true := by decide +kernel
def bk_Main_leg_37_2 : List am_E := [(37, .aload_n 0, 1, 0, 0), (38, .iconst 1, 1, 0, 1)]
theorem bk_Main_leg_37_2_ok : bk_Main_leg_37_2.all (am_ok 11 false m_Main_leg.2.1) = true := by decide +kernel
def bk_Main_leg_19_1 : List am_E := [(19, .aload 5, 2, 0, 0)]
theorem bk_Main_leg_19_1_ok : bk_Main_leg_19_1.all (am_ok 11 false m_Main_leg.2.1) = true := by decide +kernel
def bk_Main_leg_24_1 : List am_E := [(24, .iload_n 3, 1, 0, 0)]
theorem bk_Main_leg_24_1_ok : bk_Main_leg_24_1.all (am_ok 11 false m_Main_leg.2.1) = true := by decide +kernel
def bk_Main_leg_28_2 : List am_E := [(28, .iload_n 3, 1, 0, 0), (29, .aload 4, 2, 0, 0)]
theorem bk_Main_leg_28_2_ok : bk_Main_leg_28_2.all (am_ok 11 false m_Main_leg.2.1) = true := by decide +kernel
def bk_Main_leg_43_4 : List am_E := [(43, .aload_n 0, 1, 0, 0), (44, .aload 5, 2, 0, 0), (46, .aload 4, 2, 0, 0), (48, .iload_n 3, 1, 0, 0)]
theorem bk_Main_leg_43_4_ok : bk_Main_leg_43_4.all (am_ok 11 false m_Main_leg.2.1) = true := by decide +kernel
theorem dc_Main_leg_2 : decode m_Main_leg.2.1 2 = .ok (.invokevirtual 246, 3) := by decide +kernel
theorem dc_Main_leg_9 : decode m_Main_leg.2.1 9 = .ok (.invokevirtual 250, 3) := by decide +kernel
theorem dc_Main_leg_16 : decode m_Main_leg.2.1 16 = .ok (.ifnull 21, 3) := by decide +kernel
theorem dc_Main_leg_39 : decode m_Main_leg.2.1 39 = .ok (.invokevirtual 108, 3) := by decide +kernel
theorem dc_Main_leg_42 : decode m_Main_leg.2.1 42 = .ok (.ireturn, 1) := by decide +kernel
theorem dc_Main_leg_21 : decode m_Main_leg.2.1 21 = .ok (.ifnull 16, 3) := by decide +kernel
theorem dc_Main_leg_31 : decode m_Main_leg.2.1 31 = .ok (.invokevirtual 170, 3) := by decide +kernel
theorem dc_Main_leg_49 : decode m_Main_leg.2.1 49 = .ok (.invokevirtual 254, 3) := by decide +kernel
theorem dc_Main_leg_52 : decode m_Main_leg.2.1 52 = .ok (.invokevirtual 257, 3) := by decide +kernel
theorem dc_Main_leg_55 : decode m_Main_leg.2.1 55 = .ok (.invokevirtual 119, 3) := by decide +kernel
theorem dc_Main_leg_58 : decode m_Main_leg.2.1 58 = .ok (.ireturn, 1) := by decide +kernel
theorem dc_Main_leg_34 : decode m_Main_leg.2.1 34 = .ok (.if_icmp .lt 9, 3) := by decide +kernel
theorem dc_Main_leg_25 : decode m_Main_leg.2.1 25 = .ok (.ifCond .lt 12, 3) := by decide +kernel
set_option maxRecDepth 20000 in
theorem sg_Main_leg_0 {kc ks : Nat} (a0 : Nat) (x1 x2 x3 : Int32) (h : am_H) (Q : Option Value → am_H → Prop) (t : (am_tg h a0 = (11, 18) ∧ (am_Er m_Main_routeAt 0 0 [.ref a0, .int x1] h (fun r3 h2 => (r3 = none → (am_tg h2 a0 = (11, 18) ∧ (am_Er m_Main_shipAt 0 0 [.ref a0, .int x2] h2 (fun r8 h7 => (r8 = none → (am_tg h7 a0 = (11, 18) ∧ (am_Ei m_Main_refuse 0 0 [.ref a0, .int 1] h7 (fun r13 h12 => Q (some (.int r13)) h12)))) ∧ ∀ b9, r8 = some b9 → (am_tg h7 a0 = (11, 18) ∧ (am_Ei m_Main_refuse 0 0 [.ref a0, .int 1] h7 (fun r16 h15 => Q (some (.int r16)) h15))))))) ∧ ∀ b4, r3 = some b4 → (am_tg h2 a0 = (11, 18) ∧ (am_Er m_Main_shipAt 0 0 [.ref a0, .int x2] h2 (fun r19 h18 => (r19 = none → (am_tg h18 a0 = (11, 18) ∧ (am_Ei m_Main_refuse 0 0 [.ref a0, .int 1] h18 (fun r24 h23 => Q (some (.int r24)) h23)))) ∧ ∀ b20, r19 = some b20 → ((x3 < 0 → (am_tg h18 a0 = (11, 18) ∧ (am_Ei m_Main_refuse 0 0 [.ref a0, .int 1] h18 (fun r28 h27 => Q (some (.int r28)) h27)))) ∧ (¬ x3 < 0 → (am_tg h18 b4 = (4, 7) ∧ (am_Ei m_Route_stopCount 0 0 [.ref b4] h18 (fun r31 h30 => ((x3 < r31 → (am_tg h30 b4 = (4, 7) ∧ (am_Ei m_Route_milesTo 0 0 [.ref b4, .int x3] h30 (fun r35 h34 => (am_tg h34 b20 = (6, 3) ∧ (am_Ei m_Ship_minutesFor 0 0 [.ref b20, .int r35] h34 (fun r38 h37 => (am_tg h37 a0 = (11, 18) ∧ (am_Ei m_Main_answer 0 0 [.ref a0, .int r38] h37 (fun r41 h40 => Q (some (.int r41)) h40)))))))))) ∧ (¬ x3 < r31 → (am_tg h30 a0 = (11, 18) ∧ (am_Ei m_Main_refuse 0 0 [.ref a0, .int 1] h30 (fun r44 h43 => Q (some (.int r44)) h43))))))))))))))))) : am_EI m_Main_leg kc ks 0 [.ref a0, .int x1, .int x2, .int x3, .float 0, .float 0] [] h Q := by
  refine am_blk_ok (c := 11) (ini := false) (by decide) rfl (fun q => by cases q) bk_Main_leg_0_2 _ 2 _ _ _ bk_Main_leg_0_2_ok rfl ?_
  show am_EI m_Main_leg kc ks 2 [.ref a0, .int x1, .int x2, .int x3, .float 0, .float 0] [.int x1, .ref a0] h Q
  obtain ⟨o1, t⟩ := t
  refine am_callV (M2 := m_Main_routeAt) (ci := 11) (a := a0) (kc := kc) (ks := ks) (k2c := 0) (k2s := 0) (as := []) [.int x1] dc_Main_leg_2 lk_11_246 im_Main_routeAt se_Main_routeAt lm_Main_routeAt np_Main_routeAt ⟨Nat.le_of_ble_eq_true rfl, Nat.le_of_ble_eq_true rfl⟩ (fun _ => Nat.le_of_ble_eq_true rfl) (by decide) rfl o1 (am_Er.end (am_Er.mono t (fun r3 h2 t => ⟨fun c5 => ?_, fun b4 c5 => ?_⟩)))
  · replace t := t.1 c5
    refine am_blk_ok (c := 11) (ini := false) (by decide) rfl (fun q => by cases q) bk_Main_leg_5_3 _ 9 _ _ _ bk_Main_leg_5_3_ok rfl ?_
    show am_EI m_Main_leg kc ks 9 [.ref a0, .int x1, .int x2, .int x3, .null, .float 0] [.int x2, .ref a0] h2 Q
    obtain ⟨o6, t⟩ := t
    refine am_callV (M2 := m_Main_shipAt) (ci := 11) (a := a0) (kc := kc) (ks := ks) (k2c := 0) (k2s := 0) (as := []) [.int x2] dc_Main_leg_9 lk_11_250 im_Main_shipAt se_Main_shipAt lm_Main_shipAt np_Main_shipAt ⟨Nat.le_of_ble_eq_true rfl, Nat.le_of_ble_eq_true rfl⟩ (fun _ => Nat.le_of_ble_eq_true rfl) (by decide) rfl o6 (am_Er.end (am_Er.mono t (fun r8 h7 t => ⟨fun c10 => ?_, fun b9 c10 => ?_⟩)))
    · replace t := t.1 c10
      refine am_blk_ok (c := 11) (ini := false) (by decide) rfl (fun q => by cases q) bk_Main_leg_12_2 _ 16 _ _ _ bk_Main_leg_12_2_ok rfl ?_
      show am_EI m_Main_leg kc ks 16 [.ref a0, .int x1, .int x2, .int x3, .null, .null] [.null] h7 Q
      refine am_ifnullN (tgt := 37) dc_Main_leg_16 (by decide) ?_
      refine am_blk_ok (c := 11) (ini := false) (by decide) rfl (fun q => by cases q) bk_Main_leg_37_2 _ 39 _ _ _ bk_Main_leg_37_2_ok rfl ?_
      show am_EI m_Main_leg kc ks 39 [.ref a0, .int x1, .int x2, .int x3, .null, .null] [.int 1, .ref a0] h7 Q
      obtain ⟨o11, t⟩ := t
      refine am_callV (M2 := m_Main_refuse) (ci := 11) (a := a0) (kc := kc) (ks := ks) (k2c := 0) (k2s := 0) (as := []) [.int 1] dc_Main_leg_39 lk_11_108 im_Main_refuse se_Main_refuse lm_Main_refuse np_Main_refuse ⟨Nat.le_of_ble_eq_true rfl, Nat.le_of_ble_eq_true rfl⟩ (fun _ => Nat.le_of_ble_eq_true rfl) (by decide) rfl o11 (am_Ei.end (am_Ei.mono t (fun r13 h12 t => ?_)))
      exact am_iret dc_Main_leg_42 rfl t
    · replace t := t.2 b9 c10
      refine am_blk_ok (c := 11) (ini := false) (by decide) rfl (fun q => by cases q) bk_Main_leg_12_2 _ 16 _ _ _ bk_Main_leg_12_2_ok rfl ?_
      show am_EI m_Main_leg kc ks 16 [.ref a0, .int x1, .int x2, .int x3, .null, .ref b9] [.null] h7 Q
      refine am_ifnullN (tgt := 37) dc_Main_leg_16 (by decide) ?_
      refine am_blk_ok (c := 11) (ini := false) (by decide) rfl (fun q => by cases q) bk_Main_leg_37_2 _ 39 _ _ _ bk_Main_leg_37_2_ok rfl ?_
      show am_EI m_Main_leg kc ks 39 [.ref a0, .int x1, .int x2, .int x3, .null, .ref b9] [.int 1, .ref a0] h7 Q
      obtain ⟨o14, t⟩ := t
      refine am_callV (M2 := m_Main_refuse) (ci := 11) (a := a0) (kc := kc) (ks := ks) (k2c := 0) (k2s := 0) (as := []) [.int 1] dc_Main_leg_39 lk_11_108 im_Main_refuse se_Main_refuse lm_Main_refuse np_Main_refuse ⟨Nat.le_of_ble_eq_true rfl, Nat.le_of_ble_eq_true rfl⟩ (fun _ => Nat.le_of_ble_eq_true rfl) (by decide) rfl o14 (am_Ei.end (am_Ei.mono t (fun r16 h15 t => ?_)))
      exact am_iret dc_Main_leg_42 rfl t
  · replace t := t.2 b4 c5
    refine am_blk_ok (c := 11) (ini := false) (by decide) rfl (fun q => by cases q) bk_Main_leg_5_3 _ 9 _ _ _ bk_Main_leg_5_3_ok rfl ?_
    show am_EI m_Main_leg kc ks 9 [.ref a0, .int x1, .int x2, .int x3, .ref b4, .float 0] [.int x2, .ref a0] h2 Q
    obtain ⟨o17, t⟩ := t
    refine am_callV (M2 := m_Main_shipAt) (ci := 11) (a := a0) (kc := kc) (ks := ks) (k2c := 0) (k2s := 0) (as := []) [.int x2] dc_Main_leg_9 lk_11_250 im_Main_shipAt se_Main_shipAt lm_Main_shipAt np_Main_shipAt ⟨Nat.le_of_ble_eq_true rfl, Nat.le_of_ble_eq_true rfl⟩ (fun _ => Nat.le_of_ble_eq_true rfl) (by decide) rfl o17 (am_Er.end (am_Er.mono t (fun r19 h18 t => ⟨fun c21 => ?_, fun b20 c21 => ?_⟩)))
    · replace t := t.1 c21
      refine am_blk_ok (c := 11) (ini := false) (by decide) rfl (fun q => by cases q) bk_Main_leg_12_2 _ 16 _ _ _ bk_Main_leg_12_2_ok rfl ?_
      show am_EI m_Main_leg kc ks 16 [.ref a0, .int x1, .int x2, .int x3, .ref b4, .null] [.ref b4] h18 Q
      refine am_ifnull dc_Main_leg_16 ?_
      refine am_blk_ok (c := 11) (ini := false) (by decide) rfl (fun q => by cases q) bk_Main_leg_19_1 _ 21 _ _ _ bk_Main_leg_19_1_ok rfl ?_
      show am_EI m_Main_leg kc ks 21 [.ref a0, .int x1, .int x2, .int x3, .ref b4, .null] [.null] h18 Q
      refine am_ifnullN (tgt := 37) dc_Main_leg_21 (by decide) ?_
      refine am_blk_ok (c := 11) (ini := false) (by decide) rfl (fun q => by cases q) bk_Main_leg_37_2 _ 39 _ _ _ bk_Main_leg_37_2_ok rfl ?_
      show am_EI m_Main_leg kc ks 39 [.ref a0, .int x1, .int x2, .int x3, .ref b4, .null] [.int 1, .ref a0] h18 Q
      obtain ⟨o22, t⟩ := t
      refine am_callV (M2 := m_Main_refuse) (ci := 11) (a := a0) (kc := kc) (ks := ks) (k2c := 0) (k2s := 0) (as := []) [.int 1] dc_Main_leg_39 lk_11_108 im_Main_refuse se_Main_refuse lm_Main_refuse np_Main_refuse ⟨Nat.le_of_ble_eq_true rfl, Nat.le_of_ble_eq_true rfl⟩ (fun _ => Nat.le_of_ble_eq_true rfl) (by decide) rfl o22 (am_Ei.end (am_Ei.mono t (fun r24 h23 t => ?_)))
      exact am_iret dc_Main_leg_42 rfl t
    · replace t := t.2 b20 c21
      refine am_blk_ok (c := 11) (ini := false) (by decide) rfl (fun q => by cases q) bk_Main_leg_12_2 _ 16 _ _ _ bk_Main_leg_12_2_ok rfl ?_
      show am_EI m_Main_leg kc ks 16 [.ref a0, .int x1, .int x2, .int x3, .ref b4, .ref b20] [.ref b4] h18 Q
      refine am_ifnull dc_Main_leg_16 ?_
      refine am_blk_ok (c := 11) (ini := false) (by decide) rfl (fun q => by cases q) bk_Main_leg_19_1 _ 21 _ _ _ bk_Main_leg_19_1_ok rfl ?_
      show am_EI m_Main_leg kc ks 21 [.ref a0, .int x1, .int x2, .int x3, .ref b4, .ref b20] [.ref b20] h18 Q
      refine am_ifnull dc_Main_leg_21 ?_
      refine am_blk_ok (c := 11) (ini := false) (by decide) rfl (fun q => by cases q) bk_Main_leg_24_1 _ 25 _ _ _ bk_Main_leg_24_1_ok rfl ?_
      show am_EI m_Main_leg kc ks 25 [.ref a0, .int x1, .int x2, .int x3, .ref b4, .ref b20] [.int x3] h18 Q
      refine am_if_lt (tgt := 37) dc_Main_leg_25 (by decide) (fun c25 => ?_) (fun c25 => ?_)
      · replace t := t.1 c25
        refine am_blk_ok (c := 11) (ini := false) (by decide) rfl (fun q => by cases q) bk_Main_leg_37_2 _ 39 _ _ _ bk_Main_leg_37_2_ok rfl ?_
        show am_EI m_Main_leg kc ks 39 [.ref a0, .int x1, .int x2, .int x3, .ref b4, .ref b20] [.int 1, .ref a0] h18 Q
        obtain ⟨o26, t⟩ := t
        refine am_callV (M2 := m_Main_refuse) (ci := 11) (a := a0) (kc := kc) (ks := ks) (k2c := 0) (k2s := 0) (as := []) [.int 1] dc_Main_leg_39 lk_11_108 im_Main_refuse se_Main_refuse lm_Main_refuse np_Main_refuse ⟨Nat.le_of_ble_eq_true rfl, Nat.le_of_ble_eq_true rfl⟩ (fun _ => Nat.le_of_ble_eq_true rfl) (by decide) rfl o26 (am_Ei.end (am_Ei.mono t (fun r28 h27 t => ?_)))
        exact am_iret dc_Main_leg_42 rfl t
      · replace t := t.2 c25
        refine am_blk_ok (c := 11) (ini := false) (by decide) rfl (fun q => by cases q) bk_Main_leg_28_2 _ 31 _ _ _ bk_Main_leg_28_2_ok rfl ?_
        show am_EI m_Main_leg kc ks 31 [.ref a0, .int x1, .int x2, .int x3, .ref b4, .ref b20] [.ref b4, .int x3] h18 Q
        obtain ⟨o29, t⟩ := t
        refine am_callV (M2 := m_Route_stopCount) (ci := 4) (a := b4) (kc := kc) (ks := ks) (k2c := 0) (k2s := 0) (as := [.int x3]) [] dc_Main_leg_31 lk_11_170 im_Route_stopCount se_Route_stopCount lm_Route_stopCount np_Route_stopCount ⟨Nat.le_of_ble_eq_true rfl, Nat.le_of_ble_eq_true rfl⟩ (fun _ => Nat.le_of_ble_eq_true rfl) (by decide) rfl o29 (am_Ei.end (am_Ei.mono t (fun r31 h30 t => ?_)))
        refine am_ic_lt (tgt := 43) dc_Main_leg_34 (by decide) (fun c32 => ?_) (fun c32 => ?_)
        · replace t := t.1 c32
          refine am_blk_ok (c := 11) (ini := false) (by decide) rfl (fun q => by cases q) bk_Main_leg_43_4 _ 49 _ _ _ bk_Main_leg_43_4_ok rfl ?_
          show am_EI m_Main_leg kc ks 49 [.ref a0, .int x1, .int x2, .int x3, .ref b4, .ref b20] [.int x3, .ref b4, .ref b20, .ref a0] h30 Q
          obtain ⟨o33, t⟩ := t
          refine am_callV (M2 := m_Route_milesTo) (ci := 4) (a := b4) (kc := kc) (ks := ks) (k2c := 0) (k2s := 0) (as := [.ref b20, .ref a0]) [.int x3] dc_Main_leg_49 lk_11_254 im_Route_milesTo se_Route_milesTo lm_Route_milesTo np_Route_milesTo ⟨Nat.le_of_ble_eq_true rfl, Nat.le_of_ble_eq_true rfl⟩ (fun _ => Nat.le_of_ble_eq_true rfl) (by decide) rfl o33 (am_Ei.end (am_Ei.mono t (fun r35 h34 t => ?_)))
          obtain ⟨o36, t⟩ := t
          refine am_callV (M2 := m_Ship_minutesFor) (ci := 6) (a := b20) (kc := kc) (ks := ks) (k2c := 0) (k2s := 0) (as := [.ref a0]) [.int r35] dc_Main_leg_52 lk_11_257 im_Ship_minutesFor se_Ship_minutesFor lm_Ship_minutesFor np_Ship_minutesFor ⟨Nat.le_of_ble_eq_true rfl, Nat.le_of_ble_eq_true rfl⟩ (fun _ => Nat.le_of_ble_eq_true rfl) (by decide) rfl o36 (am_Ei.end (am_Ei.mono t (fun r38 h37 t => ?_)))
          obtain ⟨o39, t⟩ := t
          refine am_callV (M2 := m_Main_answer) (ci := 11) (a := a0) (kc := kc) (ks := ks) (k2c := 0) (k2s := 0) (as := []) [.int r38] dc_Main_leg_55 lk_11_119 im_Main_answer se_Main_answer lm_Main_answer np_Main_answer ⟨Nat.le_of_ble_eq_true rfl, Nat.le_of_ble_eq_true rfl⟩ (fun _ => Nat.le_of_ble_eq_true rfl) (by decide) rfl o39 (am_Ei.end (am_Ei.mono t (fun r41 h40 t => ?_)))
          exact am_iret dc_Main_leg_58 rfl t
        · replace t := t.2 c32
          refine am_blk_ok (c := 11) (ini := false) (by decide) rfl (fun q => by cases q) bk_Main_leg_37_2 _ 39 _ _ _ bk_Main_leg_37_2_ok rfl ?_
          show am_EI m_Main_leg kc ks 39 [.ref a0, .int x1, .int x2, .int x3, .ref b4, .ref b20] [.int 1, .ref a0] h30 Q
          obtain ⟨o42, t⟩ := t
          refine am_callV (M2 := m_Main_refuse) (ci := 11) (a := a0) (kc := kc) (ks := ks) (k2c := 0) (k2s := 0) (as := []) [.int 1] dc_Main_leg_39 lk_11_108 im_Main_refuse se_Main_refuse lm_Main_refuse np_Main_refuse ⟨Nat.le_of_ble_eq_true rfl, Nat.le_of_ble_eq_true rfl⟩ (fun _ => Nat.le_of_ble_eq_true rfl) (by decide) rfl o42 (am_Ei.end (am_Ei.mono t (fun r44 h43 t => ?_)))
          exact am_iret dc_Main_leg_42 rfl t
set_option maxRecDepth 20000 in
theorem ev_Main_leg (a0 : Nat) (x1 x2 x3 : Int32) (h : am_H) (Q : Int32 → am_H → Prop) (t : (am_tg h a0 = (11, 18) ∧ (am_Er m_Main_routeAt 0 0 [.ref a0, .int x1] h (fun r3 h2 => (r3 = none → (am_tg h2 a0 = (11, 18) ∧ (am_Er m_Main_shipAt 0 0 [.ref a0, .int x2] h2 (fun r8 h7 => (r8 = none → (am_tg h7 a0 = (11, 18) ∧ (am_Ei m_Main_refuse 0 0 [.ref a0, .int 1] h7 (fun r13 h12 => Q r13 h12)))) ∧ ∀ b9, r8 = some b9 → (am_tg h7 a0 = (11, 18) ∧ (am_Ei m_Main_refuse 0 0 [.ref a0, .int 1] h7 (fun r16 h15 => Q r16 h15))))))) ∧ ∀ b4, r3 = some b4 → (am_tg h2 a0 = (11, 18) ∧ (am_Er m_Main_shipAt 0 0 [.ref a0, .int x2] h2 (fun r19 h18 => (r19 = none → (am_tg h18 a0 = (11, 18) ∧ (am_Ei m_Main_refuse 0 0 [.ref a0, .int 1] h18 (fun r24 h23 => Q r24 h23)))) ∧ ∀ b20, r19 = some b20 → ((x3 < 0 → (am_tg h18 a0 = (11, 18) ∧ (am_Ei m_Main_refuse 0 0 [.ref a0, .int 1] h18 (fun r28 h27 => Q r28 h27)))) ∧ (¬ x3 < 0 → (am_tg h18 b4 = (4, 7) ∧ (am_Ei m_Route_stopCount 0 0 [.ref b4] h18 (fun r31 h30 => ((x3 < r31 → (am_tg h30 b4 = (4, 7) ∧ (am_Ei m_Route_milesTo 0 0 [.ref b4, .int x3] h30 (fun r35 h34 => (am_tg h34 b20 = (6, 3) ∧ (am_Ei m_Ship_minutesFor 0 0 [.ref b20, .int r35] h34 (fun r38 h37 => (am_tg h37 a0 = (11, 18) ∧ (am_Ei m_Main_answer 0 0 [.ref a0, .int r38] h37 (fun r41 h40 => Q r41 h40)))))))))) ∧ (¬ x3 < r31 → (am_tg h30 a0 = (11, 18) ∧ (am_Ei m_Main_refuse 0 0 [.ref a0, .int 1] h30 (fun r44 h43 => Q r44 h43))))))))))))))))) : am_Ei m_Main_leg 0 0 [.ref a0, .int x1, .int x2, .int x3] h Q :=
  am_Ev.of (by decide +kernel) (Nat.le_of_ble_eq_true rfl) (by simp only [List.mem_cons, List.not_mem_nil, or_false]; intro v hv; rcases hv with rfl | rfl | rfl | rfl; all_goals first | exact trivial) (sg_Main_leg_0 (kc := 0) (ks := 0) a0 x1 x2 x3 h (am_qi Q) t)
def bk_Main_letter_0_1 : List am_E := [(0, .iload_n 1, 1, 0, 0)]
theorem bk_Main_letter_0_1_ok : bk_Main_letter_0_1.all (am_ok 11 false m_Main_letter.2.1) = true := by decide +kernel
def bk_Main_letter_9_2 : List am_E := [(9, .aload_n 0, 1, 0, 0), (10, .iconst 3, 1, 0, 3)]
theorem bk_Main_letter_9_2_ok : bk_Main_letter_9_2.all (am_ok 11 false m_Main_letter.2.1) = true := by decide +kernel
def bk_Main_letter_4_2 : List am_E := [(4, .iload_n 1, 1, 0, 0), (5, .iconst 3, 1, 0, 3)]
theorem bk_Main_letter_4_2_ok : bk_Main_letter_4_2.all (am_ok 11 false m_Main_letter.2.1) = true := by decide +kernel
def bk_Main_letter_15_3 : List am_E := [(15, .aload_n 0, 1, 0, 0), (16, .iload_n 1, 1, 0, 0), (17, .iload_n 2, 1, 0, 0)]
theorem bk_Main_letter_15_3_ok : bk_Main_letter_15_3.all (am_ok 11 false m_Main_letter.2.1) = true := by decide +kernel
def bk_Main_letter_21_2 : List am_E := [(21, .aload_n 0, 1, 0, 0), (22, .iload_n 3, 1, 0, 0)]
theorem bk_Main_letter_21_2_ok : bk_Main_letter_21_2.all (am_ok 11 false m_Main_letter.2.1) = true := by decide +kernel
theorem dc_Main_letter_11 : decode m_Main_letter.2.1 11 = .ok (.invokevirtual 108, 3) := by decide +kernel
theorem dc_Main_letter_14 : decode m_Main_letter.2.1 14 = .ok (.ireturn, 1) := by decide +kernel
theorem dc_Main_letter_18 : decode m_Main_letter.2.1 18 = .ok (.invokevirtual 279, 3) := by decide +kernel
theorem dc_Main_letter_23 : decode m_Main_letter.2.1 23 = .ok (.invokevirtual 243, 3) := by decide +kernel
theorem dc_Main_letter_26 : decode m_Main_letter.2.1 26 = .ok (.ireturn, 1) := by decide +kernel
theorem dc_Main_letter_6 : decode m_Main_letter.2.1 6 = .ok (.if_icmp .le 9, 3) := by decide +kernel
theorem dc_Main_letter_1 : decode m_Main_letter.2.1 1 = .ok (.ifCond .lt 8, 3) := by decide +kernel
set_option maxRecDepth 20000 in
theorem sg_Main_letter_0 {kc ks : Nat} (a0 : Nat) (x1 x2 x3 : Int32) (h : am_H) (Q : Option Value → am_H → Prop) (t : ((x1 < 0 → (am_tg h a0 = (11, 18) ∧ (am_Ei m_Main_refuse 0 0 [.ref a0, .int 3] h (fun r4 h3 => Q (some (.int r4)) h3)))) ∧ (¬ x1 < 0 → ((x1 ≤ 3 → (am_tg h a0 = (11, 18) ∧ (am_Ew m_Main_writeOut 0 0 [.ref a0, .int x1, .int x2] h (fun h7 => (am_tg h7 a0 = (11, 18) ∧ (am_Ei m_Main_answerLetter 0 0 [.ref a0, .int x3] h7 (fun r10 h9 => Q (some (.int r10)) h9))))))) ∧ (¬ x1 ≤ 3 → (am_tg h a0 = (11, 18) ∧ (am_Ei m_Main_refuse 0 0 [.ref a0, .int 3] h (fun r13 h12 => Q (some (.int r13)) h12)))))))) : am_EI m_Main_letter kc ks 0 [.ref a0, .int x1, .int x2, .int x3] [] h Q := by
  refine am_blk_ok (c := 11) (ini := false) (by decide) rfl (fun q => by cases q) bk_Main_letter_0_1 _ 1 _ _ _ bk_Main_letter_0_1_ok rfl ?_
  show am_EI m_Main_letter kc ks 1 [.ref a0, .int x1, .int x2, .int x3] [.int x1] h Q
  refine am_if_lt (tgt := 9) dc_Main_letter_1 (by decide) (fun c1 => ?_) (fun c1 => ?_)
  · replace t := t.1 c1
    refine am_blk_ok (c := 11) (ini := false) (by decide) rfl (fun q => by cases q) bk_Main_letter_9_2 _ 11 _ _ _ bk_Main_letter_9_2_ok rfl ?_
    show am_EI m_Main_letter kc ks 11 [.ref a0, .int x1, .int x2, .int x3] [.int 3, .ref a0] h Q
    obtain ⟨o2, t⟩ := t
    refine am_callV (M2 := m_Main_refuse) (ci := 11) (a := a0) (kc := kc) (ks := ks) (k2c := 0) (k2s := 0) (as := []) [.int 3] dc_Main_letter_11 lk_11_108 im_Main_refuse se_Main_refuse lm_Main_refuse np_Main_refuse ⟨Nat.le_of_ble_eq_true rfl, Nat.le_of_ble_eq_true rfl⟩ (fun _ => Nat.le_of_ble_eq_true rfl) (by decide) rfl o2 (am_Ei.end (am_Ei.mono t (fun r4 h3 t => ?_)))
    exact am_iret dc_Main_letter_14 rfl t
  · replace t := t.2 c1
    refine am_blk_ok (c := 11) (ini := false) (by decide) rfl (fun q => by cases q) bk_Main_letter_4_2 _ 6 _ _ _ bk_Main_letter_4_2_ok rfl ?_
    show am_EI m_Main_letter kc ks 6 [.ref a0, .int x1, .int x2, .int x3] [.int 3, .int x1] h Q
    refine am_ic_le (tgt := 15) dc_Main_letter_6 (by decide) (fun c5 => ?_) (fun c5 => ?_)
    · replace t := t.1 c5
      refine am_blk_ok (c := 11) (ini := false) (by decide) rfl (fun q => by cases q) bk_Main_letter_15_3 _ 18 _ _ _ bk_Main_letter_15_3_ok rfl ?_
      show am_EI m_Main_letter kc ks 18 [.ref a0, .int x1, .int x2, .int x3] [.int x2, .int x1, .ref a0] h Q
      obtain ⟨o6, t⟩ := t
      refine am_callV (M2 := m_Main_writeOut) (ci := 11) (a := a0) (kc := kc) (ks := ks) (k2c := 0) (k2s := 0) (as := []) [.int x1, .int x2] dc_Main_letter_18 lk_11_279 im_Main_writeOut se_Main_writeOut lm_Main_writeOut np_Main_writeOut ⟨Nat.le_of_ble_eq_true rfl, Nat.le_of_ble_eq_true rfl⟩ (fun _ => Nat.le_of_ble_eq_true rfl) (by decide) rfl o6 (am_Ew.end (am_Ew.mono t (fun h7 t => ?_)))
      refine am_blk_ok (c := 11) (ini := false) (by decide) rfl (fun q => by cases q) bk_Main_letter_21_2 _ 23 _ _ _ bk_Main_letter_21_2_ok rfl ?_
      show am_EI m_Main_letter kc ks 23 [.ref a0, .int x1, .int x2, .int x3] [.int x3, .ref a0] h7 Q
      obtain ⟨o8, t⟩ := t
      refine am_callV (M2 := m_Main_answerLetter) (ci := 11) (a := a0) (kc := kc) (ks := ks) (k2c := 0) (k2s := 0) (as := []) [.int x3] dc_Main_letter_23 lk_11_243 im_Main_answerLetter se_Main_answerLetter lm_Main_answerLetter np_Main_answerLetter ⟨Nat.le_of_ble_eq_true rfl, Nat.le_of_ble_eq_true rfl⟩ (fun _ => Nat.le_of_ble_eq_true rfl) (by decide) rfl o8 (am_Ei.end (am_Ei.mono t (fun r10 h9 t => ?_)))
      exact am_iret dc_Main_letter_26 rfl t
    · replace t := t.2 c5
      refine am_blk_ok (c := 11) (ini := false) (by decide) rfl (fun q => by cases q) bk_Main_letter_9_2 _ 11 _ _ _ bk_Main_letter_9_2_ok rfl ?_
      show am_EI m_Main_letter kc ks 11 [.ref a0, .int x1, .int x2, .int x3] [.int 3, .ref a0] h Q
      obtain ⟨o11, t⟩ := t
      refine am_callV (M2 := m_Main_refuse) (ci := 11) (a := a0) (kc := kc) (ks := ks) (k2c := 0) (k2s := 0) (as := []) [.int 3] dc_Main_letter_11 lk_11_108 im_Main_refuse se_Main_refuse lm_Main_refuse np_Main_refuse ⟨Nat.le_of_ble_eq_true rfl, Nat.le_of_ble_eq_true rfl⟩ (fun _ => Nat.le_of_ble_eq_true rfl) (by decide) rfl o11 (am_Ei.end (am_Ei.mono t (fun r13 h12 t => ?_)))
      exact am_iret dc_Main_letter_14 rfl t
set_option maxRecDepth 20000 in
theorem ev_Main_letter (a0 : Nat) (x1 x2 x3 : Int32) (h : am_H) (Q : Int32 → am_H → Prop) (t : ((x1 < 0 → (am_tg h a0 = (11, 18) ∧ (am_Ei m_Main_refuse 0 0 [.ref a0, .int 3] h (fun r4 h3 => Q r4 h3)))) ∧ (¬ x1 < 0 → ((x1 ≤ 3 → (am_tg h a0 = (11, 18) ∧ (am_Ew m_Main_writeOut 0 0 [.ref a0, .int x1, .int x2] h (fun h7 => (am_tg h7 a0 = (11, 18) ∧ (am_Ei m_Main_answerLetter 0 0 [.ref a0, .int x3] h7 (fun r10 h9 => Q r10 h9))))))) ∧ (¬ x1 ≤ 3 → (am_tg h a0 = (11, 18) ∧ (am_Ei m_Main_refuse 0 0 [.ref a0, .int 3] h (fun r13 h12 => Q r13 h12)))))))) : am_Ei m_Main_letter 0 0 [.ref a0, .int x1, .int x2, .int x3] h Q :=
  am_Ev.of (by decide +kernel) (Nat.le_of_ble_eq_true rfl) (by simp only [List.mem_cons, List.not_mem_nil, or_false]; intro v hv; rcases hv with rfl | rfl | rfl | rfl; all_goals first | exact trivial) (sg_Main_letter_0 (kc := 0) (ks := 0) a0 x1 x2 x3 h (am_qi Q) t)
def bk_Main_longer_0_2 : List am_E := [(0, .aload_n 0, 1, 0, 0), (1, .iload_n 1, 1, 0, 0)]
theorem bk_Main_longer_0_2_ok : bk_Main_longer_0_2.all (am_ok 11 false m_Main_longer.2.1) = true := by decide +kernel
def bk_Main_longer_5_2 : List am_E := [(5, .astore_n 2, 1, 0, 0), (6, .aload_n 2, 1, 0, 0)]
theorem bk_Main_longer_5_2_ok : bk_Main_longer_5_2.all (am_ok 11 false m_Main_longer.2.1) = true := by decide +kernel
def bk_Main_longer_10_1 : List am_E := [(10, .aload_n 0, 1, 0, 0)]
theorem bk_Main_longer_10_1_ok : bk_Main_longer_10_1.all (am_ok 11 false m_Main_longer.2.1) = true := by decide +kernel
def bk_Main_longer_15_2 : List am_E := [(15, .aload_n 0, 1, 0, 0), (16, .aload_n 2, 1, 0, 0)]
theorem bk_Main_longer_15_2_ok : bk_Main_longer_15_2.all (am_ok 11 false m_Main_longer.2.1) = true := by decide +kernel
theorem dc_Main_longer_2 : decode m_Main_longer.2.1 2 = .ok (.invokevirtual 129, 3) := by decide +kernel
theorem dc_Main_longer_7 : decode m_Main_longer.2.1 7 = .ok (.ifnonnull 8, 3) := by decide +kernel
theorem dc_Main_longer_11 : decode m_Main_longer.2.1 11 = .ok (.invokevirtual 133, 3) := by decide +kernel
theorem dc_Main_longer_14 : decode m_Main_longer.2.1 14 = .ok (.ireturn, 1) := by decide +kernel
theorem dc_Main_longer_17 : decode m_Main_longer.2.1 17 = .ok (.invokevirtual 125, 3) := by decide +kernel
theorem dc_Main_longer_20 : decode m_Main_longer.2.1 20 = .ok (.ireturn, 1) := by decide +kernel
set_option maxRecDepth 20000 in
theorem sg_Main_longer_0 {kc ks : Nat} (a0 : Nat) (x1 : Int32) (h : am_H) (Q : Option Value → am_H → Prop) (t : (am_tg h a0 = (11, 18) ∧ (am_Er m_Main_portAt 0 0 [.ref a0, .int x1] h (fun r3 h2 => (r3 = none → (am_tg h2 a0 = (11, 18) ∧ (am_Ei m_Main_refuseUnread 0 0 [.ref a0] h2 (fun r8 h7 => Q (some (.int r8)) h7)))) ∧ ∀ b4, r3 = some b4 → (am_tg h2 a0 = (11, 18) ∧ (am_Ei m_Main_addTable 4 53 [.ref a0, .ref b4] h2 (fun r11 h10 => Q (some (.int r11)) h10))))))) : am_EI m_Main_longer (kc + 4) (ks + 53) 0 [.ref a0, .int x1, .float 0] [] h Q := by
  refine am_blk_ok (c := 11) (ini := false) (by decide) rfl (fun q => by cases q) bk_Main_longer_0_2 _ 2 _ _ _ bk_Main_longer_0_2_ok rfl ?_
  show am_EI m_Main_longer (kc + 4) (ks + 53) 2 [.ref a0, .int x1, .float 0] [.int x1, .ref a0] h Q
  obtain ⟨o1, t⟩ := t
  refine am_callV (M2 := m_Main_portAt) (ci := 11) (a := a0) (kc := (kc + 4)) (ks := (ks + 53)) (k2c := 0) (k2s := 0) (as := []) [.int x1] dc_Main_longer_2 lk_11_129 im_Main_portAt se_Main_portAt lm_Main_portAt np_Main_portAt ⟨Nat.le_of_ble_eq_true rfl, Nat.le_of_ble_eq_true rfl⟩ (fun _ => Nat.le_of_ble_eq_true rfl) (by decide) rfl o1 (am_Er.end (am_Er.mono t (fun r3 h2 t => ⟨fun c5 => ?_, fun b4 c5 => ?_⟩)))
  · replace t := t.1 c5
    refine am_blk_ok (c := 11) (ini := false) (by decide) rfl (fun q => by cases q) bk_Main_longer_5_2 _ 7 _ _ _ bk_Main_longer_5_2_ok rfl ?_
    show am_EI m_Main_longer (kc + 4) (ks + 53) 7 [.ref a0, .int x1, .null] [.null] h2 Q
    refine am_ifnonnullN dc_Main_longer_7 ?_
    refine am_EI.more (kc := kc) (ks := ks) 4 53 ?_
    refine am_blk_ok (c := 11) (ini := false) (by decide) rfl (fun q => by cases q) bk_Main_longer_10_1 _ 11 _ _ _ bk_Main_longer_10_1_ok rfl ?_
    show am_EI m_Main_longer kc ks 11 [.ref a0, .int x1, .null] [.ref a0] h2 Q
    obtain ⟨o6, t⟩ := t
    refine am_callV (M2 := m_Main_refuseUnread) (ci := 11) (a := a0) (kc := kc) (ks := ks) (k2c := 0) (k2s := 0) (as := []) [] dc_Main_longer_11 lk_11_133 im_Main_refuseUnread se_Main_refuseUnread lm_Main_refuseUnread np_Main_refuseUnread ⟨Nat.le_of_ble_eq_true rfl, Nat.le_of_ble_eq_true rfl⟩ (fun _ => Nat.le_of_ble_eq_true rfl) (by decide) rfl o6 (am_Ei.end (am_Ei.mono t (fun r8 h7 t => ?_)))
    exact am_iret dc_Main_longer_14 rfl t
  · replace t := t.2 b4 c5
    refine am_blk_ok (c := 11) (ini := false) (by decide) rfl (fun q => by cases q) bk_Main_longer_5_2 _ 7 _ _ _ bk_Main_longer_5_2_ok rfl ?_
    show am_EI m_Main_longer (kc + 4) (ks + 53) 7 [.ref a0, .int x1, .ref b4] [.ref b4] h2 Q
    refine am_ifnonnull (tgt := 15) dc_Main_longer_7 (by decide) ?_
    refine am_blk_ok (c := 11) (ini := false) (by decide) rfl (fun q => by cases q) bk_Main_longer_15_2 _ 17 _ _ _ bk_Main_longer_15_2_ok rfl ?_
    show am_EI m_Main_longer (kc + 4) (ks + 53) 17 [.ref a0, .int x1, .ref b4] [.ref b4, .ref a0] h2 Q
    obtain ⟨o9, t⟩ := t
    refine am_callV (M2 := m_Main_addTable) (ci := 11) (a := a0) (kc := kc) (ks := ks) (k2c := 4) (k2s := 53) (as := []) [.ref b4] dc_Main_longer_17 lk_11_125 im_Main_addTable se_Main_addTable lm_Main_addTable np_Main_addTable ⟨Nat.le_of_ble_eq_true rfl, Nat.le_of_ble_eq_true rfl⟩ (fun _ => Nat.le_of_ble_eq_true rfl) (by decide) rfl o9 (am_Ei.end (am_Ei.mono t (fun r11 h10 t => ?_)))
    exact am_iret dc_Main_longer_20 rfl t
set_option maxRecDepth 20000 in
theorem ev_Main_longer (a0 : Nat) (x1 : Int32) (h : am_H) (Q : Int32 → am_H → Prop) (t : (am_tg h a0 = (11, 18) ∧ (am_Er m_Main_portAt 0 0 [.ref a0, .int x1] h (fun r3 h2 => (r3 = none → (am_tg h2 a0 = (11, 18) ∧ (am_Ei m_Main_refuseUnread 0 0 [.ref a0] h2 (fun r8 h7 => Q r8 h7)))) ∧ ∀ b4, r3 = some b4 → (am_tg h2 a0 = (11, 18) ∧ (am_Ei m_Main_addTable 4 53 [.ref a0, .ref b4] h2 (fun r11 h10 => Q r11 h10))))))) : am_Ei m_Main_longer (0 + 4) (0 + 53) [.ref a0, .int x1] h Q :=
  am_Ev.of (by decide +kernel) (Nat.le_of_ble_eq_true rfl) (by simp only [List.mem_cons, List.not_mem_nil, or_false]; intro v hv; rcases hv with rfl | rfl; all_goals first | exact trivial) (sg_Main_longer_0 (kc := 0) (ks := 0) a0 x1 h (am_qi Q) t)
def bk_Main_minutes_0_3 : List am_E := [(0, .aload_n 0, 1, 0, 0), (1, .iload_n 1, 1, 0, 0), (2, .iload_n 2, 1, 0, 0)]
theorem bk_Main_minutes_0_3_ok : bk_Main_minutes_0_3.all (am_ok 11 false m_Main_minutes.2.1) = true := by decide +kernel
def bk_Main_minutes_15_3 : List am_E := [(15, .aload_n 0, 1, 0, 0), (16, .aload_n 0, 1, 0, 0), (17, .getfield 57, 3, 4429, 0)]
theorem bk_Main_minutes_15_3_ok : bk_Main_minutes_15_3.all (am_ok 11 false m_Main_minutes.2.1) = true := by decide +kernel
def bk_Main_minutes_9_2 : List am_E := [(9, .aload_n 0, 1, 0, 0), (10, .iconst 1, 1, 0, 1)]
theorem bk_Main_minutes_9_2_ok : bk_Main_minutes_9_2.all (am_ok 11 false m_Main_minutes.2.1) = true := by decide +kernel
theorem dc_Main_minutes_3 : decode m_Main_minutes.2.1 3 = .ok (.invokevirtual 215, 3) := by decide +kernel
theorem dc_Main_minutes_20 : decode m_Main_minutes.2.1 20 = .ok (.invokevirtual 219, 3) := by decide +kernel
theorem dc_Main_minutes_23 : decode m_Main_minutes.2.1 23 = .ok (.invokevirtual 230, 3) := by decide +kernel
theorem dc_Main_minutes_26 : decode m_Main_minutes.2.1 26 = .ok (.invokevirtual 119, 3) := by decide +kernel
theorem dc_Main_minutes_29 : decode m_Main_minutes.2.1 29 = .ok (.ireturn, 1) := by decide +kernel
theorem dc_Main_minutes_11 : decode m_Main_minutes.2.1 11 = .ok (.invokevirtual 108, 3) := by decide +kernel
theorem dc_Main_minutes_14 : decode m_Main_minutes.2.1 14 = .ok (.ireturn, 1) := by decide +kernel
theorem dc_Main_minutes_6 : decode m_Main_minutes.2.1 6 = .ok (.ifCond .ne 9, 3) := by decide +kernel
set_option maxRecDepth 20000 in
theorem sg_Main_minutes_0 {kc ks : Nat} (a0 : Nat) (x1 x2 : Int32) (h : am_H) (Q : Option Value → am_H → Prop) (t : (am_tg h a0 = (11, 18) ∧ (am_Ei m_Main_findWindows 0 0 [.ref a0, .int x1, .int x2] h (fun r3 h2 => ((¬ r3 = 0 → (am_tg h2 a0 = (11, 18) ∧ (∃ b5, am_P h2 a0 7 = some b5 ∧ (am_tg h2 b5 = (10, 4) ∧ (am_Er m_Windows_found 0 0 [.ref b5] h2 (fun r10 h9 => (r10 = none → False) ∧ ∀ b11, r10 = some b11 → (am_tg h9 b11 = (8, 4) ∧ (am_Ei m_Spans_countAll 0 0 [.ref b11] h9 (fun r15 h14 => (am_tg h14 a0 = (11, 18) ∧ (am_Ei m_Main_answer 0 0 [.ref a0, .int r15] h14 (fun r18 h17 => Q (some (.int r18)) h17)))))))))))) ∧ (r3 = 0 → (am_tg h2 a0 = (11, 18) ∧ (am_Ei m_Main_refuse 0 0 [.ref a0, .int 1] h2 (fun r21 h20 => Q (some (.int r21)) h20))))))))) : am_EI m_Main_minutes kc ks 0 [.ref a0, .int x1, .int x2] [] h Q := by
  refine am_blk_ok (c := 11) (ini := false) (by decide) rfl (fun q => by cases q) bk_Main_minutes_0_3 _ 3 _ _ _ bk_Main_minutes_0_3_ok rfl ?_
  show am_EI m_Main_minutes kc ks 3 [.ref a0, .int x1, .int x2] [.int x2, .int x1, .ref a0] h Q
  obtain ⟨o1, t⟩ := t
  refine am_callV (M2 := m_Main_findWindows) (ci := 11) (a := a0) (kc := kc) (ks := ks) (k2c := 0) (k2s := 0) (as := []) [.int x1, .int x2] dc_Main_minutes_3 lk_11_215 im_Main_findWindows se_Main_findWindows lm_Main_findWindows np_Main_findWindows ⟨Nat.le_of_ble_eq_true rfl, Nat.le_of_ble_eq_true rfl⟩ (fun _ => Nat.le_of_ble_eq_true rfl) (by decide) rfl o1 (am_Ei.end (am_Ei.mono t (fun r3 h2 t => ?_)))
  refine am_if_ne (tgt := 15) dc_Main_minutes_6 (by decide) (fun c4 => ?_) (fun c4 => ?_)
  · replace t := t.1 c4
    refine am_blk_ok (c := 11) (ini := false) (by decide) rfl (fun q => by cases q) bk_Main_minutes_15_3 _ 20 _ _ _ bk_Main_minutes_15_3_ok rfl ?_
    show (am_tg h2 a0 = (11, 18) ∧ (∃ b5, am_P h2 a0 7 = some b5 ∧ am_EI m_Main_minutes kc ks 20 [.ref a0, .int x1, .int x2] [.ref b5, .ref a0] h2 Q))
    obtain ⟨o6, b5, q7, t⟩ := t
    refine ⟨o6, b5, q7, ?_⟩
    obtain ⟨o8, t⟩ := t
    refine am_callV (M2 := m_Windows_found) (ci := 10) (a := b5) (kc := kc) (ks := ks) (k2c := 0) (k2s := 0) (as := [.ref a0]) [] dc_Main_minutes_20 lk_11_219 im_Windows_found se_Windows_found lm_Windows_found np_Windows_found ⟨Nat.le_of_ble_eq_true rfl, Nat.le_of_ble_eq_true rfl⟩ (fun _ => Nat.le_of_ble_eq_true rfl) (by decide) rfl o8 (am_Er.end (am_Er.mono t (fun r10 h9 t => ⟨fun c12 => ?_, fun b11 c12 => ?_⟩)))
    · replace t := t.1 c12
      exact t.elim
    · replace t := t.2 b11 c12
      obtain ⟨o13, t⟩ := t
      refine am_callV (M2 := m_Spans_countAll) (ci := 8) (a := b11) (kc := kc) (ks := ks) (k2c := 0) (k2s := 0) (as := [.ref a0]) [] dc_Main_minutes_23 lk_11_230 im_Spans_countAll se_Spans_countAll lm_Spans_countAll np_Spans_countAll ⟨Nat.le_of_ble_eq_true rfl, Nat.le_of_ble_eq_true rfl⟩ (fun _ => Nat.le_of_ble_eq_true rfl) (by decide) rfl o13 (am_Ei.end (am_Ei.mono t (fun r15 h14 t => ?_)))
      obtain ⟨o16, t⟩ := t
      refine am_callV (M2 := m_Main_answer) (ci := 11) (a := a0) (kc := kc) (ks := ks) (k2c := 0) (k2s := 0) (as := []) [.int r15] dc_Main_minutes_26 lk_11_119 im_Main_answer se_Main_answer lm_Main_answer np_Main_answer ⟨Nat.le_of_ble_eq_true rfl, Nat.le_of_ble_eq_true rfl⟩ (fun _ => Nat.le_of_ble_eq_true rfl) (by decide) rfl o16 (am_Ei.end (am_Ei.mono t (fun r18 h17 t => ?_)))
      exact am_iret dc_Main_minutes_29 rfl t
  · replace t := t.2 c4
    refine am_blk_ok (c := 11) (ini := false) (by decide) rfl (fun q => by cases q) bk_Main_minutes_9_2 _ 11 _ _ _ bk_Main_minutes_9_2_ok rfl ?_
    show am_EI m_Main_minutes kc ks 11 [.ref a0, .int x1, .int x2] [.int 1, .ref a0] h2 Q
    obtain ⟨o19, t⟩ := t
    refine am_callV (M2 := m_Main_refuse) (ci := 11) (a := a0) (kc := kc) (ks := ks) (k2c := 0) (k2s := 0) (as := []) [.int 1] dc_Main_minutes_11 lk_11_108 im_Main_refuse se_Main_refuse lm_Main_refuse np_Main_refuse ⟨Nat.le_of_ble_eq_true rfl, Nat.le_of_ble_eq_true rfl⟩ (fun _ => Nat.le_of_ble_eq_true rfl) (by decide) rfl o19 (am_Ei.end (am_Ei.mono t (fun r21 h20 t => ?_)))
    exact am_iret dc_Main_minutes_14 rfl t
set_option maxRecDepth 20000 in
theorem ev_Main_minutes (a0 : Nat) (x1 x2 : Int32) (h : am_H) (Q : Int32 → am_H → Prop) (t : (am_tg h a0 = (11, 18) ∧ (am_Ei m_Main_findWindows 0 0 [.ref a0, .int x1, .int x2] h (fun r3 h2 => ((¬ r3 = 0 → (am_tg h2 a0 = (11, 18) ∧ (∃ b5, am_P h2 a0 7 = some b5 ∧ (am_tg h2 b5 = (10, 4) ∧ (am_Er m_Windows_found 0 0 [.ref b5] h2 (fun r10 h9 => (r10 = none → False) ∧ ∀ b11, r10 = some b11 → (am_tg h9 b11 = (8, 4) ∧ (am_Ei m_Spans_countAll 0 0 [.ref b11] h9 (fun r15 h14 => (am_tg h14 a0 = (11, 18) ∧ (am_Ei m_Main_answer 0 0 [.ref a0, .int r15] h14 (fun r18 h17 => Q r18 h17)))))))))))) ∧ (r3 = 0 → (am_tg h2 a0 = (11, 18) ∧ (am_Ei m_Main_refuse 0 0 [.ref a0, .int 1] h2 (fun r21 h20 => Q r21 h20))))))))) : am_Ei m_Main_minutes 0 0 [.ref a0, .int x1, .int x2] h Q :=
  am_Ev.of (by decide +kernel) (Nat.le_of_ble_eq_true rfl) (by simp only [List.mem_cons, List.not_mem_nil, or_false]; intro v hv; rcases hv with rfl | rfl | rfl; all_goals first | exact trivial) (sg_Main_minutes_0 (kc := 0) (ks := 0) a0 x1 x2 h (am_qi Q) t)
def bk_Main_note_0_3 : List am_E := [(0, .aload_n 0, 1, 0, 0), (1, .iload_n 1, 1, 0, 0), (2, .iload_n 2, 1, 0, 0)]
theorem bk_Main_note_0_3_ok : bk_Main_note_0_3.all (am_ok 11 false m_Main_note.2.1) = true := by decide +kernel
def bk_Main_note_15_4 : List am_E := [(15, .aload_n 0, 1, 0, 0), (16, .getfield 78, 3, 4441, 0), (19, .aload_n 0, 1, 0, 0), (20, .getfield 57, 3, 4429, 0)]
theorem bk_Main_note_15_4_ok : bk_Main_note_15_4.all (am_ok 11 false m_Main_note.2.1) = true := by decide +kernel
def bk_Main_note_26_2 : List am_E := [(26, .aload_n 0, 1, 0, 0), (27, .getfield 57, 3, 4429, 0)]
theorem bk_Main_note_26_2_ok : bk_Main_note_26_2.all (am_ok 11 false m_Main_note.2.1) = true := by decide +kernel
def bk_Main_note_36_2 : List am_E := [(36, .aload_n 0, 1, 0, 0), (37, .iload_n 3, 1, 0, 0)]
theorem bk_Main_note_36_2_ok : bk_Main_note_36_2.all (am_ok 11 false m_Main_note.2.1) = true := by decide +kernel
def bk_Main_note_9_2 : List am_E := [(9, .aload_n 0, 1, 0, 0), (10, .iconst 1, 1, 0, 1)]
theorem bk_Main_note_9_2_ok : bk_Main_note_9_2.all (am_ok 11 false m_Main_note.2.1) = true := by decide +kernel
theorem dc_Main_note_3 : decode m_Main_note.2.1 3 = .ok (.invokevirtual 215, 3) := by decide +kernel
theorem dc_Main_note_23 : decode m_Main_note.2.1 23 = .ok (.invokevirtual 219, 3) := by decide +kernel
theorem dc_Main_note_30 : decode m_Main_note.2.1 30 = .ok (.invokevirtual 236, 3) := by decide +kernel
theorem dc_Main_note_33 : decode m_Main_note.2.1 33 = .ok (.invokevirtual 239, 3) := by decide +kernel
theorem dc_Main_note_38 : decode m_Main_note.2.1 38 = .ok (.invokevirtual 243, 3) := by decide +kernel
theorem dc_Main_note_41 : decode m_Main_note.2.1 41 = .ok (.ireturn, 1) := by decide +kernel
theorem dc_Main_note_11 : decode m_Main_note.2.1 11 = .ok (.invokevirtual 108, 3) := by decide +kernel
theorem dc_Main_note_14 : decode m_Main_note.2.1 14 = .ok (.ireturn, 1) := by decide +kernel
theorem dc_Main_note_6 : decode m_Main_note.2.1 6 = .ok (.ifCond .ne 9, 3) := by decide +kernel
set_option maxRecDepth 20000 in
theorem sg_Main_note_0 {kc ks : Nat} (a0 : Nat) (x1 x2 x3 : Int32) (h : am_H) (Q : Option Value → am_H → Prop) (t : (am_tg h a0 = (11, 18) ∧ (am_Ei m_Main_findWindows 0 0 [.ref a0, .int x1, .int x2] h (fun r3 h2 => ((¬ r3 = 0 → (am_tg h2 a0 = (11, 18) ∧ (∃ b5, am_P h2 a0 10 = some b5 ∧ (∃ b6, am_P h2 a0 7 = some b6 ∧ (am_tg h2 b6 = (10, 4) ∧ (am_Er m_Windows_found 0 0 [.ref b6] h2 (fun r12 h11 => (r12 = none → (am_tg h11 a0 = (11, 18) ∧ (∃ b15, am_P h11 a0 7 = some b15 ∧ (am_tg h11 b15 = (10, 4) ∧ (am_Ei m_Windows_areAlways 0 0 [.ref b15] h11 (fun r20 h19 => (am_tg h19 b5 = (0, 2) ∧ (am_Ew m_Page_writeNote 0 0 [.ref b5, .null, .int r20] h19 (fun h22 => (am_tg h22 a0 = (11, 18) ∧ (am_Ei m_Main_answerLetter 0 0 [.ref a0, .int x3] h22 (fun r25 h24 => Q (some (.int r25)) h24)))))))))))) ∧ ∀ b13, r12 = some b13 → (am_tg h11 a0 = (11, 18) ∧ (∃ b26, am_P h11 a0 7 = some b26 ∧ (am_tg h11 b26 = (10, 4) ∧ (am_Ei m_Windows_areAlways 0 0 [.ref b26] h11 (fun r31 h30 => (am_tg h30 b5 = (0, 2) ∧ (am_Ew m_Page_writeNote 0 0 [.ref b5, .ref b13, .int r31] h30 (fun h33 => (am_tg h33 a0 = (11, 18) ∧ (am_Ei m_Main_answerLetter 0 0 [.ref a0, .int x3] h33 (fun r36 h35 => Q (some (.int r36)) h35)))))))))))))))))) ∧ (r3 = 0 → (am_tg h2 a0 = (11, 18) ∧ (am_Ei m_Main_refuse 0 0 [.ref a0, .int 1] h2 (fun r39 h38 => Q (some (.int r39)) h38))))))))) : am_EI m_Main_note kc ks 0 [.ref a0, .int x1, .int x2, .int x3] [] h Q := by
  refine am_blk_ok (c := 11) (ini := false) (by decide) rfl (fun q => by cases q) bk_Main_note_0_3 _ 3 _ _ _ bk_Main_note_0_3_ok rfl ?_
  show am_EI m_Main_note kc ks 3 [.ref a0, .int x1, .int x2, .int x3] [.int x2, .int x1, .ref a0] h Q
  obtain ⟨o1, t⟩ := t
  refine am_callV (M2 := m_Main_findWindows) (ci := 11) (a := a0) (kc := kc) (ks := ks) (k2c := 0) (k2s := 0) (as := []) [.int x1, .int x2] dc_Main_note_3 lk_11_215 im_Main_findWindows se_Main_findWindows lm_Main_findWindows np_Main_findWindows ⟨Nat.le_of_ble_eq_true rfl, Nat.le_of_ble_eq_true rfl⟩ (fun _ => Nat.le_of_ble_eq_true rfl) (by decide) rfl o1 (am_Ei.end (am_Ei.mono t (fun r3 h2 t => ?_)))
  refine am_if_ne (tgt := 15) dc_Main_note_6 (by decide) (fun c4 => ?_) (fun c4 => ?_)
  · replace t := t.1 c4
    refine am_blk_ok (c := 11) (ini := false) (by decide) rfl (fun q => by cases q) bk_Main_note_15_4 _ 23 _ _ _ bk_Main_note_15_4_ok rfl ?_
    show (am_tg h2 a0 = (11, 18) ∧ (∃ b5, am_P h2 a0 10 = some b5 ∧ (am_tg h2 a0 = (11, 18) ∧ (∃ b6, am_P h2 a0 7 = some b6 ∧ am_EI m_Main_note kc ks 23 [.ref a0, .int x1, .int x2, .int x3] [.ref b6, .ref b5] h2 Q))))
    obtain ⟨o7, b5, q8, b6, q9, t⟩ := t
    refine ⟨o7, b5, q8, o7, b6, q9, ?_⟩
    obtain ⟨o10, t⟩ := t
    refine am_callV (M2 := m_Windows_found) (ci := 10) (a := b6) (kc := kc) (ks := ks) (k2c := 0) (k2s := 0) (as := [.ref b5]) [] dc_Main_note_23 lk_11_219 im_Windows_found se_Windows_found lm_Windows_found np_Windows_found ⟨Nat.le_of_ble_eq_true rfl, Nat.le_of_ble_eq_true rfl⟩ (fun _ => Nat.le_of_ble_eq_true rfl) (by decide) rfl o10 (am_Er.end (am_Er.mono t (fun r12 h11 t => ⟨fun c14 => ?_, fun b13 c14 => ?_⟩)))
    · replace t := t.1 c14
      refine am_blk_ok (c := 11) (ini := false) (by decide) rfl (fun q => by cases q) bk_Main_note_26_2 _ 30 _ _ _ bk_Main_note_26_2_ok rfl ?_
      show (am_tg h11 a0 = (11, 18) ∧ (∃ b15, am_P h11 a0 7 = some b15 ∧ am_EI m_Main_note kc ks 30 [.ref a0, .int x1, .int x2, .int x3] [.ref b15, .null, .ref b5] h11 Q))
      obtain ⟨o16, b15, q17, t⟩ := t
      refine ⟨o16, b15, q17, ?_⟩
      obtain ⟨o18, t⟩ := t
      refine am_callV (M2 := m_Windows_areAlways) (ci := 10) (a := b15) (kc := kc) (ks := ks) (k2c := 0) (k2s := 0) (as := [.null, .ref b5]) [] dc_Main_note_30 lk_11_236 im_Windows_areAlways se_Windows_areAlways lm_Windows_areAlways np_Windows_areAlways ⟨Nat.le_of_ble_eq_true rfl, Nat.le_of_ble_eq_true rfl⟩ (fun _ => Nat.le_of_ble_eq_true rfl) (by decide) rfl o18 (am_Ei.end (am_Ei.mono t (fun r20 h19 t => ?_)))
      obtain ⟨o21, t⟩ := t
      refine am_callV (M2 := m_Page_writeNote) (ci := 0) (a := b5) (kc := kc) (ks := ks) (k2c := 0) (k2s := 0) (as := []) [.null, .int r20] dc_Main_note_33 lk_11_239 im_Page_writeNote se_Page_writeNote lm_Page_writeNote np_Page_writeNote ⟨Nat.le_of_ble_eq_true rfl, Nat.le_of_ble_eq_true rfl⟩ (fun _ => Nat.le_of_ble_eq_true rfl) (by decide) rfl o21 (am_Ew.end (am_Ew.mono t (fun h22 t => ?_)))
      refine am_blk_ok (c := 11) (ini := false) (by decide) rfl (fun q => by cases q) bk_Main_note_36_2 _ 38 _ _ _ bk_Main_note_36_2_ok rfl ?_
      show am_EI m_Main_note kc ks 38 [.ref a0, .int x1, .int x2, .int x3] [.int x3, .ref a0] h22 Q
      obtain ⟨o23, t⟩ := t
      refine am_callV (M2 := m_Main_answerLetter) (ci := 11) (a := a0) (kc := kc) (ks := ks) (k2c := 0) (k2s := 0) (as := []) [.int x3] dc_Main_note_38 lk_11_243 im_Main_answerLetter se_Main_answerLetter lm_Main_answerLetter np_Main_answerLetter ⟨Nat.le_of_ble_eq_true rfl, Nat.le_of_ble_eq_true rfl⟩ (fun _ => Nat.le_of_ble_eq_true rfl) (by decide) rfl o23 (am_Ei.end (am_Ei.mono t (fun r25 h24 t => ?_)))
      exact am_iret dc_Main_note_41 rfl t
    · replace t := t.2 b13 c14
      refine am_blk_ok (c := 11) (ini := false) (by decide) rfl (fun q => by cases q) bk_Main_note_26_2 _ 30 _ _ _ bk_Main_note_26_2_ok rfl ?_
      show (am_tg h11 a0 = (11, 18) ∧ (∃ b26, am_P h11 a0 7 = some b26 ∧ am_EI m_Main_note kc ks 30 [.ref a0, .int x1, .int x2, .int x3] [.ref b26, .ref b13, .ref b5] h11 Q))
      obtain ⟨o27, b26, q28, t⟩ := t
      refine ⟨o27, b26, q28, ?_⟩
      obtain ⟨o29, t⟩ := t
      refine am_callV (M2 := m_Windows_areAlways) (ci := 10) (a := b26) (kc := kc) (ks := ks) (k2c := 0) (k2s := 0) (as := [.ref b13, .ref b5]) [] dc_Main_note_30 lk_11_236 im_Windows_areAlways se_Windows_areAlways lm_Windows_areAlways np_Windows_areAlways ⟨Nat.le_of_ble_eq_true rfl, Nat.le_of_ble_eq_true rfl⟩ (fun _ => Nat.le_of_ble_eq_true rfl) (by decide) rfl o29 (am_Ei.end (am_Ei.mono t (fun r31 h30 t => ?_)))
      obtain ⟨o32, t⟩ := t
      refine am_callV (M2 := m_Page_writeNote) (ci := 0) (a := b5) (kc := kc) (ks := ks) (k2c := 0) (k2s := 0) (as := []) [.ref b13, .int r31] dc_Main_note_33 lk_11_239 im_Page_writeNote se_Page_writeNote lm_Page_writeNote np_Page_writeNote ⟨Nat.le_of_ble_eq_true rfl, Nat.le_of_ble_eq_true rfl⟩ (fun _ => Nat.le_of_ble_eq_true rfl) (by decide) rfl o32 (am_Ew.end (am_Ew.mono t (fun h33 t => ?_)))
      refine am_blk_ok (c := 11) (ini := false) (by decide) rfl (fun q => by cases q) bk_Main_note_36_2 _ 38 _ _ _ bk_Main_note_36_2_ok rfl ?_
      show am_EI m_Main_note kc ks 38 [.ref a0, .int x1, .int x2, .int x3] [.int x3, .ref a0] h33 Q
      obtain ⟨o34, t⟩ := t
      refine am_callV (M2 := m_Main_answerLetter) (ci := 11) (a := a0) (kc := kc) (ks := ks) (k2c := 0) (k2s := 0) (as := []) [.int x3] dc_Main_note_38 lk_11_243 im_Main_answerLetter se_Main_answerLetter lm_Main_answerLetter np_Main_answerLetter ⟨Nat.le_of_ble_eq_true rfl, Nat.le_of_ble_eq_true rfl⟩ (fun _ => Nat.le_of_ble_eq_true rfl) (by decide) rfl o34 (am_Ei.end (am_Ei.mono t (fun r36 h35 t => ?_)))
      exact am_iret dc_Main_note_41 rfl t
  · replace t := t.2 c4
    refine am_blk_ok (c := 11) (ini := false) (by decide) rfl (fun q => by cases q) bk_Main_note_9_2 _ 11 _ _ _ bk_Main_note_9_2_ok rfl ?_
    show am_EI m_Main_note kc ks 11 [.ref a0, .int x1, .int x2, .int x3] [.int 1, .ref a0] h2 Q
    obtain ⟨o37, t⟩ := t
    refine am_callV (M2 := m_Main_refuse) (ci := 11) (a := a0) (kc := kc) (ks := ks) (k2c := 0) (k2s := 0) (as := []) [.int 1] dc_Main_note_11 lk_11_108 im_Main_refuse se_Main_refuse lm_Main_refuse np_Main_refuse ⟨Nat.le_of_ble_eq_true rfl, Nat.le_of_ble_eq_true rfl⟩ (fun _ => Nat.le_of_ble_eq_true rfl) (by decide) rfl o37 (am_Ei.end (am_Ei.mono t (fun r39 h38 t => ?_)))
    exact am_iret dc_Main_note_14 rfl t
set_option maxRecDepth 20000 in
theorem ev_Main_note (a0 : Nat) (x1 x2 x3 : Int32) (h : am_H) (Q : Int32 → am_H → Prop) (t : (am_tg h a0 = (11, 18) ∧ (am_Ei m_Main_findWindows 0 0 [.ref a0, .int x1, .int x2] h (fun r3 h2 => ((¬ r3 = 0 → (am_tg h2 a0 = (11, 18) ∧ (∃ b5, am_P h2 a0 10 = some b5 ∧ (∃ b6, am_P h2 a0 7 = some b6 ∧ (am_tg h2 b6 = (10, 4) ∧ (am_Er m_Windows_found 0 0 [.ref b6] h2 (fun r12 h11 => (r12 = none → (am_tg h11 a0 = (11, 18) ∧ (∃ b15, am_P h11 a0 7 = some b15 ∧ (am_tg h11 b15 = (10, 4) ∧ (am_Ei m_Windows_areAlways 0 0 [.ref b15] h11 (fun r20 h19 => (am_tg h19 b5 = (0, 2) ∧ (am_Ew m_Page_writeNote 0 0 [.ref b5, .null, .int r20] h19 (fun h22 => (am_tg h22 a0 = (11, 18) ∧ (am_Ei m_Main_answerLetter 0 0 [.ref a0, .int x3] h22 (fun r25 h24 => Q r25 h24)))))))))))) ∧ ∀ b13, r12 = some b13 → (am_tg h11 a0 = (11, 18) ∧ (∃ b26, am_P h11 a0 7 = some b26 ∧ (am_tg h11 b26 = (10, 4) ∧ (am_Ei m_Windows_areAlways 0 0 [.ref b26] h11 (fun r31 h30 => (am_tg h30 b5 = (0, 2) ∧ (am_Ew m_Page_writeNote 0 0 [.ref b5, .ref b13, .int r31] h30 (fun h33 => (am_tg h33 a0 = (11, 18) ∧ (am_Ei m_Main_answerLetter 0 0 [.ref a0, .int x3] h33 (fun r36 h35 => Q r36 h35)))))))))))))))))) ∧ (r3 = 0 → (am_tg h2 a0 = (11, 18) ∧ (am_Ei m_Main_refuse 0 0 [.ref a0, .int 1] h2 (fun r39 h38 => Q r39 h38))))))))) : am_Ei m_Main_note 0 0 [.ref a0, .int x1, .int x2, .int x3] h Q :=
  am_Ev.of (by decide +kernel) (Nat.le_of_ble_eq_true rfl) (by simp only [List.mem_cons, List.not_mem_nil, or_false]; intro v hv; rcases hv with rfl | rfl | rfl | rfl; all_goals first | exact trivial) (sg_Main_note_0 (kc := 0) (ks := 0) a0 x1 x2 x3 h (am_qi Q) t)
def bk_Main_pass_0_2 : List am_E := [(0, .aload_n 0, 1, 0, 0), (1, .iload_n 1, 1, 0, 0)]
theorem bk_Main_pass_0_2_ok : bk_Main_pass_0_2.all (am_ok 11 false m_Main_pass.2.1) = true := by decide +kernel
def bk_Main_pass_5_3 : List am_E := [(5, .astore 5, 2, 0, 0), (7, .aload_n 0, 1, 0, 0), (8, .iload_n 2, 1, 0, 0)]
theorem bk_Main_pass_5_3_ok : bk_Main_pass_5_3.all (am_ok 11 false m_Main_pass.2.1) = true := by decide +kernel
def bk_Main_pass_12_2 : List am_E := [(12, .astore 6, 2, 0, 0), (14, .aload 5, 2, 0, 0)]
theorem bk_Main_pass_12_2_ok : bk_Main_pass_12_2.all (am_ok 11 false m_Main_pass.2.1) = true := by decide +kernel
def bk_Main_pass_39_2 : List am_E := [(39, .aload_n 0, 1, 0, 0), (40, .iconst 1, 1, 0, 1)]
theorem bk_Main_pass_39_2_ok : bk_Main_pass_39_2.all (am_ok 11 false m_Main_pass.2.1) = true := by decide +kernel
def bk_Main_pass_19_1 : List am_E := [(19, .aload 6, 2, 0, 0)]
theorem bk_Main_pass_19_1_ok : bk_Main_pass_19_1.all (am_ok 11 false m_Main_pass.2.1) = true := by decide +kernel
def bk_Main_pass_24_1 : List am_E := [(24, .iload 4, 2, 0, 0)]
theorem bk_Main_pass_24_1_ok : bk_Main_pass_24_1.all (am_ok 11 false m_Main_pass.2.1) = true := by decide +kernel
def bk_Main_pass_29_2 : List am_E := [(29, .iload 4, 2, 0, 0), (31, .aload 5, 2, 0, 0)]
theorem bk_Main_pass_29_2_ok : bk_Main_pass_29_2.all (am_ok 11 false m_Main_pass.2.1) = true := by decide +kernel
def bk_Main_pass_45_1 : List am_E := [(45, .iload_n 3, 1, 0, 0)]
theorem bk_Main_pass_45_1_ok : bk_Main_pass_45_1.all (am_ok 11 false m_Main_pass.2.1) = true := by decide +kernel
def bk_Main_pass_58_5 : List am_E := [(58, .aload_n 0, 1, 0, 0), (59, .getfield 71, 3, 4437, 0), (62, .aload 5, 2, 0, 0), (64, .aload 6, 2, 0, 0), (66, .iload_n 3, 1, 0, 0)]
theorem bk_Main_pass_58_5_ok : bk_Main_pass_58_5.all (am_ok 11 false m_Main_pass.2.1) = true := by decide +kernel
def bk_Main_pass_70_3 : List am_E := [(70, .istore 7, 2, 0, 0), (72, .aload_n 0, 1, 0, 0), (73, .iload 7, 2, 0, 0)]
theorem bk_Main_pass_70_3_ok : bk_Main_pass_70_3.all (am_ok 11 false m_Main_pass.2.1) = true := by decide +kernel
def bk_Main_pass_90_1 : List am_E := [(90, .iconst (-1), 1, 0, -1)]
theorem bk_Main_pass_90_1_ok : bk_Main_pass_90_1.all (am_ok 11 false m_Main_pass.2.1) = true := by decide +kernel
def bk_Main_pass_78_3 : List am_E := [(78, .aload_n 0, 1, 0, 0), (79, .getfield 71, 3, 4437, 0), (82, .iload 4, 2, 0, 0)]
theorem bk_Main_pass_78_3_ok : bk_Main_pass_78_3.all (am_ok 11 false m_Main_pass.2.1) = true := by decide +kernel
def bk_Main_pass_87_1 : List am_E := [(87, .goto 4, 3, 0, 4)]
theorem bk_Main_pass_87_1_ok : bk_Main_pass_87_1.all (am_ok 11 false m_Main_pass.2.1) = true := by decide +kernel
def bk_Main_pass_52_2 : List am_E := [(52, .aload_n 0, 1, 0, 0), (53, .iconst 3, 1, 0, 3)]
theorem bk_Main_pass_52_2_ok : bk_Main_pass_52_2.all (am_ok 11 false m_Main_pass.2.1) = true := by decide +kernel
theorem dc_Main_pass_2 : decode m_Main_pass.2.1 2 = .ok (.invokevirtual 246, 3) := by decide +kernel
theorem dc_Main_pass_9 : decode m_Main_pass.2.1 9 = .ok (.invokevirtual 250, 3) := by decide +kernel
theorem dc_Main_pass_16 : decode m_Main_pass.2.1 16 = .ok (.ifnull 23, 3) := by decide +kernel
theorem dc_Main_pass_41 : decode m_Main_pass.2.1 41 = .ok (.invokevirtual 108, 3) := by decide +kernel
theorem dc_Main_pass_44 : decode m_Main_pass.2.1 44 = .ok (.ireturn, 1) := by decide +kernel
theorem dc_Main_pass_21 : decode m_Main_pass.2.1 21 = .ok (.ifnull 18, 3) := by decide +kernel
theorem dc_Main_pass_33 : decode m_Main_pass.2.1 33 = .ok (.invokevirtual 170, 3) := by decide +kernel
theorem dc_Main_pass_46 : decode m_Main_pass.2.1 46 = .ok (.invokestatic 260, 3) := by decide +kernel
theorem dc_Main_pass_67 : decode m_Main_pass.2.1 67 = .ok (.invokevirtual 263, 3) := by decide +kernel
theorem dc_Main_pass_91 : decode m_Main_pass.2.1 91 = .ok (.invokevirtual 119, 3) := by decide +kernel
theorem dc_Main_pass_94 : decode m_Main_pass.2.1 94 = .ok (.ireturn, 1) := by decide +kernel
theorem dc_Main_pass_84 : decode m_Main_pass.2.1 84 = .ok (.invokevirtual 267, 3) := by decide +kernel
theorem dc_Main_pass_75 : decode m_Main_pass.2.1 75 = .ok (.ifCond .eq 15, 3) := by decide +kernel
theorem dc_Main_pass_54 : decode m_Main_pass.2.1 54 = .ok (.invokevirtual 108, 3) := by decide +kernel
theorem dc_Main_pass_57 : decode m_Main_pass.2.1 57 = .ok (.ireturn, 1) := by decide +kernel
theorem dc_Main_pass_49 : decode m_Main_pass.2.1 49 = .ok (.ifCond .ne 9, 3) := by decide +kernel
theorem dc_Main_pass_36 : decode m_Main_pass.2.1 36 = .ok (.if_icmp .lt 9, 3) := by decide +kernel
theorem dc_Main_pass_26 : decode m_Main_pass.2.1 26 = .ok (.ifCond .lt 13, 3) := by decide +kernel
set_option maxRecDepth 20000 in
theorem sg_Main_pass_0 {kc ks : Nat} (a0 : Nat) (x1 x2 x3 x4 : Int32) (h : am_H) (Q : Option Value → am_H → Prop) (t : (am_tg h a0 = (11, 18) ∧ (am_Er m_Main_routeAt 0 0 [.ref a0, .int x1] h (fun r3 h2 => (r3 = none → (am_tg h2 a0 = (11, 18) ∧ (am_Er m_Main_shipAt 0 0 [.ref a0, .int x2] h2 (fun r8 h7 => (r8 = none → (am_tg h7 a0 = (11, 18) ∧ (am_Ei m_Main_refuse 0 0 [.ref a0, .int 1] h7 (fun r13 h12 => Q (some (.int r13)) h12)))) ∧ ∀ b9, r8 = some b9 → (am_tg h7 a0 = (11, 18) ∧ (am_Ei m_Main_refuse 0 0 [.ref a0, .int 1] h7 (fun r16 h15 => Q (some (.int r16)) h15))))))) ∧ ∀ b4, r3 = some b4 → (am_tg h2 a0 = (11, 18) ∧ (am_Er m_Main_shipAt 0 0 [.ref a0, .int x2] h2 (fun r19 h18 => (r19 = none → (am_tg h18 a0 = (11, 18) ∧ (am_Ei m_Main_refuse 0 0 [.ref a0, .int 1] h18 (fun r24 h23 => Q (some (.int r24)) h23)))) ∧ ∀ b20, r19 = some b20 → ((x4 < 0 → (am_tg h18 a0 = (11, 18) ∧ (am_Ei m_Main_refuse 0 0 [.ref a0, .int 1] h18 (fun r28 h27 => Q (some (.int r28)) h27)))) ∧ (¬ x4 < 0 → (am_tg h18 b4 = (4, 7) ∧ (am_Ei m_Route_stopCount 0 0 [.ref b4] h18 (fun r31 h30 => ((x4 < r31 → (am_Ei m_Main_isNumberToAsk 0 0 [.int x3] h30 (fun r34 h33 => ((¬ r34 = 0 → (am_tg h33 a0 = (11, 18) ∧ (∃ b36, am_P h33 a0 9 = some b36 ∧ (am_tg h33 b36 = (1, 7) ∧ (am_Ei m_Planner_plan 0 0 [.ref b36, .ref b4, .ref b20, .int x3] h33 (fun r41 h40 => ((r41 = 0 → (am_tg h40 a0 = (11, 18) ∧ (am_Ei m_Main_answer 0 0 [.ref a0, .int (-1)] h40 (fun r45 h44 => Q (some (.int r45)) h44)))) ∧ (¬ r41 = 0 → (am_tg h40 a0 = (11, 18) ∧ (∃ b46, am_P h40 a0 9 = some b46 ∧ (am_tg h40 b46 = (1, 7) ∧ (am_Ei m_Planner_passOf 0 0 [.ref b46, .int x4] h40 (fun r51 h50 => (am_tg h50 a0 = (11, 18) ∧ (am_Ei m_Main_answer 0 0 [.ref a0, .int r51] h50 (fun r54 h53 => Q (some (.int r54)) h53)))))))))))))))) ∧ (r34 = 0 → (am_tg h33 a0 = (11, 18) ∧ (am_Ei m_Main_refuse 0 0 [.ref a0, .int 3] h33 (fun r57 h56 => Q (some (.int r57)) h56)))))))) ∧ (¬ x4 < r31 → (am_tg h30 a0 = (11, 18) ∧ (am_Ei m_Main_refuse 0 0 [.ref a0, .int 1] h30 (fun r60 h59 => Q (some (.int r60)) h59))))))))))))))))) : am_EI m_Main_pass kc ks 0 [.ref a0, .int x1, .int x2, .int x3, .int x4, .float 0, .float 0, .float 0] [] h Q := by
  refine am_blk_ok (c := 11) (ini := false) (by decide) rfl (fun q => by cases q) bk_Main_pass_0_2 _ 2 _ _ _ bk_Main_pass_0_2_ok rfl ?_
  show am_EI m_Main_pass kc ks 2 [.ref a0, .int x1, .int x2, .int x3, .int x4, .float 0, .float 0, .float 0] [.int x1, .ref a0] h Q
  obtain ⟨o1, t⟩ := t
  refine am_callV (M2 := m_Main_routeAt) (ci := 11) (a := a0) (kc := kc) (ks := ks) (k2c := 0) (k2s := 0) (as := []) [.int x1] dc_Main_pass_2 lk_11_246 im_Main_routeAt se_Main_routeAt lm_Main_routeAt np_Main_routeAt ⟨Nat.le_of_ble_eq_true rfl, Nat.le_of_ble_eq_true rfl⟩ (fun _ => Nat.le_of_ble_eq_true rfl) (by decide) rfl o1 (am_Er.end (am_Er.mono t (fun r3 h2 t => ⟨fun c5 => ?_, fun b4 c5 => ?_⟩)))
  · replace t := t.1 c5
    refine am_blk_ok (c := 11) (ini := false) (by decide) rfl (fun q => by cases q) bk_Main_pass_5_3 _ 9 _ _ _ bk_Main_pass_5_3_ok rfl ?_
    show am_EI m_Main_pass kc ks 9 [.ref a0, .int x1, .int x2, .int x3, .int x4, .null, .float 0, .float 0] [.int x2, .ref a0] h2 Q
    obtain ⟨o6, t⟩ := t
    refine am_callV (M2 := m_Main_shipAt) (ci := 11) (a := a0) (kc := kc) (ks := ks) (k2c := 0) (k2s := 0) (as := []) [.int x2] dc_Main_pass_9 lk_11_250 im_Main_shipAt se_Main_shipAt lm_Main_shipAt np_Main_shipAt ⟨Nat.le_of_ble_eq_true rfl, Nat.le_of_ble_eq_true rfl⟩ (fun _ => Nat.le_of_ble_eq_true rfl) (by decide) rfl o6 (am_Er.end (am_Er.mono t (fun r8 h7 t => ⟨fun c10 => ?_, fun b9 c10 => ?_⟩)))
    · replace t := t.1 c10
      refine am_blk_ok (c := 11) (ini := false) (by decide) rfl (fun q => by cases q) bk_Main_pass_12_2 _ 16 _ _ _ bk_Main_pass_12_2_ok rfl ?_
      show am_EI m_Main_pass kc ks 16 [.ref a0, .int x1, .int x2, .int x3, .int x4, .null, .null, .float 0] [.null] h7 Q
      refine am_ifnullN (tgt := 39) dc_Main_pass_16 (by decide) ?_
      refine am_blk_ok (c := 11) (ini := false) (by decide) rfl (fun q => by cases q) bk_Main_pass_39_2 _ 41 _ _ _ bk_Main_pass_39_2_ok rfl ?_
      show am_EI m_Main_pass kc ks 41 [.ref a0, .int x1, .int x2, .int x3, .int x4, .null, .null, .float 0] [.int 1, .ref a0] h7 Q
      obtain ⟨o11, t⟩ := t
      refine am_callV (M2 := m_Main_refuse) (ci := 11) (a := a0) (kc := kc) (ks := ks) (k2c := 0) (k2s := 0) (as := []) [.int 1] dc_Main_pass_41 lk_11_108 im_Main_refuse se_Main_refuse lm_Main_refuse np_Main_refuse ⟨Nat.le_of_ble_eq_true rfl, Nat.le_of_ble_eq_true rfl⟩ (fun _ => Nat.le_of_ble_eq_true rfl) (by decide) rfl o11 (am_Ei.end (am_Ei.mono t (fun r13 h12 t => ?_)))
      exact am_iret dc_Main_pass_44 rfl t
    · replace t := t.2 b9 c10
      refine am_blk_ok (c := 11) (ini := false) (by decide) rfl (fun q => by cases q) bk_Main_pass_12_2 _ 16 _ _ _ bk_Main_pass_12_2_ok rfl ?_
      show am_EI m_Main_pass kc ks 16 [.ref a0, .int x1, .int x2, .int x3, .int x4, .null, .ref b9, .float 0] [.null] h7 Q
      refine am_ifnullN (tgt := 39) dc_Main_pass_16 (by decide) ?_
      refine am_blk_ok (c := 11) (ini := false) (by decide) rfl (fun q => by cases q) bk_Main_pass_39_2 _ 41 _ _ _ bk_Main_pass_39_2_ok rfl ?_
      show am_EI m_Main_pass kc ks 41 [.ref a0, .int x1, .int x2, .int x3, .int x4, .null, .ref b9, .float 0] [.int 1, .ref a0] h7 Q
      obtain ⟨o14, t⟩ := t
      refine am_callV (M2 := m_Main_refuse) (ci := 11) (a := a0) (kc := kc) (ks := ks) (k2c := 0) (k2s := 0) (as := []) [.int 1] dc_Main_pass_41 lk_11_108 im_Main_refuse se_Main_refuse lm_Main_refuse np_Main_refuse ⟨Nat.le_of_ble_eq_true rfl, Nat.le_of_ble_eq_true rfl⟩ (fun _ => Nat.le_of_ble_eq_true rfl) (by decide) rfl o14 (am_Ei.end (am_Ei.mono t (fun r16 h15 t => ?_)))
      exact am_iret dc_Main_pass_44 rfl t
  · replace t := t.2 b4 c5
    refine am_blk_ok (c := 11) (ini := false) (by decide) rfl (fun q => by cases q) bk_Main_pass_5_3 _ 9 _ _ _ bk_Main_pass_5_3_ok rfl ?_
    show am_EI m_Main_pass kc ks 9 [.ref a0, .int x1, .int x2, .int x3, .int x4, .ref b4, .float 0, .float 0] [.int x2, .ref a0] h2 Q
    obtain ⟨o17, t⟩ := t
    refine am_callV (M2 := m_Main_shipAt) (ci := 11) (a := a0) (kc := kc) (ks := ks) (k2c := 0) (k2s := 0) (as := []) [.int x2] dc_Main_pass_9 lk_11_250 im_Main_shipAt se_Main_shipAt lm_Main_shipAt np_Main_shipAt ⟨Nat.le_of_ble_eq_true rfl, Nat.le_of_ble_eq_true rfl⟩ (fun _ => Nat.le_of_ble_eq_true rfl) (by decide) rfl o17 (am_Er.end (am_Er.mono t (fun r19 h18 t => ⟨fun c21 => ?_, fun b20 c21 => ?_⟩)))
    · replace t := t.1 c21
      refine am_blk_ok (c := 11) (ini := false) (by decide) rfl (fun q => by cases q) bk_Main_pass_12_2 _ 16 _ _ _ bk_Main_pass_12_2_ok rfl ?_
      show am_EI m_Main_pass kc ks 16 [.ref a0, .int x1, .int x2, .int x3, .int x4, .ref b4, .null, .float 0] [.ref b4] h18 Q
      refine am_ifnull dc_Main_pass_16 ?_
      refine am_blk_ok (c := 11) (ini := false) (by decide) rfl (fun q => by cases q) bk_Main_pass_19_1 _ 21 _ _ _ bk_Main_pass_19_1_ok rfl ?_
      show am_EI m_Main_pass kc ks 21 [.ref a0, .int x1, .int x2, .int x3, .int x4, .ref b4, .null, .float 0] [.null] h18 Q
      refine am_ifnullN (tgt := 39) dc_Main_pass_21 (by decide) ?_
      refine am_blk_ok (c := 11) (ini := false) (by decide) rfl (fun q => by cases q) bk_Main_pass_39_2 _ 41 _ _ _ bk_Main_pass_39_2_ok rfl ?_
      show am_EI m_Main_pass kc ks 41 [.ref a0, .int x1, .int x2, .int x3, .int x4, .ref b4, .null, .float 0] [.int 1, .ref a0] h18 Q
      obtain ⟨o22, t⟩ := t
      refine am_callV (M2 := m_Main_refuse) (ci := 11) (a := a0) (kc := kc) (ks := ks) (k2c := 0) (k2s := 0) (as := []) [.int 1] dc_Main_pass_41 lk_11_108 im_Main_refuse se_Main_refuse lm_Main_refuse np_Main_refuse ⟨Nat.le_of_ble_eq_true rfl, Nat.le_of_ble_eq_true rfl⟩ (fun _ => Nat.le_of_ble_eq_true rfl) (by decide) rfl o22 (am_Ei.end (am_Ei.mono t (fun r24 h23 t => ?_)))
      exact am_iret dc_Main_pass_44 rfl t
    · replace t := t.2 b20 c21
      refine am_blk_ok (c := 11) (ini := false) (by decide) rfl (fun q => by cases q) bk_Main_pass_12_2 _ 16 _ _ _ bk_Main_pass_12_2_ok rfl ?_
      show am_EI m_Main_pass kc ks 16 [.ref a0, .int x1, .int x2, .int x3, .int x4, .ref b4, .ref b20, .float 0] [.ref b4] h18 Q
      refine am_ifnull dc_Main_pass_16 ?_
      refine am_blk_ok (c := 11) (ini := false) (by decide) rfl (fun q => by cases q) bk_Main_pass_19_1 _ 21 _ _ _ bk_Main_pass_19_1_ok rfl ?_
      show am_EI m_Main_pass kc ks 21 [.ref a0, .int x1, .int x2, .int x3, .int x4, .ref b4, .ref b20, .float 0] [.ref b20] h18 Q
      refine am_ifnull dc_Main_pass_21 ?_
      refine am_blk_ok (c := 11) (ini := false) (by decide) rfl (fun q => by cases q) bk_Main_pass_24_1 _ 26 _ _ _ bk_Main_pass_24_1_ok rfl ?_
      show am_EI m_Main_pass kc ks 26 [.ref a0, .int x1, .int x2, .int x3, .int x4, .ref b4, .ref b20, .float 0] [.int x4] h18 Q
      refine am_if_lt (tgt := 39) dc_Main_pass_26 (by decide) (fun c25 => ?_) (fun c25 => ?_)
      · replace t := t.1 c25
        refine am_blk_ok (c := 11) (ini := false) (by decide) rfl (fun q => by cases q) bk_Main_pass_39_2 _ 41 _ _ _ bk_Main_pass_39_2_ok rfl ?_
        show am_EI m_Main_pass kc ks 41 [.ref a0, .int x1, .int x2, .int x3, .int x4, .ref b4, .ref b20, .float 0] [.int 1, .ref a0] h18 Q
        obtain ⟨o26, t⟩ := t
        refine am_callV (M2 := m_Main_refuse) (ci := 11) (a := a0) (kc := kc) (ks := ks) (k2c := 0) (k2s := 0) (as := []) [.int 1] dc_Main_pass_41 lk_11_108 im_Main_refuse se_Main_refuse lm_Main_refuse np_Main_refuse ⟨Nat.le_of_ble_eq_true rfl, Nat.le_of_ble_eq_true rfl⟩ (fun _ => Nat.le_of_ble_eq_true rfl) (by decide) rfl o26 (am_Ei.end (am_Ei.mono t (fun r28 h27 t => ?_)))
        exact am_iret dc_Main_pass_44 rfl t
      · replace t := t.2 c25
        refine am_blk_ok (c := 11) (ini := false) (by decide) rfl (fun q => by cases q) bk_Main_pass_29_2 _ 33 _ _ _ bk_Main_pass_29_2_ok rfl ?_
        show am_EI m_Main_pass kc ks 33 [.ref a0, .int x1, .int x2, .int x3, .int x4, .ref b4, .ref b20, .float 0] [.ref b4, .int x4] h18 Q
        obtain ⟨o29, t⟩ := t
        refine am_callV (M2 := m_Route_stopCount) (ci := 4) (a := b4) (kc := kc) (ks := ks) (k2c := 0) (k2s := 0) (as := [.int x4]) [] dc_Main_pass_33 lk_11_170 im_Route_stopCount se_Route_stopCount lm_Route_stopCount np_Route_stopCount ⟨Nat.le_of_ble_eq_true rfl, Nat.le_of_ble_eq_true rfl⟩ (fun _ => Nat.le_of_ble_eq_true rfl) (by decide) rfl o29 (am_Ei.end (am_Ei.mono t (fun r31 h30 t => ?_)))
        refine am_ic_lt (tgt := 45) dc_Main_pass_36 (by decide) (fun c32 => ?_) (fun c32 => ?_)
        · replace t := t.1 c32
          refine am_blk_ok (c := 11) (ini := false) (by decide) rfl (fun q => by cases q) bk_Main_pass_45_1 _ 46 _ _ _ bk_Main_pass_45_1_ok rfl ?_
          show am_EI m_Main_pass kc ks 46 [.ref a0, .int x1, .int x2, .int x3, .int x4, .ref b4, .ref b20, .float 0] [.int x3] h30 Q
          refine am_callS (M2 := m_Main_isNumberToAsk) (kc := kc) (ks := ks) (k2c := 0) (k2s := 0) (as := []) [.int x3] dc_Main_pass_46 lk_11_260 st_Main_isNumberToAsk lm_Main_isNumberToAsk np_Main_isNumberToAsk ⟨Nat.le_of_ble_eq_true rfl, Nat.le_of_ble_eq_true rfl⟩ (fun _ => Nat.le_of_ble_eq_true rfl) (am_Ei.end (am_Ei.mono t (fun r34 h33 t => ?_)))
          refine am_if_ne (tgt := 58) dc_Main_pass_49 (by decide) (fun c35 => ?_) (fun c35 => ?_)
          · replace t := t.1 c35
            refine am_blk_ok (c := 11) (ini := false) (by decide) rfl (fun q => by cases q) bk_Main_pass_58_5 _ 67 _ _ _ bk_Main_pass_58_5_ok rfl ?_
            show (am_tg h33 a0 = (11, 18) ∧ (∃ b36, am_P h33 a0 9 = some b36 ∧ am_EI m_Main_pass kc ks 67 [.ref a0, .int x1, .int x2, .int x3, .int x4, .ref b4, .ref b20, .float 0] [.int x3, .ref b20, .ref b4, .ref b36] h33 Q))
            obtain ⟨o37, b36, q38, t⟩ := t
            refine ⟨o37, b36, q38, ?_⟩
            obtain ⟨o39, t⟩ := t
            refine am_callV (M2 := m_Planner_plan) (ci := 1) (a := b36) (kc := kc) (ks := ks) (k2c := 0) (k2s := 0) (as := []) [.ref b4, .ref b20, .int x3] dc_Main_pass_67 lk_11_263 im_Planner_plan se_Planner_plan lm_Planner_plan np_Planner_plan ⟨Nat.le_of_ble_eq_true rfl, Nat.le_of_ble_eq_true rfl⟩ (fun _ => Nat.le_of_ble_eq_true rfl) (by decide) rfl o39 (am_Ei.end (am_Ei.mono t (fun r41 h40 t => ?_)))
            refine am_blk_ok (c := 11) (ini := false) (by decide) rfl (fun q => by cases q) bk_Main_pass_70_3 _ 75 _ _ _ bk_Main_pass_70_3_ok rfl ?_
            show am_EI m_Main_pass kc ks 75 [.ref a0, .int x1, .int x2, .int x3, .int x4, .ref b4, .ref b20, .int r41] [.int r41, .ref a0] h40 Q
            refine am_if_eq (tgt := 90) dc_Main_pass_75 (by decide) (fun c42 => ?_) (fun c42 => ?_)
            · replace t := t.1 c42
              refine am_blk_ok (c := 11) (ini := false) (by decide) rfl (fun q => by cases q) bk_Main_pass_90_1 _ 91 _ _ _ bk_Main_pass_90_1_ok rfl ?_
              show am_EI m_Main_pass kc ks 91 [.ref a0, .int x1, .int x2, .int x3, .int x4, .ref b4, .ref b20, .int r41] [.int (-1), .ref a0] h40 Q
              obtain ⟨o43, t⟩ := t
              refine am_callV (M2 := m_Main_answer) (ci := 11) (a := a0) (kc := kc) (ks := ks) (k2c := 0) (k2s := 0) (as := []) [.int (-1)] dc_Main_pass_91 lk_11_119 im_Main_answer se_Main_answer lm_Main_answer np_Main_answer ⟨Nat.le_of_ble_eq_true rfl, Nat.le_of_ble_eq_true rfl⟩ (fun _ => Nat.le_of_ble_eq_true rfl) (by decide) rfl o43 (am_Ei.end (am_Ei.mono t (fun r45 h44 t => ?_)))
              exact am_iret dc_Main_pass_94 rfl t
            · replace t := t.2 c42
              refine am_blk_ok (c := 11) (ini := false) (by decide) rfl (fun q => by cases q) bk_Main_pass_78_3 _ 84 _ _ _ bk_Main_pass_78_3_ok rfl ?_
              show (am_tg h40 a0 = (11, 18) ∧ (∃ b46, am_P h40 a0 9 = some b46 ∧ am_EI m_Main_pass kc ks 84 [.ref a0, .int x1, .int x2, .int x3, .int x4, .ref b4, .ref b20, .int r41] [.int x4, .ref b46, .ref a0] h40 Q))
              obtain ⟨o47, b46, q48, t⟩ := t
              refine ⟨o47, b46, q48, ?_⟩
              obtain ⟨o49, t⟩ := t
              refine am_callV (M2 := m_Planner_passOf) (ci := 1) (a := b46) (kc := kc) (ks := ks) (k2c := 0) (k2s := 0) (as := [.ref a0]) [.int x4] dc_Main_pass_84 lk_11_267 im_Planner_passOf se_Planner_passOf lm_Planner_passOf np_Planner_passOf ⟨Nat.le_of_ble_eq_true rfl, Nat.le_of_ble_eq_true rfl⟩ (fun _ => Nat.le_of_ble_eq_true rfl) (by decide) rfl o49 (am_Ei.end (am_Ei.mono t (fun r51 h50 t => ?_)))
              refine am_blk_ok (c := 11) (ini := false) (by decide) rfl (fun q => by cases q) bk_Main_pass_87_1 _ 91 _ _ _ bk_Main_pass_87_1_ok rfl ?_
              show am_EI m_Main_pass kc ks 91 [.ref a0, .int x1, .int x2, .int x3, .int x4, .ref b4, .ref b20, .int r41] [.int r51, .ref a0] h50 Q
              obtain ⟨o52, t⟩ := t
              refine am_callV (M2 := m_Main_answer) (ci := 11) (a := a0) (kc := kc) (ks := ks) (k2c := 0) (k2s := 0) (as := []) [.int r51] dc_Main_pass_91 lk_11_119 im_Main_answer se_Main_answer lm_Main_answer np_Main_answer ⟨Nat.le_of_ble_eq_true rfl, Nat.le_of_ble_eq_true rfl⟩ (fun _ => Nat.le_of_ble_eq_true rfl) (by decide) rfl o52 (am_Ei.end (am_Ei.mono t (fun r54 h53 t => ?_)))
              exact am_iret dc_Main_pass_94 rfl t
          · replace t := t.2 c35
            refine am_blk_ok (c := 11) (ini := false) (by decide) rfl (fun q => by cases q) bk_Main_pass_52_2 _ 54 _ _ _ bk_Main_pass_52_2_ok rfl ?_
            show am_EI m_Main_pass kc ks 54 [.ref a0, .int x1, .int x2, .int x3, .int x4, .ref b4, .ref b20, .float 0] [.int 3, .ref a0] h33 Q
            obtain ⟨o55, t⟩ := t
            refine am_callV (M2 := m_Main_refuse) (ci := 11) (a := a0) (kc := kc) (ks := ks) (k2c := 0) (k2s := 0) (as := []) [.int 3] dc_Main_pass_54 lk_11_108 im_Main_refuse se_Main_refuse lm_Main_refuse np_Main_refuse ⟨Nat.le_of_ble_eq_true rfl, Nat.le_of_ble_eq_true rfl⟩ (fun _ => Nat.le_of_ble_eq_true rfl) (by decide) rfl o55 (am_Ei.end (am_Ei.mono t (fun r57 h56 t => ?_)))
            exact am_iret dc_Main_pass_57 rfl t
        · replace t := t.2 c32
          refine am_blk_ok (c := 11) (ini := false) (by decide) rfl (fun q => by cases q) bk_Main_pass_39_2 _ 41 _ _ _ bk_Main_pass_39_2_ok rfl ?_
          show am_EI m_Main_pass kc ks 41 [.ref a0, .int x1, .int x2, .int x3, .int x4, .ref b4, .ref b20, .float 0] [.int 1, .ref a0] h30 Q
          obtain ⟨o58, t⟩ := t
          refine am_callV (M2 := m_Main_refuse) (ci := 11) (a := a0) (kc := kc) (ks := ks) (k2c := 0) (k2s := 0) (as := []) [.int 1] dc_Main_pass_41 lk_11_108 im_Main_refuse se_Main_refuse lm_Main_refuse np_Main_refuse ⟨Nat.le_of_ble_eq_true rfl, Nat.le_of_ble_eq_true rfl⟩ (fun _ => Nat.le_of_ble_eq_true rfl) (by decide) rfl o58 (am_Ei.end (am_Ei.mono t (fun r60 h59 t => ?_)))
          exact am_iret dc_Main_pass_44 rfl t
set_option maxRecDepth 20000 in
theorem ev_Main_pass (a0 : Nat) (x1 x2 x3 x4 : Int32) (h : am_H) (Q : Int32 → am_H → Prop) (t : (am_tg h a0 = (11, 18) ∧ (am_Er m_Main_routeAt 0 0 [.ref a0, .int x1] h (fun r3 h2 => (r3 = none → (am_tg h2 a0 = (11, 18) ∧ (am_Er m_Main_shipAt 0 0 [.ref a0, .int x2] h2 (fun r8 h7 => (r8 = none → (am_tg h7 a0 = (11, 18) ∧ (am_Ei m_Main_refuse 0 0 [.ref a0, .int 1] h7 (fun r13 h12 => Q r13 h12)))) ∧ ∀ b9, r8 = some b9 → (am_tg h7 a0 = (11, 18) ∧ (am_Ei m_Main_refuse 0 0 [.ref a0, .int 1] h7 (fun r16 h15 => Q r16 h15))))))) ∧ ∀ b4, r3 = some b4 → (am_tg h2 a0 = (11, 18) ∧ (am_Er m_Main_shipAt 0 0 [.ref a0, .int x2] h2 (fun r19 h18 => (r19 = none → (am_tg h18 a0 = (11, 18) ∧ (am_Ei m_Main_refuse 0 0 [.ref a0, .int 1] h18 (fun r24 h23 => Q r24 h23)))) ∧ ∀ b20, r19 = some b20 → ((x4 < 0 → (am_tg h18 a0 = (11, 18) ∧ (am_Ei m_Main_refuse 0 0 [.ref a0, .int 1] h18 (fun r28 h27 => Q r28 h27)))) ∧ (¬ x4 < 0 → (am_tg h18 b4 = (4, 7) ∧ (am_Ei m_Route_stopCount 0 0 [.ref b4] h18 (fun r31 h30 => ((x4 < r31 → (am_Ei m_Main_isNumberToAsk 0 0 [.int x3] h30 (fun r34 h33 => ((¬ r34 = 0 → (am_tg h33 a0 = (11, 18) ∧ (∃ b36, am_P h33 a0 9 = some b36 ∧ (am_tg h33 b36 = (1, 7) ∧ (am_Ei m_Planner_plan 0 0 [.ref b36, .ref b4, .ref b20, .int x3] h33 (fun r41 h40 => ((r41 = 0 → (am_tg h40 a0 = (11, 18) ∧ (am_Ei m_Main_answer 0 0 [.ref a0, .int (-1)] h40 (fun r45 h44 => Q r45 h44)))) ∧ (¬ r41 = 0 → (am_tg h40 a0 = (11, 18) ∧ (∃ b46, am_P h40 a0 9 = some b46 ∧ (am_tg h40 b46 = (1, 7) ∧ (am_Ei m_Planner_passOf 0 0 [.ref b46, .int x4] h40 (fun r51 h50 => (am_tg h50 a0 = (11, 18) ∧ (am_Ei m_Main_answer 0 0 [.ref a0, .int r51] h50 (fun r54 h53 => Q r54 h53)))))))))))))))) ∧ (r34 = 0 → (am_tg h33 a0 = (11, 18) ∧ (am_Ei m_Main_refuse 0 0 [.ref a0, .int 3] h33 (fun r57 h56 => Q r57 h56)))))))) ∧ (¬ x4 < r31 → (am_tg h30 a0 = (11, 18) ∧ (am_Ei m_Main_refuse 0 0 [.ref a0, .int 1] h30 (fun r60 h59 => Q r60 h59))))))))))))))))) : am_Ei m_Main_pass 0 0 [.ref a0, .int x1, .int x2, .int x3, .int x4] h Q :=
  am_Ev.of (by decide +kernel) (Nat.le_of_ble_eq_true rfl) (by simp only [List.mem_cons, List.not_mem_nil, or_false]; intro v hv; rcases hv with rfl | rfl | rfl | rfl | rfl; all_goals first | exact trivial) (sg_Main_pass_0 (kc := 0) (ks := 0) a0 x1 x2 x3 x4 h (am_qi Q) t)
def bk_Main_place_0_2 : List am_E := [(0, .aload_n 0, 1, 0, 0), (1, .getfield 98, 3, 4464, 0)]
theorem bk_Main_place_0_2_ok : bk_Main_place_0_2.all (am_ok 11 false m_Main_place.2.1) = true := by decide +kernel
theorem dc_Main_place_4 : decode m_Main_place.2.1 4 = .ok (.ireturn, 1) := by decide +kernel
set_option maxRecDepth 20000 in
theorem sg_Main_place_0 {kc ks : Nat} (a0 : Nat) (h : am_H) (Q : Option Value → am_H → Prop) (t : (am_tg h a0 = (11, 18) ∧ Q (some (.int (am_I h a0 16))) h)) : am_EI m_Main_place kc ks 0 [.ref a0] [] h Q := by
  refine am_blk_ok (c := 11) (ini := false) (by decide) rfl (fun q => by cases q) bk_Main_place_0_2 _ 4 _ _ _ bk_Main_place_0_2_ok rfl ?_
  show (am_tg h a0 = (11, 18) ∧ am_EI m_Main_place kc ks 4 [.ref a0] [.int (am_I h a0 16)] h Q)
  obtain ⟨o1, t⟩ := t
  refine ⟨o1, ?_⟩
  exact am_iret dc_Main_place_4 rfl t
set_option maxRecDepth 20000 in
theorem ev_Main_place (a0 : Nat) (h : am_H) (Q : Int32 → am_H → Prop) (t : (am_tg h a0 = (11, 18) ∧ Q (am_I h a0 16) h)) : am_Ei m_Main_place 0 0 [.ref a0] h Q :=
  am_Ev.of (by decide +kernel) (Nat.le_of_ble_eq_true rfl) (by simp only [List.mem_cons, List.not_mem_nil, or_false]; intro v hv; rcases hv with rfl; all_goals first | exact trivial) (sg_Main_place_0 (kc := 0) (ks := 0) a0 h (am_qi Q) t)
def bk_Main_port_0_2 : List am_E := [(0, .aload_n 0, 1, 0, 0), (1, .aconst_null, 1, 0, 0)]
theorem bk_Main_port_0_2_ok : bk_Main_port_0_2.all (am_ok 11 false m_Main_port.2.1) = true := by decide +kernel
theorem dc_Main_port_2 : decode m_Main_port.2.1 2 = .ok (.invokevirtual 125, 3) := by decide +kernel
theorem dc_Main_port_5 : decode m_Main_port.2.1 5 = .ok (.ireturn, 1) := by decide +kernel
set_option maxRecDepth 20000 in
theorem sg_Main_port_0 {kc ks : Nat} (a0 : Nat) (h : am_H) (Q : Option Value → am_H → Prop) (t : (am_tg h a0 = (11, 18) ∧ (am_Ei m_Main_addTable 4 53 [.ref a0, .null] h (fun r3 h2 => Q (some (.int r3)) h2)))) : am_EI m_Main_port (kc + 4) (ks + 53) 0 [.ref a0] [] h Q := by
  refine am_blk_ok (c := 11) (ini := false) (by decide) rfl (fun q => by cases q) bk_Main_port_0_2 _ 2 _ _ _ bk_Main_port_0_2_ok rfl ?_
  show am_EI m_Main_port (kc + 4) (ks + 53) 2 [.ref a0] [.null, .ref a0] h Q
  obtain ⟨o1, t⟩ := t
  refine am_callV (M2 := m_Main_addTable) (ci := 11) (a := a0) (kc := kc) (ks := ks) (k2c := 4) (k2s := 53) (as := []) [.null] dc_Main_port_2 lk_11_125 im_Main_addTable se_Main_addTable lm_Main_addTable np_Main_addTable ⟨Nat.le_of_ble_eq_true rfl, Nat.le_of_ble_eq_true rfl⟩ (fun _ => Nat.le_of_ble_eq_true rfl) (by decide) rfl o1 (am_Ei.end (am_Ei.mono t (fun r3 h2 t => ?_)))
  exact am_iret dc_Main_port_5 rfl t
set_option maxRecDepth 20000 in
theorem ev_Main_port (a0 : Nat) (h : am_H) (Q : Int32 → am_H → Prop) (t : (am_tg h a0 = (11, 18) ∧ (am_Ei m_Main_addTable 4 53 [.ref a0, .null] h (fun r3 h2 => Q r3 h2)))) : am_Ei m_Main_port (0 + 4) (0 + 53) [.ref a0] h Q :=
  am_Ev.of (by decide +kernel) (Nat.le_of_ble_eq_true rfl) (by simp only [List.mem_cons, List.not_mem_nil, or_false]; intro v hv; rcases hv with rfl; all_goals first | exact trivial) (sg_Main_port_0 (kc := 0) (ks := 0) a0 h (am_qi Q) t)
def bk_Main_portAt_0_1 : List am_E := [(0, .iload_n 1, 1, 0, 0)]
theorem bk_Main_portAt_0_1_ok : bk_Main_portAt_0_1.all (am_ok 11 false m_Main_portAt.2.1) = true := by decide +kernel
def bk_Main_portAt_27_1 : List am_E := [(27, .aconst_null, 1, 0, 0)]
theorem bk_Main_portAt_27_1_ok : bk_Main_portAt_27_1.all (am_ok 11 false m_Main_portAt.2.1) = true := by decide +kernel
def bk_Main_portAt_4_3 : List am_E := [(4, .iload_n 1, 1, 0, 0), (5, .aload_n 0, 1, 0, 0), (6, .getfield 82, 3, 4444, 0)]
theorem bk_Main_portAt_4_3_ok : bk_Main_portAt_4_3.all (am_ok 11 false m_Main_portAt.2.1) = true := by decide +kernel
def bk_Main_portAt_12_2 : List am_E := [(12, .iload_n 1, 1, 0, 0), (13, .bipush 8, 2, 0, 8)]
theorem bk_Main_portAt_12_2_ok : bk_Main_portAt_12_2.all (am_ok 11 false m_Main_portAt.2.1) = true := by decide +kernel
def bk_Main_portAt_18_5 : List am_E := [(18, .aload_n 0, 1, 0, 0), (19, .getfield 34, 3, 4413, 0), (22, .iload_n 1, 1, 0, 0), (23, .aaload, 1, 32, 0), (24, .goto 4, 3, 0, 4)]
theorem bk_Main_portAt_18_5_ok : bk_Main_portAt_18_5.all (am_ok 11 false m_Main_portAt.2.1) = true := by decide +kernel
theorem dc_Main_portAt_28 : decode m_Main_portAt.2.1 28 = .ok (.areturn, 1) := by decide +kernel
theorem dc_Main_portAt_15 : decode m_Main_portAt.2.1 15 = .ok (.if_icmp .ge 12, 3) := by decide +kernel
theorem dc_Main_portAt_9 : decode m_Main_portAt.2.1 9 = .ok (.if_icmp .ge 18, 3) := by decide +kernel
theorem dc_Main_portAt_1 : decode m_Main_portAt.2.1 1 = .ok (.ifCond .lt 26, 3) := by decide +kernel
set_option maxRecDepth 20000 in
theorem sg_Main_portAt_0 {kc ks : Nat} (a0 : Nat) (x1 : Int32) (h : am_H) (Q : Option Value → am_H → Prop) (t : ((x1 < 0 → Q (some (.null)) h) ∧ (¬ x1 < 0 → (am_tg h a0 = (11, 18) ∧ (((am_I h a0 11) ≤ x1 → Q (some (.null)) h) ∧ (¬ (am_I h a0 11) ≤ x1 → ((8 ≤ x1 → Q (some (.null)) h) ∧ (¬ 8 ≤ x1 → (∃ b5, am_P h a0 3 = some b5 ∧ ((am_tg h b5).1 = 32 ∧ (vp_in x1 (am_tg h b5).2 ∧ (∃ b6, am_P h b5 x1.toNatClampNeg = some b6 ∧ Q (some (.ref b6)) h)))))))))))) : am_EI m_Main_portAt kc ks 0 [.ref a0, .int x1] [] h Q := by
  refine am_blk_ok (c := 11) (ini := false) (by decide) rfl (fun q => by cases q) bk_Main_portAt_0_1 _ 1 _ _ _ bk_Main_portAt_0_1_ok rfl ?_
  show am_EI m_Main_portAt kc ks 1 [.ref a0, .int x1] [.int x1] h Q
  refine am_if_lt (tgt := 27) dc_Main_portAt_1 (by decide) (fun c1 => ?_) (fun c1 => ?_)
  · replace t := t.1 c1
    refine am_blk_ok (c := 11) (ini := false) (by decide) rfl (fun q => by cases q) bk_Main_portAt_27_1 _ 28 _ _ _ bk_Main_portAt_27_1_ok rfl ?_
    show am_EI m_Main_portAt kc ks 28 [.ref a0, .int x1] [.null] h Q
    exact am_aret (o := none) dc_Main_portAt_28 rfl rfl t
  · replace t := t.2 c1
    refine am_blk_ok (c := 11) (ini := false) (by decide) rfl (fun q => by cases q) bk_Main_portAt_4_3 _ 9 _ _ _ bk_Main_portAt_4_3_ok rfl ?_
    show (am_tg h a0 = (11, 18) ∧ am_EI m_Main_portAt kc ks 9 [.ref a0, .int x1] [.int (am_I h a0 11), .int x1] h Q)
    obtain ⟨o2, t⟩ := t
    refine ⟨o2, ?_⟩
    refine am_ic_ge (tgt := 27) dc_Main_portAt_9 (by decide) (fun c3 => ?_) (fun c3 => ?_)
    · replace t := t.1 c3
      refine am_blk_ok (c := 11) (ini := false) (by decide) rfl (fun q => by cases q) bk_Main_portAt_27_1 _ 28 _ _ _ bk_Main_portAt_27_1_ok rfl ?_
      show am_EI m_Main_portAt kc ks 28 [.ref a0, .int x1] [.null] h Q
      exact am_aret (o := none) dc_Main_portAt_28 rfl rfl t
    · replace t := t.2 c3
      refine am_blk_ok (c := 11) (ini := false) (by decide) rfl (fun q => by cases q) bk_Main_portAt_12_2 _ 15 _ _ _ bk_Main_portAt_12_2_ok rfl ?_
      show am_EI m_Main_portAt kc ks 15 [.ref a0, .int x1] [.int 8, .int x1] h Q
      refine am_ic_ge (tgt := 27) dc_Main_portAt_15 (by decide) (fun c4 => ?_) (fun c4 => ?_)
      · replace t := t.1 c4
        refine am_blk_ok (c := 11) (ini := false) (by decide) rfl (fun q => by cases q) bk_Main_portAt_27_1 _ 28 _ _ _ bk_Main_portAt_27_1_ok rfl ?_
        show am_EI m_Main_portAt kc ks 28 [.ref a0, .int x1] [.null] h Q
        exact am_aret (o := none) dc_Main_portAt_28 rfl rfl t
      · replace t := t.2 c4
        refine am_blk_ok (c := 11) (ini := false) (by decide) rfl (fun q => by cases q) bk_Main_portAt_18_5 _ 28 _ _ _ bk_Main_portAt_18_5_ok rfl ?_
        show (am_tg h a0 = (11, 18) ∧ (∃ b5, am_P h a0 3 = some b5 ∧ ((am_tg h b5).1 = 32 ∧ ((32 ∈ am_ks ∧ 30 ≤ 32) ∧ (vp_in x1 (am_tg h b5).2 ∧ (∃ b6, am_P h b5 x1.toNatClampNeg = some b6 ∧ am_EI m_Main_portAt kc ks 28 [.ref a0, .int x1] [.ref b6] h Q))))))
        obtain ⟨b5, q7, o8, o9, b6, q10, t⟩ := t
        refine ⟨o2, b5, q7, o8, ⟨by decide, by decide⟩, o9, b6, q10, ?_⟩
        exact am_aret (o := some b6) dc_Main_portAt_28 rfl rfl t
set_option maxRecDepth 20000 in
theorem ev_Main_portAt (a0 : Nat) (x1 : Int32) (h : am_H) (Q : Option Nat → am_H → Prop) (t : ((x1 < 0 → Q none h) ∧ (¬ x1 < 0 → (am_tg h a0 = (11, 18) ∧ (((am_I h a0 11) ≤ x1 → Q none h) ∧ (¬ (am_I h a0 11) ≤ x1 → ((8 ≤ x1 → Q none h) ∧ (¬ 8 ≤ x1 → (∃ b5, am_P h a0 3 = some b5 ∧ ((am_tg h b5).1 = 32 ∧ (vp_in x1 (am_tg h b5).2 ∧ (∃ b6, am_P h b5 x1.toNatClampNeg = some b6 ∧ Q (some b6) h)))))))))))) : am_Er m_Main_portAt 0 0 [.ref a0, .int x1] h Q :=
  am_Ev.of (by decide +kernel) (Nat.le_of_ble_eq_true rfl) (by simp only [List.mem_cons, List.not_mem_nil, or_false]; intro v hv; rcases hv with rfl | rfl; all_goals first | exact trivial) (sg_Main_portAt_0 (kc := 0) (ks := 0) a0 x1 h (am_qr Q) t)
def bk_Main_refuse_0_4 : List am_E := [(0, .aload_n 0, 1, 0, 0), (1, .iload_n 1, 1, 0, 0), (2, .putfield 95, 3, 4460, 0), (5, .sipush (-9999), 3, 0, -9999)]
theorem bk_Main_refuse_0_4_ok : bk_Main_refuse_0_4.all (am_ok 11 false m_Main_refuse.2.1) = true := by decide +kernel
theorem dc_Main_refuse_8 : decode m_Main_refuse.2.1 8 = .ok (.ireturn, 1) := by decide +kernel
set_option maxRecDepth 20000 in
theorem sg_Main_refuse_0 {kc ks : Nat} (a0 : Nat) (x1 : Int32) (h : am_H) (Q : Option Value → am_H → Prop) (t : (am_tg h a0 = (11, 18) ∧ Q (some (.int (-9999))) (am_si h a0 15 x1))) : am_EI m_Main_refuse kc ks 0 [.ref a0, .int x1] [] h Q := by
  refine am_blk_ok (c := 11) (ini := false) (by decide) rfl (fun q => by cases q) bk_Main_refuse_0_4 _ 8 _ _ _ bk_Main_refuse_0_4_ok rfl ?_
  show (am_tg h a0 = (11, 18) ∧ am_EI m_Main_refuse kc ks 8 [.ref a0, .int x1] [.int (-9999)] (am_si h a0 15 x1) Q)
  obtain ⟨o1, t⟩ := t
  refine ⟨o1, ?_⟩
  exact am_iret dc_Main_refuse_8 rfl t
set_option maxRecDepth 20000 in
theorem ev_Main_refuse (a0 : Nat) (x1 : Int32) (h : am_H) (Q : Int32 → am_H → Prop) (t : (am_tg h a0 = (11, 18) ∧ Q (-9999) (am_si h a0 15 x1))) : am_Ei m_Main_refuse 0 0 [.ref a0, .int x1] h Q :=
  am_Ev.of (by decide +kernel) (Nat.le_of_ble_eq_true rfl) (by simp only [List.mem_cons, List.not_mem_nil, or_false]; intro v hv; rcases hv with rfl | rfl; all_goals first | exact trivial) (sg_Main_refuse_0 (kc := 0) (ks := 0) a0 x1 h (am_qi Q) t)
def bk_Main_refuseUnread_0_3 : List am_E := [(0, .aload_n 0, 1, 0, 0), (1, .getfield 10, 3, 4401, 0), (4, .iconst 0, 1, 0, 0)]
theorem bk_Main_refuseUnread_0_3_ok : bk_Main_refuseUnread_0_3.all (am_ok 11 false m_Main_refuseUnread.2.1) = true := by decide +kernel
def bk_Main_refuseUnread_8_2 : List am_E := [(8, .aload_n 0, 1, 0, 0), (9, .iconst 1, 1, 0, 1)]
theorem bk_Main_refuseUnread_8_2_ok : bk_Main_refuseUnread_8_2.all (am_ok 11 false m_Main_refuseUnread.2.1) = true := by decide +kernel
theorem dc_Main_refuseUnread_5 : decode m_Main_refuseUnread.2.1 5 = .ok (.invokevirtual 122, 3) := by decide +kernel
theorem dc_Main_refuseUnread_10 : decode m_Main_refuseUnread.2.1 10 = .ok (.invokevirtual 108, 3) := by decide +kernel
theorem dc_Main_refuseUnread_13 : decode m_Main_refuseUnread.2.1 13 = .ok (.ireturn, 1) := by decide +kernel
set_option maxRecDepth 20000 in
theorem sg_Main_refuseUnread_0 {kc ks : Nat} (a0 : Nat) (h : am_H) (Q : Option Value → am_H → Prop) (t : (am_tg h a0 = (11, 18) ∧ (∃ b1, am_P h a0 0 = some b1 ∧ (am_tg h b1 = (9, 4) ∧ (am_Ew m_Tape_keepFirst 0 0 [.ref b1, .int 0] h (fun h5 => (am_tg h5 a0 = (11, 18) ∧ (am_Ei m_Main_refuse 0 0 [.ref a0, .int 1] h5 (fun r8 h7 => Q (some (.int r8)) h7))))))))) : am_EI m_Main_refuseUnread kc ks 0 [.ref a0] [] h Q := by
  refine am_blk_ok (c := 11) (ini := false) (by decide) rfl (fun q => by cases q) bk_Main_refuseUnread_0_3 _ 5 _ _ _ bk_Main_refuseUnread_0_3_ok rfl ?_
  show (am_tg h a0 = (11, 18) ∧ (∃ b1, am_P h a0 0 = some b1 ∧ am_EI m_Main_refuseUnread kc ks 5 [.ref a0] [.int 0, .ref b1] h Q))
  obtain ⟨o2, b1, q3, t⟩ := t
  refine ⟨o2, b1, q3, ?_⟩
  obtain ⟨o4, t⟩ := t
  refine am_callV (M2 := m_Tape_keepFirst) (ci := 9) (a := b1) (kc := kc) (ks := ks) (k2c := 0) (k2s := 0) (as := []) [.int 0] dc_Main_refuseUnread_5 lk_11_122 im_Tape_keepFirst se_Tape_keepFirst lm_Tape_keepFirst np_Tape_keepFirst ⟨Nat.le_of_ble_eq_true rfl, Nat.le_of_ble_eq_true rfl⟩ (fun _ => Nat.le_of_ble_eq_true rfl) (by decide) rfl o4 (am_Ew.end (am_Ew.mono t (fun h5 t => ?_)))
  refine am_blk_ok (c := 11) (ini := false) (by decide) rfl (fun q => by cases q) bk_Main_refuseUnread_8_2 _ 10 _ _ _ bk_Main_refuseUnread_8_2_ok rfl ?_
  show am_EI m_Main_refuseUnread kc ks 10 [.ref a0] [.int 1, .ref a0] h5 Q
  obtain ⟨o6, t⟩ := t
  refine am_callV (M2 := m_Main_refuse) (ci := 11) (a := a0) (kc := kc) (ks := ks) (k2c := 0) (k2s := 0) (as := []) [.int 1] dc_Main_refuseUnread_10 lk_11_108 im_Main_refuse se_Main_refuse lm_Main_refuse np_Main_refuse ⟨Nat.le_of_ble_eq_true rfl, Nat.le_of_ble_eq_true rfl⟩ (fun _ => Nat.le_of_ble_eq_true rfl) (by decide) rfl o6 (am_Ei.end (am_Ei.mono t (fun r8 h7 t => ?_)))
  exact am_iret dc_Main_refuseUnread_13 rfl t
set_option maxRecDepth 20000 in
theorem ev_Main_refuseUnread (a0 : Nat) (h : am_H) (Q : Int32 → am_H → Prop) (t : (am_tg h a0 = (11, 18) ∧ (∃ b1, am_P h a0 0 = some b1 ∧ (am_tg h b1 = (9, 4) ∧ (am_Ew m_Tape_keepFirst 0 0 [.ref b1, .int 0] h (fun h5 => (am_tg h5 a0 = (11, 18) ∧ (am_Ei m_Main_refuse 0 0 [.ref a0, .int 1] h5 (fun r8 h7 => Q r8 h7))))))))) : am_Ei m_Main_refuseUnread 0 0 [.ref a0] h Q :=
  am_Ev.of (by decide +kernel) (Nat.le_of_ble_eq_true rfl) (by simp only [List.mem_cons, List.not_mem_nil, or_false]; intro v hv; rcases hv with rfl; all_goals first | exact trivial) (sg_Main_refuseUnread_0 (kc := 0) (ks := 0) a0 h (am_qi Q) t)
def bk_Main_rise_0_5 : List am_E := [(0, .aload_n 0, 1, 0, 0), (1, .iconst 0, 1, 0, 0), (2, .iload_n 1, 1, 0, 0), (3, .iload_n 2, 1, 0, 0), (4, .iload_n 3, 1, 0, 0)]
theorem bk_Main_rise_0_5_ok : bk_Main_rise_0_5.all (am_ok 11 false m_Main_rise.2.1) = true := by decide +kernel
theorem dc_Main_rise_5 : decode m_Main_rise.2.1 5 = .ok (.invokevirtual 211, 3) := by decide +kernel
theorem dc_Main_rise_8 : decode m_Main_rise.2.1 8 = .ok (.ireturn, 1) := by decide +kernel
set_option maxRecDepth 20000 in
theorem sg_Main_rise_0 {kc ks : Nat} (a0 : Nat) (x1 x2 x3 : Int32) (h : am_H) (Q : Option Value → am_H → Prop) (t : (am_tg h a0 = (11, 18) ∧ (am_Ei m_Main_firstMinuteWhere 0 0 [.ref a0, .int 0, .int x1, .int x2, .int x3] h (fun r3 h2 => Q (some (.int r3)) h2)))) : am_EI m_Main_rise kc ks 0 [.ref a0, .int x1, .int x2, .int x3] [] h Q := by
  refine am_blk_ok (c := 11) (ini := false) (by decide) rfl (fun q => by cases q) bk_Main_rise_0_5 _ 5 _ _ _ bk_Main_rise_0_5_ok rfl ?_
  show am_EI m_Main_rise kc ks 5 [.ref a0, .int x1, .int x2, .int x3] [.int x3, .int x2, .int x1, .int 0, .ref a0] h Q
  obtain ⟨o1, t⟩ := t
  refine am_callV (M2 := m_Main_firstMinuteWhere) (ci := 11) (a := a0) (kc := kc) (ks := ks) (k2c := 0) (k2s := 0) (as := []) [.int 0, .int x1, .int x2, .int x3] dc_Main_rise_5 lk_11_211 im_Main_firstMinuteWhere se_Main_firstMinuteWhere lm_Main_firstMinuteWhere np_Main_firstMinuteWhere ⟨Nat.le_of_ble_eq_true rfl, Nat.le_of_ble_eq_true rfl⟩ (fun _ => Nat.le_of_ble_eq_true rfl) (by decide) rfl o1 (am_Ei.end (am_Ei.mono t (fun r3 h2 t => ?_)))
  exact am_iret dc_Main_rise_8 rfl t
set_option maxRecDepth 20000 in
theorem ev_Main_rise (a0 : Nat) (x1 x2 x3 : Int32) (h : am_H) (Q : Int32 → am_H → Prop) (t : (am_tg h a0 = (11, 18) ∧ (am_Ei m_Main_firstMinuteWhere 0 0 [.ref a0, .int 0, .int x1, .int x2, .int x3] h (fun r3 h2 => Q r3 h2)))) : am_Ei m_Main_rise 0 0 [.ref a0, .int x1, .int x2, .int x3] h Q :=
  am_Ev.of (by decide +kernel) (Nat.le_of_ble_eq_true rfl) (by simp only [List.mem_cons, List.not_mem_nil, or_false]; intro v hv; rcases hv with rfl | rfl | rfl | rfl; all_goals first | exact trivial) (sg_Main_rise_0 (kc := 0) (ks := 0) a0 x1 x2 x3 h (am_qi Q) t)
def bk_Main_route_0_2 : List am_E := [(0, .aload_n 0, 1, 0, 0), (1, .getfield 10, 3, 4401, 0)]
theorem bk_Main_route_0_2_ok : bk_Main_route_0_2.all (am_ok 11 false m_Main_route.2.1) = true := by decide +kernel
def bk_Main_route_7_4 : List am_E := [(7, .aload_n 0, 1, 0, 0), (8, .getfield 28, 3, 4409, 0), (11, .aload_n 0, 1, 0, 0), (12, .getfield 10, 3, 4401, 0)]
theorem bk_Main_route_7_4_ok : bk_Main_route_7_4.all (am_ok 11 false m_Main_route.2.1) = true := by decide +kernel
def bk_Main_route_18_1 : List am_E := [(18, .aload_n 0, 1, 0, 0)]
theorem bk_Main_route_18_1_ok : bk_Main_route_18_1.all (am_ok 11 false m_Main_route.2.1) = true := by decide +kernel
def bk_Main_route_31_3 : List am_E := [(31, .aload_n 0, 1, 0, 0), (32, .getfield 92, 3, 4456, 0), (35, .bipush 8, 2, 0, 8)]
theorem bk_Main_route_31_3_ok : bk_Main_route_31_3.all (am_ok 11 false m_Main_route.2.1) = true := by decide +kernel
def bk_Main_route_56_7 : List am_E := [(56, .iconst 0, 1, 0, 0), (57, .istore_n 1, 1, 0, 0), (58, .aload_n 0, 1, 0, 0), (59, .aload_n 0, 1, 0, 0), (60, .getfield 28, 3, 4409, 0), (63, .aload_n 0, 1, 0, 0), (64, .getfield 86, 3, 4448, 0)]
theorem bk_Main_route_56_7_ok : bk_Main_route_56_7.all (am_ok 11 false m_Main_route.2.1) = true := by decide +kernel
def bk_Main_route_70_1 : List am_E := [(70, .iload_n 1, 1, 0, 0)]
theorem bk_Main_route_70_1_ok : bk_Main_route_70_1.all (am_ok 11 false m_Main_route.2.1) = true := by decide +kernel
def bk_Main_route_74_2 : List am_E := [(74, .istore_n 2, 1, 0, 0), (75, .iload_n 2, 1, 0, 0)]
theorem bk_Main_route_74_2_ok : bk_Main_route_74_2.all (am_ok 11 false m_Main_route.2.1) = true := by decide +kernel
def bk_Main_route_88_2 : List am_E := [(88, .dup, 1, 0, 0), (89, .bipush 8, 2, 0, 8)]
theorem bk_Main_route_88_2_ok : bk_Main_route_88_2.all (am_ok 11 false m_Main_route.2.1) = true := by decide +kernel
def bk_Main_route_94_4 : List am_E := [(94, .astore_n 3, 1, 0, 0), (95, .aload_n 3, 1, 0, 0), (96, .aload_n 0, 1, 0, 0), (97, .getfield 28, 3, 4409, 0)]
theorem bk_Main_route_94_4_ok : bk_Main_route_94_4.all (am_ok 11 false m_Main_route.2.1) = true := by decide +kernel
def bk_Main_route_103_2 : List am_E := [(103, .iconst 0, 1, 0, 0), (104, .istore 4, 2, 0, 0)]
theorem bk_Main_route_103_2_ok : bk_Main_route_103_2.all (am_ok 11 false m_Main_route.2.1) = true := by decide +kernel
def bk_Main_route_79_2 : List am_E := [(79, .aload_n 0, 1, 0, 0), (80, .iload_n 2, 1, 0, 0)]
theorem bk_Main_route_79_2_ok : bk_Main_route_79_2.all (am_ok 11 false m_Main_route.2.1) = true := by decide +kernel
def bk_Main_route_40_2 : List am_E := [(40, .aload_n 0, 1, 0, 0), (41, .getfield 28, 3, 4409, 0)]
theorem bk_Main_route_40_2_ok : bk_Main_route_40_2.all (am_ok 11 false m_Main_route.2.1) = true := by decide +kernel
def bk_Main_route_47_1 : List am_E := [(47, .bipush 8, 2, 0, 8)]
theorem bk_Main_route_47_1_ok : bk_Main_route_47_1.all (am_ok 11 false m_Main_route.2.1) = true := by decide +kernel
def bk_Main_route_52_8 : List am_E := [(52, .iconst 1, 1, 0, 1), (53, .goto 4, 3, 0, 4), (57, .istore_n 1, 1, 0, 0), (58, .aload_n 0, 1, 0, 0), (59, .aload_n 0, 1, 0, 0), (60, .getfield 28, 3, 4409, 0), (63, .aload_n 0, 1, 0, 0), (64, .getfield 86, 3, 4448, 0)]
theorem bk_Main_route_52_8_ok : bk_Main_route_52_8.all (am_ok 11 false m_Main_route.2.1) = true := by decide +kernel
def bk_Main_route_25_2 : List am_E := [(25, .aload_n 0, 1, 0, 0), (26, .iconst 2, 1, 0, 2)]
theorem bk_Main_route_25_2_ok : bk_Main_route_25_2.all (am_ok 11 false m_Main_route.2.1) = true := by decide +kernel
def bk_Main_route_106_2 : List am_E := [(106, .iload 4, 2, 0, 0), (108, .aload_n 3, 1, 0, 0)]
theorem bk_Main_route_106_2_ok : bk_Main_route_106_2.all (am_ok 11 false m_Main_route.2.1) = true := by decide +kernel
def bk_Main_route_137_17 : List am_E := [(137, .aload_n 0, 1, 0, 0), (138, .getfield 50, 3, 4425, 0), (141, .aload_n 0, 1, 0, 0), (142, .getfield 92, 3, 4456, 0), (145, .aload_n 3, 1, 0, 0), (146, .aastore, 1, 4, 0), (147, .aload_n 0, 1, 0, 0), (148, .dup, 1, 0, 0), (149, .getfield 92, 3, 4456, 0), (152, .iconst 1, 1, 0, 1), (153, .iadd, 1, 0, 0), (154, .putfield 92, 3, 4456, 0), (157, .aload_n 0, 1, 0, 0), (158, .aload_n 0, 1, 0, 0), (159, .getfield 92, 3, 4456, 0), (162, .iconst 1, 1, 0, 1), (163, .isub, 1, 0, 0)]
theorem bk_Main_route_137_17_ok : bk_Main_route_137_17.all (am_ok 11 false m_Main_route.2.1) = true := by decide +kernel
def bk_Main_route_115_5 : List am_E := [(115, .aload_n 3, 1, 0, 0), (116, .iload 4, 2, 0, 0), (118, .aload_n 0, 1, 0, 0), (119, .aload_n 3, 1, 0, 0), (120, .iload 4, 2, 0, 0)]
theorem bk_Main_route_115_5_ok : bk_Main_route_115_5.all (am_ok 11 false m_Main_route.2.1) = true := by decide +kernel
def bk_Main_route_131_2 : List am_E := [(131, .iinc 4 1, 3, 0, 1), (134, .goto (-28), 3, 0, -28)]
theorem bk_Main_route_131_2_ok : bk_Main_route_131_2.all (am_ok 11 false m_Main_route.2.1) = true := by decide +kernel
theorem dc_Main_route_4 : decode m_Main_route.2.1 4 = .ok (.invokevirtual 136, 3) := by decide +kernel
theorem dc_Main_route_15 : decode m_Main_route.2.1 15 = .ok (.invokevirtual 169, 3) := by decide +kernel
theorem dc_Main_route_19 : decode m_Main_route.2.1 19 = .ok (.invokevirtual 143, 3) := by decide +kernel
theorem dc_Main_route_67 : decode m_Main_route.2.1 67 = .ok (.invokevirtual 173, 3) := by decide +kernel
theorem dc_Main_route_71 : decode m_Main_route.2.1 71 = .ok (.invokevirtual 162, 3) := by decide +kernel
theorem dc_Main_route_91 : decode m_Main_route.2.1 91 = .ok (.invokespecial 25, 3) := by decide +kernel
theorem dc_Main_route_100 : decode m_Main_route.2.1 100 = .ok (.invokevirtual 175, 3) := by decide +kernel
theorem dc_Main_route_85 : decode m_Main_route.2.1 85 = .ok (.new 23, 3) := by decide +kernel
theorem dc_Main_route_81 : decode m_Main_route.2.1 81 = .ok (.invokevirtual 108, 3) := by decide +kernel
theorem dc_Main_route_84 : decode m_Main_route.2.1 84 = .ok (.ireturn, 1) := by decide +kernel
theorem dc_Main_route_76 : decode m_Main_route.2.1 76 = .ok (.ifCond .eq 9, 3) := by decide +kernel
theorem dc_Main_route_44 : decode m_Main_route.2.1 44 = .ok (.invokevirtual 170, 3) := by decide +kernel
theorem dc_Main_route_49 : decode m_Main_route.2.1 49 = .ok (.if_icmp .gt 7, 3) := by decide +kernel
theorem dc_Main_route_37 : decode m_Main_route.2.1 37 = .ok (.if_icmp .ge 19, 3) := by decide +kernel
theorem dc_Main_route_27 : decode m_Main_route.2.1 27 = .ok (.invokevirtual 108, 3) := by decide +kernel
theorem dc_Main_route_30 : decode m_Main_route.2.1 30 = .ok (.ireturn, 1) := by decide +kernel
theorem dc_Main_route_22 : decode m_Main_route.2.1 22 = .ok (.ifCond .ne 9, 3) := by decide +kernel
theorem dc_Main_route_109 : decode m_Main_route.2.1 109 = .ok (.invokevirtual 170, 3) := by decide +kernel
theorem dc_Main_route_164 : decode m_Main_route.2.1 164 = .ok (.invokevirtual 119, 3) := by decide +kernel
theorem dc_Main_route_167 : decode m_Main_route.2.1 167 = .ok (.ireturn, 1) := by decide +kernel
theorem dc_Main_route_122 : decode m_Main_route.2.1 122 = .ok (.invokevirtual 179, 3) := by decide +kernel
theorem dc_Main_route_125 : decode m_Main_route.2.1 125 = .ok (.invokevirtual 182, 3) := by decide +kernel
theorem dc_Main_route_128 : decode m_Main_route.2.1 128 = .ok (.invokevirtual 186, 3) := by decide +kernel
theorem dc_Main_route_112 : decode m_Main_route.2.1 112 = .ok (.if_icmp .ge 25, 3) := by decide +kernel
set_option maxRecDepth 20000 in
theorem sg_Main_route_0 {kc ks : Nat} (a0 : Nat) (h : am_H) (Q : Option Value → am_H → Prop) (t : (am_tg h a0 = (11, 18) ∧ (∃ b1, am_P h a0 0 = some b1 ∧ (am_tg h b1 = (9, 4) ∧ (am_Ew m_Tape_rewind 0 0 [.ref b1] h (fun h5 => (am_tg h5 a0 = (11, 18) ∧ (∃ b6, am_P h5 a0 2 = some b6 ∧ (∃ b7, am_P h5 a0 0 = some b7 ∧ (am_tg h5 b6 = (4, 7) ∧ (am_Ew m_Route_readFrom 0 0 [.ref b6, .ref b7] h5 (fun h12 => (am_tg h12 a0 = (11, 18) ∧ (am_Ei m_Main_textWasRight 0 0 [.ref a0] h12 (fun r15 h14 => ((¬ r15 = 0 → (am_tg h14 a0 = (11, 18) ∧ ((8 ≤ (am_I h14 a0 14) → (∃ b19, am_P h14 a0 2 = some b19 ∧ (am_tg h14 b19 = (4, 7) ∧ (am_Ei m_Route_findFault 0 0 [.ref b19, .int (am_I h14 a0 12)] h14 (fun r23 h22 => (am_tg h22 a0 = (11, 18) ∧ (am_Ei m_Main_judge 0 0 [.ref a0, .int r23, .int 0] h22 (fun r26 h25 => ((r26 = 0 → (am_Ew m_Route_init 5 40 [.ref (am_sz h25), .int 8] (am_nw h25 4 7) (fun h28 => (am_tg h28 a0 = (11, 18) ∧ (∃ b29, am_P h28 a0 2 = some b29 ∧ (am_tg h28 (am_sz h25) = (4, 7) ∧ (am_Ew m_Route_copyFrom 0 0 [.ref (am_sz h25), .ref b29] h28 (fun h33 => am_EI m_Main_route kc ks 106 [.ref a0, .int 0, .int r26, .ref (am_sz h25), .int 0] [] h33 Q)))))))) ∧ (¬ r26 = 0 → (am_tg h25 a0 = (11, 18) ∧ (am_Ei m_Main_refuse 0 0 [.ref a0, .int r26] h25 (fun r36 h35 => Q (some (.int r36)) h35))))))))))))) ∧ (¬ 8 ≤ (am_I h14 a0 14) → (∃ b37, am_P h14 a0 2 = some b37 ∧ (am_tg h14 b37 = (4, 7) ∧ (am_Ei m_Route_stopCount 0 0 [.ref b37] h14 (fun r41 h40 => ((8 < r41 → (am_tg h40 a0 = (11, 18) ∧ (∃ b43, am_P h40 a0 2 = some b43 ∧ (am_tg h40 b43 = (4, 7) ∧ (am_Ei m_Route_findFault 0 0 [.ref b43, .int (am_I h40 a0 12)] h40 (fun r48 h47 => (am_tg h47 a0 = (11, 18) ∧ (am_Ei m_Main_judge 0 0 [.ref a0, .int r48, .int 0] h47 (fun r51 h50 => ((r51 = 0 → (am_Ew m_Route_init 5 40 [.ref (am_sz h50), .int 8] (am_nw h50 4 7) (fun h53 => (am_tg h53 a0 = (11, 18) ∧ (∃ b54, am_P h53 a0 2 = some b54 ∧ (am_tg h53 (am_sz h50) = (4, 7) ∧ (am_Ew m_Route_copyFrom 0 0 [.ref (am_sz h50), .ref b54] h53 (fun h58 => am_EI m_Main_route kc ks 106 [.ref a0, .int 0, .int r51, .ref (am_sz h50), .int 0] [] h58 Q)))))))) ∧ (¬ r51 = 0 → (am_tg h50 a0 = (11, 18) ∧ (am_Ei m_Main_refuse 0 0 [.ref a0, .int r51] h50 (fun r61 h60 => Q (some (.int r61)) h60)))))))))))))) ∧ (¬ 8 < r41 → (am_tg h40 a0 = (11, 18) ∧ (∃ b62, am_P h40 a0 2 = some b62 ∧ (am_tg h40 b62 = (4, 7) ∧ (am_Ei m_Route_findFault 0 0 [.ref b62, .int (am_I h40 a0 12)] h40 (fun r67 h66 => (am_tg h66 a0 = (11, 18) ∧ (am_Ei m_Main_judge 0 0 [.ref a0, .int r67, .int 1] h66 (fun r70 h69 => ((r70 = 0 → (am_Ew m_Route_init 5 40 [.ref (am_sz h69), .int 8] (am_nw h69 4 7) (fun h72 => (am_tg h72 a0 = (11, 18) ∧ (∃ b73, am_P h72 a0 2 = some b73 ∧ (am_tg h72 (am_sz h69) = (4, 7) ∧ (am_Ew m_Route_copyFrom 0 0 [.ref (am_sz h69), .ref b73] h72 (fun h77 => am_EI m_Main_route kc ks 106 [.ref a0, .int 1, .int r70, .ref (am_sz h69), .int 0] [] h77 Q)))))))) ∧ (¬ r70 = 0 → (am_tg h69 a0 = (11, 18) ∧ (am_Ei m_Main_refuse 0 0 [.ref a0, .int r70] h69 (fun r80 h79 => Q (some (.int r80)) h79))))))))))))))))))))))) ∧ (r15 = 0 → (am_tg h14 a0 = (11, 18) ∧ (am_Ei m_Main_refuse 0 0 [.ref a0, .int 2] h14 (fun r83 h82 => Q (some (.int r83)) h82)))))))))))))))))))) : am_EI m_Main_route (kc + 5 + 1) (ks + 40 + 7) 0 [.ref a0, .float 0, .float 0, .float 0, .float 0] [] h Q := by
  refine am_blk_ok (c := 11) (ini := false) (by decide) rfl (fun q => by cases q) bk_Main_route_0_2 _ 4 _ _ _ bk_Main_route_0_2_ok rfl ?_
  show (am_tg h a0 = (11, 18) ∧ (∃ b1, am_P h a0 0 = some b1 ∧ am_EI m_Main_route (kc + 5 + 1) (ks + 40 + 7) 4 [.ref a0, .float 0, .float 0, .float 0, .float 0] [.ref b1] h Q))
  obtain ⟨o2, b1, q3, t⟩ := t
  refine ⟨o2, b1, q3, ?_⟩
  obtain ⟨o4, t⟩ := t
  refine am_callV (M2 := m_Tape_rewind) (ci := 9) (a := b1) (kc := (kc + 5 + 1)) (ks := (ks + 40 + 7)) (k2c := 0) (k2s := 0) (as := []) [] dc_Main_route_4 lk_11_136 im_Tape_rewind se_Tape_rewind lm_Tape_rewind np_Tape_rewind ⟨Nat.le_of_ble_eq_true rfl, Nat.le_of_ble_eq_true rfl⟩ (fun _ => Nat.le_of_ble_eq_true rfl) (by decide) rfl o4 (am_Ew.end (am_Ew.mono t (fun h5 t => ?_)))
  refine am_blk_ok (c := 11) (ini := false) (by decide) rfl (fun q => by cases q) bk_Main_route_7_4 _ 15 _ _ _ bk_Main_route_7_4_ok rfl ?_
  show (am_tg h5 a0 = (11, 18) ∧ (∃ b6, am_P h5 a0 2 = some b6 ∧ (am_tg h5 a0 = (11, 18) ∧ (∃ b7, am_P h5 a0 0 = some b7 ∧ am_EI m_Main_route (kc + 5 + 1) (ks + 40 + 7) 15 [.ref a0, .float 0, .float 0, .float 0, .float 0] [.ref b7, .ref b6] h5 Q))))
  obtain ⟨o8, b6, q9, b7, q10, t⟩ := t
  refine ⟨o8, b6, q9, o8, b7, q10, ?_⟩
  obtain ⟨o11, t⟩ := t
  refine am_callV (M2 := m_Route_readFrom) (ci := 4) (a := b6) (kc := (kc + 5 + 1)) (ks := (ks + 40 + 7)) (k2c := 0) (k2s := 0) (as := []) [.ref b7] dc_Main_route_15 lk_11_169 im_Route_readFrom se_Route_readFrom lm_Route_readFrom np_Route_readFrom ⟨Nat.le_of_ble_eq_true rfl, Nat.le_of_ble_eq_true rfl⟩ (fun _ => Nat.le_of_ble_eq_true rfl) (by decide) rfl o11 (am_Ew.end (am_Ew.mono t (fun h12 t => ?_)))
  refine am_blk_ok (c := 11) (ini := false) (by decide) rfl (fun q => by cases q) bk_Main_route_18_1 _ 19 _ _ _ bk_Main_route_18_1_ok rfl ?_
  show am_EI m_Main_route (kc + 5 + 1) (ks + 40 + 7) 19 [.ref a0, .float 0, .float 0, .float 0, .float 0] [.ref a0] h12 Q
  obtain ⟨o13, t⟩ := t
  refine am_callV (M2 := m_Main_textWasRight) (ci := 11) (a := a0) (kc := (kc + 5 + 1)) (ks := (ks + 40 + 7)) (k2c := 0) (k2s := 0) (as := []) [] dc_Main_route_19 lk_11_143 im_Main_textWasRight se_Main_textWasRight lm_Main_textWasRight np_Main_textWasRight ⟨Nat.le_of_ble_eq_true rfl, Nat.le_of_ble_eq_true rfl⟩ (fun _ => Nat.le_of_ble_eq_true rfl) (by decide) rfl o13 (am_Ei.end (am_Ei.mono t (fun r15 h14 t => ?_)))
  refine am_if_ne (tgt := 31) dc_Main_route_22 (by decide) (fun c16 => ?_) (fun c16 => ?_)
  · replace t := t.1 c16
    refine am_blk_ok (c := 11) (ini := false) (by decide) rfl (fun q => by cases q) bk_Main_route_31_3 _ 37 _ _ _ bk_Main_route_31_3_ok rfl ?_
    show (am_tg h14 a0 = (11, 18) ∧ am_EI m_Main_route (kc + 5 + 1) (ks + 40 + 7) 37 [.ref a0, .float 0, .float 0, .float 0, .float 0] [.int 8, .int (am_I h14 a0 14)] h14 Q)
    obtain ⟨o17, t⟩ := t
    refine ⟨o17, ?_⟩
    refine am_ic_ge (tgt := 56) dc_Main_route_37 (by decide) (fun c18 => ?_) (fun c18 => ?_)
    · replace t := t.1 c18
      refine am_blk_ok (c := 11) (ini := false) (by decide) rfl (fun q => by cases q) bk_Main_route_56_7 _ 67 _ _ _ bk_Main_route_56_7_ok rfl ?_
      show (am_tg h14 a0 = (11, 18) ∧ (∃ b19, am_P h14 a0 2 = some b19 ∧ (am_tg h14 a0 = (11, 18) ∧ am_EI m_Main_route (kc + 5 + 1) (ks + 40 + 7) 67 [.ref a0, .int 0, .float 0, .float 0, .float 0] [.int (am_I h14 a0 12), .ref b19, .ref a0] h14 Q)))
      obtain ⟨b19, q20, t⟩ := t
      refine ⟨o17, b19, q20, o17, ?_⟩
      obtain ⟨o21, t⟩ := t
      refine am_callV (M2 := m_Route_findFault) (ci := 4) (a := b19) (kc := (kc + 5 + 1)) (ks := (ks + 40 + 7)) (k2c := 0) (k2s := 0) (as := [.ref a0]) [.int (am_I h14 a0 12)] dc_Main_route_67 lk_11_173 im_Route_findFault se_Route_findFault lm_Route_findFault np_Route_findFault ⟨Nat.le_of_ble_eq_true rfl, Nat.le_of_ble_eq_true rfl⟩ (fun _ => Nat.le_of_ble_eq_true rfl) (by decide) rfl o21 (am_Ei.end (am_Ei.mono t (fun r23 h22 t => ?_)))
      refine am_blk_ok (c := 11) (ini := false) (by decide) rfl (fun q => by cases q) bk_Main_route_70_1 _ 71 _ _ _ bk_Main_route_70_1_ok rfl ?_
      show am_EI m_Main_route (kc + 5 + 1) (ks + 40 + 7) 71 [.ref a0, .int 0, .float 0, .float 0, .float 0] [.int 0, .int r23, .ref a0] h22 Q
      obtain ⟨o24, t⟩ := t
      refine am_callV (M2 := m_Main_judge) (ci := 11) (a := a0) (kc := (kc + 5 + 1)) (ks := (ks + 40 + 7)) (k2c := 0) (k2s := 0) (as := []) [.int r23, .int 0] dc_Main_route_71 lk_11_162 im_Main_judge se_Main_judge lm_Main_judge np_Main_judge ⟨Nat.le_of_ble_eq_true rfl, Nat.le_of_ble_eq_true rfl⟩ (fun _ => Nat.le_of_ble_eq_true rfl) (by decide) rfl o24 (am_Ei.end (am_Ei.mono t (fun r26 h25 t => ?_)))
      refine am_blk_ok (c := 11) (ini := false) (by decide) rfl (fun q => by cases q) bk_Main_route_74_2 _ 76 _ _ _ bk_Main_route_74_2_ok rfl ?_
      show am_EI m_Main_route (kc + 5 + 1) (ks + 40 + 7) 76 [.ref a0, .int 0, .int r26, .float 0, .float 0] [.int r26] h25 Q
      refine am_if_eq (tgt := 85) dc_Main_route_76 (by decide) (fun c27 => ?_) (fun c27 => ?_)
      · replace t := t.1 c27
        refine am_new (kc := (kc + 5)) (ks := (ks + 40)) (ci := 4) dc_Main_route_85 (by decide) cl_11_23 in_4 ii_4 ?_
        refine am_blk_ok (c := 11) (ini := false) (by decide) rfl (fun q => by cases q) bk_Main_route_88_2 _ 91 _ _ _ bk_Main_route_88_2_ok rfl ?_
        show am_EI m_Main_route (kc + 5) (ks + 40) 91 [.ref a0, .int 0, .int r26, .float 0, .float 0] [.int 8, .ref (am_sz h25), .ref (am_sz h25)] (am_nw h25 4 7) Q
        refine am_callI (M2 := m_Route_init) (a := am_sz h25) (kc := kc) (ks := ks) (k2c := 5) (k2s := 40) (as := [.ref (am_sz h25)]) [.int 8] dc_Main_route_91 lk_11_25 im_Route_init rfl rfl lm_Route_init np_Route_init ⟨Nat.le_of_ble_eq_true rfl, Nat.le_of_ble_eq_true rfl⟩ (fun _ => Nat.le_of_ble_eq_true rfl) (am_Ew.end (am_Ew.mono t (fun h28 t => ?_)))
        refine am_blk_ok (c := 11) (ini := false) (by decide) rfl (fun q => by cases q) bk_Main_route_94_4 _ 100 _ _ _ bk_Main_route_94_4_ok rfl ?_
        show (am_tg h28 a0 = (11, 18) ∧ (∃ b29, am_P h28 a0 2 = some b29 ∧ am_EI m_Main_route kc ks 100 [.ref a0, .int 0, .int r26, .ref (am_sz h25), .float 0] [.ref b29, .ref (am_sz h25)] h28 Q))
        obtain ⟨o30, b29, q31, t⟩ := t
        refine ⟨o30, b29, q31, ?_⟩
        obtain ⟨o32, t⟩ := t
        refine am_callV (M2 := m_Route_copyFrom) (ci := 4) (a := am_sz h25) (kc := kc) (ks := ks) (k2c := 0) (k2s := 0) (as := []) [.ref b29] dc_Main_route_100 lk_11_175 im_Route_copyFrom se_Route_copyFrom lm_Route_copyFrom np_Route_copyFrom ⟨Nat.le_of_ble_eq_true rfl, Nat.le_of_ble_eq_true rfl⟩ (fun _ => Nat.le_of_ble_eq_true rfl) (by decide) rfl o32 (am_Ew.end (am_Ew.mono t (fun h33 t => ?_)))
        refine am_blk_ok (c := 11) (ini := false) (by decide) rfl (fun q => by cases q) bk_Main_route_103_2 _ 106 _ _ _ bk_Main_route_103_2_ok rfl ?_
        show am_EI m_Main_route kc ks 106 [.ref a0, .int 0, .int r26, .ref (am_sz h25), .int 0] [] h33 Q
        exact t
      · refine am_EI.more (kc := kc) (ks := ks) 6 47 ?_
        replace t := t.2 c27
        refine am_blk_ok (c := 11) (ini := false) (by decide) rfl (fun q => by cases q) bk_Main_route_79_2 _ 81 _ _ _ bk_Main_route_79_2_ok rfl ?_
        show am_EI m_Main_route kc ks 81 [.ref a0, .int 0, .int r26, .float 0, .float 0] [.int r26, .ref a0] h25 Q
        obtain ⟨o34, t⟩ := t
        refine am_callV (M2 := m_Main_refuse) (ci := 11) (a := a0) (kc := kc) (ks := ks) (k2c := 0) (k2s := 0) (as := []) [.int r26] dc_Main_route_81 lk_11_108 im_Main_refuse se_Main_refuse lm_Main_refuse np_Main_refuse ⟨Nat.le_of_ble_eq_true rfl, Nat.le_of_ble_eq_true rfl⟩ (fun _ => Nat.le_of_ble_eq_true rfl) (by decide) rfl o34 (am_Ei.end (am_Ei.mono t (fun r36 h35 t => ?_)))
        exact am_iret dc_Main_route_84 rfl t
    · replace t := t.2 c18
      refine am_blk_ok (c := 11) (ini := false) (by decide) rfl (fun q => by cases q) bk_Main_route_40_2 _ 44 _ _ _ bk_Main_route_40_2_ok rfl ?_
      show (am_tg h14 a0 = (11, 18) ∧ (∃ b37, am_P h14 a0 2 = some b37 ∧ am_EI m_Main_route (kc + 5 + 1) (ks + 40 + 7) 44 [.ref a0, .float 0, .float 0, .float 0, .float 0] [.ref b37] h14 Q))
      obtain ⟨b37, q38, t⟩ := t
      refine ⟨o17, b37, q38, ?_⟩
      obtain ⟨o39, t⟩ := t
      refine am_callV (M2 := m_Route_stopCount) (ci := 4) (a := b37) (kc := (kc + 5 + 1)) (ks := (ks + 40 + 7)) (k2c := 0) (k2s := 0) (as := []) [] dc_Main_route_44 lk_11_170 im_Route_stopCount se_Route_stopCount lm_Route_stopCount np_Route_stopCount ⟨Nat.le_of_ble_eq_true rfl, Nat.le_of_ble_eq_true rfl⟩ (fun _ => Nat.le_of_ble_eq_true rfl) (by decide) rfl o39 (am_Ei.end (am_Ei.mono t (fun r41 h40 t => ?_)))
      refine am_blk_ok (c := 11) (ini := false) (by decide) rfl (fun q => by cases q) bk_Main_route_47_1 _ 49 _ _ _ bk_Main_route_47_1_ok rfl ?_
      show am_EI m_Main_route (kc + 5 + 1) (ks + 40 + 7) 49 [.ref a0, .float 0, .float 0, .float 0, .float 0] [.int 8, .int r41] h40 Q
      refine am_ic_gt (tgt := 56) dc_Main_route_49 (by decide) (fun c42 => ?_) (fun c42 => ?_)
      · replace t := t.1 c42
        refine am_blk_ok (c := 11) (ini := false) (by decide) rfl (fun q => by cases q) bk_Main_route_56_7 _ 67 _ _ _ bk_Main_route_56_7_ok rfl ?_
        show (am_tg h40 a0 = (11, 18) ∧ (∃ b43, am_P h40 a0 2 = some b43 ∧ (am_tg h40 a0 = (11, 18) ∧ am_EI m_Main_route (kc + 5 + 1) (ks + 40 + 7) 67 [.ref a0, .int 0, .float 0, .float 0, .float 0] [.int (am_I h40 a0 12), .ref b43, .ref a0] h40 Q)))
        obtain ⟨o44, b43, q45, t⟩ := t
        refine ⟨o44, b43, q45, o44, ?_⟩
        obtain ⟨o46, t⟩ := t
        refine am_callV (M2 := m_Route_findFault) (ci := 4) (a := b43) (kc := (kc + 5 + 1)) (ks := (ks + 40 + 7)) (k2c := 0) (k2s := 0) (as := [.ref a0]) [.int (am_I h40 a0 12)] dc_Main_route_67 lk_11_173 im_Route_findFault se_Route_findFault lm_Route_findFault np_Route_findFault ⟨Nat.le_of_ble_eq_true rfl, Nat.le_of_ble_eq_true rfl⟩ (fun _ => Nat.le_of_ble_eq_true rfl) (by decide) rfl o46 (am_Ei.end (am_Ei.mono t (fun r48 h47 t => ?_)))
        refine am_blk_ok (c := 11) (ini := false) (by decide) rfl (fun q => by cases q) bk_Main_route_70_1 _ 71 _ _ _ bk_Main_route_70_1_ok rfl ?_
        show am_EI m_Main_route (kc + 5 + 1) (ks + 40 + 7) 71 [.ref a0, .int 0, .float 0, .float 0, .float 0] [.int 0, .int r48, .ref a0] h47 Q
        obtain ⟨o49, t⟩ := t
        refine am_callV (M2 := m_Main_judge) (ci := 11) (a := a0) (kc := (kc + 5 + 1)) (ks := (ks + 40 + 7)) (k2c := 0) (k2s := 0) (as := []) [.int r48, .int 0] dc_Main_route_71 lk_11_162 im_Main_judge se_Main_judge lm_Main_judge np_Main_judge ⟨Nat.le_of_ble_eq_true rfl, Nat.le_of_ble_eq_true rfl⟩ (fun _ => Nat.le_of_ble_eq_true rfl) (by decide) rfl o49 (am_Ei.end (am_Ei.mono t (fun r51 h50 t => ?_)))
        refine am_blk_ok (c := 11) (ini := false) (by decide) rfl (fun q => by cases q) bk_Main_route_74_2 _ 76 _ _ _ bk_Main_route_74_2_ok rfl ?_
        show am_EI m_Main_route (kc + 5 + 1) (ks + 40 + 7) 76 [.ref a0, .int 0, .int r51, .float 0, .float 0] [.int r51] h50 Q
        refine am_if_eq (tgt := 85) dc_Main_route_76 (by decide) (fun c52 => ?_) (fun c52 => ?_)
        · replace t := t.1 c52
          refine am_new (kc := (kc + 5)) (ks := (ks + 40)) (ci := 4) dc_Main_route_85 (by decide) cl_11_23 in_4 ii_4 ?_
          refine am_blk_ok (c := 11) (ini := false) (by decide) rfl (fun q => by cases q) bk_Main_route_88_2 _ 91 _ _ _ bk_Main_route_88_2_ok rfl ?_
          show am_EI m_Main_route (kc + 5) (ks + 40) 91 [.ref a0, .int 0, .int r51, .float 0, .float 0] [.int 8, .ref (am_sz h50), .ref (am_sz h50)] (am_nw h50 4 7) Q
          refine am_callI (M2 := m_Route_init) (a := am_sz h50) (kc := kc) (ks := ks) (k2c := 5) (k2s := 40) (as := [.ref (am_sz h50)]) [.int 8] dc_Main_route_91 lk_11_25 im_Route_init rfl rfl lm_Route_init np_Route_init ⟨Nat.le_of_ble_eq_true rfl, Nat.le_of_ble_eq_true rfl⟩ (fun _ => Nat.le_of_ble_eq_true rfl) (am_Ew.end (am_Ew.mono t (fun h53 t => ?_)))
          refine am_blk_ok (c := 11) (ini := false) (by decide) rfl (fun q => by cases q) bk_Main_route_94_4 _ 100 _ _ _ bk_Main_route_94_4_ok rfl ?_
          show (am_tg h53 a0 = (11, 18) ∧ (∃ b54, am_P h53 a0 2 = some b54 ∧ am_EI m_Main_route kc ks 100 [.ref a0, .int 0, .int r51, .ref (am_sz h50), .float 0] [.ref b54, .ref (am_sz h50)] h53 Q))
          obtain ⟨o55, b54, q56, t⟩ := t
          refine ⟨o55, b54, q56, ?_⟩
          obtain ⟨o57, t⟩ := t
          refine am_callV (M2 := m_Route_copyFrom) (ci := 4) (a := am_sz h50) (kc := kc) (ks := ks) (k2c := 0) (k2s := 0) (as := []) [.ref b54] dc_Main_route_100 lk_11_175 im_Route_copyFrom se_Route_copyFrom lm_Route_copyFrom np_Route_copyFrom ⟨Nat.le_of_ble_eq_true rfl, Nat.le_of_ble_eq_true rfl⟩ (fun _ => Nat.le_of_ble_eq_true rfl) (by decide) rfl o57 (am_Ew.end (am_Ew.mono t (fun h58 t => ?_)))
          refine am_blk_ok (c := 11) (ini := false) (by decide) rfl (fun q => by cases q) bk_Main_route_103_2 _ 106 _ _ _ bk_Main_route_103_2_ok rfl ?_
          show am_EI m_Main_route kc ks 106 [.ref a0, .int 0, .int r51, .ref (am_sz h50), .int 0] [] h58 Q
          exact t
        · refine am_EI.more (kc := kc) (ks := ks) 6 47 ?_
          replace t := t.2 c52
          refine am_blk_ok (c := 11) (ini := false) (by decide) rfl (fun q => by cases q) bk_Main_route_79_2 _ 81 _ _ _ bk_Main_route_79_2_ok rfl ?_
          show am_EI m_Main_route kc ks 81 [.ref a0, .int 0, .int r51, .float 0, .float 0] [.int r51, .ref a0] h50 Q
          obtain ⟨o59, t⟩ := t
          refine am_callV (M2 := m_Main_refuse) (ci := 11) (a := a0) (kc := kc) (ks := ks) (k2c := 0) (k2s := 0) (as := []) [.int r51] dc_Main_route_81 lk_11_108 im_Main_refuse se_Main_refuse lm_Main_refuse np_Main_refuse ⟨Nat.le_of_ble_eq_true rfl, Nat.le_of_ble_eq_true rfl⟩ (fun _ => Nat.le_of_ble_eq_true rfl) (by decide) rfl o59 (am_Ei.end (am_Ei.mono t (fun r61 h60 t => ?_)))
          exact am_iret dc_Main_route_84 rfl t
      · replace t := t.2 c42
        refine am_blk_ok (c := 11) (ini := false) (by decide) rfl (fun q => by cases q) bk_Main_route_52_8 _ 67 _ _ _ bk_Main_route_52_8_ok rfl ?_
        show (am_tg h40 a0 = (11, 18) ∧ (∃ b62, am_P h40 a0 2 = some b62 ∧ (am_tg h40 a0 = (11, 18) ∧ am_EI m_Main_route (kc + 5 + 1) (ks + 40 + 7) 67 [.ref a0, .int 1, .float 0, .float 0, .float 0] [.int (am_I h40 a0 12), .ref b62, .ref a0] h40 Q)))
        obtain ⟨o63, b62, q64, t⟩ := t
        refine ⟨o63, b62, q64, o63, ?_⟩
        obtain ⟨o65, t⟩ := t
        refine am_callV (M2 := m_Route_findFault) (ci := 4) (a := b62) (kc := (kc + 5 + 1)) (ks := (ks + 40 + 7)) (k2c := 0) (k2s := 0) (as := [.ref a0]) [.int (am_I h40 a0 12)] dc_Main_route_67 lk_11_173 im_Route_findFault se_Route_findFault lm_Route_findFault np_Route_findFault ⟨Nat.le_of_ble_eq_true rfl, Nat.le_of_ble_eq_true rfl⟩ (fun _ => Nat.le_of_ble_eq_true rfl) (by decide) rfl o65 (am_Ei.end (am_Ei.mono t (fun r67 h66 t => ?_)))
        refine am_blk_ok (c := 11) (ini := false) (by decide) rfl (fun q => by cases q) bk_Main_route_70_1 _ 71 _ _ _ bk_Main_route_70_1_ok rfl ?_
        show am_EI m_Main_route (kc + 5 + 1) (ks + 40 + 7) 71 [.ref a0, .int 1, .float 0, .float 0, .float 0] [.int 1, .int r67, .ref a0] h66 Q
        obtain ⟨o68, t⟩ := t
        refine am_callV (M2 := m_Main_judge) (ci := 11) (a := a0) (kc := (kc + 5 + 1)) (ks := (ks + 40 + 7)) (k2c := 0) (k2s := 0) (as := []) [.int r67, .int 1] dc_Main_route_71 lk_11_162 im_Main_judge se_Main_judge lm_Main_judge np_Main_judge ⟨Nat.le_of_ble_eq_true rfl, Nat.le_of_ble_eq_true rfl⟩ (fun _ => Nat.le_of_ble_eq_true rfl) (by decide) rfl o68 (am_Ei.end (am_Ei.mono t (fun r70 h69 t => ?_)))
        refine am_blk_ok (c := 11) (ini := false) (by decide) rfl (fun q => by cases q) bk_Main_route_74_2 _ 76 _ _ _ bk_Main_route_74_2_ok rfl ?_
        show am_EI m_Main_route (kc + 5 + 1) (ks + 40 + 7) 76 [.ref a0, .int 1, .int r70, .float 0, .float 0] [.int r70] h69 Q
        refine am_if_eq (tgt := 85) dc_Main_route_76 (by decide) (fun c71 => ?_) (fun c71 => ?_)
        · replace t := t.1 c71
          refine am_new (kc := (kc + 5)) (ks := (ks + 40)) (ci := 4) dc_Main_route_85 (by decide) cl_11_23 in_4 ii_4 ?_
          refine am_blk_ok (c := 11) (ini := false) (by decide) rfl (fun q => by cases q) bk_Main_route_88_2 _ 91 _ _ _ bk_Main_route_88_2_ok rfl ?_
          show am_EI m_Main_route (kc + 5) (ks + 40) 91 [.ref a0, .int 1, .int r70, .float 0, .float 0] [.int 8, .ref (am_sz h69), .ref (am_sz h69)] (am_nw h69 4 7) Q
          refine am_callI (M2 := m_Route_init) (a := am_sz h69) (kc := kc) (ks := ks) (k2c := 5) (k2s := 40) (as := [.ref (am_sz h69)]) [.int 8] dc_Main_route_91 lk_11_25 im_Route_init rfl rfl lm_Route_init np_Route_init ⟨Nat.le_of_ble_eq_true rfl, Nat.le_of_ble_eq_true rfl⟩ (fun _ => Nat.le_of_ble_eq_true rfl) (am_Ew.end (am_Ew.mono t (fun h72 t => ?_)))
          refine am_blk_ok (c := 11) (ini := false) (by decide) rfl (fun q => by cases q) bk_Main_route_94_4 _ 100 _ _ _ bk_Main_route_94_4_ok rfl ?_
          show (am_tg h72 a0 = (11, 18) ∧ (∃ b73, am_P h72 a0 2 = some b73 ∧ am_EI m_Main_route kc ks 100 [.ref a0, .int 1, .int r70, .ref (am_sz h69), .float 0] [.ref b73, .ref (am_sz h69)] h72 Q))
          obtain ⟨o74, b73, q75, t⟩ := t
          refine ⟨o74, b73, q75, ?_⟩
          obtain ⟨o76, t⟩ := t
          refine am_callV (M2 := m_Route_copyFrom) (ci := 4) (a := am_sz h69) (kc := kc) (ks := ks) (k2c := 0) (k2s := 0) (as := []) [.ref b73] dc_Main_route_100 lk_11_175 im_Route_copyFrom se_Route_copyFrom lm_Route_copyFrom np_Route_copyFrom ⟨Nat.le_of_ble_eq_true rfl, Nat.le_of_ble_eq_true rfl⟩ (fun _ => Nat.le_of_ble_eq_true rfl) (by decide) rfl o76 (am_Ew.end (am_Ew.mono t (fun h77 t => ?_)))
          refine am_blk_ok (c := 11) (ini := false) (by decide) rfl (fun q => by cases q) bk_Main_route_103_2 _ 106 _ _ _ bk_Main_route_103_2_ok rfl ?_
          show am_EI m_Main_route kc ks 106 [.ref a0, .int 1, .int r70, .ref (am_sz h69), .int 0] [] h77 Q
          exact t
        · refine am_EI.more (kc := kc) (ks := ks) 6 47 ?_
          replace t := t.2 c71
          refine am_blk_ok (c := 11) (ini := false) (by decide) rfl (fun q => by cases q) bk_Main_route_79_2 _ 81 _ _ _ bk_Main_route_79_2_ok rfl ?_
          show am_EI m_Main_route kc ks 81 [.ref a0, .int 1, .int r70, .float 0, .float 0] [.int r70, .ref a0] h69 Q
          obtain ⟨o78, t⟩ := t
          refine am_callV (M2 := m_Main_refuse) (ci := 11) (a := a0) (kc := kc) (ks := ks) (k2c := 0) (k2s := 0) (as := []) [.int r70] dc_Main_route_81 lk_11_108 im_Main_refuse se_Main_refuse lm_Main_refuse np_Main_refuse ⟨Nat.le_of_ble_eq_true rfl, Nat.le_of_ble_eq_true rfl⟩ (fun _ => Nat.le_of_ble_eq_true rfl) (by decide) rfl o78 (am_Ei.end (am_Ei.mono t (fun r80 h79 t => ?_)))
          exact am_iret dc_Main_route_84 rfl t
  · refine am_EI.more (kc := kc) (ks := ks) 6 47 ?_
    replace t := t.2 c16
    refine am_blk_ok (c := 11) (ini := false) (by decide) rfl (fun q => by cases q) bk_Main_route_25_2 _ 27 _ _ _ bk_Main_route_25_2_ok rfl ?_
    show am_EI m_Main_route kc ks 27 [.ref a0, .float 0, .float 0, .float 0, .float 0] [.int 2, .ref a0] h14 Q
    obtain ⟨o81, t⟩ := t
    refine am_callV (M2 := m_Main_refuse) (ci := 11) (a := a0) (kc := kc) (ks := ks) (k2c := 0) (k2s := 0) (as := []) [.int 2] dc_Main_route_27 lk_11_108 im_Main_refuse se_Main_refuse lm_Main_refuse np_Main_refuse ⟨Nat.le_of_ble_eq_true rfl, Nat.le_of_ble_eq_true rfl⟩ (fun _ => Nat.le_of_ble_eq_true rfl) (by decide) rfl o81 (am_Ei.end (am_Ei.mono t (fun r83 h82 t => ?_)))
    exact am_iret dc_Main_route_30 rfl t
set_option maxRecDepth 20000 in
theorem ev_Main_route (a0 : Nat) (h : am_H) (Q : Int32 → am_H → Prop) (t : (am_tg h a0 = (11, 18) ∧ (∃ b1, am_P h a0 0 = some b1 ∧ (am_tg h b1 = (9, 4) ∧ (am_Ew m_Tape_rewind 0 0 [.ref b1] h (fun h5 => (am_tg h5 a0 = (11, 18) ∧ (∃ b6, am_P h5 a0 2 = some b6 ∧ (∃ b7, am_P h5 a0 0 = some b7 ∧ (am_tg h5 b6 = (4, 7) ∧ (am_Ew m_Route_readFrom 0 0 [.ref b6, .ref b7] h5 (fun h12 => (am_tg h12 a0 = (11, 18) ∧ (am_Ei m_Main_textWasRight 0 0 [.ref a0] h12 (fun r15 h14 => ((¬ r15 = 0 → (am_tg h14 a0 = (11, 18) ∧ ((8 ≤ (am_I h14 a0 14) → (∃ b19, am_P h14 a0 2 = some b19 ∧ (am_tg h14 b19 = (4, 7) ∧ (am_Ei m_Route_findFault 0 0 [.ref b19, .int (am_I h14 a0 12)] h14 (fun r23 h22 => (am_tg h22 a0 = (11, 18) ∧ (am_Ei m_Main_judge 0 0 [.ref a0, .int r23, .int 0] h22 (fun r26 h25 => ((r26 = 0 → (am_Ew m_Route_init 5 40 [.ref (am_sz h25), .int 8] (am_nw h25 4 7) (fun h28 => (am_tg h28 a0 = (11, 18) ∧ (∃ b29, am_P h28 a0 2 = some b29 ∧ (am_tg h28 (am_sz h25) = (4, 7) ∧ (am_Ew m_Route_copyFrom 0 0 [.ref (am_sz h25), .ref b29] h28 (fun h33 => am_EI m_Main_route 0 0 106 [.ref a0, .int 0, .int r26, .ref (am_sz h25), .int 0] [] h33 (am_qi Q))))))))) ∧ (¬ r26 = 0 → (am_tg h25 a0 = (11, 18) ∧ (am_Ei m_Main_refuse 0 0 [.ref a0, .int r26] h25 (fun r36 h35 => Q r36 h35))))))))))))) ∧ (¬ 8 ≤ (am_I h14 a0 14) → (∃ b37, am_P h14 a0 2 = some b37 ∧ (am_tg h14 b37 = (4, 7) ∧ (am_Ei m_Route_stopCount 0 0 [.ref b37] h14 (fun r41 h40 => ((8 < r41 → (am_tg h40 a0 = (11, 18) ∧ (∃ b43, am_P h40 a0 2 = some b43 ∧ (am_tg h40 b43 = (4, 7) ∧ (am_Ei m_Route_findFault 0 0 [.ref b43, .int (am_I h40 a0 12)] h40 (fun r48 h47 => (am_tg h47 a0 = (11, 18) ∧ (am_Ei m_Main_judge 0 0 [.ref a0, .int r48, .int 0] h47 (fun r51 h50 => ((r51 = 0 → (am_Ew m_Route_init 5 40 [.ref (am_sz h50), .int 8] (am_nw h50 4 7) (fun h53 => (am_tg h53 a0 = (11, 18) ∧ (∃ b54, am_P h53 a0 2 = some b54 ∧ (am_tg h53 (am_sz h50) = (4, 7) ∧ (am_Ew m_Route_copyFrom 0 0 [.ref (am_sz h50), .ref b54] h53 (fun h58 => am_EI m_Main_route 0 0 106 [.ref a0, .int 0, .int r51, .ref (am_sz h50), .int 0] [] h58 (am_qi Q))))))))) ∧ (¬ r51 = 0 → (am_tg h50 a0 = (11, 18) ∧ (am_Ei m_Main_refuse 0 0 [.ref a0, .int r51] h50 (fun r61 h60 => Q r61 h60)))))))))))))) ∧ (¬ 8 < r41 → (am_tg h40 a0 = (11, 18) ∧ (∃ b62, am_P h40 a0 2 = some b62 ∧ (am_tg h40 b62 = (4, 7) ∧ (am_Ei m_Route_findFault 0 0 [.ref b62, .int (am_I h40 a0 12)] h40 (fun r67 h66 => (am_tg h66 a0 = (11, 18) ∧ (am_Ei m_Main_judge 0 0 [.ref a0, .int r67, .int 1] h66 (fun r70 h69 => ((r70 = 0 → (am_Ew m_Route_init 5 40 [.ref (am_sz h69), .int 8] (am_nw h69 4 7) (fun h72 => (am_tg h72 a0 = (11, 18) ∧ (∃ b73, am_P h72 a0 2 = some b73 ∧ (am_tg h72 (am_sz h69) = (4, 7) ∧ (am_Ew m_Route_copyFrom 0 0 [.ref (am_sz h69), .ref b73] h72 (fun h77 => am_EI m_Main_route 0 0 106 [.ref a0, .int 1, .int r70, .ref (am_sz h69), .int 0] [] h77 (am_qi Q))))))))) ∧ (¬ r70 = 0 → (am_tg h69 a0 = (11, 18) ∧ (am_Ei m_Main_refuse 0 0 [.ref a0, .int r70] h69 (fun r80 h79 => Q r80 h79))))))))))))))))))))))) ∧ (r15 = 0 → (am_tg h14 a0 = (11, 18) ∧ (am_Ei m_Main_refuse 0 0 [.ref a0, .int 2] h14 (fun r83 h82 => Q r83 h82)))))))))))))))))))) : am_Ei m_Main_route (0 + 5 + 1) (0 + 40 + 7) [.ref a0] h Q :=
  am_Ev.of (by decide +kernel) (Nat.le_of_ble_eq_true rfl) (by simp only [List.mem_cons, List.not_mem_nil, or_false]; intro v hv; rcases hv with rfl; all_goals first | exact trivial) (sg_Main_route_0 (kc := 0) (ks := 0) a0 h (am_qi Q) t)
set_option maxRecDepth 20000 in
theorem sg_Main_route_106 {kc ks : Nat} (a0 a3 : Nat) (x1 x2 x4 : Int32) (h : am_H) (Q : Option Value → am_H → Prop) (t : (am_tg h a3 = (4, 7) ∧ (am_Ei m_Route_stopCount 0 0 [.ref a3] h (fun r3 h2 => ((r3 ≤ x4 → (am_tg h2 a0 = (11, 18) ∧ (∃ b5, am_P h2 a0 6 = some b5 ∧ (am_tg h2 a3 = (4, (am_tg h2 a3).2) ∧ ((am_tg h2 b5).1 = 30 + 4 ∧ (vp_in (am_I h2 a0 14) (am_tg h2 b5).2 ∧ (am_Ei m_Main_answer 0 0 [.ref a0, .int ((am_I (am_si (am_sp h2 b5 ((am_I h2 a0 14).toNatClampNeg) (some a3)) a0 14 ((am_I h2 a0 14) + 1)) a0 14) - 1)] (am_si (am_sp h2 b5 ((am_I h2 a0 14).toNatClampNeg) (some a3)) a0 14 ((am_I h2 a0 14) + 1)) (fun r12 h11 => Q (some (.int r12)) h11)))))))) ∧ (¬ r3 ≤ x4 → (am_tg h2 a3 = (4, 7) ∧ (am_Ei m_Route_sillNumberOf 0 0 [.ref a3, .int x4] h2 (fun r15 h14 => (am_tg h14 a0 = (11, 18) ∧ (am_Er m_Main_sillAt 0 0 [.ref a0, .int r15] h14 (fun r18 h17 => (r18 = none → (am_tg h17 a3 = (4, 7) ∧ (am_Ew m_Route_setSill 0 0 [.ref a3, .int x4, .null] h17 (fun h22 => am_EI m_Main_route kc ks 106 [.ref a0, .int x1, .int x2, .ref a3, .int (x4 + 1)] [] h22 Q)))) ∧ ∀ b19, r18 = some b19 → (am_tg h17 a3 = (4, 7) ∧ (am_Ew m_Route_setSill 0 0 [.ref a3, .int x4, .ref b19] h17 (fun h24 => am_EI m_Main_route kc ks 106 [.ref a0, .int x1, .int x2, .ref a3, .int (x4 + 1)] [] h24 Q))))))))))))))) : am_EI m_Main_route kc ks 106 [.ref a0, .int x1, .int x2, .ref a3, .int x4] [] h Q := by
  refine am_blk_ok (c := 11) (ini := false) (by decide) rfl (fun q => by cases q) bk_Main_route_106_2 _ 109 _ _ _ bk_Main_route_106_2_ok rfl ?_
  show am_EI m_Main_route kc ks 109 [.ref a0, .int x1, .int x2, .ref a3, .int x4] [.ref a3, .int x4] h Q
  obtain ⟨o1, t⟩ := t
  refine am_callV (M2 := m_Route_stopCount) (ci := 4) (a := a3) (kc := kc) (ks := ks) (k2c := 0) (k2s := 0) (as := [.int x4]) [] dc_Main_route_109 lk_11_170 im_Route_stopCount se_Route_stopCount lm_Route_stopCount np_Route_stopCount ⟨Nat.le_of_ble_eq_true rfl, Nat.le_of_ble_eq_true rfl⟩ (fun _ => Nat.le_of_ble_eq_true rfl) (by decide) rfl o1 (am_Ei.end (am_Ei.mono t (fun r3 h2 t => ?_)))
  refine am_ic_ge (tgt := 137) dc_Main_route_112 (by decide) (fun c4 => ?_) (fun c4 => ?_)
  · replace t := t.1 c4
    refine am_blk_ok (c := 11) (ini := false) (by decide) rfl (fun q => by cases q) bk_Main_route_137_17 _ 164 _ _ _ bk_Main_route_137_17_ok rfl ?_
    show (am_tg h2 a0 = (11, 18) ∧ (∃ b5, am_P h2 a0 6 = some b5 ∧ (am_tg h2 a0 = (11, 18) ∧ (am_tg h2 a3 = (4, (am_tg h2 a3).2) ∧ ((am_tg h2 b5).1 = 30 + 4 ∧ ((4 = 2 ∨ 4 = 4 ∨ 4 = 6 ∨ 4 = 7 ∨ 4 = 8) ∧ (vp_in (am_I h2 a0 14) (am_tg h2 b5).2 ∧ (am_tg h2 a0 = (11, 18) ∧ (am_tg h2 a0 = (11, 18) ∧ (am_tg h2 a0 = (11, 18) ∧ am_EI m_Main_route kc ks 164 [.ref a0, .int x1, .int x2, .ref a3, .int x4] [.int ((am_I (am_si (am_sp h2 b5 ((am_I h2 a0 14).toNatClampNeg) (some a3)) a0 14 ((am_I h2 a0 14) + 1)) a0 14) - 1), .ref a0] (am_si (am_sp h2 b5 ((am_I h2 a0 14).toNatClampNeg) (some a3)) a0 14 ((am_I h2 a0 14) + 1)) Q))))))))))
    obtain ⟨o6, b5, q7, o8, o9, o10, t⟩ := t
    refine ⟨o6, b5, q7, o6, o8, o9, (by decide), o10, o6, o6, o6, ?_⟩
    refine am_callV (M2 := m_Main_answer) (ci := 11) (a := a0) (kc := kc) (ks := ks) (k2c := 0) (k2s := 0) (as := []) [.int ((am_I (am_si (am_sp h2 b5 ((am_I h2 a0 14).toNatClampNeg) (some a3)) a0 14 ((am_I h2 a0 14) + 1)) a0 14) - 1)] dc_Main_route_164 lk_11_119 im_Main_answer se_Main_answer lm_Main_answer np_Main_answer ⟨Nat.le_of_ble_eq_true rfl, Nat.le_of_ble_eq_true rfl⟩ (fun _ => Nat.le_of_ble_eq_true rfl) (by decide) rfl o6 (am_Ei.end (am_Ei.mono t (fun r12 h11 t => ?_)))
    exact am_iret dc_Main_route_167 rfl t
  · replace t := t.2 c4
    refine am_blk_ok (c := 11) (ini := false) (by decide) rfl (fun q => by cases q) bk_Main_route_115_5 _ 122 _ _ _ bk_Main_route_115_5_ok rfl ?_
    show am_EI m_Main_route kc ks 122 [.ref a0, .int x1, .int x2, .ref a3, .int x4] [.int x4, .ref a3, .ref a0, .int x4, .ref a3] h2 Q
    obtain ⟨o13, t⟩ := t
    refine am_callV (M2 := m_Route_sillNumberOf) (ci := 4) (a := a3) (kc := kc) (ks := ks) (k2c := 0) (k2s := 0) (as := [.ref a0, .int x4, .ref a3]) [.int x4] dc_Main_route_122 lk_11_179 im_Route_sillNumberOf se_Route_sillNumberOf lm_Route_sillNumberOf np_Route_sillNumberOf ⟨Nat.le_of_ble_eq_true rfl, Nat.le_of_ble_eq_true rfl⟩ (fun _ => Nat.le_of_ble_eq_true rfl) (by decide) rfl o13 (am_Ei.end (am_Ei.mono t (fun r15 h14 t => ?_)))
    obtain ⟨o16, t⟩ := t
    refine am_callV (M2 := m_Main_sillAt) (ci := 11) (a := a0) (kc := kc) (ks := ks) (k2c := 0) (k2s := 0) (as := [.int x4, .ref a3]) [.int r15] dc_Main_route_125 lk_11_182 im_Main_sillAt se_Main_sillAt lm_Main_sillAt np_Main_sillAt ⟨Nat.le_of_ble_eq_true rfl, Nat.le_of_ble_eq_true rfl⟩ (fun _ => Nat.le_of_ble_eq_true rfl) (by decide) rfl o16 (am_Er.end (am_Er.mono t (fun r18 h17 t => ⟨fun c20 => ?_, fun b19 c20 => ?_⟩)))
    · replace t := t.1 c20
      obtain ⟨o21, t⟩ := t
      refine am_callV (M2 := m_Route_setSill) (ci := 4) (a := a3) (kc := kc) (ks := ks) (k2c := 0) (k2s := 0) (as := []) [.int x4, .null] dc_Main_route_128 lk_11_186 im_Route_setSill se_Route_setSill lm_Route_setSill np_Route_setSill ⟨Nat.le_of_ble_eq_true rfl, Nat.le_of_ble_eq_true rfl⟩ (fun _ => Nat.le_of_ble_eq_true rfl) (by decide) rfl o21 (am_Ew.end (am_Ew.mono t (fun h22 t => ?_)))
      refine am_blk_ok (c := 11) (ini := false) (by decide) rfl (fun q => by cases q) bk_Main_route_131_2 _ 106 _ _ _ bk_Main_route_131_2_ok rfl ?_
      show am_EI m_Main_route kc ks 106 [.ref a0, .int x1, .int x2, .ref a3, .int (x4 + 1)] [] h22 Q
      exact t
    · replace t := t.2 b19 c20
      obtain ⟨o23, t⟩ := t
      refine am_callV (M2 := m_Route_setSill) (ci := 4) (a := a3) (kc := kc) (ks := ks) (k2c := 0) (k2s := 0) (as := []) [.int x4, .ref b19] dc_Main_route_128 lk_11_186 im_Route_setSill se_Route_setSill lm_Route_setSill np_Route_setSill ⟨Nat.le_of_ble_eq_true rfl, Nat.le_of_ble_eq_true rfl⟩ (fun _ => Nat.le_of_ble_eq_true rfl) (by decide) rfl o23 (am_Ew.end (am_Ew.mono t (fun h24 t => ?_)))
      refine am_blk_ok (c := 11) (ini := false) (by decide) rfl (fun q => by cases q) bk_Main_route_131_2 _ 106 _ _ _ bk_Main_route_131_2_ok rfl ?_
      show am_EI m_Main_route kc ks 106 [.ref a0, .int x1, .int x2, .ref a3, .int (x4 + 1)] [] h24 Q
      exact t
def bk_Main_routeAt_0_1 : List am_E := [(0, .iload_n 1, 1, 0, 0)]
theorem bk_Main_routeAt_0_1_ok : bk_Main_routeAt_0_1.all (am_ok 11 false m_Main_routeAt.2.1) = true := by decide +kernel
def bk_Main_routeAt_27_1 : List am_E := [(27, .aconst_null, 1, 0, 0)]
theorem bk_Main_routeAt_27_1_ok : bk_Main_routeAt_27_1.all (am_ok 11 false m_Main_routeAt.2.1) = true := by decide +kernel
def bk_Main_routeAt_4_3 : List am_E := [(4, .iload_n 1, 1, 0, 0), (5, .aload_n 0, 1, 0, 0), (6, .getfield 92, 3, 4456, 0)]
theorem bk_Main_routeAt_4_3_ok : bk_Main_routeAt_4_3.all (am_ok 11 false m_Main_routeAt.2.1) = true := by decide +kernel
def bk_Main_routeAt_12_2 : List am_E := [(12, .iload_n 1, 1, 0, 0), (13, .bipush 8, 2, 0, 8)]
theorem bk_Main_routeAt_12_2_ok : bk_Main_routeAt_12_2.all (am_ok 11 false m_Main_routeAt.2.1) = true := by decide +kernel
def bk_Main_routeAt_18_5 : List am_E := [(18, .aload_n 0, 1, 0, 0), (19, .getfield 50, 3, 4425, 0), (22, .iload_n 1, 1, 0, 0), (23, .aaload, 1, 34, 0), (24, .goto 4, 3, 0, 4)]
theorem bk_Main_routeAt_18_5_ok : bk_Main_routeAt_18_5.all (am_ok 11 false m_Main_routeAt.2.1) = true := by decide +kernel
theorem dc_Main_routeAt_28 : decode m_Main_routeAt.2.1 28 = .ok (.areturn, 1) := by decide +kernel
theorem dc_Main_routeAt_15 : decode m_Main_routeAt.2.1 15 = .ok (.if_icmp .ge 12, 3) := by decide +kernel
theorem dc_Main_routeAt_9 : decode m_Main_routeAt.2.1 9 = .ok (.if_icmp .ge 18, 3) := by decide +kernel
theorem dc_Main_routeAt_1 : decode m_Main_routeAt.2.1 1 = .ok (.ifCond .lt 26, 3) := by decide +kernel
set_option maxRecDepth 20000 in
theorem sg_Main_routeAt_0 {kc ks : Nat} (a0 : Nat) (x1 : Int32) (h : am_H) (Q : Option Value → am_H → Prop) (t : ((x1 < 0 → Q (some (.null)) h) ∧ (¬ x1 < 0 → (am_tg h a0 = (11, 18) ∧ (((am_I h a0 14) ≤ x1 → Q (some (.null)) h) ∧ (¬ (am_I h a0 14) ≤ x1 → ((8 ≤ x1 → Q (some (.null)) h) ∧ (¬ 8 ≤ x1 → (∃ b5, am_P h a0 6 = some b5 ∧ ((am_tg h b5).1 = 34 ∧ (vp_in x1 (am_tg h b5).2 ∧ (∃ b6, am_P h b5 x1.toNatClampNeg = some b6 ∧ Q (some (.ref b6)) h)))))))))))) : am_EI m_Main_routeAt kc ks 0 [.ref a0, .int x1] [] h Q := by
  refine am_blk_ok (c := 11) (ini := false) (by decide) rfl (fun q => by cases q) bk_Main_routeAt_0_1 _ 1 _ _ _ bk_Main_routeAt_0_1_ok rfl ?_
  show am_EI m_Main_routeAt kc ks 1 [.ref a0, .int x1] [.int x1] h Q
  refine am_if_lt (tgt := 27) dc_Main_routeAt_1 (by decide) (fun c1 => ?_) (fun c1 => ?_)
  · replace t := t.1 c1
    refine am_blk_ok (c := 11) (ini := false) (by decide) rfl (fun q => by cases q) bk_Main_routeAt_27_1 _ 28 _ _ _ bk_Main_routeAt_27_1_ok rfl ?_
    show am_EI m_Main_routeAt kc ks 28 [.ref a0, .int x1] [.null] h Q
    exact am_aret (o := none) dc_Main_routeAt_28 rfl rfl t
  · replace t := t.2 c1
    refine am_blk_ok (c := 11) (ini := false) (by decide) rfl (fun q => by cases q) bk_Main_routeAt_4_3 _ 9 _ _ _ bk_Main_routeAt_4_3_ok rfl ?_
    show (am_tg h a0 = (11, 18) ∧ am_EI m_Main_routeAt kc ks 9 [.ref a0, .int x1] [.int (am_I h a0 14), .int x1] h Q)
    obtain ⟨o2, t⟩ := t
    refine ⟨o2, ?_⟩
    refine am_ic_ge (tgt := 27) dc_Main_routeAt_9 (by decide) (fun c3 => ?_) (fun c3 => ?_)
    · replace t := t.1 c3
      refine am_blk_ok (c := 11) (ini := false) (by decide) rfl (fun q => by cases q) bk_Main_routeAt_27_1 _ 28 _ _ _ bk_Main_routeAt_27_1_ok rfl ?_
      show am_EI m_Main_routeAt kc ks 28 [.ref a0, .int x1] [.null] h Q
      exact am_aret (o := none) dc_Main_routeAt_28 rfl rfl t
    · replace t := t.2 c3
      refine am_blk_ok (c := 11) (ini := false) (by decide) rfl (fun q => by cases q) bk_Main_routeAt_12_2 _ 15 _ _ _ bk_Main_routeAt_12_2_ok rfl ?_
      show am_EI m_Main_routeAt kc ks 15 [.ref a0, .int x1] [.int 8, .int x1] h Q
      refine am_ic_ge (tgt := 27) dc_Main_routeAt_15 (by decide) (fun c4 => ?_) (fun c4 => ?_)
      · replace t := t.1 c4
        refine am_blk_ok (c := 11) (ini := false) (by decide) rfl (fun q => by cases q) bk_Main_routeAt_27_1 _ 28 _ _ _ bk_Main_routeAt_27_1_ok rfl ?_
        show am_EI m_Main_routeAt kc ks 28 [.ref a0, .int x1] [.null] h Q
        exact am_aret (o := none) dc_Main_routeAt_28 rfl rfl t
      · replace t := t.2 c4
        refine am_blk_ok (c := 11) (ini := false) (by decide) rfl (fun q => by cases q) bk_Main_routeAt_18_5 _ 28 _ _ _ bk_Main_routeAt_18_5_ok rfl ?_
        show (am_tg h a0 = (11, 18) ∧ (∃ b5, am_P h a0 6 = some b5 ∧ ((am_tg h b5).1 = 34 ∧ ((34 ∈ am_ks ∧ 30 ≤ 34) ∧ (vp_in x1 (am_tg h b5).2 ∧ (∃ b6, am_P h b5 x1.toNatClampNeg = some b6 ∧ am_EI m_Main_routeAt kc ks 28 [.ref a0, .int x1] [.ref b6] h Q))))))
        obtain ⟨b5, q7, o8, o9, b6, q10, t⟩ := t
        refine ⟨o2, b5, q7, o8, ⟨by decide, by decide⟩, o9, b6, q10, ?_⟩
        exact am_aret (o := some b6) dc_Main_routeAt_28 rfl rfl t
set_option maxRecDepth 20000 in
theorem ev_Main_routeAt (a0 : Nat) (x1 : Int32) (h : am_H) (Q : Option Nat → am_H → Prop) (t : ((x1 < 0 → Q none h) ∧ (¬ x1 < 0 → (am_tg h a0 = (11, 18) ∧ (((am_I h a0 14) ≤ x1 → Q none h) ∧ (¬ (am_I h a0 14) ≤ x1 → ((8 ≤ x1 → Q none h) ∧ (¬ 8 ≤ x1 → (∃ b5, am_P h a0 6 = some b5 ∧ ((am_tg h b5).1 = 34 ∧ (vp_in x1 (am_tg h b5).2 ∧ (∃ b6, am_P h b5 x1.toNatClampNeg = some b6 ∧ Q (some b6) h)))))))))))) : am_Er m_Main_routeAt 0 0 [.ref a0, .int x1] h Q :=
  am_Ev.of (by decide +kernel) (Nat.le_of_ble_eq_true rfl) (by simp only [List.mem_cons, List.not_mem_nil, or_false]; intro v hv; rcases hv with rfl | rfl; all_goals first | exact trivial) (sg_Main_routeAt_0 (kc := 0) (ks := 0) a0 x1 h (am_qr Q) t)
def bk_Main_same_0_2 : List am_E := [(0, .aload_n 0, 1, 0, 0), (1, .iload_n 1, 1, 0, 0)]
theorem bk_Main_same_0_2_ok : bk_Main_same_0_2.all (am_ok 11 false m_Main_same.2.1) = true := by decide +kernel
def bk_Main_same_5_3 : List am_E := [(5, .astore_n 3, 1, 0, 0), (6, .aload_n 0, 1, 0, 0), (7, .iload_n 2, 1, 0, 0)]
theorem bk_Main_same_5_3_ok : bk_Main_same_5_3.all (am_ok 11 false m_Main_same.2.1) = true := by decide +kernel
def bk_Main_same_11_2 : List am_E := [(11, .astore 4, 2, 0, 0), (13, .aload_n 3, 1, 0, 0)]
theorem bk_Main_same_11_2_ok : bk_Main_same_11_2.all (am_ok 11 false m_Main_same.2.1) = true := by decide +kernel
def bk_Main_same_22_2 : List am_E := [(22, .aload_n 0, 1, 0, 0), (23, .iconst 1, 1, 0, 1)]
theorem bk_Main_same_22_2_ok : bk_Main_same_22_2.all (am_ok 11 false m_Main_same.2.1) = true := by decide +kernel
def bk_Main_same_17_1 : List am_E := [(17, .aload 4, 2, 0, 0)]
theorem bk_Main_same_17_1_ok : bk_Main_same_17_1.all (am_ok 11 false m_Main_same.2.1) = true := by decide +kernel
def bk_Main_same_28_3 : List am_E := [(28, .aload_n 0, 1, 0, 0), (29, .aload_n 3, 1, 0, 0), (30, .aload 4, 2, 0, 0)]
theorem bk_Main_same_28_3_ok : bk_Main_same_28_3.all (am_ok 11 false m_Main_same.2.1) = true := by decide +kernel
def bk_Main_same_42_1 : List am_E := [(42, .iconst 0, 1, 0, 0)]
theorem bk_Main_same_42_1_ok : bk_Main_same_42_1.all (am_ok 11 false m_Main_same.2.1) = true := by decide +kernel
def bk_Main_same_38_2 : List am_E := [(38, .iconst 1, 1, 0, 1), (39, .goto 4, 3, 0, 4)]
theorem bk_Main_same_38_2_ok : bk_Main_same_38_2.all (am_ok 11 false m_Main_same.2.1) = true := by decide +kernel
theorem dc_Main_same_2 : decode m_Main_same.2.1 2 = .ok (.invokevirtual 129, 3) := by decide +kernel
theorem dc_Main_same_8 : decode m_Main_same.2.1 8 = .ok (.invokevirtual 129, 3) := by decide +kernel
theorem dc_Main_same_14 : decode m_Main_same.2.1 14 = .ok (.ifnull 8, 3) := by decide +kernel
theorem dc_Main_same_24 : decode m_Main_same.2.1 24 = .ok (.invokevirtual 108, 3) := by decide +kernel
theorem dc_Main_same_27 : decode m_Main_same.2.1 27 = .ok (.ireturn, 1) := by decide +kernel
theorem dc_Main_same_19 : decode m_Main_same.2.1 19 = .ok (.ifnonnull 9, 3) := by decide +kernel
theorem dc_Main_same_32 : decode m_Main_same.2.1 32 = .ok (.invokevirtual 283, 3) := by decide +kernel
theorem dc_Main_same_43 : decode m_Main_same.2.1 43 = .ok (.invokevirtual 119, 3) := by decide +kernel
theorem dc_Main_same_46 : decode m_Main_same.2.1 46 = .ok (.ireturn, 1) := by decide +kernel
theorem dc_Main_same_35 : decode m_Main_same.2.1 35 = .ok (.ifCond .eq 7, 3) := by decide +kernel
set_option maxRecDepth 20000 in
theorem sg_Main_same_0 {kc ks : Nat} (a0 : Nat) (x1 x2 : Int32) (h : am_H) (Q : Option Value → am_H → Prop) (t : (am_tg h a0 = (11, 18) ∧ (am_Er m_Main_portAt 0 0 [.ref a0, .int x1] h (fun r3 h2 => (r3 = none → (am_tg h2 a0 = (11, 18) ∧ (am_Er m_Main_portAt 0 0 [.ref a0, .int x2] h2 (fun r8 h7 => (r8 = none → (am_tg h7 a0 = (11, 18) ∧ (am_Ei m_Main_refuse 0 0 [.ref a0, .int 1] h7 (fun r13 h12 => Q (some (.int r13)) h12)))) ∧ ∀ b9, r8 = some b9 → (am_tg h7 a0 = (11, 18) ∧ (am_Ei m_Main_refuse 0 0 [.ref a0, .int 1] h7 (fun r16 h15 => Q (some (.int r16)) h15))))))) ∧ ∀ b4, r3 = some b4 → (am_tg h2 a0 = (11, 18) ∧ (am_Er m_Main_portAt 0 0 [.ref a0, .int x2] h2 (fun r19 h18 => (r19 = none → (am_tg h18 a0 = (11, 18) ∧ (am_Ei m_Main_refuse 0 0 [.ref a0, .int 1] h18 (fun r24 h23 => Q (some (.int r24)) h23)))) ∧ ∀ b20, r19 = some b20 → (am_tg h18 b4 = (2, 5) ∧ (am_Ei m_Port_isWrittenAs 0 0 [.ref b4, .ref b20] h18 (fun r27 h26 => ((r27 = 0 → (am_tg h26 a0 = (11, 18) ∧ (am_Ei m_Main_answer 0 0 [.ref a0, .int 0] h26 (fun r31 h30 => Q (some (.int r31)) h30)))) ∧ (¬ r27 = 0 → (am_tg h26 a0 = (11, 18) ∧ (am_Ei m_Main_answer 0 0 [.ref a0, .int 1] h26 (fun r34 h33 => Q (some (.int r34)) h33))))))))))))))) : am_EI m_Main_same kc ks 0 [.ref a0, .int x1, .int x2, .float 0, .float 0] [] h Q := by
  refine am_blk_ok (c := 11) (ini := false) (by decide) rfl (fun q => by cases q) bk_Main_same_0_2 _ 2 _ _ _ bk_Main_same_0_2_ok rfl ?_
  show am_EI m_Main_same kc ks 2 [.ref a0, .int x1, .int x2, .float 0, .float 0] [.int x1, .ref a0] h Q
  obtain ⟨o1, t⟩ := t
  refine am_callV (M2 := m_Main_portAt) (ci := 11) (a := a0) (kc := kc) (ks := ks) (k2c := 0) (k2s := 0) (as := []) [.int x1] dc_Main_same_2 lk_11_129 im_Main_portAt se_Main_portAt lm_Main_portAt np_Main_portAt ⟨Nat.le_of_ble_eq_true rfl, Nat.le_of_ble_eq_true rfl⟩ (fun _ => Nat.le_of_ble_eq_true rfl) (by decide) rfl o1 (am_Er.end (am_Er.mono t (fun r3 h2 t => ⟨fun c5 => ?_, fun b4 c5 => ?_⟩)))
  · replace t := t.1 c5
    refine am_blk_ok (c := 11) (ini := false) (by decide) rfl (fun q => by cases q) bk_Main_same_5_3 _ 8 _ _ _ bk_Main_same_5_3_ok rfl ?_
    show am_EI m_Main_same kc ks 8 [.ref a0, .int x1, .int x2, .null, .float 0] [.int x2, .ref a0] h2 Q
    obtain ⟨o6, t⟩ := t
    refine am_callV (M2 := m_Main_portAt) (ci := 11) (a := a0) (kc := kc) (ks := ks) (k2c := 0) (k2s := 0) (as := []) [.int x2] dc_Main_same_8 lk_11_129 im_Main_portAt se_Main_portAt lm_Main_portAt np_Main_portAt ⟨Nat.le_of_ble_eq_true rfl, Nat.le_of_ble_eq_true rfl⟩ (fun _ => Nat.le_of_ble_eq_true rfl) (by decide) rfl o6 (am_Er.end (am_Er.mono t (fun r8 h7 t => ⟨fun c10 => ?_, fun b9 c10 => ?_⟩)))
    · replace t := t.1 c10
      refine am_blk_ok (c := 11) (ini := false) (by decide) rfl (fun q => by cases q) bk_Main_same_11_2 _ 14 _ _ _ bk_Main_same_11_2_ok rfl ?_
      show am_EI m_Main_same kc ks 14 [.ref a0, .int x1, .int x2, .null, .null] [.null] h7 Q
      refine am_ifnullN (tgt := 22) dc_Main_same_14 (by decide) ?_
      refine am_blk_ok (c := 11) (ini := false) (by decide) rfl (fun q => by cases q) bk_Main_same_22_2 _ 24 _ _ _ bk_Main_same_22_2_ok rfl ?_
      show am_EI m_Main_same kc ks 24 [.ref a0, .int x1, .int x2, .null, .null] [.int 1, .ref a0] h7 Q
      obtain ⟨o11, t⟩ := t
      refine am_callV (M2 := m_Main_refuse) (ci := 11) (a := a0) (kc := kc) (ks := ks) (k2c := 0) (k2s := 0) (as := []) [.int 1] dc_Main_same_24 lk_11_108 im_Main_refuse se_Main_refuse lm_Main_refuse np_Main_refuse ⟨Nat.le_of_ble_eq_true rfl, Nat.le_of_ble_eq_true rfl⟩ (fun _ => Nat.le_of_ble_eq_true rfl) (by decide) rfl o11 (am_Ei.end (am_Ei.mono t (fun r13 h12 t => ?_)))
      exact am_iret dc_Main_same_27 rfl t
    · replace t := t.2 b9 c10
      refine am_blk_ok (c := 11) (ini := false) (by decide) rfl (fun q => by cases q) bk_Main_same_11_2 _ 14 _ _ _ bk_Main_same_11_2_ok rfl ?_
      show am_EI m_Main_same kc ks 14 [.ref a0, .int x1, .int x2, .null, .ref b9] [.null] h7 Q
      refine am_ifnullN (tgt := 22) dc_Main_same_14 (by decide) ?_
      refine am_blk_ok (c := 11) (ini := false) (by decide) rfl (fun q => by cases q) bk_Main_same_22_2 _ 24 _ _ _ bk_Main_same_22_2_ok rfl ?_
      show am_EI m_Main_same kc ks 24 [.ref a0, .int x1, .int x2, .null, .ref b9] [.int 1, .ref a0] h7 Q
      obtain ⟨o14, t⟩ := t
      refine am_callV (M2 := m_Main_refuse) (ci := 11) (a := a0) (kc := kc) (ks := ks) (k2c := 0) (k2s := 0) (as := []) [.int 1] dc_Main_same_24 lk_11_108 im_Main_refuse se_Main_refuse lm_Main_refuse np_Main_refuse ⟨Nat.le_of_ble_eq_true rfl, Nat.le_of_ble_eq_true rfl⟩ (fun _ => Nat.le_of_ble_eq_true rfl) (by decide) rfl o14 (am_Ei.end (am_Ei.mono t (fun r16 h15 t => ?_)))
      exact am_iret dc_Main_same_27 rfl t
  · replace t := t.2 b4 c5
    refine am_blk_ok (c := 11) (ini := false) (by decide) rfl (fun q => by cases q) bk_Main_same_5_3 _ 8 _ _ _ bk_Main_same_5_3_ok rfl ?_
    show am_EI m_Main_same kc ks 8 [.ref a0, .int x1, .int x2, .ref b4, .float 0] [.int x2, .ref a0] h2 Q
    obtain ⟨o17, t⟩ := t
    refine am_callV (M2 := m_Main_portAt) (ci := 11) (a := a0) (kc := kc) (ks := ks) (k2c := 0) (k2s := 0) (as := []) [.int x2] dc_Main_same_8 lk_11_129 im_Main_portAt se_Main_portAt lm_Main_portAt np_Main_portAt ⟨Nat.le_of_ble_eq_true rfl, Nat.le_of_ble_eq_true rfl⟩ (fun _ => Nat.le_of_ble_eq_true rfl) (by decide) rfl o17 (am_Er.end (am_Er.mono t (fun r19 h18 t => ⟨fun c21 => ?_, fun b20 c21 => ?_⟩)))
    · replace t := t.1 c21
      refine am_blk_ok (c := 11) (ini := false) (by decide) rfl (fun q => by cases q) bk_Main_same_11_2 _ 14 _ _ _ bk_Main_same_11_2_ok rfl ?_
      show am_EI m_Main_same kc ks 14 [.ref a0, .int x1, .int x2, .ref b4, .null] [.ref b4] h18 Q
      refine am_ifnull dc_Main_same_14 ?_
      refine am_blk_ok (c := 11) (ini := false) (by decide) rfl (fun q => by cases q) bk_Main_same_17_1 _ 19 _ _ _ bk_Main_same_17_1_ok rfl ?_
      show am_EI m_Main_same kc ks 19 [.ref a0, .int x1, .int x2, .ref b4, .null] [.null] h18 Q
      refine am_ifnonnullN dc_Main_same_19 ?_
      refine am_blk_ok (c := 11) (ini := false) (by decide) rfl (fun q => by cases q) bk_Main_same_22_2 _ 24 _ _ _ bk_Main_same_22_2_ok rfl ?_
      show am_EI m_Main_same kc ks 24 [.ref a0, .int x1, .int x2, .ref b4, .null] [.int 1, .ref a0] h18 Q
      obtain ⟨o22, t⟩ := t
      refine am_callV (M2 := m_Main_refuse) (ci := 11) (a := a0) (kc := kc) (ks := ks) (k2c := 0) (k2s := 0) (as := []) [.int 1] dc_Main_same_24 lk_11_108 im_Main_refuse se_Main_refuse lm_Main_refuse np_Main_refuse ⟨Nat.le_of_ble_eq_true rfl, Nat.le_of_ble_eq_true rfl⟩ (fun _ => Nat.le_of_ble_eq_true rfl) (by decide) rfl o22 (am_Ei.end (am_Ei.mono t (fun r24 h23 t => ?_)))
      exact am_iret dc_Main_same_27 rfl t
    · replace t := t.2 b20 c21
      refine am_blk_ok (c := 11) (ini := false) (by decide) rfl (fun q => by cases q) bk_Main_same_11_2 _ 14 _ _ _ bk_Main_same_11_2_ok rfl ?_
      show am_EI m_Main_same kc ks 14 [.ref a0, .int x1, .int x2, .ref b4, .ref b20] [.ref b4] h18 Q
      refine am_ifnull dc_Main_same_14 ?_
      refine am_blk_ok (c := 11) (ini := false) (by decide) rfl (fun q => by cases q) bk_Main_same_17_1 _ 19 _ _ _ bk_Main_same_17_1_ok rfl ?_
      show am_EI m_Main_same kc ks 19 [.ref a0, .int x1, .int x2, .ref b4, .ref b20] [.ref b20] h18 Q
      refine am_ifnonnull (tgt := 28) dc_Main_same_19 (by decide) ?_
      refine am_blk_ok (c := 11) (ini := false) (by decide) rfl (fun q => by cases q) bk_Main_same_28_3 _ 32 _ _ _ bk_Main_same_28_3_ok rfl ?_
      show am_EI m_Main_same kc ks 32 [.ref a0, .int x1, .int x2, .ref b4, .ref b20] [.ref b20, .ref b4, .ref a0] h18 Q
      obtain ⟨o25, t⟩ := t
      refine am_callV (M2 := m_Port_isWrittenAs) (ci := 2) (a := b4) (kc := kc) (ks := ks) (k2c := 0) (k2s := 0) (as := [.ref a0]) [.ref b20] dc_Main_same_32 lk_11_283 im_Port_isWrittenAs se_Port_isWrittenAs lm_Port_isWrittenAs np_Port_isWrittenAs ⟨Nat.le_of_ble_eq_true rfl, Nat.le_of_ble_eq_true rfl⟩ (fun _ => Nat.le_of_ble_eq_true rfl) (by decide) rfl o25 (am_Ei.end (am_Ei.mono t (fun r27 h26 t => ?_)))
      refine am_if_eq (tgt := 42) dc_Main_same_35 (by decide) (fun c28 => ?_) (fun c28 => ?_)
      · replace t := t.1 c28
        refine am_blk_ok (c := 11) (ini := false) (by decide) rfl (fun q => by cases q) bk_Main_same_42_1 _ 43 _ _ _ bk_Main_same_42_1_ok rfl ?_
        show am_EI m_Main_same kc ks 43 [.ref a0, .int x1, .int x2, .ref b4, .ref b20] [.int 0, .ref a0] h26 Q
        obtain ⟨o29, t⟩ := t
        refine am_callV (M2 := m_Main_answer) (ci := 11) (a := a0) (kc := kc) (ks := ks) (k2c := 0) (k2s := 0) (as := []) [.int 0] dc_Main_same_43 lk_11_119 im_Main_answer se_Main_answer lm_Main_answer np_Main_answer ⟨Nat.le_of_ble_eq_true rfl, Nat.le_of_ble_eq_true rfl⟩ (fun _ => Nat.le_of_ble_eq_true rfl) (by decide) rfl o29 (am_Ei.end (am_Ei.mono t (fun r31 h30 t => ?_)))
        exact am_iret dc_Main_same_46 rfl t
      · replace t := t.2 c28
        refine am_blk_ok (c := 11) (ini := false) (by decide) rfl (fun q => by cases q) bk_Main_same_38_2 _ 43 _ _ _ bk_Main_same_38_2_ok rfl ?_
        show am_EI m_Main_same kc ks 43 [.ref a0, .int x1, .int x2, .ref b4, .ref b20] [.int 1, .ref a0] h26 Q
        obtain ⟨o32, t⟩ := t
        refine am_callV (M2 := m_Main_answer) (ci := 11) (a := a0) (kc := kc) (ks := ks) (k2c := 0) (k2s := 0) (as := []) [.int 1] dc_Main_same_43 lk_11_119 im_Main_answer se_Main_answer lm_Main_answer np_Main_answer ⟨Nat.le_of_ble_eq_true rfl, Nat.le_of_ble_eq_true rfl⟩ (fun _ => Nat.le_of_ble_eq_true rfl) (by decide) rfl o32 (am_Ei.end (am_Ei.mono t (fun r34 h33 t => ?_)))
        exact am_iret dc_Main_same_46 rfl t
set_option maxRecDepth 20000 in
theorem ev_Main_same (a0 : Nat) (x1 x2 : Int32) (h : am_H) (Q : Int32 → am_H → Prop) (t : (am_tg h a0 = (11, 18) ∧ (am_Er m_Main_portAt 0 0 [.ref a0, .int x1] h (fun r3 h2 => (r3 = none → (am_tg h2 a0 = (11, 18) ∧ (am_Er m_Main_portAt 0 0 [.ref a0, .int x2] h2 (fun r8 h7 => (r8 = none → (am_tg h7 a0 = (11, 18) ∧ (am_Ei m_Main_refuse 0 0 [.ref a0, .int 1] h7 (fun r13 h12 => Q r13 h12)))) ∧ ∀ b9, r8 = some b9 → (am_tg h7 a0 = (11, 18) ∧ (am_Ei m_Main_refuse 0 0 [.ref a0, .int 1] h7 (fun r16 h15 => Q r16 h15))))))) ∧ ∀ b4, r3 = some b4 → (am_tg h2 a0 = (11, 18) ∧ (am_Er m_Main_portAt 0 0 [.ref a0, .int x2] h2 (fun r19 h18 => (r19 = none → (am_tg h18 a0 = (11, 18) ∧ (am_Ei m_Main_refuse 0 0 [.ref a0, .int 1] h18 (fun r24 h23 => Q r24 h23)))) ∧ ∀ b20, r19 = some b20 → (am_tg h18 b4 = (2, 5) ∧ (am_Ei m_Port_isWrittenAs 0 0 [.ref b4, .ref b20] h18 (fun r27 h26 => ((r27 = 0 → (am_tg h26 a0 = (11, 18) ∧ (am_Ei m_Main_answer 0 0 [.ref a0, .int 0] h26 (fun r31 h30 => Q r31 h30)))) ∧ (¬ r27 = 0 → (am_tg h26 a0 = (11, 18) ∧ (am_Ei m_Main_answer 0 0 [.ref a0, .int 1] h26 (fun r34 h33 => Q r34 h33))))))))))))))) : am_Ei m_Main_same 0 0 [.ref a0, .int x1, .int x2] h Q :=
  am_Ev.of (by decide +kernel) (Nat.le_of_ble_eq_true rfl) (by simp only [List.mem_cons, List.not_mem_nil, or_false]; intro v hv; rcases hv with rfl | rfl | rfl; all_goals first | exact trivial) (sg_Main_same_0 (kc := 0) (ks := 0) a0 x1 x2 h (am_qi Q) t)
def bk_Main_second_0_2 : List am_E := [(0, .aload_n 0, 1, 0, 0), (1, .iload_n 1, 1, 0, 0)]
theorem bk_Main_second_0_2_ok : bk_Main_second_0_2.all (am_ok 11 false m_Main_second.2.1) = true := by decide +kernel
def bk_Main_second_5_2 : List am_E := [(5, .astore_n 2, 1, 0, 0), (6, .aload_n 2, 1, 0, 0)]
theorem bk_Main_second_5_2_ok : bk_Main_second_5_2.all (am_ok 11 false m_Main_second.2.1) = true := by decide +kernel
def bk_Main_second_10_1 : List am_E := [(10, .aload_n 0, 1, 0, 0)]
theorem bk_Main_second_10_1_ok : bk_Main_second_10_1.all (am_ok 11 false m_Main_second.2.1) = true := by decide +kernel
def bk_Main_second_15_2 : List am_E := [(15, .aload_n 0, 1, 0, 0), (16, .getfield 10, 3, 4401, 0)]
theorem bk_Main_second_15_2_ok : bk_Main_second_15_2.all (am_ok 11 false m_Main_second.2.1) = true := by decide +kernel
def bk_Main_second_22_4 : List am_E := [(22, .aload_n 0, 1, 0, 0), (23, .getfield 19, 3, 4405, 0), (26, .aload_n 0, 1, 0, 0), (27, .getfield 10, 3, 4401, 0)]
theorem bk_Main_second_22_4_ok : bk_Main_second_22_4.all (am_ok 11 false m_Main_second.2.1) = true := by decide +kernel
def bk_Main_second_33_1 : List am_E := [(33, .aload_n 0, 1, 0, 0)]
theorem bk_Main_second_33_1_ok : bk_Main_second_33_1.all (am_ok 11 false m_Main_second.2.1) = true := by decide +kernel
def bk_Main_second_46_4 : List am_E := [(46, .aload_n 0, 1, 0, 0), (47, .aload_n 0, 1, 0, 0), (48, .getfield 19, 3, 4405, 0), (51, .aload_n 2, 1, 0, 0)]
theorem bk_Main_second_46_4_ok : bk_Main_second_46_4.all (am_ok 11 false m_Main_second.2.1) = true := by decide +kernel
def bk_Main_second_40_2 : List am_E := [(40, .aload_n 0, 1, 0, 0), (41, .iconst 2, 1, 0, 2)]
theorem bk_Main_second_40_2_ok : bk_Main_second_40_2.all (am_ok 11 false m_Main_second.2.1) = true := by decide +kernel
theorem dc_Main_second_2 : decode m_Main_second.2.1 2 = .ok (.invokevirtual 129, 3) := by decide +kernel
theorem dc_Main_second_7 : decode m_Main_second.2.1 7 = .ok (.ifnonnull 8, 3) := by decide +kernel
theorem dc_Main_second_11 : decode m_Main_second.2.1 11 = .ok (.invokevirtual 133, 3) := by decide +kernel
theorem dc_Main_second_14 : decode m_Main_second.2.1 14 = .ok (.ireturn, 1) := by decide +kernel
theorem dc_Main_second_19 : decode m_Main_second.2.1 19 = .ok (.invokevirtual 136, 3) := by decide +kernel
theorem dc_Main_second_30 : decode m_Main_second.2.1 30 = .ok (.invokevirtual 139, 3) := by decide +kernel
theorem dc_Main_second_34 : decode m_Main_second.2.1 34 = .ok (.invokevirtual 143, 3) := by decide +kernel
theorem dc_Main_second_52 : decode m_Main_second.2.1 52 = .ok (.invokevirtual 147, 3) := by decide +kernel
theorem dc_Main_second_55 : decode m_Main_second.2.1 55 = .ok (.invokevirtual 150, 3) := by decide +kernel
theorem dc_Main_second_58 : decode m_Main_second.2.1 58 = .ok (.ireturn, 1) := by decide +kernel
theorem dc_Main_second_42 : decode m_Main_second.2.1 42 = .ok (.invokevirtual 108, 3) := by decide +kernel
theorem dc_Main_second_45 : decode m_Main_second.2.1 45 = .ok (.ireturn, 1) := by decide +kernel
theorem dc_Main_second_37 : decode m_Main_second.2.1 37 = .ok (.ifCond .ne 9, 3) := by decide +kernel
set_option maxRecDepth 20000 in
theorem sg_Main_second_0 {kc ks : Nat} (a0 : Nat) (x1 : Int32) (h : am_H) (Q : Option Value → am_H → Prop) (t : (am_tg h a0 = (11, 18) ∧ (am_Er m_Main_portAt 0 0 [.ref a0, .int x1] h (fun r3 h2 => (r3 = none → (am_tg h2 a0 = (11, 18) ∧ (am_Ei m_Main_refuseUnread 0 0 [.ref a0] h2 (fun r8 h7 => Q (some (.int r8)) h7)))) ∧ ∀ b4, r3 = some b4 → (am_tg h2 a0 = (11, 18) ∧ (∃ b9, am_P h2 a0 0 = some b9 ∧ (am_tg h2 b9 = (9, 4) ∧ (am_Ew m_Tape_rewind 0 0 [.ref b9] h2 (fun h13 => (am_tg h13 a0 = (11, 18) ∧ (∃ b14, am_P h13 a0 1 = some b14 ∧ (∃ b15, am_P h13 a0 0 = some b15 ∧ (am_tg h13 b14 = (3, 7) ∧ (am_Ew m_Draft_readDifferences 0 0 [.ref b14, .ref b15] h13 (fun h20 => (am_tg h20 a0 = (11, 18) ∧ (am_Ei m_Main_textWasRight 0 0 [.ref a0] h20 (fun r23 h22 => ((¬ r23 = 0 → (am_tg h22 a0 = (11, 18) ∧ (∃ b25, am_P h22 a0 1 = some b25 ∧ (am_tg h22 b25 = (3, 7) ∧ (am_Ei m_Draft_shiftFrom 0 0 [.ref b25, .ref b4] h22 (fun r30 h29 => (am_tg h29 a0 = (11, 18) ∧ (am_Ei m_Main_keepPort 4 53 [.ref a0, .int r30] h29 (fun r33 h32 => Q (some (.int r33)) h32))))))))) ∧ (r23 = 0 → (am_tg h22 a0 = (11, 18) ∧ (am_Ei m_Main_refuse 0 0 [.ref a0, .int 2] h22 (fun r36 h35 => Q (some (.int r36)) h35))))))))))))))))))))))) : am_EI m_Main_second (kc + 4) (ks + 53) 0 [.ref a0, .int x1, .float 0] [] h Q := by
  refine am_blk_ok (c := 11) (ini := false) (by decide) rfl (fun q => by cases q) bk_Main_second_0_2 _ 2 _ _ _ bk_Main_second_0_2_ok rfl ?_
  show am_EI m_Main_second (kc + 4) (ks + 53) 2 [.ref a0, .int x1, .float 0] [.int x1, .ref a0] h Q
  obtain ⟨o1, t⟩ := t
  refine am_callV (M2 := m_Main_portAt) (ci := 11) (a := a0) (kc := (kc + 4)) (ks := (ks + 53)) (k2c := 0) (k2s := 0) (as := []) [.int x1] dc_Main_second_2 lk_11_129 im_Main_portAt se_Main_portAt lm_Main_portAt np_Main_portAt ⟨Nat.le_of_ble_eq_true rfl, Nat.le_of_ble_eq_true rfl⟩ (fun _ => Nat.le_of_ble_eq_true rfl) (by decide) rfl o1 (am_Er.end (am_Er.mono t (fun r3 h2 t => ⟨fun c5 => ?_, fun b4 c5 => ?_⟩)))
  · replace t := t.1 c5
    refine am_blk_ok (c := 11) (ini := false) (by decide) rfl (fun q => by cases q) bk_Main_second_5_2 _ 7 _ _ _ bk_Main_second_5_2_ok rfl ?_
    show am_EI m_Main_second (kc + 4) (ks + 53) 7 [.ref a0, .int x1, .null] [.null] h2 Q
    refine am_ifnonnullN dc_Main_second_7 ?_
    refine am_EI.more (kc := kc) (ks := ks) 4 53 ?_
    refine am_blk_ok (c := 11) (ini := false) (by decide) rfl (fun q => by cases q) bk_Main_second_10_1 _ 11 _ _ _ bk_Main_second_10_1_ok rfl ?_
    show am_EI m_Main_second kc ks 11 [.ref a0, .int x1, .null] [.ref a0] h2 Q
    obtain ⟨o6, t⟩ := t
    refine am_callV (M2 := m_Main_refuseUnread) (ci := 11) (a := a0) (kc := kc) (ks := ks) (k2c := 0) (k2s := 0) (as := []) [] dc_Main_second_11 lk_11_133 im_Main_refuseUnread se_Main_refuseUnread lm_Main_refuseUnread np_Main_refuseUnread ⟨Nat.le_of_ble_eq_true rfl, Nat.le_of_ble_eq_true rfl⟩ (fun _ => Nat.le_of_ble_eq_true rfl) (by decide) rfl o6 (am_Ei.end (am_Ei.mono t (fun r8 h7 t => ?_)))
    exact am_iret dc_Main_second_14 rfl t
  · replace t := t.2 b4 c5
    refine am_blk_ok (c := 11) (ini := false) (by decide) rfl (fun q => by cases q) bk_Main_second_5_2 _ 7 _ _ _ bk_Main_second_5_2_ok rfl ?_
    show am_EI m_Main_second (kc + 4) (ks + 53) 7 [.ref a0, .int x1, .ref b4] [.ref b4] h2 Q
    refine am_ifnonnull (tgt := 15) dc_Main_second_7 (by decide) ?_
    refine am_blk_ok (c := 11) (ini := false) (by decide) rfl (fun q => by cases q) bk_Main_second_15_2 _ 19 _ _ _ bk_Main_second_15_2_ok rfl ?_
    show (am_tg h2 a0 = (11, 18) ∧ (∃ b9, am_P h2 a0 0 = some b9 ∧ am_EI m_Main_second (kc + 4) (ks + 53) 19 [.ref a0, .int x1, .ref b4] [.ref b9] h2 Q))
    obtain ⟨o10, b9, q11, t⟩ := t
    refine ⟨o10, b9, q11, ?_⟩
    obtain ⟨o12, t⟩ := t
    refine am_callV (M2 := m_Tape_rewind) (ci := 9) (a := b9) (kc := (kc + 4)) (ks := (ks + 53)) (k2c := 0) (k2s := 0) (as := []) [] dc_Main_second_19 lk_11_136 im_Tape_rewind se_Tape_rewind lm_Tape_rewind np_Tape_rewind ⟨Nat.le_of_ble_eq_true rfl, Nat.le_of_ble_eq_true rfl⟩ (fun _ => Nat.le_of_ble_eq_true rfl) (by decide) rfl o12 (am_Ew.end (am_Ew.mono t (fun h13 t => ?_)))
    refine am_blk_ok (c := 11) (ini := false) (by decide) rfl (fun q => by cases q) bk_Main_second_22_4 _ 30 _ _ _ bk_Main_second_22_4_ok rfl ?_
    show (am_tg h13 a0 = (11, 18) ∧ (∃ b14, am_P h13 a0 1 = some b14 ∧ (am_tg h13 a0 = (11, 18) ∧ (∃ b15, am_P h13 a0 0 = some b15 ∧ am_EI m_Main_second (kc + 4) (ks + 53) 30 [.ref a0, .int x1, .ref b4] [.ref b15, .ref b14] h13 Q))))
    obtain ⟨o16, b14, q17, b15, q18, t⟩ := t
    refine ⟨o16, b14, q17, o16, b15, q18, ?_⟩
    obtain ⟨o19, t⟩ := t
    refine am_callV (M2 := m_Draft_readDifferences) (ci := 3) (a := b14) (kc := (kc + 4)) (ks := (ks + 53)) (k2c := 0) (k2s := 0) (as := []) [.ref b15] dc_Main_second_30 lk_11_139 im_Draft_readDifferences se_Draft_readDifferences lm_Draft_readDifferences np_Draft_readDifferences ⟨Nat.le_of_ble_eq_true rfl, Nat.le_of_ble_eq_true rfl⟩ (fun _ => Nat.le_of_ble_eq_true rfl) (by decide) rfl o19 (am_Ew.end (am_Ew.mono t (fun h20 t => ?_)))
    refine am_blk_ok (c := 11) (ini := false) (by decide) rfl (fun q => by cases q) bk_Main_second_33_1 _ 34 _ _ _ bk_Main_second_33_1_ok rfl ?_
    show am_EI m_Main_second (kc + 4) (ks + 53) 34 [.ref a0, .int x1, .ref b4] [.ref a0] h20 Q
    obtain ⟨o21, t⟩ := t
    refine am_callV (M2 := m_Main_textWasRight) (ci := 11) (a := a0) (kc := (kc + 4)) (ks := (ks + 53)) (k2c := 0) (k2s := 0) (as := []) [] dc_Main_second_34 lk_11_143 im_Main_textWasRight se_Main_textWasRight lm_Main_textWasRight np_Main_textWasRight ⟨Nat.le_of_ble_eq_true rfl, Nat.le_of_ble_eq_true rfl⟩ (fun _ => Nat.le_of_ble_eq_true rfl) (by decide) rfl o21 (am_Ei.end (am_Ei.mono t (fun r23 h22 t => ?_)))
    refine am_if_ne (tgt := 46) dc_Main_second_37 (by decide) (fun c24 => ?_) (fun c24 => ?_)
    · replace t := t.1 c24
      refine am_blk_ok (c := 11) (ini := false) (by decide) rfl (fun q => by cases q) bk_Main_second_46_4 _ 52 _ _ _ bk_Main_second_46_4_ok rfl ?_
      show (am_tg h22 a0 = (11, 18) ∧ (∃ b25, am_P h22 a0 1 = some b25 ∧ am_EI m_Main_second (kc + 4) (ks + 53) 52 [.ref a0, .int x1, .ref b4] [.ref b4, .ref b25, .ref a0] h22 Q))
      obtain ⟨o26, b25, q27, t⟩ := t
      refine ⟨o26, b25, q27, ?_⟩
      obtain ⟨o28, t⟩ := t
      refine am_callV (M2 := m_Draft_shiftFrom) (ci := 3) (a := b25) (kc := (kc + 4)) (ks := (ks + 53)) (k2c := 0) (k2s := 0) (as := [.ref a0]) [.ref b4] dc_Main_second_52 lk_11_147 im_Draft_shiftFrom se_Draft_shiftFrom lm_Draft_shiftFrom np_Draft_shiftFrom ⟨Nat.le_of_ble_eq_true rfl, Nat.le_of_ble_eq_true rfl⟩ (fun _ => Nat.le_of_ble_eq_true rfl) (by decide) rfl o28 (am_Ei.end (am_Ei.mono t (fun r30 h29 t => ?_)))
      obtain ⟨o31, t⟩ := t
      refine am_callV (M2 := m_Main_keepPort) (ci := 11) (a := a0) (kc := kc) (ks := ks) (k2c := 4) (k2s := 53) (as := []) [.int r30] dc_Main_second_55 lk_11_150 im_Main_keepPort se_Main_keepPort lm_Main_keepPort np_Main_keepPort ⟨Nat.le_of_ble_eq_true rfl, Nat.le_of_ble_eq_true rfl⟩ (fun _ => Nat.le_of_ble_eq_true rfl) (by decide) rfl o31 (am_Ei.end (am_Ei.mono t (fun r33 h32 t => ?_)))
      exact am_iret dc_Main_second_58 rfl t
    · refine am_EI.more (kc := kc) (ks := ks) 4 53 ?_
      replace t := t.2 c24
      refine am_blk_ok (c := 11) (ini := false) (by decide) rfl (fun q => by cases q) bk_Main_second_40_2 _ 42 _ _ _ bk_Main_second_40_2_ok rfl ?_
      show am_EI m_Main_second kc ks 42 [.ref a0, .int x1, .ref b4] [.int 2, .ref a0] h22 Q
      obtain ⟨o34, t⟩ := t
      refine am_callV (M2 := m_Main_refuse) (ci := 11) (a := a0) (kc := kc) (ks := ks) (k2c := 0) (k2s := 0) (as := []) [.int 2] dc_Main_second_42 lk_11_108 im_Main_refuse se_Main_refuse lm_Main_refuse np_Main_refuse ⟨Nat.le_of_ble_eq_true rfl, Nat.le_of_ble_eq_true rfl⟩ (fun _ => Nat.le_of_ble_eq_true rfl) (by decide) rfl o34 (am_Ei.end (am_Ei.mono t (fun r36 h35 t => ?_)))
      exact am_iret dc_Main_second_45 rfl t
set_option maxRecDepth 20000 in
theorem ev_Main_second (a0 : Nat) (x1 : Int32) (h : am_H) (Q : Int32 → am_H → Prop) (t : (am_tg h a0 = (11, 18) ∧ (am_Er m_Main_portAt 0 0 [.ref a0, .int x1] h (fun r3 h2 => (r3 = none → (am_tg h2 a0 = (11, 18) ∧ (am_Ei m_Main_refuseUnread 0 0 [.ref a0] h2 (fun r8 h7 => Q r8 h7)))) ∧ ∀ b4, r3 = some b4 → (am_tg h2 a0 = (11, 18) ∧ (∃ b9, am_P h2 a0 0 = some b9 ∧ (am_tg h2 b9 = (9, 4) ∧ (am_Ew m_Tape_rewind 0 0 [.ref b9] h2 (fun h13 => (am_tg h13 a0 = (11, 18) ∧ (∃ b14, am_P h13 a0 1 = some b14 ∧ (∃ b15, am_P h13 a0 0 = some b15 ∧ (am_tg h13 b14 = (3, 7) ∧ (am_Ew m_Draft_readDifferences 0 0 [.ref b14, .ref b15] h13 (fun h20 => (am_tg h20 a0 = (11, 18) ∧ (am_Ei m_Main_textWasRight 0 0 [.ref a0] h20 (fun r23 h22 => ((¬ r23 = 0 → (am_tg h22 a0 = (11, 18) ∧ (∃ b25, am_P h22 a0 1 = some b25 ∧ (am_tg h22 b25 = (3, 7) ∧ (am_Ei m_Draft_shiftFrom 0 0 [.ref b25, .ref b4] h22 (fun r30 h29 => (am_tg h29 a0 = (11, 18) ∧ (am_Ei m_Main_keepPort 4 53 [.ref a0, .int r30] h29 (fun r33 h32 => Q r33 h32))))))))) ∧ (r23 = 0 → (am_tg h22 a0 = (11, 18) ∧ (am_Ei m_Main_refuse 0 0 [.ref a0, .int 2] h22 (fun r36 h35 => Q r36 h35))))))))))))))))))))))) : am_Ei m_Main_second (0 + 4) (0 + 53) [.ref a0, .int x1] h Q :=
  am_Ev.of (by decide +kernel) (Nat.le_of_ble_eq_true rfl) (by simp only [List.mem_cons, List.not_mem_nil, or_false]; intro v hv; rcases hv with rfl | rfl; all_goals first | exact trivial) (sg_Main_second_0 (kc := 0) (ks := 0) a0 x1 h (am_qi Q) t)
def bk_Main_ship_3_1 : List am_E := [(3, .dup, 1, 0, 0)]
theorem bk_Main_ship_3_1_ok : bk_Main_ship_3_1.all (am_ok 11 false m_Main_ship.2.1) = true := by decide +kernel
def bk_Main_ship_7_3 : List am_E := [(7, .astore_n 1, 1, 0, 0), (8, .aload_n 0, 1, 0, 0), (9, .getfield 10, 3, 4401, 0)]
theorem bk_Main_ship_7_3_ok : bk_Main_ship_7_3.all (am_ok 11 false m_Main_ship.2.1) = true := by decide +kernel
def bk_Main_ship_15_3 : List am_E := [(15, .aload_n 1, 1, 0, 0), (16, .aload_n 0, 1, 0, 0), (17, .getfield 10, 3, 4401, 0)]
theorem bk_Main_ship_15_3_ok : bk_Main_ship_15_3.all (am_ok 11 false m_Main_ship.2.1) = true := by decide +kernel
def bk_Main_ship_23_1 : List am_E := [(23, .aload_n 0, 1, 0, 0)]
theorem bk_Main_ship_23_1_ok : bk_Main_ship_23_1.all (am_ok 11 false m_Main_ship.2.1) = true := by decide +kernel
def bk_Main_ship_36_2 : List am_E := [(36, .aload_n 0, 1, 0, 0), (37, .aload_n 1, 1, 0, 0)]
theorem bk_Main_ship_36_2_ok : bk_Main_ship_36_2.all (am_ok 11 false m_Main_ship.2.1) = true := by decide +kernel
def bk_Main_ship_41_3 : List am_E := [(41, .aload_n 0, 1, 0, 0), (42, .getfield 89, 3, 4452, 0), (45, .bipush 6, 2, 0, 6)]
theorem bk_Main_ship_41_3_ok : bk_Main_ship_41_3.all (am_ok 11 false m_Main_ship.2.1) = true := by decide +kernel
def bk_Main_ship_54_1 : List am_E := [(54, .iconst 0, 1, 0, 0)]
theorem bk_Main_ship_54_1_ok : bk_Main_ship_54_1.all (am_ok 11 false m_Main_ship.2.1) = true := by decide +kernel
def bk_Main_ship_58_2 : List am_E := [(58, .istore_n 2, 1, 0, 0), (59, .iload_n 2, 1, 0, 0)]
theorem bk_Main_ship_58_2_ok : bk_Main_ship_58_2.all (am_ok 11 false m_Main_ship.2.1) = true := by decide +kernel
def bk_Main_ship_69_17 : List am_E := [(69, .aload_n 0, 1, 0, 0), (70, .getfield 46, 3, 4421, 0), (73, .aload_n 0, 1, 0, 0), (74, .getfield 89, 3, 4452, 0), (77, .aload_n 1, 1, 0, 0), (78, .aastore, 1, 6, 0), (79, .aload_n 0, 1, 0, 0), (80, .dup, 1, 0, 0), (81, .getfield 89, 3, 4452, 0), (84, .iconst 1, 1, 0, 1), (85, .iadd, 1, 0, 0), (86, .putfield 89, 3, 4452, 0), (89, .aload_n 0, 1, 0, 0), (90, .aload_n 0, 1, 0, 0), (91, .getfield 89, 3, 4452, 0), (94, .iconst 1, 1, 0, 1), (95, .isub, 1, 0, 0)]
theorem bk_Main_ship_69_17_ok : bk_Main_ship_69_17.all (am_ok 11 false m_Main_ship.2.1) = true := by decide +kernel
def bk_Main_ship_63_2 : List am_E := [(63, .aload_n 0, 1, 0, 0), (64, .iload_n 2, 1, 0, 0)]
theorem bk_Main_ship_63_2_ok : bk_Main_ship_63_2.all (am_ok 11 false m_Main_ship.2.1) = true := by decide +kernel
def bk_Main_ship_50_2 : List am_E := [(50, .iconst 1, 1, 0, 1), (51, .goto 4, 3, 0, 4)]
theorem bk_Main_ship_50_2_ok : bk_Main_ship_50_2.all (am_ok 11 false m_Main_ship.2.1) = true := by decide +kernel
def bk_Main_ship_30_2 : List am_E := [(30, .aload_n 0, 1, 0, 0), (31, .iconst 2, 1, 0, 2)]
theorem bk_Main_ship_30_2_ok : bk_Main_ship_30_2.all (am_ok 11 false m_Main_ship.2.1) = true := by decide +kernel
theorem dc_Main_ship_4 : decode m_Main_ship.2.1 4 = .ok (.invokespecial 166, 3) := by decide +kernel
theorem dc_Main_ship_12 : decode m_Main_ship.2.1 12 = .ok (.invokevirtual 136, 3) := by decide +kernel
theorem dc_Main_ship_20 : decode m_Main_ship.2.1 20 = .ok (.invokevirtual 167, 3) := by decide +kernel
theorem dc_Main_ship_24 : decode m_Main_ship.2.1 24 = .ok (.invokevirtual 143, 3) := by decide +kernel
theorem dc_Main_ship_38 : decode m_Main_ship.2.1 38 = .ok (.invokevirtual 168, 3) := by decide +kernel
theorem dc_Main_ship_55 : decode m_Main_ship.2.1 55 = .ok (.invokevirtual 162, 3) := by decide +kernel
theorem dc_Main_ship_96 : decode m_Main_ship.2.1 96 = .ok (.invokevirtual 119, 3) := by decide +kernel
theorem dc_Main_ship_99 : decode m_Main_ship.2.1 99 = .ok (.ireturn, 1) := by decide +kernel
theorem dc_Main_ship_65 : decode m_Main_ship.2.1 65 = .ok (.invokevirtual 108, 3) := by decide +kernel
theorem dc_Main_ship_68 : decode m_Main_ship.2.1 68 = .ok (.ireturn, 1) := by decide +kernel
theorem dc_Main_ship_60 : decode m_Main_ship.2.1 60 = .ok (.ifCond .eq 9, 3) := by decide +kernel
theorem dc_Main_ship_47 : decode m_Main_ship.2.1 47 = .ok (.if_icmp .ge 7, 3) := by decide +kernel
theorem dc_Main_ship_32 : decode m_Main_ship.2.1 32 = .ok (.invokevirtual 108, 3) := by decide +kernel
theorem dc_Main_ship_35 : decode m_Main_ship.2.1 35 = .ok (.ireturn, 1) := by decide +kernel
theorem dc_Main_ship_27 : decode m_Main_ship.2.1 27 = .ok (.ifCond .ne 9, 3) := by decide +kernel
theorem dc_Main_ship_0 : decode m_Main_ship.2.1 0 = .ok (.new 44, 3) := by decide +kernel
set_option maxRecDepth 20000 in
theorem sg_Main_ship_0 {kc ks : Nat} (a0 : Nat) (h : am_H) (Q : Option Value → am_H → Prop) (t : (am_Ew m_Ship_init 0 0 [.ref (am_sz h)] (am_nw h 6 3) (fun h1 => (am_tg h1 a0 = (11, 18) ∧ (∃ b2, am_P h1 a0 0 = some b2 ∧ (am_tg h1 b2 = (9, 4) ∧ (am_Ew m_Tape_rewind 0 0 [.ref b2] h1 (fun h6 => (am_tg h6 a0 = (11, 18) ∧ (∃ b7, am_P h6 a0 0 = some b7 ∧ (am_tg h6 (am_sz h) = (6, 3) ∧ (am_Ew m_Ship_readFrom 0 0 [.ref (am_sz h), .ref b7] h6 (fun h11 => (am_tg h11 a0 = (11, 18) ∧ (am_Ei m_Main_textWasRight 0 0 [.ref a0] h11 (fun r14 h13 => ((¬ r14 = 0 → (am_tg h13 (am_sz h) = (6, 3) ∧ (am_Ei m_Ship_findFault 0 0 [.ref (am_sz h)] h13 (fun r18 h17 => (am_tg h17 a0 = (11, 18) ∧ ((6 ≤ (am_I h17 a0 13) → (am_Ei m_Main_judge 0 0 [.ref a0, .int r18, .int 0] h17 (fun r22 h21 => ((r22 = 0 → (am_tg h21 a0 = (11, 18) ∧ (∃ b24, am_P h21 a0 5 = some b24 ∧ (am_tg h21 (am_sz h) = (6, (am_tg h21 (am_sz h)).2) ∧ ((am_tg h21 b24).1 = 30 + 6 ∧ (vp_in (am_I h21 a0 13) (am_tg h21 b24).2 ∧ (am_Ei m_Main_answer 0 0 [.ref a0, .int ((am_I (am_si (am_sp h21 b24 ((am_I h21 a0 13).toNatClampNeg) (some (am_sz h))) a0 13 ((am_I h21 a0 13) + 1)) a0 13) - 1)] (am_si (am_sp h21 b24 ((am_I h21 a0 13).toNatClampNeg) (some (am_sz h))) a0 13 ((am_I h21 a0 13) + 1)) (fun r31 h30 => Q (some (.int r31)) h30)))))))) ∧ (¬ r22 = 0 → (am_tg h21 a0 = (11, 18) ∧ (am_Ei m_Main_refuse 0 0 [.ref a0, .int r22] h21 (fun r34 h33 => Q (some (.int r34)) h33)))))))) ∧ (¬ 6 ≤ (am_I h17 a0 13) → (am_Ei m_Main_judge 0 0 [.ref a0, .int r18, .int 1] h17 (fun r36 h35 => ((r36 = 0 → (am_tg h35 a0 = (11, 18) ∧ (∃ b38, am_P h35 a0 5 = some b38 ∧ (am_tg h35 (am_sz h) = (6, (am_tg h35 (am_sz h)).2) ∧ ((am_tg h35 b38).1 = 30 + 6 ∧ (vp_in (am_I h35 a0 13) (am_tg h35 b38).2 ∧ (am_Ei m_Main_answer 0 0 [.ref a0, .int ((am_I (am_si (am_sp h35 b38 ((am_I h35 a0 13).toNatClampNeg) (some (am_sz h))) a0 13 ((am_I h35 a0 13) + 1)) a0 13) - 1)] (am_si (am_sp h35 b38 ((am_I h35 a0 13).toNatClampNeg) (some (am_sz h))) a0 13 ((am_I h35 a0 13) + 1)) (fun r45 h44 => Q (some (.int r45)) h44)))))))) ∧ (¬ r36 = 0 → (am_tg h35 a0 = (11, 18) ∧ (am_Ei m_Main_refuse 0 0 [.ref a0, .int r36] h35 (fun r48 h47 => Q (some (.int r48)) h47)))))))))))))) ∧ (r14 = 0 → (am_tg h13 a0 = (11, 18) ∧ (am_Ei m_Main_refuse 0 0 [.ref a0, .int 2] h13 (fun r51 h50 => Q (some (.int r51)) h50))))))))))))))))))))) : am_EI m_Main_ship (kc + 1) (ks + 3) 0 [.ref a0, .float 0, .float 0] [] h Q := by
  refine am_new (kc := kc) (ks := ks) (ci := 6) dc_Main_ship_0 (by decide) cl_11_44 in_6 ii_6 ?_
  refine am_blk_ok (c := 11) (ini := false) (by decide) rfl (fun q => by cases q) bk_Main_ship_3_1 _ 4 _ _ _ bk_Main_ship_3_1_ok rfl ?_
  show am_EI m_Main_ship kc ks 4 [.ref a0, .float 0, .float 0] [.ref (am_sz h), .ref (am_sz h)] (am_nw h 6 3) Q
  refine am_callIN (M2 := m_Ship_init) (host := "SillHours") (a := am_sz h) (kc := kc) (ks := ks) (k2c := 0) (k2s := 0) (as := [.ref (am_sz h)]) [] dc_Main_ship_4 (by decide) im_Ship_init rfl rfl lm_Ship_init np_Ship_init ⟨Nat.le_of_ble_eq_true rfl, Nat.le_of_ble_eq_true rfl⟩ (fun _ => Nat.le_of_ble_eq_true rfl) (am_Ew.end (am_Ew.mono t (fun h1 t => ?_)))
  refine am_blk_ok (c := 11) (ini := false) (by decide) rfl (fun q => by cases q) bk_Main_ship_7_3 _ 12 _ _ _ bk_Main_ship_7_3_ok rfl ?_
  show (am_tg h1 a0 = (11, 18) ∧ (∃ b2, am_P h1 a0 0 = some b2 ∧ am_EI m_Main_ship kc ks 12 [.ref a0, .ref (am_sz h), .float 0] [.ref b2] h1 Q))
  obtain ⟨o3, b2, q4, t⟩ := t
  refine ⟨o3, b2, q4, ?_⟩
  obtain ⟨o5, t⟩ := t
  refine am_callV (M2 := m_Tape_rewind) (ci := 9) (a := b2) (kc := kc) (ks := ks) (k2c := 0) (k2s := 0) (as := []) [] dc_Main_ship_12 lk_11_136 im_Tape_rewind se_Tape_rewind lm_Tape_rewind np_Tape_rewind ⟨Nat.le_of_ble_eq_true rfl, Nat.le_of_ble_eq_true rfl⟩ (fun _ => Nat.le_of_ble_eq_true rfl) (by decide) rfl o5 (am_Ew.end (am_Ew.mono t (fun h6 t => ?_)))
  refine am_blk_ok (c := 11) (ini := false) (by decide) rfl (fun q => by cases q) bk_Main_ship_15_3 _ 20 _ _ _ bk_Main_ship_15_3_ok rfl ?_
  show (am_tg h6 a0 = (11, 18) ∧ (∃ b7, am_P h6 a0 0 = some b7 ∧ am_EI m_Main_ship kc ks 20 [.ref a0, .ref (am_sz h), .float 0] [.ref b7, .ref (am_sz h)] h6 Q))
  obtain ⟨o8, b7, q9, t⟩ := t
  refine ⟨o8, b7, q9, ?_⟩
  obtain ⟨o10, t⟩ := t
  refine am_callV (M2 := m_Ship_readFrom) (ci := 6) (a := am_sz h) (kc := kc) (ks := ks) (k2c := 0) (k2s := 0) (as := []) [.ref b7] dc_Main_ship_20 lk_11_167 im_Ship_readFrom se_Ship_readFrom lm_Ship_readFrom np_Ship_readFrom ⟨Nat.le_of_ble_eq_true rfl, Nat.le_of_ble_eq_true rfl⟩ (fun _ => Nat.le_of_ble_eq_true rfl) (by decide) rfl o10 (am_Ew.end (am_Ew.mono t (fun h11 t => ?_)))
  refine am_blk_ok (c := 11) (ini := false) (by decide) rfl (fun q => by cases q) bk_Main_ship_23_1 _ 24 _ _ _ bk_Main_ship_23_1_ok rfl ?_
  show am_EI m_Main_ship kc ks 24 [.ref a0, .ref (am_sz h), .float 0] [.ref a0] h11 Q
  obtain ⟨o12, t⟩ := t
  refine am_callV (M2 := m_Main_textWasRight) (ci := 11) (a := a0) (kc := kc) (ks := ks) (k2c := 0) (k2s := 0) (as := []) [] dc_Main_ship_24 lk_11_143 im_Main_textWasRight se_Main_textWasRight lm_Main_textWasRight np_Main_textWasRight ⟨Nat.le_of_ble_eq_true rfl, Nat.le_of_ble_eq_true rfl⟩ (fun _ => Nat.le_of_ble_eq_true rfl) (by decide) rfl o12 (am_Ei.end (am_Ei.mono t (fun r14 h13 t => ?_)))
  refine am_if_ne (tgt := 36) dc_Main_ship_27 (by decide) (fun c15 => ?_) (fun c15 => ?_)
  · replace t := t.1 c15
    refine am_blk_ok (c := 11) (ini := false) (by decide) rfl (fun q => by cases q) bk_Main_ship_36_2 _ 38 _ _ _ bk_Main_ship_36_2_ok rfl ?_
    show am_EI m_Main_ship kc ks 38 [.ref a0, .ref (am_sz h), .float 0] [.ref (am_sz h), .ref a0] h13 Q
    obtain ⟨o16, t⟩ := t
    refine am_callV (M2 := m_Ship_findFault) (ci := 6) (a := am_sz h) (kc := kc) (ks := ks) (k2c := 0) (k2s := 0) (as := [.ref a0]) [] dc_Main_ship_38 lk_11_168 im_Ship_findFault se_Ship_findFault lm_Ship_findFault np_Ship_findFault ⟨Nat.le_of_ble_eq_true rfl, Nat.le_of_ble_eq_true rfl⟩ (fun _ => Nat.le_of_ble_eq_true rfl) (by decide) rfl o16 (am_Ei.end (am_Ei.mono t (fun r18 h17 t => ?_)))
    refine am_blk_ok (c := 11) (ini := false) (by decide) rfl (fun q => by cases q) bk_Main_ship_41_3 _ 47 _ _ _ bk_Main_ship_41_3_ok rfl ?_
    show (am_tg h17 a0 = (11, 18) ∧ am_EI m_Main_ship kc ks 47 [.ref a0, .ref (am_sz h), .float 0] [.int 6, .int (am_I h17 a0 13), .int r18, .ref a0] h17 Q)
    obtain ⟨o19, t⟩ := t
    refine ⟨o19, ?_⟩
    refine am_ic_ge (tgt := 54) dc_Main_ship_47 (by decide) (fun c20 => ?_) (fun c20 => ?_)
    · replace t := t.1 c20
      refine am_blk_ok (c := 11) (ini := false) (by decide) rfl (fun q => by cases q) bk_Main_ship_54_1 _ 55 _ _ _ bk_Main_ship_54_1_ok rfl ?_
      show am_EI m_Main_ship kc ks 55 [.ref a0, .ref (am_sz h), .float 0] [.int 0, .int r18, .ref a0] h17 Q
      refine am_callV (M2 := m_Main_judge) (ci := 11) (a := a0) (kc := kc) (ks := ks) (k2c := 0) (k2s := 0) (as := []) [.int r18, .int 0] dc_Main_ship_55 lk_11_162 im_Main_judge se_Main_judge lm_Main_judge np_Main_judge ⟨Nat.le_of_ble_eq_true rfl, Nat.le_of_ble_eq_true rfl⟩ (fun _ => Nat.le_of_ble_eq_true rfl) (by decide) rfl o19 (am_Ei.end (am_Ei.mono t (fun r22 h21 t => ?_)))
      refine am_blk_ok (c := 11) (ini := false) (by decide) rfl (fun q => by cases q) bk_Main_ship_58_2 _ 60 _ _ _ bk_Main_ship_58_2_ok rfl ?_
      show am_EI m_Main_ship kc ks 60 [.ref a0, .ref (am_sz h), .int r22] [.int r22] h21 Q
      refine am_if_eq (tgt := 69) dc_Main_ship_60 (by decide) (fun c23 => ?_) (fun c23 => ?_)
      · replace t := t.1 c23
        refine am_blk_ok (c := 11) (ini := false) (by decide) rfl (fun q => by cases q) bk_Main_ship_69_17 _ 96 _ _ _ bk_Main_ship_69_17_ok rfl ?_
        show (am_tg h21 a0 = (11, 18) ∧ (∃ b24, am_P h21 a0 5 = some b24 ∧ (am_tg h21 a0 = (11, 18) ∧ (am_tg h21 (am_sz h) = (6, (am_tg h21 (am_sz h)).2) ∧ ((am_tg h21 b24).1 = 30 + 6 ∧ ((6 = 2 ∨ 6 = 4 ∨ 6 = 6 ∨ 6 = 7 ∨ 6 = 8) ∧ (vp_in (am_I h21 a0 13) (am_tg h21 b24).2 ∧ (am_tg h21 a0 = (11, 18) ∧ (am_tg h21 a0 = (11, 18) ∧ (am_tg h21 a0 = (11, 18) ∧ am_EI m_Main_ship kc ks 96 [.ref a0, .ref (am_sz h), .int r22] [.int ((am_I (am_si (am_sp h21 b24 ((am_I h21 a0 13).toNatClampNeg) (some (am_sz h))) a0 13 ((am_I h21 a0 13) + 1)) a0 13) - 1), .ref a0] (am_si (am_sp h21 b24 ((am_I h21 a0 13).toNatClampNeg) (some (am_sz h))) a0 13 ((am_I h21 a0 13) + 1)) Q))))))))))
        obtain ⟨o25, b24, q26, o27, o28, o29, t⟩ := t
        refine ⟨o25, b24, q26, o25, o27, o28, (by decide), o29, o25, o25, o25, ?_⟩
        refine am_callV (M2 := m_Main_answer) (ci := 11) (a := a0) (kc := kc) (ks := ks) (k2c := 0) (k2s := 0) (as := []) [.int ((am_I (am_si (am_sp h21 b24 ((am_I h21 a0 13).toNatClampNeg) (some (am_sz h))) a0 13 ((am_I h21 a0 13) + 1)) a0 13) - 1)] dc_Main_ship_96 lk_11_119 im_Main_answer se_Main_answer lm_Main_answer np_Main_answer ⟨Nat.le_of_ble_eq_true rfl, Nat.le_of_ble_eq_true rfl⟩ (fun _ => Nat.le_of_ble_eq_true rfl) (by decide) rfl o25 (am_Ei.end (am_Ei.mono t (fun r31 h30 t => ?_)))
        exact am_iret dc_Main_ship_99 rfl t
      · replace t := t.2 c23
        refine am_blk_ok (c := 11) (ini := false) (by decide) rfl (fun q => by cases q) bk_Main_ship_63_2 _ 65 _ _ _ bk_Main_ship_63_2_ok rfl ?_
        show am_EI m_Main_ship kc ks 65 [.ref a0, .ref (am_sz h), .int r22] [.int r22, .ref a0] h21 Q
        obtain ⟨o32, t⟩ := t
        refine am_callV (M2 := m_Main_refuse) (ci := 11) (a := a0) (kc := kc) (ks := ks) (k2c := 0) (k2s := 0) (as := []) [.int r22] dc_Main_ship_65 lk_11_108 im_Main_refuse se_Main_refuse lm_Main_refuse np_Main_refuse ⟨Nat.le_of_ble_eq_true rfl, Nat.le_of_ble_eq_true rfl⟩ (fun _ => Nat.le_of_ble_eq_true rfl) (by decide) rfl o32 (am_Ei.end (am_Ei.mono t (fun r34 h33 t => ?_)))
        exact am_iret dc_Main_ship_68 rfl t
    · replace t := t.2 c20
      refine am_blk_ok (c := 11) (ini := false) (by decide) rfl (fun q => by cases q) bk_Main_ship_50_2 _ 55 _ _ _ bk_Main_ship_50_2_ok rfl ?_
      show am_EI m_Main_ship kc ks 55 [.ref a0, .ref (am_sz h), .float 0] [.int 1, .int r18, .ref a0] h17 Q
      refine am_callV (M2 := m_Main_judge) (ci := 11) (a := a0) (kc := kc) (ks := ks) (k2c := 0) (k2s := 0) (as := []) [.int r18, .int 1] dc_Main_ship_55 lk_11_162 im_Main_judge se_Main_judge lm_Main_judge np_Main_judge ⟨Nat.le_of_ble_eq_true rfl, Nat.le_of_ble_eq_true rfl⟩ (fun _ => Nat.le_of_ble_eq_true rfl) (by decide) rfl o19 (am_Ei.end (am_Ei.mono t (fun r36 h35 t => ?_)))
      refine am_blk_ok (c := 11) (ini := false) (by decide) rfl (fun q => by cases q) bk_Main_ship_58_2 _ 60 _ _ _ bk_Main_ship_58_2_ok rfl ?_
      show am_EI m_Main_ship kc ks 60 [.ref a0, .ref (am_sz h), .int r36] [.int r36] h35 Q
      refine am_if_eq (tgt := 69) dc_Main_ship_60 (by decide) (fun c37 => ?_) (fun c37 => ?_)
      · replace t := t.1 c37
        refine am_blk_ok (c := 11) (ini := false) (by decide) rfl (fun q => by cases q) bk_Main_ship_69_17 _ 96 _ _ _ bk_Main_ship_69_17_ok rfl ?_
        show (am_tg h35 a0 = (11, 18) ∧ (∃ b38, am_P h35 a0 5 = some b38 ∧ (am_tg h35 a0 = (11, 18) ∧ (am_tg h35 (am_sz h) = (6, (am_tg h35 (am_sz h)).2) ∧ ((am_tg h35 b38).1 = 30 + 6 ∧ ((6 = 2 ∨ 6 = 4 ∨ 6 = 6 ∨ 6 = 7 ∨ 6 = 8) ∧ (vp_in (am_I h35 a0 13) (am_tg h35 b38).2 ∧ (am_tg h35 a0 = (11, 18) ∧ (am_tg h35 a0 = (11, 18) ∧ (am_tg h35 a0 = (11, 18) ∧ am_EI m_Main_ship kc ks 96 [.ref a0, .ref (am_sz h), .int r36] [.int ((am_I (am_si (am_sp h35 b38 ((am_I h35 a0 13).toNatClampNeg) (some (am_sz h))) a0 13 ((am_I h35 a0 13) + 1)) a0 13) - 1), .ref a0] (am_si (am_sp h35 b38 ((am_I h35 a0 13).toNatClampNeg) (some (am_sz h))) a0 13 ((am_I h35 a0 13) + 1)) Q))))))))))
        obtain ⟨o39, b38, q40, o41, o42, o43, t⟩ := t
        refine ⟨o39, b38, q40, o39, o41, o42, (by decide), o43, o39, o39, o39, ?_⟩
        refine am_callV (M2 := m_Main_answer) (ci := 11) (a := a0) (kc := kc) (ks := ks) (k2c := 0) (k2s := 0) (as := []) [.int ((am_I (am_si (am_sp h35 b38 ((am_I h35 a0 13).toNatClampNeg) (some (am_sz h))) a0 13 ((am_I h35 a0 13) + 1)) a0 13) - 1)] dc_Main_ship_96 lk_11_119 im_Main_answer se_Main_answer lm_Main_answer np_Main_answer ⟨Nat.le_of_ble_eq_true rfl, Nat.le_of_ble_eq_true rfl⟩ (fun _ => Nat.le_of_ble_eq_true rfl) (by decide) rfl o39 (am_Ei.end (am_Ei.mono t (fun r45 h44 t => ?_)))
        exact am_iret dc_Main_ship_99 rfl t
      · replace t := t.2 c37
        refine am_blk_ok (c := 11) (ini := false) (by decide) rfl (fun q => by cases q) bk_Main_ship_63_2 _ 65 _ _ _ bk_Main_ship_63_2_ok rfl ?_
        show am_EI m_Main_ship kc ks 65 [.ref a0, .ref (am_sz h), .int r36] [.int r36, .ref a0] h35 Q
        obtain ⟨o46, t⟩ := t
        refine am_callV (M2 := m_Main_refuse) (ci := 11) (a := a0) (kc := kc) (ks := ks) (k2c := 0) (k2s := 0) (as := []) [.int r36] dc_Main_ship_65 lk_11_108 im_Main_refuse se_Main_refuse lm_Main_refuse np_Main_refuse ⟨Nat.le_of_ble_eq_true rfl, Nat.le_of_ble_eq_true rfl⟩ (fun _ => Nat.le_of_ble_eq_true rfl) (by decide) rfl o46 (am_Ei.end (am_Ei.mono t (fun r48 h47 t => ?_)))
        exact am_iret dc_Main_ship_68 rfl t
  · replace t := t.2 c15
    refine am_blk_ok (c := 11) (ini := false) (by decide) rfl (fun q => by cases q) bk_Main_ship_30_2 _ 32 _ _ _ bk_Main_ship_30_2_ok rfl ?_
    show am_EI m_Main_ship kc ks 32 [.ref a0, .ref (am_sz h), .float 0] [.int 2, .ref a0] h13 Q
    obtain ⟨o49, t⟩ := t
    refine am_callV (M2 := m_Main_refuse) (ci := 11) (a := a0) (kc := kc) (ks := ks) (k2c := 0) (k2s := 0) (as := []) [.int 2] dc_Main_ship_32 lk_11_108 im_Main_refuse se_Main_refuse lm_Main_refuse np_Main_refuse ⟨Nat.le_of_ble_eq_true rfl, Nat.le_of_ble_eq_true rfl⟩ (fun _ => Nat.le_of_ble_eq_true rfl) (by decide) rfl o49 (am_Ei.end (am_Ei.mono t (fun r51 h50 t => ?_)))
    exact am_iret dc_Main_ship_35 rfl t
set_option maxRecDepth 20000 in
theorem ev_Main_ship (a0 : Nat) (h : am_H) (Q : Int32 → am_H → Prop) (t : (am_Ew m_Ship_init 0 0 [.ref (am_sz h)] (am_nw h 6 3) (fun h1 => (am_tg h1 a0 = (11, 18) ∧ (∃ b2, am_P h1 a0 0 = some b2 ∧ (am_tg h1 b2 = (9, 4) ∧ (am_Ew m_Tape_rewind 0 0 [.ref b2] h1 (fun h6 => (am_tg h6 a0 = (11, 18) ∧ (∃ b7, am_P h6 a0 0 = some b7 ∧ (am_tg h6 (am_sz h) = (6, 3) ∧ (am_Ew m_Ship_readFrom 0 0 [.ref (am_sz h), .ref b7] h6 (fun h11 => (am_tg h11 a0 = (11, 18) ∧ (am_Ei m_Main_textWasRight 0 0 [.ref a0] h11 (fun r14 h13 => ((¬ r14 = 0 → (am_tg h13 (am_sz h) = (6, 3) ∧ (am_Ei m_Ship_findFault 0 0 [.ref (am_sz h)] h13 (fun r18 h17 => (am_tg h17 a0 = (11, 18) ∧ ((6 ≤ (am_I h17 a0 13) → (am_Ei m_Main_judge 0 0 [.ref a0, .int r18, .int 0] h17 (fun r22 h21 => ((r22 = 0 → (am_tg h21 a0 = (11, 18) ∧ (∃ b24, am_P h21 a0 5 = some b24 ∧ (am_tg h21 (am_sz h) = (6, (am_tg h21 (am_sz h)).2) ∧ ((am_tg h21 b24).1 = 30 + 6 ∧ (vp_in (am_I h21 a0 13) (am_tg h21 b24).2 ∧ (am_Ei m_Main_answer 0 0 [.ref a0, .int ((am_I (am_si (am_sp h21 b24 ((am_I h21 a0 13).toNatClampNeg) (some (am_sz h))) a0 13 ((am_I h21 a0 13) + 1)) a0 13) - 1)] (am_si (am_sp h21 b24 ((am_I h21 a0 13).toNatClampNeg) (some (am_sz h))) a0 13 ((am_I h21 a0 13) + 1)) (fun r31 h30 => Q r31 h30)))))))) ∧ (¬ r22 = 0 → (am_tg h21 a0 = (11, 18) ∧ (am_Ei m_Main_refuse 0 0 [.ref a0, .int r22] h21 (fun r34 h33 => Q r34 h33)))))))) ∧ (¬ 6 ≤ (am_I h17 a0 13) → (am_Ei m_Main_judge 0 0 [.ref a0, .int r18, .int 1] h17 (fun r36 h35 => ((r36 = 0 → (am_tg h35 a0 = (11, 18) ∧ (∃ b38, am_P h35 a0 5 = some b38 ∧ (am_tg h35 (am_sz h) = (6, (am_tg h35 (am_sz h)).2) ∧ ((am_tg h35 b38).1 = 30 + 6 ∧ (vp_in (am_I h35 a0 13) (am_tg h35 b38).2 ∧ (am_Ei m_Main_answer 0 0 [.ref a0, .int ((am_I (am_si (am_sp h35 b38 ((am_I h35 a0 13).toNatClampNeg) (some (am_sz h))) a0 13 ((am_I h35 a0 13) + 1)) a0 13) - 1)] (am_si (am_sp h35 b38 ((am_I h35 a0 13).toNatClampNeg) (some (am_sz h))) a0 13 ((am_I h35 a0 13) + 1)) (fun r45 h44 => Q r45 h44)))))))) ∧ (¬ r36 = 0 → (am_tg h35 a0 = (11, 18) ∧ (am_Ei m_Main_refuse 0 0 [.ref a0, .int r36] h35 (fun r48 h47 => Q r48 h47)))))))))))))) ∧ (r14 = 0 → (am_tg h13 a0 = (11, 18) ∧ (am_Ei m_Main_refuse 0 0 [.ref a0, .int 2] h13 (fun r51 h50 => Q r51 h50))))))))))))))))))))) : am_Ei m_Main_ship (0 + 1) (0 + 3) [.ref a0] h Q :=
  am_Ev.of (by decide +kernel) (Nat.le_of_ble_eq_true rfl) (by simp only [List.mem_cons, List.not_mem_nil, or_false]; intro v hv; rcases hv with rfl; all_goals first | exact trivial) (sg_Main_ship_0 (kc := 0) (ks := 0) a0 h (am_qi Q) t)
def bk_Main_shipAt_0_1 : List am_E := [(0, .iload_n 1, 1, 0, 0)]
theorem bk_Main_shipAt_0_1_ok : bk_Main_shipAt_0_1.all (am_ok 11 false m_Main_shipAt.2.1) = true := by decide +kernel
def bk_Main_shipAt_27_1 : List am_E := [(27, .aconst_null, 1, 0, 0)]
theorem bk_Main_shipAt_27_1_ok : bk_Main_shipAt_27_1.all (am_ok 11 false m_Main_shipAt.2.1) = true := by decide +kernel
def bk_Main_shipAt_4_3 : List am_E := [(4, .iload_n 1, 1, 0, 0), (5, .aload_n 0, 1, 0, 0), (6, .getfield 89, 3, 4452, 0)]
theorem bk_Main_shipAt_4_3_ok : bk_Main_shipAt_4_3.all (am_ok 11 false m_Main_shipAt.2.1) = true := by decide +kernel
def bk_Main_shipAt_12_2 : List am_E := [(12, .iload_n 1, 1, 0, 0), (13, .bipush 6, 2, 0, 6)]
theorem bk_Main_shipAt_12_2_ok : bk_Main_shipAt_12_2.all (am_ok 11 false m_Main_shipAt.2.1) = true := by decide +kernel
def bk_Main_shipAt_18_5 : List am_E := [(18, .aload_n 0, 1, 0, 0), (19, .getfield 46, 3, 4421, 0), (22, .iload_n 1, 1, 0, 0), (23, .aaload, 1, 36, 0), (24, .goto 4, 3, 0, 4)]
theorem bk_Main_shipAt_18_5_ok : bk_Main_shipAt_18_5.all (am_ok 11 false m_Main_shipAt.2.1) = true := by decide +kernel
theorem dc_Main_shipAt_28 : decode m_Main_shipAt.2.1 28 = .ok (.areturn, 1) := by decide +kernel
theorem dc_Main_shipAt_15 : decode m_Main_shipAt.2.1 15 = .ok (.if_icmp .ge 12, 3) := by decide +kernel
theorem dc_Main_shipAt_9 : decode m_Main_shipAt.2.1 9 = .ok (.if_icmp .ge 18, 3) := by decide +kernel
theorem dc_Main_shipAt_1 : decode m_Main_shipAt.2.1 1 = .ok (.ifCond .lt 26, 3) := by decide +kernel
set_option maxRecDepth 20000 in
theorem sg_Main_shipAt_0 {kc ks : Nat} (a0 : Nat) (x1 : Int32) (h : am_H) (Q : Option Value → am_H → Prop) (t : ((x1 < 0 → Q (some (.null)) h) ∧ (¬ x1 < 0 → (am_tg h a0 = (11, 18) ∧ (((am_I h a0 13) ≤ x1 → Q (some (.null)) h) ∧ (¬ (am_I h a0 13) ≤ x1 → ((6 ≤ x1 → Q (some (.null)) h) ∧ (¬ 6 ≤ x1 → (∃ b5, am_P h a0 5 = some b5 ∧ ((am_tg h b5).1 = 36 ∧ (vp_in x1 (am_tg h b5).2 ∧ (∃ b6, am_P h b5 x1.toNatClampNeg = some b6 ∧ Q (some (.ref b6)) h)))))))))))) : am_EI m_Main_shipAt kc ks 0 [.ref a0, .int x1] [] h Q := by
  refine am_blk_ok (c := 11) (ini := false) (by decide) rfl (fun q => by cases q) bk_Main_shipAt_0_1 _ 1 _ _ _ bk_Main_shipAt_0_1_ok rfl ?_
  show am_EI m_Main_shipAt kc ks 1 [.ref a0, .int x1] [.int x1] h Q
  refine am_if_lt (tgt := 27) dc_Main_shipAt_1 (by decide) (fun c1 => ?_) (fun c1 => ?_)
  · replace t := t.1 c1
    refine am_blk_ok (c := 11) (ini := false) (by decide) rfl (fun q => by cases q) bk_Main_shipAt_27_1 _ 28 _ _ _ bk_Main_shipAt_27_1_ok rfl ?_
    show am_EI m_Main_shipAt kc ks 28 [.ref a0, .int x1] [.null] h Q
    exact am_aret (o := none) dc_Main_shipAt_28 rfl rfl t
  · replace t := t.2 c1
    refine am_blk_ok (c := 11) (ini := false) (by decide) rfl (fun q => by cases q) bk_Main_shipAt_4_3 _ 9 _ _ _ bk_Main_shipAt_4_3_ok rfl ?_
    show (am_tg h a0 = (11, 18) ∧ am_EI m_Main_shipAt kc ks 9 [.ref a0, .int x1] [.int (am_I h a0 13), .int x1] h Q)
    obtain ⟨o2, t⟩ := t
    refine ⟨o2, ?_⟩
    refine am_ic_ge (tgt := 27) dc_Main_shipAt_9 (by decide) (fun c3 => ?_) (fun c3 => ?_)
    · replace t := t.1 c3
      refine am_blk_ok (c := 11) (ini := false) (by decide) rfl (fun q => by cases q) bk_Main_shipAt_27_1 _ 28 _ _ _ bk_Main_shipAt_27_1_ok rfl ?_
      show am_EI m_Main_shipAt kc ks 28 [.ref a0, .int x1] [.null] h Q
      exact am_aret (o := none) dc_Main_shipAt_28 rfl rfl t
    · replace t := t.2 c3
      refine am_blk_ok (c := 11) (ini := false) (by decide) rfl (fun q => by cases q) bk_Main_shipAt_12_2 _ 15 _ _ _ bk_Main_shipAt_12_2_ok rfl ?_
      show am_EI m_Main_shipAt kc ks 15 [.ref a0, .int x1] [.int 6, .int x1] h Q
      refine am_ic_ge (tgt := 27) dc_Main_shipAt_15 (by decide) (fun c4 => ?_) (fun c4 => ?_)
      · replace t := t.1 c4
        refine am_blk_ok (c := 11) (ini := false) (by decide) rfl (fun q => by cases q) bk_Main_shipAt_27_1 _ 28 _ _ _ bk_Main_shipAt_27_1_ok rfl ?_
        show am_EI m_Main_shipAt kc ks 28 [.ref a0, .int x1] [.null] h Q
        exact am_aret (o := none) dc_Main_shipAt_28 rfl rfl t
      · replace t := t.2 c4
        refine am_blk_ok (c := 11) (ini := false) (by decide) rfl (fun q => by cases q) bk_Main_shipAt_18_5 _ 28 _ _ _ bk_Main_shipAt_18_5_ok rfl ?_
        show (am_tg h a0 = (11, 18) ∧ (∃ b5, am_P h a0 5 = some b5 ∧ ((am_tg h b5).1 = 36 ∧ ((36 ∈ am_ks ∧ 30 ≤ 36) ∧ (vp_in x1 (am_tg h b5).2 ∧ (∃ b6, am_P h b5 x1.toNatClampNeg = some b6 ∧ am_EI m_Main_shipAt kc ks 28 [.ref a0, .int x1] [.ref b6] h Q))))))
        obtain ⟨b5, q7, o8, o9, b6, q10, t⟩ := t
        refine ⟨o2, b5, q7, o8, ⟨by decide, by decide⟩, o9, b6, q10, ?_⟩
        exact am_aret (o := some b6) dc_Main_shipAt_28 rfl rfl t
set_option maxRecDepth 20000 in
theorem ev_Main_shipAt (a0 : Nat) (x1 : Int32) (h : am_H) (Q : Option Nat → am_H → Prop) (t : ((x1 < 0 → Q none h) ∧ (¬ x1 < 0 → (am_tg h a0 = (11, 18) ∧ (((am_I h a0 13) ≤ x1 → Q none h) ∧ (¬ (am_I h a0 13) ≤ x1 → ((6 ≤ x1 → Q none h) ∧ (¬ 6 ≤ x1 → (∃ b5, am_P h a0 5 = some b5 ∧ ((am_tg h b5).1 = 36 ∧ (vp_in x1 (am_tg h b5).2 ∧ (∃ b6, am_P h b5 x1.toNatClampNeg = some b6 ∧ Q (some b6) h)))))))))))) : am_Er m_Main_shipAt 0 0 [.ref a0, .int x1] h Q :=
  am_Ev.of (by decide +kernel) (Nat.le_of_ble_eq_true rfl) (by simp only [List.mem_cons, List.not_mem_nil, or_false]; intro v hv; rcases hv with rfl | rfl; all_goals first | exact trivial) (sg_Main_shipAt_0 (kc := 0) (ks := 0) a0 x1 h (am_qr Q) t)
def bk_Main_sill_0_2 : List am_E := [(0, .aload_n 0, 1, 0, 0), (1, .iload_n 1, 1, 0, 0)]
theorem bk_Main_sill_0_2_ok : bk_Main_sill_0_2.all (am_ok 11 false m_Main_sill.2.1) = true := by decide +kernel
def bk_Main_sill_5_2 : List am_E := [(5, .astore_n 2, 1, 0, 0), (6, .aload_n 2, 1, 0, 0)]
theorem bk_Main_sill_5_2_ok : bk_Main_sill_5_2.all (am_ok 11 false m_Main_sill.2.1) = true := by decide +kernel
def bk_Main_sill_10_1 : List am_E := [(10, .aload_n 0, 1, 0, 0)]
theorem bk_Main_sill_10_1_ok : bk_Main_sill_10_1.all (am_ok 11 false m_Main_sill.2.1) = true := by decide +kernel
def bk_Main_sill_18_2 : List am_E := [(18, .dup, 1, 0, 0), (19, .aload_n 2, 1, 0, 0)]
theorem bk_Main_sill_18_2_ok : bk_Main_sill_18_2.all (am_ok 11 false m_Main_sill.2.1) = true := by decide +kernel
def bk_Main_sill_23_3 : List am_E := [(23, .astore_n 3, 1, 0, 0), (24, .aload_n 0, 1, 0, 0), (25, .getfield 10, 3, 4401, 0)]
theorem bk_Main_sill_23_3_ok : bk_Main_sill_23_3.all (am_ok 11 false m_Main_sill.2.1) = true := by decide +kernel
def bk_Main_sill_31_3 : List am_E := [(31, .aload_n 3, 1, 0, 0), (32, .aload_n 0, 1, 0, 0), (33, .getfield 10, 3, 4401, 0)]
theorem bk_Main_sill_31_3_ok : bk_Main_sill_31_3.all (am_ok 11 false m_Main_sill.2.1) = true := by decide +kernel
def bk_Main_sill_39_1 : List am_E := [(39, .aload_n 0, 1, 0, 0)]
theorem bk_Main_sill_39_1_ok : bk_Main_sill_39_1.all (am_ok 11 false m_Main_sill.2.1) = true := by decide +kernel
def bk_Main_sill_52_2 : List am_E := [(52, .aload_n 0, 1, 0, 0), (53, .aload_n 3, 1, 0, 0)]
theorem bk_Main_sill_52_2_ok : bk_Main_sill_52_2.all (am_ok 11 false m_Main_sill.2.1) = true := by decide +kernel
def bk_Main_sill_57_3 : List am_E := [(57, .aload_n 0, 1, 0, 0), (58, .getfield 86, 3, 4448, 0), (61, .bipush 12, 2, 0, 12)]
theorem bk_Main_sill_57_3_ok : bk_Main_sill_57_3.all (am_ok 11 false m_Main_sill.2.1) = true := by decide +kernel
def bk_Main_sill_70_1 : List am_E := [(70, .iconst 0, 1, 0, 0)]
theorem bk_Main_sill_70_1_ok : bk_Main_sill_70_1.all (am_ok 11 false m_Main_sill.2.1) = true := by decide +kernel
def bk_Main_sill_74_2 : List am_E := [(74, .istore 4, 2, 0, 0), (76, .iload 4, 2, 0, 0)]
theorem bk_Main_sill_74_2_ok : bk_Main_sill_74_2.all (am_ok 11 false m_Main_sill.2.1) = true := by decide +kernel
def bk_Main_sill_88_17 : List am_E := [(88, .aload_n 0, 1, 0, 0), (89, .getfield 40, 3, 4417, 0), (92, .aload_n 0, 1, 0, 0), (93, .getfield 86, 3, 4448, 0), (96, .aload_n 3, 1, 0, 0), (97, .aastore, 1, 7, 0), (98, .aload_n 0, 1, 0, 0), (99, .dup, 1, 0, 0), (100, .getfield 86, 3, 4448, 0), (103, .iconst 1, 1, 0, 1), (104, .iadd, 1, 0, 0), (105, .putfield 86, 3, 4448, 0), (108, .aload_n 0, 1, 0, 0), (109, .aload_n 0, 1, 0, 0), (110, .getfield 86, 3, 4448, 0), (113, .iconst 1, 1, 0, 1), (114, .isub, 1, 0, 0)]
theorem bk_Main_sill_88_17_ok : bk_Main_sill_88_17.all (am_ok 11 false m_Main_sill.2.1) = true := by decide +kernel
def bk_Main_sill_81_2 : List am_E := [(81, .aload_n 0, 1, 0, 0), (82, .iload 4, 2, 0, 0)]
theorem bk_Main_sill_81_2_ok : bk_Main_sill_81_2.all (am_ok 11 false m_Main_sill.2.1) = true := by decide +kernel
def bk_Main_sill_66_2 : List am_E := [(66, .iconst 1, 1, 0, 1), (67, .goto 4, 3, 0, 4)]
theorem bk_Main_sill_66_2_ok : bk_Main_sill_66_2.all (am_ok 11 false m_Main_sill.2.1) = true := by decide +kernel
def bk_Main_sill_46_2 : List am_E := [(46, .aload_n 0, 1, 0, 0), (47, .iconst 2, 1, 0, 2)]
theorem bk_Main_sill_46_2_ok : bk_Main_sill_46_2.all (am_ok 11 false m_Main_sill.2.1) = true := by decide +kernel
theorem dc_Main_sill_2 : decode m_Main_sill.2.1 2 = .ok (.invokevirtual 129, 3) := by decide +kernel
theorem dc_Main_sill_7 : decode m_Main_sill.2.1 7 = .ok (.ifnonnull 8, 3) := by decide +kernel
theorem dc_Main_sill_11 : decode m_Main_sill.2.1 11 = .ok (.invokevirtual 133, 3) := by decide +kernel
theorem dc_Main_sill_14 : decode m_Main_sill.2.1 14 = .ok (.ireturn, 1) := by decide +kernel
theorem dc_Main_sill_20 : decode m_Main_sill.2.1 20 = .ok (.invokespecial 153, 3) := by decide +kernel
theorem dc_Main_sill_28 : decode m_Main_sill.2.1 28 = .ok (.invokevirtual 136, 3) := by decide +kernel
theorem dc_Main_sill_36 : decode m_Main_sill.2.1 36 = .ok (.invokevirtual 156, 3) := by decide +kernel
theorem dc_Main_sill_40 : decode m_Main_sill.2.1 40 = .ok (.invokevirtual 143, 3) := by decide +kernel
theorem dc_Main_sill_54 : decode m_Main_sill.2.1 54 = .ok (.invokevirtual 159, 3) := by decide +kernel
theorem dc_Main_sill_71 : decode m_Main_sill.2.1 71 = .ok (.invokevirtual 162, 3) := by decide +kernel
theorem dc_Main_sill_115 : decode m_Main_sill.2.1 115 = .ok (.invokevirtual 119, 3) := by decide +kernel
theorem dc_Main_sill_118 : decode m_Main_sill.2.1 118 = .ok (.ireturn, 1) := by decide +kernel
theorem dc_Main_sill_84 : decode m_Main_sill.2.1 84 = .ok (.invokevirtual 108, 3) := by decide +kernel
theorem dc_Main_sill_87 : decode m_Main_sill.2.1 87 = .ok (.ireturn, 1) := by decide +kernel
theorem dc_Main_sill_78 : decode m_Main_sill.2.1 78 = .ok (.ifCond .eq 10, 3) := by decide +kernel
theorem dc_Main_sill_63 : decode m_Main_sill.2.1 63 = .ok (.if_icmp .ge 7, 3) := by decide +kernel
theorem dc_Main_sill_48 : decode m_Main_sill.2.1 48 = .ok (.invokevirtual 108, 3) := by decide +kernel
theorem dc_Main_sill_51 : decode m_Main_sill.2.1 51 = .ok (.ireturn, 1) := by decide +kernel
theorem dc_Main_sill_43 : decode m_Main_sill.2.1 43 = .ok (.ifCond .ne 9, 3) := by decide +kernel
theorem dc_Main_sill_15 : decode m_Main_sill.2.1 15 = .ok (.new 38, 3) := by decide +kernel
set_option maxRecDepth 20000 in
theorem sg_Main_sill_0 {kc ks : Nat} (a0 : Nat) (x1 : Int32) (h : am_H) (Q : Option Value → am_H → Prop) (t : (am_tg h a0 = (11, 18) ∧ (am_Er m_Main_portAt 0 0 [.ref a0, .int x1] h (fun r3 h2 => (r3 = none → (am_tg h2 a0 = (11, 18) ∧ (am_Ei m_Main_refuseUnread 0 0 [.ref a0] h2 (fun r8 h7 => Q (some (.int r8)) h7)))) ∧ ∀ b4, r3 = some b4 → (am_Ew m_Sill_init 0 0 [.ref (am_sz h2), .ref b4] (am_nw h2 7 5) (fun h9 => (am_tg h9 a0 = (11, 18) ∧ (∃ b10, am_P h9 a0 0 = some b10 ∧ (am_tg h9 b10 = (9, 4) ∧ (am_Ew m_Tape_rewind 0 0 [.ref b10] h9 (fun h14 => (am_tg h14 a0 = (11, 18) ∧ (∃ b15, am_P h14 a0 0 = some b15 ∧ (am_tg h14 (am_sz h2) = (7, 5) ∧ (am_Ew m_Sill_readFrom 0 0 [.ref (am_sz h2), .ref b15] h14 (fun h19 => (am_tg h19 a0 = (11, 18) ∧ (am_Ei m_Main_textWasRight 0 0 [.ref a0] h19 (fun r22 h21 => ((¬ r22 = 0 → (am_tg h21 (am_sz h2) = (7, 5) ∧ (am_Ei m_Sill_findFault 0 0 [.ref (am_sz h2)] h21 (fun r26 h25 => (am_tg h25 a0 = (11, 18) ∧ ((12 ≤ (am_I h25 a0 12) → (am_Ei m_Main_judge 0 0 [.ref a0, .int r26, .int 0] h25 (fun r30 h29 => ((r30 = 0 → (am_tg h29 a0 = (11, 18) ∧ (∃ b32, am_P h29 a0 4 = some b32 ∧ (am_tg h29 (am_sz h2) = (7, (am_tg h29 (am_sz h2)).2) ∧ ((am_tg h29 b32).1 = 30 + 7 ∧ (vp_in (am_I h29 a0 12) (am_tg h29 b32).2 ∧ (am_Ei m_Main_answer 0 0 [.ref a0, .int ((am_I (am_si (am_sp h29 b32 ((am_I h29 a0 12).toNatClampNeg) (some (am_sz h2))) a0 12 ((am_I h29 a0 12) + 1)) a0 12) - 1)] (am_si (am_sp h29 b32 ((am_I h29 a0 12).toNatClampNeg) (some (am_sz h2))) a0 12 ((am_I h29 a0 12) + 1)) (fun r39 h38 => Q (some (.int r39)) h38)))))))) ∧ (¬ r30 = 0 → (am_tg h29 a0 = (11, 18) ∧ (am_Ei m_Main_refuse 0 0 [.ref a0, .int r30] h29 (fun r42 h41 => Q (some (.int r42)) h41)))))))) ∧ (¬ 12 ≤ (am_I h25 a0 12) → (am_Ei m_Main_judge 0 0 [.ref a0, .int r26, .int 1] h25 (fun r44 h43 => ((r44 = 0 → (am_tg h43 a0 = (11, 18) ∧ (∃ b46, am_P h43 a0 4 = some b46 ∧ (am_tg h43 (am_sz h2) = (7, (am_tg h43 (am_sz h2)).2) ∧ ((am_tg h43 b46).1 = 30 + 7 ∧ (vp_in (am_I h43 a0 12) (am_tg h43 b46).2 ∧ (am_Ei m_Main_answer 0 0 [.ref a0, .int ((am_I (am_si (am_sp h43 b46 ((am_I h43 a0 12).toNatClampNeg) (some (am_sz h2))) a0 12 ((am_I h43 a0 12) + 1)) a0 12) - 1)] (am_si (am_sp h43 b46 ((am_I h43 a0 12).toNatClampNeg) (some (am_sz h2))) a0 12 ((am_I h43 a0 12) + 1)) (fun r53 h52 => Q (some (.int r53)) h52)))))))) ∧ (¬ r44 = 0 → (am_tg h43 a0 = (11, 18) ∧ (am_Ei m_Main_refuse 0 0 [.ref a0, .int r44] h43 (fun r56 h55 => Q (some (.int r56)) h55)))))))))))))) ∧ (r22 = 0 → (am_tg h21 a0 = (11, 18) ∧ (am_Ei m_Main_refuse 0 0 [.ref a0, .int 2] h21 (fun r59 h58 => Q (some (.int r59)) h58)))))))))))))))))))))))) : am_EI m_Main_sill (kc + 1) (ks + 5) 0 [.ref a0, .int x1, .float 0, .float 0, .float 0] [] h Q := by
  refine am_blk_ok (c := 11) (ini := false) (by decide) rfl (fun q => by cases q) bk_Main_sill_0_2 _ 2 _ _ _ bk_Main_sill_0_2_ok rfl ?_
  show am_EI m_Main_sill (kc + 1) (ks + 5) 2 [.ref a0, .int x1, .float 0, .float 0, .float 0] [.int x1, .ref a0] h Q
  obtain ⟨o1, t⟩ := t
  refine am_callV (M2 := m_Main_portAt) (ci := 11) (a := a0) (kc := (kc + 1)) (ks := (ks + 5)) (k2c := 0) (k2s := 0) (as := []) [.int x1] dc_Main_sill_2 lk_11_129 im_Main_portAt se_Main_portAt lm_Main_portAt np_Main_portAt ⟨Nat.le_of_ble_eq_true rfl, Nat.le_of_ble_eq_true rfl⟩ (fun _ => Nat.le_of_ble_eq_true rfl) (by decide) rfl o1 (am_Er.end (am_Er.mono t (fun r3 h2 t => ⟨fun c5 => ?_, fun b4 c5 => ?_⟩)))
  · replace t := t.1 c5
    refine am_blk_ok (c := 11) (ini := false) (by decide) rfl (fun q => by cases q) bk_Main_sill_5_2 _ 7 _ _ _ bk_Main_sill_5_2_ok rfl ?_
    show am_EI m_Main_sill (kc + 1) (ks + 5) 7 [.ref a0, .int x1, .null, .float 0, .float 0] [.null] h2 Q
    refine am_ifnonnullN dc_Main_sill_7 ?_
    refine am_EI.more (kc := kc) (ks := ks) 1 5 ?_
    refine am_blk_ok (c := 11) (ini := false) (by decide) rfl (fun q => by cases q) bk_Main_sill_10_1 _ 11 _ _ _ bk_Main_sill_10_1_ok rfl ?_
    show am_EI m_Main_sill kc ks 11 [.ref a0, .int x1, .null, .float 0, .float 0] [.ref a0] h2 Q
    obtain ⟨o6, t⟩ := t
    refine am_callV (M2 := m_Main_refuseUnread) (ci := 11) (a := a0) (kc := kc) (ks := ks) (k2c := 0) (k2s := 0) (as := []) [] dc_Main_sill_11 lk_11_133 im_Main_refuseUnread se_Main_refuseUnread lm_Main_refuseUnread np_Main_refuseUnread ⟨Nat.le_of_ble_eq_true rfl, Nat.le_of_ble_eq_true rfl⟩ (fun _ => Nat.le_of_ble_eq_true rfl) (by decide) rfl o6 (am_Ei.end (am_Ei.mono t (fun r8 h7 t => ?_)))
    exact am_iret dc_Main_sill_14 rfl t
  · replace t := t.2 b4 c5
    refine am_blk_ok (c := 11) (ini := false) (by decide) rfl (fun q => by cases q) bk_Main_sill_5_2 _ 7 _ _ _ bk_Main_sill_5_2_ok rfl ?_
    show am_EI m_Main_sill (kc + 1) (ks + 5) 7 [.ref a0, .int x1, .ref b4, .float 0, .float 0] [.ref b4] h2 Q
    refine am_ifnonnull (tgt := 15) dc_Main_sill_7 (by decide) ?_
    refine am_new (kc := kc) (ks := ks) (ci := 7) dc_Main_sill_15 (by decide) cl_11_38 in_7 ii_7 ?_
    refine am_blk_ok (c := 11) (ini := false) (by decide) rfl (fun q => by cases q) bk_Main_sill_18_2 _ 20 _ _ _ bk_Main_sill_18_2_ok rfl ?_
    show am_EI m_Main_sill kc ks 20 [.ref a0, .int x1, .ref b4, .float 0, .float 0] [.ref b4, .ref (am_sz h2), .ref (am_sz h2)] (am_nw h2 7 5) Q
    refine am_callI (M2 := m_Sill_init) (a := am_sz h2) (kc := kc) (ks := ks) (k2c := 0) (k2s := 0) (as := [.ref (am_sz h2)]) [.ref b4] dc_Main_sill_20 lk_11_153 im_Sill_init rfl rfl lm_Sill_init np_Sill_init ⟨Nat.le_of_ble_eq_true rfl, Nat.le_of_ble_eq_true rfl⟩ (fun _ => Nat.le_of_ble_eq_true rfl) (am_Ew.end (am_Ew.mono t (fun h9 t => ?_)))
    refine am_blk_ok (c := 11) (ini := false) (by decide) rfl (fun q => by cases q) bk_Main_sill_23_3 _ 28 _ _ _ bk_Main_sill_23_3_ok rfl ?_
    show (am_tg h9 a0 = (11, 18) ∧ (∃ b10, am_P h9 a0 0 = some b10 ∧ am_EI m_Main_sill kc ks 28 [.ref a0, .int x1, .ref b4, .ref (am_sz h2), .float 0] [.ref b10] h9 Q))
    obtain ⟨o11, b10, q12, t⟩ := t
    refine ⟨o11, b10, q12, ?_⟩
    obtain ⟨o13, t⟩ := t
    refine am_callV (M2 := m_Tape_rewind) (ci := 9) (a := b10) (kc := kc) (ks := ks) (k2c := 0) (k2s := 0) (as := []) [] dc_Main_sill_28 lk_11_136 im_Tape_rewind se_Tape_rewind lm_Tape_rewind np_Tape_rewind ⟨Nat.le_of_ble_eq_true rfl, Nat.le_of_ble_eq_true rfl⟩ (fun _ => Nat.le_of_ble_eq_true rfl) (by decide) rfl o13 (am_Ew.end (am_Ew.mono t (fun h14 t => ?_)))
    refine am_blk_ok (c := 11) (ini := false) (by decide) rfl (fun q => by cases q) bk_Main_sill_31_3 _ 36 _ _ _ bk_Main_sill_31_3_ok rfl ?_
    show (am_tg h14 a0 = (11, 18) ∧ (∃ b15, am_P h14 a0 0 = some b15 ∧ am_EI m_Main_sill kc ks 36 [.ref a0, .int x1, .ref b4, .ref (am_sz h2), .float 0] [.ref b15, .ref (am_sz h2)] h14 Q))
    obtain ⟨o16, b15, q17, t⟩ := t
    refine ⟨o16, b15, q17, ?_⟩
    obtain ⟨o18, t⟩ := t
    refine am_callV (M2 := m_Sill_readFrom) (ci := 7) (a := am_sz h2) (kc := kc) (ks := ks) (k2c := 0) (k2s := 0) (as := []) [.ref b15] dc_Main_sill_36 lk_11_156 im_Sill_readFrom se_Sill_readFrom lm_Sill_readFrom np_Sill_readFrom ⟨Nat.le_of_ble_eq_true rfl, Nat.le_of_ble_eq_true rfl⟩ (fun _ => Nat.le_of_ble_eq_true rfl) (by decide) rfl o18 (am_Ew.end (am_Ew.mono t (fun h19 t => ?_)))
    refine am_blk_ok (c := 11) (ini := false) (by decide) rfl (fun q => by cases q) bk_Main_sill_39_1 _ 40 _ _ _ bk_Main_sill_39_1_ok rfl ?_
    show am_EI m_Main_sill kc ks 40 [.ref a0, .int x1, .ref b4, .ref (am_sz h2), .float 0] [.ref a0] h19 Q
    obtain ⟨o20, t⟩ := t
    refine am_callV (M2 := m_Main_textWasRight) (ci := 11) (a := a0) (kc := kc) (ks := ks) (k2c := 0) (k2s := 0) (as := []) [] dc_Main_sill_40 lk_11_143 im_Main_textWasRight se_Main_textWasRight lm_Main_textWasRight np_Main_textWasRight ⟨Nat.le_of_ble_eq_true rfl, Nat.le_of_ble_eq_true rfl⟩ (fun _ => Nat.le_of_ble_eq_true rfl) (by decide) rfl o20 (am_Ei.end (am_Ei.mono t (fun r22 h21 t => ?_)))
    refine am_if_ne (tgt := 52) dc_Main_sill_43 (by decide) (fun c23 => ?_) (fun c23 => ?_)
    · replace t := t.1 c23
      refine am_blk_ok (c := 11) (ini := false) (by decide) rfl (fun q => by cases q) bk_Main_sill_52_2 _ 54 _ _ _ bk_Main_sill_52_2_ok rfl ?_
      show am_EI m_Main_sill kc ks 54 [.ref a0, .int x1, .ref b4, .ref (am_sz h2), .float 0] [.ref (am_sz h2), .ref a0] h21 Q
      obtain ⟨o24, t⟩ := t
      refine am_callV (M2 := m_Sill_findFault) (ci := 7) (a := am_sz h2) (kc := kc) (ks := ks) (k2c := 0) (k2s := 0) (as := [.ref a0]) [] dc_Main_sill_54 lk_11_159 im_Sill_findFault se_Sill_findFault lm_Sill_findFault np_Sill_findFault ⟨Nat.le_of_ble_eq_true rfl, Nat.le_of_ble_eq_true rfl⟩ (fun _ => Nat.le_of_ble_eq_true rfl) (by decide) rfl o24 (am_Ei.end (am_Ei.mono t (fun r26 h25 t => ?_)))
      refine am_blk_ok (c := 11) (ini := false) (by decide) rfl (fun q => by cases q) bk_Main_sill_57_3 _ 63 _ _ _ bk_Main_sill_57_3_ok rfl ?_
      show (am_tg h25 a0 = (11, 18) ∧ am_EI m_Main_sill kc ks 63 [.ref a0, .int x1, .ref b4, .ref (am_sz h2), .float 0] [.int 12, .int (am_I h25 a0 12), .int r26, .ref a0] h25 Q)
      obtain ⟨o27, t⟩ := t
      refine ⟨o27, ?_⟩
      refine am_ic_ge (tgt := 70) dc_Main_sill_63 (by decide) (fun c28 => ?_) (fun c28 => ?_)
      · replace t := t.1 c28
        refine am_blk_ok (c := 11) (ini := false) (by decide) rfl (fun q => by cases q) bk_Main_sill_70_1 _ 71 _ _ _ bk_Main_sill_70_1_ok rfl ?_
        show am_EI m_Main_sill kc ks 71 [.ref a0, .int x1, .ref b4, .ref (am_sz h2), .float 0] [.int 0, .int r26, .ref a0] h25 Q
        refine am_callV (M2 := m_Main_judge) (ci := 11) (a := a0) (kc := kc) (ks := ks) (k2c := 0) (k2s := 0) (as := []) [.int r26, .int 0] dc_Main_sill_71 lk_11_162 im_Main_judge se_Main_judge lm_Main_judge np_Main_judge ⟨Nat.le_of_ble_eq_true rfl, Nat.le_of_ble_eq_true rfl⟩ (fun _ => Nat.le_of_ble_eq_true rfl) (by decide) rfl o27 (am_Ei.end (am_Ei.mono t (fun r30 h29 t => ?_)))
        refine am_blk_ok (c := 11) (ini := false) (by decide) rfl (fun q => by cases q) bk_Main_sill_74_2 _ 78 _ _ _ bk_Main_sill_74_2_ok rfl ?_
        show am_EI m_Main_sill kc ks 78 [.ref a0, .int x1, .ref b4, .ref (am_sz h2), .int r30] [.int r30] h29 Q
        refine am_if_eq (tgt := 88) dc_Main_sill_78 (by decide) (fun c31 => ?_) (fun c31 => ?_)
        · replace t := t.1 c31
          refine am_blk_ok (c := 11) (ini := false) (by decide) rfl (fun q => by cases q) bk_Main_sill_88_17 _ 115 _ _ _ bk_Main_sill_88_17_ok rfl ?_
          show (am_tg h29 a0 = (11, 18) ∧ (∃ b32, am_P h29 a0 4 = some b32 ∧ (am_tg h29 a0 = (11, 18) ∧ (am_tg h29 (am_sz h2) = (7, (am_tg h29 (am_sz h2)).2) ∧ ((am_tg h29 b32).1 = 30 + 7 ∧ ((7 = 2 ∨ 7 = 4 ∨ 7 = 6 ∨ 7 = 7 ∨ 7 = 8) ∧ (vp_in (am_I h29 a0 12) (am_tg h29 b32).2 ∧ (am_tg h29 a0 = (11, 18) ∧ (am_tg h29 a0 = (11, 18) ∧ (am_tg h29 a0 = (11, 18) ∧ am_EI m_Main_sill kc ks 115 [.ref a0, .int x1, .ref b4, .ref (am_sz h2), .int r30] [.int ((am_I (am_si (am_sp h29 b32 ((am_I h29 a0 12).toNatClampNeg) (some (am_sz h2))) a0 12 ((am_I h29 a0 12) + 1)) a0 12) - 1), .ref a0] (am_si (am_sp h29 b32 ((am_I h29 a0 12).toNatClampNeg) (some (am_sz h2))) a0 12 ((am_I h29 a0 12) + 1)) Q))))))))))
          obtain ⟨o33, b32, q34, o35, o36, o37, t⟩ := t
          refine ⟨o33, b32, q34, o33, o35, o36, (by decide), o37, o33, o33, o33, ?_⟩
          refine am_callV (M2 := m_Main_answer) (ci := 11) (a := a0) (kc := kc) (ks := ks) (k2c := 0) (k2s := 0) (as := []) [.int ((am_I (am_si (am_sp h29 b32 ((am_I h29 a0 12).toNatClampNeg) (some (am_sz h2))) a0 12 ((am_I h29 a0 12) + 1)) a0 12) - 1)] dc_Main_sill_115 lk_11_119 im_Main_answer se_Main_answer lm_Main_answer np_Main_answer ⟨Nat.le_of_ble_eq_true rfl, Nat.le_of_ble_eq_true rfl⟩ (fun _ => Nat.le_of_ble_eq_true rfl) (by decide) rfl o33 (am_Ei.end (am_Ei.mono t (fun r39 h38 t => ?_)))
          exact am_iret dc_Main_sill_118 rfl t
        · replace t := t.2 c31
          refine am_blk_ok (c := 11) (ini := false) (by decide) rfl (fun q => by cases q) bk_Main_sill_81_2 _ 84 _ _ _ bk_Main_sill_81_2_ok rfl ?_
          show am_EI m_Main_sill kc ks 84 [.ref a0, .int x1, .ref b4, .ref (am_sz h2), .int r30] [.int r30, .ref a0] h29 Q
          obtain ⟨o40, t⟩ := t
          refine am_callV (M2 := m_Main_refuse) (ci := 11) (a := a0) (kc := kc) (ks := ks) (k2c := 0) (k2s := 0) (as := []) [.int r30] dc_Main_sill_84 lk_11_108 im_Main_refuse se_Main_refuse lm_Main_refuse np_Main_refuse ⟨Nat.le_of_ble_eq_true rfl, Nat.le_of_ble_eq_true rfl⟩ (fun _ => Nat.le_of_ble_eq_true rfl) (by decide) rfl o40 (am_Ei.end (am_Ei.mono t (fun r42 h41 t => ?_)))
          exact am_iret dc_Main_sill_87 rfl t
      · replace t := t.2 c28
        refine am_blk_ok (c := 11) (ini := false) (by decide) rfl (fun q => by cases q) bk_Main_sill_66_2 _ 71 _ _ _ bk_Main_sill_66_2_ok rfl ?_
        show am_EI m_Main_sill kc ks 71 [.ref a0, .int x1, .ref b4, .ref (am_sz h2), .float 0] [.int 1, .int r26, .ref a0] h25 Q
        refine am_callV (M2 := m_Main_judge) (ci := 11) (a := a0) (kc := kc) (ks := ks) (k2c := 0) (k2s := 0) (as := []) [.int r26, .int 1] dc_Main_sill_71 lk_11_162 im_Main_judge se_Main_judge lm_Main_judge np_Main_judge ⟨Nat.le_of_ble_eq_true rfl, Nat.le_of_ble_eq_true rfl⟩ (fun _ => Nat.le_of_ble_eq_true rfl) (by decide) rfl o27 (am_Ei.end (am_Ei.mono t (fun r44 h43 t => ?_)))
        refine am_blk_ok (c := 11) (ini := false) (by decide) rfl (fun q => by cases q) bk_Main_sill_74_2 _ 78 _ _ _ bk_Main_sill_74_2_ok rfl ?_
        show am_EI m_Main_sill kc ks 78 [.ref a0, .int x1, .ref b4, .ref (am_sz h2), .int r44] [.int r44] h43 Q
        refine am_if_eq (tgt := 88) dc_Main_sill_78 (by decide) (fun c45 => ?_) (fun c45 => ?_)
        · replace t := t.1 c45
          refine am_blk_ok (c := 11) (ini := false) (by decide) rfl (fun q => by cases q) bk_Main_sill_88_17 _ 115 _ _ _ bk_Main_sill_88_17_ok rfl ?_
          show (am_tg h43 a0 = (11, 18) ∧ (∃ b46, am_P h43 a0 4 = some b46 ∧ (am_tg h43 a0 = (11, 18) ∧ (am_tg h43 (am_sz h2) = (7, (am_tg h43 (am_sz h2)).2) ∧ ((am_tg h43 b46).1 = 30 + 7 ∧ ((7 = 2 ∨ 7 = 4 ∨ 7 = 6 ∨ 7 = 7 ∨ 7 = 8) ∧ (vp_in (am_I h43 a0 12) (am_tg h43 b46).2 ∧ (am_tg h43 a0 = (11, 18) ∧ (am_tg h43 a0 = (11, 18) ∧ (am_tg h43 a0 = (11, 18) ∧ am_EI m_Main_sill kc ks 115 [.ref a0, .int x1, .ref b4, .ref (am_sz h2), .int r44] [.int ((am_I (am_si (am_sp h43 b46 ((am_I h43 a0 12).toNatClampNeg) (some (am_sz h2))) a0 12 ((am_I h43 a0 12) + 1)) a0 12) - 1), .ref a0] (am_si (am_sp h43 b46 ((am_I h43 a0 12).toNatClampNeg) (some (am_sz h2))) a0 12 ((am_I h43 a0 12) + 1)) Q))))))))))
          obtain ⟨o47, b46, q48, o49, o50, o51, t⟩ := t
          refine ⟨o47, b46, q48, o47, o49, o50, (by decide), o51, o47, o47, o47, ?_⟩
          refine am_callV (M2 := m_Main_answer) (ci := 11) (a := a0) (kc := kc) (ks := ks) (k2c := 0) (k2s := 0) (as := []) [.int ((am_I (am_si (am_sp h43 b46 ((am_I h43 a0 12).toNatClampNeg) (some (am_sz h2))) a0 12 ((am_I h43 a0 12) + 1)) a0 12) - 1)] dc_Main_sill_115 lk_11_119 im_Main_answer se_Main_answer lm_Main_answer np_Main_answer ⟨Nat.le_of_ble_eq_true rfl, Nat.le_of_ble_eq_true rfl⟩ (fun _ => Nat.le_of_ble_eq_true rfl) (by decide) rfl o47 (am_Ei.end (am_Ei.mono t (fun r53 h52 t => ?_)))
          exact am_iret dc_Main_sill_118 rfl t
        · replace t := t.2 c45
          refine am_blk_ok (c := 11) (ini := false) (by decide) rfl (fun q => by cases q) bk_Main_sill_81_2 _ 84 _ _ _ bk_Main_sill_81_2_ok rfl ?_
          show am_EI m_Main_sill kc ks 84 [.ref a0, .int x1, .ref b4, .ref (am_sz h2), .int r44] [.int r44, .ref a0] h43 Q
          obtain ⟨o54, t⟩ := t
          refine am_callV (M2 := m_Main_refuse) (ci := 11) (a := a0) (kc := kc) (ks := ks) (k2c := 0) (k2s := 0) (as := []) [.int r44] dc_Main_sill_84 lk_11_108 im_Main_refuse se_Main_refuse lm_Main_refuse np_Main_refuse ⟨Nat.le_of_ble_eq_true rfl, Nat.le_of_ble_eq_true rfl⟩ (fun _ => Nat.le_of_ble_eq_true rfl) (by decide) rfl o54 (am_Ei.end (am_Ei.mono t (fun r56 h55 t => ?_)))
          exact am_iret dc_Main_sill_87 rfl t
    · replace t := t.2 c23
      refine am_blk_ok (c := 11) (ini := false) (by decide) rfl (fun q => by cases q) bk_Main_sill_46_2 _ 48 _ _ _ bk_Main_sill_46_2_ok rfl ?_
      show am_EI m_Main_sill kc ks 48 [.ref a0, .int x1, .ref b4, .ref (am_sz h2), .float 0] [.int 2, .ref a0] h21 Q
      obtain ⟨o57, t⟩ := t
      refine am_callV (M2 := m_Main_refuse) (ci := 11) (a := a0) (kc := kc) (ks := ks) (k2c := 0) (k2s := 0) (as := []) [.int 2] dc_Main_sill_48 lk_11_108 im_Main_refuse se_Main_refuse lm_Main_refuse np_Main_refuse ⟨Nat.le_of_ble_eq_true rfl, Nat.le_of_ble_eq_true rfl⟩ (fun _ => Nat.le_of_ble_eq_true rfl) (by decide) rfl o57 (am_Ei.end (am_Ei.mono t (fun r59 h58 t => ?_)))
      exact am_iret dc_Main_sill_51 rfl t
set_option maxRecDepth 20000 in
theorem ev_Main_sill (a0 : Nat) (x1 : Int32) (h : am_H) (Q : Int32 → am_H → Prop) (t : (am_tg h a0 = (11, 18) ∧ (am_Er m_Main_portAt 0 0 [.ref a0, .int x1] h (fun r3 h2 => (r3 = none → (am_tg h2 a0 = (11, 18) ∧ (am_Ei m_Main_refuseUnread 0 0 [.ref a0] h2 (fun r8 h7 => Q r8 h7)))) ∧ ∀ b4, r3 = some b4 → (am_Ew m_Sill_init 0 0 [.ref (am_sz h2), .ref b4] (am_nw h2 7 5) (fun h9 => (am_tg h9 a0 = (11, 18) ∧ (∃ b10, am_P h9 a0 0 = some b10 ∧ (am_tg h9 b10 = (9, 4) ∧ (am_Ew m_Tape_rewind 0 0 [.ref b10] h9 (fun h14 => (am_tg h14 a0 = (11, 18) ∧ (∃ b15, am_P h14 a0 0 = some b15 ∧ (am_tg h14 (am_sz h2) = (7, 5) ∧ (am_Ew m_Sill_readFrom 0 0 [.ref (am_sz h2), .ref b15] h14 (fun h19 => (am_tg h19 a0 = (11, 18) ∧ (am_Ei m_Main_textWasRight 0 0 [.ref a0] h19 (fun r22 h21 => ((¬ r22 = 0 → (am_tg h21 (am_sz h2) = (7, 5) ∧ (am_Ei m_Sill_findFault 0 0 [.ref (am_sz h2)] h21 (fun r26 h25 => (am_tg h25 a0 = (11, 18) ∧ ((12 ≤ (am_I h25 a0 12) → (am_Ei m_Main_judge 0 0 [.ref a0, .int r26, .int 0] h25 (fun r30 h29 => ((r30 = 0 → (am_tg h29 a0 = (11, 18) ∧ (∃ b32, am_P h29 a0 4 = some b32 ∧ (am_tg h29 (am_sz h2) = (7, (am_tg h29 (am_sz h2)).2) ∧ ((am_tg h29 b32).1 = 30 + 7 ∧ (vp_in (am_I h29 a0 12) (am_tg h29 b32).2 ∧ (am_Ei m_Main_answer 0 0 [.ref a0, .int ((am_I (am_si (am_sp h29 b32 ((am_I h29 a0 12).toNatClampNeg) (some (am_sz h2))) a0 12 ((am_I h29 a0 12) + 1)) a0 12) - 1)] (am_si (am_sp h29 b32 ((am_I h29 a0 12).toNatClampNeg) (some (am_sz h2))) a0 12 ((am_I h29 a0 12) + 1)) (fun r39 h38 => Q r39 h38)))))))) ∧ (¬ r30 = 0 → (am_tg h29 a0 = (11, 18) ∧ (am_Ei m_Main_refuse 0 0 [.ref a0, .int r30] h29 (fun r42 h41 => Q r42 h41)))))))) ∧ (¬ 12 ≤ (am_I h25 a0 12) → (am_Ei m_Main_judge 0 0 [.ref a0, .int r26, .int 1] h25 (fun r44 h43 => ((r44 = 0 → (am_tg h43 a0 = (11, 18) ∧ (∃ b46, am_P h43 a0 4 = some b46 ∧ (am_tg h43 (am_sz h2) = (7, (am_tg h43 (am_sz h2)).2) ∧ ((am_tg h43 b46).1 = 30 + 7 ∧ (vp_in (am_I h43 a0 12) (am_tg h43 b46).2 ∧ (am_Ei m_Main_answer 0 0 [.ref a0, .int ((am_I (am_si (am_sp h43 b46 ((am_I h43 a0 12).toNatClampNeg) (some (am_sz h2))) a0 12 ((am_I h43 a0 12) + 1)) a0 12) - 1)] (am_si (am_sp h43 b46 ((am_I h43 a0 12).toNatClampNeg) (some (am_sz h2))) a0 12 ((am_I h43 a0 12) + 1)) (fun r53 h52 => Q r53 h52)))))))) ∧ (¬ r44 = 0 → (am_tg h43 a0 = (11, 18) ∧ (am_Ei m_Main_refuse 0 0 [.ref a0, .int r44] h43 (fun r56 h55 => Q r56 h55)))))))))))))) ∧ (r22 = 0 → (am_tg h21 a0 = (11, 18) ∧ (am_Ei m_Main_refuse 0 0 [.ref a0, .int 2] h21 (fun r59 h58 => Q r59 h58)))))))))))))))))))))))) : am_Ei m_Main_sill (0 + 1) (0 + 5) [.ref a0, .int x1] h Q :=
  am_Ev.of (by decide +kernel) (Nat.le_of_ble_eq_true rfl) (by simp only [List.mem_cons, List.not_mem_nil, or_false]; intro v hv; rcases hv with rfl | rfl; all_goals first | exact trivial) (sg_Main_sill_0 (kc := 0) (ks := 0) a0 x1 h (am_qi Q) t)
def bk_Main_sillAt_0_1 : List am_E := [(0, .iload_n 1, 1, 0, 0)]
theorem bk_Main_sillAt_0_1_ok : bk_Main_sillAt_0_1.all (am_ok 11 false m_Main_sillAt.2.1) = true := by decide +kernel
def bk_Main_sillAt_27_1 : List am_E := [(27, .aconst_null, 1, 0, 0)]
theorem bk_Main_sillAt_27_1_ok : bk_Main_sillAt_27_1.all (am_ok 11 false m_Main_sillAt.2.1) = true := by decide +kernel
def bk_Main_sillAt_4_3 : List am_E := [(4, .iload_n 1, 1, 0, 0), (5, .aload_n 0, 1, 0, 0), (6, .getfield 86, 3, 4448, 0)]
theorem bk_Main_sillAt_4_3_ok : bk_Main_sillAt_4_3.all (am_ok 11 false m_Main_sillAt.2.1) = true := by decide +kernel
def bk_Main_sillAt_12_2 : List am_E := [(12, .iload_n 1, 1, 0, 0), (13, .bipush 12, 2, 0, 12)]
theorem bk_Main_sillAt_12_2_ok : bk_Main_sillAt_12_2.all (am_ok 11 false m_Main_sillAt.2.1) = true := by decide +kernel
def bk_Main_sillAt_18_5 : List am_E := [(18, .aload_n 0, 1, 0, 0), (19, .getfield 40, 3, 4417, 0), (22, .iload_n 1, 1, 0, 0), (23, .aaload, 1, 37, 0), (24, .goto 4, 3, 0, 4)]
theorem bk_Main_sillAt_18_5_ok : bk_Main_sillAt_18_5.all (am_ok 11 false m_Main_sillAt.2.1) = true := by decide +kernel
theorem dc_Main_sillAt_28 : decode m_Main_sillAt.2.1 28 = .ok (.areturn, 1) := by decide +kernel
theorem dc_Main_sillAt_15 : decode m_Main_sillAt.2.1 15 = .ok (.if_icmp .ge 12, 3) := by decide +kernel
theorem dc_Main_sillAt_9 : decode m_Main_sillAt.2.1 9 = .ok (.if_icmp .ge 18, 3) := by decide +kernel
theorem dc_Main_sillAt_1 : decode m_Main_sillAt.2.1 1 = .ok (.ifCond .lt 26, 3) := by decide +kernel
set_option maxRecDepth 20000 in
theorem sg_Main_sillAt_0 {kc ks : Nat} (a0 : Nat) (x1 : Int32) (h : am_H) (Q : Option Value → am_H → Prop) (t : ((x1 < 0 → Q (some (.null)) h) ∧ (¬ x1 < 0 → (am_tg h a0 = (11, 18) ∧ (((am_I h a0 12) ≤ x1 → Q (some (.null)) h) ∧ (¬ (am_I h a0 12) ≤ x1 → ((12 ≤ x1 → Q (some (.null)) h) ∧ (¬ 12 ≤ x1 → (∃ b5, am_P h a0 4 = some b5 ∧ ((am_tg h b5).1 = 37 ∧ (vp_in x1 (am_tg h b5).2 ∧ (∃ b6, am_P h b5 x1.toNatClampNeg = some b6 ∧ Q (some (.ref b6)) h)))))))))))) : am_EI m_Main_sillAt kc ks 0 [.ref a0, .int x1] [] h Q := by
  refine am_blk_ok (c := 11) (ini := false) (by decide) rfl (fun q => by cases q) bk_Main_sillAt_0_1 _ 1 _ _ _ bk_Main_sillAt_0_1_ok rfl ?_
  show am_EI m_Main_sillAt kc ks 1 [.ref a0, .int x1] [.int x1] h Q
  refine am_if_lt (tgt := 27) dc_Main_sillAt_1 (by decide) (fun c1 => ?_) (fun c1 => ?_)
  · replace t := t.1 c1
    refine am_blk_ok (c := 11) (ini := false) (by decide) rfl (fun q => by cases q) bk_Main_sillAt_27_1 _ 28 _ _ _ bk_Main_sillAt_27_1_ok rfl ?_
    show am_EI m_Main_sillAt kc ks 28 [.ref a0, .int x1] [.null] h Q
    exact am_aret (o := none) dc_Main_sillAt_28 rfl rfl t
  · replace t := t.2 c1
    refine am_blk_ok (c := 11) (ini := false) (by decide) rfl (fun q => by cases q) bk_Main_sillAt_4_3 _ 9 _ _ _ bk_Main_sillAt_4_3_ok rfl ?_
    show (am_tg h a0 = (11, 18) ∧ am_EI m_Main_sillAt kc ks 9 [.ref a0, .int x1] [.int (am_I h a0 12), .int x1] h Q)
    obtain ⟨o2, t⟩ := t
    refine ⟨o2, ?_⟩
    refine am_ic_ge (tgt := 27) dc_Main_sillAt_9 (by decide) (fun c3 => ?_) (fun c3 => ?_)
    · replace t := t.1 c3
      refine am_blk_ok (c := 11) (ini := false) (by decide) rfl (fun q => by cases q) bk_Main_sillAt_27_1 _ 28 _ _ _ bk_Main_sillAt_27_1_ok rfl ?_
      show am_EI m_Main_sillAt kc ks 28 [.ref a0, .int x1] [.null] h Q
      exact am_aret (o := none) dc_Main_sillAt_28 rfl rfl t
    · replace t := t.2 c3
      refine am_blk_ok (c := 11) (ini := false) (by decide) rfl (fun q => by cases q) bk_Main_sillAt_12_2 _ 15 _ _ _ bk_Main_sillAt_12_2_ok rfl ?_
      show am_EI m_Main_sillAt kc ks 15 [.ref a0, .int x1] [.int 12, .int x1] h Q
      refine am_ic_ge (tgt := 27) dc_Main_sillAt_15 (by decide) (fun c4 => ?_) (fun c4 => ?_)
      · replace t := t.1 c4
        refine am_blk_ok (c := 11) (ini := false) (by decide) rfl (fun q => by cases q) bk_Main_sillAt_27_1 _ 28 _ _ _ bk_Main_sillAt_27_1_ok rfl ?_
        show am_EI m_Main_sillAt kc ks 28 [.ref a0, .int x1] [.null] h Q
        exact am_aret (o := none) dc_Main_sillAt_28 rfl rfl t
      · replace t := t.2 c4
        refine am_blk_ok (c := 11) (ini := false) (by decide) rfl (fun q => by cases q) bk_Main_sillAt_18_5 _ 28 _ _ _ bk_Main_sillAt_18_5_ok rfl ?_
        show (am_tg h a0 = (11, 18) ∧ (∃ b5, am_P h a0 4 = some b5 ∧ ((am_tg h b5).1 = 37 ∧ ((37 ∈ am_ks ∧ 30 ≤ 37) ∧ (vp_in x1 (am_tg h b5).2 ∧ (∃ b6, am_P h b5 x1.toNatClampNeg = some b6 ∧ am_EI m_Main_sillAt kc ks 28 [.ref a0, .int x1] [.ref b6] h Q))))))
        obtain ⟨b5, q7, o8, o9, b6, q10, t⟩ := t
        refine ⟨o2, b5, q7, o8, ⟨by decide, by decide⟩, o9, b6, q10, ?_⟩
        exact am_aret (o := some b6) dc_Main_sillAt_28 rfl rfl t
set_option maxRecDepth 20000 in
theorem ev_Main_sillAt (a0 : Nat) (x1 : Int32) (h : am_H) (Q : Option Nat → am_H → Prop) (t : ((x1 < 0 → Q none h) ∧ (¬ x1 < 0 → (am_tg h a0 = (11, 18) ∧ (((am_I h a0 12) ≤ x1 → Q none h) ∧ (¬ (am_I h a0 12) ≤ x1 → ((12 ≤ x1 → Q none h) ∧ (¬ 12 ≤ x1 → (∃ b5, am_P h a0 4 = some b5 ∧ ((am_tg h b5).1 = 37 ∧ (vp_in x1 (am_tg h b5).2 ∧ (∃ b6, am_P h b5 x1.toNatClampNeg = some b6 ∧ Q (some b6) h)))))))))))) : am_Er m_Main_sillAt 0 0 [.ref a0, .int x1] h Q :=
  am_Ev.of (by decide +kernel) (Nat.le_of_ble_eq_true rfl) (by simp only [List.mem_cons, List.not_mem_nil, or_false]; intro v hv; rcases hv with rfl | rfl; all_goals first | exact trivial) (sg_Main_sillAt_0 (kc := 0) (ks := 0) a0 x1 h (am_qr Q) t)
def bk_Main_start_0_2 : List am_E := [(0, .aload_n 0, 1, 0, 0), (1, .iload_n 1, 1, 0, 0)]
theorem bk_Main_start_0_2_ok : bk_Main_start_0_2.all (am_ok 11 false m_Main_start.2.1) = true := by decide +kernel
def bk_Main_start_5_3 : List am_E := [(5, .astore 4, 2, 0, 0), (7, .aload_n 0, 1, 0, 0), (8, .iload_n 2, 1, 0, 0)]
theorem bk_Main_start_5_3_ok : bk_Main_start_5_3.all (am_ok 11 false m_Main_start.2.1) = true := by decide +kernel
def bk_Main_start_12_2 : List am_E := [(12, .astore 5, 2, 0, 0), (14, .aload 4, 2, 0, 0)]
theorem bk_Main_start_12_2_ok : bk_Main_start_12_2.all (am_ok 11 false m_Main_start.2.1) = true := by decide +kernel
def bk_Main_start_24_2 : List am_E := [(24, .aload_n 0, 1, 0, 0), (25, .iconst 1, 1, 0, 1)]
theorem bk_Main_start_24_2_ok : bk_Main_start_24_2.all (am_ok 11 false m_Main_start.2.1) = true := by decide +kernel
def bk_Main_start_19_1 : List am_E := [(19, .aload 5, 2, 0, 0)]
theorem bk_Main_start_19_1_ok : bk_Main_start_19_1.all (am_ok 11 false m_Main_start.2.1) = true := by decide +kernel
def bk_Main_start_30_1 : List am_E := [(30, .iload_n 3, 1, 0, 0)]
theorem bk_Main_start_30_1_ok : bk_Main_start_30_1.all (am_ok 11 false m_Main_start.2.1) = true := by decide +kernel
def bk_Main_start_43_5 : List am_E := [(43, .aload_n 0, 1, 0, 0), (44, .getfield 71, 3, 4437, 0), (47, .aload 4, 2, 0, 0), (49, .aload 5, 2, 0, 0), (51, .iload_n 3, 1, 0, 0)]
theorem bk_Main_start_43_5_ok : bk_Main_start_43_5.all (am_ok 11 false m_Main_start.2.1) = true := by decide +kernel
def bk_Main_start_55_4 : List am_E := [(55, .istore 6, 2, 0, 0), (57, .aload_n 0, 1, 0, 0), (58, .iload 6, 2, 0, 0), (60, .ldc_w 278, 3, 0, -2147483648)]
theorem bk_Main_start_55_4_ok : bk_Main_start_55_4.all (am_ok 11 false m_Main_start.2.1) = true := by decide +kernel
def bk_Main_start_70_1 : List am_E := [(70, .iload 6, 2, 0, 0)]
theorem bk_Main_start_70_1_ok : bk_Main_start_70_1.all (am_ok 11 false m_Main_start.2.1) = true := by decide +kernel
def bk_Main_start_66_2 : List am_E := [(66, .iconst (-1), 1, 0, -1), (67, .goto 5, 3, 0, 5)]
theorem bk_Main_start_66_2_ok : bk_Main_start_66_2.all (am_ok 11 false m_Main_start.2.1) = true := by decide +kernel
def bk_Main_start_37_2 : List am_E := [(37, .aload_n 0, 1, 0, 0), (38, .iconst 3, 1, 0, 3)]
theorem bk_Main_start_37_2_ok : bk_Main_start_37_2.all (am_ok 11 false m_Main_start.2.1) = true := by decide +kernel
theorem dc_Main_start_2 : decode m_Main_start.2.1 2 = .ok (.invokevirtual 246, 3) := by decide +kernel
theorem dc_Main_start_9 : decode m_Main_start.2.1 9 = .ok (.invokevirtual 250, 3) := by decide +kernel
theorem dc_Main_start_16 : decode m_Main_start.2.1 16 = .ok (.ifnull 8, 3) := by decide +kernel
theorem dc_Main_start_26 : decode m_Main_start.2.1 26 = .ok (.invokevirtual 108, 3) := by decide +kernel
theorem dc_Main_start_29 : decode m_Main_start.2.1 29 = .ok (.ireturn, 1) := by decide +kernel
theorem dc_Main_start_21 : decode m_Main_start.2.1 21 = .ok (.ifnonnull 9, 3) := by decide +kernel
theorem dc_Main_start_31 : decode m_Main_start.2.1 31 = .ok (.invokestatic 260, 3) := by decide +kernel
theorem dc_Main_start_52 : decode m_Main_start.2.1 52 = .ok (.invokevirtual 274, 3) := by decide +kernel
theorem dc_Main_start_72 : decode m_Main_start.2.1 72 = .ok (.invokevirtual 119, 3) := by decide +kernel
theorem dc_Main_start_75 : decode m_Main_start.2.1 75 = .ok (.ireturn, 1) := by decide +kernel
theorem dc_Main_start_63 : decode m_Main_start.2.1 63 = .ok (.if_icmp .ne 7, 3) := by decide +kernel
theorem dc_Main_start_39 : decode m_Main_start.2.1 39 = .ok (.invokevirtual 108, 3) := by decide +kernel
theorem dc_Main_start_42 : decode m_Main_start.2.1 42 = .ok (.ireturn, 1) := by decide +kernel
theorem dc_Main_start_34 : decode m_Main_start.2.1 34 = .ok (.ifCond .ne 9, 3) := by decide +kernel
set_option maxRecDepth 20000 in
theorem sg_Main_start_0 {kc ks : Nat} (a0 : Nat) (x1 x2 x3 : Int32) (h : am_H) (Q : Option Value → am_H → Prop) (t : (am_tg h a0 = (11, 18) ∧ (am_Er m_Main_routeAt 0 0 [.ref a0, .int x1] h (fun r3 h2 => (r3 = none → (am_tg h2 a0 = (11, 18) ∧ (am_Er m_Main_shipAt 0 0 [.ref a0, .int x2] h2 (fun r8 h7 => (r8 = none → (am_tg h7 a0 = (11, 18) ∧ (am_Ei m_Main_refuse 0 0 [.ref a0, .int 1] h7 (fun r13 h12 => Q (some (.int r13)) h12)))) ∧ ∀ b9, r8 = some b9 → (am_tg h7 a0 = (11, 18) ∧ (am_Ei m_Main_refuse 0 0 [.ref a0, .int 1] h7 (fun r16 h15 => Q (some (.int r16)) h15))))))) ∧ ∀ b4, r3 = some b4 → (am_tg h2 a0 = (11, 18) ∧ (am_Er m_Main_shipAt 0 0 [.ref a0, .int x2] h2 (fun r19 h18 => (r19 = none → (am_tg h18 a0 = (11, 18) ∧ (am_Ei m_Main_refuse 0 0 [.ref a0, .int 1] h18 (fun r24 h23 => Q (some (.int r24)) h23)))) ∧ ∀ b20, r19 = some b20 → (am_Ei m_Main_isNumberToAsk 0 0 [.int x3] h18 (fun r26 h25 => ((¬ r26 = 0 → (am_tg h25 a0 = (11, 18) ∧ (∃ b28, am_P h25 a0 9 = some b28 ∧ (am_tg h25 b28 = (1, 7) ∧ (am_Ei m_Planner_latestStart 0 0 [.ref b28, .ref b4, .ref b20, .int x3] h25 (fun r33 h32 => ((¬ r33 = (-2147483648) → (am_tg h32 a0 = (11, 18) ∧ (am_Ei m_Main_answer 0 0 [.ref a0, .int r33] h32 (fun r37 h36 => Q (some (.int r37)) h36)))) ∧ (r33 = (-2147483648) → (am_tg h32 a0 = (11, 18) ∧ (am_Ei m_Main_answer 0 0 [.ref a0, .int (-1)] h32 (fun r40 h39 => Q (some (.int r40)) h39))))))))))) ∧ (r26 = 0 → (am_tg h25 a0 = (11, 18) ∧ (am_Ei m_Main_refuse 0 0 [.ref a0, .int 3] h25 (fun r43 h42 => Q (some (.int r43)) h42)))))))))))))) : am_EI m_Main_start kc ks 0 [.ref a0, .int x1, .int x2, .int x3, .float 0, .float 0, .float 0] [] h Q := by
  refine am_blk_ok (c := 11) (ini := false) (by decide) rfl (fun q => by cases q) bk_Main_start_0_2 _ 2 _ _ _ bk_Main_start_0_2_ok rfl ?_
  show am_EI m_Main_start kc ks 2 [.ref a0, .int x1, .int x2, .int x3, .float 0, .float 0, .float 0] [.int x1, .ref a0] h Q
  obtain ⟨o1, t⟩ := t
  refine am_callV (M2 := m_Main_routeAt) (ci := 11) (a := a0) (kc := kc) (ks := ks) (k2c := 0) (k2s := 0) (as := []) [.int x1] dc_Main_start_2 lk_11_246 im_Main_routeAt se_Main_routeAt lm_Main_routeAt np_Main_routeAt ⟨Nat.le_of_ble_eq_true rfl, Nat.le_of_ble_eq_true rfl⟩ (fun _ => Nat.le_of_ble_eq_true rfl) (by decide) rfl o1 (am_Er.end (am_Er.mono t (fun r3 h2 t => ⟨fun c5 => ?_, fun b4 c5 => ?_⟩)))
  · replace t := t.1 c5
    refine am_blk_ok (c := 11) (ini := false) (by decide) rfl (fun q => by cases q) bk_Main_start_5_3 _ 9 _ _ _ bk_Main_start_5_3_ok rfl ?_
    show am_EI m_Main_start kc ks 9 [.ref a0, .int x1, .int x2, .int x3, .null, .float 0, .float 0] [.int x2, .ref a0] h2 Q
    obtain ⟨o6, t⟩ := t
    refine am_callV (M2 := m_Main_shipAt) (ci := 11) (a := a0) (kc := kc) (ks := ks) (k2c := 0) (k2s := 0) (as := []) [.int x2] dc_Main_start_9 lk_11_250 im_Main_shipAt se_Main_shipAt lm_Main_shipAt np_Main_shipAt ⟨Nat.le_of_ble_eq_true rfl, Nat.le_of_ble_eq_true rfl⟩ (fun _ => Nat.le_of_ble_eq_true rfl) (by decide) rfl o6 (am_Er.end (am_Er.mono t (fun r8 h7 t => ⟨fun c10 => ?_, fun b9 c10 => ?_⟩)))
    · replace t := t.1 c10
      refine am_blk_ok (c := 11) (ini := false) (by decide) rfl (fun q => by cases q) bk_Main_start_12_2 _ 16 _ _ _ bk_Main_start_12_2_ok rfl ?_
      show am_EI m_Main_start kc ks 16 [.ref a0, .int x1, .int x2, .int x3, .null, .null, .float 0] [.null] h7 Q
      refine am_ifnullN (tgt := 24) dc_Main_start_16 (by decide) ?_
      refine am_blk_ok (c := 11) (ini := false) (by decide) rfl (fun q => by cases q) bk_Main_start_24_2 _ 26 _ _ _ bk_Main_start_24_2_ok rfl ?_
      show am_EI m_Main_start kc ks 26 [.ref a0, .int x1, .int x2, .int x3, .null, .null, .float 0] [.int 1, .ref a0] h7 Q
      obtain ⟨o11, t⟩ := t
      refine am_callV (M2 := m_Main_refuse) (ci := 11) (a := a0) (kc := kc) (ks := ks) (k2c := 0) (k2s := 0) (as := []) [.int 1] dc_Main_start_26 lk_11_108 im_Main_refuse se_Main_refuse lm_Main_refuse np_Main_refuse ⟨Nat.le_of_ble_eq_true rfl, Nat.le_of_ble_eq_true rfl⟩ (fun _ => Nat.le_of_ble_eq_true rfl) (by decide) rfl o11 (am_Ei.end (am_Ei.mono t (fun r13 h12 t => ?_)))
      exact am_iret dc_Main_start_29 rfl t
    · replace t := t.2 b9 c10
      refine am_blk_ok (c := 11) (ini := false) (by decide) rfl (fun q => by cases q) bk_Main_start_12_2 _ 16 _ _ _ bk_Main_start_12_2_ok rfl ?_
      show am_EI m_Main_start kc ks 16 [.ref a0, .int x1, .int x2, .int x3, .null, .ref b9, .float 0] [.null] h7 Q
      refine am_ifnullN (tgt := 24) dc_Main_start_16 (by decide) ?_
      refine am_blk_ok (c := 11) (ini := false) (by decide) rfl (fun q => by cases q) bk_Main_start_24_2 _ 26 _ _ _ bk_Main_start_24_2_ok rfl ?_
      show am_EI m_Main_start kc ks 26 [.ref a0, .int x1, .int x2, .int x3, .null, .ref b9, .float 0] [.int 1, .ref a0] h7 Q
      obtain ⟨o14, t⟩ := t
      refine am_callV (M2 := m_Main_refuse) (ci := 11) (a := a0) (kc := kc) (ks := ks) (k2c := 0) (k2s := 0) (as := []) [.int 1] dc_Main_start_26 lk_11_108 im_Main_refuse se_Main_refuse lm_Main_refuse np_Main_refuse ⟨Nat.le_of_ble_eq_true rfl, Nat.le_of_ble_eq_true rfl⟩ (fun _ => Nat.le_of_ble_eq_true rfl) (by decide) rfl o14 (am_Ei.end (am_Ei.mono t (fun r16 h15 t => ?_)))
      exact am_iret dc_Main_start_29 rfl t
  · replace t := t.2 b4 c5
    refine am_blk_ok (c := 11) (ini := false) (by decide) rfl (fun q => by cases q) bk_Main_start_5_3 _ 9 _ _ _ bk_Main_start_5_3_ok rfl ?_
    show am_EI m_Main_start kc ks 9 [.ref a0, .int x1, .int x2, .int x3, .ref b4, .float 0, .float 0] [.int x2, .ref a0] h2 Q
    obtain ⟨o17, t⟩ := t
    refine am_callV (M2 := m_Main_shipAt) (ci := 11) (a := a0) (kc := kc) (ks := ks) (k2c := 0) (k2s := 0) (as := []) [.int x2] dc_Main_start_9 lk_11_250 im_Main_shipAt se_Main_shipAt lm_Main_shipAt np_Main_shipAt ⟨Nat.le_of_ble_eq_true rfl, Nat.le_of_ble_eq_true rfl⟩ (fun _ => Nat.le_of_ble_eq_true rfl) (by decide) rfl o17 (am_Er.end (am_Er.mono t (fun r19 h18 t => ⟨fun c21 => ?_, fun b20 c21 => ?_⟩)))
    · replace t := t.1 c21
      refine am_blk_ok (c := 11) (ini := false) (by decide) rfl (fun q => by cases q) bk_Main_start_12_2 _ 16 _ _ _ bk_Main_start_12_2_ok rfl ?_
      show am_EI m_Main_start kc ks 16 [.ref a0, .int x1, .int x2, .int x3, .ref b4, .null, .float 0] [.ref b4] h18 Q
      refine am_ifnull dc_Main_start_16 ?_
      refine am_blk_ok (c := 11) (ini := false) (by decide) rfl (fun q => by cases q) bk_Main_start_19_1 _ 21 _ _ _ bk_Main_start_19_1_ok rfl ?_
      show am_EI m_Main_start kc ks 21 [.ref a0, .int x1, .int x2, .int x3, .ref b4, .null, .float 0] [.null] h18 Q
      refine am_ifnonnullN dc_Main_start_21 ?_
      refine am_blk_ok (c := 11) (ini := false) (by decide) rfl (fun q => by cases q) bk_Main_start_24_2 _ 26 _ _ _ bk_Main_start_24_2_ok rfl ?_
      show am_EI m_Main_start kc ks 26 [.ref a0, .int x1, .int x2, .int x3, .ref b4, .null, .float 0] [.int 1, .ref a0] h18 Q
      obtain ⟨o22, t⟩ := t
      refine am_callV (M2 := m_Main_refuse) (ci := 11) (a := a0) (kc := kc) (ks := ks) (k2c := 0) (k2s := 0) (as := []) [.int 1] dc_Main_start_26 lk_11_108 im_Main_refuse se_Main_refuse lm_Main_refuse np_Main_refuse ⟨Nat.le_of_ble_eq_true rfl, Nat.le_of_ble_eq_true rfl⟩ (fun _ => Nat.le_of_ble_eq_true rfl) (by decide) rfl o22 (am_Ei.end (am_Ei.mono t (fun r24 h23 t => ?_)))
      exact am_iret dc_Main_start_29 rfl t
    · replace t := t.2 b20 c21
      refine am_blk_ok (c := 11) (ini := false) (by decide) rfl (fun q => by cases q) bk_Main_start_12_2 _ 16 _ _ _ bk_Main_start_12_2_ok rfl ?_
      show am_EI m_Main_start kc ks 16 [.ref a0, .int x1, .int x2, .int x3, .ref b4, .ref b20, .float 0] [.ref b4] h18 Q
      refine am_ifnull dc_Main_start_16 ?_
      refine am_blk_ok (c := 11) (ini := false) (by decide) rfl (fun q => by cases q) bk_Main_start_19_1 _ 21 _ _ _ bk_Main_start_19_1_ok rfl ?_
      show am_EI m_Main_start kc ks 21 [.ref a0, .int x1, .int x2, .int x3, .ref b4, .ref b20, .float 0] [.ref b20] h18 Q
      refine am_ifnonnull (tgt := 30) dc_Main_start_21 (by decide) ?_
      refine am_blk_ok (c := 11) (ini := false) (by decide) rfl (fun q => by cases q) bk_Main_start_30_1 _ 31 _ _ _ bk_Main_start_30_1_ok rfl ?_
      show am_EI m_Main_start kc ks 31 [.ref a0, .int x1, .int x2, .int x3, .ref b4, .ref b20, .float 0] [.int x3] h18 Q
      refine am_callS (M2 := m_Main_isNumberToAsk) (kc := kc) (ks := ks) (k2c := 0) (k2s := 0) (as := []) [.int x3] dc_Main_start_31 lk_11_260 st_Main_isNumberToAsk lm_Main_isNumberToAsk np_Main_isNumberToAsk ⟨Nat.le_of_ble_eq_true rfl, Nat.le_of_ble_eq_true rfl⟩ (fun _ => Nat.le_of_ble_eq_true rfl) (am_Ei.end (am_Ei.mono t (fun r26 h25 t => ?_)))
      refine am_if_ne (tgt := 43) dc_Main_start_34 (by decide) (fun c27 => ?_) (fun c27 => ?_)
      · replace t := t.1 c27
        refine am_blk_ok (c := 11) (ini := false) (by decide) rfl (fun q => by cases q) bk_Main_start_43_5 _ 52 _ _ _ bk_Main_start_43_5_ok rfl ?_
        show (am_tg h25 a0 = (11, 18) ∧ (∃ b28, am_P h25 a0 9 = some b28 ∧ am_EI m_Main_start kc ks 52 [.ref a0, .int x1, .int x2, .int x3, .ref b4, .ref b20, .float 0] [.int x3, .ref b20, .ref b4, .ref b28] h25 Q))
        obtain ⟨o29, b28, q30, t⟩ := t
        refine ⟨o29, b28, q30, ?_⟩
        obtain ⟨o31, t⟩ := t
        refine am_callV (M2 := m_Planner_latestStart) (ci := 1) (a := b28) (kc := kc) (ks := ks) (k2c := 0) (k2s := 0) (as := []) [.ref b4, .ref b20, .int x3] dc_Main_start_52 lk_11_274 im_Planner_latestStart se_Planner_latestStart lm_Planner_latestStart np_Planner_latestStart ⟨Nat.le_of_ble_eq_true rfl, Nat.le_of_ble_eq_true rfl⟩ (fun _ => Nat.le_of_ble_eq_true rfl) (by decide) rfl o31 (am_Ei.end (am_Ei.mono t (fun r33 h32 t => ?_)))
        refine am_blk_ok (c := 11) (ini := false) (by decide) rfl (fun q => by cases q) bk_Main_start_55_4 _ 63 _ _ _ bk_Main_start_55_4_ok rfl ?_
        show am_EI m_Main_start kc ks 63 [.ref a0, .int x1, .int x2, .int x3, .ref b4, .ref b20, .int r33] [.int (-2147483648), .int r33, .ref a0] h32 Q
        refine am_ic_ne (tgt := 70) dc_Main_start_63 (by decide) (fun c34 => ?_) (fun c34 => ?_)
        · replace t := t.1 c34
          refine am_blk_ok (c := 11) (ini := false) (by decide) rfl (fun q => by cases q) bk_Main_start_70_1 _ 72 _ _ _ bk_Main_start_70_1_ok rfl ?_
          show am_EI m_Main_start kc ks 72 [.ref a0, .int x1, .int x2, .int x3, .ref b4, .ref b20, .int r33] [.int r33, .ref a0] h32 Q
          obtain ⟨o35, t⟩ := t
          refine am_callV (M2 := m_Main_answer) (ci := 11) (a := a0) (kc := kc) (ks := ks) (k2c := 0) (k2s := 0) (as := []) [.int r33] dc_Main_start_72 lk_11_119 im_Main_answer se_Main_answer lm_Main_answer np_Main_answer ⟨Nat.le_of_ble_eq_true rfl, Nat.le_of_ble_eq_true rfl⟩ (fun _ => Nat.le_of_ble_eq_true rfl) (by decide) rfl o35 (am_Ei.end (am_Ei.mono t (fun r37 h36 t => ?_)))
          exact am_iret dc_Main_start_75 rfl t
        · replace t := t.2 c34
          refine am_blk_ok (c := 11) (ini := false) (by decide) rfl (fun q => by cases q) bk_Main_start_66_2 _ 72 _ _ _ bk_Main_start_66_2_ok rfl ?_
          show am_EI m_Main_start kc ks 72 [.ref a0, .int x1, .int x2, .int x3, .ref b4, .ref b20, .int r33] [.int (-1), .ref a0] h32 Q
          obtain ⟨o38, t⟩ := t
          refine am_callV (M2 := m_Main_answer) (ci := 11) (a := a0) (kc := kc) (ks := ks) (k2c := 0) (k2s := 0) (as := []) [.int (-1)] dc_Main_start_72 lk_11_119 im_Main_answer se_Main_answer lm_Main_answer np_Main_answer ⟨Nat.le_of_ble_eq_true rfl, Nat.le_of_ble_eq_true rfl⟩ (fun _ => Nat.le_of_ble_eq_true rfl) (by decide) rfl o38 (am_Ei.end (am_Ei.mono t (fun r40 h39 t => ?_)))
          exact am_iret dc_Main_start_75 rfl t
      · replace t := t.2 c27
        refine am_blk_ok (c := 11) (ini := false) (by decide) rfl (fun q => by cases q) bk_Main_start_37_2 _ 39 _ _ _ bk_Main_start_37_2_ok rfl ?_
        show am_EI m_Main_start kc ks 39 [.ref a0, .int x1, .int x2, .int x3, .ref b4, .ref b20, .float 0] [.int 3, .ref a0] h25 Q
        obtain ⟨o41, t⟩ := t
        refine am_callV (M2 := m_Main_refuse) (ci := 11) (a := a0) (kc := kc) (ks := ks) (k2c := 0) (k2s := 0) (as := []) [.int 3] dc_Main_start_39 lk_11_108 im_Main_refuse se_Main_refuse lm_Main_refuse np_Main_refuse ⟨Nat.le_of_ble_eq_true rfl, Nat.le_of_ble_eq_true rfl⟩ (fun _ => Nat.le_of_ble_eq_true rfl) (by decide) rfl o41 (am_Ei.end (am_Ei.mono t (fun r43 h42 t => ?_)))
        exact am_iret dc_Main_start_42 rfl t
set_option maxRecDepth 20000 in
theorem ev_Main_start (a0 : Nat) (x1 x2 x3 : Int32) (h : am_H) (Q : Int32 → am_H → Prop) (t : (am_tg h a0 = (11, 18) ∧ (am_Er m_Main_routeAt 0 0 [.ref a0, .int x1] h (fun r3 h2 => (r3 = none → (am_tg h2 a0 = (11, 18) ∧ (am_Er m_Main_shipAt 0 0 [.ref a0, .int x2] h2 (fun r8 h7 => (r8 = none → (am_tg h7 a0 = (11, 18) ∧ (am_Ei m_Main_refuse 0 0 [.ref a0, .int 1] h7 (fun r13 h12 => Q r13 h12)))) ∧ ∀ b9, r8 = some b9 → (am_tg h7 a0 = (11, 18) ∧ (am_Ei m_Main_refuse 0 0 [.ref a0, .int 1] h7 (fun r16 h15 => Q r16 h15))))))) ∧ ∀ b4, r3 = some b4 → (am_tg h2 a0 = (11, 18) ∧ (am_Er m_Main_shipAt 0 0 [.ref a0, .int x2] h2 (fun r19 h18 => (r19 = none → (am_tg h18 a0 = (11, 18) ∧ (am_Ei m_Main_refuse 0 0 [.ref a0, .int 1] h18 (fun r24 h23 => Q r24 h23)))) ∧ ∀ b20, r19 = some b20 → (am_Ei m_Main_isNumberToAsk 0 0 [.int x3] h18 (fun r26 h25 => ((¬ r26 = 0 → (am_tg h25 a0 = (11, 18) ∧ (∃ b28, am_P h25 a0 9 = some b28 ∧ (am_tg h25 b28 = (1, 7) ∧ (am_Ei m_Planner_latestStart 0 0 [.ref b28, .ref b4, .ref b20, .int x3] h25 (fun r33 h32 => ((¬ r33 = (-2147483648) → (am_tg h32 a0 = (11, 18) ∧ (am_Ei m_Main_answer 0 0 [.ref a0, .int r33] h32 (fun r37 h36 => Q r37 h36)))) ∧ (r33 = (-2147483648) → (am_tg h32 a0 = (11, 18) ∧ (am_Ei m_Main_answer 0 0 [.ref a0, .int (-1)] h32 (fun r40 h39 => Q r40 h39))))))))))) ∧ (r26 = 0 → (am_tg h25 a0 = (11, 18) ∧ (am_Ei m_Main_refuse 0 0 [.ref a0, .int 3] h25 (fun r43 h42 => Q r43 h42)))))))))))))) : am_Ei m_Main_start 0 0 [.ref a0, .int x1, .int x2, .int x3] h Q :=
  am_Ev.of (by decide +kernel) (Nat.le_of_ble_eq_true rfl) (by simp only [List.mem_cons, List.not_mem_nil, or_false]; intro v hv; rcases hv with rfl | rfl | rfl | rfl; all_goals first | exact trivial) (sg_Main_start_0 (kc := 0) (ks := 0) a0 x1 x2 x3 h (am_qi Q) t)
def bk_Main_status_0_2 : List am_E := [(0, .aload_n 0, 1, 0, 0), (1, .getfield 95, 3, 4460, 0)]
theorem bk_Main_status_0_2_ok : bk_Main_status_0_2.all (am_ok 11 false m_Main_status.2.1) = true := by decide +kernel
theorem dc_Main_status_4 : decode m_Main_status.2.1 4 = .ok (.ireturn, 1) := by decide +kernel
set_option maxRecDepth 20000 in
theorem sg_Main_status_0 {kc ks : Nat} (a0 : Nat) (h : am_H) (Q : Option Value → am_H → Prop) (t : (am_tg h a0 = (11, 18) ∧ Q (some (.int (am_I h a0 15))) h)) : am_EI m_Main_status kc ks 0 [.ref a0] [] h Q := by
  refine am_blk_ok (c := 11) (ini := false) (by decide) rfl (fun q => by cases q) bk_Main_status_0_2 _ 4 _ _ _ bk_Main_status_0_2_ok rfl ?_
  show (am_tg h a0 = (11, 18) ∧ am_EI m_Main_status kc ks 4 [.ref a0] [.int (am_I h a0 15)] h Q)
  obtain ⟨o1, t⟩ := t
  refine ⟨o1, ?_⟩
  exact am_iret dc_Main_status_4 rfl t
set_option maxRecDepth 20000 in
theorem ev_Main_status (a0 : Nat) (h : am_H) (Q : Int32 → am_H → Prop) (t : (am_tg h a0 = (11, 18) ∧ Q (am_I h a0 15) h)) : am_Ei m_Main_status 0 0 [.ref a0] h Q :=
  am_Ev.of (by decide +kernel) (Nat.le_of_ble_eq_true rfl) (by simp only [List.mem_cons, List.not_mem_nil, or_false]; intro v hv; rcases hv with rfl; all_goals first | exact trivial) (sg_Main_status_0 (kc := 0) (ks := 0) a0 h (am_qi Q) t)
def bk_Main_stops_0_2 : List am_E := [(0, .aload_n 0, 1, 0, 0), (1, .iload_n 1, 1, 0, 0)]
theorem bk_Main_stops_0_2_ok : bk_Main_stops_0_2.all (am_ok 11 false m_Main_stops.2.1) = true := by decide +kernel
def bk_Main_stops_5_2 : List am_E := [(5, .astore_n 2, 1, 0, 0), (6, .aload_n 2, 1, 0, 0)]
theorem bk_Main_stops_5_2_ok : bk_Main_stops_5_2.all (am_ok 11 false m_Main_stops.2.1) = true := by decide +kernel
def bk_Main_stops_10_2 : List am_E := [(10, .aload_n 0, 1, 0, 0), (11, .iconst 1, 1, 0, 1)]
theorem bk_Main_stops_10_2_ok : bk_Main_stops_10_2.all (am_ok 11 false m_Main_stops.2.1) = true := by decide +kernel
def bk_Main_stops_16_2 : List am_E := [(16, .aload_n 0, 1, 0, 0), (17, .aload_n 2, 1, 0, 0)]
theorem bk_Main_stops_16_2_ok : bk_Main_stops_16_2.all (am_ok 11 false m_Main_stops.2.1) = true := by decide +kernel
theorem dc_Main_stops_2 : decode m_Main_stops.2.1 2 = .ok (.invokevirtual 246, 3) := by decide +kernel
theorem dc_Main_stops_7 : decode m_Main_stops.2.1 7 = .ok (.ifnonnull 9, 3) := by decide +kernel
theorem dc_Main_stops_12 : decode m_Main_stops.2.1 12 = .ok (.invokevirtual 108, 3) := by decide +kernel
theorem dc_Main_stops_15 : decode m_Main_stops.2.1 15 = .ok (.ireturn, 1) := by decide +kernel
theorem dc_Main_stops_18 : decode m_Main_stops.2.1 18 = .ok (.invokevirtual 170, 3) := by decide +kernel
theorem dc_Main_stops_21 : decode m_Main_stops.2.1 21 = .ok (.invokevirtual 119, 3) := by decide +kernel
theorem dc_Main_stops_24 : decode m_Main_stops.2.1 24 = .ok (.ireturn, 1) := by decide +kernel
set_option maxRecDepth 20000 in
theorem sg_Main_stops_0 {kc ks : Nat} (a0 : Nat) (x1 : Int32) (h : am_H) (Q : Option Value → am_H → Prop) (t : (am_tg h a0 = (11, 18) ∧ (am_Er m_Main_routeAt 0 0 [.ref a0, .int x1] h (fun r3 h2 => (r3 = none → (am_tg h2 a0 = (11, 18) ∧ (am_Ei m_Main_refuse 0 0 [.ref a0, .int 1] h2 (fun r8 h7 => Q (some (.int r8)) h7)))) ∧ ∀ b4, r3 = some b4 → (am_tg h2 b4 = (4, 7) ∧ (am_Ei m_Route_stopCount 0 0 [.ref b4] h2 (fun r11 h10 => (am_tg h10 a0 = (11, 18) ∧ (am_Ei m_Main_answer 0 0 [.ref a0, .int r11] h10 (fun r14 h13 => Q (some (.int r14)) h13)))))))))) : am_EI m_Main_stops kc ks 0 [.ref a0, .int x1, .float 0] [] h Q := by
  refine am_blk_ok (c := 11) (ini := false) (by decide) rfl (fun q => by cases q) bk_Main_stops_0_2 _ 2 _ _ _ bk_Main_stops_0_2_ok rfl ?_
  show am_EI m_Main_stops kc ks 2 [.ref a0, .int x1, .float 0] [.int x1, .ref a0] h Q
  obtain ⟨o1, t⟩ := t
  refine am_callV (M2 := m_Main_routeAt) (ci := 11) (a := a0) (kc := kc) (ks := ks) (k2c := 0) (k2s := 0) (as := []) [.int x1] dc_Main_stops_2 lk_11_246 im_Main_routeAt se_Main_routeAt lm_Main_routeAt np_Main_routeAt ⟨Nat.le_of_ble_eq_true rfl, Nat.le_of_ble_eq_true rfl⟩ (fun _ => Nat.le_of_ble_eq_true rfl) (by decide) rfl o1 (am_Er.end (am_Er.mono t (fun r3 h2 t => ⟨fun c5 => ?_, fun b4 c5 => ?_⟩)))
  · replace t := t.1 c5
    refine am_blk_ok (c := 11) (ini := false) (by decide) rfl (fun q => by cases q) bk_Main_stops_5_2 _ 7 _ _ _ bk_Main_stops_5_2_ok rfl ?_
    show am_EI m_Main_stops kc ks 7 [.ref a0, .int x1, .null] [.null] h2 Q
    refine am_ifnonnullN dc_Main_stops_7 ?_
    refine am_blk_ok (c := 11) (ini := false) (by decide) rfl (fun q => by cases q) bk_Main_stops_10_2 _ 12 _ _ _ bk_Main_stops_10_2_ok rfl ?_
    show am_EI m_Main_stops kc ks 12 [.ref a0, .int x1, .null] [.int 1, .ref a0] h2 Q
    obtain ⟨o6, t⟩ := t
    refine am_callV (M2 := m_Main_refuse) (ci := 11) (a := a0) (kc := kc) (ks := ks) (k2c := 0) (k2s := 0) (as := []) [.int 1] dc_Main_stops_12 lk_11_108 im_Main_refuse se_Main_refuse lm_Main_refuse np_Main_refuse ⟨Nat.le_of_ble_eq_true rfl, Nat.le_of_ble_eq_true rfl⟩ (fun _ => Nat.le_of_ble_eq_true rfl) (by decide) rfl o6 (am_Ei.end (am_Ei.mono t (fun r8 h7 t => ?_)))
    exact am_iret dc_Main_stops_15 rfl t
  · replace t := t.2 b4 c5
    refine am_blk_ok (c := 11) (ini := false) (by decide) rfl (fun q => by cases q) bk_Main_stops_5_2 _ 7 _ _ _ bk_Main_stops_5_2_ok rfl ?_
    show am_EI m_Main_stops kc ks 7 [.ref a0, .int x1, .ref b4] [.ref b4] h2 Q
    refine am_ifnonnull (tgt := 16) dc_Main_stops_7 (by decide) ?_
    refine am_blk_ok (c := 11) (ini := false) (by decide) rfl (fun q => by cases q) bk_Main_stops_16_2 _ 18 _ _ _ bk_Main_stops_16_2_ok rfl ?_
    show am_EI m_Main_stops kc ks 18 [.ref a0, .int x1, .ref b4] [.ref b4, .ref a0] h2 Q
    obtain ⟨o9, t⟩ := t
    refine am_callV (M2 := m_Route_stopCount) (ci := 4) (a := b4) (kc := kc) (ks := ks) (k2c := 0) (k2s := 0) (as := [.ref a0]) [] dc_Main_stops_18 lk_11_170 im_Route_stopCount se_Route_stopCount lm_Route_stopCount np_Route_stopCount ⟨Nat.le_of_ble_eq_true rfl, Nat.le_of_ble_eq_true rfl⟩ (fun _ => Nat.le_of_ble_eq_true rfl) (by decide) rfl o9 (am_Ei.end (am_Ei.mono t (fun r11 h10 t => ?_)))
    obtain ⟨o12, t⟩ := t
    refine am_callV (M2 := m_Main_answer) (ci := 11) (a := a0) (kc := kc) (ks := ks) (k2c := 0) (k2s := 0) (as := []) [.int r11] dc_Main_stops_21 lk_11_119 im_Main_answer se_Main_answer lm_Main_answer np_Main_answer ⟨Nat.le_of_ble_eq_true rfl, Nat.le_of_ble_eq_true rfl⟩ (fun _ => Nat.le_of_ble_eq_true rfl) (by decide) rfl o12 (am_Ei.end (am_Ei.mono t (fun r14 h13 t => ?_)))
    exact am_iret dc_Main_stops_24 rfl t
set_option maxRecDepth 20000 in
theorem ev_Main_stops (a0 : Nat) (x1 : Int32) (h : am_H) (Q : Int32 → am_H → Prop) (t : (am_tg h a0 = (11, 18) ∧ (am_Er m_Main_routeAt 0 0 [.ref a0, .int x1] h (fun r3 h2 => (r3 = none → (am_tg h2 a0 = (11, 18) ∧ (am_Ei m_Main_refuse 0 0 [.ref a0, .int 1] h2 (fun r8 h7 => Q r8 h7)))) ∧ ∀ b4, r3 = some b4 → (am_tg h2 b4 = (4, 7) ∧ (am_Ei m_Route_stopCount 0 0 [.ref b4] h2 (fun r11 h10 => (am_tg h10 a0 = (11, 18) ∧ (am_Ei m_Main_answer 0 0 [.ref a0, .int r11] h10 (fun r14 h13 => Q r14 h13)))))))))) : am_Ei m_Main_stops 0 0 [.ref a0, .int x1] h Q :=
  am_Ev.of (by decide +kernel) (Nat.le_of_ble_eq_true rfl) (by simp only [List.mem_cons, List.not_mem_nil, or_false]; intro v hv; rcases hv with rfl | rfl; all_goals first | exact trivial) (sg_Main_stops_0 (kc := 0) (ks := 0) a0 x1 h (am_qi Q) t)
def bk_Main_textWasRight_0_2 : List am_E := [(0, .aload_n 0, 1, 0, 0), (1, .getfield 10, 3, 4401, 0)]
theorem bk_Main_textWasRight_0_2_ok : bk_Main_textWasRight_0_2.all (am_ok 11 false m_Main_textWasRight.2.1) = true := by decide +kernel
def bk_Main_textWasRight_7_3 : List am_E := [(7, .istore_n 1, 1, 0, 0), (8, .aload_n 0, 1, 0, 0), (9, .iload_n 1, 1, 0, 0)]
theorem bk_Main_textWasRight_7_3_ok : bk_Main_textWasRight_7_3.all (am_ok 11 false m_Main_textWasRight.2.1) = true := by decide +kernel
def bk_Main_textWasRight_19_2 : List am_E := [(19, .aload_n 0, 1, 0, 0), (20, .getfield 10, 3, 4401, 0)]
theorem bk_Main_textWasRight_19_2_ok : bk_Main_textWasRight_19_2.all (am_ok 11 false m_Main_textWasRight.2.1) = true := by decide +kernel
def bk_Main_textWasRight_26_7 : List am_E := [(26, .putfield 98, 3, 4464, 0), (29, .aload_n 0, 1, 0, 0), (30, .iconst 0, 1, 0, 0), (31, .putfield 101, 3, 4468, 0), (34, .aload_n 0, 1, 0, 0), (35, .getfield 10, 3, 4401, 0), (38, .iconst 0, 1, 0, 0)]
theorem bk_Main_textWasRight_26_7_ok : bk_Main_textWasRight_26_7.all (am_ok 11 false m_Main_textWasRight.2.1) = true := by decide +kernel
def bk_Main_textWasRight_42_1 : List am_E := [(42, .iload_n 1, 1, 0, 0)]
theorem bk_Main_textWasRight_42_1_ok : bk_Main_textWasRight_42_1.all (am_ok 11 false m_Main_textWasRight.2.1) = true := by decide +kernel
def bk_Main_textWasRight_13_9 : List am_E := [(13, .sipush (-9999), 3, 0, -9999), (16, .goto 10, 3, 0, 10), (26, .putfield 98, 3, 4464, 0), (29, .aload_n 0, 1, 0, 0), (30, .iconst 0, 1, 0, 0), (31, .putfield 101, 3, 4468, 0), (34, .aload_n 0, 1, 0, 0), (35, .getfield 10, 3, 4401, 0), (38, .iconst 0, 1, 0, 0)]
theorem bk_Main_textWasRight_13_9_ok : bk_Main_textWasRight_13_9.all (am_ok 11 false m_Main_textWasRight.2.1) = true := by decide +kernel
theorem dc_Main_textWasRight_4 : decode m_Main_textWasRight.2.1 4 = .ok (.invokevirtual 291, 3) := by decide +kernel
theorem dc_Main_textWasRight_23 : decode m_Main_textWasRight.2.1 23 = .ok (.invokevirtual 294, 3) := by decide +kernel
theorem dc_Main_textWasRight_39 : decode m_Main_textWasRight.2.1 39 = .ok (.invokevirtual 122, 3) := by decide +kernel
theorem dc_Main_textWasRight_43 : decode m_Main_textWasRight.2.1 43 = .ok (.ireturn, 1) := by decide +kernel
theorem dc_Main_textWasRight_10 : decode m_Main_textWasRight.2.1 10 = .ok (.ifCond .eq 9, 3) := by decide +kernel
set_option maxRecDepth 20000 in
theorem sg_Main_textWasRight_0 {kc ks : Nat} (a0 : Nat) (h : am_H) (Q : Option Value → am_H → Prop) (t : (am_tg h a0 = (11, 18) ∧ (∃ b1, am_P h a0 0 = some b1 ∧ (am_tg h b1 = (9, 4) ∧ (am_Ei m_Tape_isReadWhole 0 0 [.ref b1] h (fun r6 h5 => ((r6 = 0 → (am_tg h5 a0 = (11, 18) ∧ (∃ b8, am_P h5 a0 0 = some b8 ∧ (am_tg h5 b8 = (9, 4) ∧ (am_Ei m_Tape_readTo 0 0 [.ref b8] h5 (fun r13 h12 => (am_tg h12 a0 = (11, 18) ∧ (∃ b14, am_P h12 a0 0 = some b14 ∧ (am_tg h12 b14 = (9, 4) ∧ (am_Ew m_Tape_keepFirst 0 0 [.ref b14, .int 0] (am_si (am_si h12 a0 16 r13) a0 17 0) (fun h18 => (am_b01 r6 ∧ Q (some (.int r6)) h18)))))))))))) ∧ (¬ r6 = 0 → (am_tg h5 a0 = (11, 18) ∧ (∃ b19, am_P h5 a0 0 = some b19 ∧ (am_tg h5 b19 = (9, 4) ∧ (am_Ew m_Tape_keepFirst 0 0 [.ref b19, .int 0] (am_si (am_si h5 a0 16 (-9999)) a0 17 0) (fun h23 => (am_b01 r6 ∧ Q (some (.int r6)) h23)))))))))))))) : am_EI m_Main_textWasRight kc ks 0 [.ref a0, .float 0] [] h Q := by
  refine am_blk_ok (c := 11) (ini := false) (by decide) rfl (fun q => by cases q) bk_Main_textWasRight_0_2 _ 4 _ _ _ bk_Main_textWasRight_0_2_ok rfl ?_
  show (am_tg h a0 = (11, 18) ∧ (∃ b1, am_P h a0 0 = some b1 ∧ am_EI m_Main_textWasRight kc ks 4 [.ref a0, .float 0] [.ref b1] h Q))
  obtain ⟨o2, b1, q3, t⟩ := t
  refine ⟨o2, b1, q3, ?_⟩
  obtain ⟨o4, t⟩ := t
  refine am_callV (M2 := m_Tape_isReadWhole) (ci := 9) (a := b1) (kc := kc) (ks := ks) (k2c := 0) (k2s := 0) (as := []) [] dc_Main_textWasRight_4 lk_11_291 im_Tape_isReadWhole se_Tape_isReadWhole lm_Tape_isReadWhole np_Tape_isReadWhole ⟨Nat.le_of_ble_eq_true rfl, Nat.le_of_ble_eq_true rfl⟩ (fun _ => Nat.le_of_ble_eq_true rfl) (by decide) rfl o4 (am_Ei.end (am_Ei.mono t (fun r6 h5 t => ?_)))
  refine am_blk_ok (c := 11) (ini := false) (by decide) rfl (fun q => by cases q) bk_Main_textWasRight_7_3 _ 10 _ _ _ bk_Main_textWasRight_7_3_ok rfl ?_
  show am_EI m_Main_textWasRight kc ks 10 [.ref a0, .int r6] [.int r6, .ref a0] h5 Q
  refine am_if_eq (tgt := 19) dc_Main_textWasRight_10 (by decide) (fun c7 => ?_) (fun c7 => ?_)
  · replace t := t.1 c7
    refine am_blk_ok (c := 11) (ini := false) (by decide) rfl (fun q => by cases q) bk_Main_textWasRight_19_2 _ 23 _ _ _ bk_Main_textWasRight_19_2_ok rfl ?_
    show (am_tg h5 a0 = (11, 18) ∧ (∃ b8, am_P h5 a0 0 = some b8 ∧ am_EI m_Main_textWasRight kc ks 23 [.ref a0, .int r6] [.ref b8, .ref a0] h5 Q))
    obtain ⟨o9, b8, q10, t⟩ := t
    refine ⟨o9, b8, q10, ?_⟩
    obtain ⟨o11, t⟩ := t
    refine am_callV (M2 := m_Tape_readTo) (ci := 9) (a := b8) (kc := kc) (ks := ks) (k2c := 0) (k2s := 0) (as := [.ref a0]) [] dc_Main_textWasRight_23 lk_11_294 im_Tape_readTo se_Tape_readTo lm_Tape_readTo np_Tape_readTo ⟨Nat.le_of_ble_eq_true rfl, Nat.le_of_ble_eq_true rfl⟩ (fun _ => Nat.le_of_ble_eq_true rfl) (by decide) rfl o11 (am_Ei.end (am_Ei.mono t (fun r13 h12 t => ?_)))
    refine am_blk_ok (c := 11) (ini := false) (by decide) rfl (fun q => by cases q) bk_Main_textWasRight_26_7 _ 39 _ _ _ bk_Main_textWasRight_26_7_ok rfl ?_
    show (am_tg h12 a0 = (11, 18) ∧ (am_tg h12 a0 = (11, 18) ∧ (am_tg h12 a0 = (11, 18) ∧ (∃ b14, am_P h12 a0 0 = some b14 ∧ am_EI m_Main_textWasRight kc ks 39 [.ref a0, .int r6] [.int 0, .ref b14] (am_si (am_si h12 a0 16 r13) a0 17 0) Q))))
    obtain ⟨o15, b14, q16, t⟩ := t
    refine ⟨o15, o15, o15, b14, q16, ?_⟩
    obtain ⟨o17, t⟩ := t
    refine am_callV (M2 := m_Tape_keepFirst) (ci := 9) (a := b14) (kc := kc) (ks := ks) (k2c := 0) (k2s := 0) (as := []) [.int 0] dc_Main_textWasRight_39 lk_11_122 im_Tape_keepFirst se_Tape_keepFirst lm_Tape_keepFirst np_Tape_keepFirst ⟨Nat.le_of_ble_eq_true rfl, Nat.le_of_ble_eq_true rfl⟩ (fun _ => Nat.le_of_ble_eq_true rfl) (by decide) rfl o17 (am_Ew.end (am_Ew.mono t (fun h18 t => ?_)))
    refine am_blk_ok (c := 11) (ini := false) (by decide) rfl (fun q => by cases q) bk_Main_textWasRight_42_1 _ 43 _ _ _ bk_Main_textWasRight_42_1_ok rfl ?_
    show am_EI m_Main_textWasRight kc ks 43 [.ref a0, .int r6] [.int r6] h18 Q
    exact am_zret dc_Main_textWasRight_43 rfl t.1 t.2
  · replace t := t.2 c7
    refine am_blk_ok (c := 11) (ini := false) (by decide) rfl (fun q => by cases q) bk_Main_textWasRight_13_9 _ 39 _ _ _ bk_Main_textWasRight_13_9_ok rfl ?_
    show (am_tg h5 a0 = (11, 18) ∧ (am_tg h5 a0 = (11, 18) ∧ (am_tg h5 a0 = (11, 18) ∧ (∃ b19, am_P h5 a0 0 = some b19 ∧ am_EI m_Main_textWasRight kc ks 39 [.ref a0, .int r6] [.int 0, .ref b19] (am_si (am_si h5 a0 16 (-9999)) a0 17 0) Q))))
    obtain ⟨o20, b19, q21, t⟩ := t
    refine ⟨o20, o20, o20, b19, q21, ?_⟩
    obtain ⟨o22, t⟩ := t
    refine am_callV (M2 := m_Tape_keepFirst) (ci := 9) (a := b19) (kc := kc) (ks := ks) (k2c := 0) (k2s := 0) (as := []) [.int 0] dc_Main_textWasRight_39 lk_11_122 im_Tape_keepFirst se_Tape_keepFirst lm_Tape_keepFirst np_Tape_keepFirst ⟨Nat.le_of_ble_eq_true rfl, Nat.le_of_ble_eq_true rfl⟩ (fun _ => Nat.le_of_ble_eq_true rfl) (by decide) rfl o22 (am_Ew.end (am_Ew.mono t (fun h23 t => ?_)))
    refine am_blk_ok (c := 11) (ini := false) (by decide) rfl (fun q => by cases q) bk_Main_textWasRight_42_1 _ 43 _ _ _ bk_Main_textWasRight_42_1_ok rfl ?_
    show am_EI m_Main_textWasRight kc ks 43 [.ref a0, .int r6] [.int r6] h23 Q
    exact am_zret dc_Main_textWasRight_43 rfl t.1 t.2
set_option maxRecDepth 20000 in
theorem ev_Main_textWasRight (a0 : Nat) (h : am_H) (Q : Int32 → am_H → Prop) (t : (am_tg h a0 = (11, 18) ∧ (∃ b1, am_P h a0 0 = some b1 ∧ (am_tg h b1 = (9, 4) ∧ (am_Ei m_Tape_isReadWhole 0 0 [.ref b1] h (fun r6 h5 => ((r6 = 0 → (am_tg h5 a0 = (11, 18) ∧ (∃ b8, am_P h5 a0 0 = some b8 ∧ (am_tg h5 b8 = (9, 4) ∧ (am_Ei m_Tape_readTo 0 0 [.ref b8] h5 (fun r13 h12 => (am_tg h12 a0 = (11, 18) ∧ (∃ b14, am_P h12 a0 0 = some b14 ∧ (am_tg h12 b14 = (9, 4) ∧ (am_Ew m_Tape_keepFirst 0 0 [.ref b14, .int 0] (am_si (am_si h12 a0 16 r13) a0 17 0) (fun h18 => (am_b01 r6 ∧ Q r6 h18)))))))))))) ∧ (¬ r6 = 0 → (am_tg h5 a0 = (11, 18) ∧ (∃ b19, am_P h5 a0 0 = some b19 ∧ (am_tg h5 b19 = (9, 4) ∧ (am_Ew m_Tape_keepFirst 0 0 [.ref b19, .int 0] (am_si (am_si h5 a0 16 (-9999)) a0 17 0) (fun h23 => (am_b01 r6 ∧ Q r6 h23)))))))))))))) : am_Ei m_Main_textWasRight 0 0 [.ref a0] h Q :=
  am_Ev.of (by decide +kernel) (Nat.le_of_ble_eq_true rfl) (by simp only [List.mem_cons, List.not_mem_nil, or_false]; intro v hv; rcases hv with rfl; all_goals first | exact trivial) (sg_Main_textWasRight_0 (kc := 0) (ks := 0) a0 h (am_qi Q) t)
def bk_Main_turn_0_2 : List am_E := [(0, .aload_n 0, 1, 0, 0), (1, .iload_n 1, 1, 0, 0)]
theorem bk_Main_turn_0_2_ok : bk_Main_turn_0_2.all (am_ok 11 false m_Main_turn.2.1) = true := by decide +kernel
def bk_Main_turn_5_2 : List am_E := [(5, .astore 4, 2, 0, 0), (7, .aload 4, 2, 0, 0)]
theorem bk_Main_turn_5_2_ok : bk_Main_turn_5_2.all (am_ok 11 false m_Main_turn.2.1) = true := by decide +kernel
def bk_Main_turn_25_2 : List am_E := [(25, .aload_n 0, 1, 0, 0), (26, .iconst 1, 1, 0, 1)]
theorem bk_Main_turn_25_2_ok : bk_Main_turn_25_2.all (am_ok 11 false m_Main_turn.2.1) = true := by decide +kernel
def bk_Main_turn_12_1 : List am_E := [(12, .iload_n 2, 1, 0, 0)]
theorem bk_Main_turn_12_1_ok : bk_Main_turn_12_1.all (am_ok 11 false m_Main_turn.2.1) = true := by decide +kernel
def bk_Main_turn_16_2 : List am_E := [(16, .iload_n 2, 1, 0, 0), (17, .aload 4, 2, 0, 0)]
theorem bk_Main_turn_16_2_ok : bk_Main_turn_16_2.all (am_ok 11 false m_Main_turn.2.1) = true := by decide +kernel
def bk_Main_turn_31_1 : List am_E := [(31, .iload_n 3, 1, 0, 0)]
theorem bk_Main_turn_31_1_ok : bk_Main_turn_31_1.all (am_ok 11 false m_Main_turn.2.1) = true := by decide +kernel
def bk_Main_turn_60_3 : List am_E := [(60, .aload_n 0, 1, 0, 0), (61, .aload 4, 2, 0, 0), (63, .iload_n 2, 1, 0, 0)]
theorem bk_Main_turn_60_3_ok : bk_Main_turn_60_3.all (am_ok 11 false m_Main_turn.2.1) = true := by decide +kernel
def bk_Main_turn_71_3 : List am_E := [(71, .aload_n 0, 1, 0, 0), (72, .aload 4, 2, 0, 0), (74, .iload_n 2, 1, 0, 0)]
theorem bk_Main_turn_71_3_ok : bk_Main_turn_71_3.all (am_ok 11 false m_Main_turn.2.1) = true := by decide +kernel
def bk_Main_turn_82_3 : List am_E := [(82, .aload_n 0, 1, 0, 0), (83, .aload 4, 2, 0, 0), (85, .iload_n 2, 1, 0, 0)]
theorem bk_Main_turn_82_3_ok : bk_Main_turn_82_3.all (am_ok 11 false m_Main_turn.2.1) = true := by decide +kernel
def bk_Main_turn_96_1 : List am_E := [(96, .iconst 0, 1, 0, 0)]
theorem bk_Main_turn_96_1_ok : bk_Main_turn_96_1.all (am_ok 11 false m_Main_turn.2.1) = true := by decide +kernel
def bk_Main_turn_92_2 : List am_E := [(92, .iconst 1, 1, 0, 1), (93, .goto 4, 3, 0, 4)]
theorem bk_Main_turn_92_2_ok : bk_Main_turn_92_2.all (am_ok 11 false m_Main_turn.2.1) = true := by decide +kernel
def bk_Main_turn_101_2 : List am_E := [(101, .aload_n 0, 1, 0, 0), (102, .iconst 3, 1, 0, 3)]
theorem bk_Main_turn_101_2_ok : bk_Main_turn_101_2.all (am_ok 11 false m_Main_turn.2.1) = true := by decide +kernel
theorem dc_Main_turn_2 : decode m_Main_turn.2.1 2 = .ok (.invokevirtual 129, 3) := by decide +kernel
theorem dc_Main_turn_9 : decode m_Main_turn.2.1 9 = .ok (.ifnull 16, 3) := by decide +kernel
theorem dc_Main_turn_27 : decode m_Main_turn.2.1 27 = .ok (.invokevirtual 108, 3) := by decide +kernel
theorem dc_Main_turn_30 : decode m_Main_turn.2.1 30 = .ok (.ireturn, 1) := by decide +kernel
theorem dc_Main_turn_19 : decode m_Main_turn.2.1 19 = .ok (.invokevirtual 190, 3) := by decide +kernel
theorem dc_Main_turn_32 : decode m_Main_turn.2.1 32 = .ok (.tableswitch 69 0 2 #[28, 39, 50], 28) := by decide +kernel
theorem dc_Main_turn_64 : decode m_Main_turn.2.1 64 = .ok (.invokevirtual 193, 3) := by decide +kernel
theorem dc_Main_turn_67 : decode m_Main_turn.2.1 67 = .ok (.invokevirtual 119, 3) := by decide +kernel
theorem dc_Main_turn_70 : decode m_Main_turn.2.1 70 = .ok (.ireturn, 1) := by decide +kernel
theorem dc_Main_turn_75 : decode m_Main_turn.2.1 75 = .ok (.invokevirtual 196, 3) := by decide +kernel
theorem dc_Main_turn_78 : decode m_Main_turn.2.1 78 = .ok (.invokevirtual 119, 3) := by decide +kernel
theorem dc_Main_turn_81 : decode m_Main_turn.2.1 81 = .ok (.ireturn, 1) := by decide +kernel
theorem dc_Main_turn_86 : decode m_Main_turn.2.1 86 = .ok (.invokevirtual 199, 3) := by decide +kernel
theorem dc_Main_turn_97 : decode m_Main_turn.2.1 97 = .ok (.invokevirtual 119, 3) := by decide +kernel
theorem dc_Main_turn_100 : decode m_Main_turn.2.1 100 = .ok (.ireturn, 1) := by decide +kernel
theorem dc_Main_turn_89 : decode m_Main_turn.2.1 89 = .ok (.ifCond .eq 7, 3) := by decide +kernel
theorem dc_Main_turn_103 : decode m_Main_turn.2.1 103 = .ok (.invokevirtual 108, 3) := by decide +kernel
theorem dc_Main_turn_106 : decode m_Main_turn.2.1 106 = .ok (.ireturn, 1) := by decide +kernel
theorem dc_Main_turn_22 : decode m_Main_turn.2.1 22 = .ok (.if_icmp .lt 9, 3) := by decide +kernel
theorem dc_Main_turn_13 : decode m_Main_turn.2.1 13 = .ok (.ifCond .lt 12, 3) := by decide +kernel
set_option maxRecDepth 20000 in
theorem sg_Main_turn_0 {kc ks : Nat} (a0 : Nat) (x1 x2 x3 : Int32) (h : am_H) (Q : Option Value → am_H → Prop) (t : (am_tg h a0 = (11, 18) ∧ (am_Er m_Main_portAt 0 0 [.ref a0, .int x1] h (fun r3 h2 => (r3 = none → (am_tg h2 a0 = (11, 18) ∧ (am_Ei m_Main_refuse 0 0 [.ref a0, .int 1] h2 (fun r8 h7 => Q (some (.int r8)) h7)))) ∧ ∀ b4, r3 = some b4 → ((x2 < 0 → (am_tg h2 a0 = (11, 18) ∧ (am_Ei m_Main_refuse 0 0 [.ref a0, .int 1] h2 (fun r12 h11 => Q (some (.int r12)) h11)))) ∧ (¬ x2 < 0 → (am_tg h2 b4 = (2, 5) ∧ (am_Ei m_Port_turnCount 0 0 [.ref b4] h2 (fun r15 h14 => ((x2 < r15 → ((x3 = 0 → (am_tg h14 b4 = (2, 5) ∧ (am_Ei m_Port_minuteOf 0 0 [.ref b4, .int x2] h14 (fun r20 h19 => (am_tg h19 a0 = (11, 18) ∧ (am_Ei m_Main_answer 0 0 [.ref a0, .int r20] h19 (fun r23 h22 => Q (some (.int r23)) h22))))))) ∧ (x3 = 1 → (am_tg h14 b4 = (2, 5) ∧ (am_Ei m_Port_heightOf 0 0 [.ref b4, .int x2] h14 (fun r27 h26 => (am_tg h26 a0 = (11, 18) ∧ (am_Ei m_Main_answer 0 0 [.ref a0, .int r27] h26 (fun r30 h29 => Q (some (.int r30)) h29))))))) ∧ (x3 = 2 → (am_tg h14 b4 = (2, 5) ∧ (am_Ei m_Port_isHigh 0 0 [.ref b4, .int x2] h14 (fun r34 h33 => ((r34 = 0 → (am_tg h33 a0 = (11, 18) ∧ (am_Ei m_Main_answer 0 0 [.ref a0, .int 0] h33 (fun r38 h37 => Q (some (.int r38)) h37)))) ∧ (¬ r34 = 0 → (am_tg h33 a0 = (11, 18) ∧ (am_Ei m_Main_answer 0 0 [.ref a0, .int 1] h33 (fun r41 h40 => Q (some (.int r41)) h40))))))))) ∧ (¬ x3 = 0 → ¬ x3 = 1 → ¬ x3 = 2 → (am_tg h14 a0 = (11, 18) ∧ (am_Ei m_Main_refuse 0 0 [.ref a0, .int 3] h14 (fun r44 h43 => Q (some (.int r44)) h43)))))) ∧ (¬ x2 < r15 → (am_tg h14 a0 = (11, 18) ∧ (am_Ei m_Main_refuse 0 0 [.ref a0, .int 1] h14 (fun r47 h46 => Q (some (.int r47)) h46)))))))))))))) : am_EI m_Main_turn kc ks 0 [.ref a0, .int x1, .int x2, .int x3, .float 0] [] h Q := by
  refine am_blk_ok (c := 11) (ini := false) (by decide) rfl (fun q => by cases q) bk_Main_turn_0_2 _ 2 _ _ _ bk_Main_turn_0_2_ok rfl ?_
  show am_EI m_Main_turn kc ks 2 [.ref a0, .int x1, .int x2, .int x3, .float 0] [.int x1, .ref a0] h Q
  obtain ⟨o1, t⟩ := t
  refine am_callV (M2 := m_Main_portAt) (ci := 11) (a := a0) (kc := kc) (ks := ks) (k2c := 0) (k2s := 0) (as := []) [.int x1] dc_Main_turn_2 lk_11_129 im_Main_portAt se_Main_portAt lm_Main_portAt np_Main_portAt ⟨Nat.le_of_ble_eq_true rfl, Nat.le_of_ble_eq_true rfl⟩ (fun _ => Nat.le_of_ble_eq_true rfl) (by decide) rfl o1 (am_Er.end (am_Er.mono t (fun r3 h2 t => ⟨fun c5 => ?_, fun b4 c5 => ?_⟩)))
  · replace t := t.1 c5
    refine am_blk_ok (c := 11) (ini := false) (by decide) rfl (fun q => by cases q) bk_Main_turn_5_2 _ 9 _ _ _ bk_Main_turn_5_2_ok rfl ?_
    show am_EI m_Main_turn kc ks 9 [.ref a0, .int x1, .int x2, .int x3, .null] [.null] h2 Q
    refine am_ifnullN (tgt := 25) dc_Main_turn_9 (by decide) ?_
    refine am_blk_ok (c := 11) (ini := false) (by decide) rfl (fun q => by cases q) bk_Main_turn_25_2 _ 27 _ _ _ bk_Main_turn_25_2_ok rfl ?_
    show am_EI m_Main_turn kc ks 27 [.ref a0, .int x1, .int x2, .int x3, .null] [.int 1, .ref a0] h2 Q
    obtain ⟨o6, t⟩ := t
    refine am_callV (M2 := m_Main_refuse) (ci := 11) (a := a0) (kc := kc) (ks := ks) (k2c := 0) (k2s := 0) (as := []) [.int 1] dc_Main_turn_27 lk_11_108 im_Main_refuse se_Main_refuse lm_Main_refuse np_Main_refuse ⟨Nat.le_of_ble_eq_true rfl, Nat.le_of_ble_eq_true rfl⟩ (fun _ => Nat.le_of_ble_eq_true rfl) (by decide) rfl o6 (am_Ei.end (am_Ei.mono t (fun r8 h7 t => ?_)))
    exact am_iret dc_Main_turn_30 rfl t
  · replace t := t.2 b4 c5
    refine am_blk_ok (c := 11) (ini := false) (by decide) rfl (fun q => by cases q) bk_Main_turn_5_2 _ 9 _ _ _ bk_Main_turn_5_2_ok rfl ?_
    show am_EI m_Main_turn kc ks 9 [.ref a0, .int x1, .int x2, .int x3, .ref b4] [.ref b4] h2 Q
    refine am_ifnull dc_Main_turn_9 ?_
    refine am_blk_ok (c := 11) (ini := false) (by decide) rfl (fun q => by cases q) bk_Main_turn_12_1 _ 13 _ _ _ bk_Main_turn_12_1_ok rfl ?_
    show am_EI m_Main_turn kc ks 13 [.ref a0, .int x1, .int x2, .int x3, .ref b4] [.int x2] h2 Q
    refine am_if_lt (tgt := 25) dc_Main_turn_13 (by decide) (fun c9 => ?_) (fun c9 => ?_)
    · replace t := t.1 c9
      refine am_blk_ok (c := 11) (ini := false) (by decide) rfl (fun q => by cases q) bk_Main_turn_25_2 _ 27 _ _ _ bk_Main_turn_25_2_ok rfl ?_
      show am_EI m_Main_turn kc ks 27 [.ref a0, .int x1, .int x2, .int x3, .ref b4] [.int 1, .ref a0] h2 Q
      obtain ⟨o10, t⟩ := t
      refine am_callV (M2 := m_Main_refuse) (ci := 11) (a := a0) (kc := kc) (ks := ks) (k2c := 0) (k2s := 0) (as := []) [.int 1] dc_Main_turn_27 lk_11_108 im_Main_refuse se_Main_refuse lm_Main_refuse np_Main_refuse ⟨Nat.le_of_ble_eq_true rfl, Nat.le_of_ble_eq_true rfl⟩ (fun _ => Nat.le_of_ble_eq_true rfl) (by decide) rfl o10 (am_Ei.end (am_Ei.mono t (fun r12 h11 t => ?_)))
      exact am_iret dc_Main_turn_30 rfl t
    · replace t := t.2 c9
      refine am_blk_ok (c := 11) (ini := false) (by decide) rfl (fun q => by cases q) bk_Main_turn_16_2 _ 19 _ _ _ bk_Main_turn_16_2_ok rfl ?_
      show am_EI m_Main_turn kc ks 19 [.ref a0, .int x1, .int x2, .int x3, .ref b4] [.ref b4, .int x2] h2 Q
      obtain ⟨o13, t⟩ := t
      refine am_callV (M2 := m_Port_turnCount) (ci := 2) (a := b4) (kc := kc) (ks := ks) (k2c := 0) (k2s := 0) (as := [.int x2]) [] dc_Main_turn_19 lk_11_190 im_Port_turnCount se_Port_turnCount lm_Port_turnCount np_Port_turnCount ⟨Nat.le_of_ble_eq_true rfl, Nat.le_of_ble_eq_true rfl⟩ (fun _ => Nat.le_of_ble_eq_true rfl) (by decide) rfl o13 (am_Ei.end (am_Ei.mono t (fun r15 h14 t => ?_)))
      refine am_ic_lt (tgt := 31) dc_Main_turn_22 (by decide) (fun c16 => ?_) (fun c16 => ?_)
      · replace t := t.1 c16
        refine am_blk_ok (c := 11) (ini := false) (by decide) rfl (fun q => by cases q) bk_Main_turn_31_1 _ 32 _ _ _ bk_Main_turn_31_1_ok rfl ?_
        show am_EI m_Main_turn kc ks 32 [.ref a0, .int x1, .int x2, .int x3, .ref b4] [.int x3] h14 Q
        by_cases c17 : x3 = 0
        · refine am_tabIn (x := x3) (tgt := 60) dc_Main_turn_32 (by rw [c17]; decide) (by rw [c17]; decide) (by rw [c17]; rfl) (by decide) ?_
          replace t := t.1 c17
          refine am_blk_ok (c := 11) (ini := false) (by decide) rfl (fun q => by cases q) bk_Main_turn_60_3 _ 64 _ _ _ bk_Main_turn_60_3_ok rfl ?_
          show am_EI m_Main_turn kc ks 64 [.ref a0, .int x1, .int x2, .int x3, .ref b4] [.int x2, .ref b4, .ref a0] h14 Q
          obtain ⟨o18, t⟩ := t
          refine am_callV (M2 := m_Port_minuteOf) (ci := 2) (a := b4) (kc := kc) (ks := ks) (k2c := 0) (k2s := 0) (as := [.ref a0]) [.int x2] dc_Main_turn_64 lk_11_193 im_Port_minuteOf se_Port_minuteOf lm_Port_minuteOf np_Port_minuteOf ⟨Nat.le_of_ble_eq_true rfl, Nat.le_of_ble_eq_true rfl⟩ (fun _ => Nat.le_of_ble_eq_true rfl) (by decide) rfl o18 (am_Ei.end (am_Ei.mono t (fun r20 h19 t => ?_)))
          obtain ⟨o21, t⟩ := t
          refine am_callV (M2 := m_Main_answer) (ci := 11) (a := a0) (kc := kc) (ks := ks) (k2c := 0) (k2s := 0) (as := []) [.int r20] dc_Main_turn_67 lk_11_119 im_Main_answer se_Main_answer lm_Main_answer np_Main_answer ⟨Nat.le_of_ble_eq_true rfl, Nat.le_of_ble_eq_true rfl⟩ (fun _ => Nat.le_of_ble_eq_true rfl) (by decide) rfl o21 (am_Ei.end (am_Ei.mono t (fun r23 h22 t => ?_)))
          exact am_iret dc_Main_turn_70 rfl t
        by_cases c24 : x3 = 1
        · refine am_tabIn (x := x3) (tgt := 71) dc_Main_turn_32 (by rw [c24]; decide) (by rw [c24]; decide) (by rw [c24]; rfl) (by decide) ?_
          replace t := t.2.1 c24
          refine am_blk_ok (c := 11) (ini := false) (by decide) rfl (fun q => by cases q) bk_Main_turn_71_3 _ 75 _ _ _ bk_Main_turn_71_3_ok rfl ?_
          show am_EI m_Main_turn kc ks 75 [.ref a0, .int x1, .int x2, .int x3, .ref b4] [.int x2, .ref b4, .ref a0] h14 Q
          obtain ⟨o25, t⟩ := t
          refine am_callV (M2 := m_Port_heightOf) (ci := 2) (a := b4) (kc := kc) (ks := ks) (k2c := 0) (k2s := 0) (as := [.ref a0]) [.int x2] dc_Main_turn_75 lk_11_196 im_Port_heightOf se_Port_heightOf lm_Port_heightOf np_Port_heightOf ⟨Nat.le_of_ble_eq_true rfl, Nat.le_of_ble_eq_true rfl⟩ (fun _ => Nat.le_of_ble_eq_true rfl) (by decide) rfl o25 (am_Ei.end (am_Ei.mono t (fun r27 h26 t => ?_)))
          obtain ⟨o28, t⟩ := t
          refine am_callV (M2 := m_Main_answer) (ci := 11) (a := a0) (kc := kc) (ks := ks) (k2c := 0) (k2s := 0) (as := []) [.int r27] dc_Main_turn_78 lk_11_119 im_Main_answer se_Main_answer lm_Main_answer np_Main_answer ⟨Nat.le_of_ble_eq_true rfl, Nat.le_of_ble_eq_true rfl⟩ (fun _ => Nat.le_of_ble_eq_true rfl) (by decide) rfl o28 (am_Ei.end (am_Ei.mono t (fun r30 h29 t => ?_)))
          exact am_iret dc_Main_turn_81 rfl t
        by_cases c31 : x3 = 2
        · refine am_tabIn (x := x3) (tgt := 82) dc_Main_turn_32 (by rw [c31]; decide) (by rw [c31]; decide) (by rw [c31]; rfl) (by decide) ?_
          replace t := t.2.2.1 c31
          refine am_blk_ok (c := 11) (ini := false) (by decide) rfl (fun q => by cases q) bk_Main_turn_82_3 _ 86 _ _ _ bk_Main_turn_82_3_ok rfl ?_
          show am_EI m_Main_turn kc ks 86 [.ref a0, .int x1, .int x2, .int x3, .ref b4] [.int x2, .ref b4, .ref a0] h14 Q
          obtain ⟨o32, t⟩ := t
          refine am_callV (M2 := m_Port_isHigh) (ci := 2) (a := b4) (kc := kc) (ks := ks) (k2c := 0) (k2s := 0) (as := [.ref a0]) [.int x2] dc_Main_turn_86 lk_11_199 im_Port_isHigh se_Port_isHigh lm_Port_isHigh np_Port_isHigh ⟨Nat.le_of_ble_eq_true rfl, Nat.le_of_ble_eq_true rfl⟩ (fun _ => Nat.le_of_ble_eq_true rfl) (by decide) rfl o32 (am_Ei.end (am_Ei.mono t (fun r34 h33 t => ?_)))
          refine am_if_eq (tgt := 96) dc_Main_turn_89 (by decide) (fun c35 => ?_) (fun c35 => ?_)
          · replace t := t.1 c35
            refine am_blk_ok (c := 11) (ini := false) (by decide) rfl (fun q => by cases q) bk_Main_turn_96_1 _ 97 _ _ _ bk_Main_turn_96_1_ok rfl ?_
            show am_EI m_Main_turn kc ks 97 [.ref a0, .int x1, .int x2, .int x3, .ref b4] [.int 0, .ref a0] h33 Q
            obtain ⟨o36, t⟩ := t
            refine am_callV (M2 := m_Main_answer) (ci := 11) (a := a0) (kc := kc) (ks := ks) (k2c := 0) (k2s := 0) (as := []) [.int 0] dc_Main_turn_97 lk_11_119 im_Main_answer se_Main_answer lm_Main_answer np_Main_answer ⟨Nat.le_of_ble_eq_true rfl, Nat.le_of_ble_eq_true rfl⟩ (fun _ => Nat.le_of_ble_eq_true rfl) (by decide) rfl o36 (am_Ei.end (am_Ei.mono t (fun r38 h37 t => ?_)))
            exact am_iret dc_Main_turn_100 rfl t
          · replace t := t.2 c35
            refine am_blk_ok (c := 11) (ini := false) (by decide) rfl (fun q => by cases q) bk_Main_turn_92_2 _ 97 _ _ _ bk_Main_turn_92_2_ok rfl ?_
            show am_EI m_Main_turn kc ks 97 [.ref a0, .int x1, .int x2, .int x3, .ref b4] [.int 1, .ref a0] h33 Q
            obtain ⟨o39, t⟩ := t
            refine am_callV (M2 := m_Main_answer) (ci := 11) (a := a0) (kc := kc) (ks := ks) (k2c := 0) (k2s := 0) (as := []) [.int 1] dc_Main_turn_97 lk_11_119 im_Main_answer se_Main_answer lm_Main_answer np_Main_answer ⟨Nat.le_of_ble_eq_true rfl, Nat.le_of_ble_eq_true rfl⟩ (fun _ => Nat.le_of_ble_eq_true rfl) (by decide) rfl o39 (am_Ei.end (am_Ei.mono t (fun r41 h40 t => ?_)))
            exact am_iret dc_Main_turn_100 rfl t
        refine am_tabOut (x := x3) (tgt := 101) dc_Main_turn_32 (by have e0 := am_ne32 c17; have e1 := am_ne32 c24; have e2 := am_ne32 c31; rw [show (0 : Int32).toInt = 0 from rfl] at e0; rw [show (1 : Int32).toInt = 1 from rfl] at e1; rw [show (2 : Int32).toInt = 2 from rfl] at e2; omega) (by decide) ?_
        replace t := t.2.2.2 c17 c24 c31
        refine am_blk_ok (c := 11) (ini := false) (by decide) rfl (fun q => by cases q) bk_Main_turn_101_2 _ 103 _ _ _ bk_Main_turn_101_2_ok rfl ?_
        show am_EI m_Main_turn kc ks 103 [.ref a0, .int x1, .int x2, .int x3, .ref b4] [.int 3, .ref a0] h14 Q
        obtain ⟨o42, t⟩ := t
        refine am_callV (M2 := m_Main_refuse) (ci := 11) (a := a0) (kc := kc) (ks := ks) (k2c := 0) (k2s := 0) (as := []) [.int 3] dc_Main_turn_103 lk_11_108 im_Main_refuse se_Main_refuse lm_Main_refuse np_Main_refuse ⟨Nat.le_of_ble_eq_true rfl, Nat.le_of_ble_eq_true rfl⟩ (fun _ => Nat.le_of_ble_eq_true rfl) (by decide) rfl o42 (am_Ei.end (am_Ei.mono t (fun r44 h43 t => ?_)))
        exact am_iret dc_Main_turn_106 rfl t
      · replace t := t.2 c16
        refine am_blk_ok (c := 11) (ini := false) (by decide) rfl (fun q => by cases q) bk_Main_turn_25_2 _ 27 _ _ _ bk_Main_turn_25_2_ok rfl ?_
        show am_EI m_Main_turn kc ks 27 [.ref a0, .int x1, .int x2, .int x3, .ref b4] [.int 1, .ref a0] h14 Q
        obtain ⟨o45, t⟩ := t
        refine am_callV (M2 := m_Main_refuse) (ci := 11) (a := a0) (kc := kc) (ks := ks) (k2c := 0) (k2s := 0) (as := []) [.int 1] dc_Main_turn_27 lk_11_108 im_Main_refuse se_Main_refuse lm_Main_refuse np_Main_refuse ⟨Nat.le_of_ble_eq_true rfl, Nat.le_of_ble_eq_true rfl⟩ (fun _ => Nat.le_of_ble_eq_true rfl) (by decide) rfl o45 (am_Ei.end (am_Ei.mono t (fun r47 h46 t => ?_)))
        exact am_iret dc_Main_turn_30 rfl t
set_option maxRecDepth 20000 in
theorem ev_Main_turn (a0 : Nat) (x1 x2 x3 : Int32) (h : am_H) (Q : Int32 → am_H → Prop) (t : (am_tg h a0 = (11, 18) ∧ (am_Er m_Main_portAt 0 0 [.ref a0, .int x1] h (fun r3 h2 => (r3 = none → (am_tg h2 a0 = (11, 18) ∧ (am_Ei m_Main_refuse 0 0 [.ref a0, .int 1] h2 (fun r8 h7 => Q r8 h7)))) ∧ ∀ b4, r3 = some b4 → ((x2 < 0 → (am_tg h2 a0 = (11, 18) ∧ (am_Ei m_Main_refuse 0 0 [.ref a0, .int 1] h2 (fun r12 h11 => Q r12 h11)))) ∧ (¬ x2 < 0 → (am_tg h2 b4 = (2, 5) ∧ (am_Ei m_Port_turnCount 0 0 [.ref b4] h2 (fun r15 h14 => ((x2 < r15 → ((x3 = 0 → (am_tg h14 b4 = (2, 5) ∧ (am_Ei m_Port_minuteOf 0 0 [.ref b4, .int x2] h14 (fun r20 h19 => (am_tg h19 a0 = (11, 18) ∧ (am_Ei m_Main_answer 0 0 [.ref a0, .int r20] h19 (fun r23 h22 => Q r23 h22))))))) ∧ (x3 = 1 → (am_tg h14 b4 = (2, 5) ∧ (am_Ei m_Port_heightOf 0 0 [.ref b4, .int x2] h14 (fun r27 h26 => (am_tg h26 a0 = (11, 18) ∧ (am_Ei m_Main_answer 0 0 [.ref a0, .int r27] h26 (fun r30 h29 => Q r30 h29))))))) ∧ (x3 = 2 → (am_tg h14 b4 = (2, 5) ∧ (am_Ei m_Port_isHigh 0 0 [.ref b4, .int x2] h14 (fun r34 h33 => ((r34 = 0 → (am_tg h33 a0 = (11, 18) ∧ (am_Ei m_Main_answer 0 0 [.ref a0, .int 0] h33 (fun r38 h37 => Q r38 h37)))) ∧ (¬ r34 = 0 → (am_tg h33 a0 = (11, 18) ∧ (am_Ei m_Main_answer 0 0 [.ref a0, .int 1] h33 (fun r41 h40 => Q r41 h40))))))))) ∧ (¬ x3 = 0 → ¬ x3 = 1 → ¬ x3 = 2 → (am_tg h14 a0 = (11, 18) ∧ (am_Ei m_Main_refuse 0 0 [.ref a0, .int 3] h14 (fun r44 h43 => Q r44 h43)))))) ∧ (¬ x2 < r15 → (am_tg h14 a0 = (11, 18) ∧ (am_Ei m_Main_refuse 0 0 [.ref a0, .int 1] h14 (fun r47 h46 => Q r47 h46)))))))))))))) : am_Ei m_Main_turn 0 0 [.ref a0, .int x1, .int x2, .int x3] h Q :=
  am_Ev.of (by decide +kernel) (Nat.le_of_ble_eq_true rfl) (by simp only [List.mem_cons, List.not_mem_nil, or_false]; intro v hv; rcases hv with rfl | rfl | rfl | rfl; all_goals first | exact trivial) (sg_Main_turn_0 (kc := 0) (ks := 0) a0 x1 x2 x3 h (am_qi Q) t)
def bk_Main_turns_0_2 : List am_E := [(0, .aload_n 0, 1, 0, 0), (1, .iload_n 1, 1, 0, 0)]
theorem bk_Main_turns_0_2_ok : bk_Main_turns_0_2.all (am_ok 11 false m_Main_turns.2.1) = true := by decide +kernel
def bk_Main_turns_5_2 : List am_E := [(5, .astore_n 2, 1, 0, 0), (6, .aload_n 2, 1, 0, 0)]
theorem bk_Main_turns_5_2_ok : bk_Main_turns_5_2.all (am_ok 11 false m_Main_turns.2.1) = true := by decide +kernel
def bk_Main_turns_10_2 : List am_E := [(10, .aload_n 0, 1, 0, 0), (11, .iconst 1, 1, 0, 1)]
theorem bk_Main_turns_10_2_ok : bk_Main_turns_10_2.all (am_ok 11 false m_Main_turns.2.1) = true := by decide +kernel
def bk_Main_turns_16_2 : List am_E := [(16, .aload_n 0, 1, 0, 0), (17, .aload_n 2, 1, 0, 0)]
theorem bk_Main_turns_16_2_ok : bk_Main_turns_16_2.all (am_ok 11 false m_Main_turns.2.1) = true := by decide +kernel
theorem dc_Main_turns_2 : decode m_Main_turns.2.1 2 = .ok (.invokevirtual 129, 3) := by decide +kernel
theorem dc_Main_turns_7 : decode m_Main_turns.2.1 7 = .ok (.ifnonnull 9, 3) := by decide +kernel
theorem dc_Main_turns_12 : decode m_Main_turns.2.1 12 = .ok (.invokevirtual 108, 3) := by decide +kernel
theorem dc_Main_turns_15 : decode m_Main_turns.2.1 15 = .ok (.ireturn, 1) := by decide +kernel
theorem dc_Main_turns_18 : decode m_Main_turns.2.1 18 = .ok (.invokevirtual 190, 3) := by decide +kernel
theorem dc_Main_turns_21 : decode m_Main_turns.2.1 21 = .ok (.invokevirtual 119, 3) := by decide +kernel
theorem dc_Main_turns_24 : decode m_Main_turns.2.1 24 = .ok (.ireturn, 1) := by decide +kernel
set_option maxRecDepth 20000 in
theorem sg_Main_turns_0 {kc ks : Nat} (a0 : Nat) (x1 : Int32) (h : am_H) (Q : Option Value → am_H → Prop) (t : (am_tg h a0 = (11, 18) ∧ (am_Er m_Main_portAt 0 0 [.ref a0, .int x1] h (fun r3 h2 => (r3 = none → (am_tg h2 a0 = (11, 18) ∧ (am_Ei m_Main_refuse 0 0 [.ref a0, .int 1] h2 (fun r8 h7 => Q (some (.int r8)) h7)))) ∧ ∀ b4, r3 = some b4 → (am_tg h2 b4 = (2, 5) ∧ (am_Ei m_Port_turnCount 0 0 [.ref b4] h2 (fun r11 h10 => (am_tg h10 a0 = (11, 18) ∧ (am_Ei m_Main_answer 0 0 [.ref a0, .int r11] h10 (fun r14 h13 => Q (some (.int r14)) h13)))))))))) : am_EI m_Main_turns kc ks 0 [.ref a0, .int x1, .float 0] [] h Q := by
  refine am_blk_ok (c := 11) (ini := false) (by decide) rfl (fun q => by cases q) bk_Main_turns_0_2 _ 2 _ _ _ bk_Main_turns_0_2_ok rfl ?_
  show am_EI m_Main_turns kc ks 2 [.ref a0, .int x1, .float 0] [.int x1, .ref a0] h Q
  obtain ⟨o1, t⟩ := t
  refine am_callV (M2 := m_Main_portAt) (ci := 11) (a := a0) (kc := kc) (ks := ks) (k2c := 0) (k2s := 0) (as := []) [.int x1] dc_Main_turns_2 lk_11_129 im_Main_portAt se_Main_portAt lm_Main_portAt np_Main_portAt ⟨Nat.le_of_ble_eq_true rfl, Nat.le_of_ble_eq_true rfl⟩ (fun _ => Nat.le_of_ble_eq_true rfl) (by decide) rfl o1 (am_Er.end (am_Er.mono t (fun r3 h2 t => ⟨fun c5 => ?_, fun b4 c5 => ?_⟩)))
  · replace t := t.1 c5
    refine am_blk_ok (c := 11) (ini := false) (by decide) rfl (fun q => by cases q) bk_Main_turns_5_2 _ 7 _ _ _ bk_Main_turns_5_2_ok rfl ?_
    show am_EI m_Main_turns kc ks 7 [.ref a0, .int x1, .null] [.null] h2 Q
    refine am_ifnonnullN dc_Main_turns_7 ?_
    refine am_blk_ok (c := 11) (ini := false) (by decide) rfl (fun q => by cases q) bk_Main_turns_10_2 _ 12 _ _ _ bk_Main_turns_10_2_ok rfl ?_
    show am_EI m_Main_turns kc ks 12 [.ref a0, .int x1, .null] [.int 1, .ref a0] h2 Q
    obtain ⟨o6, t⟩ := t
    refine am_callV (M2 := m_Main_refuse) (ci := 11) (a := a0) (kc := kc) (ks := ks) (k2c := 0) (k2s := 0) (as := []) [.int 1] dc_Main_turns_12 lk_11_108 im_Main_refuse se_Main_refuse lm_Main_refuse np_Main_refuse ⟨Nat.le_of_ble_eq_true rfl, Nat.le_of_ble_eq_true rfl⟩ (fun _ => Nat.le_of_ble_eq_true rfl) (by decide) rfl o6 (am_Ei.end (am_Ei.mono t (fun r8 h7 t => ?_)))
    exact am_iret dc_Main_turns_15 rfl t
  · replace t := t.2 b4 c5
    refine am_blk_ok (c := 11) (ini := false) (by decide) rfl (fun q => by cases q) bk_Main_turns_5_2 _ 7 _ _ _ bk_Main_turns_5_2_ok rfl ?_
    show am_EI m_Main_turns kc ks 7 [.ref a0, .int x1, .ref b4] [.ref b4] h2 Q
    refine am_ifnonnull (tgt := 16) dc_Main_turns_7 (by decide) ?_
    refine am_blk_ok (c := 11) (ini := false) (by decide) rfl (fun q => by cases q) bk_Main_turns_16_2 _ 18 _ _ _ bk_Main_turns_16_2_ok rfl ?_
    show am_EI m_Main_turns kc ks 18 [.ref a0, .int x1, .ref b4] [.ref b4, .ref a0] h2 Q
    obtain ⟨o9, t⟩ := t
    refine am_callV (M2 := m_Port_turnCount) (ci := 2) (a := b4) (kc := kc) (ks := ks) (k2c := 0) (k2s := 0) (as := [.ref a0]) [] dc_Main_turns_18 lk_11_190 im_Port_turnCount se_Port_turnCount lm_Port_turnCount np_Port_turnCount ⟨Nat.le_of_ble_eq_true rfl, Nat.le_of_ble_eq_true rfl⟩ (fun _ => Nat.le_of_ble_eq_true rfl) (by decide) rfl o9 (am_Ei.end (am_Ei.mono t (fun r11 h10 t => ?_)))
    obtain ⟨o12, t⟩ := t
    refine am_callV (M2 := m_Main_answer) (ci := 11) (a := a0) (kc := kc) (ks := ks) (k2c := 0) (k2s := 0) (as := []) [.int r11] dc_Main_turns_21 lk_11_119 im_Main_answer se_Main_answer lm_Main_answer np_Main_answer ⟨Nat.le_of_ble_eq_true rfl, Nat.le_of_ble_eq_true rfl⟩ (fun _ => Nat.le_of_ble_eq_true rfl) (by decide) rfl o12 (am_Ei.end (am_Ei.mono t (fun r14 h13 t => ?_)))
    exact am_iret dc_Main_turns_24 rfl t
set_option maxRecDepth 20000 in
theorem ev_Main_turns (a0 : Nat) (x1 : Int32) (h : am_H) (Q : Int32 → am_H → Prop) (t : (am_tg h a0 = (11, 18) ∧ (am_Er m_Main_portAt 0 0 [.ref a0, .int x1] h (fun r3 h2 => (r3 = none → (am_tg h2 a0 = (11, 18) ∧ (am_Ei m_Main_refuse 0 0 [.ref a0, .int 1] h2 (fun r8 h7 => Q r8 h7)))) ∧ ∀ b4, r3 = some b4 → (am_tg h2 b4 = (2, 5) ∧ (am_Ei m_Port_turnCount 0 0 [.ref b4] h2 (fun r11 h10 => (am_tg h10 a0 = (11, 18) ∧ (am_Ei m_Main_answer 0 0 [.ref a0, .int r11] h10 (fun r14 h13 => Q r14 h13)))))))))) : am_Ei m_Main_turns 0 0 [.ref a0, .int x1] h Q :=
  am_Ev.of (by decide +kernel) (Nat.le_of_ble_eq_true rfl) (by simp only [List.mem_cons, List.not_mem_nil, or_false]; intro v hv; rcases hv with rfl | rfl; all_goals first | exact trivial) (sg_Main_turns_0 (kc := 0) (ks := 0) a0 x1 h (am_qi Q) t)
def bk_Main_waits_0_2 : List am_E := [(0, .aload_n 0, 1, 0, 0), (1, .iload_n 1, 1, 0, 0)]
theorem bk_Main_waits_0_2_ok : bk_Main_waits_0_2.all (am_ok 11 false m_Main_waits.2.1) = true := by decide +kernel
def bk_Main_waits_5_3 : List am_E := [(5, .astore 4, 2, 0, 0), (7, .aload_n 0, 1, 0, 0), (8, .iload_n 2, 1, 0, 0)]
theorem bk_Main_waits_5_3_ok : bk_Main_waits_5_3.all (am_ok 11 false m_Main_waits.2.1) = true := by decide +kernel
def bk_Main_waits_12_2 : List am_E := [(12, .astore 5, 2, 0, 0), (14, .aload 4, 2, 0, 0)]
theorem bk_Main_waits_12_2_ok : bk_Main_waits_12_2.all (am_ok 11 false m_Main_waits.2.1) = true := by decide +kernel
def bk_Main_waits_24_2 : List am_E := [(24, .aload_n 0, 1, 0, 0), (25, .iconst 1, 1, 0, 1)]
theorem bk_Main_waits_24_2_ok : bk_Main_waits_24_2.all (am_ok 11 false m_Main_waits.2.1) = true := by decide +kernel
def bk_Main_waits_19_1 : List am_E := [(19, .aload 5, 2, 0, 0)]
theorem bk_Main_waits_19_1_ok : bk_Main_waits_19_1.all (am_ok 11 false m_Main_waits.2.1) = true := by decide +kernel
def bk_Main_waits_30_1 : List am_E := [(30, .iload_n 3, 1, 0, 0)]
theorem bk_Main_waits_30_1_ok : bk_Main_waits_30_1.all (am_ok 11 false m_Main_waits.2.1) = true := by decide +kernel
def bk_Main_waits_43_5 : List am_E := [(43, .aload_n 0, 1, 0, 0), (44, .getfield 71, 3, 4437, 0), (47, .aload 4, 2, 0, 0), (49, .aload 5, 2, 0, 0), (51, .iload_n 3, 1, 0, 0)]
theorem bk_Main_waits_43_5_ok : bk_Main_waits_43_5.all (am_ok 11 false m_Main_waits.2.1) = true := by decide +kernel
def bk_Main_waits_55_3 : List am_E := [(55, .istore 6, 2, 0, 0), (57, .aload_n 0, 1, 0, 0), (58, .iload 6, 2, 0, 0)]
theorem bk_Main_waits_55_3_ok : bk_Main_waits_55_3.all (am_ok 11 false m_Main_waits.2.1) = true := by decide +kernel
def bk_Main_waits_78_1 : List am_E := [(78, .iconst (-1), 1, 0, -1)]
theorem bk_Main_waits_78_1_ok : bk_Main_waits_78_1.all (am_ok 11 false m_Main_waits.2.1) = true := by decide +kernel
def bk_Main_waits_63_5 : List am_E := [(63, .aload_n 0, 1, 0, 0), (64, .getfield 71, 3, 4437, 0), (67, .iload_n 3, 1, 0, 0), (68, .aload 4, 2, 0, 0), (70, .aload 5, 2, 0, 0)]
theorem bk_Main_waits_63_5_ok : bk_Main_waits_63_5.all (am_ok 11 false m_Main_waits.2.1) = true := by decide +kernel
def bk_Main_waits_75_1 : List am_E := [(75, .goto 4, 3, 0, 4)]
theorem bk_Main_waits_75_1_ok : bk_Main_waits_75_1.all (am_ok 11 false m_Main_waits.2.1) = true := by decide +kernel
def bk_Main_waits_37_2 : List am_E := [(37, .aload_n 0, 1, 0, 0), (38, .iconst 3, 1, 0, 3)]
theorem bk_Main_waits_37_2_ok : bk_Main_waits_37_2.all (am_ok 11 false m_Main_waits.2.1) = true := by decide +kernel
theorem dc_Main_waits_2 : decode m_Main_waits.2.1 2 = .ok (.invokevirtual 246, 3) := by decide +kernel
theorem dc_Main_waits_9 : decode m_Main_waits.2.1 9 = .ok (.invokevirtual 250, 3) := by decide +kernel
theorem dc_Main_waits_16 : decode m_Main_waits.2.1 16 = .ok (.ifnull 8, 3) := by decide +kernel
theorem dc_Main_waits_26 : decode m_Main_waits.2.1 26 = .ok (.invokevirtual 108, 3) := by decide +kernel
theorem dc_Main_waits_29 : decode m_Main_waits.2.1 29 = .ok (.ireturn, 1) := by decide +kernel
theorem dc_Main_waits_21 : decode m_Main_waits.2.1 21 = .ok (.ifnonnull 9, 3) := by decide +kernel
theorem dc_Main_waits_31 : decode m_Main_waits.2.1 31 = .ok (.invokestatic 260, 3) := by decide +kernel
theorem dc_Main_waits_52 : decode m_Main_waits.2.1 52 = .ok (.invokevirtual 263, 3) := by decide +kernel
theorem dc_Main_waits_79 : decode m_Main_waits.2.1 79 = .ok (.invokevirtual 119, 3) := by decide +kernel
theorem dc_Main_waits_82 : decode m_Main_waits.2.1 82 = .ok (.ireturn, 1) := by decide +kernel
theorem dc_Main_waits_72 : decode m_Main_waits.2.1 72 = .ok (.invokevirtual 270, 3) := by decide +kernel
theorem dc_Main_waits_60 : decode m_Main_waits.2.1 60 = .ok (.ifCond .eq 18, 3) := by decide +kernel
theorem dc_Main_waits_39 : decode m_Main_waits.2.1 39 = .ok (.invokevirtual 108, 3) := by decide +kernel
theorem dc_Main_waits_42 : decode m_Main_waits.2.1 42 = .ok (.ireturn, 1) := by decide +kernel
theorem dc_Main_waits_34 : decode m_Main_waits.2.1 34 = .ok (.ifCond .ne 9, 3) := by decide +kernel
set_option maxRecDepth 20000 in
theorem sg_Main_waits_0 {kc ks : Nat} (a0 : Nat) (x1 x2 x3 : Int32) (h : am_H) (Q : Option Value → am_H → Prop) (t : (am_tg h a0 = (11, 18) ∧ (am_Er m_Main_routeAt 0 0 [.ref a0, .int x1] h (fun r3 h2 => (r3 = none → (am_tg h2 a0 = (11, 18) ∧ (am_Er m_Main_shipAt 0 0 [.ref a0, .int x2] h2 (fun r8 h7 => (r8 = none → (am_tg h7 a0 = (11, 18) ∧ (am_Ei m_Main_refuse 0 0 [.ref a0, .int 1] h7 (fun r13 h12 => Q (some (.int r13)) h12)))) ∧ ∀ b9, r8 = some b9 → (am_tg h7 a0 = (11, 18) ∧ (am_Ei m_Main_refuse 0 0 [.ref a0, .int 1] h7 (fun r16 h15 => Q (some (.int r16)) h15))))))) ∧ ∀ b4, r3 = some b4 → (am_tg h2 a0 = (11, 18) ∧ (am_Er m_Main_shipAt 0 0 [.ref a0, .int x2] h2 (fun r19 h18 => (r19 = none → (am_tg h18 a0 = (11, 18) ∧ (am_Ei m_Main_refuse 0 0 [.ref a0, .int 1] h18 (fun r24 h23 => Q (some (.int r24)) h23)))) ∧ ∀ b20, r19 = some b20 → (am_Ei m_Main_isNumberToAsk 0 0 [.int x3] h18 (fun r26 h25 => ((¬ r26 = 0 → (am_tg h25 a0 = (11, 18) ∧ (∃ b28, am_P h25 a0 9 = some b28 ∧ (am_tg h25 b28 = (1, 7) ∧ (am_Ei m_Planner_plan 0 0 [.ref b28, .ref b4, .ref b20, .int x3] h25 (fun r33 h32 => ((r33 = 0 → (am_tg h32 a0 = (11, 18) ∧ (am_Ei m_Main_answer 0 0 [.ref a0, .int (-1)] h32 (fun r37 h36 => Q (some (.int r37)) h36)))) ∧ (¬ r33 = 0 → (am_tg h32 a0 = (11, 18) ∧ (∃ b38, am_P h32 a0 9 = some b38 ∧ (am_tg h32 b38 = (1, 7) ∧ (am_Ei m_Planner_waitedFrom 0 0 [.ref b38, .int x3, .ref b4, .ref b20] h32 (fun r43 h42 => (am_tg h42 a0 = (11, 18) ∧ (am_Ei m_Main_answer 0 0 [.ref a0, .int r43] h42 (fun r46 h45 => Q (some (.int r46)) h45)))))))))))))))) ∧ (r26 = 0 → (am_tg h25 a0 = (11, 18) ∧ (am_Ei m_Main_refuse 0 0 [.ref a0, .int 3] h25 (fun r49 h48 => Q (some (.int r49)) h48)))))))))))))) : am_EI m_Main_waits kc ks 0 [.ref a0, .int x1, .int x2, .int x3, .float 0, .float 0, .float 0] [] h Q := by
  refine am_blk_ok (c := 11) (ini := false) (by decide) rfl (fun q => by cases q) bk_Main_waits_0_2 _ 2 _ _ _ bk_Main_waits_0_2_ok rfl ?_
  show am_EI m_Main_waits kc ks 2 [.ref a0, .int x1, .int x2, .int x3, .float 0, .float 0, .float 0] [.int x1, .ref a0] h Q
  obtain ⟨o1, t⟩ := t
  refine am_callV (M2 := m_Main_routeAt) (ci := 11) (a := a0) (kc := kc) (ks := ks) (k2c := 0) (k2s := 0) (as := []) [.int x1] dc_Main_waits_2 lk_11_246 im_Main_routeAt se_Main_routeAt lm_Main_routeAt np_Main_routeAt ⟨Nat.le_of_ble_eq_true rfl, Nat.le_of_ble_eq_true rfl⟩ (fun _ => Nat.le_of_ble_eq_true rfl) (by decide) rfl o1 (am_Er.end (am_Er.mono t (fun r3 h2 t => ⟨fun c5 => ?_, fun b4 c5 => ?_⟩)))
  · replace t := t.1 c5
    refine am_blk_ok (c := 11) (ini := false) (by decide) rfl (fun q => by cases q) bk_Main_waits_5_3 _ 9 _ _ _ bk_Main_waits_5_3_ok rfl ?_
    show am_EI m_Main_waits kc ks 9 [.ref a0, .int x1, .int x2, .int x3, .null, .float 0, .float 0] [.int x2, .ref a0] h2 Q
    obtain ⟨o6, t⟩ := t
    refine am_callV (M2 := m_Main_shipAt) (ci := 11) (a := a0) (kc := kc) (ks := ks) (k2c := 0) (k2s := 0) (as := []) [.int x2] dc_Main_waits_9 lk_11_250 im_Main_shipAt se_Main_shipAt lm_Main_shipAt np_Main_shipAt ⟨Nat.le_of_ble_eq_true rfl, Nat.le_of_ble_eq_true rfl⟩ (fun _ => Nat.le_of_ble_eq_true rfl) (by decide) rfl o6 (am_Er.end (am_Er.mono t (fun r8 h7 t => ⟨fun c10 => ?_, fun b9 c10 => ?_⟩)))
    · replace t := t.1 c10
      refine am_blk_ok (c := 11) (ini := false) (by decide) rfl (fun q => by cases q) bk_Main_waits_12_2 _ 16 _ _ _ bk_Main_waits_12_2_ok rfl ?_
      show am_EI m_Main_waits kc ks 16 [.ref a0, .int x1, .int x2, .int x3, .null, .null, .float 0] [.null] h7 Q
      refine am_ifnullN (tgt := 24) dc_Main_waits_16 (by decide) ?_
      refine am_blk_ok (c := 11) (ini := false) (by decide) rfl (fun q => by cases q) bk_Main_waits_24_2 _ 26 _ _ _ bk_Main_waits_24_2_ok rfl ?_
      show am_EI m_Main_waits kc ks 26 [.ref a0, .int x1, .int x2, .int x3, .null, .null, .float 0] [.int 1, .ref a0] h7 Q
      obtain ⟨o11, t⟩ := t
      refine am_callV (M2 := m_Main_refuse) (ci := 11) (a := a0) (kc := kc) (ks := ks) (k2c := 0) (k2s := 0) (as := []) [.int 1] dc_Main_waits_26 lk_11_108 im_Main_refuse se_Main_refuse lm_Main_refuse np_Main_refuse ⟨Nat.le_of_ble_eq_true rfl, Nat.le_of_ble_eq_true rfl⟩ (fun _ => Nat.le_of_ble_eq_true rfl) (by decide) rfl o11 (am_Ei.end (am_Ei.mono t (fun r13 h12 t => ?_)))
      exact am_iret dc_Main_waits_29 rfl t
    · replace t := t.2 b9 c10
      refine am_blk_ok (c := 11) (ini := false) (by decide) rfl (fun q => by cases q) bk_Main_waits_12_2 _ 16 _ _ _ bk_Main_waits_12_2_ok rfl ?_
      show am_EI m_Main_waits kc ks 16 [.ref a0, .int x1, .int x2, .int x3, .null, .ref b9, .float 0] [.null] h7 Q
      refine am_ifnullN (tgt := 24) dc_Main_waits_16 (by decide) ?_
      refine am_blk_ok (c := 11) (ini := false) (by decide) rfl (fun q => by cases q) bk_Main_waits_24_2 _ 26 _ _ _ bk_Main_waits_24_2_ok rfl ?_
      show am_EI m_Main_waits kc ks 26 [.ref a0, .int x1, .int x2, .int x3, .null, .ref b9, .float 0] [.int 1, .ref a0] h7 Q
      obtain ⟨o14, t⟩ := t
      refine am_callV (M2 := m_Main_refuse) (ci := 11) (a := a0) (kc := kc) (ks := ks) (k2c := 0) (k2s := 0) (as := []) [.int 1] dc_Main_waits_26 lk_11_108 im_Main_refuse se_Main_refuse lm_Main_refuse np_Main_refuse ⟨Nat.le_of_ble_eq_true rfl, Nat.le_of_ble_eq_true rfl⟩ (fun _ => Nat.le_of_ble_eq_true rfl) (by decide) rfl o14 (am_Ei.end (am_Ei.mono t (fun r16 h15 t => ?_)))
      exact am_iret dc_Main_waits_29 rfl t
  · replace t := t.2 b4 c5
    refine am_blk_ok (c := 11) (ini := false) (by decide) rfl (fun q => by cases q) bk_Main_waits_5_3 _ 9 _ _ _ bk_Main_waits_5_3_ok rfl ?_
    show am_EI m_Main_waits kc ks 9 [.ref a0, .int x1, .int x2, .int x3, .ref b4, .float 0, .float 0] [.int x2, .ref a0] h2 Q
    obtain ⟨o17, t⟩ := t
    refine am_callV (M2 := m_Main_shipAt) (ci := 11) (a := a0) (kc := kc) (ks := ks) (k2c := 0) (k2s := 0) (as := []) [.int x2] dc_Main_waits_9 lk_11_250 im_Main_shipAt se_Main_shipAt lm_Main_shipAt np_Main_shipAt ⟨Nat.le_of_ble_eq_true rfl, Nat.le_of_ble_eq_true rfl⟩ (fun _ => Nat.le_of_ble_eq_true rfl) (by decide) rfl o17 (am_Er.end (am_Er.mono t (fun r19 h18 t => ⟨fun c21 => ?_, fun b20 c21 => ?_⟩)))
    · replace t := t.1 c21
      refine am_blk_ok (c := 11) (ini := false) (by decide) rfl (fun q => by cases q) bk_Main_waits_12_2 _ 16 _ _ _ bk_Main_waits_12_2_ok rfl ?_
      show am_EI m_Main_waits kc ks 16 [.ref a0, .int x1, .int x2, .int x3, .ref b4, .null, .float 0] [.ref b4] h18 Q
      refine am_ifnull dc_Main_waits_16 ?_
      refine am_blk_ok (c := 11) (ini := false) (by decide) rfl (fun q => by cases q) bk_Main_waits_19_1 _ 21 _ _ _ bk_Main_waits_19_1_ok rfl ?_
      show am_EI m_Main_waits kc ks 21 [.ref a0, .int x1, .int x2, .int x3, .ref b4, .null, .float 0] [.null] h18 Q
      refine am_ifnonnullN dc_Main_waits_21 ?_
      refine am_blk_ok (c := 11) (ini := false) (by decide) rfl (fun q => by cases q) bk_Main_waits_24_2 _ 26 _ _ _ bk_Main_waits_24_2_ok rfl ?_
      show am_EI m_Main_waits kc ks 26 [.ref a0, .int x1, .int x2, .int x3, .ref b4, .null, .float 0] [.int 1, .ref a0] h18 Q
      obtain ⟨o22, t⟩ := t
      refine am_callV (M2 := m_Main_refuse) (ci := 11) (a := a0) (kc := kc) (ks := ks) (k2c := 0) (k2s := 0) (as := []) [.int 1] dc_Main_waits_26 lk_11_108 im_Main_refuse se_Main_refuse lm_Main_refuse np_Main_refuse ⟨Nat.le_of_ble_eq_true rfl, Nat.le_of_ble_eq_true rfl⟩ (fun _ => Nat.le_of_ble_eq_true rfl) (by decide) rfl o22 (am_Ei.end (am_Ei.mono t (fun r24 h23 t => ?_)))
      exact am_iret dc_Main_waits_29 rfl t
    · replace t := t.2 b20 c21
      refine am_blk_ok (c := 11) (ini := false) (by decide) rfl (fun q => by cases q) bk_Main_waits_12_2 _ 16 _ _ _ bk_Main_waits_12_2_ok rfl ?_
      show am_EI m_Main_waits kc ks 16 [.ref a0, .int x1, .int x2, .int x3, .ref b4, .ref b20, .float 0] [.ref b4] h18 Q
      refine am_ifnull dc_Main_waits_16 ?_
      refine am_blk_ok (c := 11) (ini := false) (by decide) rfl (fun q => by cases q) bk_Main_waits_19_1 _ 21 _ _ _ bk_Main_waits_19_1_ok rfl ?_
      show am_EI m_Main_waits kc ks 21 [.ref a0, .int x1, .int x2, .int x3, .ref b4, .ref b20, .float 0] [.ref b20] h18 Q
      refine am_ifnonnull (tgt := 30) dc_Main_waits_21 (by decide) ?_
      refine am_blk_ok (c := 11) (ini := false) (by decide) rfl (fun q => by cases q) bk_Main_waits_30_1 _ 31 _ _ _ bk_Main_waits_30_1_ok rfl ?_
      show am_EI m_Main_waits kc ks 31 [.ref a0, .int x1, .int x2, .int x3, .ref b4, .ref b20, .float 0] [.int x3] h18 Q
      refine am_callS (M2 := m_Main_isNumberToAsk) (kc := kc) (ks := ks) (k2c := 0) (k2s := 0) (as := []) [.int x3] dc_Main_waits_31 lk_11_260 st_Main_isNumberToAsk lm_Main_isNumberToAsk np_Main_isNumberToAsk ⟨Nat.le_of_ble_eq_true rfl, Nat.le_of_ble_eq_true rfl⟩ (fun _ => Nat.le_of_ble_eq_true rfl) (am_Ei.end (am_Ei.mono t (fun r26 h25 t => ?_)))
      refine am_if_ne (tgt := 43) dc_Main_waits_34 (by decide) (fun c27 => ?_) (fun c27 => ?_)
      · replace t := t.1 c27
        refine am_blk_ok (c := 11) (ini := false) (by decide) rfl (fun q => by cases q) bk_Main_waits_43_5 _ 52 _ _ _ bk_Main_waits_43_5_ok rfl ?_
        show (am_tg h25 a0 = (11, 18) ∧ (∃ b28, am_P h25 a0 9 = some b28 ∧ am_EI m_Main_waits kc ks 52 [.ref a0, .int x1, .int x2, .int x3, .ref b4, .ref b20, .float 0] [.int x3, .ref b20, .ref b4, .ref b28] h25 Q))
        obtain ⟨o29, b28, q30, t⟩ := t
        refine ⟨o29, b28, q30, ?_⟩
        obtain ⟨o31, t⟩ := t
        refine am_callV (M2 := m_Planner_plan) (ci := 1) (a := b28) (kc := kc) (ks := ks) (k2c := 0) (k2s := 0) (as := []) [.ref b4, .ref b20, .int x3] dc_Main_waits_52 lk_11_263 im_Planner_plan se_Planner_plan lm_Planner_plan np_Planner_plan ⟨Nat.le_of_ble_eq_true rfl, Nat.le_of_ble_eq_true rfl⟩ (fun _ => Nat.le_of_ble_eq_true rfl) (by decide) rfl o31 (am_Ei.end (am_Ei.mono t (fun r33 h32 t => ?_)))
        refine am_blk_ok (c := 11) (ini := false) (by decide) rfl (fun q => by cases q) bk_Main_waits_55_3 _ 60 _ _ _ bk_Main_waits_55_3_ok rfl ?_
        show am_EI m_Main_waits kc ks 60 [.ref a0, .int x1, .int x2, .int x3, .ref b4, .ref b20, .int r33] [.int r33, .ref a0] h32 Q
        refine am_if_eq (tgt := 78) dc_Main_waits_60 (by decide) (fun c34 => ?_) (fun c34 => ?_)
        · replace t := t.1 c34
          refine am_blk_ok (c := 11) (ini := false) (by decide) rfl (fun q => by cases q) bk_Main_waits_78_1 _ 79 _ _ _ bk_Main_waits_78_1_ok rfl ?_
          show am_EI m_Main_waits kc ks 79 [.ref a0, .int x1, .int x2, .int x3, .ref b4, .ref b20, .int r33] [.int (-1), .ref a0] h32 Q
          obtain ⟨o35, t⟩ := t
          refine am_callV (M2 := m_Main_answer) (ci := 11) (a := a0) (kc := kc) (ks := ks) (k2c := 0) (k2s := 0) (as := []) [.int (-1)] dc_Main_waits_79 lk_11_119 im_Main_answer se_Main_answer lm_Main_answer np_Main_answer ⟨Nat.le_of_ble_eq_true rfl, Nat.le_of_ble_eq_true rfl⟩ (fun _ => Nat.le_of_ble_eq_true rfl) (by decide) rfl o35 (am_Ei.end (am_Ei.mono t (fun r37 h36 t => ?_)))
          exact am_iret dc_Main_waits_82 rfl t
        · replace t := t.2 c34
          refine am_blk_ok (c := 11) (ini := false) (by decide) rfl (fun q => by cases q) bk_Main_waits_63_5 _ 72 _ _ _ bk_Main_waits_63_5_ok rfl ?_
          show (am_tg h32 a0 = (11, 18) ∧ (∃ b38, am_P h32 a0 9 = some b38 ∧ am_EI m_Main_waits kc ks 72 [.ref a0, .int x1, .int x2, .int x3, .ref b4, .ref b20, .int r33] [.ref b20, .ref b4, .int x3, .ref b38, .ref a0] h32 Q))
          obtain ⟨o39, b38, q40, t⟩ := t
          refine ⟨o39, b38, q40, ?_⟩
          obtain ⟨o41, t⟩ := t
          refine am_callV (M2 := m_Planner_waitedFrom) (ci := 1) (a := b38) (kc := kc) (ks := ks) (k2c := 0) (k2s := 0) (as := [.ref a0]) [.int x3, .ref b4, .ref b20] dc_Main_waits_72 lk_11_270 im_Planner_waitedFrom se_Planner_waitedFrom lm_Planner_waitedFrom np_Planner_waitedFrom ⟨Nat.le_of_ble_eq_true rfl, Nat.le_of_ble_eq_true rfl⟩ (fun _ => Nat.le_of_ble_eq_true rfl) (by decide) rfl o41 (am_Ei.end (am_Ei.mono t (fun r43 h42 t => ?_)))
          refine am_blk_ok (c := 11) (ini := false) (by decide) rfl (fun q => by cases q) bk_Main_waits_75_1 _ 79 _ _ _ bk_Main_waits_75_1_ok rfl ?_
          show am_EI m_Main_waits kc ks 79 [.ref a0, .int x1, .int x2, .int x3, .ref b4, .ref b20, .int r33] [.int r43, .ref a0] h42 Q
          obtain ⟨o44, t⟩ := t
          refine am_callV (M2 := m_Main_answer) (ci := 11) (a := a0) (kc := kc) (ks := ks) (k2c := 0) (k2s := 0) (as := []) [.int r43] dc_Main_waits_79 lk_11_119 im_Main_answer se_Main_answer lm_Main_answer np_Main_answer ⟨Nat.le_of_ble_eq_true rfl, Nat.le_of_ble_eq_true rfl⟩ (fun _ => Nat.le_of_ble_eq_true rfl) (by decide) rfl o44 (am_Ei.end (am_Ei.mono t (fun r46 h45 t => ?_)))
          exact am_iret dc_Main_waits_82 rfl t
      · replace t := t.2 c27
        refine am_blk_ok (c := 11) (ini := false) (by decide) rfl (fun q => by cases q) bk_Main_waits_37_2 _ 39 _ _ _ bk_Main_waits_37_2_ok rfl ?_
        show am_EI m_Main_waits kc ks 39 [.ref a0, .int x1, .int x2, .int x3, .ref b4, .ref b20, .float 0] [.int 3, .ref a0] h25 Q
        obtain ⟨o47, t⟩ := t
        refine am_callV (M2 := m_Main_refuse) (ci := 11) (a := a0) (kc := kc) (ks := ks) (k2c := 0) (k2s := 0) (as := []) [.int 3] dc_Main_waits_39 lk_11_108 im_Main_refuse se_Main_refuse lm_Main_refuse np_Main_refuse ⟨Nat.le_of_ble_eq_true rfl, Nat.le_of_ble_eq_true rfl⟩ (fun _ => Nat.le_of_ble_eq_true rfl) (by decide) rfl o47 (am_Ei.end (am_Ei.mono t (fun r49 h48 t => ?_)))
        exact am_iret dc_Main_waits_42 rfl t
set_option maxRecDepth 20000 in
theorem ev_Main_waits (a0 : Nat) (x1 x2 x3 : Int32) (h : am_H) (Q : Int32 → am_H → Prop) (t : (am_tg h a0 = (11, 18) ∧ (am_Er m_Main_routeAt 0 0 [.ref a0, .int x1] h (fun r3 h2 => (r3 = none → (am_tg h2 a0 = (11, 18) ∧ (am_Er m_Main_shipAt 0 0 [.ref a0, .int x2] h2 (fun r8 h7 => (r8 = none → (am_tg h7 a0 = (11, 18) ∧ (am_Ei m_Main_refuse 0 0 [.ref a0, .int 1] h7 (fun r13 h12 => Q r13 h12)))) ∧ ∀ b9, r8 = some b9 → (am_tg h7 a0 = (11, 18) ∧ (am_Ei m_Main_refuse 0 0 [.ref a0, .int 1] h7 (fun r16 h15 => Q r16 h15))))))) ∧ ∀ b4, r3 = some b4 → (am_tg h2 a0 = (11, 18) ∧ (am_Er m_Main_shipAt 0 0 [.ref a0, .int x2] h2 (fun r19 h18 => (r19 = none → (am_tg h18 a0 = (11, 18) ∧ (am_Ei m_Main_refuse 0 0 [.ref a0, .int 1] h18 (fun r24 h23 => Q r24 h23)))) ∧ ∀ b20, r19 = some b20 → (am_Ei m_Main_isNumberToAsk 0 0 [.int x3] h18 (fun r26 h25 => ((¬ r26 = 0 → (am_tg h25 a0 = (11, 18) ∧ (∃ b28, am_P h25 a0 9 = some b28 ∧ (am_tg h25 b28 = (1, 7) ∧ (am_Ei m_Planner_plan 0 0 [.ref b28, .ref b4, .ref b20, .int x3] h25 (fun r33 h32 => ((r33 = 0 → (am_tg h32 a0 = (11, 18) ∧ (am_Ei m_Main_answer 0 0 [.ref a0, .int (-1)] h32 (fun r37 h36 => Q r37 h36)))) ∧ (¬ r33 = 0 → (am_tg h32 a0 = (11, 18) ∧ (∃ b38, am_P h32 a0 9 = some b38 ∧ (am_tg h32 b38 = (1, 7) ∧ (am_Ei m_Planner_waitedFrom 0 0 [.ref b38, .int x3, .ref b4, .ref b20] h32 (fun r43 h42 => (am_tg h42 a0 = (11, 18) ∧ (am_Ei m_Main_answer 0 0 [.ref a0, .int r43] h42 (fun r46 h45 => Q r46 h45)))))))))))))))) ∧ (r26 = 0 → (am_tg h25 a0 = (11, 18) ∧ (am_Ei m_Main_refuse 0 0 [.ref a0, .int 3] h25 (fun r49 h48 => Q r49 h48)))))))))))))) : am_Ei m_Main_waits 0 0 [.ref a0, .int x1, .int x2, .int x3] h Q :=
  am_Ev.of (by decide +kernel) (Nat.le_of_ble_eq_true rfl) (by simp only [List.mem_cons, List.not_mem_nil, or_false]; intro v hv; rcases hv with rfl | rfl | rfl | rfl; all_goals first | exact trivial) (sg_Main_waits_0 (kc := 0) (ks := 0) a0 x1 x2 x3 h (am_qi Q) t)
def bk_Main_water_0_2 : List am_E := [(0, .aload_n 0, 1, 0, 0), (1, .iload_n 1, 1, 0, 0)]
theorem bk_Main_water_0_2_ok : bk_Main_water_0_2.all (am_ok 11 false m_Main_water.2.1) = true := by decide +kernel
def bk_Main_water_5_2 : List am_E := [(5, .astore_n 3, 1, 0, 0), (6, .aload_n 3, 1, 0, 0)]
theorem bk_Main_water_5_2_ok : bk_Main_water_5_2.all (am_ok 11 false m_Main_water.2.1) = true := by decide +kernel
def bk_Main_water_18_2 : List am_E := [(18, .aload_n 0, 1, 0, 0), (19, .iconst 1, 1, 0, 1)]
theorem bk_Main_water_18_2_ok : bk_Main_water_18_2.all (am_ok 11 false m_Main_water.2.1) = true := by decide +kernel
def bk_Main_water_10_2 : List am_E := [(10, .aload_n 3, 1, 0, 0), (11, .iload_n 2, 1, 0, 0)]
theorem bk_Main_water_10_2_ok : bk_Main_water_10_2.all (am_ok 11 false m_Main_water.2.1) = true := by decide +kernel
def bk_Main_water_24_3 : List am_E := [(24, .aload_n 0, 1, 0, 0), (25, .aload_n 3, 1, 0, 0), (26, .iload_n 2, 1, 0, 0)]
theorem bk_Main_water_24_3_ok : bk_Main_water_24_3.all (am_ok 11 false m_Main_water.2.1) = true := by decide +kernel
theorem dc_Main_water_2 : decode m_Main_water.2.1 2 = .ok (.invokevirtual 129, 3) := by decide +kernel
theorem dc_Main_water_7 : decode m_Main_water.2.1 7 = .ok (.ifnull 11, 3) := by decide +kernel
theorem dc_Main_water_20 : decode m_Main_water.2.1 20 = .ok (.invokevirtual 108, 3) := by decide +kernel
theorem dc_Main_water_23 : decode m_Main_water.2.1 23 = .ok (.ireturn, 1) := by decide +kernel
theorem dc_Main_water_12 : decode m_Main_water.2.1 12 = .ok (.invokevirtual 202, 3) := by decide +kernel
theorem dc_Main_water_27 : decode m_Main_water.2.1 27 = .ok (.invokevirtual 205, 3) := by decide +kernel
theorem dc_Main_water_30 : decode m_Main_water.2.1 30 = .ok (.invokevirtual 119, 3) := by decide +kernel
theorem dc_Main_water_33 : decode m_Main_water.2.1 33 = .ok (.ireturn, 1) := by decide +kernel
theorem dc_Main_water_15 : decode m_Main_water.2.1 15 = .ok (.ifCond .ne 9, 3) := by decide +kernel
set_option maxRecDepth 20000 in
theorem sg_Main_water_0 {kc ks : Nat} (a0 : Nat) (x1 x2 : Int32) (h : am_H) (Q : Option Value → am_H → Prop) (t : (am_tg h a0 = (11, 18) ∧ (am_Er m_Main_portAt 0 0 [.ref a0, .int x1] h (fun r3 h2 => (r3 = none → (am_tg h2 a0 = (11, 18) ∧ (am_Ei m_Main_refuse 0 0 [.ref a0, .int 1] h2 (fun r8 h7 => Q (some (.int r8)) h7)))) ∧ ∀ b4, r3 = some b4 → (am_tg h2 b4 = (2, 5) ∧ (am_Ei m_Port_hasMinute 0 0 [.ref b4, .int x2] h2 (fun r11 h10 => ((¬ r11 = 0 → (am_tg h10 b4 = (2, 5) ∧ (am_Ei m_Port_wholeHeightAt 0 0 [.ref b4, .int x2] h10 (fun r15 h14 => (am_tg h14 a0 = (11, 18) ∧ (am_Ei m_Main_answer 0 0 [.ref a0, .int r15] h14 (fun r18 h17 => Q (some (.int r18)) h17))))))) ∧ (r11 = 0 → (am_tg h10 a0 = (11, 18) ∧ (am_Ei m_Main_refuse 0 0 [.ref a0, .int 1] h10 (fun r21 h20 => Q (some (.int r21)) h20)))))))))))) : am_EI m_Main_water kc ks 0 [.ref a0, .int x1, .int x2, .float 0] [] h Q := by
  refine am_blk_ok (c := 11) (ini := false) (by decide) rfl (fun q => by cases q) bk_Main_water_0_2 _ 2 _ _ _ bk_Main_water_0_2_ok rfl ?_
  show am_EI m_Main_water kc ks 2 [.ref a0, .int x1, .int x2, .float 0] [.int x1, .ref a0] h Q
  obtain ⟨o1, t⟩ := t
  refine am_callV (M2 := m_Main_portAt) (ci := 11) (a := a0) (kc := kc) (ks := ks) (k2c := 0) (k2s := 0) (as := []) [.int x1] dc_Main_water_2 lk_11_129 im_Main_portAt se_Main_portAt lm_Main_portAt np_Main_portAt ⟨Nat.le_of_ble_eq_true rfl, Nat.le_of_ble_eq_true rfl⟩ (fun _ => Nat.le_of_ble_eq_true rfl) (by decide) rfl o1 (am_Er.end (am_Er.mono t (fun r3 h2 t => ⟨fun c5 => ?_, fun b4 c5 => ?_⟩)))
  · replace t := t.1 c5
    refine am_blk_ok (c := 11) (ini := false) (by decide) rfl (fun q => by cases q) bk_Main_water_5_2 _ 7 _ _ _ bk_Main_water_5_2_ok rfl ?_
    show am_EI m_Main_water kc ks 7 [.ref a0, .int x1, .int x2, .null] [.null] h2 Q
    refine am_ifnullN (tgt := 18) dc_Main_water_7 (by decide) ?_
    refine am_blk_ok (c := 11) (ini := false) (by decide) rfl (fun q => by cases q) bk_Main_water_18_2 _ 20 _ _ _ bk_Main_water_18_2_ok rfl ?_
    show am_EI m_Main_water kc ks 20 [.ref a0, .int x1, .int x2, .null] [.int 1, .ref a0] h2 Q
    obtain ⟨o6, t⟩ := t
    refine am_callV (M2 := m_Main_refuse) (ci := 11) (a := a0) (kc := kc) (ks := ks) (k2c := 0) (k2s := 0) (as := []) [.int 1] dc_Main_water_20 lk_11_108 im_Main_refuse se_Main_refuse lm_Main_refuse np_Main_refuse ⟨Nat.le_of_ble_eq_true rfl, Nat.le_of_ble_eq_true rfl⟩ (fun _ => Nat.le_of_ble_eq_true rfl) (by decide) rfl o6 (am_Ei.end (am_Ei.mono t (fun r8 h7 t => ?_)))
    exact am_iret dc_Main_water_23 rfl t
  · replace t := t.2 b4 c5
    refine am_blk_ok (c := 11) (ini := false) (by decide) rfl (fun q => by cases q) bk_Main_water_5_2 _ 7 _ _ _ bk_Main_water_5_2_ok rfl ?_
    show am_EI m_Main_water kc ks 7 [.ref a0, .int x1, .int x2, .ref b4] [.ref b4] h2 Q
    refine am_ifnull dc_Main_water_7 ?_
    refine am_blk_ok (c := 11) (ini := false) (by decide) rfl (fun q => by cases q) bk_Main_water_10_2 _ 12 _ _ _ bk_Main_water_10_2_ok rfl ?_
    show am_EI m_Main_water kc ks 12 [.ref a0, .int x1, .int x2, .ref b4] [.int x2, .ref b4] h2 Q
    obtain ⟨o9, t⟩ := t
    refine am_callV (M2 := m_Port_hasMinute) (ci := 2) (a := b4) (kc := kc) (ks := ks) (k2c := 0) (k2s := 0) (as := []) [.int x2] dc_Main_water_12 lk_11_202 im_Port_hasMinute se_Port_hasMinute lm_Port_hasMinute np_Port_hasMinute ⟨Nat.le_of_ble_eq_true rfl, Nat.le_of_ble_eq_true rfl⟩ (fun _ => Nat.le_of_ble_eq_true rfl) (by decide) rfl o9 (am_Ei.end (am_Ei.mono t (fun r11 h10 t => ?_)))
    refine am_if_ne (tgt := 24) dc_Main_water_15 (by decide) (fun c12 => ?_) (fun c12 => ?_)
    · replace t := t.1 c12
      refine am_blk_ok (c := 11) (ini := false) (by decide) rfl (fun q => by cases q) bk_Main_water_24_3 _ 27 _ _ _ bk_Main_water_24_3_ok rfl ?_
      show am_EI m_Main_water kc ks 27 [.ref a0, .int x1, .int x2, .ref b4] [.int x2, .ref b4, .ref a0] h10 Q
      obtain ⟨o13, t⟩ := t
      refine am_callV (M2 := m_Port_wholeHeightAt) (ci := 2) (a := b4) (kc := kc) (ks := ks) (k2c := 0) (k2s := 0) (as := [.ref a0]) [.int x2] dc_Main_water_27 lk_11_205 im_Port_wholeHeightAt se_Port_wholeHeightAt lm_Port_wholeHeightAt np_Port_wholeHeightAt ⟨Nat.le_of_ble_eq_true rfl, Nat.le_of_ble_eq_true rfl⟩ (fun _ => Nat.le_of_ble_eq_true rfl) (by decide) rfl o13 (am_Ei.end (am_Ei.mono t (fun r15 h14 t => ?_)))
      obtain ⟨o16, t⟩ := t
      refine am_callV (M2 := m_Main_answer) (ci := 11) (a := a0) (kc := kc) (ks := ks) (k2c := 0) (k2s := 0) (as := []) [.int r15] dc_Main_water_30 lk_11_119 im_Main_answer se_Main_answer lm_Main_answer np_Main_answer ⟨Nat.le_of_ble_eq_true rfl, Nat.le_of_ble_eq_true rfl⟩ (fun _ => Nat.le_of_ble_eq_true rfl) (by decide) rfl o16 (am_Ei.end (am_Ei.mono t (fun r18 h17 t => ?_)))
      exact am_iret dc_Main_water_33 rfl t
    · replace t := t.2 c12
      refine am_blk_ok (c := 11) (ini := false) (by decide) rfl (fun q => by cases q) bk_Main_water_18_2 _ 20 _ _ _ bk_Main_water_18_2_ok rfl ?_
      show am_EI m_Main_water kc ks 20 [.ref a0, .int x1, .int x2, .ref b4] [.int 1, .ref a0] h10 Q
      obtain ⟨o19, t⟩ := t
      refine am_callV (M2 := m_Main_refuse) (ci := 11) (a := a0) (kc := kc) (ks := ks) (k2c := 0) (k2s := 0) (as := []) [.int 1] dc_Main_water_20 lk_11_108 im_Main_refuse se_Main_refuse lm_Main_refuse np_Main_refuse ⟨Nat.le_of_ble_eq_true rfl, Nat.le_of_ble_eq_true rfl⟩ (fun _ => Nat.le_of_ble_eq_true rfl) (by decide) rfl o19 (am_Ei.end (am_Ei.mono t (fun r21 h20 t => ?_)))
      exact am_iret dc_Main_water_23 rfl t
set_option maxRecDepth 20000 in
theorem ev_Main_water (a0 : Nat) (x1 x2 : Int32) (h : am_H) (Q : Int32 → am_H → Prop) (t : (am_tg h a0 = (11, 18) ∧ (am_Er m_Main_portAt 0 0 [.ref a0, .int x1] h (fun r3 h2 => (r3 = none → (am_tg h2 a0 = (11, 18) ∧ (am_Ei m_Main_refuse 0 0 [.ref a0, .int 1] h2 (fun r8 h7 => Q r8 h7)))) ∧ ∀ b4, r3 = some b4 → (am_tg h2 b4 = (2, 5) ∧ (am_Ei m_Port_hasMinute 0 0 [.ref b4, .int x2] h2 (fun r11 h10 => ((¬ r11 = 0 → (am_tg h10 b4 = (2, 5) ∧ (am_Ei m_Port_wholeHeightAt 0 0 [.ref b4, .int x2] h10 (fun r15 h14 => (am_tg h14 a0 = (11, 18) ∧ (am_Ei m_Main_answer 0 0 [.ref a0, .int r15] h14 (fun r18 h17 => Q r18 h17))))))) ∧ (r11 = 0 → (am_tg h10 a0 = (11, 18) ∧ (am_Ei m_Main_refuse 0 0 [.ref a0, .int 1] h10 (fun r21 h20 => Q r21 h20)))))))))))) : am_Ei m_Main_water 0 0 [.ref a0, .int x1, .int x2] h Q :=
  am_Ev.of (by decide +kernel) (Nat.le_of_ble_eq_true rfl) (by simp only [List.mem_cons, List.not_mem_nil, or_false]; intro v hv; rcases hv with rfl | rfl | rfl; all_goals first | exact trivial) (sg_Main_water_0 (kc := 0) (ks := 0) a0 x1 x2 h (am_qi Q) t)
def bk_Main_writeOut_0_1 : List am_E := [(0, .iload_n 1, 1, 0, 0)]
theorem bk_Main_writeOut_0_1_ok : bk_Main_writeOut_0_1.all (am_ok 11 false m_Main_writeOut.2.1) = true := by decide +kernel
def bk_Main_writeOut_28_4 : List am_E := [(28, .aload_n 0, 1, 0, 0), (29, .getfield 78, 3, 4441, 0), (32, .aload_n 0, 1, 0, 0), (33, .iload_n 2, 1, 0, 0)]
theorem bk_Main_writeOut_28_4_ok : bk_Main_writeOut_28_4.all (am_ok 11 false m_Main_writeOut.2.1) = true := by decide +kernel
def bk_Main_writeOut_40_1 : List am_E := [(40, .goto 45, 3, 0, 45)]
theorem bk_Main_writeOut_40_1_ok : bk_Main_writeOut_40_1.all (am_ok 11 false m_Main_writeOut.2.1) = true := by decide +kernel
def bk_Main_writeOut_43_4 : List am_E := [(43, .aload_n 0, 1, 0, 0), (44, .getfield 78, 3, 4441, 0), (47, .aload_n 0, 1, 0, 0), (48, .iload_n 2, 1, 0, 0)]
theorem bk_Main_writeOut_43_4_ok : bk_Main_writeOut_43_4.all (am_ok 11 false m_Main_writeOut.2.1) = true := by decide +kernel
def bk_Main_writeOut_55_1 : List am_E := [(55, .goto 30, 3, 0, 30)]
theorem bk_Main_writeOut_55_1_ok : bk_Main_writeOut_55_1.all (am_ok 11 false m_Main_writeOut.2.1) = true := by decide +kernel
def bk_Main_writeOut_58_4 : List am_E := [(58, .aload_n 0, 1, 0, 0), (59, .getfield 78, 3, 4441, 0), (62, .aload_n 0, 1, 0, 0), (63, .iload_n 2, 1, 0, 0)]
theorem bk_Main_writeOut_58_4_ok : bk_Main_writeOut_58_4.all (am_ok 11 false m_Main_writeOut.2.1) = true := by decide +kernel
def bk_Main_writeOut_70_1 : List am_E := [(70, .goto 15, 3, 0, 15)]
theorem bk_Main_writeOut_70_1_ok : bk_Main_writeOut_70_1.all (am_ok 11 false m_Main_writeOut.2.1) = true := by decide +kernel
def bk_Main_writeOut_73_4 : List am_E := [(73, .aload_n 0, 1, 0, 0), (74, .getfield 78, 3, 4441, 0), (77, .aload_n 0, 1, 0, 0), (78, .iload_n 2, 1, 0, 0)]
theorem bk_Main_writeOut_73_4_ok : bk_Main_writeOut_73_4.all (am_ok 11 false m_Main_writeOut.2.1) = true := by decide +kernel
theorem dc_Main_writeOut_1 : decode m_Main_writeOut.2.1 1 = .ok (.tableswitch 72 0 2 #[27, 42, 57], 27) := by decide +kernel
theorem dc_Main_writeOut_34 : decode m_Main_writeOut.2.1 34 = .ok (.invokevirtual 129, 3) := by decide +kernel
theorem dc_Main_writeOut_37 : decode m_Main_writeOut.2.1 37 = .ok (.invokevirtual 322, 3) := by decide +kernel
theorem dc_Main_writeOut_85 : decode m_Main_writeOut.2.1 85 = .ok (.return_, 1) := by decide +kernel
theorem dc_Main_writeOut_49 : decode m_Main_writeOut.2.1 49 = .ok (.invokevirtual 182, 3) := by decide +kernel
theorem dc_Main_writeOut_52 : decode m_Main_writeOut.2.1 52 = .ok (.invokevirtual 325, 3) := by decide +kernel
theorem dc_Main_writeOut_64 : decode m_Main_writeOut.2.1 64 = .ok (.invokevirtual 250, 3) := by decide +kernel
theorem dc_Main_writeOut_67 : decode m_Main_writeOut.2.1 67 = .ok (.invokevirtual 329, 3) := by decide +kernel
theorem dc_Main_writeOut_79 : decode m_Main_writeOut.2.1 79 = .ok (.invokevirtual 246, 3) := by decide +kernel
theorem dc_Main_writeOut_82 : decode m_Main_writeOut.2.1 82 = .ok (.invokevirtual 333, 3) := by decide +kernel
set_option maxRecDepth 20000 in
theorem sg_Main_writeOut_0 {kc ks : Nat} (a0 : Nat) (x1 x2 : Int32) (h : am_H) (Q : Option Value → am_H → Prop) (t : ((x1 = 0 → (am_tg h a0 = (11, 18) ∧ (∃ b2, am_P h a0 10 = some b2 ∧ (am_Er m_Main_portAt 0 0 [.ref a0, .int x2] h (fun r6 h5 => (r6 = none → (am_tg h5 b2 = (0, 2) ∧ (am_Ew m_Page_writePort 0 0 [.ref b2, .null] h5 (fun h10 => Q none h10)))) ∧ ∀ b7, r6 = some b7 → (am_tg h5 b2 = (0, 2) ∧ (am_Ew m_Page_writePort 0 0 [.ref b2, .ref b7] h5 (fun h12 => Q none h12)))))))) ∧ (x1 = 1 → (am_tg h a0 = (11, 18) ∧ (∃ b14, am_P h a0 10 = some b14 ∧ (am_Er m_Main_sillAt 0 0 [.ref a0, .int x2] h (fun r18 h17 => (r18 = none → (am_tg h17 b14 = (0, 2) ∧ (am_Ew m_Page_writeSill 0 0 [.ref b14, .null] h17 (fun h22 => Q none h22)))) ∧ ∀ b19, r18 = some b19 → (am_tg h17 b14 = (0, 2) ∧ (am_Ew m_Page_writeSill 0 0 [.ref b14, .ref b19] h17 (fun h24 => Q none h24)))))))) ∧ (x1 = 2 → (am_tg h a0 = (11, 18) ∧ (∃ b26, am_P h a0 10 = some b26 ∧ (am_Er m_Main_shipAt 0 0 [.ref a0, .int x2] h (fun r30 h29 => (r30 = none → (am_tg h29 b26 = (0, 2) ∧ (am_Ew m_Page_writeShip 0 0 [.ref b26, .null] h29 (fun h34 => Q none h34)))) ∧ ∀ b31, r30 = some b31 → (am_tg h29 b26 = (0, 2) ∧ (am_Ew m_Page_writeShip 0 0 [.ref b26, .ref b31] h29 (fun h36 => Q none h36)))))))) ∧ (¬ x1 = 0 → ¬ x1 = 1 → ¬ x1 = 2 → (am_tg h a0 = (11, 18) ∧ (∃ b37, am_P h a0 10 = some b37 ∧ (am_Er m_Main_routeAt 0 0 [.ref a0, .int x2] h (fun r41 h40 => (r41 = none → (am_tg h40 b37 = (0, 2) ∧ (am_Ew m_Page_writeRoute 0 0 [.ref b37, .null] h40 (fun h45 => Q none h45)))) ∧ ∀ b42, r41 = some b42 → (am_tg h40 b37 = (0, 2) ∧ (am_Ew m_Page_writeRoute 0 0 [.ref b37, .ref b42] h40 (fun h47 => Q none h47)))))))))) : am_EI m_Main_writeOut kc ks 0 [.ref a0, .int x1, .int x2] [] h Q := by
  refine am_blk_ok (c := 11) (ini := false) (by decide) rfl (fun q => by cases q) bk_Main_writeOut_0_1 _ 1 _ _ _ bk_Main_writeOut_0_1_ok rfl ?_
  show am_EI m_Main_writeOut kc ks 1 [.ref a0, .int x1, .int x2] [.int x1] h Q
  by_cases c1 : x1 = 0
  · refine am_tabIn (x := x1) (tgt := 28) dc_Main_writeOut_1 (by rw [c1]; decide) (by rw [c1]; decide) (by rw [c1]; rfl) (by decide) ?_
    replace t := t.1 c1
    refine am_blk_ok (c := 11) (ini := false) (by decide) rfl (fun q => by cases q) bk_Main_writeOut_28_4 _ 34 _ _ _ bk_Main_writeOut_28_4_ok rfl ?_
    show (am_tg h a0 = (11, 18) ∧ (∃ b2, am_P h a0 10 = some b2 ∧ am_EI m_Main_writeOut kc ks 34 [.ref a0, .int x1, .int x2] [.int x2, .ref a0, .ref b2] h Q))
    obtain ⟨o3, b2, q4, t⟩ := t
    refine ⟨o3, b2, q4, ?_⟩
    refine am_callV (M2 := m_Main_portAt) (ci := 11) (a := a0) (kc := kc) (ks := ks) (k2c := 0) (k2s := 0) (as := [.ref b2]) [.int x2] dc_Main_writeOut_34 lk_11_129 im_Main_portAt se_Main_portAt lm_Main_portAt np_Main_portAt ⟨Nat.le_of_ble_eq_true rfl, Nat.le_of_ble_eq_true rfl⟩ (fun _ => Nat.le_of_ble_eq_true rfl) (by decide) rfl o3 (am_Er.end (am_Er.mono t (fun r6 h5 t => ⟨fun c8 => ?_, fun b7 c8 => ?_⟩)))
    · replace t := t.1 c8
      obtain ⟨o9, t⟩ := t
      refine am_callV (M2 := m_Page_writePort) (ci := 0) (a := b2) (kc := kc) (ks := ks) (k2c := 0) (k2s := 0) (as := []) [.null] dc_Main_writeOut_37 lk_11_322 im_Page_writePort se_Page_writePort lm_Page_writePort np_Page_writePort ⟨Nat.le_of_ble_eq_true rfl, Nat.le_of_ble_eq_true rfl⟩ (fun _ => Nat.le_of_ble_eq_true rfl) (by decide) rfl o9 (am_Ew.end (am_Ew.mono t (fun h10 t => ?_)))
      refine am_blk_ok (c := 11) (ini := false) (by decide) rfl (fun q => by cases q) bk_Main_writeOut_40_1 _ 85 _ _ _ bk_Main_writeOut_40_1_ok rfl ?_
      show am_EI m_Main_writeOut kc ks 85 [.ref a0, .int x1, .int x2] [] h10 Q
      exact am_vret dc_Main_writeOut_85 rfl t
    · replace t := t.2 b7 c8
      obtain ⟨o11, t⟩ := t
      refine am_callV (M2 := m_Page_writePort) (ci := 0) (a := b2) (kc := kc) (ks := ks) (k2c := 0) (k2s := 0) (as := []) [.ref b7] dc_Main_writeOut_37 lk_11_322 im_Page_writePort se_Page_writePort lm_Page_writePort np_Page_writePort ⟨Nat.le_of_ble_eq_true rfl, Nat.le_of_ble_eq_true rfl⟩ (fun _ => Nat.le_of_ble_eq_true rfl) (by decide) rfl o11 (am_Ew.end (am_Ew.mono t (fun h12 t => ?_)))
      refine am_blk_ok (c := 11) (ini := false) (by decide) rfl (fun q => by cases q) bk_Main_writeOut_40_1 _ 85 _ _ _ bk_Main_writeOut_40_1_ok rfl ?_
      show am_EI m_Main_writeOut kc ks 85 [.ref a0, .int x1, .int x2] [] h12 Q
      exact am_vret dc_Main_writeOut_85 rfl t
  by_cases c13 : x1 = 1
  · refine am_tabIn (x := x1) (tgt := 43) dc_Main_writeOut_1 (by rw [c13]; decide) (by rw [c13]; decide) (by rw [c13]; rfl) (by decide) ?_
    replace t := t.2.1 c13
    refine am_blk_ok (c := 11) (ini := false) (by decide) rfl (fun q => by cases q) bk_Main_writeOut_43_4 _ 49 _ _ _ bk_Main_writeOut_43_4_ok rfl ?_
    show (am_tg h a0 = (11, 18) ∧ (∃ b14, am_P h a0 10 = some b14 ∧ am_EI m_Main_writeOut kc ks 49 [.ref a0, .int x1, .int x2] [.int x2, .ref a0, .ref b14] h Q))
    obtain ⟨o15, b14, q16, t⟩ := t
    refine ⟨o15, b14, q16, ?_⟩
    refine am_callV (M2 := m_Main_sillAt) (ci := 11) (a := a0) (kc := kc) (ks := ks) (k2c := 0) (k2s := 0) (as := [.ref b14]) [.int x2] dc_Main_writeOut_49 lk_11_182 im_Main_sillAt se_Main_sillAt lm_Main_sillAt np_Main_sillAt ⟨Nat.le_of_ble_eq_true rfl, Nat.le_of_ble_eq_true rfl⟩ (fun _ => Nat.le_of_ble_eq_true rfl) (by decide) rfl o15 (am_Er.end (am_Er.mono t (fun r18 h17 t => ⟨fun c20 => ?_, fun b19 c20 => ?_⟩)))
    · replace t := t.1 c20
      obtain ⟨o21, t⟩ := t
      refine am_callV (M2 := m_Page_writeSill) (ci := 0) (a := b14) (kc := kc) (ks := ks) (k2c := 0) (k2s := 0) (as := []) [.null] dc_Main_writeOut_52 lk_11_325 im_Page_writeSill se_Page_writeSill lm_Page_writeSill np_Page_writeSill ⟨Nat.le_of_ble_eq_true rfl, Nat.le_of_ble_eq_true rfl⟩ (fun _ => Nat.le_of_ble_eq_true rfl) (by decide) rfl o21 (am_Ew.end (am_Ew.mono t (fun h22 t => ?_)))
      refine am_blk_ok (c := 11) (ini := false) (by decide) rfl (fun q => by cases q) bk_Main_writeOut_55_1 _ 85 _ _ _ bk_Main_writeOut_55_1_ok rfl ?_
      show am_EI m_Main_writeOut kc ks 85 [.ref a0, .int x1, .int x2] [] h22 Q
      exact am_vret dc_Main_writeOut_85 rfl t
    · replace t := t.2 b19 c20
      obtain ⟨o23, t⟩ := t
      refine am_callV (M2 := m_Page_writeSill) (ci := 0) (a := b14) (kc := kc) (ks := ks) (k2c := 0) (k2s := 0) (as := []) [.ref b19] dc_Main_writeOut_52 lk_11_325 im_Page_writeSill se_Page_writeSill lm_Page_writeSill np_Page_writeSill ⟨Nat.le_of_ble_eq_true rfl, Nat.le_of_ble_eq_true rfl⟩ (fun _ => Nat.le_of_ble_eq_true rfl) (by decide) rfl o23 (am_Ew.end (am_Ew.mono t (fun h24 t => ?_)))
      refine am_blk_ok (c := 11) (ini := false) (by decide) rfl (fun q => by cases q) bk_Main_writeOut_55_1 _ 85 _ _ _ bk_Main_writeOut_55_1_ok rfl ?_
      show am_EI m_Main_writeOut kc ks 85 [.ref a0, .int x1, .int x2] [] h24 Q
      exact am_vret dc_Main_writeOut_85 rfl t
  by_cases c25 : x1 = 2
  · refine am_tabIn (x := x1) (tgt := 58) dc_Main_writeOut_1 (by rw [c25]; decide) (by rw [c25]; decide) (by rw [c25]; rfl) (by decide) ?_
    replace t := t.2.2.1 c25
    refine am_blk_ok (c := 11) (ini := false) (by decide) rfl (fun q => by cases q) bk_Main_writeOut_58_4 _ 64 _ _ _ bk_Main_writeOut_58_4_ok rfl ?_
    show (am_tg h a0 = (11, 18) ∧ (∃ b26, am_P h a0 10 = some b26 ∧ am_EI m_Main_writeOut kc ks 64 [.ref a0, .int x1, .int x2] [.int x2, .ref a0, .ref b26] h Q))
    obtain ⟨o27, b26, q28, t⟩ := t
    refine ⟨o27, b26, q28, ?_⟩
    refine am_callV (M2 := m_Main_shipAt) (ci := 11) (a := a0) (kc := kc) (ks := ks) (k2c := 0) (k2s := 0) (as := [.ref b26]) [.int x2] dc_Main_writeOut_64 lk_11_250 im_Main_shipAt se_Main_shipAt lm_Main_shipAt np_Main_shipAt ⟨Nat.le_of_ble_eq_true rfl, Nat.le_of_ble_eq_true rfl⟩ (fun _ => Nat.le_of_ble_eq_true rfl) (by decide) rfl o27 (am_Er.end (am_Er.mono t (fun r30 h29 t => ⟨fun c32 => ?_, fun b31 c32 => ?_⟩)))
    · replace t := t.1 c32
      obtain ⟨o33, t⟩ := t
      refine am_callV (M2 := m_Page_writeShip) (ci := 0) (a := b26) (kc := kc) (ks := ks) (k2c := 0) (k2s := 0) (as := []) [.null] dc_Main_writeOut_67 lk_11_329 im_Page_writeShip se_Page_writeShip lm_Page_writeShip np_Page_writeShip ⟨Nat.le_of_ble_eq_true rfl, Nat.le_of_ble_eq_true rfl⟩ (fun _ => Nat.le_of_ble_eq_true rfl) (by decide) rfl o33 (am_Ew.end (am_Ew.mono t (fun h34 t => ?_)))
      refine am_blk_ok (c := 11) (ini := false) (by decide) rfl (fun q => by cases q) bk_Main_writeOut_70_1 _ 85 _ _ _ bk_Main_writeOut_70_1_ok rfl ?_
      show am_EI m_Main_writeOut kc ks 85 [.ref a0, .int x1, .int x2] [] h34 Q
      exact am_vret dc_Main_writeOut_85 rfl t
    · replace t := t.2 b31 c32
      obtain ⟨o35, t⟩ := t
      refine am_callV (M2 := m_Page_writeShip) (ci := 0) (a := b26) (kc := kc) (ks := ks) (k2c := 0) (k2s := 0) (as := []) [.ref b31] dc_Main_writeOut_67 lk_11_329 im_Page_writeShip se_Page_writeShip lm_Page_writeShip np_Page_writeShip ⟨Nat.le_of_ble_eq_true rfl, Nat.le_of_ble_eq_true rfl⟩ (fun _ => Nat.le_of_ble_eq_true rfl) (by decide) rfl o35 (am_Ew.end (am_Ew.mono t (fun h36 t => ?_)))
      refine am_blk_ok (c := 11) (ini := false) (by decide) rfl (fun q => by cases q) bk_Main_writeOut_70_1 _ 85 _ _ _ bk_Main_writeOut_70_1_ok rfl ?_
      show am_EI m_Main_writeOut kc ks 85 [.ref a0, .int x1, .int x2] [] h36 Q
      exact am_vret dc_Main_writeOut_85 rfl t
  refine am_tabOut (x := x1) (tgt := 73) dc_Main_writeOut_1 (by have e0 := am_ne32 c1; have e1 := am_ne32 c13; have e2 := am_ne32 c25; rw [show (0 : Int32).toInt = 0 from rfl] at e0; rw [show (1 : Int32).toInt = 1 from rfl] at e1; rw [show (2 : Int32).toInt = 2 from rfl] at e2; omega) (by decide) ?_
  replace t := t.2.2.2 c1 c13 c25
  refine am_blk_ok (c := 11) (ini := false) (by decide) rfl (fun q => by cases q) bk_Main_writeOut_73_4 _ 79 _ _ _ bk_Main_writeOut_73_4_ok rfl ?_
  show (am_tg h a0 = (11, 18) ∧ (∃ b37, am_P h a0 10 = some b37 ∧ am_EI m_Main_writeOut kc ks 79 [.ref a0, .int x1, .int x2] [.int x2, .ref a0, .ref b37] h Q))
  obtain ⟨o38, b37, q39, t⟩ := t
  refine ⟨o38, b37, q39, ?_⟩
  refine am_callV (M2 := m_Main_routeAt) (ci := 11) (a := a0) (kc := kc) (ks := ks) (k2c := 0) (k2s := 0) (as := [.ref b37]) [.int x2] dc_Main_writeOut_79 lk_11_246 im_Main_routeAt se_Main_routeAt lm_Main_routeAt np_Main_routeAt ⟨Nat.le_of_ble_eq_true rfl, Nat.le_of_ble_eq_true rfl⟩ (fun _ => Nat.le_of_ble_eq_true rfl) (by decide) rfl o38 (am_Er.end (am_Er.mono t (fun r41 h40 t => ⟨fun c43 => ?_, fun b42 c43 => ?_⟩)))
  · replace t := t.1 c43
    obtain ⟨o44, t⟩ := t
    refine am_callV (M2 := m_Page_writeRoute) (ci := 0) (a := b37) (kc := kc) (ks := ks) (k2c := 0) (k2s := 0) (as := []) [.null] dc_Main_writeOut_82 lk_11_333 im_Page_writeRoute se_Page_writeRoute lm_Page_writeRoute np_Page_writeRoute ⟨Nat.le_of_ble_eq_true rfl, Nat.le_of_ble_eq_true rfl⟩ (fun _ => Nat.le_of_ble_eq_true rfl) (by decide) rfl o44 (am_Ew.end (am_Ew.mono t (fun h45 t => ?_)))
    exact am_vret dc_Main_writeOut_85 rfl t
  · replace t := t.2 b42 c43
    obtain ⟨o46, t⟩ := t
    refine am_callV (M2 := m_Page_writeRoute) (ci := 0) (a := b37) (kc := kc) (ks := ks) (k2c := 0) (k2s := 0) (as := []) [.ref b42] dc_Main_writeOut_82 lk_11_333 im_Page_writeRoute se_Page_writeRoute lm_Page_writeRoute np_Page_writeRoute ⟨Nat.le_of_ble_eq_true rfl, Nat.le_of_ble_eq_true rfl⟩ (fun _ => Nat.le_of_ble_eq_true rfl) (by decide) rfl o46 (am_Ew.end (am_Ew.mono t (fun h47 t => ?_)))
    exact am_vret dc_Main_writeOut_85 rfl t
set_option maxRecDepth 20000 in
theorem ev_Main_writeOut (a0 : Nat) (x1 x2 : Int32) (h : am_H) (Q : am_H → Prop) (t : ((x1 = 0 → (am_tg h a0 = (11, 18) ∧ (∃ b2, am_P h a0 10 = some b2 ∧ (am_Er m_Main_portAt 0 0 [.ref a0, .int x2] h (fun r6 h5 => (r6 = none → (am_tg h5 b2 = (0, 2) ∧ (am_Ew m_Page_writePort 0 0 [.ref b2, .null] h5 (fun h10 => Q h10)))) ∧ ∀ b7, r6 = some b7 → (am_tg h5 b2 = (0, 2) ∧ (am_Ew m_Page_writePort 0 0 [.ref b2, .ref b7] h5 (fun h12 => Q h12)))))))) ∧ (x1 = 1 → (am_tg h a0 = (11, 18) ∧ (∃ b14, am_P h a0 10 = some b14 ∧ (am_Er m_Main_sillAt 0 0 [.ref a0, .int x2] h (fun r18 h17 => (r18 = none → (am_tg h17 b14 = (0, 2) ∧ (am_Ew m_Page_writeSill 0 0 [.ref b14, .null] h17 (fun h22 => Q h22)))) ∧ ∀ b19, r18 = some b19 → (am_tg h17 b14 = (0, 2) ∧ (am_Ew m_Page_writeSill 0 0 [.ref b14, .ref b19] h17 (fun h24 => Q h24)))))))) ∧ (x1 = 2 → (am_tg h a0 = (11, 18) ∧ (∃ b26, am_P h a0 10 = some b26 ∧ (am_Er m_Main_shipAt 0 0 [.ref a0, .int x2] h (fun r30 h29 => (r30 = none → (am_tg h29 b26 = (0, 2) ∧ (am_Ew m_Page_writeShip 0 0 [.ref b26, .null] h29 (fun h34 => Q h34)))) ∧ ∀ b31, r30 = some b31 → (am_tg h29 b26 = (0, 2) ∧ (am_Ew m_Page_writeShip 0 0 [.ref b26, .ref b31] h29 (fun h36 => Q h36)))))))) ∧ (¬ x1 = 0 → ¬ x1 = 1 → ¬ x1 = 2 → (am_tg h a0 = (11, 18) ∧ (∃ b37, am_P h a0 10 = some b37 ∧ (am_Er m_Main_routeAt 0 0 [.ref a0, .int x2] h (fun r41 h40 => (r41 = none → (am_tg h40 b37 = (0, 2) ∧ (am_Ew m_Page_writeRoute 0 0 [.ref b37, .null] h40 (fun h45 => Q h45)))) ∧ ∀ b42, r41 = some b42 → (am_tg h40 b37 = (0, 2) ∧ (am_Ew m_Page_writeRoute 0 0 [.ref b37, .ref b42] h40 (fun h47 => Q h47)))))))))) : am_Ew m_Main_writeOut 0 0 [.ref a0, .int x1, .int x2] h Q :=
  am_Ev.of (by decide +kernel) (Nat.le_of_ble_eq_true rfl) (by simp only [List.mem_cons, List.not_mem_nil, or_false]; intro v hv; rcases hv with rfl | rfl | rfl; all_goals first | exact trivial) (sg_Main_writeOut_0 (kc := 0) (ks := 0) a0 x1 x2 h (am_qw Q) t)
