def bk_Str_charAt_0_1 : List am_E := [(0, .aload_n 0, 1, 0, 0)]
theorem bk_Str_charAt_0_1_ok : bk_Str_charAt_0_1.all (am_ok 15 false m_Str_charAt.2.1) = true := by decide +kernel
def bk_Str_charAt_16_3 : List am_E := [(16, .aload_n 0, 1, 0, 0), (17, .getfield 9, 3, 100001, 0), (20, .iload_n 1, 1, 0, 0)]
theorem bk_Str_charAt_16_3_ok : bk_Str_charAt_16_3.all (am_ok 15 false m_Str_charAt.2.1) = true := by decide +kernel
def bk_Str_charAt_7_3 : List am_E := [(7, .aload_n 0, 1, 0, 0), (8, .getfield 9, 3, 100001, 0), (11, .iload_n 1, 1, 0, 0)]
theorem bk_Str_charAt_7_3_ok : bk_Str_charAt_7_3.all (am_ok 15 false m_Str_charAt.2.1) = true := by decide +kernel
theorem dc_Str_charAt_1 : decode m_Str_charAt.2.1 1 = .ok (.invokevirtual 492, 3) := by decide +kernel
theorem dc_Str_charAt_12 : decode m_Str_charAt.2.1 12 = .ok (.invokestatic 495, 3) := by decide +kernel
theorem dc_Str_charAt_15 : decode m_Str_charAt.2.1 15 = .ok (.ireturn, 1) := by decide +kernel
theorem dc_Str_charAt_4 : decode m_Str_charAt.2.1 4 = .ok (.ifCond .eq 12, 3) := by decide +kernel
set_option maxRecDepth 20000 in
theorem sg_Str_charAt_0 {kc ks : Nat} (j0 : Nat) (x1 : Int32) (h : am_H) (Q : Option Value → am_H → Prop) (t : (am_isC j0 = true ∧ (j0 < 30 ∧ (am_Ei m_Str_isLatin1 0 0 [.retAddr j0] h (fun r4 h3 => ((r4 = 0 → (am_isC j0 = true ∧ (j0 < 30 ∧ False))) ∧ (¬ r4 = 0 → (am_isC j0 = true ∧ (j0 < 30 ∧ (am_Ei m_Lat_charAt 0 0 [.retAddr (100 + j0), .int x1] h3 (fun r11 h10 => (narrow .char (.int r11) = .int r11 ∧ Q (some (.int r11)) h10)))))))))))) : am_EI m_Str_charAt kc ks 0 [.retAddr j0, .int x1] [] h Q := by
  refine am_blk_ok (c := 15) (ini := false) (by decide) rfl (fun q => by cases q) bk_Str_charAt_0_1 _ 1 _ _ _ bk_Str_charAt_0_1_ok rfl ?_
  show (am_isC j0 = true ∧ am_EI m_Str_charAt kc ks 1 [.retAddr j0, .int x1] [.retAddr j0] h Q)
  obtain ⟨o1, t⟩ := t
  refine ⟨o1, ?_⟩
  obtain ⟨o2, t⟩ := t
  refine am_callVC (M2 := m_Str_isLatin1) (j := j0) (kc := kc) (ks := ks) (k2c := 0) (k2s := 0) (as := []) [] dc_Str_charAt_1 lk_15_492 im_Str_isLatin1 se_Str_isLatin1 lm_Str_isLatin1 np_Str_isLatin1 ⟨Nat.le_of_ble_eq_true rfl, Nat.le_of_ble_eq_true rfl⟩ (fun _ => Nat.le_of_ble_eq_true rfl) rfl o2 (am_Ei.end (am_Ei.mono t (fun r4 h3 t => ?_)))
  refine am_if_eq (tgt := 16) dc_Str_charAt_4 (by decide) (fun c5 => ?_) (fun c5 => ?_)
  · replace t := t.1 c5
    refine am_blk_ok (c := 15) (ini := false) (by decide) rfl (fun q => by cases q) bk_Str_charAt_16_3 _ 21 _ _ _ bk_Str_charAt_16_3_ok rfl ?_
    show (am_isC j0 = true ∧ (j0 < 30 ∧ am_EI m_Str_charAt kc ks 21 [.retAddr j0, .int x1] [.int x1, .retAddr (100 + j0)] h3 Q))
    obtain ⟨o6, o7, t⟩ := t
    refine ⟨o6, o7, ?_⟩
    exact t.elim
  · replace t := t.2 c5
    refine am_blk_ok (c := 15) (ini := false) (by decide) rfl (fun q => by cases q) bk_Str_charAt_7_3 _ 12 _ _ _ bk_Str_charAt_7_3_ok rfl ?_
    show (am_isC j0 = true ∧ (j0 < 30 ∧ am_EI m_Str_charAt kc ks 12 [.retAddr j0, .int x1] [.int x1, .retAddr (100 + j0)] h3 Q))
    obtain ⟨o8, o9, t⟩ := t
    refine ⟨o8, o9, ?_⟩
    refine am_callS (M2 := m_Lat_charAt) (kc := kc) (ks := ks) (k2c := 0) (k2s := 0) (as := []) [.retAddr (100 + j0), .int x1] dc_Str_charAt_12 lk_15_495 st_Lat_charAt lm_Lat_charAt np_Lat_charAt ⟨Nat.le_of_ble_eq_true rfl, Nat.le_of_ble_eq_true rfl⟩ (fun _ => Nat.le_of_ble_eq_true rfl) (am_Ei.end (am_Ei.mono t (fun r11 h10 t => ?_)))
    exact am_nret dc_Str_charAt_15 rfl t.1 t.2
set_option maxRecDepth 20000 in
theorem ev_Str_charAt (j0 : Nat) (x1 : Int32) (h : am_H) (Q : Int32 → am_H → Prop) (hc_j0 : am_arg (.retAddr j0)) (t : (am_isC j0 = true ∧ (j0 < 30 ∧ (am_Ei m_Str_isLatin1 0 0 [.retAddr j0] h (fun r4 h3 => ((r4 = 0 → (am_isC j0 = true ∧ (j0 < 30 ∧ False))) ∧ (¬ r4 = 0 → (am_isC j0 = true ∧ (j0 < 30 ∧ (am_Ei m_Lat_charAt 0 0 [.retAddr (100 + j0), .int x1] h3 (fun r11 h10 => (narrow .char (.int r11) = .int r11 ∧ Q r11 h10)))))))))))) : am_Ei m_Str_charAt 0 0 [.retAddr j0, .int x1] h Q :=
  am_Ev.of (by decide +kernel) (Nat.le_of_ble_eq_true rfl) (by simp only [List.mem_cons, List.not_mem_nil, or_false]; intro v hv; rcases hv with rfl | rfl; all_goals first | exact trivial | exact hc_j0) (sg_Str_charAt_0 (kc := 0) (ks := 0) j0 x1 h (am_qi Q) t)
def bk_Str_checkIndex_0_3 : List am_E := [(0, .iload_n 0, 1, 0, 0), (1, .iload_n 1, 1, 0, 0), (2, .getstatic 1053, 3, 2, 0)]
theorem bk_Str_checkIndex_0_3_ok : bk_Str_checkIndex_0_3.all (am_ok 15 false m_Str_checkIndex.2.1) = true := by decide +kernel
def bk_Str_checkIndex_8_1 : List am_E := [(8, .pop, 1, 0, 0)]
theorem bk_Str_checkIndex_8_1_ok : bk_Str_checkIndex_8_1.all (am_ok 15 false m_Str_checkIndex.2.1) = true := by decide +kernel
theorem dc_Str_checkIndex_5 : decode m_Str_checkIndex.2.1 5 = .ok (.invokestatic 1059, 3) := by decide +kernel
theorem dc_Str_checkIndex_9 : decode m_Str_checkIndex.2.1 9 = .ok (.return_, 1) := by decide +kernel
set_option maxRecDepth 20000 in
theorem sg_Str_checkIndex_0 {kc ks : Nat} (x0 x1 : Int32) (h : am_H) (Q : Option Value → am_H → Prop) (t : (am_Ei m_Pre_checkIndex 0 0 [.int x0, .int x1, .retAddr 300] h (fun r2 h1 => Q none h1))) : am_EI m_Str_checkIndex kc ks 0 [.int x0, .int x1] [] h Q := by
  refine am_blk_ok (c := 15) (ini := false) (by decide) rfl (fun q => by cases q) bk_Str_checkIndex_0_3 _ 5 _ _ _ bk_Str_checkIndex_0_3_ok rfl ?_
  show am_EI m_Str_checkIndex kc ks 5 [.int x0, .int x1] [.retAddr 300, .int x1, .int x0] h Q
  refine am_callS (M2 := m_Pre_checkIndex) (kc := kc) (ks := ks) (k2c := 0) (k2s := 0) (as := []) [.int x0, .int x1, .retAddr 300] dc_Str_checkIndex_5 lk_15_1059 st_Pre_checkIndex lm_Pre_checkIndex np_Pre_checkIndex ⟨Nat.le_of_ble_eq_true rfl, Nat.le_of_ble_eq_true rfl⟩ (fun _ => Nat.le_of_ble_eq_true rfl) (am_Ei.end (am_Ei.mono t (fun r2 h1 t => ?_)))
  refine am_blk_ok (c := 15) (ini := false) (by decide) rfl (fun q => by cases q) bk_Str_checkIndex_8_1 _ 9 _ _ _ bk_Str_checkIndex_8_1_ok rfl ?_
  show am_EI m_Str_checkIndex kc ks 9 [.int x0, .int x1] [] h1 Q
  exact am_vret dc_Str_checkIndex_9 rfl t
set_option maxRecDepth 20000 in
theorem ev_Str_checkIndex (x0 x1 : Int32) (h : am_H) (Q : am_H → Prop) (t : (am_Ei m_Pre_checkIndex 0 0 [.int x0, .int x1, .retAddr 300] h (fun r2 h1 => Q h1))) : am_Ew m_Str_checkIndex 0 0 [.int x0, .int x1] h Q :=
  am_Ev.of (by decide +kernel) (Nat.le_of_ble_eq_true rfl) (by simp only [List.mem_cons, List.not_mem_nil, or_false]; intro v hv; rcases hv with rfl | rfl; all_goals first | exact trivial) (sg_Str_checkIndex_0 (kc := 0) (ks := 0) x0 x1 h (am_qw Q) t)
def bk_Str_coder_0_1 : List am_E := [(0, .getstatic 38, 3, 1, 0)]
theorem bk_Str_coder_0_1_ok : bk_Str_coder_0_1.all (am_ok 15 false m_Str_coder.2.1) = true := by decide +kernel
def bk_Str_coder_6_3 : List am_E := [(6, .aload_n 0, 1, 0, 0), (7, .getfield 15, 3, 100002, 0), (10, .goto 4, 3, 0, 4)]
theorem bk_Str_coder_6_3_ok : bk_Str_coder_6_3.all (am_ok 15 false m_Str_coder.2.1) = true := by decide +kernel
theorem dc_Str_coder_14 : decode m_Str_coder.2.1 14 = .ok (.ireturn, 1) := by decide +kernel
theorem dc_Str_coder_3 : decode m_Str_coder.2.1 3 = .ok (.ifCond .eq 10, 3) := by decide +kernel
set_option maxRecDepth 20000 in
theorem sg_Str_coder_0 {kc ks : Nat} (j0 : Nat) (h : am_H) (Q : Option Value → am_H → Prop) (t : (am_isC j0 = true ∧ (j0 < 30 ∧ (narrow .byte (.int 0) = .int 0 ∧ Q (some (.int 0)) h)))) : am_EI m_Str_coder kc ks 0 [.retAddr j0] [] h Q := by
  refine am_blk_ok (c := 15) (ini := false) (by decide) rfl (fun q => by cases q) bk_Str_coder_0_1 _ 3 _ _ _ bk_Str_coder_0_1_ok rfl ?_
  show am_EI m_Str_coder kc ks 3 [.retAddr j0] [.int 1] h Q
  refine am_if_eq (tgt := 13) dc_Str_coder_3 (by decide) (fun q => absurd q (by decide)) (fun _ => ?_)
  refine am_blk_ok (c := 15) (ini := false) (by decide) rfl (fun q => by cases q) bk_Str_coder_6_3 _ 14 _ _ _ bk_Str_coder_6_3_ok rfl ?_
  show (am_isC j0 = true ∧ (j0 < 30 ∧ am_EI m_Str_coder kc ks 14 [.retAddr j0] [.int 0] h Q))
  obtain ⟨o2, o3, t⟩ := t
  refine ⟨o2, o3, ?_⟩
  exact am_nret dc_Str_coder_14 rfl t.1 t.2
set_option maxRecDepth 20000 in
theorem ev_Str_coder (j0 : Nat) (h : am_H) (Q : Int32 → am_H → Prop) (hc_j0 : am_arg (.retAddr j0)) (t : (am_isC j0 = true ∧ (j0 < 30 ∧ (narrow .byte (.int 0) = .int 0 ∧ Q 0 h)))) : am_Ei m_Str_coder 0 0 [.retAddr j0] h Q :=
  am_Ev.of (by decide +kernel) (Nat.le_of_ble_eq_true rfl) (by simp only [List.mem_cons, List.not_mem_nil, or_false]; intro v hv; rcases hv with rfl; all_goals first | exact trivial | exact hc_j0) (sg_Str_coder_0 (kc := 0) (ks := 0) j0 h (am_qi Q) t)
def bk_Str_isLatin1_0_1 : List am_E := [(0, .getstatic 38, 3, 1, 0)]
theorem bk_Str_isLatin1_0_1_ok : bk_Str_isLatin1_0_1.all (am_ok 15 false m_Str_isLatin1.2.1) = true := by decide +kernel
def bk_Str_isLatin1_6_2 : List am_E := [(6, .aload_n 0, 1, 0, 0), (7, .getfield 15, 3, 100002, 0)]
theorem bk_Str_isLatin1_6_2_ok : bk_Str_isLatin1_6_2.all (am_ok 15 false m_Str_isLatin1.2.1) = true := by decide +kernel
def bk_Str_isLatin1_13_2 : List am_E := [(13, .iconst 1, 1, 0, 1), (14, .goto 4, 3, 0, 4)]
theorem bk_Str_isLatin1_13_2_ok : bk_Str_isLatin1_13_2.all (am_ok 15 false m_Str_isLatin1.2.1) = true := by decide +kernel
theorem dc_Str_isLatin1_18 : decode m_Str_isLatin1.2.1 18 = .ok (.ireturn, 1) := by decide +kernel
theorem dc_Str_isLatin1_10 : decode m_Str_isLatin1.2.1 10 = .ok (.ifCond .ne 7, 3) := by decide +kernel
theorem dc_Str_isLatin1_3 : decode m_Str_isLatin1.2.1 3 = .ok (.ifCond .eq 14, 3) := by decide +kernel
set_option maxRecDepth 20000 in
theorem sg_Str_isLatin1_0 {kc ks : Nat} (j0 : Nat) (h : am_H) (Q : Option Value → am_H → Prop) (t : (am_isC j0 = true ∧ (j0 < 30 ∧ Q (some (.int 1)) h))) : am_EI m_Str_isLatin1 kc ks 0 [.retAddr j0] [] h Q := by
  refine am_blk_ok (c := 15) (ini := false) (by decide) rfl (fun q => by cases q) bk_Str_isLatin1_0_1 _ 3 _ _ _ bk_Str_isLatin1_0_1_ok rfl ?_
  show am_EI m_Str_isLatin1 kc ks 3 [.retAddr j0] [.int 1] h Q
  refine am_if_eq (tgt := 17) dc_Str_isLatin1_3 (by decide) (fun q => absurd q (by decide)) (fun _ => ?_)
  refine am_blk_ok (c := 15) (ini := false) (by decide) rfl (fun q => by cases q) bk_Str_isLatin1_6_2 _ 10 _ _ _ bk_Str_isLatin1_6_2_ok rfl ?_
  show (am_isC j0 = true ∧ (j0 < 30 ∧ am_EI m_Str_isLatin1 kc ks 10 [.retAddr j0] [.int 0] h Q))
  obtain ⟨o2, o3, t⟩ := t
  refine ⟨o2, o3, ?_⟩
  refine am_if_ne (tgt := 17) dc_Str_isLatin1_10 (by decide) (fun q => absurd q (by decide)) (fun _ => ?_)
  refine am_blk_ok (c := 15) (ini := false) (by decide) rfl (fun q => by cases q) bk_Str_isLatin1_13_2 _ 18 _ _ _ bk_Str_isLatin1_13_2_ok rfl ?_
  show am_EI m_Str_isLatin1 kc ks 18 [.retAddr j0] [.int 1] h Q
  exact am_zret dc_Str_isLatin1_18 rfl (Or.inr rfl) t
set_option maxRecDepth 20000 in
theorem ev_Str_isLatin1 (j0 : Nat) (h : am_H) (Q : Int32 → am_H → Prop) (hc_j0 : am_arg (.retAddr j0)) (t : (am_isC j0 = true ∧ (j0 < 30 ∧ Q 1 h))) : am_Ei m_Str_isLatin1 0 0 [.retAddr j0] h Q :=
  am_Ev.of (by decide +kernel) (Nat.le_of_ble_eq_true rfl) (by simp only [List.mem_cons, List.not_mem_nil, or_false]; intro v hv; rcases hv with rfl; all_goals first | exact trivial | exact hc_j0) (sg_Str_isLatin1_0 (kc := 0) (ks := 0) j0 h (am_qi Q) t)
def bk_Str_length_0_4 : List am_E := [(0, .aload_n 0, 1, 0, 0), (1, .getfield 9, 3, 100001, 0), (4, .arraylength, 1, 0, 0), (5, .aload_n 0, 1, 0, 0)]
theorem bk_Str_length_0_4_ok : bk_Str_length_0_4.all (am_ok 15 false m_Str_length.2.1) = true := by decide +kernel
def bk_Str_length_9_1 : List am_E := [(9, .ishr, 1, 0, 0)]
theorem bk_Str_length_9_1_ok : bk_Str_length_9_1.all (am_ok 15 false m_Str_length.2.1) = true := by decide +kernel
theorem dc_Str_length_6 : decode m_Str_length.2.1 6 = .ok (.invokevirtual 335, 3) := by decide +kernel
theorem dc_Str_length_10 : decode m_Str_length.2.1 10 = .ok (.ireturn, 1) := by decide +kernel
set_option maxRecDepth 20000 in
theorem sg_Str_length_0 {kc ks : Nat} (j0 : Nat) (h : am_H) (Q : Option Value → am_H → Prop) (t : (am_isC j0 = true ∧ (j0 < 30 ∧ (((100 + j0) = 200 ∨ (100 + j0) = 201 ∨ (100 ≤ (100 + j0) ∧ (100 + j0) < 130)) ∧ (am_Ei m_Str_coder 0 0 [.retAddr j0] h (fun r5 h4 => Q (some (.int ((Int32.ofNat (am_cb (100 + j0)).length) >>> (r5 &&& 31)))) h4)))))) : am_EI m_Str_length kc ks 0 [.retAddr j0] [] h Q := by
  refine am_blk_ok (c := 15) (ini := false) (by decide) rfl (fun q => by cases q) bk_Str_length_0_4 _ 6 _ _ _ bk_Str_length_0_4_ok rfl ?_
  show (am_isC j0 = true ∧ (j0 < 30 ∧ (((100 + j0) = 200 ∨ (100 + j0) = 201 ∨ (100 ≤ (100 + j0) ∧ (100 + j0) < 130)) ∧ (am_isC j0 = true ∧ am_EI m_Str_length kc ks 6 [.retAddr j0] [.retAddr j0, .int (Int32.ofNat (am_cb (100 + j0)).length)] h Q))))
  obtain ⟨o1, o2, o3, t⟩ := t
  refine ⟨o1, o2, o3, o1, ?_⟩
  refine am_callVC (M2 := m_Str_coder) (j := j0) (kc := kc) (ks := ks) (k2c := 0) (k2s := 0) (as := [.int (Int32.ofNat (am_cb (100 + j0)).length)]) [] dc_Str_length_6 lk_15_335 im_Str_coder se_Str_coder lm_Str_coder np_Str_coder ⟨Nat.le_of_ble_eq_true rfl, Nat.le_of_ble_eq_true rfl⟩ (fun _ => Nat.le_of_ble_eq_true rfl) rfl o2 (am_Ei.end (am_Ei.mono t (fun r5 h4 t => ?_)))
  refine am_blk_ok (c := 15) (ini := false) (by decide) rfl (fun q => by cases q) bk_Str_length_9_1 _ 10 _ _ _ bk_Str_length_9_1_ok rfl ?_
  show am_EI m_Str_length kc ks 10 [.retAddr j0] [.int ((Int32.ofNat (am_cb (100 + j0)).length) >>> (r5 &&& 31))] h4 Q
  exact am_iret dc_Str_length_10 rfl t
set_option maxRecDepth 20000 in
theorem ev_Str_length (j0 : Nat) (h : am_H) (Q : Int32 → am_H → Prop) (hc_j0 : am_arg (.retAddr j0)) (t : (am_isC j0 = true ∧ (j0 < 30 ∧ (((100 + j0) = 200 ∨ (100 + j0) = 201 ∨ (100 ≤ (100 + j0) ∧ (100 + j0) < 130)) ∧ (am_Ei m_Str_coder 0 0 [.retAddr j0] h (fun r5 h4 => Q ((Int32.ofNat (am_cb (100 + j0)).length) >>> (r5 &&& 31)) h4)))))) : am_Ei m_Str_length 0 0 [.retAddr j0] h Q :=
  am_Ev.of (by decide +kernel) (Nat.le_of_ble_eq_true rfl) (by simp only [List.mem_cons, List.not_mem_nil, or_false]; intro v hv; rcases hv with rfl; all_goals first | exact trivial | exact hc_j0) (sg_Str_length_0 (kc := 0) (ks := 0) j0 h (am_qi Q) t)
