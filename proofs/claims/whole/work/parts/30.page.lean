def bk_Page_init_0_1 : List am_E := [(0, .aload_n 0, 1, 0, 0)]
theorem bk_Page_init_0_1_ok : bk_Page_init_0_1.all (am_ok 0 true m_Page_init.2.1) = true := by decide +kernel
def bk_Page_init_4_2 : List am_E := [(4, .aload_n 0, 1, 0, 0), (5, .sipush 256, 3, 0, 256)]
theorem bk_Page_init_4_2_ok : bk_Page_init_4_2.all (am_ok 0 true m_Page_init.2.1) = true := by decide +kernel
def bk_Page_init_10_4 : List am_E := [(10, .putfield 9, 3, 1, 0), (13, .aload_n 0, 1, 0, 0), (14, .iconst 0, 1, 0, 0), (15, .putfield 13, 3, 4, 0)]
theorem bk_Page_init_10_4_ok : bk_Page_init_10_4.all (am_ok 0 true m_Page_init.2.1) = true := by decide +kernel
theorem dc_Page_init_18 : decode m_Page_init.2.1 18 = .ok (.return_, 1) := by decide +kernel
theorem dc_Page_init_8 : decode m_Page_init.2.1 8 = .ok (.newarray .char, 2) := by decide +kernel
theorem dc_Page_init_1 : decode m_Page_init.2.1 1 = .ok (.invokespecial 1, 3) := by decide +kernel
set_option maxRecDepth 20000 in
theorem sg_Page_init_0 {kc ks : Nat} (a0 : Nat) (h : am_H) (Q : Option Value → am_H → Prop) (t : (am_tg (am_nw h 23 256) a0 = (0, 2) ∧ Q none (am_si (am_sp (am_nw h 23 256) a0 0 (some (am_sz h))) a0 1 0))) : am_EI m_Page_init (kc + 1) (ks + 256) 0 [.ref a0] [] h Q := by
  refine am_blk_ok (c := 0) (ini := true) (by decide) rfl (fun _ => rfl) bk_Page_init_0_1 _ 1 _ _ _ bk_Page_init_0_1_ok rfl ?_
  show am_EI m_Page_init (kc + 1) (ks + 256) 1 [.ref a0] [.ref a0] h Q
  refine am_oinit (a := a0) dc_Page_init_1 lk_0_1 oi_2 oi_3 (by decide) (by decide) ?_
  refine am_blk_ok (c := 0) (ini := true) (by decide) rfl (fun _ => rfl) bk_Page_init_4_2 _ 8 _ _ _ bk_Page_init_4_2_ok rfl ?_
  show am_EI m_Page_init (kc + 1) (ks + 256) 8 [.ref a0] [.int 256, .ref a0] h Q
  refine am_newa (kc := kc) (ks := ks) (kd := 23) (N := 256) dc_Page_init_8 (by decide) ac_char (by decide) (by decide) (by decide) ?_
  refine am_blk_ok (c := 0) (ini := true) (by decide) rfl (fun _ => rfl) bk_Page_init_10_4 _ 18 _ _ _ bk_Page_init_10_4_ok rfl ?_
  show (am_tg (am_nw h 23 256) a0 = (0, 2) ∧ (am_tg (am_nw h 23 256) a0 = (0, 2) ∧ am_EI m_Page_init kc ks 18 [.ref a0] [] (am_si (am_sp (am_nw h 23 256) a0 0 (some (am_sz h))) a0 1 0) Q))
  obtain ⟨o1, t⟩ := t
  refine ⟨o1, o1, ?_⟩
  exact am_vret dc_Page_init_18 rfl t
set_option maxRecDepth 20000 in
theorem ev_Page_init (a0 : Nat) (h : am_H) (Q : am_H → Prop) (t : (am_tg (am_nw h 23 256) a0 = (0, 2) ∧ Q (am_si (am_sp (am_nw h 23 256) a0 0 (some (am_sz h))) a0 1 0))) : am_Ew m_Page_init (0 + 1) (0 + 256) [.ref a0] h Q :=
  am_Ev.of (by decide +kernel) (Nat.le_of_ble_eq_true rfl) (by simp only [List.mem_cons, List.not_mem_nil, or_false]; intro v hv; rcases hv with rfl; all_goals first | exact trivial) (sg_Page_init_0 (kc := 0) (ks := 0) a0 h (am_qw Q) t)
def bk_Page_letterAt_0_1 : List am_E := [(0, .iload_n 1, 1, 0, 0)]
theorem bk_Page_letterAt_0_1_ok : bk_Page_letterAt_0_1.all (am_ok 0 false m_Page_letterAt.2.1) = true := by decide +kernel
def bk_Page_letterAt_28_1 : List am_E := [(28, .iconst 0, 1, 0, 0)]
theorem bk_Page_letterAt_28_1_ok : bk_Page_letterAt_28_1.all (am_ok 0 false m_Page_letterAt.2.1) = true := by decide +kernel
def bk_Page_letterAt_4_3 : List am_E := [(4, .iload_n 1, 1, 0, 0), (5, .aload_n 0, 1, 0, 0), (6, .getfield 13, 3, 4, 0)]
theorem bk_Page_letterAt_4_3_ok : bk_Page_letterAt_4_3.all (am_ok 0 false m_Page_letterAt.2.1) = true := by decide +kernel
def bk_Page_letterAt_12_2 : List am_E := [(12, .iload_n 1, 1, 0, 0), (13, .sipush 256, 3, 0, 256)]
theorem bk_Page_letterAt_12_2_ok : bk_Page_letterAt_12_2.all (am_ok 0 false m_Page_letterAt.2.1) = true := by decide +kernel
def bk_Page_letterAt_19_5 : List am_E := [(19, .aload_n 0, 1, 0, 0), (20, .getfield 9, 3, 1, 0), (23, .iload_n 1, 1, 0, 0), (24, .caload, 1, 0, 0), (25, .goto 4, 3, 0, 4)]
theorem bk_Page_letterAt_19_5_ok : bk_Page_letterAt_19_5.all (am_ok 0 false m_Page_letterAt.2.1) = true := by decide +kernel
theorem dc_Page_letterAt_29 : decode m_Page_letterAt.2.1 29 = .ok (.ireturn, 1) := by decide +kernel
theorem dc_Page_letterAt_16 : decode m_Page_letterAt.2.1 16 = .ok (.if_icmp .ge 12, 3) := by decide +kernel
theorem dc_Page_letterAt_9 : decode m_Page_letterAt.2.1 9 = .ok (.if_icmp .ge 19, 3) := by decide +kernel
theorem dc_Page_letterAt_1 : decode m_Page_letterAt.2.1 1 = .ok (.ifCond .lt 27, 3) := by decide +kernel
set_option maxRecDepth 20000 in
theorem sg_Page_letterAt_0 {kc ks : Nat} (a0 : Nat) (x1 : Int32) (h : am_H) (Q : Option Value → am_H → Prop) (t : ((x1 < 0 → Q (some (.int 0)) h) ∧ (¬ x1 < 0 → (am_tg h a0 = (0, 2) ∧ (((am_I h a0 1) ≤ x1 → Q (some (.int 0)) h) ∧ (¬ (am_I h a0 1) ≤ x1 → ((256 ≤ x1 → Q (some (.int 0)) h) ∧ (¬ 256 ≤ x1 → (∃ b5, am_P h a0 0 = some b5 ∧ ((am_tg h b5).1 = 23 ∧ (vp_in x1 (am_tg h b5).2 ∧ Q (some (.int (am_I h b5 x1.toNatClampNeg))) h))))))))))) : am_EI m_Page_letterAt kc ks 0 [.ref a0, .int x1] [] h Q := by
  refine am_blk_ok (c := 0) (ini := false) (by decide) rfl (fun q => by cases q) bk_Page_letterAt_0_1 _ 1 _ _ _ bk_Page_letterAt_0_1_ok rfl ?_
  show am_EI m_Page_letterAt kc ks 1 [.ref a0, .int x1] [.int x1] h Q
  refine am_if_lt (tgt := 28) dc_Page_letterAt_1 (by decide) (fun c1 => ?_) (fun c1 => ?_)
  · replace t := t.1 c1
    refine am_blk_ok (c := 0) (ini := false) (by decide) rfl (fun q => by cases q) bk_Page_letterAt_28_1 _ 29 _ _ _ bk_Page_letterAt_28_1_ok rfl ?_
    show am_EI m_Page_letterAt kc ks 29 [.ref a0, .int x1] [.int 0] h Q
    exact am_iret dc_Page_letterAt_29 rfl t
  · replace t := t.2 c1
    refine am_blk_ok (c := 0) (ini := false) (by decide) rfl (fun q => by cases q) bk_Page_letterAt_4_3 _ 9 _ _ _ bk_Page_letterAt_4_3_ok rfl ?_
    show (am_tg h a0 = (0, 2) ∧ am_EI m_Page_letterAt kc ks 9 [.ref a0, .int x1] [.int (am_I h a0 1), .int x1] h Q)
    obtain ⟨o2, t⟩ := t
    refine ⟨o2, ?_⟩
    refine am_ic_ge (tgt := 28) dc_Page_letterAt_9 (by decide) (fun c3 => ?_) (fun c3 => ?_)
    · replace t := t.1 c3
      refine am_blk_ok (c := 0) (ini := false) (by decide) rfl (fun q => by cases q) bk_Page_letterAt_28_1 _ 29 _ _ _ bk_Page_letterAt_28_1_ok rfl ?_
      show am_EI m_Page_letterAt kc ks 29 [.ref a0, .int x1] [.int 0] h Q
      exact am_iret dc_Page_letterAt_29 rfl t
    · replace t := t.2 c3
      refine am_blk_ok (c := 0) (ini := false) (by decide) rfl (fun q => by cases q) bk_Page_letterAt_12_2 _ 16 _ _ _ bk_Page_letterAt_12_2_ok rfl ?_
      show am_EI m_Page_letterAt kc ks 16 [.ref a0, .int x1] [.int 256, .int x1] h Q
      refine am_ic_ge (tgt := 28) dc_Page_letterAt_16 (by decide) (fun c4 => ?_) (fun c4 => ?_)
      · replace t := t.1 c4
        refine am_blk_ok (c := 0) (ini := false) (by decide) rfl (fun q => by cases q) bk_Page_letterAt_28_1 _ 29 _ _ _ bk_Page_letterAt_28_1_ok rfl ?_
        show am_EI m_Page_letterAt kc ks 29 [.ref a0, .int x1] [.int 0] h Q
        exact am_iret dc_Page_letterAt_29 rfl t
      · replace t := t.2 c4
        refine am_blk_ok (c := 0) (ini := false) (by decide) rfl (fun q => by cases q) bk_Page_letterAt_19_5 _ 29 _ _ _ bk_Page_letterAt_19_5_ok rfl ?_
        show (am_tg h a0 = (0, 2) ∧ (∃ b5, am_P h a0 0 = some b5 ∧ ((am_tg h b5).1 = 23 ∧ (vp_in x1 (am_tg h b5).2 ∧ am_EI m_Page_letterAt kc ks 29 [.ref a0, .int x1] [.int (am_I h b5 x1.toNatClampNeg)] h Q))))
        obtain ⟨b5, q6, o7, o8, t⟩ := t
        refine ⟨o2, b5, q6, o7, o8, ?_⟩
        exact am_iret dc_Page_letterAt_29 rfl t
set_option maxRecDepth 20000 in
theorem ev_Page_letterAt (a0 : Nat) (x1 : Int32) (h : am_H) (Q : Int32 → am_H → Prop) (t : ((x1 < 0 → Q 0 h) ∧ (¬ x1 < 0 → (am_tg h a0 = (0, 2) ∧ (((am_I h a0 1) ≤ x1 → Q 0 h) ∧ (¬ (am_I h a0 1) ≤ x1 → ((256 ≤ x1 → Q 0 h) ∧ (¬ 256 ≤ x1 → (∃ b5, am_P h a0 0 = some b5 ∧ ((am_tg h b5).1 = 23 ∧ (vp_in x1 (am_tg h b5).2 ∧ Q (am_I h b5 x1.toNatClampNeg) h))))))))))) : am_Ei m_Page_letterAt 0 0 [.ref a0, .int x1] h Q :=
  am_Ev.of (by decide +kernel) (Nat.le_of_ble_eq_true rfl) (by simp only [List.mem_cons, List.not_mem_nil, or_false]; intro v hv; rcases hv with rfl | rfl; all_goals first | exact trivial) (sg_Page_letterAt_0 (kc := 0) (ks := 0) a0 x1 h (am_qi Q) t)
def bk_Page_put_0_2 : List am_E := [(0, .aload_n 0, 1, 0, 0), (1, .getfield 13, 3, 4, 0)]
theorem bk_Page_put_0_2_ok : bk_Page_put_0_2.all (am_ok 0 false m_Page_put.2.1) = true := by decide +kernel
def bk_Page_put_7_3 : List am_E := [(7, .aload_n 0, 1, 0, 0), (8, .getfield 13, 3, 4, 0), (11, .sipush 256, 3, 0, 256)]
theorem bk_Page_put_7_3_ok : bk_Page_put_7_3.all (am_ok 0 false m_Page_put.2.1) = true := by decide +kernel
def bk_Page_put_17_12 : List am_E := [(17, .aload_n 0, 1, 0, 0), (18, .getfield 9, 3, 1, 0), (21, .aload_n 0, 1, 0, 0), (22, .getfield 13, 3, 4, 0), (25, .iload_n 1, 1, 0, 0), (26, .castore, 1, 0, 0), (27, .aload_n 0, 1, 0, 0), (28, .dup, 1, 0, 0), (29, .getfield 13, 3, 4, 0), (32, .iconst 1, 1, 0, 1), (33, .iadd, 1, 0, 0), (34, .putfield 13, 3, 4, 0)]
theorem bk_Page_put_17_12_ok : bk_Page_put_17_12.all (am_ok 0 false m_Page_put.2.1) = true := by decide +kernel
theorem dc_Page_put_37 : decode m_Page_put.2.1 37 = .ok (.return_, 1) := by decide +kernel
theorem dc_Page_put_14 : decode m_Page_put.2.1 14 = .ok (.if_icmp .ge 23, 3) := by decide +kernel
theorem dc_Page_put_4 : decode m_Page_put.2.1 4 = .ok (.ifCond .lt 33, 3) := by decide +kernel
set_option maxRecDepth 20000 in
theorem sg_Page_put_0 {kc ks : Nat} (a0 : Nat) (x1 : Int32) (h : am_H) (Q : Option Value → am_H → Prop) (t : (am_tg h a0 = (0, 2) ∧ (((am_I h a0 1) < 0 → Q none h) ∧ (¬ (am_I h a0 1) < 0 → ((256 ≤ (am_I h a0 1) → Q none h) ∧ (¬ 256 ≤ (am_I h a0 1) → (∃ b4, am_P h a0 0 = some b4 ∧ ((am_tg h b4).1 = 23 ∧ (vp_in (am_I h a0 1) (am_tg h b4).2 ∧ (narrow .char (.int x1) = .int x1 ∧ Q none (am_si (am_si h b4 ((am_I h a0 1).toNatClampNeg) x1) a0 1 ((am_I (am_si h b4 ((am_I h a0 1).toNatClampNeg) x1) a0 1) + 1)))))))))))) : am_EI m_Page_put kc ks 0 [.ref a0, .int x1] [] h Q := by
  refine am_blk_ok (c := 0) (ini := false) (by decide) rfl (fun q => by cases q) bk_Page_put_0_2 _ 4 _ _ _ bk_Page_put_0_2_ok rfl ?_
  show (am_tg h a0 = (0, 2) ∧ am_EI m_Page_put kc ks 4 [.ref a0, .int x1] [.int (am_I h a0 1)] h Q)
  obtain ⟨o1, t⟩ := t
  refine ⟨o1, ?_⟩
  refine am_if_lt (tgt := 37) dc_Page_put_4 (by decide) (fun c2 => ?_) (fun c2 => ?_)
  · replace t := t.1 c2
    exact am_vret dc_Page_put_37 rfl t
  · replace t := t.2 c2
    refine am_blk_ok (c := 0) (ini := false) (by decide) rfl (fun q => by cases q) bk_Page_put_7_3 _ 14 _ _ _ bk_Page_put_7_3_ok rfl ?_
    show (am_tg h a0 = (0, 2) ∧ am_EI m_Page_put kc ks 14 [.ref a0, .int x1] [.int 256, .int (am_I h a0 1)] h Q)
    refine ⟨o1, ?_⟩
    refine am_ic_ge (tgt := 37) dc_Page_put_14 (by decide) (fun c3 => ?_) (fun c3 => ?_)
    · replace t := t.1 c3
      exact am_vret dc_Page_put_37 rfl t
    · replace t := t.2 c3
      refine am_blk_ok (c := 0) (ini := false) (by decide) rfl (fun q => by cases q) bk_Page_put_17_12 _ 37 _ _ _ bk_Page_put_17_12_ok rfl ?_
      show (am_tg h a0 = (0, 2) ∧ (∃ b4, am_P h a0 0 = some b4 ∧ (am_tg h a0 = (0, 2) ∧ ((am_tg h b4).1 = 23 ∧ (vp_in (am_I h a0 1) (am_tg h b4).2 ∧ (narrow .char (.int x1) = .int x1 ∧ (am_tg h a0 = (0, 2) ∧ (am_tg h a0 = (0, 2) ∧ am_EI m_Page_put kc ks 37 [.ref a0, .int x1] [] (am_si (am_si h b4 ((am_I h a0 1).toNatClampNeg) x1) a0 1 ((am_I (am_si h b4 ((am_I h a0 1).toNatClampNeg) x1) a0 1) + 1)) Q))))))))
      obtain ⟨b4, q5, o6, o7, o8, t⟩ := t
      refine ⟨o1, b4, q5, o1, o6, o7, o8, o1, o1, ?_⟩
      exact am_vret dc_Page_put_37 rfl t
set_option maxRecDepth 20000 in
theorem ev_Page_put (a0 : Nat) (x1 : Int32) (h : am_H) (Q : am_H → Prop) (t : (am_tg h a0 = (0, 2) ∧ (((am_I h a0 1) < 0 → Q h) ∧ (¬ (am_I h a0 1) < 0 → ((256 ≤ (am_I h a0 1) → Q h) ∧ (¬ 256 ≤ (am_I h a0 1) → (∃ b4, am_P h a0 0 = some b4 ∧ ((am_tg h b4).1 = 23 ∧ (vp_in (am_I h a0 1) (am_tg h b4).2 ∧ (narrow .char (.int x1) = .int x1 ∧ Q (am_si (am_si h b4 ((am_I h a0 1).toNatClampNeg) x1) a0 1 ((am_I (am_si h b4 ((am_I h a0 1).toNatClampNeg) x1) a0 1) + 1)))))))))))) : am_Ew m_Page_put 0 0 [.ref a0, .int x1] h Q :=
  am_Ev.of (by decide +kernel) (Nat.le_of_ble_eq_true rfl) (by simp only [List.mem_cons, List.not_mem_nil, or_false]; intro v hv; rcases hv with rfl | rfl; all_goals first | exact trivial) (sg_Page_put_0 (kc := 0) (ks := 0) a0 x1 h (am_qw Q) t)
def bk_Page_putDayAndTime_0_2 : List am_E := [(0, .aload_n 0, 1, 0, 0), (1, .iload_n 1, 1, 0, 0)]
theorem bk_Page_putDayAndTime_0_2_ok : bk_Page_putDayAndTime_0_2.all (am_ok 0 false m_Page_putDayAndTime.2.1) = true := by decide +kernel
def bk_Page_putDayAndTime_5_3 : List am_E := [(5, .iload_n 1, 1, 0, 0), (6, .sipush 1440, 3, 0, 1440), (9, .idiv, 1, 0, 0)]
theorem bk_Page_putDayAndTime_5_3_ok : bk_Page_putDayAndTime_5_3.all (am_ok 0 false m_Page_putDayAndTime.2.1) = true := by decide +kernel
def bk_Page_putDayAndTime_13_2 : List am_E := [(13, .aload_n 0, 1, 0, 0), (14, .bipush 43, 2, 0, 43)]
theorem bk_Page_putDayAndTime_13_2_ok : bk_Page_putDayAndTime_13_2.all (am_ok 0 false m_Page_putDayAndTime.2.1) = true := by decide +kernel
def bk_Page_putDayAndTime_19_4 : List am_E := [(19, .aload_n 0, 1, 0, 0), (20, .iload_n 1, 1, 0, 0), (21, .sipush 1440, 3, 0, 1440), (24, .idiv, 1, 0, 0)]
theorem bk_Page_putDayAndTime_19_4_ok : bk_Page_putDayAndTime_19_4.all (am_ok 0 false m_Page_putDayAndTime.2.1) = true := by decide +kernel
theorem dc_Page_putDayAndTime_2 : decode m_Page_putDayAndTime.2.1 2 = .ok (.invokevirtual 43, 3) := by decide +kernel
theorem dc_Page_putDayAndTime_28 : decode m_Page_putDayAndTime.2.1 28 = .ok (.return_, 1) := by decide +kernel
theorem dc_Page_putDayAndTime_16 : decode m_Page_putDayAndTime.2.1 16 = .ok (.invokevirtual 23, 3) := by decide +kernel
theorem dc_Page_putDayAndTime_25 : decode m_Page_putDayAndTime.2.1 25 = .ok (.invokevirtual 50, 3) := by decide +kernel
theorem dc_Page_putDayAndTime_10 : decode m_Page_putDayAndTime.2.1 10 = .ok (.ifCond .le 18, 3) := by decide +kernel
set_option maxRecDepth 20000 in
theorem sg_Page_putDayAndTime_0 {kc ks : Nat} (a0 : Nat) (x1 : Int32) (h : am_H) (Q : Option Value → am_H → Prop) (t : (am_tg h a0 = (0, 2) ∧ (am_Ew m_Page_putTime 0 0 [.ref a0, .int x1] h (fun h2 => (((x1 / 1440) ≤ 0 → Q none h2) ∧ (¬ (x1 / 1440) ≤ 0 → (am_tg h2 a0 = (0, 2) ∧ (am_Ew m_Page_put 0 0 [.ref a0, .int 43] h2 (fun h5 => (am_tg h5 a0 = (0, 2) ∧ (am_Ew m_Page_putNumber 0 0 [.ref a0, .int (x1 / 1440)] h5 (fun h7 => Q none h7)))))))))))) : am_EI m_Page_putDayAndTime kc ks 0 [.ref a0, .int x1] [] h Q := by
  refine am_blk_ok (c := 0) (ini := false) (by decide) rfl (fun q => by cases q) bk_Page_putDayAndTime_0_2 _ 2 _ _ _ bk_Page_putDayAndTime_0_2_ok rfl ?_
  show am_EI m_Page_putDayAndTime kc ks 2 [.ref a0, .int x1] [.int x1, .ref a0] h Q
  obtain ⟨o1, t⟩ := t
  refine am_callV (M2 := m_Page_putTime) (ci := 0) (a := a0) (kc := kc) (ks := ks) (k2c := 0) (k2s := 0) (as := []) [.int x1] dc_Page_putDayAndTime_2 lk_0_43 im_Page_putTime se_Page_putTime lm_Page_putTime np_Page_putTime ⟨Nat.le_of_ble_eq_true rfl, Nat.le_of_ble_eq_true rfl⟩ (fun _ => Nat.le_of_ble_eq_true rfl) (by decide) rfl o1 (am_Ew.end (am_Ew.mono t (fun h2 t => ?_)))
  refine am_blk_ok (c := 0) (ini := false) (by decide) rfl (fun q => by cases q) bk_Page_putDayAndTime_5_3 _ 10 _ _ _ bk_Page_putDayAndTime_5_3_ok rfl ?_
  show ((¬ 1440 = 0) ∧ am_EI m_Page_putDayAndTime kc ks 10 [.ref a0, .int x1] [.int (x1 / 1440)] h2 Q)
  refine ⟨(by decide), ?_⟩
  refine am_if_le (tgt := 28) dc_Page_putDayAndTime_10 (by decide) (fun c3 => ?_) (fun c3 => ?_)
  · replace t := t.1 c3
    exact am_vret dc_Page_putDayAndTime_28 rfl t
  · replace t := t.2 c3
    refine am_blk_ok (c := 0) (ini := false) (by decide) rfl (fun q => by cases q) bk_Page_putDayAndTime_13_2 _ 16 _ _ _ bk_Page_putDayAndTime_13_2_ok rfl ?_
    show am_EI m_Page_putDayAndTime kc ks 16 [.ref a0, .int x1] [.int 43, .ref a0] h2 Q
    obtain ⟨o4, t⟩ := t
    refine am_callV (M2 := m_Page_put) (ci := 0) (a := a0) (kc := kc) (ks := ks) (k2c := 0) (k2s := 0) (as := []) [.int 43] dc_Page_putDayAndTime_16 lk_0_23 im_Page_put se_Page_put lm_Page_put np_Page_put ⟨Nat.le_of_ble_eq_true rfl, Nat.le_of_ble_eq_true rfl⟩ (fun _ => Nat.le_of_ble_eq_true rfl) (by decide) rfl o4 (am_Ew.end (am_Ew.mono t (fun h5 t => ?_)))
    refine am_blk_ok (c := 0) (ini := false) (by decide) rfl (fun q => by cases q) bk_Page_putDayAndTime_19_4 _ 25 _ _ _ bk_Page_putDayAndTime_19_4_ok rfl ?_
    show ((¬ 1440 = 0) ∧ am_EI m_Page_putDayAndTime kc ks 25 [.ref a0, .int x1] [.int (x1 / 1440), .ref a0] h5 Q)
    refine ⟨(by decide), ?_⟩
    obtain ⟨o6, t⟩ := t
    refine am_callV (M2 := m_Page_putNumber) (ci := 0) (a := a0) (kc := kc) (ks := ks) (k2c := 0) (k2s := 0) (as := []) [.int (x1 / 1440)] dc_Page_putDayAndTime_25 lk_0_50 im_Page_putNumber se_Page_putNumber lm_Page_putNumber np_Page_putNumber ⟨Nat.le_of_ble_eq_true rfl, Nat.le_of_ble_eq_true rfl⟩ (fun _ => Nat.le_of_ble_eq_true rfl) (by decide) rfl o6 (am_Ew.end (am_Ew.mono t (fun h7 t => ?_)))
    exact am_vret dc_Page_putDayAndTime_28 rfl t
set_option maxRecDepth 20000 in
theorem ev_Page_putDayAndTime (a0 : Nat) (x1 : Int32) (h : am_H) (Q : am_H → Prop) (t : (am_tg h a0 = (0, 2) ∧ (am_Ew m_Page_putTime 0 0 [.ref a0, .int x1] h (fun h2 => (((x1 / 1440) ≤ 0 → Q h2) ∧ (¬ (x1 / 1440) ≤ 0 → (am_tg h2 a0 = (0, 2) ∧ (am_Ew m_Page_put 0 0 [.ref a0, .int 43] h2 (fun h5 => (am_tg h5 a0 = (0, 2) ∧ (am_Ew m_Page_putNumber 0 0 [.ref a0, .int (x1 / 1440)] h5 (fun h7 => Q h7)))))))))))) : am_Ew m_Page_putDayAndTime 0 0 [.ref a0, .int x1] h Q :=
  am_Ev.of (by decide +kernel) (Nat.le_of_ble_eq_true rfl) (by simp only [List.mem_cons, List.not_mem_nil, or_false]; intro v hv; rcases hv with rfl | rfl; all_goals first | exact trivial) (sg_Page_putDayAndTime_0 (kc := 0) (ks := 0) a0 x1 h (am_qw Q) t)
def bk_Page_putDigit_0_5 : List am_E := [(0, .aload_n 0, 1, 0, 0), (1, .bipush 48, 2, 0, 48), (3, .iload_n 1, 1, 0, 0), (4, .iadd, 1, 0, 0), (5, .i2c, 1, 0, 0)]
theorem bk_Page_putDigit_0_5_ok : bk_Page_putDigit_0_5.all (am_ok 0 false m_Page_putDigit.2.1) = true := by decide +kernel
theorem dc_Page_putDigit_6 : decode m_Page_putDigit.2.1 6 = .ok (.invokevirtual 23, 3) := by decide +kernel
theorem dc_Page_putDigit_9 : decode m_Page_putDigit.2.1 9 = .ok (.return_, 1) := by decide +kernel
set_option maxRecDepth 20000 in
theorem sg_Page_putDigit_0 {kc ks : Nat} (a0 : Nat) (x1 : Int32) (h : am_H) (Q : Option Value → am_H → Prop) (t : (am_tg h a0 = (0, 2) ∧ (am_Ew m_Page_put 0 0 [.ref a0, .int (((48 + x1).toUInt32 % 65536).toInt32)] h (fun h2 => Q none h2)))) : am_EI m_Page_putDigit kc ks 0 [.ref a0, .int x1] [] h Q := by
  refine am_blk_ok (c := 0) (ini := false) (by decide) rfl (fun q => by cases q) bk_Page_putDigit_0_5 _ 6 _ _ _ bk_Page_putDigit_0_5_ok rfl ?_
  show am_EI m_Page_putDigit kc ks 6 [.ref a0, .int x1] [.int (((48 + x1).toUInt32 % 65536).toInt32), .ref a0] h Q
  obtain ⟨o1, t⟩ := t
  refine am_callV (M2 := m_Page_put) (ci := 0) (a := a0) (kc := kc) (ks := ks) (k2c := 0) (k2s := 0) (as := []) [.int (((48 + x1).toUInt32 % 65536).toInt32)] dc_Page_putDigit_6 lk_0_23 im_Page_put se_Page_put lm_Page_put np_Page_put ⟨Nat.le_of_ble_eq_true rfl, Nat.le_of_ble_eq_true rfl⟩ (fun _ => Nat.le_of_ble_eq_true rfl) (by decide) rfl o1 (am_Ew.end (am_Ew.mono t (fun h2 t => ?_)))
  exact am_vret dc_Page_putDigit_9 rfl t
set_option maxRecDepth 20000 in
theorem ev_Page_putDigit (a0 : Nat) (x1 : Int32) (h : am_H) (Q : am_H → Prop) (t : (am_tg h a0 = (0, 2) ∧ (am_Ew m_Page_put 0 0 [.ref a0, .int (((48 + x1).toUInt32 % 65536).toInt32)] h (fun h2 => Q h2)))) : am_Ew m_Page_putDigit 0 0 [.ref a0, .int x1] h Q :=
  am_Ev.of (by decide +kernel) (Nat.le_of_ble_eq_true rfl) (by simp only [List.mem_cons, List.not_mem_nil, or_false]; intro v hv; rcases hv with rfl | rfl; all_goals first | exact trivial) (sg_Page_putDigit_0 (kc := 0) (ks := 0) a0 x1 h (am_qw Q) t)
def bk_Page_putNumber_0_1 : List am_E := [(0, .iload_n 1, 1, 0, 0)]
theorem bk_Page_putNumber_0_1_ok : bk_Page_putNumber_0_1.all (am_ok 0 false m_Page_putNumber.2.1) = true := by decide +kernel
def bk_Page_putNumber_10_1 : List am_E := [(10, .iload_n 1, 1, 0, 0)]
theorem bk_Page_putNumber_10_1_ok : bk_Page_putNumber_10_1.all (am_ok 0 false m_Page_putNumber.2.1) = true := by decide +kernel
def bk_Page_putNumber_14_3 : List am_E := [(14, .istore_n 2, 1, 0, 0), (15, .sipush 1000, 3, 0, 1000), (18, .istore_n 3, 1, 0, 0)]
theorem bk_Page_putNumber_14_3_ok : bk_Page_putNumber_14_3.all (am_ok 0 false m_Page_putNumber.2.1) = true := by decide +kernel
def bk_Page_putNumber_4_2 : List am_E := [(4, .aload_n 0, 1, 0, 0), (5, .bipush 45, 2, 0, 45)]
theorem bk_Page_putNumber_4_2_ok : bk_Page_putNumber_4_2.all (am_ok 0 false m_Page_putNumber.2.1) = true := by decide +kernel
def bk_Page_putNumber_19_1 : List am_E := [(19, .iload_n 3, 1, 0, 0)]
theorem bk_Page_putNumber_19_1_ok : bk_Page_putNumber_19_1.all (am_ok 0 false m_Page_putNumber.2.1) = true := by decide +kernel
def bk_Page_putNumber_23_2 : List am_E := [(23, .iload_n 2, 1, 0, 0), (24, .iload_n 3, 1, 0, 0)]
theorem bk_Page_putNumber_23_2_ok : bk_Page_putNumber_23_2.all (am_ok 0 false m_Page_putNumber.2.1) = true := by decide +kernel
def bk_Page_putNumber_33_6 : List am_E := [(33, .aload_n 0, 1, 0, 0), (34, .iload_n 2, 1, 0, 0), (35, .iload_n 3, 1, 0, 0), (36, .idiv, 1, 0, 0), (37, .bipush 10, 2, 0, 10), (39, .irem, 1, 0, 0)]
theorem bk_Page_putNumber_33_6_ok : bk_Page_putNumber_33_6.all (am_ok 0 false m_Page_putNumber.2.1) = true := by decide +kernel
def bk_Page_putNumber_43_5 : List am_E := [(43, .iload_n 3, 1, 0, 0), (44, .bipush 10, 2, 0, 10), (46, .idiv, 1, 0, 0), (47, .istore_n 3, 1, 0, 0), (48, .goto (-29), 3, 0, -29)]
theorem bk_Page_putNumber_43_5_ok : bk_Page_putNumber_43_5.all (am_ok 0 false m_Page_putNumber.2.1) = true := by decide +kernel
def bk_Page_putNumber_28_2 : List am_E := [(28, .iload_n 3, 1, 0, 0), (29, .iconst 1, 1, 0, 1)]
theorem bk_Page_putNumber_28_2_ok : bk_Page_putNumber_28_2.all (am_ok 0 false m_Page_putNumber.2.1) = true := by decide +kernel
theorem dc_Page_putNumber_11 : decode m_Page_putNumber.2.1 11 = .ok (.invokestatic 135, 3) := by decide +kernel
theorem dc_Page_putNumber_7 : decode m_Page_putNumber.2.1 7 = .ok (.invokevirtual 23, 3) := by decide +kernel
theorem dc_Page_putNumber_1 : decode m_Page_putNumber.2.1 1 = .ok (.ifCond .ge 9, 3) := by decide +kernel
theorem dc_Page_putNumber_51 : decode m_Page_putNumber.2.1 51 = .ok (.return_, 1) := by decide +kernel
theorem dc_Page_putNumber_40 : decode m_Page_putNumber.2.1 40 = .ok (.invokevirtual 132, 3) := by decide +kernel
theorem dc_Page_putNumber_30 : decode m_Page_putNumber.2.1 30 = .ok (.if_icmp .ne 13, 3) := by decide +kernel
theorem dc_Page_putNumber_25 : decode m_Page_putNumber.2.1 25 = .ok (.if_icmp .ge 8, 3) := by decide +kernel
theorem dc_Page_putNumber_20 : decode m_Page_putNumber.2.1 20 = .ok (.ifCond .le 31, 3) := by decide +kernel
set_option maxRecDepth 20000 in
theorem sg_Page_putNumber_0 {kc ks : Nat} (a0 : Nat) (x1 : Int32) (h : am_H) (Q : Option Value → am_H → Prop) (t : ((0 ≤ x1 → (am_Ei m_Math_abs 0 0 [.int x1] h (fun r3 h2 => am_EI m_Page_putNumber kc ks 19 [.ref a0, .int x1, .int r3, .int 1000] [] h2 Q))) ∧ (¬ 0 ≤ x1 → (am_tg h a0 = (0, 2) ∧ (am_Ew m_Page_put 0 0 [.ref a0, .int 45] h (fun h5 => (am_Ei m_Math_abs 0 0 [.int x1] h5 (fun r7 h6 => am_EI m_Page_putNumber kc ks 19 [.ref a0, .int x1, .int r7, .int 1000] [] h6 Q)))))))) : am_EI m_Page_putNumber kc ks 0 [.ref a0, .int x1, .float 0, .float 0] [] h Q := by
  refine am_blk_ok (c := 0) (ini := false) (by decide) rfl (fun q => by cases q) bk_Page_putNumber_0_1 _ 1 _ _ _ bk_Page_putNumber_0_1_ok rfl ?_
  show am_EI m_Page_putNumber kc ks 1 [.ref a0, .int x1, .float 0, .float 0] [.int x1] h Q
  refine am_if_ge (tgt := 10) dc_Page_putNumber_1 (by decide) (fun c1 => ?_) (fun c1 => ?_)
  · replace t := t.1 c1
    refine am_blk_ok (c := 0) (ini := false) (by decide) rfl (fun q => by cases q) bk_Page_putNumber_10_1 _ 11 _ _ _ bk_Page_putNumber_10_1_ok rfl ?_
    show am_EI m_Page_putNumber kc ks 11 [.ref a0, .int x1, .float 0, .float 0] [.int x1] h Q
    refine am_callS (M2 := m_Math_abs) (kc := kc) (ks := ks) (k2c := 0) (k2s := 0) (as := []) [.int x1] dc_Page_putNumber_11 lk_0_135 st_Math_abs lm_Math_abs np_Math_abs ⟨Nat.le_of_ble_eq_true rfl, Nat.le_of_ble_eq_true rfl⟩ (fun _ => Nat.le_of_ble_eq_true rfl) (am_Ei.end (am_Ei.mono t (fun r3 h2 t => ?_)))
    refine am_blk_ok (c := 0) (ini := false) (by decide) rfl (fun q => by cases q) bk_Page_putNumber_14_3 _ 19 _ _ _ bk_Page_putNumber_14_3_ok rfl ?_
    show am_EI m_Page_putNumber kc ks 19 [.ref a0, .int x1, .int r3, .int 1000] [] h2 Q
    exact t
  · replace t := t.2 c1
    refine am_blk_ok (c := 0) (ini := false) (by decide) rfl (fun q => by cases q) bk_Page_putNumber_4_2 _ 7 _ _ _ bk_Page_putNumber_4_2_ok rfl ?_
    show am_EI m_Page_putNumber kc ks 7 [.ref a0, .int x1, .float 0, .float 0] [.int 45, .ref a0] h Q
    obtain ⟨o4, t⟩ := t
    refine am_callV (M2 := m_Page_put) (ci := 0) (a := a0) (kc := kc) (ks := ks) (k2c := 0) (k2s := 0) (as := []) [.int 45] dc_Page_putNumber_7 lk_0_23 im_Page_put se_Page_put lm_Page_put np_Page_put ⟨Nat.le_of_ble_eq_true rfl, Nat.le_of_ble_eq_true rfl⟩ (fun _ => Nat.le_of_ble_eq_true rfl) (by decide) rfl o4 (am_Ew.end (am_Ew.mono t (fun h5 t => ?_)))
    refine am_blk_ok (c := 0) (ini := false) (by decide) rfl (fun q => by cases q) bk_Page_putNumber_10_1 _ 11 _ _ _ bk_Page_putNumber_10_1_ok rfl ?_
    show am_EI m_Page_putNumber kc ks 11 [.ref a0, .int x1, .float 0, .float 0] [.int x1] h5 Q
    refine am_callS (M2 := m_Math_abs) (kc := kc) (ks := ks) (k2c := 0) (k2s := 0) (as := []) [.int x1] dc_Page_putNumber_11 lk_0_135 st_Math_abs lm_Math_abs np_Math_abs ⟨Nat.le_of_ble_eq_true rfl, Nat.le_of_ble_eq_true rfl⟩ (fun _ => Nat.le_of_ble_eq_true rfl) (am_Ei.end (am_Ei.mono t (fun r7 h6 t => ?_)))
    refine am_blk_ok (c := 0) (ini := false) (by decide) rfl (fun q => by cases q) bk_Page_putNumber_14_3 _ 19 _ _ _ bk_Page_putNumber_14_3_ok rfl ?_
    show am_EI m_Page_putNumber kc ks 19 [.ref a0, .int x1, .int r7, .int 1000] [] h6 Q
    exact t
set_option maxRecDepth 20000 in
theorem ev_Page_putNumber (a0 : Nat) (x1 : Int32) (h : am_H) (Q : am_H → Prop) (t : ((0 ≤ x1 → (am_Ei m_Math_abs 0 0 [.int x1] h (fun r3 h2 => am_EI m_Page_putNumber 0 0 19 [.ref a0, .int x1, .int r3, .int 1000] [] h2 (am_qw Q)))) ∧ (¬ 0 ≤ x1 → (am_tg h a0 = (0, 2) ∧ (am_Ew m_Page_put 0 0 [.ref a0, .int 45] h (fun h5 => (am_Ei m_Math_abs 0 0 [.int x1] h5 (fun r7 h6 => am_EI m_Page_putNumber 0 0 19 [.ref a0, .int x1, .int r7, .int 1000] [] h6 (am_qw Q))))))))) : am_Ew m_Page_putNumber 0 0 [.ref a0, .int x1] h Q :=
  am_Ev.of (by decide +kernel) (Nat.le_of_ble_eq_true rfl) (by simp only [List.mem_cons, List.not_mem_nil, or_false]; intro v hv; rcases hv with rfl | rfl; all_goals first | exact trivial) (sg_Page_putNumber_0 (kc := 0) (ks := 0) a0 x1 h (am_qw Q) t)
set_option maxRecDepth 20000 in
theorem sg_Page_putNumber_19 {kc ks : Nat} (a0 : Nat) (x1 x2 x3 : Int32) (h : am_H) (Q : Option Value → am_H → Prop) (t : ((x3 ≤ 0 → Q none h) ∧ (¬ x3 ≤ 0 → ((x3 ≤ x2 → ((¬ x3 = 0) ∧ (am_tg h a0 = (0, 2) ∧ (am_Ew m_Page_putDigit 0 0 [.ref a0, .int ((x2 / x3) % 10)] h (fun h5 => am_EI m_Page_putNumber kc ks 19 [.ref a0, .int x1, .int x2, .int (x3 / 10)] [] h5 Q))))) ∧ (¬ x3 ≤ x2 → ((¬ x3 = 1 → am_EI m_Page_putNumber kc ks 19 [.ref a0, .int x1, .int x2, .int (x3 / 10)] [] h Q) ∧ (x3 = 1 → ((¬ x3 = 0) ∧ (am_tg h a0 = (0, 2) ∧ (am_Ew m_Page_putDigit 0 0 [.ref a0, .int ((x2 / x3) % 10)] h (fun h9 => am_EI m_Page_putNumber kc ks 19 [.ref a0, .int x1, .int x2, .int (x3 / 10)] [] h9 Q))))))))))) : am_EI m_Page_putNumber kc ks 19 [.ref a0, .int x1, .int x2, .int x3] [] h Q := by
  refine am_blk_ok (c := 0) (ini := false) (by decide) rfl (fun q => by cases q) bk_Page_putNumber_19_1 _ 20 _ _ _ bk_Page_putNumber_19_1_ok rfl ?_
  show am_EI m_Page_putNumber kc ks 20 [.ref a0, .int x1, .int x2, .int x3] [.int x3] h Q
  refine am_if_le (tgt := 51) dc_Page_putNumber_20 (by decide) (fun c1 => ?_) (fun c1 => ?_)
  · replace t := t.1 c1
    exact am_vret dc_Page_putNumber_51 rfl t
  · replace t := t.2 c1
    refine am_blk_ok (c := 0) (ini := false) (by decide) rfl (fun q => by cases q) bk_Page_putNumber_23_2 _ 25 _ _ _ bk_Page_putNumber_23_2_ok rfl ?_
    show am_EI m_Page_putNumber kc ks 25 [.ref a0, .int x1, .int x2, .int x3] [.int x3, .int x2] h Q
    refine am_ic_ge (tgt := 33) dc_Page_putNumber_25 (by decide) (fun c2 => ?_) (fun c2 => ?_)
    · replace t := t.1 c2
      refine am_blk_ok (c := 0) (ini := false) (by decide) rfl (fun q => by cases q) bk_Page_putNumber_33_6 _ 40 _ _ _ bk_Page_putNumber_33_6_ok rfl ?_
      show ((¬ x3 = 0) ∧ ((¬ 10 = 0) ∧ am_EI m_Page_putNumber kc ks 40 [.ref a0, .int x1, .int x2, .int x3] [.int ((x2 / x3) % 10), .ref a0] h Q))
      obtain ⟨o3, t⟩ := t
      refine ⟨o3, (by decide), ?_⟩
      obtain ⟨o4, t⟩ := t
      refine am_callV (M2 := m_Page_putDigit) (ci := 0) (a := a0) (kc := kc) (ks := ks) (k2c := 0) (k2s := 0) (as := []) [.int ((x2 / x3) % 10)] dc_Page_putNumber_40 lk_0_132 im_Page_putDigit se_Page_putDigit lm_Page_putDigit np_Page_putDigit ⟨Nat.le_of_ble_eq_true rfl, Nat.le_of_ble_eq_true rfl⟩ (fun _ => Nat.le_of_ble_eq_true rfl) (by decide) rfl o4 (am_Ew.end (am_Ew.mono t (fun h5 t => ?_)))
      refine am_blk_ok (c := 0) (ini := false) (by decide) rfl (fun q => by cases q) bk_Page_putNumber_43_5 _ 19 _ _ _ bk_Page_putNumber_43_5_ok rfl ?_
      show ((¬ 10 = 0) ∧ am_EI m_Page_putNumber kc ks 19 [.ref a0, .int x1, .int x2, .int (x3 / 10)] [] h5 Q)
      refine ⟨(by decide), ?_⟩
      exact t
    · replace t := t.2 c2
      refine am_blk_ok (c := 0) (ini := false) (by decide) rfl (fun q => by cases q) bk_Page_putNumber_28_2 _ 30 _ _ _ bk_Page_putNumber_28_2_ok rfl ?_
      show am_EI m_Page_putNumber kc ks 30 [.ref a0, .int x1, .int x2, .int x3] [.int 1, .int x3] h Q
      refine am_ic_ne (tgt := 43) dc_Page_putNumber_30 (by decide) (fun c6 => ?_) (fun c6 => ?_)
      · replace t := t.1 c6
        refine am_blk_ok (c := 0) (ini := false) (by decide) rfl (fun q => by cases q) bk_Page_putNumber_43_5 _ 19 _ _ _ bk_Page_putNumber_43_5_ok rfl ?_
        show ((¬ 10 = 0) ∧ am_EI m_Page_putNumber kc ks 19 [.ref a0, .int x1, .int x2, .int (x3 / 10)] [] h Q)
        refine ⟨(by decide), ?_⟩
        exact t
      · replace t := t.2 c6
        refine am_blk_ok (c := 0) (ini := false) (by decide) rfl (fun q => by cases q) bk_Page_putNumber_33_6 _ 40 _ _ _ bk_Page_putNumber_33_6_ok rfl ?_
        show ((¬ x3 = 0) ∧ ((¬ 10 = 0) ∧ am_EI m_Page_putNumber kc ks 40 [.ref a0, .int x1, .int x2, .int x3] [.int ((x2 / x3) % 10), .ref a0] h Q))
        obtain ⟨o7, t⟩ := t
        refine ⟨o7, (by decide), ?_⟩
        obtain ⟨o8, t⟩ := t
        refine am_callV (M2 := m_Page_putDigit) (ci := 0) (a := a0) (kc := kc) (ks := ks) (k2c := 0) (k2s := 0) (as := []) [.int ((x2 / x3) % 10)] dc_Page_putNumber_40 lk_0_132 im_Page_putDigit se_Page_putDigit lm_Page_putDigit np_Page_putDigit ⟨Nat.le_of_ble_eq_true rfl, Nat.le_of_ble_eq_true rfl⟩ (fun _ => Nat.le_of_ble_eq_true rfl) (by decide) rfl o8 (am_Ew.end (am_Ew.mono t (fun h9 t => ?_)))
        refine am_blk_ok (c := 0) (ini := false) (by decide) rfl (fun q => by cases q) bk_Page_putNumber_43_5 _ 19 _ _ _ bk_Page_putNumber_43_5_ok rfl ?_
        show ((¬ 10 = 0) ∧ am_EI m_Page_putNumber kc ks 19 [.ref a0, .int x1, .int x2, .int (x3 / 10)] [] h9 Q)
        refine ⟨(by decide), ?_⟩
        exact t
def bk_Page_putText_0_2 : List am_E := [(0, .iconst 0, 1, 0, 0), (1, .istore_n 2, 1, 0, 0)]
theorem bk_Page_putText_0_2_ok : bk_Page_putText_0_2.all (am_ok 0 false m_Page_putText.2.1) = true := by decide +kernel
def bk_Page_putText_2_2 : List am_E := [(2, .iload_n 2, 1, 0, 0), (3, .aload_n 1, 1, 0, 0)]
theorem bk_Page_putText_2_2_ok : bk_Page_putText_2_2.all (am_ok 0 false m_Page_putText.2.1) = true := by decide +kernel
def bk_Page_putText_10_3 : List am_E := [(10, .aload_n 0, 1, 0, 0), (11, .aload_n 1, 1, 0, 0), (12, .iload_n 2, 1, 0, 0)]
theorem bk_Page_putText_10_3_ok : bk_Page_putText_10_3.all (am_ok 0 false m_Page_putText.2.1) = true := by decide +kernel
def bk_Page_putText_19_2 : List am_E := [(19, .iinc 2 1, 3, 0, 1), (22, .goto (-20), 3, 0, -20)]
theorem bk_Page_putText_19_2_ok : bk_Page_putText_19_2.all (am_ok 0 false m_Page_putText.2.1) = true := by decide +kernel
theorem dc_Page_putText_4 : decode m_Page_putText.2.1 4 = .ok (.invokevirtual 140, 3) := by decide +kernel
theorem dc_Page_putText_25 : decode m_Page_putText.2.1 25 = .ok (.return_, 1) := by decide +kernel
theorem dc_Page_putText_13 : decode m_Page_putText.2.1 13 = .ok (.invokevirtual 145, 3) := by decide +kernel
theorem dc_Page_putText_16 : decode m_Page_putText.2.1 16 = .ok (.invokevirtual 23, 3) := by decide +kernel
theorem dc_Page_putText_7 : decode m_Page_putText.2.1 7 = .ok (.if_icmp .ge 18, 3) := by decide +kernel
set_option maxRecDepth 20000 in
theorem sg_Page_putText_0 {kc ks : Nat} (a0 j1 : Nat) (h : am_H) (Q : Option Value → am_H → Prop) (t : am_EI m_Page_putText kc ks 2 [.ref a0, .retAddr j1, .int 0] [] h Q) : am_EI m_Page_putText kc ks 0 [.ref a0, .retAddr j1, .float 0] [] h Q := by
  refine am_blk_ok (c := 0) (ini := false) (by decide) rfl (fun q => by cases q) bk_Page_putText_0_2 _ 2 _ _ _ bk_Page_putText_0_2_ok rfl ?_
  show am_EI m_Page_putText kc ks 2 [.ref a0, .retAddr j1, .int 0] [] h Q
  exact t
set_option maxRecDepth 20000 in
theorem ev_Page_putText (a0 j1 : Nat) (h : am_H) (Q : am_H → Prop) (hc_j1 : am_arg (.retAddr j1)) (t : am_EI m_Page_putText 0 0 2 [.ref a0, .retAddr j1, .int 0] [] h (am_qw Q)) : am_Ew m_Page_putText 0 0 [.ref a0, .retAddr j1] h Q :=
  am_Ev.of (by decide +kernel) (Nat.le_of_ble_eq_true rfl) (by simp only [List.mem_cons, List.not_mem_nil, or_false]; intro v hv; rcases hv with rfl | rfl; all_goals first | exact trivial | exact hc_j1) (sg_Page_putText_0 (kc := 0) (ks := 0) a0 j1 h (am_qw Q) t)
set_option maxRecDepth 20000 in
theorem sg_Page_putText_2 {kc ks : Nat} (a0 j1 : Nat) (x2 : Int32) (h : am_H) (Q : Option Value → am_H → Prop) (t : (am_isC j1 = true ∧ (j1 < 30 ∧ (am_Ei m_Str_length 0 0 [.retAddr j1] h (fun r4 h3 => ((r4 ≤ x2 → Q none h3) ∧ (¬ r4 ≤ x2 → (am_isC j1 = true ∧ (j1 < 30 ∧ (am_Ei m_Str_charAt 0 0 [.retAddr j1, .int x2] h3 (fun r9 h8 => (am_tg h8 a0 = (0, 2) ∧ (am_Ew m_Page_put 0 0 [.ref a0, .int r9] h8 (fun h11 => am_EI m_Page_putText kc ks 2 [.ref a0, .retAddr j1, .int (x2 + 1)] [] h11 Q)))))))))))))) : am_EI m_Page_putText kc ks 2 [.ref a0, .retAddr j1, .int x2] [] h Q := by
  refine am_blk_ok (c := 0) (ini := false) (by decide) rfl (fun q => by cases q) bk_Page_putText_2_2 _ 4 _ _ _ bk_Page_putText_2_2_ok rfl ?_
  show (am_isC j1 = true ∧ am_EI m_Page_putText kc ks 4 [.ref a0, .retAddr j1, .int x2] [.retAddr j1, .int x2] h Q)
  obtain ⟨o1, t⟩ := t
  refine ⟨o1, ?_⟩
  obtain ⟨o2, t⟩ := t
  refine am_callVC (M2 := m_Str_length) (j := j1) (kc := kc) (ks := ks) (k2c := 0) (k2s := 0) (as := [.int x2]) [] dc_Page_putText_4 lk_0_140 im_Str_length se_Str_length lm_Str_length np_Str_length ⟨Nat.le_of_ble_eq_true rfl, Nat.le_of_ble_eq_true rfl⟩ (fun _ => Nat.le_of_ble_eq_true rfl) rfl o2 (am_Ei.end (am_Ei.mono t (fun r4 h3 t => ?_)))
  refine am_ic_ge (tgt := 25) dc_Page_putText_7 (by decide) (fun c5 => ?_) (fun c5 => ?_)
  · replace t := t.1 c5
    exact am_vret dc_Page_putText_25 rfl t
  · replace t := t.2 c5
    refine am_blk_ok (c := 0) (ini := false) (by decide) rfl (fun q => by cases q) bk_Page_putText_10_3 _ 13 _ _ _ bk_Page_putText_10_3_ok rfl ?_
    show (am_isC j1 = true ∧ am_EI m_Page_putText kc ks 13 [.ref a0, .retAddr j1, .int x2] [.int x2, .retAddr j1, .ref a0] h3 Q)
    obtain ⟨o6, t⟩ := t
    refine ⟨o6, ?_⟩
    obtain ⟨o7, t⟩ := t
    refine am_callVC (M2 := m_Str_charAt) (j := j1) (kc := kc) (ks := ks) (k2c := 0) (k2s := 0) (as := [.ref a0]) [.int x2] dc_Page_putText_13 lk_0_145 im_Str_charAt se_Str_charAt lm_Str_charAt np_Str_charAt ⟨Nat.le_of_ble_eq_true rfl, Nat.le_of_ble_eq_true rfl⟩ (fun _ => Nat.le_of_ble_eq_true rfl) rfl o7 (am_Ei.end (am_Ei.mono t (fun r9 h8 t => ?_)))
    obtain ⟨o10, t⟩ := t
    refine am_callV (M2 := m_Page_put) (ci := 0) (a := a0) (kc := kc) (ks := ks) (k2c := 0) (k2s := 0) (as := []) [.int r9] dc_Page_putText_16 lk_0_23 im_Page_put se_Page_put lm_Page_put np_Page_put ⟨Nat.le_of_ble_eq_true rfl, Nat.le_of_ble_eq_true rfl⟩ (fun _ => Nat.le_of_ble_eq_true rfl) (by decide) rfl o10 (am_Ew.end (am_Ew.mono t (fun h11 t => ?_)))
    refine am_blk_ok (c := 0) (ini := false) (by decide) rfl (fun q => by cases q) bk_Page_putText_19_2 _ 2 _ _ _ bk_Page_putText_19_2_ok rfl ?_
    show am_EI m_Page_putText kc ks 2 [.ref a0, .retAddr j1, .int (x2 + 1)] [] h11 Q
    exact t
def bk_Page_putTime_0_14 : List am_E := [(0, .iload_n 1, 1, 0, 0), (1, .bipush 60, 2, 0, 60), (3, .idiv, 1, 0, 0), (4, .bipush 24, 2, 0, 24), (6, .irem, 1, 0, 0), (7, .istore_n 2, 1, 0, 0), (8, .iload_n 1, 1, 0, 0), (9, .bipush 60, 2, 0, 60), (11, .irem, 1, 0, 0), (12, .istore_n 3, 1, 0, 0), (13, .aload_n 0, 1, 0, 0), (14, .iload_n 2, 1, 0, 0), (15, .bipush 10, 2, 0, 10), (17, .idiv, 1, 0, 0)]
theorem bk_Page_putTime_0_14_ok : bk_Page_putTime_0_14.all (am_ok 0 false m_Page_putTime.2.1) = true := by decide +kernel
def bk_Page_putTime_21_4 : List am_E := [(21, .aload_n 0, 1, 0, 0), (22, .iload_n 2, 1, 0, 0), (23, .bipush 10, 2, 0, 10), (25, .irem, 1, 0, 0)]
theorem bk_Page_putTime_21_4_ok : bk_Page_putTime_21_4.all (am_ok 0 false m_Page_putTime.2.1) = true := by decide +kernel
def bk_Page_putTime_29_4 : List am_E := [(29, .aload_n 0, 1, 0, 0), (30, .iload_n 3, 1, 0, 0), (31, .bipush 10, 2, 0, 10), (33, .idiv, 1, 0, 0)]
theorem bk_Page_putTime_29_4_ok : bk_Page_putTime_29_4.all (am_ok 0 false m_Page_putTime.2.1) = true := by decide +kernel
def bk_Page_putTime_37_4 : List am_E := [(37, .aload_n 0, 1, 0, 0), (38, .iload_n 3, 1, 0, 0), (39, .bipush 10, 2, 0, 10), (41, .irem, 1, 0, 0)]
theorem bk_Page_putTime_37_4_ok : bk_Page_putTime_37_4.all (am_ok 0 false m_Page_putTime.2.1) = true := by decide +kernel
theorem dc_Page_putTime_18 : decode m_Page_putTime.2.1 18 = .ok (.invokevirtual 132, 3) := by decide +kernel
theorem dc_Page_putTime_26 : decode m_Page_putTime.2.1 26 = .ok (.invokevirtual 132, 3) := by decide +kernel
theorem dc_Page_putTime_34 : decode m_Page_putTime.2.1 34 = .ok (.invokevirtual 132, 3) := by decide +kernel
theorem dc_Page_putTime_42 : decode m_Page_putTime.2.1 42 = .ok (.invokevirtual 132, 3) := by decide +kernel
theorem dc_Page_putTime_45 : decode m_Page_putTime.2.1 45 = .ok (.return_, 1) := by decide +kernel
set_option maxRecDepth 20000 in
theorem sg_Page_putTime_0 {kc ks : Nat} (a0 : Nat) (x1 : Int32) (h : am_H) (Q : Option Value → am_H → Prop) (t : (am_tg h a0 = (0, 2) ∧ (am_Ew m_Page_putDigit 0 0 [.ref a0, .int (((x1 / 60) % 24) / 10)] h (fun h2 => (am_tg h2 a0 = (0, 2) ∧ (am_Ew m_Page_putDigit 0 0 [.ref a0, .int (((x1 / 60) % 24) % 10)] h2 (fun h4 => (am_tg h4 a0 = (0, 2) ∧ (am_Ew m_Page_putDigit 0 0 [.ref a0, .int ((x1 % 60) / 10)] h4 (fun h6 => (am_tg h6 a0 = (0, 2) ∧ (am_Ew m_Page_putDigit 0 0 [.ref a0, .int ((x1 % 60) % 10)] h6 (fun h8 => Q none h8))))))))))))) : am_EI m_Page_putTime kc ks 0 [.ref a0, .int x1, .float 0, .float 0] [] h Q := by
  refine am_blk_ok (c := 0) (ini := false) (by decide) rfl (fun q => by cases q) bk_Page_putTime_0_14 _ 18 _ _ _ bk_Page_putTime_0_14_ok rfl ?_
  show ((¬ 60 = 0) ∧ ((¬ 24 = 0) ∧ ((¬ 60 = 0) ∧ ((¬ 10 = 0) ∧ am_EI m_Page_putTime kc ks 18 [.ref a0, .int x1, .int ((x1 / 60) % 24), .int (x1 % 60)] [.int (((x1 / 60) % 24) / 10), .ref a0] h Q))))
  refine ⟨(by decide), (by decide), (by decide), (by decide), ?_⟩
  obtain ⟨o1, t⟩ := t
  refine am_callV (M2 := m_Page_putDigit) (ci := 0) (a := a0) (kc := kc) (ks := ks) (k2c := 0) (k2s := 0) (as := []) [.int (((x1 / 60) % 24) / 10)] dc_Page_putTime_18 lk_0_132 im_Page_putDigit se_Page_putDigit lm_Page_putDigit np_Page_putDigit ⟨Nat.le_of_ble_eq_true rfl, Nat.le_of_ble_eq_true rfl⟩ (fun _ => Nat.le_of_ble_eq_true rfl) (by decide) rfl o1 (am_Ew.end (am_Ew.mono t (fun h2 t => ?_)))
  refine am_blk_ok (c := 0) (ini := false) (by decide) rfl (fun q => by cases q) bk_Page_putTime_21_4 _ 26 _ _ _ bk_Page_putTime_21_4_ok rfl ?_
  show ((¬ 10 = 0) ∧ am_EI m_Page_putTime kc ks 26 [.ref a0, .int x1, .int ((x1 / 60) % 24), .int (x1 % 60)] [.int (((x1 / 60) % 24) % 10), .ref a0] h2 Q)
  refine ⟨(by decide), ?_⟩
  obtain ⟨o3, t⟩ := t
  refine am_callV (M2 := m_Page_putDigit) (ci := 0) (a := a0) (kc := kc) (ks := ks) (k2c := 0) (k2s := 0) (as := []) [.int (((x1 / 60) % 24) % 10)] dc_Page_putTime_26 lk_0_132 im_Page_putDigit se_Page_putDigit lm_Page_putDigit np_Page_putDigit ⟨Nat.le_of_ble_eq_true rfl, Nat.le_of_ble_eq_true rfl⟩ (fun _ => Nat.le_of_ble_eq_true rfl) (by decide) rfl o3 (am_Ew.end (am_Ew.mono t (fun h4 t => ?_)))
  refine am_blk_ok (c := 0) (ini := false) (by decide) rfl (fun q => by cases q) bk_Page_putTime_29_4 _ 34 _ _ _ bk_Page_putTime_29_4_ok rfl ?_
  show ((¬ 10 = 0) ∧ am_EI m_Page_putTime kc ks 34 [.ref a0, .int x1, .int ((x1 / 60) % 24), .int (x1 % 60)] [.int ((x1 % 60) / 10), .ref a0] h4 Q)
  refine ⟨(by decide), ?_⟩
  obtain ⟨o5, t⟩ := t
  refine am_callV (M2 := m_Page_putDigit) (ci := 0) (a := a0) (kc := kc) (ks := ks) (k2c := 0) (k2s := 0) (as := []) [.int ((x1 % 60) / 10)] dc_Page_putTime_34 lk_0_132 im_Page_putDigit se_Page_putDigit lm_Page_putDigit np_Page_putDigit ⟨Nat.le_of_ble_eq_true rfl, Nat.le_of_ble_eq_true rfl⟩ (fun _ => Nat.le_of_ble_eq_true rfl) (by decide) rfl o5 (am_Ew.end (am_Ew.mono t (fun h6 t => ?_)))
  refine am_blk_ok (c := 0) (ini := false) (by decide) rfl (fun q => by cases q) bk_Page_putTime_37_4 _ 42 _ _ _ bk_Page_putTime_37_4_ok rfl ?_
  show ((¬ 10 = 0) ∧ am_EI m_Page_putTime kc ks 42 [.ref a0, .int x1, .int ((x1 / 60) % 24), .int (x1 % 60)] [.int ((x1 % 60) % 10), .ref a0] h6 Q)
  refine ⟨(by decide), ?_⟩
  obtain ⟨o7, t⟩ := t
  refine am_callV (M2 := m_Page_putDigit) (ci := 0) (a := a0) (kc := kc) (ks := ks) (k2c := 0) (k2s := 0) (as := []) [.int ((x1 % 60) % 10)] dc_Page_putTime_42 lk_0_132 im_Page_putDigit se_Page_putDigit lm_Page_putDigit np_Page_putDigit ⟨Nat.le_of_ble_eq_true rfl, Nat.le_of_ble_eq_true rfl⟩ (fun _ => Nat.le_of_ble_eq_true rfl) (by decide) rfl o7 (am_Ew.end (am_Ew.mono t (fun h8 t => ?_)))
  exact am_vret dc_Page_putTime_45 rfl t
set_option maxRecDepth 20000 in
theorem ev_Page_putTime (a0 : Nat) (x1 : Int32) (h : am_H) (Q : am_H → Prop) (t : (am_tg h a0 = (0, 2) ∧ (am_Ew m_Page_putDigit 0 0 [.ref a0, .int (((x1 / 60) % 24) / 10)] h (fun h2 => (am_tg h2 a0 = (0, 2) ∧ (am_Ew m_Page_putDigit 0 0 [.ref a0, .int (((x1 / 60) % 24) % 10)] h2 (fun h4 => (am_tg h4 a0 = (0, 2) ∧ (am_Ew m_Page_putDigit 0 0 [.ref a0, .int ((x1 % 60) / 10)] h4 (fun h6 => (am_tg h6 a0 = (0, 2) ∧ (am_Ew m_Page_putDigit 0 0 [.ref a0, .int ((x1 % 60) % 10)] h6 (fun h8 => Q h8))))))))))))) : am_Ew m_Page_putTime 0 0 [.ref a0, .int x1] h Q :=
  am_Ev.of (by decide +kernel) (Nat.le_of_ble_eq_true rfl) (by simp only [List.mem_cons, List.not_mem_nil, or_false]; intro v hv; rcases hv with rfl | rfl; all_goals first | exact trivial) (sg_Page_putTime_0 (kc := 0) (ks := 0) a0 x1 h (am_qw Q) t)
def bk_Page_size_0_2 : List am_E := [(0, .aload_n 0, 1, 0, 0), (1, .getfield 13, 3, 4, 0)]
theorem bk_Page_size_0_2_ok : bk_Page_size_0_2.all (am_ok 0 false m_Page_size.2.1) = true := by decide +kernel
theorem dc_Page_size_4 : decode m_Page_size.2.1 4 = .ok (.ireturn, 1) := by decide +kernel
set_option maxRecDepth 20000 in
theorem sg_Page_size_0 {kc ks : Nat} (a0 : Nat) (h : am_H) (Q : Option Value → am_H → Prop) (t : (am_tg h a0 = (0, 2) ∧ Q (some (.int (am_I h a0 1))) h)) : am_EI m_Page_size kc ks 0 [.ref a0] [] h Q := by
  refine am_blk_ok (c := 0) (ini := false) (by decide) rfl (fun q => by cases q) bk_Page_size_0_2 _ 4 _ _ _ bk_Page_size_0_2_ok rfl ?_
  show (am_tg h a0 = (0, 2) ∧ am_EI m_Page_size kc ks 4 [.ref a0] [.int (am_I h a0 1)] h Q)
  obtain ⟨o1, t⟩ := t
  refine ⟨o1, ?_⟩
  exact am_iret dc_Page_size_4 rfl t
set_option maxRecDepth 20000 in
theorem ev_Page_size (a0 : Nat) (h : am_H) (Q : Int32 → am_H → Prop) (t : (am_tg h a0 = (0, 2) ∧ Q (am_I h a0 1) h)) : am_Ei m_Page_size 0 0 [.ref a0] h Q :=
  am_Ev.of (by decide +kernel) (Nat.le_of_ble_eq_true rfl) (by simp only [List.mem_cons, List.not_mem_nil, or_false]; intro v hv; rcases hv with rfl; all_goals first | exact trivial) (sg_Page_size_0 (kc := 0) (ks := 0) a0 h (am_qi Q) t)
def bk_Page_wordOf_0_1 : List am_E := [(0, .iload_n 0, 1, 0, 0)]
theorem bk_Page_wordOf_0_1_ok : bk_Page_wordOf_0_1.all (am_ok 0 false m_Page_wordOf.2.1) = true := by decide +kernel
def bk_Page_wordOf_28_1 : List am_E := [(28, .ldc 124, 2, 12, 0)]
theorem bk_Page_wordOf_28_1_ok : bk_Page_wordOf_28_1.all (am_ok 0 false m_Page_wordOf.2.1) = true := by decide +kernel
def bk_Page_wordOf_31_1 : List am_E := [(31, .ldc 126, 2, 13, 0)]
theorem bk_Page_wordOf_31_1_ok : bk_Page_wordOf_31_1.all (am_ok 0 false m_Page_wordOf.2.1) = true := by decide +kernel
def bk_Page_wordOf_34_1 : List am_E := [(34, .ldc 128, 2, 14, 0)]
theorem bk_Page_wordOf_34_1_ok : bk_Page_wordOf_34_1.all (am_ok 0 false m_Page_wordOf.2.1) = true := by decide +kernel
def bk_Page_wordOf_37_1 : List am_E := [(37, .ldc 130, 2, 15, 0)]
theorem bk_Page_wordOf_37_1_ok : bk_Page_wordOf_37_1.all (am_ok 0 false m_Page_wordOf.2.1) = true := by decide +kernel
theorem dc_Page_wordOf_1 : decode m_Page_wordOf.2.1 1 = .ok (.tableswitch 36 0 2 #[27, 30, 33], 27) := by decide +kernel
theorem dc_Page_wordOf_30 : decode m_Page_wordOf.2.1 30 = .ok (.areturn, 1) := by decide +kernel
theorem dc_Page_wordOf_33 : decode m_Page_wordOf.2.1 33 = .ok (.areturn, 1) := by decide +kernel
theorem dc_Page_wordOf_36 : decode m_Page_wordOf.2.1 36 = .ok (.areturn, 1) := by decide +kernel
theorem dc_Page_wordOf_39 : decode m_Page_wordOf.2.1 39 = .ok (.areturn, 1) := by decide +kernel
set_option maxRecDepth 20000 in
theorem sg_Page_wordOf_0 {kc ks : Nat} (x0 : Int32) (h : am_H) (Q : Option Value → am_H → Prop) (t : ((x0 = 0 → Q (some (.retAddr 11)) h) ∧ (x0 = 1 → Q (some (.retAddr 12)) h) ∧ (x0 = 2 → Q (some (.retAddr 13)) h) ∧ (¬ x0 = 0 → ¬ x0 = 1 → ¬ x0 = 2 → Q (some (.retAddr 14)) h))) : am_EI m_Page_wordOf kc ks 0 [.int x0] [] h Q := by
  refine am_blk_ok (c := 0) (ini := false) (by decide) rfl (fun q => by cases q) bk_Page_wordOf_0_1 _ 1 _ _ _ bk_Page_wordOf_0_1_ok rfl ?_
  show am_EI m_Page_wordOf kc ks 1 [.int x0] [.int x0] h Q
  by_cases c1 : x0 = 0
  · refine am_tabIn (x := x0) (tgt := 28) dc_Page_wordOf_1 (by rw [c1]; decide) (by rw [c1]; decide) (by rw [c1]; rfl) (by decide) ?_
    replace t := t.1 c1
    refine am_blk_ok (c := 0) (ini := false) (by decide) rfl (fun q => by cases q) bk_Page_wordOf_28_1 _ 30 _ _ _ bk_Page_wordOf_28_1_ok rfl ?_
    show am_EI m_Page_wordOf kc ks 30 [.int x0] [.retAddr 11] h Q
    exact am_aretC dc_Page_wordOf_30 rfl rfl (by decide) t
  by_cases c2 : x0 = 1
  · refine am_tabIn (x := x0) (tgt := 31) dc_Page_wordOf_1 (by rw [c2]; decide) (by rw [c2]; decide) (by rw [c2]; rfl) (by decide) ?_
    replace t := t.2.1 c2
    refine am_blk_ok (c := 0) (ini := false) (by decide) rfl (fun q => by cases q) bk_Page_wordOf_31_1 _ 33 _ _ _ bk_Page_wordOf_31_1_ok rfl ?_
    show am_EI m_Page_wordOf kc ks 33 [.int x0] [.retAddr 12] h Q
    exact am_aretC dc_Page_wordOf_33 rfl rfl (by decide) t
  by_cases c3 : x0 = 2
  · refine am_tabIn (x := x0) (tgt := 34) dc_Page_wordOf_1 (by rw [c3]; decide) (by rw [c3]; decide) (by rw [c3]; rfl) (by decide) ?_
    replace t := t.2.2.1 c3
    refine am_blk_ok (c := 0) (ini := false) (by decide) rfl (fun q => by cases q) bk_Page_wordOf_34_1 _ 36 _ _ _ bk_Page_wordOf_34_1_ok rfl ?_
    show am_EI m_Page_wordOf kc ks 36 [.int x0] [.retAddr 13] h Q
    exact am_aretC dc_Page_wordOf_36 rfl rfl (by decide) t
  refine am_tabOut (x := x0) (tgt := 37) dc_Page_wordOf_1 (by have e0 := am_ne32 c1; have e1 := am_ne32 c2; have e2 := am_ne32 c3; rw [show (0 : Int32).toInt = 0 from rfl] at e0; rw [show (1 : Int32).toInt = 1 from rfl] at e1; rw [show (2 : Int32).toInt = 2 from rfl] at e2; omega) (by decide) ?_
  replace t := t.2.2.2 c1 c2 c3
  refine am_blk_ok (c := 0) (ini := false) (by decide) rfl (fun q => by cases q) bk_Page_wordOf_37_1 _ 39 _ _ _ bk_Page_wordOf_37_1_ok rfl ?_
  show am_EI m_Page_wordOf kc ks 39 [.int x0] [.retAddr 14] h Q
  exact am_aretC dc_Page_wordOf_39 rfl rfl (by decide) t
set_option maxRecDepth 20000 in
theorem ev_Page_wordOf (x0 : Int32) (h : am_H) (Q : Nat → am_H → Prop) (t : ((x0 = 0 → Q 11 h) ∧ (x0 = 1 → Q 12 h) ∧ (x0 = 2 → Q 13 h) ∧ (¬ x0 = 0 → ¬ x0 = 1 → ¬ x0 = 2 → Q 14 h))) : am_Ec m_Page_wordOf 0 0 [.int x0] h Q :=
  am_Ev.of (by decide +kernel) (Nat.le_of_ble_eq_true rfl) (by simp only [List.mem_cons, List.not_mem_nil, or_false]; intro v hv; rcases hv with rfl; all_goals first | exact trivial) (sg_Page_wordOf_0 (kc := 0) (ks := 0) x0 h (am_qc Q) t)
def bk_Page_writeNote_0_4 : List am_E := [(0, .aload_n 0, 1, 0, 0), (1, .iconst 0, 1, 0, 0), (2, .putfield 13, 3, 4, 0), (5, .aload_n 1, 1, 0, 0)]
theorem bk_Page_writeNote_0_4_ok : bk_Page_writeNote_0_4.all (am_ok 0 false m_Page_writeNote.2.1) = true := by decide +kernel
def bk_Page_writeNote_19_1 : List am_E := [(19, .iload_n 2, 1, 0, 0)]
theorem bk_Page_writeNote_19_1_ok : bk_Page_writeNote_19_1.all (am_ok 0 false m_Page_writeNote.2.1) = true := by decide +kernel
def bk_Page_writeNote_30_2 : List am_E := [(30, .iconst 0, 1, 0, 0), (31, .istore_n 3, 1, 0, 0)]
theorem bk_Page_writeNote_30_2_ok : bk_Page_writeNote_30_2.all (am_ok 0 false m_Page_writeNote.2.1) = true := by decide +kernel
def bk_Page_writeNote_23_2 : List am_E := [(23, .aload_n 0, 1, 0, 0), (24, .ldc 111, 2, 8, 0)]
theorem bk_Page_writeNote_23_2_ok : bk_Page_writeNote_23_2.all (am_ok 0 false m_Page_writeNote.2.1) = true := by decide +kernel
def bk_Page_writeNote_12_2 : List am_E := [(12, .aload_n 0, 1, 0, 0), (13, .ldc 109, 2, 7, 0)]
theorem bk_Page_writeNote_12_2_ok : bk_Page_writeNote_12_2.all (am_ok 0 false m_Page_writeNote.2.1) = true := by decide +kernel
def bk_Page_writeNote_32_2 : List am_E := [(32, .iload_n 3, 1, 0, 0), (33, .aload_n 1, 1, 0, 0)]
theorem bk_Page_writeNote_32_2_ok : bk_Page_writeNote_32_2.all (am_ok 0 false m_Page_writeNote.2.1) = true := by decide +kernel
def bk_Page_writeNote_40_1 : List am_E := [(40, .iload_n 3, 1, 0, 0)]
theorem bk_Page_writeNote_40_1_ok : bk_Page_writeNote_40_1.all (am_ok 0 false m_Page_writeNote.2.1) = true := by decide +kernel
def bk_Page_writeNote_50_3 : List am_E := [(50, .aload_n 0, 1, 0, 0), (51, .aload_n 1, 1, 0, 0), (52, .iload_n 3, 1, 0, 0)]
theorem bk_Page_writeNote_50_3_ok : bk_Page_writeNote_50_3.all (am_ok 0 false m_Page_writeNote.2.1) = true := by decide +kernel
def bk_Page_writeNote_59_2 : List am_E := [(59, .aload_n 1, 1, 0, 0), (60, .iload_n 3, 1, 0, 0)]
theorem bk_Page_writeNote_59_2_ok : bk_Page_writeNote_59_2.all (am_ok 0 false m_Page_writeNote.2.1) = true := by decide +kernel
def bk_Page_writeNote_64_2 : List am_E := [(64, .aload_n 1, 1, 0, 0), (65, .iload_n 3, 1, 0, 0)]
theorem bk_Page_writeNote_64_2_ok : bk_Page_writeNote_64_2.all (am_ok 0 false m_Page_writeNote.2.1) = true := by decide +kernel
def bk_Page_writeNote_87_2 : List am_E := [(87, .iinc 3 1, 3, 0, 1), (90, .goto (-58), 3, 0, -58)]
theorem bk_Page_writeNote_87_2_ok : bk_Page_writeNote_87_2.all (am_ok 0 false m_Page_writeNote.2.1) = true := by decide +kernel
def bk_Page_writeNote_72_2 : List am_E := [(72, .aload_n 0, 1, 0, 0), (73, .bipush 45, 2, 0, 45)]
theorem bk_Page_writeNote_72_2_ok : bk_Page_writeNote_72_2.all (am_ok 0 false m_Page_writeNote.2.1) = true := by decide +kernel
def bk_Page_writeNote_78_3 : List am_E := [(78, .aload_n 0, 1, 0, 0), (79, .aload_n 1, 1, 0, 0), (80, .iload_n 3, 1, 0, 0)]
theorem bk_Page_writeNote_78_3_ok : bk_Page_writeNote_78_3.all (am_ok 0 false m_Page_writeNote.2.1) = true := by decide +kernel
def bk_Page_writeNote_44_2 : List am_E := [(44, .aload_n 0, 1, 0, 0), (45, .ldc 113, 2, 9, 0)]
theorem bk_Page_writeNote_44_2_ok : bk_Page_writeNote_44_2.all (am_ok 0 false m_Page_writeNote.2.1) = true := by decide +kernel
theorem dc_Page_writeNote_6 : decode m_Page_writeNote.2.1 6 = .ok (.invokevirtual 105, 3) := by decide +kernel
theorem dc_Page_writeNote_26 : decode m_Page_writeNote.2.1 26 = .ok (.invokevirtual 35, 3) := by decide +kernel
theorem dc_Page_writeNote_29 : decode m_Page_writeNote.2.1 29 = .ok (.return_, 1) := by decide +kernel
theorem dc_Page_writeNote_20 : decode m_Page_writeNote.2.1 20 = .ok (.ifCond .eq 10, 3) := by decide +kernel
theorem dc_Page_writeNote_15 : decode m_Page_writeNote.2.1 15 = .ok (.invokevirtual 35, 3) := by decide +kernel
theorem dc_Page_writeNote_18 : decode m_Page_writeNote.2.1 18 = .ok (.return_, 1) := by decide +kernel
theorem dc_Page_writeNote_9 : decode m_Page_writeNote.2.1 9 = .ok (.ifCond .ne 10, 3) := by decide +kernel
theorem dc_Page_writeNote_34 : decode m_Page_writeNote.2.1 34 = .ok (.invokevirtual 105, 3) := by decide +kernel
theorem dc_Page_writeNote_93 : decode m_Page_writeNote.2.1 93 = .ok (.return_, 1) := by decide +kernel
theorem dc_Page_writeNote_53 : decode m_Page_writeNote.2.1 53 = .ok (.invokevirtual 115, 3) := by decide +kernel
theorem dc_Page_writeNote_56 : decode m_Page_writeNote.2.1 56 = .ok (.invokevirtual 118, 3) := by decide +kernel
theorem dc_Page_writeNote_61 : decode m_Page_writeNote.2.1 61 = .ok (.invokevirtual 121, 3) := by decide +kernel
theorem dc_Page_writeNote_66 : decode m_Page_writeNote.2.1 66 = .ok (.invokevirtual 115, 3) := by decide +kernel
theorem dc_Page_writeNote_75 : decode m_Page_writeNote.2.1 75 = .ok (.invokevirtual 23, 3) := by decide +kernel
theorem dc_Page_writeNote_81 : decode m_Page_writeNote.2.1 81 = .ok (.invokevirtual 121, 3) := by decide +kernel
theorem dc_Page_writeNote_84 : decode m_Page_writeNote.2.1 84 = .ok (.invokevirtual 118, 3) := by decide +kernel
theorem dc_Page_writeNote_69 : decode m_Page_writeNote.2.1 69 = .ok (.if_icmp .eq 18, 3) := by decide +kernel
theorem dc_Page_writeNote_47 : decode m_Page_writeNote.2.1 47 = .ok (.invokevirtual 35, 3) := by decide +kernel
theorem dc_Page_writeNote_41 : decode m_Page_writeNote.2.1 41 = .ok (.ifCond .le 9, 3) := by decide +kernel
theorem dc_Page_writeNote_37 : decode m_Page_writeNote.2.1 37 = .ok (.if_icmp .ge 56, 3) := by decide +kernel
set_option maxRecDepth 20000 in
theorem sg_Page_writeNote_0 {kc ks : Nat} (a0 a1 : Nat) (x2 : Int32) (h : am_H) (Q : Option Value → am_H → Prop) (t : (am_tg h a0 = (0, 2) ∧ (am_tg h a1 = (8, 4) ∧ (am_Ei m_Spans_size 0 0 [.ref a1] (am_si h a0 1 0) (fun r4 h3 => ((¬ r4 = 0 → ((x2 = 0 → am_EI m_Page_writeNote kc ks 32 [.ref a0, .ref a1, .int x2, .int 0] [] h3 Q) ∧ (¬ x2 = 0 → (am_tg h3 a0 = (0, 2) ∧ (am_Ew m_Page_putText 0 0 [.ref a0, .retAddr 7] h3 (fun h8 => Q none h8)))))) ∧ (r4 = 0 → (am_tg h3 a0 = (0, 2) ∧ (am_Ew m_Page_putText 0 0 [.ref a0, .retAddr 6] h3 (fun h10 => Q none h10)))))))))) : am_EI m_Page_writeNote kc ks 0 [.ref a0, .ref a1, .int x2, .float 0] [] h Q := by
  refine am_blk_ok (c := 0) (ini := false) (by decide) rfl (fun q => by cases q) bk_Page_writeNote_0_4 _ 6 _ _ _ bk_Page_writeNote_0_4_ok rfl ?_
  show (am_tg h a0 = (0, 2) ∧ am_EI m_Page_writeNote kc ks 6 [.ref a0, .ref a1, .int x2, .float 0] [.ref a1] (am_si h a0 1 0) Q)
  obtain ⟨o1, t⟩ := t
  refine ⟨o1, ?_⟩
  obtain ⟨o2, t⟩ := t
  refine am_callV (M2 := m_Spans_size) (ci := 8) (a := a1) (kc := kc) (ks := ks) (k2c := 0) (k2s := 0) (as := []) [] dc_Page_writeNote_6 lk_0_105 im_Spans_size se_Spans_size lm_Spans_size np_Spans_size ⟨Nat.le_of_ble_eq_true rfl, Nat.le_of_ble_eq_true rfl⟩ (fun _ => Nat.le_of_ble_eq_true rfl) (by decide) rfl o2 (am_Ei.end (am_Ei.mono t (fun r4 h3 t => ?_)))
  refine am_if_ne (tgt := 19) dc_Page_writeNote_9 (by decide) (fun c5 => ?_) (fun c5 => ?_)
  · replace t := t.1 c5
    refine am_blk_ok (c := 0) (ini := false) (by decide) rfl (fun q => by cases q) bk_Page_writeNote_19_1 _ 20 _ _ _ bk_Page_writeNote_19_1_ok rfl ?_
    show am_EI m_Page_writeNote kc ks 20 [.ref a0, .ref a1, .int x2, .float 0] [.int x2] h3 Q
    refine am_if_eq (tgt := 30) dc_Page_writeNote_20 (by decide) (fun c6 => ?_) (fun c6 => ?_)
    · replace t := t.1 c6
      refine am_blk_ok (c := 0) (ini := false) (by decide) rfl (fun q => by cases q) bk_Page_writeNote_30_2 _ 32 _ _ _ bk_Page_writeNote_30_2_ok rfl ?_
      show am_EI m_Page_writeNote kc ks 32 [.ref a0, .ref a1, .int x2, .int 0] [] h3 Q
      exact t
    · replace t := t.2 c6
      refine am_blk_ok (c := 0) (ini := false) (by decide) rfl (fun q => by cases q) bk_Page_writeNote_23_2 _ 26 _ _ _ bk_Page_writeNote_23_2_ok rfl ?_
      show am_EI m_Page_writeNote kc ks 26 [.ref a0, .ref a1, .int x2, .float 0] [.retAddr 7, .ref a0] h3 Q
      obtain ⟨o7, t⟩ := t
      refine am_callV (M2 := m_Page_putText) (ci := 0) (a := a0) (kc := kc) (ks := ks) (k2c := 0) (k2s := 0) (as := []) [.retAddr 7] dc_Page_writeNote_26 lk_0_35 im_Page_putText se_Page_putText lm_Page_putText np_Page_putText ⟨Nat.le_of_ble_eq_true rfl, Nat.le_of_ble_eq_true rfl⟩ (fun _ => Nat.le_of_ble_eq_true rfl) (by decide) rfl o7 (am_Ew.end (am_Ew.mono t (fun h8 t => ?_)))
      exact am_vret dc_Page_writeNote_29 rfl t
  · replace t := t.2 c5
    refine am_blk_ok (c := 0) (ini := false) (by decide) rfl (fun q => by cases q) bk_Page_writeNote_12_2 _ 15 _ _ _ bk_Page_writeNote_12_2_ok rfl ?_
    show am_EI m_Page_writeNote kc ks 15 [.ref a0, .ref a1, .int x2, .float 0] [.retAddr 6, .ref a0] h3 Q
    obtain ⟨o9, t⟩ := t
    refine am_callV (M2 := m_Page_putText) (ci := 0) (a := a0) (kc := kc) (ks := ks) (k2c := 0) (k2s := 0) (as := []) [.retAddr 6] dc_Page_writeNote_15 lk_0_35 im_Page_putText se_Page_putText lm_Page_putText np_Page_putText ⟨Nat.le_of_ble_eq_true rfl, Nat.le_of_ble_eq_true rfl⟩ (fun _ => Nat.le_of_ble_eq_true rfl) (by decide) rfl o9 (am_Ew.end (am_Ew.mono t (fun h10 t => ?_)))
    exact am_vret dc_Page_writeNote_18 rfl t
set_option maxRecDepth 20000 in
theorem ev_Page_writeNote (a0 a1 : Nat) (x2 : Int32) (h : am_H) (Q : am_H → Prop) (t : (am_tg h a0 = (0, 2) ∧ (am_tg h a1 = (8, 4) ∧ (am_Ei m_Spans_size 0 0 [.ref a1] (am_si h a0 1 0) (fun r4 h3 => ((¬ r4 = 0 → ((x2 = 0 → am_EI m_Page_writeNote 0 0 32 [.ref a0, .ref a1, .int x2, .int 0] [] h3 (am_qw Q)) ∧ (¬ x2 = 0 → (am_tg h3 a0 = (0, 2) ∧ (am_Ew m_Page_putText 0 0 [.ref a0, .retAddr 7] h3 (fun h8 => Q h8)))))) ∧ (r4 = 0 → (am_tg h3 a0 = (0, 2) ∧ (am_Ew m_Page_putText 0 0 [.ref a0, .retAddr 6] h3 (fun h10 => Q h10)))))))))) : am_Ew m_Page_writeNote 0 0 [.ref a0, .ref a1, .int x2] h Q :=
  am_Ev.of (by decide +kernel) (Nat.le_of_ble_eq_true rfl) (by simp only [List.mem_cons, List.not_mem_nil, or_false]; intro v hv; rcases hv with rfl | rfl | rfl; all_goals first | exact trivial) (sg_Page_writeNote_0 (kc := 0) (ks := 0) a0 a1 x2 h (am_qw Q) t)
set_option maxRecDepth 20000 in
theorem sg_Page_writeNote_32 {kc ks : Nat} (a0 a1 : Nat) (x2 x3 : Int32) (h : am_H) (Q : Option Value → am_H → Prop) (t : (am_tg h a1 = (8, 4) ∧ (am_Ei m_Spans_size 0 0 [.ref a1] h (fun r3 h2 => ((r3 ≤ x3 → Q none h2) ∧ (¬ r3 ≤ x3 → ((x3 ≤ 0 → (am_tg h2 a1 = (8, 4) ∧ (am_Ei m_Spans_firstOf 0 0 [.ref a1, .int x3] h2 (fun r8 h7 => (am_tg h7 a0 = (0, 2) ∧ (am_Ew m_Page_putDayAndTime 0 0 [.ref a0, .int r8] h7 (fun h10 => (am_tg h10 a1 = (8, 4) ∧ (am_Ei m_Spans_lastOf 0 0 [.ref a1, .int x3] h10 (fun r13 h12 => (am_tg h12 a1 = (8, 4) ∧ (am_Ei m_Spans_firstOf 0 0 [.ref a1, .int x3] h12 (fun r16 h15 => ((r13 = r16 → am_EI m_Page_writeNote kc ks 32 [.ref a0, .ref a1, .int x2, .int (x3 + 1)] [] h15 Q) ∧ (¬ r13 = r16 → (am_tg h15 a0 = (0, 2) ∧ (am_Ew m_Page_put 0 0 [.ref a0, .int 45] h15 (fun h19 => (am_tg h19 a1 = (8, 4) ∧ (am_Ei m_Spans_lastOf 0 0 [.ref a1, .int x3] h19 (fun r22 h21 => (am_tg h21 a0 = (0, 2) ∧ (am_Ew m_Page_putDayAndTime 0 0 [.ref a0, .int r22] h21 (fun h24 => am_EI m_Page_writeNote kc ks 32 [.ref a0, .ref a1, .int x2, .int (x3 + 1)] [] h24 Q)))))))))))))))))))))))) ∧ (¬ x3 ≤ 0 → (am_tg h2 a0 = (0, 2) ∧ (am_Ew m_Page_putText 0 0 [.ref a0, .retAddr 8] h2 (fun h26 => (am_tg h26 a1 = (8, 4) ∧ (am_Ei m_Spans_firstOf 0 0 [.ref a1, .int x3] h26 (fun r29 h28 => (am_tg h28 a0 = (0, 2) ∧ (am_Ew m_Page_putDayAndTime 0 0 [.ref a0, .int r29] h28 (fun h31 => (am_tg h31 a1 = (8, 4) ∧ (am_Ei m_Spans_lastOf 0 0 [.ref a1, .int x3] h31 (fun r34 h33 => (am_tg h33 a1 = (8, 4) ∧ (am_Ei m_Spans_firstOf 0 0 [.ref a1, .int x3] h33 (fun r37 h36 => ((r34 = r37 → am_EI m_Page_writeNote kc ks 32 [.ref a0, .ref a1, .int x2, .int (x3 + 1)] [] h36 Q) ∧ (¬ r34 = r37 → (am_tg h36 a0 = (0, 2) ∧ (am_Ew m_Page_put 0 0 [.ref a0, .int 45] h36 (fun h40 => (am_tg h40 a1 = (8, 4) ∧ (am_Ei m_Spans_lastOf 0 0 [.ref a1, .int x3] h40 (fun r43 h42 => (am_tg h42 a0 = (0, 2) ∧ (am_Ew m_Page_putDayAndTime 0 0 [.ref a0, .int r43] h42 (fun h45 => am_EI m_Page_writeNote kc ks 32 [.ref a0, .ref a1, .int x2, .int (x3 + 1)] [] h45 Q)))))))))))))))))))))))))))))))))) : am_EI m_Page_writeNote kc ks 32 [.ref a0, .ref a1, .int x2, .int x3] [] h Q := by
  refine am_blk_ok (c := 0) (ini := false) (by decide) rfl (fun q => by cases q) bk_Page_writeNote_32_2 _ 34 _ _ _ bk_Page_writeNote_32_2_ok rfl ?_
  show am_EI m_Page_writeNote kc ks 34 [.ref a0, .ref a1, .int x2, .int x3] [.ref a1, .int x3] h Q
  obtain ⟨o1, t⟩ := t
  refine am_callV (M2 := m_Spans_size) (ci := 8) (a := a1) (kc := kc) (ks := ks) (k2c := 0) (k2s := 0) (as := [.int x3]) [] dc_Page_writeNote_34 lk_0_105 im_Spans_size se_Spans_size lm_Spans_size np_Spans_size ⟨Nat.le_of_ble_eq_true rfl, Nat.le_of_ble_eq_true rfl⟩ (fun _ => Nat.le_of_ble_eq_true rfl) (by decide) rfl o1 (am_Ei.end (am_Ei.mono t (fun r3 h2 t => ?_)))
  refine am_ic_ge (tgt := 93) dc_Page_writeNote_37 (by decide) (fun c4 => ?_) (fun c4 => ?_)
  · replace t := t.1 c4
    exact am_vret dc_Page_writeNote_93 rfl t
  · replace t := t.2 c4
    refine am_blk_ok (c := 0) (ini := false) (by decide) rfl (fun q => by cases q) bk_Page_writeNote_40_1 _ 41 _ _ _ bk_Page_writeNote_40_1_ok rfl ?_
    show am_EI m_Page_writeNote kc ks 41 [.ref a0, .ref a1, .int x2, .int x3] [.int x3] h2 Q
    refine am_if_le (tgt := 50) dc_Page_writeNote_41 (by decide) (fun c5 => ?_) (fun c5 => ?_)
    · replace t := t.1 c5
      refine am_blk_ok (c := 0) (ini := false) (by decide) rfl (fun q => by cases q) bk_Page_writeNote_50_3 _ 53 _ _ _ bk_Page_writeNote_50_3_ok rfl ?_
      show am_EI m_Page_writeNote kc ks 53 [.ref a0, .ref a1, .int x2, .int x3] [.int x3, .ref a1, .ref a0] h2 Q
      obtain ⟨o6, t⟩ := t
      refine am_callV (M2 := m_Spans_firstOf) (ci := 8) (a := a1) (kc := kc) (ks := ks) (k2c := 0) (k2s := 0) (as := [.ref a0]) [.int x3] dc_Page_writeNote_53 lk_0_115 im_Spans_firstOf se_Spans_firstOf lm_Spans_firstOf np_Spans_firstOf ⟨Nat.le_of_ble_eq_true rfl, Nat.le_of_ble_eq_true rfl⟩ (fun _ => Nat.le_of_ble_eq_true rfl) (by decide) rfl o6 (am_Ei.end (am_Ei.mono t (fun r8 h7 t => ?_)))
      obtain ⟨o9, t⟩ := t
      refine am_callV (M2 := m_Page_putDayAndTime) (ci := 0) (a := a0) (kc := kc) (ks := ks) (k2c := 0) (k2s := 0) (as := []) [.int r8] dc_Page_writeNote_56 lk_0_118 im_Page_putDayAndTime se_Page_putDayAndTime lm_Page_putDayAndTime np_Page_putDayAndTime ⟨Nat.le_of_ble_eq_true rfl, Nat.le_of_ble_eq_true rfl⟩ (fun _ => Nat.le_of_ble_eq_true rfl) (by decide) rfl o9 (am_Ew.end (am_Ew.mono t (fun h10 t => ?_)))
      refine am_blk_ok (c := 0) (ini := false) (by decide) rfl (fun q => by cases q) bk_Page_writeNote_59_2 _ 61 _ _ _ bk_Page_writeNote_59_2_ok rfl ?_
      show am_EI m_Page_writeNote kc ks 61 [.ref a0, .ref a1, .int x2, .int x3] [.int x3, .ref a1] h10 Q
      obtain ⟨o11, t⟩ := t
      refine am_callV (M2 := m_Spans_lastOf) (ci := 8) (a := a1) (kc := kc) (ks := ks) (k2c := 0) (k2s := 0) (as := []) [.int x3] dc_Page_writeNote_61 lk_0_121 im_Spans_lastOf se_Spans_lastOf lm_Spans_lastOf np_Spans_lastOf ⟨Nat.le_of_ble_eq_true rfl, Nat.le_of_ble_eq_true rfl⟩ (fun _ => Nat.le_of_ble_eq_true rfl) (by decide) rfl o11 (am_Ei.end (am_Ei.mono t (fun r13 h12 t => ?_)))
      refine am_blk_ok (c := 0) (ini := false) (by decide) rfl (fun q => by cases q) bk_Page_writeNote_64_2 _ 66 _ _ _ bk_Page_writeNote_64_2_ok rfl ?_
      show am_EI m_Page_writeNote kc ks 66 [.ref a0, .ref a1, .int x2, .int x3] [.int x3, .ref a1, .int r13] h12 Q
      obtain ⟨o14, t⟩ := t
      refine am_callV (M2 := m_Spans_firstOf) (ci := 8) (a := a1) (kc := kc) (ks := ks) (k2c := 0) (k2s := 0) (as := [.int r13]) [.int x3] dc_Page_writeNote_66 lk_0_115 im_Spans_firstOf se_Spans_firstOf lm_Spans_firstOf np_Spans_firstOf ⟨Nat.le_of_ble_eq_true rfl, Nat.le_of_ble_eq_true rfl⟩ (fun _ => Nat.le_of_ble_eq_true rfl) (by decide) rfl o14 (am_Ei.end (am_Ei.mono t (fun r16 h15 t => ?_)))
      refine am_ic_eq (tgt := 87) dc_Page_writeNote_69 (by decide) (fun c17 => ?_) (fun c17 => ?_)
      · replace t := t.1 c17
        refine am_blk_ok (c := 0) (ini := false) (by decide) rfl (fun q => by cases q) bk_Page_writeNote_87_2 _ 32 _ _ _ bk_Page_writeNote_87_2_ok rfl ?_
        show am_EI m_Page_writeNote kc ks 32 [.ref a0, .ref a1, .int x2, .int (x3 + 1)] [] h15 Q
        exact t
      · replace t := t.2 c17
        refine am_blk_ok (c := 0) (ini := false) (by decide) rfl (fun q => by cases q) bk_Page_writeNote_72_2 _ 75 _ _ _ bk_Page_writeNote_72_2_ok rfl ?_
        show am_EI m_Page_writeNote kc ks 75 [.ref a0, .ref a1, .int x2, .int x3] [.int 45, .ref a0] h15 Q
        obtain ⟨o18, t⟩ := t
        refine am_callV (M2 := m_Page_put) (ci := 0) (a := a0) (kc := kc) (ks := ks) (k2c := 0) (k2s := 0) (as := []) [.int 45] dc_Page_writeNote_75 lk_0_23 im_Page_put se_Page_put lm_Page_put np_Page_put ⟨Nat.le_of_ble_eq_true rfl, Nat.le_of_ble_eq_true rfl⟩ (fun _ => Nat.le_of_ble_eq_true rfl) (by decide) rfl o18 (am_Ew.end (am_Ew.mono t (fun h19 t => ?_)))
        refine am_blk_ok (c := 0) (ini := false) (by decide) rfl (fun q => by cases q) bk_Page_writeNote_78_3 _ 81 _ _ _ bk_Page_writeNote_78_3_ok rfl ?_
        show am_EI m_Page_writeNote kc ks 81 [.ref a0, .ref a1, .int x2, .int x3] [.int x3, .ref a1, .ref a0] h19 Q
        obtain ⟨o20, t⟩ := t
        refine am_callV (M2 := m_Spans_lastOf) (ci := 8) (a := a1) (kc := kc) (ks := ks) (k2c := 0) (k2s := 0) (as := [.ref a0]) [.int x3] dc_Page_writeNote_81 lk_0_121 im_Spans_lastOf se_Spans_lastOf lm_Spans_lastOf np_Spans_lastOf ⟨Nat.le_of_ble_eq_true rfl, Nat.le_of_ble_eq_true rfl⟩ (fun _ => Nat.le_of_ble_eq_true rfl) (by decide) rfl o20 (am_Ei.end (am_Ei.mono t (fun r22 h21 t => ?_)))
        obtain ⟨o23, t⟩ := t
        refine am_callV (M2 := m_Page_putDayAndTime) (ci := 0) (a := a0) (kc := kc) (ks := ks) (k2c := 0) (k2s := 0) (as := []) [.int r22] dc_Page_writeNote_84 lk_0_118 im_Page_putDayAndTime se_Page_putDayAndTime lm_Page_putDayAndTime np_Page_putDayAndTime ⟨Nat.le_of_ble_eq_true rfl, Nat.le_of_ble_eq_true rfl⟩ (fun _ => Nat.le_of_ble_eq_true rfl) (by decide) rfl o23 (am_Ew.end (am_Ew.mono t (fun h24 t => ?_)))
        refine am_blk_ok (c := 0) (ini := false) (by decide) rfl (fun q => by cases q) bk_Page_writeNote_87_2 _ 32 _ _ _ bk_Page_writeNote_87_2_ok rfl ?_
        show am_EI m_Page_writeNote kc ks 32 [.ref a0, .ref a1, .int x2, .int (x3 + 1)] [] h24 Q
        exact t
    · replace t := t.2 c5
      refine am_blk_ok (c := 0) (ini := false) (by decide) rfl (fun q => by cases q) bk_Page_writeNote_44_2 _ 47 _ _ _ bk_Page_writeNote_44_2_ok rfl ?_
      show am_EI m_Page_writeNote kc ks 47 [.ref a0, .ref a1, .int x2, .int x3] [.retAddr 8, .ref a0] h2 Q
      obtain ⟨o25, t⟩ := t
      refine am_callV (M2 := m_Page_putText) (ci := 0) (a := a0) (kc := kc) (ks := ks) (k2c := 0) (k2s := 0) (as := []) [.retAddr 8] dc_Page_writeNote_47 lk_0_35 im_Page_putText se_Page_putText lm_Page_putText np_Page_putText ⟨Nat.le_of_ble_eq_true rfl, Nat.le_of_ble_eq_true rfl⟩ (fun _ => Nat.le_of_ble_eq_true rfl) (by decide) rfl o25 (am_Ew.end (am_Ew.mono t (fun h26 t => ?_)))
      refine am_blk_ok (c := 0) (ini := false) (by decide) rfl (fun q => by cases q) bk_Page_writeNote_50_3 _ 53 _ _ _ bk_Page_writeNote_50_3_ok rfl ?_
      show am_EI m_Page_writeNote kc ks 53 [.ref a0, .ref a1, .int x2, .int x3] [.int x3, .ref a1, .ref a0] h26 Q
      obtain ⟨o27, t⟩ := t
      refine am_callV (M2 := m_Spans_firstOf) (ci := 8) (a := a1) (kc := kc) (ks := ks) (k2c := 0) (k2s := 0) (as := [.ref a0]) [.int x3] dc_Page_writeNote_53 lk_0_115 im_Spans_firstOf se_Spans_firstOf lm_Spans_firstOf np_Spans_firstOf ⟨Nat.le_of_ble_eq_true rfl, Nat.le_of_ble_eq_true rfl⟩ (fun _ => Nat.le_of_ble_eq_true rfl) (by decide) rfl o27 (am_Ei.end (am_Ei.mono t (fun r29 h28 t => ?_)))
      obtain ⟨o30, t⟩ := t
      refine am_callV (M2 := m_Page_putDayAndTime) (ci := 0) (a := a0) (kc := kc) (ks := ks) (k2c := 0) (k2s := 0) (as := []) [.int r29] dc_Page_writeNote_56 lk_0_118 im_Page_putDayAndTime se_Page_putDayAndTime lm_Page_putDayAndTime np_Page_putDayAndTime ⟨Nat.le_of_ble_eq_true rfl, Nat.le_of_ble_eq_true rfl⟩ (fun _ => Nat.le_of_ble_eq_true rfl) (by decide) rfl o30 (am_Ew.end (am_Ew.mono t (fun h31 t => ?_)))
      refine am_blk_ok (c := 0) (ini := false) (by decide) rfl (fun q => by cases q) bk_Page_writeNote_59_2 _ 61 _ _ _ bk_Page_writeNote_59_2_ok rfl ?_
      show am_EI m_Page_writeNote kc ks 61 [.ref a0, .ref a1, .int x2, .int x3] [.int x3, .ref a1] h31 Q
      obtain ⟨o32, t⟩ := t
      refine am_callV (M2 := m_Spans_lastOf) (ci := 8) (a := a1) (kc := kc) (ks := ks) (k2c := 0) (k2s := 0) (as := []) [.int x3] dc_Page_writeNote_61 lk_0_121 im_Spans_lastOf se_Spans_lastOf lm_Spans_lastOf np_Spans_lastOf ⟨Nat.le_of_ble_eq_true rfl, Nat.le_of_ble_eq_true rfl⟩ (fun _ => Nat.le_of_ble_eq_true rfl) (by decide) rfl o32 (am_Ei.end (am_Ei.mono t (fun r34 h33 t => ?_)))
      refine am_blk_ok (c := 0) (ini := false) (by decide) rfl (fun q => by cases q) bk_Page_writeNote_64_2 _ 66 _ _ _ bk_Page_writeNote_64_2_ok rfl ?_
      show am_EI m_Page_writeNote kc ks 66 [.ref a0, .ref a1, .int x2, .int x3] [.int x3, .ref a1, .int r34] h33 Q
      obtain ⟨o35, t⟩ := t
      refine am_callV (M2 := m_Spans_firstOf) (ci := 8) (a := a1) (kc := kc) (ks := ks) (k2c := 0) (k2s := 0) (as := [.int r34]) [.int x3] dc_Page_writeNote_66 lk_0_115 im_Spans_firstOf se_Spans_firstOf lm_Spans_firstOf np_Spans_firstOf ⟨Nat.le_of_ble_eq_true rfl, Nat.le_of_ble_eq_true rfl⟩ (fun _ => Nat.le_of_ble_eq_true rfl) (by decide) rfl o35 (am_Ei.end (am_Ei.mono t (fun r37 h36 t => ?_)))
      refine am_ic_eq (tgt := 87) dc_Page_writeNote_69 (by decide) (fun c38 => ?_) (fun c38 => ?_)
      · replace t := t.1 c38
        refine am_blk_ok (c := 0) (ini := false) (by decide) rfl (fun q => by cases q) bk_Page_writeNote_87_2 _ 32 _ _ _ bk_Page_writeNote_87_2_ok rfl ?_
        show am_EI m_Page_writeNote kc ks 32 [.ref a0, .ref a1, .int x2, .int (x3 + 1)] [] h36 Q
        exact t
      · replace t := t.2 c38
        refine am_blk_ok (c := 0) (ini := false) (by decide) rfl (fun q => by cases q) bk_Page_writeNote_72_2 _ 75 _ _ _ bk_Page_writeNote_72_2_ok rfl ?_
        show am_EI m_Page_writeNote kc ks 75 [.ref a0, .ref a1, .int x2, .int x3] [.int 45, .ref a0] h36 Q
        obtain ⟨o39, t⟩ := t
        refine am_callV (M2 := m_Page_put) (ci := 0) (a := a0) (kc := kc) (ks := ks) (k2c := 0) (k2s := 0) (as := []) [.int 45] dc_Page_writeNote_75 lk_0_23 im_Page_put se_Page_put lm_Page_put np_Page_put ⟨Nat.le_of_ble_eq_true rfl, Nat.le_of_ble_eq_true rfl⟩ (fun _ => Nat.le_of_ble_eq_true rfl) (by decide) rfl o39 (am_Ew.end (am_Ew.mono t (fun h40 t => ?_)))
        refine am_blk_ok (c := 0) (ini := false) (by decide) rfl (fun q => by cases q) bk_Page_writeNote_78_3 _ 81 _ _ _ bk_Page_writeNote_78_3_ok rfl ?_
        show am_EI m_Page_writeNote kc ks 81 [.ref a0, .ref a1, .int x2, .int x3] [.int x3, .ref a1, .ref a0] h40 Q
        obtain ⟨o41, t⟩ := t
        refine am_callV (M2 := m_Spans_lastOf) (ci := 8) (a := a1) (kc := kc) (ks := ks) (k2c := 0) (k2s := 0) (as := [.ref a0]) [.int x3] dc_Page_writeNote_81 lk_0_121 im_Spans_lastOf se_Spans_lastOf lm_Spans_lastOf np_Spans_lastOf ⟨Nat.le_of_ble_eq_true rfl, Nat.le_of_ble_eq_true rfl⟩ (fun _ => Nat.le_of_ble_eq_true rfl) (by decide) rfl o41 (am_Ei.end (am_Ei.mono t (fun r43 h42 t => ?_)))
        obtain ⟨o44, t⟩ := t
        refine am_callV (M2 := m_Page_putDayAndTime) (ci := 0) (a := a0) (kc := kc) (ks := ks) (k2c := 0) (k2s := 0) (as := []) [.int r43] dc_Page_writeNote_84 lk_0_118 im_Page_putDayAndTime se_Page_putDayAndTime lm_Page_putDayAndTime np_Page_putDayAndTime ⟨Nat.le_of_ble_eq_true rfl, Nat.le_of_ble_eq_true rfl⟩ (fun _ => Nat.le_of_ble_eq_true rfl) (by decide) rfl o44 (am_Ew.end (am_Ew.mono t (fun h45 t => ?_)))
        refine am_blk_ok (c := 0) (ini := false) (by decide) rfl (fun q => by cases q) bk_Page_writeNote_87_2 _ 32 _ _ _ bk_Page_writeNote_87_2_ok rfl ?_
        show am_EI m_Page_writeNote kc ks 32 [.ref a0, .ref a1, .int x2, .int (x3 + 1)] [] h45 Q
        exact t
def bk_Page_writePort_0_4 : List am_E := [(0, .aload_n 0, 1, 0, 0), (1, .iconst 0, 1, 0, 0), (2, .putfield 13, 3, 4, 0), (5, .aload_n 1, 1, 0, 0)]
theorem bk_Page_writePort_0_4_ok : bk_Page_writePort_0_4.all (am_ok 0 false m_Page_writePort.2.1) = true := by decide +kernel
def bk_Page_writePort_10_2 : List am_E := [(10, .iconst 0, 1, 0, 0), (11, .istore_n 2, 1, 0, 0)]
theorem bk_Page_writePort_10_2_ok : bk_Page_writePort_10_2.all (am_ok 0 false m_Page_writePort.2.1) = true := by decide +kernel
def bk_Page_writePort_12_2 : List am_E := [(12, .iload_n 2, 1, 0, 0), (13, .aload_n 1, 1, 0, 0)]
theorem bk_Page_writePort_12_2_ok : bk_Page_writePort_12_2.all (am_ok 0 false m_Page_writePort.2.1) = true := by decide +kernel
def bk_Page_writePort_20_1 : List am_E := [(20, .iload_n 2, 1, 0, 0)]
theorem bk_Page_writePort_20_1_ok : bk_Page_writePort_20_1.all (am_ok 0 false m_Page_writePort.2.1) = true := by decide +kernel
def bk_Page_writePort_30_3 : List am_E := [(30, .aload_n 0, 1, 0, 0), (31, .aload_n 1, 1, 0, 0), (32, .iload_n 2, 1, 0, 0)]
theorem bk_Page_writePort_30_3_ok : bk_Page_writePort_30_3.all (am_ok 0 false m_Page_writePort.2.1) = true := by decide +kernel
def bk_Page_writePort_44_1 : List am_E := [(44, .ldc 33, 2, 11, 0)]
theorem bk_Page_writePort_44_1_ok : bk_Page_writePort_44_1.all (am_ok 0 false m_Page_writePort.2.1) = true := by decide +kernel
def bk_Page_writePort_49_3 : List am_E := [(49, .aload_n 0, 1, 0, 0), (50, .aload_n 1, 1, 0, 0), (51, .iload_n 2, 1, 0, 0)]
theorem bk_Page_writePort_49_3_ok : bk_Page_writePort_49_3.all (am_ok 0 false m_Page_writePort.2.1) = true := by decide +kernel
def bk_Page_writePort_58_2 : List am_E := [(58, .aload_n 0, 1, 0, 0), (59, .bipush 32, 2, 0, 32)]
theorem bk_Page_writePort_58_2_ok : bk_Page_writePort_58_2.all (am_ok 0 false m_Page_writePort.2.1) = true := by decide +kernel
def bk_Page_writePort_64_3 : List am_E := [(64, .aload_n 0, 1, 0, 0), (65, .aload_n 1, 1, 0, 0), (66, .iload_n 2, 1, 0, 0)]
theorem bk_Page_writePort_64_3_ok : bk_Page_writePort_64_3.all (am_ok 0 false m_Page_writePort.2.1) = true := by decide +kernel
def bk_Page_writePort_73_2 : List am_E := [(73, .iinc 2 1, 3, 0, 1), (76, .goto (-64), 3, 0, -64)]
theorem bk_Page_writePort_73_2_ok : bk_Page_writePort_73_2.all (am_ok 0 false m_Page_writePort.2.1) = true := by decide +kernel
def bk_Page_writePort_39_2 : List am_E := [(39, .ldc 31, 2, 10, 0), (41, .goto 5, 3, 0, 5)]
theorem bk_Page_writePort_39_2_ok : bk_Page_writePort_39_2.all (am_ok 0 false m_Page_writePort.2.1) = true := by decide +kernel
def bk_Page_writePort_24_2 : List am_E := [(24, .aload_n 0, 1, 0, 0), (25, .bipush 44, 2, 0, 44)]
theorem bk_Page_writePort_24_2_ok : bk_Page_writePort_24_2.all (am_ok 0 false m_Page_writePort.2.1) = true := by decide +kernel
theorem dc_Page_writePort_6 : decode m_Page_writePort.2.1 6 = .ok (.ifnonnull 4, 3) := by decide +kernel
theorem dc_Page_writePort_14 : decode m_Page_writePort.2.1 14 = .ok (.invokevirtual 17, 3) := by decide +kernel
theorem dc_Page_writePort_79 : decode m_Page_writePort.2.1 79 = .ok (.return_, 1) := by decide +kernel
theorem dc_Page_writePort_33 : decode m_Page_writePort.2.1 33 = .ok (.invokevirtual 27, 3) := by decide +kernel
theorem dc_Page_writePort_46 : decode m_Page_writePort.2.1 46 = .ok (.invokevirtual 35, 3) := by decide +kernel
theorem dc_Page_writePort_52 : decode m_Page_writePort.2.1 52 = .ok (.invokevirtual 39, 3) := by decide +kernel
theorem dc_Page_writePort_55 : decode m_Page_writePort.2.1 55 = .ok (.invokevirtual 43, 3) := by decide +kernel
theorem dc_Page_writePort_61 : decode m_Page_writePort.2.1 61 = .ok (.invokevirtual 23, 3) := by decide +kernel
theorem dc_Page_writePort_67 : decode m_Page_writePort.2.1 67 = .ok (.invokevirtual 47, 3) := by decide +kernel
theorem dc_Page_writePort_70 : decode m_Page_writePort.2.1 70 = .ok (.invokevirtual 50, 3) := by decide +kernel
theorem dc_Page_writePort_36 : decode m_Page_writePort.2.1 36 = .ok (.ifCond .eq 8, 3) := by decide +kernel
theorem dc_Page_writePort_27 : decode m_Page_writePort.2.1 27 = .ok (.invokevirtual 23, 3) := by decide +kernel
theorem dc_Page_writePort_21 : decode m_Page_writePort.2.1 21 = .ok (.ifCond .le 9, 3) := by decide +kernel
theorem dc_Page_writePort_17 : decode m_Page_writePort.2.1 17 = .ok (.if_icmp .ge 62, 3) := by decide +kernel
set_option maxRecDepth 20000 in
theorem sg_Page_writePort_0 {kc ks : Nat} (a0 a1 : Nat) (h : am_H) (Q : Option Value → am_H → Prop) (t : (am_tg h a0 = (0, 2) ∧ am_EI m_Page_writePort kc ks 12 [.ref a0, .ref a1, .int 0] [] (am_si h a0 1 0) Q)) : am_EI m_Page_writePort kc ks 0 [.ref a0, .ref a1, .float 0] [] h Q := by
  refine am_blk_ok (c := 0) (ini := false) (by decide) rfl (fun q => by cases q) bk_Page_writePort_0_4 _ 6 _ _ _ bk_Page_writePort_0_4_ok rfl ?_
  show (am_tg h a0 = (0, 2) ∧ am_EI m_Page_writePort kc ks 6 [.ref a0, .ref a1, .float 0] [.ref a1] (am_si h a0 1 0) Q)
  obtain ⟨o1, t⟩ := t
  refine ⟨o1, ?_⟩
  refine am_ifnonnull (tgt := 10) dc_Page_writePort_6 (by decide) ?_
  refine am_blk_ok (c := 0) (ini := false) (by decide) rfl (fun q => by cases q) bk_Page_writePort_10_2 _ 12 _ _ _ bk_Page_writePort_10_2_ok rfl ?_
  show am_EI m_Page_writePort kc ks 12 [.ref a0, .ref a1, .int 0] [] (am_si h a0 1 0) Q
  exact t
set_option maxRecDepth 20000 in
theorem ev_Page_writePort (a0 a1 : Nat) (h : am_H) (Q : am_H → Prop) (t : (am_tg h a0 = (0, 2) ∧ am_EI m_Page_writePort 0 0 12 [.ref a0, .ref a1, .int 0] [] (am_si h a0 1 0) (am_qw Q))) : am_Ew m_Page_writePort 0 0 [.ref a0, .ref a1] h Q :=
  am_Ev.of (by decide +kernel) (Nat.le_of_ble_eq_true rfl) (by simp only [List.mem_cons, List.not_mem_nil, or_false]; intro v hv; rcases hv with rfl | rfl; all_goals first | exact trivial) (sg_Page_writePort_0 (kc := 0) (ks := 0) a0 a1 h (am_qw Q) t)
set_option maxRecDepth 20000 in
theorem sg_Page_writePort_12 {kc ks : Nat} (a0 a1 : Nat) (x2 : Int32) (h : am_H) (Q : Option Value → am_H → Prop) (t : (am_tg h a1 = (2, 5) ∧ (am_Ei m_Port_turnCount 0 0 [.ref a1] h (fun r3 h2 => ((r3 ≤ x2 → Q none h2) ∧ (¬ r3 ≤ x2 → ((x2 ≤ 0 → (am_tg h2 a1 = (2, 5) ∧ (am_Ei m_Port_isHigh 0 0 [.ref a1, .int x2] h2 (fun r8 h7 => ((r8 = 0 → (am_tg h7 a0 = (0, 2) ∧ (am_Ew m_Page_putText 0 0 [.ref a0, .retAddr 10] h7 (fun h11 => (am_tg h11 a1 = (2, 5) ∧ (am_Ei m_Port_minuteOf 0 0 [.ref a1, .int x2] h11 (fun r14 h13 => (am_tg h13 a0 = (0, 2) ∧ (am_Ew m_Page_putTime 0 0 [.ref a0, .int r14] h13 (fun h16 => (am_tg h16 a0 = (0, 2) ∧ (am_Ew m_Page_put 0 0 [.ref a0, .int 32] h16 (fun h18 => (am_tg h18 a1 = (2, 5) ∧ (am_Ei m_Port_heightOf 0 0 [.ref a1, .int x2] h18 (fun r21 h20 => (am_tg h20 a0 = (0, 2) ∧ (am_Ew m_Page_putNumber 0 0 [.ref a0, .int r21] h20 (fun h23 => am_EI m_Page_writePort kc ks 12 [.ref a0, .ref a1, .int (x2 + 1)] [] h23 Q))))))))))))))))))) ∧ (¬ r8 = 0 → (am_tg h7 a0 = (0, 2) ∧ (am_Ew m_Page_putText 0 0 [.ref a0, .retAddr 9] h7 (fun h25 => (am_tg h25 a1 = (2, 5) ∧ (am_Ei m_Port_minuteOf 0 0 [.ref a1, .int x2] h25 (fun r28 h27 => (am_tg h27 a0 = (0, 2) ∧ (am_Ew m_Page_putTime 0 0 [.ref a0, .int r28] h27 (fun h30 => (am_tg h30 a0 = (0, 2) ∧ (am_Ew m_Page_put 0 0 [.ref a0, .int 32] h30 (fun h32 => (am_tg h32 a1 = (2, 5) ∧ (am_Ei m_Port_heightOf 0 0 [.ref a1, .int x2] h32 (fun r35 h34 => (am_tg h34 a0 = (0, 2) ∧ (am_Ew m_Page_putNumber 0 0 [.ref a0, .int r35] h34 (fun h37 => am_EI m_Page_writePort kc ks 12 [.ref a0, .ref a1, .int (x2 + 1)] [] h37 Q)))))))))))))))))))))))) ∧ (¬ x2 ≤ 0 → (am_tg h2 a0 = (0, 2) ∧ (am_Ew m_Page_put 0 0 [.ref a0, .int 44] h2 (fun h39 => (am_tg h39 a1 = (2, 5) ∧ (am_Ei m_Port_isHigh 0 0 [.ref a1, .int x2] h39 (fun r42 h41 => ((r42 = 0 → (am_tg h41 a0 = (0, 2) ∧ (am_Ew m_Page_putText 0 0 [.ref a0, .retAddr 10] h41 (fun h45 => (am_tg h45 a1 = (2, 5) ∧ (am_Ei m_Port_minuteOf 0 0 [.ref a1, .int x2] h45 (fun r48 h47 => (am_tg h47 a0 = (0, 2) ∧ (am_Ew m_Page_putTime 0 0 [.ref a0, .int r48] h47 (fun h50 => (am_tg h50 a0 = (0, 2) ∧ (am_Ew m_Page_put 0 0 [.ref a0, .int 32] h50 (fun h52 => (am_tg h52 a1 = (2, 5) ∧ (am_Ei m_Port_heightOf 0 0 [.ref a1, .int x2] h52 (fun r55 h54 => (am_tg h54 a0 = (0, 2) ∧ (am_Ew m_Page_putNumber 0 0 [.ref a0, .int r55] h54 (fun h57 => am_EI m_Page_writePort kc ks 12 [.ref a0, .ref a1, .int (x2 + 1)] [] h57 Q))))))))))))))))))) ∧ (¬ r42 = 0 → (am_tg h41 a0 = (0, 2) ∧ (am_Ew m_Page_putText 0 0 [.ref a0, .retAddr 9] h41 (fun h59 => (am_tg h59 a1 = (2, 5) ∧ (am_Ei m_Port_minuteOf 0 0 [.ref a1, .int x2] h59 (fun r62 h61 => (am_tg h61 a0 = (0, 2) ∧ (am_Ew m_Page_putTime 0 0 [.ref a0, .int r62] h61 (fun h64 => (am_tg h64 a0 = (0, 2) ∧ (am_Ew m_Page_put 0 0 [.ref a0, .int 32] h64 (fun h66 => (am_tg h66 a1 = (2, 5) ∧ (am_Ei m_Port_heightOf 0 0 [.ref a1, .int x2] h66 (fun r69 h68 => (am_tg h68 a0 = (0, 2) ∧ (am_Ew m_Page_putNumber 0 0 [.ref a0, .int r69] h68 (fun h71 => am_EI m_Page_writePort kc ks 12 [.ref a0, .ref a1, .int (x2 + 1)] [] h71 Q)))))))))))))))))))))))))))))))))) : am_EI m_Page_writePort kc ks 12 [.ref a0, .ref a1, .int x2] [] h Q := by
  refine am_blk_ok (c := 0) (ini := false) (by decide) rfl (fun q => by cases q) bk_Page_writePort_12_2 _ 14 _ _ _ bk_Page_writePort_12_2_ok rfl ?_
  show am_EI m_Page_writePort kc ks 14 [.ref a0, .ref a1, .int x2] [.ref a1, .int x2] h Q
  obtain ⟨o1, t⟩ := t
  refine am_callV (M2 := m_Port_turnCount) (ci := 2) (a := a1) (kc := kc) (ks := ks) (k2c := 0) (k2s := 0) (as := [.int x2]) [] dc_Page_writePort_14 lk_0_17 im_Port_turnCount se_Port_turnCount lm_Port_turnCount np_Port_turnCount ⟨Nat.le_of_ble_eq_true rfl, Nat.le_of_ble_eq_true rfl⟩ (fun _ => Nat.le_of_ble_eq_true rfl) (by decide) rfl o1 (am_Ei.end (am_Ei.mono t (fun r3 h2 t => ?_)))
  refine am_ic_ge (tgt := 79) dc_Page_writePort_17 (by decide) (fun c4 => ?_) (fun c4 => ?_)
  · replace t := t.1 c4
    exact am_vret dc_Page_writePort_79 rfl t
  · replace t := t.2 c4
    refine am_blk_ok (c := 0) (ini := false) (by decide) rfl (fun q => by cases q) bk_Page_writePort_20_1 _ 21 _ _ _ bk_Page_writePort_20_1_ok rfl ?_
    show am_EI m_Page_writePort kc ks 21 [.ref a0, .ref a1, .int x2] [.int x2] h2 Q
    refine am_if_le (tgt := 30) dc_Page_writePort_21 (by decide) (fun c5 => ?_) (fun c5 => ?_)
    · replace t := t.1 c5
      refine am_blk_ok (c := 0) (ini := false) (by decide) rfl (fun q => by cases q) bk_Page_writePort_30_3 _ 33 _ _ _ bk_Page_writePort_30_3_ok rfl ?_
      show am_EI m_Page_writePort kc ks 33 [.ref a0, .ref a1, .int x2] [.int x2, .ref a1, .ref a0] h2 Q
      obtain ⟨o6, t⟩ := t
      refine am_callV (M2 := m_Port_isHigh) (ci := 2) (a := a1) (kc := kc) (ks := ks) (k2c := 0) (k2s := 0) (as := [.ref a0]) [.int x2] dc_Page_writePort_33 lk_0_27 im_Port_isHigh se_Port_isHigh lm_Port_isHigh np_Port_isHigh ⟨Nat.le_of_ble_eq_true rfl, Nat.le_of_ble_eq_true rfl⟩ (fun _ => Nat.le_of_ble_eq_true rfl) (by decide) rfl o6 (am_Ei.end (am_Ei.mono t (fun r8 h7 t => ?_)))
      refine am_if_eq (tgt := 44) dc_Page_writePort_36 (by decide) (fun c9 => ?_) (fun c9 => ?_)
      · replace t := t.1 c9
        refine am_blk_ok (c := 0) (ini := false) (by decide) rfl (fun q => by cases q) bk_Page_writePort_44_1 _ 46 _ _ _ bk_Page_writePort_44_1_ok rfl ?_
        show am_EI m_Page_writePort kc ks 46 [.ref a0, .ref a1, .int x2] [.retAddr 10, .ref a0] h7 Q
        obtain ⟨o10, t⟩ := t
        refine am_callV (M2 := m_Page_putText) (ci := 0) (a := a0) (kc := kc) (ks := ks) (k2c := 0) (k2s := 0) (as := []) [.retAddr 10] dc_Page_writePort_46 lk_0_35 im_Page_putText se_Page_putText lm_Page_putText np_Page_putText ⟨Nat.le_of_ble_eq_true rfl, Nat.le_of_ble_eq_true rfl⟩ (fun _ => Nat.le_of_ble_eq_true rfl) (by decide) rfl o10 (am_Ew.end (am_Ew.mono t (fun h11 t => ?_)))
        refine am_blk_ok (c := 0) (ini := false) (by decide) rfl (fun q => by cases q) bk_Page_writePort_49_3 _ 52 _ _ _ bk_Page_writePort_49_3_ok rfl ?_
        show am_EI m_Page_writePort kc ks 52 [.ref a0, .ref a1, .int x2] [.int x2, .ref a1, .ref a0] h11 Q
        obtain ⟨o12, t⟩ := t
        refine am_callV (M2 := m_Port_minuteOf) (ci := 2) (a := a1) (kc := kc) (ks := ks) (k2c := 0) (k2s := 0) (as := [.ref a0]) [.int x2] dc_Page_writePort_52 lk_0_39 im_Port_minuteOf se_Port_minuteOf lm_Port_minuteOf np_Port_minuteOf ⟨Nat.le_of_ble_eq_true rfl, Nat.le_of_ble_eq_true rfl⟩ (fun _ => Nat.le_of_ble_eq_true rfl) (by decide) rfl o12 (am_Ei.end (am_Ei.mono t (fun r14 h13 t => ?_)))
        obtain ⟨o15, t⟩ := t
        refine am_callV (M2 := m_Page_putTime) (ci := 0) (a := a0) (kc := kc) (ks := ks) (k2c := 0) (k2s := 0) (as := []) [.int r14] dc_Page_writePort_55 lk_0_43 im_Page_putTime se_Page_putTime lm_Page_putTime np_Page_putTime ⟨Nat.le_of_ble_eq_true rfl, Nat.le_of_ble_eq_true rfl⟩ (fun _ => Nat.le_of_ble_eq_true rfl) (by decide) rfl o15 (am_Ew.end (am_Ew.mono t (fun h16 t => ?_)))
        refine am_blk_ok (c := 0) (ini := false) (by decide) rfl (fun q => by cases q) bk_Page_writePort_58_2 _ 61 _ _ _ bk_Page_writePort_58_2_ok rfl ?_
        show am_EI m_Page_writePort kc ks 61 [.ref a0, .ref a1, .int x2] [.int 32, .ref a0] h16 Q
        obtain ⟨o17, t⟩ := t
        refine am_callV (M2 := m_Page_put) (ci := 0) (a := a0) (kc := kc) (ks := ks) (k2c := 0) (k2s := 0) (as := []) [.int 32] dc_Page_writePort_61 lk_0_23 im_Page_put se_Page_put lm_Page_put np_Page_put ⟨Nat.le_of_ble_eq_true rfl, Nat.le_of_ble_eq_true rfl⟩ (fun _ => Nat.le_of_ble_eq_true rfl) (by decide) rfl o17 (am_Ew.end (am_Ew.mono t (fun h18 t => ?_)))
        refine am_blk_ok (c := 0) (ini := false) (by decide) rfl (fun q => by cases q) bk_Page_writePort_64_3 _ 67 _ _ _ bk_Page_writePort_64_3_ok rfl ?_
        show am_EI m_Page_writePort kc ks 67 [.ref a0, .ref a1, .int x2] [.int x2, .ref a1, .ref a0] h18 Q
        obtain ⟨o19, t⟩ := t
        refine am_callV (M2 := m_Port_heightOf) (ci := 2) (a := a1) (kc := kc) (ks := ks) (k2c := 0) (k2s := 0) (as := [.ref a0]) [.int x2] dc_Page_writePort_67 lk_0_47 im_Port_heightOf se_Port_heightOf lm_Port_heightOf np_Port_heightOf ⟨Nat.le_of_ble_eq_true rfl, Nat.le_of_ble_eq_true rfl⟩ (fun _ => Nat.le_of_ble_eq_true rfl) (by decide) rfl o19 (am_Ei.end (am_Ei.mono t (fun r21 h20 t => ?_)))
        obtain ⟨o22, t⟩ := t
        refine am_callV (M2 := m_Page_putNumber) (ci := 0) (a := a0) (kc := kc) (ks := ks) (k2c := 0) (k2s := 0) (as := []) [.int r21] dc_Page_writePort_70 lk_0_50 im_Page_putNumber se_Page_putNumber lm_Page_putNumber np_Page_putNumber ⟨Nat.le_of_ble_eq_true rfl, Nat.le_of_ble_eq_true rfl⟩ (fun _ => Nat.le_of_ble_eq_true rfl) (by decide) rfl o22 (am_Ew.end (am_Ew.mono t (fun h23 t => ?_)))
        refine am_blk_ok (c := 0) (ini := false) (by decide) rfl (fun q => by cases q) bk_Page_writePort_73_2 _ 12 _ _ _ bk_Page_writePort_73_2_ok rfl ?_
        show am_EI m_Page_writePort kc ks 12 [.ref a0, .ref a1, .int (x2 + 1)] [] h23 Q
        exact t
      · replace t := t.2 c9
        refine am_blk_ok (c := 0) (ini := false) (by decide) rfl (fun q => by cases q) bk_Page_writePort_39_2 _ 46 _ _ _ bk_Page_writePort_39_2_ok rfl ?_
        show am_EI m_Page_writePort kc ks 46 [.ref a0, .ref a1, .int x2] [.retAddr 9, .ref a0] h7 Q
        obtain ⟨o24, t⟩ := t
        refine am_callV (M2 := m_Page_putText) (ci := 0) (a := a0) (kc := kc) (ks := ks) (k2c := 0) (k2s := 0) (as := []) [.retAddr 9] dc_Page_writePort_46 lk_0_35 im_Page_putText se_Page_putText lm_Page_putText np_Page_putText ⟨Nat.le_of_ble_eq_true rfl, Nat.le_of_ble_eq_true rfl⟩ (fun _ => Nat.le_of_ble_eq_true rfl) (by decide) rfl o24 (am_Ew.end (am_Ew.mono t (fun h25 t => ?_)))
        refine am_blk_ok (c := 0) (ini := false) (by decide) rfl (fun q => by cases q) bk_Page_writePort_49_3 _ 52 _ _ _ bk_Page_writePort_49_3_ok rfl ?_
        show am_EI m_Page_writePort kc ks 52 [.ref a0, .ref a1, .int x2] [.int x2, .ref a1, .ref a0] h25 Q
        obtain ⟨o26, t⟩ := t
        refine am_callV (M2 := m_Port_minuteOf) (ci := 2) (a := a1) (kc := kc) (ks := ks) (k2c := 0) (k2s := 0) (as := [.ref a0]) [.int x2] dc_Page_writePort_52 lk_0_39 im_Port_minuteOf se_Port_minuteOf lm_Port_minuteOf np_Port_minuteOf ⟨Nat.le_of_ble_eq_true rfl, Nat.le_of_ble_eq_true rfl⟩ (fun _ => Nat.le_of_ble_eq_true rfl) (by decide) rfl o26 (am_Ei.end (am_Ei.mono t (fun r28 h27 t => ?_)))
        obtain ⟨o29, t⟩ := t
        refine am_callV (M2 := m_Page_putTime) (ci := 0) (a := a0) (kc := kc) (ks := ks) (k2c := 0) (k2s := 0) (as := []) [.int r28] dc_Page_writePort_55 lk_0_43 im_Page_putTime se_Page_putTime lm_Page_putTime np_Page_putTime ⟨Nat.le_of_ble_eq_true rfl, Nat.le_of_ble_eq_true rfl⟩ (fun _ => Nat.le_of_ble_eq_true rfl) (by decide) rfl o29 (am_Ew.end (am_Ew.mono t (fun h30 t => ?_)))
        refine am_blk_ok (c := 0) (ini := false) (by decide) rfl (fun q => by cases q) bk_Page_writePort_58_2 _ 61 _ _ _ bk_Page_writePort_58_2_ok rfl ?_
        show am_EI m_Page_writePort kc ks 61 [.ref a0, .ref a1, .int x2] [.int 32, .ref a0] h30 Q
        obtain ⟨o31, t⟩ := t
        refine am_callV (M2 := m_Page_put) (ci := 0) (a := a0) (kc := kc) (ks := ks) (k2c := 0) (k2s := 0) (as := []) [.int 32] dc_Page_writePort_61 lk_0_23 im_Page_put se_Page_put lm_Page_put np_Page_put ⟨Nat.le_of_ble_eq_true rfl, Nat.le_of_ble_eq_true rfl⟩ (fun _ => Nat.le_of_ble_eq_true rfl) (by decide) rfl o31 (am_Ew.end (am_Ew.mono t (fun h32 t => ?_)))
        refine am_blk_ok (c := 0) (ini := false) (by decide) rfl (fun q => by cases q) bk_Page_writePort_64_3 _ 67 _ _ _ bk_Page_writePort_64_3_ok rfl ?_
        show am_EI m_Page_writePort kc ks 67 [.ref a0, .ref a1, .int x2] [.int x2, .ref a1, .ref a0] h32 Q
        obtain ⟨o33, t⟩ := t
        refine am_callV (M2 := m_Port_heightOf) (ci := 2) (a := a1) (kc := kc) (ks := ks) (k2c := 0) (k2s := 0) (as := [.ref a0]) [.int x2] dc_Page_writePort_67 lk_0_47 im_Port_heightOf se_Port_heightOf lm_Port_heightOf np_Port_heightOf ⟨Nat.le_of_ble_eq_true rfl, Nat.le_of_ble_eq_true rfl⟩ (fun _ => Nat.le_of_ble_eq_true rfl) (by decide) rfl o33 (am_Ei.end (am_Ei.mono t (fun r35 h34 t => ?_)))
        obtain ⟨o36, t⟩ := t
        refine am_callV (M2 := m_Page_putNumber) (ci := 0) (a := a0) (kc := kc) (ks := ks) (k2c := 0) (k2s := 0) (as := []) [.int r35] dc_Page_writePort_70 lk_0_50 im_Page_putNumber se_Page_putNumber lm_Page_putNumber np_Page_putNumber ⟨Nat.le_of_ble_eq_true rfl, Nat.le_of_ble_eq_true rfl⟩ (fun _ => Nat.le_of_ble_eq_true rfl) (by decide) rfl o36 (am_Ew.end (am_Ew.mono t (fun h37 t => ?_)))
        refine am_blk_ok (c := 0) (ini := false) (by decide) rfl (fun q => by cases q) bk_Page_writePort_73_2 _ 12 _ _ _ bk_Page_writePort_73_2_ok rfl ?_
        show am_EI m_Page_writePort kc ks 12 [.ref a0, .ref a1, .int (x2 + 1)] [] h37 Q
        exact t
    · replace t := t.2 c5
      refine am_blk_ok (c := 0) (ini := false) (by decide) rfl (fun q => by cases q) bk_Page_writePort_24_2 _ 27 _ _ _ bk_Page_writePort_24_2_ok rfl ?_
      show am_EI m_Page_writePort kc ks 27 [.ref a0, .ref a1, .int x2] [.int 44, .ref a0] h2 Q
      obtain ⟨o38, t⟩ := t
      refine am_callV (M2 := m_Page_put) (ci := 0) (a := a0) (kc := kc) (ks := ks) (k2c := 0) (k2s := 0) (as := []) [.int 44] dc_Page_writePort_27 lk_0_23 im_Page_put se_Page_put lm_Page_put np_Page_put ⟨Nat.le_of_ble_eq_true rfl, Nat.le_of_ble_eq_true rfl⟩ (fun _ => Nat.le_of_ble_eq_true rfl) (by decide) rfl o38 (am_Ew.end (am_Ew.mono t (fun h39 t => ?_)))
      refine am_blk_ok (c := 0) (ini := false) (by decide) rfl (fun q => by cases q) bk_Page_writePort_30_3 _ 33 _ _ _ bk_Page_writePort_30_3_ok rfl ?_
      show am_EI m_Page_writePort kc ks 33 [.ref a0, .ref a1, .int x2] [.int x2, .ref a1, .ref a0] h39 Q
      obtain ⟨o40, t⟩ := t
      refine am_callV (M2 := m_Port_isHigh) (ci := 2) (a := a1) (kc := kc) (ks := ks) (k2c := 0) (k2s := 0) (as := [.ref a0]) [.int x2] dc_Page_writePort_33 lk_0_27 im_Port_isHigh se_Port_isHigh lm_Port_isHigh np_Port_isHigh ⟨Nat.le_of_ble_eq_true rfl, Nat.le_of_ble_eq_true rfl⟩ (fun _ => Nat.le_of_ble_eq_true rfl) (by decide) rfl o40 (am_Ei.end (am_Ei.mono t (fun r42 h41 t => ?_)))
      refine am_if_eq (tgt := 44) dc_Page_writePort_36 (by decide) (fun c43 => ?_) (fun c43 => ?_)
      · replace t := t.1 c43
        refine am_blk_ok (c := 0) (ini := false) (by decide) rfl (fun q => by cases q) bk_Page_writePort_44_1 _ 46 _ _ _ bk_Page_writePort_44_1_ok rfl ?_
        show am_EI m_Page_writePort kc ks 46 [.ref a0, .ref a1, .int x2] [.retAddr 10, .ref a0] h41 Q
        obtain ⟨o44, t⟩ := t
        refine am_callV (M2 := m_Page_putText) (ci := 0) (a := a0) (kc := kc) (ks := ks) (k2c := 0) (k2s := 0) (as := []) [.retAddr 10] dc_Page_writePort_46 lk_0_35 im_Page_putText se_Page_putText lm_Page_putText np_Page_putText ⟨Nat.le_of_ble_eq_true rfl, Nat.le_of_ble_eq_true rfl⟩ (fun _ => Nat.le_of_ble_eq_true rfl) (by decide) rfl o44 (am_Ew.end (am_Ew.mono t (fun h45 t => ?_)))
        refine am_blk_ok (c := 0) (ini := false) (by decide) rfl (fun q => by cases q) bk_Page_writePort_49_3 _ 52 _ _ _ bk_Page_writePort_49_3_ok rfl ?_
        show am_EI m_Page_writePort kc ks 52 [.ref a0, .ref a1, .int x2] [.int x2, .ref a1, .ref a0] h45 Q
        obtain ⟨o46, t⟩ := t
        refine am_callV (M2 := m_Port_minuteOf) (ci := 2) (a := a1) (kc := kc) (ks := ks) (k2c := 0) (k2s := 0) (as := [.ref a0]) [.int x2] dc_Page_writePort_52 lk_0_39 im_Port_minuteOf se_Port_minuteOf lm_Port_minuteOf np_Port_minuteOf ⟨Nat.le_of_ble_eq_true rfl, Nat.le_of_ble_eq_true rfl⟩ (fun _ => Nat.le_of_ble_eq_true rfl) (by decide) rfl o46 (am_Ei.end (am_Ei.mono t (fun r48 h47 t => ?_)))
        obtain ⟨o49, t⟩ := t
        refine am_callV (M2 := m_Page_putTime) (ci := 0) (a := a0) (kc := kc) (ks := ks) (k2c := 0) (k2s := 0) (as := []) [.int r48] dc_Page_writePort_55 lk_0_43 im_Page_putTime se_Page_putTime lm_Page_putTime np_Page_putTime ⟨Nat.le_of_ble_eq_true rfl, Nat.le_of_ble_eq_true rfl⟩ (fun _ => Nat.le_of_ble_eq_true rfl) (by decide) rfl o49 (am_Ew.end (am_Ew.mono t (fun h50 t => ?_)))
        refine am_blk_ok (c := 0) (ini := false) (by decide) rfl (fun q => by cases q) bk_Page_writePort_58_2 _ 61 _ _ _ bk_Page_writePort_58_2_ok rfl ?_
        show am_EI m_Page_writePort kc ks 61 [.ref a0, .ref a1, .int x2] [.int 32, .ref a0] h50 Q
        obtain ⟨o51, t⟩ := t
        refine am_callV (M2 := m_Page_put) (ci := 0) (a := a0) (kc := kc) (ks := ks) (k2c := 0) (k2s := 0) (as := []) [.int 32] dc_Page_writePort_61 lk_0_23 im_Page_put se_Page_put lm_Page_put np_Page_put ⟨Nat.le_of_ble_eq_true rfl, Nat.le_of_ble_eq_true rfl⟩ (fun _ => Nat.le_of_ble_eq_true rfl) (by decide) rfl o51 (am_Ew.end (am_Ew.mono t (fun h52 t => ?_)))
        refine am_blk_ok (c := 0) (ini := false) (by decide) rfl (fun q => by cases q) bk_Page_writePort_64_3 _ 67 _ _ _ bk_Page_writePort_64_3_ok rfl ?_
        show am_EI m_Page_writePort kc ks 67 [.ref a0, .ref a1, .int x2] [.int x2, .ref a1, .ref a0] h52 Q
        obtain ⟨o53, t⟩ := t
        refine am_callV (M2 := m_Port_heightOf) (ci := 2) (a := a1) (kc := kc) (ks := ks) (k2c := 0) (k2s := 0) (as := [.ref a0]) [.int x2] dc_Page_writePort_67 lk_0_47 im_Port_heightOf se_Port_heightOf lm_Port_heightOf np_Port_heightOf ⟨Nat.le_of_ble_eq_true rfl, Nat.le_of_ble_eq_true rfl⟩ (fun _ => Nat.le_of_ble_eq_true rfl) (by decide) rfl o53 (am_Ei.end (am_Ei.mono t (fun r55 h54 t => ?_)))
        obtain ⟨o56, t⟩ := t
        refine am_callV (M2 := m_Page_putNumber) (ci := 0) (a := a0) (kc := kc) (ks := ks) (k2c := 0) (k2s := 0) (as := []) [.int r55] dc_Page_writePort_70 lk_0_50 im_Page_putNumber se_Page_putNumber lm_Page_putNumber np_Page_putNumber ⟨Nat.le_of_ble_eq_true rfl, Nat.le_of_ble_eq_true rfl⟩ (fun _ => Nat.le_of_ble_eq_true rfl) (by decide) rfl o56 (am_Ew.end (am_Ew.mono t (fun h57 t => ?_)))
        refine am_blk_ok (c := 0) (ini := false) (by decide) rfl (fun q => by cases q) bk_Page_writePort_73_2 _ 12 _ _ _ bk_Page_writePort_73_2_ok rfl ?_
        show am_EI m_Page_writePort kc ks 12 [.ref a0, .ref a1, .int (x2 + 1)] [] h57 Q
        exact t
      · replace t := t.2 c43
        refine am_blk_ok (c := 0) (ini := false) (by decide) rfl (fun q => by cases q) bk_Page_writePort_39_2 _ 46 _ _ _ bk_Page_writePort_39_2_ok rfl ?_
        show am_EI m_Page_writePort kc ks 46 [.ref a0, .ref a1, .int x2] [.retAddr 9, .ref a0] h41 Q
        obtain ⟨o58, t⟩ := t
        refine am_callV (M2 := m_Page_putText) (ci := 0) (a := a0) (kc := kc) (ks := ks) (k2c := 0) (k2s := 0) (as := []) [.retAddr 9] dc_Page_writePort_46 lk_0_35 im_Page_putText se_Page_putText lm_Page_putText np_Page_putText ⟨Nat.le_of_ble_eq_true rfl, Nat.le_of_ble_eq_true rfl⟩ (fun _ => Nat.le_of_ble_eq_true rfl) (by decide) rfl o58 (am_Ew.end (am_Ew.mono t (fun h59 t => ?_)))
        refine am_blk_ok (c := 0) (ini := false) (by decide) rfl (fun q => by cases q) bk_Page_writePort_49_3 _ 52 _ _ _ bk_Page_writePort_49_3_ok rfl ?_
        show am_EI m_Page_writePort kc ks 52 [.ref a0, .ref a1, .int x2] [.int x2, .ref a1, .ref a0] h59 Q
        obtain ⟨o60, t⟩ := t
        refine am_callV (M2 := m_Port_minuteOf) (ci := 2) (a := a1) (kc := kc) (ks := ks) (k2c := 0) (k2s := 0) (as := [.ref a0]) [.int x2] dc_Page_writePort_52 lk_0_39 im_Port_minuteOf se_Port_minuteOf lm_Port_minuteOf np_Port_minuteOf ⟨Nat.le_of_ble_eq_true rfl, Nat.le_of_ble_eq_true rfl⟩ (fun _ => Nat.le_of_ble_eq_true rfl) (by decide) rfl o60 (am_Ei.end (am_Ei.mono t (fun r62 h61 t => ?_)))
        obtain ⟨o63, t⟩ := t
        refine am_callV (M2 := m_Page_putTime) (ci := 0) (a := a0) (kc := kc) (ks := ks) (k2c := 0) (k2s := 0) (as := []) [.int r62] dc_Page_writePort_55 lk_0_43 im_Page_putTime se_Page_putTime lm_Page_putTime np_Page_putTime ⟨Nat.le_of_ble_eq_true rfl, Nat.le_of_ble_eq_true rfl⟩ (fun _ => Nat.le_of_ble_eq_true rfl) (by decide) rfl o63 (am_Ew.end (am_Ew.mono t (fun h64 t => ?_)))
        refine am_blk_ok (c := 0) (ini := false) (by decide) rfl (fun q => by cases q) bk_Page_writePort_58_2 _ 61 _ _ _ bk_Page_writePort_58_2_ok rfl ?_
        show am_EI m_Page_writePort kc ks 61 [.ref a0, .ref a1, .int x2] [.int 32, .ref a0] h64 Q
        obtain ⟨o65, t⟩ := t
        refine am_callV (M2 := m_Page_put) (ci := 0) (a := a0) (kc := kc) (ks := ks) (k2c := 0) (k2s := 0) (as := []) [.int 32] dc_Page_writePort_61 lk_0_23 im_Page_put se_Page_put lm_Page_put np_Page_put ⟨Nat.le_of_ble_eq_true rfl, Nat.le_of_ble_eq_true rfl⟩ (fun _ => Nat.le_of_ble_eq_true rfl) (by decide) rfl o65 (am_Ew.end (am_Ew.mono t (fun h66 t => ?_)))
        refine am_blk_ok (c := 0) (ini := false) (by decide) rfl (fun q => by cases q) bk_Page_writePort_64_3 _ 67 _ _ _ bk_Page_writePort_64_3_ok rfl ?_
        show am_EI m_Page_writePort kc ks 67 [.ref a0, .ref a1, .int x2] [.int x2, .ref a1, .ref a0] h66 Q
        obtain ⟨o67, t⟩ := t
        refine am_callV (M2 := m_Port_heightOf) (ci := 2) (a := a1) (kc := kc) (ks := ks) (k2c := 0) (k2s := 0) (as := [.ref a0]) [.int x2] dc_Page_writePort_67 lk_0_47 im_Port_heightOf se_Port_heightOf lm_Port_heightOf np_Port_heightOf ⟨Nat.le_of_ble_eq_true rfl, Nat.le_of_ble_eq_true rfl⟩ (fun _ => Nat.le_of_ble_eq_true rfl) (by decide) rfl o67 (am_Ei.end (am_Ei.mono t (fun r69 h68 t => ?_)))
        obtain ⟨o70, t⟩ := t
        refine am_callV (M2 := m_Page_putNumber) (ci := 0) (a := a0) (kc := kc) (ks := ks) (k2c := 0) (k2s := 0) (as := []) [.int r69] dc_Page_writePort_70 lk_0_50 im_Page_putNumber se_Page_putNumber lm_Page_putNumber np_Page_putNumber ⟨Nat.le_of_ble_eq_true rfl, Nat.le_of_ble_eq_true rfl⟩ (fun _ => Nat.le_of_ble_eq_true rfl) (by decide) rfl o70 (am_Ew.end (am_Ew.mono t (fun h71 t => ?_)))
        refine am_blk_ok (c := 0) (ini := false) (by decide) rfl (fun q => by cases q) bk_Page_writePort_73_2 _ 12 _ _ _ bk_Page_writePort_73_2_ok rfl ?_
        show am_EI m_Page_writePort kc ks 12 [.ref a0, .ref a1, .int (x2 + 1)] [] h71 Q
        exact t
def bk_Page_writeRoute_0_4 : List am_E := [(0, .aload_n 0, 1, 0, 0), (1, .iconst 0, 1, 0, 0), (2, .putfield 13, 3, 4, 0), (5, .aload_n 1, 1, 0, 0)]
theorem bk_Page_writeRoute_0_4_ok : bk_Page_writeRoute_0_4.all (am_ok 0 false m_Page_writeRoute.2.1) = true := by decide +kernel
def bk_Page_writeRoute_10_2 : List am_E := [(10, .iconst 0, 1, 0, 0), (11, .istore_n 2, 1, 0, 0)]
theorem bk_Page_writeRoute_10_2_ok : bk_Page_writeRoute_10_2.all (am_ok 0 false m_Page_writeRoute.2.1) = true := by decide +kernel
def bk_Page_writeRoute_12_2 : List am_E := [(12, .iload_n 2, 1, 0, 0), (13, .aload_n 1, 1, 0, 0)]
theorem bk_Page_writeRoute_12_2_ok : bk_Page_writeRoute_12_2.all (am_ok 0 false m_Page_writeRoute.2.1) = true := by decide +kernel
def bk_Page_writeRoute_20_1 : List am_E := [(20, .iload_n 2, 1, 0, 0)]
theorem bk_Page_writeRoute_20_1_ok : bk_Page_writeRoute_20_1.all (am_ok 0 false m_Page_writeRoute.2.1) = true := by decide +kernel
def bk_Page_writeRoute_45_3 : List am_E := [(45, .aload_n 0, 1, 0, 0), (46, .aload_n 1, 1, 0, 0), (47, .iload_n 2, 1, 0, 0)]
theorem bk_Page_writeRoute_45_3_ok : bk_Page_writeRoute_45_3.all (am_ok 0 false m_Page_writeRoute.2.1) = true := by decide +kernel
def bk_Page_writeRoute_54_2 : List am_E := [(54, .aload_n 1, 1, 0, 0), (55, .iload_n 2, 1, 0, 0)]
theorem bk_Page_writeRoute_54_2_ok : bk_Page_writeRoute_54_2.all (am_ok 0 false m_Page_writeRoute.2.1) = true := by decide +kernel
def bk_Page_writeRoute_59_1 : List am_E := [(59, .iconst 1, 1, 0, 1)]
theorem bk_Page_writeRoute_59_1_ok : bk_Page_writeRoute_59_1.all (am_ok 0 false m_Page_writeRoute.2.1) = true := by decide +kernel
def bk_Page_writeRoute_72_2 : List am_E := [(72, .aload_n 1, 1, 0, 0), (73, .iload_n 2, 1, 0, 0)]
theorem bk_Page_writeRoute_72_2_ok : bk_Page_writeRoute_72_2.all (am_ok 0 false m_Page_writeRoute.2.1) = true := by decide +kernel
def bk_Page_writeRoute_77_1 : List am_E := [(77, .iconst 2, 1, 0, 2)]
theorem bk_Page_writeRoute_77_1_ok : bk_Page_writeRoute_77_1.all (am_ok 0 false m_Page_writeRoute.2.1) = true := by decide +kernel
def bk_Page_writeRoute_96_2 : List am_E := [(96, .iinc 2 1, 3, 0, 1), (99, .goto (-87), 3, 0, -87)]
theorem bk_Page_writeRoute_96_2_ok : bk_Page_writeRoute_96_2.all (am_ok 0 false m_Page_writeRoute.2.1) = true := by decide +kernel
def bk_Page_writeRoute_81_2 : List am_E := [(81, .aload_n 0, 1, 0, 0), (82, .bipush 126, 2, 0, 126)]
theorem bk_Page_writeRoute_81_2_ok : bk_Page_writeRoute_81_2.all (am_ok 0 false m_Page_writeRoute.2.1) = true := by decide +kernel
def bk_Page_writeRoute_87_3 : List am_E := [(87, .aload_n 0, 1, 0, 0), (88, .aload_n 1, 1, 0, 0), (89, .iload_n 2, 1, 0, 0)]
theorem bk_Page_writeRoute_87_3_ok : bk_Page_writeRoute_87_3.all (am_ok 0 false m_Page_writeRoute.2.1) = true := by decide +kernel
def bk_Page_writeRoute_63_2 : List am_E := [(63, .aload_n 0, 1, 0, 0), (64, .bipush 33, 2, 0, 33)]
theorem bk_Page_writeRoute_63_2_ok : bk_Page_writeRoute_63_2.all (am_ok 0 false m_Page_writeRoute.2.1) = true := by decide +kernel
def bk_Page_writeRoute_69_3 : List am_E := [(69, .goto 27, 3, 0, 27), (96, .iinc 2 1, 3, 0, 1), (99, .goto (-87), 3, 0, -87)]
theorem bk_Page_writeRoute_69_3_ok : bk_Page_writeRoute_69_3.all (am_ok 0 false m_Page_writeRoute.2.1) = true := by decide +kernel
def bk_Page_writeRoute_24_2 : List am_E := [(24, .aload_n 0, 1, 0, 0), (25, .ldc 91, 2, 16, 0)]
theorem bk_Page_writeRoute_24_2_ok : bk_Page_writeRoute_24_2.all (am_ok 0 false m_Page_writeRoute.2.1) = true := by decide +kernel
def bk_Page_writeRoute_30_3 : List am_E := [(30, .aload_n 0, 1, 0, 0), (31, .aload_n 1, 1, 0, 0), (32, .iload_n 2, 1, 0, 0)]
theorem bk_Page_writeRoute_30_3_ok : bk_Page_writeRoute_30_3.all (am_ok 0 false m_Page_writeRoute.2.1) = true := by decide +kernel
def bk_Page_writeRoute_39_2 : List am_E := [(39, .aload_n 0, 1, 0, 0), (40, .bipush 32, 2, 0, 32)]
theorem bk_Page_writeRoute_39_2_ok : bk_Page_writeRoute_39_2.all (am_ok 0 false m_Page_writeRoute.2.1) = true := by decide +kernel
theorem dc_Page_writeRoute_6 : decode m_Page_writeRoute.2.1 6 = .ok (.ifnonnull 4, 3) := by decide +kernel
theorem dc_Page_writeRoute_14 : decode m_Page_writeRoute.2.1 14 = .ok (.invokevirtual 86, 3) := by decide +kernel
theorem dc_Page_writeRoute_102 : decode m_Page_writeRoute.2.1 102 = .ok (.return_, 1) := by decide +kernel
theorem dc_Page_writeRoute_48 : decode m_Page_writeRoute.2.1 48 = .ok (.invokevirtual 96, 3) := by decide +kernel
theorem dc_Page_writeRoute_51 : decode m_Page_writeRoute.2.1 51 = .ok (.invokevirtual 50, 3) := by decide +kernel
theorem dc_Page_writeRoute_56 : decode m_Page_writeRoute.2.1 56 = .ok (.invokevirtual 99, 3) := by decide +kernel
theorem dc_Page_writeRoute_74 : decode m_Page_writeRoute.2.1 74 = .ok (.invokevirtual 99, 3) := by decide +kernel
theorem dc_Page_writeRoute_84 : decode m_Page_writeRoute.2.1 84 = .ok (.invokevirtual 23, 3) := by decide +kernel
theorem dc_Page_writeRoute_90 : decode m_Page_writeRoute.2.1 90 = .ok (.invokevirtual 102, 3) := by decide +kernel
theorem dc_Page_writeRoute_93 : decode m_Page_writeRoute.2.1 93 = .ok (.invokevirtual 50, 3) := by decide +kernel
theorem dc_Page_writeRoute_78 : decode m_Page_writeRoute.2.1 78 = .ok (.if_icmp .ne 18, 3) := by decide +kernel
theorem dc_Page_writeRoute_66 : decode m_Page_writeRoute.2.1 66 = .ok (.invokevirtual 23, 3) := by decide +kernel
theorem dc_Page_writeRoute_60 : decode m_Page_writeRoute.2.1 60 = .ok (.if_icmp .ne 12, 3) := by decide +kernel
theorem dc_Page_writeRoute_27 : decode m_Page_writeRoute.2.1 27 = .ok (.invokevirtual 35, 3) := by decide +kernel
theorem dc_Page_writeRoute_33 : decode m_Page_writeRoute.2.1 33 = .ok (.invokevirtual 93, 3) := by decide +kernel
theorem dc_Page_writeRoute_36 : decode m_Page_writeRoute.2.1 36 = .ok (.invokevirtual 50, 3) := by decide +kernel
theorem dc_Page_writeRoute_42 : decode m_Page_writeRoute.2.1 42 = .ok (.invokevirtual 23, 3) := by decide +kernel
theorem dc_Page_writeRoute_21 : decode m_Page_writeRoute.2.1 21 = .ok (.ifCond .le 24, 3) := by decide +kernel
theorem dc_Page_writeRoute_17 : decode m_Page_writeRoute.2.1 17 = .ok (.if_icmp .ge 85, 3) := by decide +kernel
set_option maxRecDepth 20000 in
theorem sg_Page_writeRoute_0 {kc ks : Nat} (a0 a1 : Nat) (h : am_H) (Q : Option Value → am_H → Prop) (t : (am_tg h a0 = (0, 2) ∧ am_EI m_Page_writeRoute kc ks 12 [.ref a0, .ref a1, .int 0] [] (am_si h a0 1 0) Q)) : am_EI m_Page_writeRoute kc ks 0 [.ref a0, .ref a1, .float 0] [] h Q := by
  refine am_blk_ok (c := 0) (ini := false) (by decide) rfl (fun q => by cases q) bk_Page_writeRoute_0_4 _ 6 _ _ _ bk_Page_writeRoute_0_4_ok rfl ?_
  show (am_tg h a0 = (0, 2) ∧ am_EI m_Page_writeRoute kc ks 6 [.ref a0, .ref a1, .float 0] [.ref a1] (am_si h a0 1 0) Q)
  obtain ⟨o1, t⟩ := t
  refine ⟨o1, ?_⟩
  refine am_ifnonnull (tgt := 10) dc_Page_writeRoute_6 (by decide) ?_
  refine am_blk_ok (c := 0) (ini := false) (by decide) rfl (fun q => by cases q) bk_Page_writeRoute_10_2 _ 12 _ _ _ bk_Page_writeRoute_10_2_ok rfl ?_
  show am_EI m_Page_writeRoute kc ks 12 [.ref a0, .ref a1, .int 0] [] (am_si h a0 1 0) Q
  exact t
set_option maxRecDepth 20000 in
theorem ev_Page_writeRoute (a0 a1 : Nat) (h : am_H) (Q : am_H → Prop) (t : (am_tg h a0 = (0, 2) ∧ am_EI m_Page_writeRoute 0 0 12 [.ref a0, .ref a1, .int 0] [] (am_si h a0 1 0) (am_qw Q))) : am_Ew m_Page_writeRoute 0 0 [.ref a0, .ref a1] h Q :=
  am_Ev.of (by decide +kernel) (Nat.le_of_ble_eq_true rfl) (by simp only [List.mem_cons, List.not_mem_nil, or_false]; intro v hv; rcases hv with rfl | rfl; all_goals first | exact trivial) (sg_Page_writeRoute_0 (kc := 0) (ks := 0) a0 a1 h (am_qw Q) t)
set_option maxRecDepth 20000 in
theorem sg_Page_writeRoute_12 {kc ks : Nat} (a0 a1 : Nat) (x2 : Int32) (h : am_H) (Q : Option Value → am_H → Prop) (t : (am_tg h a1 = (4, 7) ∧ (am_Ei m_Route_stopCount 0 0 [.ref a1] h (fun r3 h2 => ((r3 ≤ x2 → Q none h2) ∧ (¬ r3 ≤ x2 → ((x2 ≤ 0 → (am_tg h2 a1 = (4, 7) ∧ (am_Ei m_Route_sillNumberOf 0 0 [.ref a1, .int x2] h2 (fun r8 h7 => (am_tg h7 a0 = (0, 2) ∧ (am_Ew m_Page_putNumber 0 0 [.ref a0, .int r8] h7 (fun h10 => (am_tg h10 a1 = (4, 7) ∧ (am_Ei m_Route_kindOf 0 0 [.ref a1, .int x2] h10 (fun r13 h12 => ((¬ r13 = 1 → (am_tg h12 a1 = (4, 7) ∧ (am_Ei m_Route_kindOf 0 0 [.ref a1, .int x2] h12 (fun r17 h16 => ((¬ r17 = 2 → am_EI m_Page_writeRoute kc ks 12 [.ref a0, .ref a1, .int (x2 + 1)] [] h16 Q) ∧ (r17 = 2 → (am_tg h16 a0 = (0, 2) ∧ (am_Ew m_Page_put 0 0 [.ref a0, .int 126] h16 (fun h20 => (am_tg h20 a1 = (4, 7) ∧ (am_Ei m_Route_levelOf 0 0 [.ref a1, .int x2] h20 (fun r23 h22 => (am_tg h22 a0 = (0, 2) ∧ (am_Ew m_Page_putNumber 0 0 [.ref a0, .int r23] h22 (fun h25 => am_EI m_Page_writeRoute kc ks 12 [.ref a0, .ref a1, .int (x2 + 1)] [] h25 Q))))))))))))))) ∧ (r13 = 1 → (am_tg h12 a0 = (0, 2) ∧ (am_Ew m_Page_put 0 0 [.ref a0, .int 33] h12 (fun h27 => am_EI m_Page_writeRoute kc ks 12 [.ref a0, .ref a1, .int (x2 + 1)] [] h27 Q))))))))))))))) ∧ (¬ x2 ≤ 0 → (am_tg h2 a0 = (0, 2) ∧ (am_Ew m_Page_putText 0 0 [.ref a0, .retAddr 15] h2 (fun h29 => (am_tg h29 a1 = (4, 7) ∧ (am_Ei m_Route_milesTo 0 0 [.ref a1, .int x2] h29 (fun r32 h31 => (am_tg h31 a0 = (0, 2) ∧ (am_Ew m_Page_putNumber 0 0 [.ref a0, .int r32] h31 (fun h34 => (am_tg h34 a0 = (0, 2) ∧ (am_Ew m_Page_put 0 0 [.ref a0, .int 32] h34 (fun h36 => (am_tg h36 a1 = (4, 7) ∧ (am_Ei m_Route_sillNumberOf 0 0 [.ref a1, .int x2] h36 (fun r39 h38 => (am_tg h38 a0 = (0, 2) ∧ (am_Ew m_Page_putNumber 0 0 [.ref a0, .int r39] h38 (fun h41 => (am_tg h41 a1 = (4, 7) ∧ (am_Ei m_Route_kindOf 0 0 [.ref a1, .int x2] h41 (fun r44 h43 => ((¬ r44 = 1 → (am_tg h43 a1 = (4, 7) ∧ (am_Ei m_Route_kindOf 0 0 [.ref a1, .int x2] h43 (fun r48 h47 => ((¬ r48 = 2 → am_EI m_Page_writeRoute kc ks 12 [.ref a0, .ref a1, .int (x2 + 1)] [] h47 Q) ∧ (r48 = 2 → (am_tg h47 a0 = (0, 2) ∧ (am_Ew m_Page_put 0 0 [.ref a0, .int 126] h47 (fun h51 => (am_tg h51 a1 = (4, 7) ∧ (am_Ei m_Route_levelOf 0 0 [.ref a1, .int x2] h51 (fun r54 h53 => (am_tg h53 a0 = (0, 2) ∧ (am_Ew m_Page_putNumber 0 0 [.ref a0, .int r54] h53 (fun h56 => am_EI m_Page_writeRoute kc ks 12 [.ref a0, .ref a1, .int (x2 + 1)] [] h56 Q))))))))))))))) ∧ (r44 = 1 → (am_tg h43 a0 = (0, 2) ∧ (am_Ew m_Page_put 0 0 [.ref a0, .int 33] h43 (fun h58 => am_EI m_Page_writeRoute kc ks 12 [.ref a0, .ref a1, .int (x2 + 1)] [] h58 Q)))))))))))))))))))))))))))))))))) : am_EI m_Page_writeRoute kc ks 12 [.ref a0, .ref a1, .int x2] [] h Q := by
  refine am_blk_ok (c := 0) (ini := false) (by decide) rfl (fun q => by cases q) bk_Page_writeRoute_12_2 _ 14 _ _ _ bk_Page_writeRoute_12_2_ok rfl ?_
  show am_EI m_Page_writeRoute kc ks 14 [.ref a0, .ref a1, .int x2] [.ref a1, .int x2] h Q
  obtain ⟨o1, t⟩ := t
  refine am_callV (M2 := m_Route_stopCount) (ci := 4) (a := a1) (kc := kc) (ks := ks) (k2c := 0) (k2s := 0) (as := [.int x2]) [] dc_Page_writeRoute_14 lk_0_86 im_Route_stopCount se_Route_stopCount lm_Route_stopCount np_Route_stopCount ⟨Nat.le_of_ble_eq_true rfl, Nat.le_of_ble_eq_true rfl⟩ (fun _ => Nat.le_of_ble_eq_true rfl) (by decide) rfl o1 (am_Ei.end (am_Ei.mono t (fun r3 h2 t => ?_)))
  refine am_ic_ge (tgt := 102) dc_Page_writeRoute_17 (by decide) (fun c4 => ?_) (fun c4 => ?_)
  · replace t := t.1 c4
    exact am_vret dc_Page_writeRoute_102 rfl t
  · replace t := t.2 c4
    refine am_blk_ok (c := 0) (ini := false) (by decide) rfl (fun q => by cases q) bk_Page_writeRoute_20_1 _ 21 _ _ _ bk_Page_writeRoute_20_1_ok rfl ?_
    show am_EI m_Page_writeRoute kc ks 21 [.ref a0, .ref a1, .int x2] [.int x2] h2 Q
    refine am_if_le (tgt := 45) dc_Page_writeRoute_21 (by decide) (fun c5 => ?_) (fun c5 => ?_)
    · replace t := t.1 c5
      refine am_blk_ok (c := 0) (ini := false) (by decide) rfl (fun q => by cases q) bk_Page_writeRoute_45_3 _ 48 _ _ _ bk_Page_writeRoute_45_3_ok rfl ?_
      show am_EI m_Page_writeRoute kc ks 48 [.ref a0, .ref a1, .int x2] [.int x2, .ref a1, .ref a0] h2 Q
      obtain ⟨o6, t⟩ := t
      refine am_callV (M2 := m_Route_sillNumberOf) (ci := 4) (a := a1) (kc := kc) (ks := ks) (k2c := 0) (k2s := 0) (as := [.ref a0]) [.int x2] dc_Page_writeRoute_48 lk_0_96 im_Route_sillNumberOf se_Route_sillNumberOf lm_Route_sillNumberOf np_Route_sillNumberOf ⟨Nat.le_of_ble_eq_true rfl, Nat.le_of_ble_eq_true rfl⟩ (fun _ => Nat.le_of_ble_eq_true rfl) (by decide) rfl o6 (am_Ei.end (am_Ei.mono t (fun r8 h7 t => ?_)))
      obtain ⟨o9, t⟩ := t
      refine am_callV (M2 := m_Page_putNumber) (ci := 0) (a := a0) (kc := kc) (ks := ks) (k2c := 0) (k2s := 0) (as := []) [.int r8] dc_Page_writeRoute_51 lk_0_50 im_Page_putNumber se_Page_putNumber lm_Page_putNumber np_Page_putNumber ⟨Nat.le_of_ble_eq_true rfl, Nat.le_of_ble_eq_true rfl⟩ (fun _ => Nat.le_of_ble_eq_true rfl) (by decide) rfl o9 (am_Ew.end (am_Ew.mono t (fun h10 t => ?_)))
      refine am_blk_ok (c := 0) (ini := false) (by decide) rfl (fun q => by cases q) bk_Page_writeRoute_54_2 _ 56 _ _ _ bk_Page_writeRoute_54_2_ok rfl ?_
      show am_EI m_Page_writeRoute kc ks 56 [.ref a0, .ref a1, .int x2] [.int x2, .ref a1] h10 Q
      obtain ⟨o11, t⟩ := t
      refine am_callV (M2 := m_Route_kindOf) (ci := 4) (a := a1) (kc := kc) (ks := ks) (k2c := 0) (k2s := 0) (as := []) [.int x2] dc_Page_writeRoute_56 lk_0_99 im_Route_kindOf se_Route_kindOf lm_Route_kindOf np_Route_kindOf ⟨Nat.le_of_ble_eq_true rfl, Nat.le_of_ble_eq_true rfl⟩ (fun _ => Nat.le_of_ble_eq_true rfl) (by decide) rfl o11 (am_Ei.end (am_Ei.mono t (fun r13 h12 t => ?_)))
      refine am_blk_ok (c := 0) (ini := false) (by decide) rfl (fun q => by cases q) bk_Page_writeRoute_59_1 _ 60 _ _ _ bk_Page_writeRoute_59_1_ok rfl ?_
      show am_EI m_Page_writeRoute kc ks 60 [.ref a0, .ref a1, .int x2] [.int 1, .int r13] h12 Q
      refine am_ic_ne (tgt := 72) dc_Page_writeRoute_60 (by decide) (fun c14 => ?_) (fun c14 => ?_)
      · replace t := t.1 c14
        refine am_blk_ok (c := 0) (ini := false) (by decide) rfl (fun q => by cases q) bk_Page_writeRoute_72_2 _ 74 _ _ _ bk_Page_writeRoute_72_2_ok rfl ?_
        show am_EI m_Page_writeRoute kc ks 74 [.ref a0, .ref a1, .int x2] [.int x2, .ref a1] h12 Q
        obtain ⟨o15, t⟩ := t
        refine am_callV (M2 := m_Route_kindOf) (ci := 4) (a := a1) (kc := kc) (ks := ks) (k2c := 0) (k2s := 0) (as := []) [.int x2] dc_Page_writeRoute_74 lk_0_99 im_Route_kindOf se_Route_kindOf lm_Route_kindOf np_Route_kindOf ⟨Nat.le_of_ble_eq_true rfl, Nat.le_of_ble_eq_true rfl⟩ (fun _ => Nat.le_of_ble_eq_true rfl) (by decide) rfl o15 (am_Ei.end (am_Ei.mono t (fun r17 h16 t => ?_)))
        refine am_blk_ok (c := 0) (ini := false) (by decide) rfl (fun q => by cases q) bk_Page_writeRoute_77_1 _ 78 _ _ _ bk_Page_writeRoute_77_1_ok rfl ?_
        show am_EI m_Page_writeRoute kc ks 78 [.ref a0, .ref a1, .int x2] [.int 2, .int r17] h16 Q
        refine am_ic_ne (tgt := 96) dc_Page_writeRoute_78 (by decide) (fun c18 => ?_) (fun c18 => ?_)
        · replace t := t.1 c18
          refine am_blk_ok (c := 0) (ini := false) (by decide) rfl (fun q => by cases q) bk_Page_writeRoute_96_2 _ 12 _ _ _ bk_Page_writeRoute_96_2_ok rfl ?_
          show am_EI m_Page_writeRoute kc ks 12 [.ref a0, .ref a1, .int (x2 + 1)] [] h16 Q
          exact t
        · replace t := t.2 c18
          refine am_blk_ok (c := 0) (ini := false) (by decide) rfl (fun q => by cases q) bk_Page_writeRoute_81_2 _ 84 _ _ _ bk_Page_writeRoute_81_2_ok rfl ?_
          show am_EI m_Page_writeRoute kc ks 84 [.ref a0, .ref a1, .int x2] [.int 126, .ref a0] h16 Q
          obtain ⟨o19, t⟩ := t
          refine am_callV (M2 := m_Page_put) (ci := 0) (a := a0) (kc := kc) (ks := ks) (k2c := 0) (k2s := 0) (as := []) [.int 126] dc_Page_writeRoute_84 lk_0_23 im_Page_put se_Page_put lm_Page_put np_Page_put ⟨Nat.le_of_ble_eq_true rfl, Nat.le_of_ble_eq_true rfl⟩ (fun _ => Nat.le_of_ble_eq_true rfl) (by decide) rfl o19 (am_Ew.end (am_Ew.mono t (fun h20 t => ?_)))
          refine am_blk_ok (c := 0) (ini := false) (by decide) rfl (fun q => by cases q) bk_Page_writeRoute_87_3 _ 90 _ _ _ bk_Page_writeRoute_87_3_ok rfl ?_
          show am_EI m_Page_writeRoute kc ks 90 [.ref a0, .ref a1, .int x2] [.int x2, .ref a1, .ref a0] h20 Q
          obtain ⟨o21, t⟩ := t
          refine am_callV (M2 := m_Route_levelOf) (ci := 4) (a := a1) (kc := kc) (ks := ks) (k2c := 0) (k2s := 0) (as := [.ref a0]) [.int x2] dc_Page_writeRoute_90 lk_0_102 im_Route_levelOf se_Route_levelOf lm_Route_levelOf np_Route_levelOf ⟨Nat.le_of_ble_eq_true rfl, Nat.le_of_ble_eq_true rfl⟩ (fun _ => Nat.le_of_ble_eq_true rfl) (by decide) rfl o21 (am_Ei.end (am_Ei.mono t (fun r23 h22 t => ?_)))
          obtain ⟨o24, t⟩ := t
          refine am_callV (M2 := m_Page_putNumber) (ci := 0) (a := a0) (kc := kc) (ks := ks) (k2c := 0) (k2s := 0) (as := []) [.int r23] dc_Page_writeRoute_93 lk_0_50 im_Page_putNumber se_Page_putNumber lm_Page_putNumber np_Page_putNumber ⟨Nat.le_of_ble_eq_true rfl, Nat.le_of_ble_eq_true rfl⟩ (fun _ => Nat.le_of_ble_eq_true rfl) (by decide) rfl o24 (am_Ew.end (am_Ew.mono t (fun h25 t => ?_)))
          refine am_blk_ok (c := 0) (ini := false) (by decide) rfl (fun q => by cases q) bk_Page_writeRoute_96_2 _ 12 _ _ _ bk_Page_writeRoute_96_2_ok rfl ?_
          show am_EI m_Page_writeRoute kc ks 12 [.ref a0, .ref a1, .int (x2 + 1)] [] h25 Q
          exact t
      · replace t := t.2 c14
        refine am_blk_ok (c := 0) (ini := false) (by decide) rfl (fun q => by cases q) bk_Page_writeRoute_63_2 _ 66 _ _ _ bk_Page_writeRoute_63_2_ok rfl ?_
        show am_EI m_Page_writeRoute kc ks 66 [.ref a0, .ref a1, .int x2] [.int 33, .ref a0] h12 Q
        obtain ⟨o26, t⟩ := t
        refine am_callV (M2 := m_Page_put) (ci := 0) (a := a0) (kc := kc) (ks := ks) (k2c := 0) (k2s := 0) (as := []) [.int 33] dc_Page_writeRoute_66 lk_0_23 im_Page_put se_Page_put lm_Page_put np_Page_put ⟨Nat.le_of_ble_eq_true rfl, Nat.le_of_ble_eq_true rfl⟩ (fun _ => Nat.le_of_ble_eq_true rfl) (by decide) rfl o26 (am_Ew.end (am_Ew.mono t (fun h27 t => ?_)))
        refine am_blk_ok (c := 0) (ini := false) (by decide) rfl (fun q => by cases q) bk_Page_writeRoute_69_3 _ 12 _ _ _ bk_Page_writeRoute_69_3_ok rfl ?_
        show am_EI m_Page_writeRoute kc ks 12 [.ref a0, .ref a1, .int (x2 + 1)] [] h27 Q
        exact t
    · replace t := t.2 c5
      refine am_blk_ok (c := 0) (ini := false) (by decide) rfl (fun q => by cases q) bk_Page_writeRoute_24_2 _ 27 _ _ _ bk_Page_writeRoute_24_2_ok rfl ?_
      show am_EI m_Page_writeRoute kc ks 27 [.ref a0, .ref a1, .int x2] [.retAddr 15, .ref a0] h2 Q
      obtain ⟨o28, t⟩ := t
      refine am_callV (M2 := m_Page_putText) (ci := 0) (a := a0) (kc := kc) (ks := ks) (k2c := 0) (k2s := 0) (as := []) [.retAddr 15] dc_Page_writeRoute_27 lk_0_35 im_Page_putText se_Page_putText lm_Page_putText np_Page_putText ⟨Nat.le_of_ble_eq_true rfl, Nat.le_of_ble_eq_true rfl⟩ (fun _ => Nat.le_of_ble_eq_true rfl) (by decide) rfl o28 (am_Ew.end (am_Ew.mono t (fun h29 t => ?_)))
      refine am_blk_ok (c := 0) (ini := false) (by decide) rfl (fun q => by cases q) bk_Page_writeRoute_30_3 _ 33 _ _ _ bk_Page_writeRoute_30_3_ok rfl ?_
      show am_EI m_Page_writeRoute kc ks 33 [.ref a0, .ref a1, .int x2] [.int x2, .ref a1, .ref a0] h29 Q
      obtain ⟨o30, t⟩ := t
      refine am_callV (M2 := m_Route_milesTo) (ci := 4) (a := a1) (kc := kc) (ks := ks) (k2c := 0) (k2s := 0) (as := [.ref a0]) [.int x2] dc_Page_writeRoute_33 lk_0_93 im_Route_milesTo se_Route_milesTo lm_Route_milesTo np_Route_milesTo ⟨Nat.le_of_ble_eq_true rfl, Nat.le_of_ble_eq_true rfl⟩ (fun _ => Nat.le_of_ble_eq_true rfl) (by decide) rfl o30 (am_Ei.end (am_Ei.mono t (fun r32 h31 t => ?_)))
      obtain ⟨o33, t⟩ := t
      refine am_callV (M2 := m_Page_putNumber) (ci := 0) (a := a0) (kc := kc) (ks := ks) (k2c := 0) (k2s := 0) (as := []) [.int r32] dc_Page_writeRoute_36 lk_0_50 im_Page_putNumber se_Page_putNumber lm_Page_putNumber np_Page_putNumber ⟨Nat.le_of_ble_eq_true rfl, Nat.le_of_ble_eq_true rfl⟩ (fun _ => Nat.le_of_ble_eq_true rfl) (by decide) rfl o33 (am_Ew.end (am_Ew.mono t (fun h34 t => ?_)))
      refine am_blk_ok (c := 0) (ini := false) (by decide) rfl (fun q => by cases q) bk_Page_writeRoute_39_2 _ 42 _ _ _ bk_Page_writeRoute_39_2_ok rfl ?_
      show am_EI m_Page_writeRoute kc ks 42 [.ref a0, .ref a1, .int x2] [.int 32, .ref a0] h34 Q
      obtain ⟨o35, t⟩ := t
      refine am_callV (M2 := m_Page_put) (ci := 0) (a := a0) (kc := kc) (ks := ks) (k2c := 0) (k2s := 0) (as := []) [.int 32] dc_Page_writeRoute_42 lk_0_23 im_Page_put se_Page_put lm_Page_put np_Page_put ⟨Nat.le_of_ble_eq_true rfl, Nat.le_of_ble_eq_true rfl⟩ (fun _ => Nat.le_of_ble_eq_true rfl) (by decide) rfl o35 (am_Ew.end (am_Ew.mono t (fun h36 t => ?_)))
      refine am_blk_ok (c := 0) (ini := false) (by decide) rfl (fun q => by cases q) bk_Page_writeRoute_45_3 _ 48 _ _ _ bk_Page_writeRoute_45_3_ok rfl ?_
      show am_EI m_Page_writeRoute kc ks 48 [.ref a0, .ref a1, .int x2] [.int x2, .ref a1, .ref a0] h36 Q
      obtain ⟨o37, t⟩ := t
      refine am_callV (M2 := m_Route_sillNumberOf) (ci := 4) (a := a1) (kc := kc) (ks := ks) (k2c := 0) (k2s := 0) (as := [.ref a0]) [.int x2] dc_Page_writeRoute_48 lk_0_96 im_Route_sillNumberOf se_Route_sillNumberOf lm_Route_sillNumberOf np_Route_sillNumberOf ⟨Nat.le_of_ble_eq_true rfl, Nat.le_of_ble_eq_true rfl⟩ (fun _ => Nat.le_of_ble_eq_true rfl) (by decide) rfl o37 (am_Ei.end (am_Ei.mono t (fun r39 h38 t => ?_)))
      obtain ⟨o40, t⟩ := t
      refine am_callV (M2 := m_Page_putNumber) (ci := 0) (a := a0) (kc := kc) (ks := ks) (k2c := 0) (k2s := 0) (as := []) [.int r39] dc_Page_writeRoute_51 lk_0_50 im_Page_putNumber se_Page_putNumber lm_Page_putNumber np_Page_putNumber ⟨Nat.le_of_ble_eq_true rfl, Nat.le_of_ble_eq_true rfl⟩ (fun _ => Nat.le_of_ble_eq_true rfl) (by decide) rfl o40 (am_Ew.end (am_Ew.mono t (fun h41 t => ?_)))
      refine am_blk_ok (c := 0) (ini := false) (by decide) rfl (fun q => by cases q) bk_Page_writeRoute_54_2 _ 56 _ _ _ bk_Page_writeRoute_54_2_ok rfl ?_
      show am_EI m_Page_writeRoute kc ks 56 [.ref a0, .ref a1, .int x2] [.int x2, .ref a1] h41 Q
      obtain ⟨o42, t⟩ := t
      refine am_callV (M2 := m_Route_kindOf) (ci := 4) (a := a1) (kc := kc) (ks := ks) (k2c := 0) (k2s := 0) (as := []) [.int x2] dc_Page_writeRoute_56 lk_0_99 im_Route_kindOf se_Route_kindOf lm_Route_kindOf np_Route_kindOf ⟨Nat.le_of_ble_eq_true rfl, Nat.le_of_ble_eq_true rfl⟩ (fun _ => Nat.le_of_ble_eq_true rfl) (by decide) rfl o42 (am_Ei.end (am_Ei.mono t (fun r44 h43 t => ?_)))
      refine am_blk_ok (c := 0) (ini := false) (by decide) rfl (fun q => by cases q) bk_Page_writeRoute_59_1 _ 60 _ _ _ bk_Page_writeRoute_59_1_ok rfl ?_
      show am_EI m_Page_writeRoute kc ks 60 [.ref a0, .ref a1, .int x2] [.int 1, .int r44] h43 Q
      refine am_ic_ne (tgt := 72) dc_Page_writeRoute_60 (by decide) (fun c45 => ?_) (fun c45 => ?_)
      · replace t := t.1 c45
        refine am_blk_ok (c := 0) (ini := false) (by decide) rfl (fun q => by cases q) bk_Page_writeRoute_72_2 _ 74 _ _ _ bk_Page_writeRoute_72_2_ok rfl ?_
        show am_EI m_Page_writeRoute kc ks 74 [.ref a0, .ref a1, .int x2] [.int x2, .ref a1] h43 Q
        obtain ⟨o46, t⟩ := t
        refine am_callV (M2 := m_Route_kindOf) (ci := 4) (a := a1) (kc := kc) (ks := ks) (k2c := 0) (k2s := 0) (as := []) [.int x2] dc_Page_writeRoute_74 lk_0_99 im_Route_kindOf se_Route_kindOf lm_Route_kindOf np_Route_kindOf ⟨Nat.le_of_ble_eq_true rfl, Nat.le_of_ble_eq_true rfl⟩ (fun _ => Nat.le_of_ble_eq_true rfl) (by decide) rfl o46 (am_Ei.end (am_Ei.mono t (fun r48 h47 t => ?_)))
        refine am_blk_ok (c := 0) (ini := false) (by decide) rfl (fun q => by cases q) bk_Page_writeRoute_77_1 _ 78 _ _ _ bk_Page_writeRoute_77_1_ok rfl ?_
        show am_EI m_Page_writeRoute kc ks 78 [.ref a0, .ref a1, .int x2] [.int 2, .int r48] h47 Q
        refine am_ic_ne (tgt := 96) dc_Page_writeRoute_78 (by decide) (fun c49 => ?_) (fun c49 => ?_)
        · replace t := t.1 c49
          refine am_blk_ok (c := 0) (ini := false) (by decide) rfl (fun q => by cases q) bk_Page_writeRoute_96_2 _ 12 _ _ _ bk_Page_writeRoute_96_2_ok rfl ?_
          show am_EI m_Page_writeRoute kc ks 12 [.ref a0, .ref a1, .int (x2 + 1)] [] h47 Q
          exact t
        · replace t := t.2 c49
          refine am_blk_ok (c := 0) (ini := false) (by decide) rfl (fun q => by cases q) bk_Page_writeRoute_81_2 _ 84 _ _ _ bk_Page_writeRoute_81_2_ok rfl ?_
          show am_EI m_Page_writeRoute kc ks 84 [.ref a0, .ref a1, .int x2] [.int 126, .ref a0] h47 Q
          obtain ⟨o50, t⟩ := t
          refine am_callV (M2 := m_Page_put) (ci := 0) (a := a0) (kc := kc) (ks := ks) (k2c := 0) (k2s := 0) (as := []) [.int 126] dc_Page_writeRoute_84 lk_0_23 im_Page_put se_Page_put lm_Page_put np_Page_put ⟨Nat.le_of_ble_eq_true rfl, Nat.le_of_ble_eq_true rfl⟩ (fun _ => Nat.le_of_ble_eq_true rfl) (by decide) rfl o50 (am_Ew.end (am_Ew.mono t (fun h51 t => ?_)))
          refine am_blk_ok (c := 0) (ini := false) (by decide) rfl (fun q => by cases q) bk_Page_writeRoute_87_3 _ 90 _ _ _ bk_Page_writeRoute_87_3_ok rfl ?_
          show am_EI m_Page_writeRoute kc ks 90 [.ref a0, .ref a1, .int x2] [.int x2, .ref a1, .ref a0] h51 Q
          obtain ⟨o52, t⟩ := t
          refine am_callV (M2 := m_Route_levelOf) (ci := 4) (a := a1) (kc := kc) (ks := ks) (k2c := 0) (k2s := 0) (as := [.ref a0]) [.int x2] dc_Page_writeRoute_90 lk_0_102 im_Route_levelOf se_Route_levelOf lm_Route_levelOf np_Route_levelOf ⟨Nat.le_of_ble_eq_true rfl, Nat.le_of_ble_eq_true rfl⟩ (fun _ => Nat.le_of_ble_eq_true rfl) (by decide) rfl o52 (am_Ei.end (am_Ei.mono t (fun r54 h53 t => ?_)))
          obtain ⟨o55, t⟩ := t
          refine am_callV (M2 := m_Page_putNumber) (ci := 0) (a := a0) (kc := kc) (ks := ks) (k2c := 0) (k2s := 0) (as := []) [.int r54] dc_Page_writeRoute_93 lk_0_50 im_Page_putNumber se_Page_putNumber lm_Page_putNumber np_Page_putNumber ⟨Nat.le_of_ble_eq_true rfl, Nat.le_of_ble_eq_true rfl⟩ (fun _ => Nat.le_of_ble_eq_true rfl) (by decide) rfl o55 (am_Ew.end (am_Ew.mono t (fun h56 t => ?_)))
          refine am_blk_ok (c := 0) (ini := false) (by decide) rfl (fun q => by cases q) bk_Page_writeRoute_96_2 _ 12 _ _ _ bk_Page_writeRoute_96_2_ok rfl ?_
          show am_EI m_Page_writeRoute kc ks 12 [.ref a0, .ref a1, .int (x2 + 1)] [] h56 Q
          exact t
      · replace t := t.2 c45
        refine am_blk_ok (c := 0) (ini := false) (by decide) rfl (fun q => by cases q) bk_Page_writeRoute_63_2 _ 66 _ _ _ bk_Page_writeRoute_63_2_ok rfl ?_
        show am_EI m_Page_writeRoute kc ks 66 [.ref a0, .ref a1, .int x2] [.int 33, .ref a0] h43 Q
        obtain ⟨o57, t⟩ := t
        refine am_callV (M2 := m_Page_put) (ci := 0) (a := a0) (kc := kc) (ks := ks) (k2c := 0) (k2s := 0) (as := []) [.int 33] dc_Page_writeRoute_66 lk_0_23 im_Page_put se_Page_put lm_Page_put np_Page_put ⟨Nat.le_of_ble_eq_true rfl, Nat.le_of_ble_eq_true rfl⟩ (fun _ => Nat.le_of_ble_eq_true rfl) (by decide) rfl o57 (am_Ew.end (am_Ew.mono t (fun h58 t => ?_)))
        refine am_blk_ok (c := 0) (ini := false) (by decide) rfl (fun q => by cases q) bk_Page_writeRoute_69_3 _ 12 _ _ _ bk_Page_writeRoute_69_3_ok rfl ?_
        show am_EI m_Page_writeRoute kc ks 12 [.ref a0, .ref a1, .int (x2 + 1)] [] h58 Q
        exact t
def bk_Page_writeShip_0_4 : List am_E := [(0, .aload_n 0, 1, 0, 0), (1, .iconst 0, 1, 0, 0), (2, .putfield 13, 3, 4, 0), (5, .aload_n 1, 1, 0, 0)]
theorem bk_Page_writeShip_0_4_ok : bk_Page_writeShip_0_4.all (am_ok 0 false m_Page_writeShip.2.1) = true := by decide +kernel
def bk_Page_writeShip_10_2 : List am_E := [(10, .aload_n 0, 1, 0, 0), (11, .aload_n 1, 1, 0, 0)]
theorem bk_Page_writeShip_10_2_ok : bk_Page_writeShip_10_2.all (am_ok 0 false m_Page_writeShip.2.1) = true := by decide +kernel
def bk_Page_writeShip_18_2 : List am_E := [(18, .aload_n 0, 1, 0, 0), (19, .bipush 32, 2, 0, 32)]
theorem bk_Page_writeShip_18_2_ok : bk_Page_writeShip_18_2.all (am_ok 0 false m_Page_writeShip.2.1) = true := by decide +kernel
def bk_Page_writeShip_24_2 : List am_E := [(24, .aload_n 0, 1, 0, 0), (25, .aload_n 1, 1, 0, 0)]
theorem bk_Page_writeShip_24_2_ok : bk_Page_writeShip_24_2.all (am_ok 0 false m_Page_writeShip.2.1) = true := by decide +kernel
def bk_Page_writeShip_32_2 : List am_E := [(32, .aload_n 0, 1, 0, 0), (33, .bipush 32, 2, 0, 32)]
theorem bk_Page_writeShip_32_2_ok : bk_Page_writeShip_32_2.all (am_ok 0 false m_Page_writeShip.2.1) = true := by decide +kernel
def bk_Page_writeShip_38_2 : List am_E := [(38, .aload_n 0, 1, 0, 0), (39, .aload_n 1, 1, 0, 0)]
theorem bk_Page_writeShip_38_2_ok : bk_Page_writeShip_38_2.all (am_ok 0 false m_Page_writeShip.2.1) = true := by decide +kernel
theorem dc_Page_writeShip_6 : decode m_Page_writeShip.2.1 6 = .ok (.ifnonnull 4, 3) := by decide +kernel
theorem dc_Page_writeShip_12 : decode m_Page_writeShip.2.1 12 = .ok (.invokevirtual 75, 3) := by decide +kernel
theorem dc_Page_writeShip_15 : decode m_Page_writeShip.2.1 15 = .ok (.invokevirtual 50, 3) := by decide +kernel
theorem dc_Page_writeShip_21 : decode m_Page_writeShip.2.1 21 = .ok (.invokevirtual 23, 3) := by decide +kernel
theorem dc_Page_writeShip_26 : decode m_Page_writeShip.2.1 26 = .ok (.invokevirtual 80, 3) := by decide +kernel
theorem dc_Page_writeShip_29 : decode m_Page_writeShip.2.1 29 = .ok (.invokevirtual 50, 3) := by decide +kernel
theorem dc_Page_writeShip_35 : decode m_Page_writeShip.2.1 35 = .ok (.invokevirtual 23, 3) := by decide +kernel
theorem dc_Page_writeShip_40 : decode m_Page_writeShip.2.1 40 = .ok (.invokevirtual 83, 3) := by decide +kernel
theorem dc_Page_writeShip_43 : decode m_Page_writeShip.2.1 43 = .ok (.invokevirtual 50, 3) := by decide +kernel
theorem dc_Page_writeShip_46 : decode m_Page_writeShip.2.1 46 = .ok (.return_, 1) := by decide +kernel
set_option maxRecDepth 20000 in
theorem sg_Page_writeShip_0 {kc ks : Nat} (a0 a1 : Nat) (h : am_H) (Q : Option Value → am_H → Prop) (t : (am_tg h a0 = (0, 2) ∧ (am_tg h a1 = (6, 3) ∧ (am_Ei m_Ship_draught 0 0 [.ref a1] (am_si h a0 1 0) (fun r4 h3 => (am_tg h3 a0 = (0, 2) ∧ (am_Ew m_Page_putNumber 0 0 [.ref a0, .int r4] h3 (fun h6 => (am_tg h6 a0 = (0, 2) ∧ (am_Ew m_Page_put 0 0 [.ref a0, .int 32] h6 (fun h8 => (am_tg h8 a1 = (6, 3) ∧ (am_Ei m_Ship_mast 0 0 [.ref a1] h8 (fun r11 h10 => (am_tg h10 a0 = (0, 2) ∧ (am_Ew m_Page_putNumber 0 0 [.ref a0, .int r11] h10 (fun h13 => (am_tg h13 a0 = (0, 2) ∧ (am_Ew m_Page_put 0 0 [.ref a0, .int 32] h13 (fun h15 => (am_tg h15 a1 = (6, 3) ∧ (am_Ei m_Ship_pace 0 0 [.ref a1] h15 (fun r18 h17 => (am_tg h17 a0 = (0, 2) ∧ (am_Ew m_Page_putNumber 0 0 [.ref a0, .int r18] h17 (fun h20 => Q none h20)))))))))))))))))))))))))) : am_EI m_Page_writeShip kc ks 0 [.ref a0, .ref a1] [] h Q := by
  refine am_blk_ok (c := 0) (ini := false) (by decide) rfl (fun q => by cases q) bk_Page_writeShip_0_4 _ 6 _ _ _ bk_Page_writeShip_0_4_ok rfl ?_
  show (am_tg h a0 = (0, 2) ∧ am_EI m_Page_writeShip kc ks 6 [.ref a0, .ref a1] [.ref a1] (am_si h a0 1 0) Q)
  obtain ⟨o1, t⟩ := t
  refine ⟨o1, ?_⟩
  refine am_ifnonnull (tgt := 10) dc_Page_writeShip_6 (by decide) ?_
  refine am_blk_ok (c := 0) (ini := false) (by decide) rfl (fun q => by cases q) bk_Page_writeShip_10_2 _ 12 _ _ _ bk_Page_writeShip_10_2_ok rfl ?_
  show am_EI m_Page_writeShip kc ks 12 [.ref a0, .ref a1] [.ref a1, .ref a0] (am_si h a0 1 0) Q
  obtain ⟨o2, t⟩ := t
  refine am_callV (M2 := m_Ship_draught) (ci := 6) (a := a1) (kc := kc) (ks := ks) (k2c := 0) (k2s := 0) (as := [.ref a0]) [] dc_Page_writeShip_12 lk_0_75 im_Ship_draught se_Ship_draught lm_Ship_draught np_Ship_draught ⟨Nat.le_of_ble_eq_true rfl, Nat.le_of_ble_eq_true rfl⟩ (fun _ => Nat.le_of_ble_eq_true rfl) (by decide) rfl o2 (am_Ei.end (am_Ei.mono t (fun r4 h3 t => ?_)))
  obtain ⟨o5, t⟩ := t
  refine am_callV (M2 := m_Page_putNumber) (ci := 0) (a := a0) (kc := kc) (ks := ks) (k2c := 0) (k2s := 0) (as := []) [.int r4] dc_Page_writeShip_15 lk_0_50 im_Page_putNumber se_Page_putNumber lm_Page_putNumber np_Page_putNumber ⟨Nat.le_of_ble_eq_true rfl, Nat.le_of_ble_eq_true rfl⟩ (fun _ => Nat.le_of_ble_eq_true rfl) (by decide) rfl o5 (am_Ew.end (am_Ew.mono t (fun h6 t => ?_)))
  refine am_blk_ok (c := 0) (ini := false) (by decide) rfl (fun q => by cases q) bk_Page_writeShip_18_2 _ 21 _ _ _ bk_Page_writeShip_18_2_ok rfl ?_
  show am_EI m_Page_writeShip kc ks 21 [.ref a0, .ref a1] [.int 32, .ref a0] h6 Q
  obtain ⟨o7, t⟩ := t
  refine am_callV (M2 := m_Page_put) (ci := 0) (a := a0) (kc := kc) (ks := ks) (k2c := 0) (k2s := 0) (as := []) [.int 32] dc_Page_writeShip_21 lk_0_23 im_Page_put se_Page_put lm_Page_put np_Page_put ⟨Nat.le_of_ble_eq_true rfl, Nat.le_of_ble_eq_true rfl⟩ (fun _ => Nat.le_of_ble_eq_true rfl) (by decide) rfl o7 (am_Ew.end (am_Ew.mono t (fun h8 t => ?_)))
  refine am_blk_ok (c := 0) (ini := false) (by decide) rfl (fun q => by cases q) bk_Page_writeShip_24_2 _ 26 _ _ _ bk_Page_writeShip_24_2_ok rfl ?_
  show am_EI m_Page_writeShip kc ks 26 [.ref a0, .ref a1] [.ref a1, .ref a0] h8 Q
  obtain ⟨o9, t⟩ := t
  refine am_callV (M2 := m_Ship_mast) (ci := 6) (a := a1) (kc := kc) (ks := ks) (k2c := 0) (k2s := 0) (as := [.ref a0]) [] dc_Page_writeShip_26 lk_0_80 im_Ship_mast se_Ship_mast lm_Ship_mast np_Ship_mast ⟨Nat.le_of_ble_eq_true rfl, Nat.le_of_ble_eq_true rfl⟩ (fun _ => Nat.le_of_ble_eq_true rfl) (by decide) rfl o9 (am_Ei.end (am_Ei.mono t (fun r11 h10 t => ?_)))
  obtain ⟨o12, t⟩ := t
  refine am_callV (M2 := m_Page_putNumber) (ci := 0) (a := a0) (kc := kc) (ks := ks) (k2c := 0) (k2s := 0) (as := []) [.int r11] dc_Page_writeShip_29 lk_0_50 im_Page_putNumber se_Page_putNumber lm_Page_putNumber np_Page_putNumber ⟨Nat.le_of_ble_eq_true rfl, Nat.le_of_ble_eq_true rfl⟩ (fun _ => Nat.le_of_ble_eq_true rfl) (by decide) rfl o12 (am_Ew.end (am_Ew.mono t (fun h13 t => ?_)))
  refine am_blk_ok (c := 0) (ini := false) (by decide) rfl (fun q => by cases q) bk_Page_writeShip_32_2 _ 35 _ _ _ bk_Page_writeShip_32_2_ok rfl ?_
  show am_EI m_Page_writeShip kc ks 35 [.ref a0, .ref a1] [.int 32, .ref a0] h13 Q
  obtain ⟨o14, t⟩ := t
  refine am_callV (M2 := m_Page_put) (ci := 0) (a := a0) (kc := kc) (ks := ks) (k2c := 0) (k2s := 0) (as := []) [.int 32] dc_Page_writeShip_35 lk_0_23 im_Page_put se_Page_put lm_Page_put np_Page_put ⟨Nat.le_of_ble_eq_true rfl, Nat.le_of_ble_eq_true rfl⟩ (fun _ => Nat.le_of_ble_eq_true rfl) (by decide) rfl o14 (am_Ew.end (am_Ew.mono t (fun h15 t => ?_)))
  refine am_blk_ok (c := 0) (ini := false) (by decide) rfl (fun q => by cases q) bk_Page_writeShip_38_2 _ 40 _ _ _ bk_Page_writeShip_38_2_ok rfl ?_
  show am_EI m_Page_writeShip kc ks 40 [.ref a0, .ref a1] [.ref a1, .ref a0] h15 Q
  obtain ⟨o16, t⟩ := t
  refine am_callV (M2 := m_Ship_pace) (ci := 6) (a := a1) (kc := kc) (ks := ks) (k2c := 0) (k2s := 0) (as := [.ref a0]) [] dc_Page_writeShip_40 lk_0_83 im_Ship_pace se_Ship_pace lm_Ship_pace np_Ship_pace ⟨Nat.le_of_ble_eq_true rfl, Nat.le_of_ble_eq_true rfl⟩ (fun _ => Nat.le_of_ble_eq_true rfl) (by decide) rfl o16 (am_Ei.end (am_Ei.mono t (fun r18 h17 t => ?_)))
  obtain ⟨o19, t⟩ := t
  refine am_callV (M2 := m_Page_putNumber) (ci := 0) (a := a0) (kc := kc) (ks := ks) (k2c := 0) (k2s := 0) (as := []) [.int r18] dc_Page_writeShip_43 lk_0_50 im_Page_putNumber se_Page_putNumber lm_Page_putNumber np_Page_putNumber ⟨Nat.le_of_ble_eq_true rfl, Nat.le_of_ble_eq_true rfl⟩ (fun _ => Nat.le_of_ble_eq_true rfl) (by decide) rfl o19 (am_Ew.end (am_Ew.mono t (fun h20 t => ?_)))
  exact am_vret dc_Page_writeShip_46 rfl t
set_option maxRecDepth 20000 in
theorem ev_Page_writeShip (a0 a1 : Nat) (h : am_H) (Q : am_H → Prop) (t : (am_tg h a0 = (0, 2) ∧ (am_tg h a1 = (6, 3) ∧ (am_Ei m_Ship_draught 0 0 [.ref a1] (am_si h a0 1 0) (fun r4 h3 => (am_tg h3 a0 = (0, 2) ∧ (am_Ew m_Page_putNumber 0 0 [.ref a0, .int r4] h3 (fun h6 => (am_tg h6 a0 = (0, 2) ∧ (am_Ew m_Page_put 0 0 [.ref a0, .int 32] h6 (fun h8 => (am_tg h8 a1 = (6, 3) ∧ (am_Ei m_Ship_mast 0 0 [.ref a1] h8 (fun r11 h10 => (am_tg h10 a0 = (0, 2) ∧ (am_Ew m_Page_putNumber 0 0 [.ref a0, .int r11] h10 (fun h13 => (am_tg h13 a0 = (0, 2) ∧ (am_Ew m_Page_put 0 0 [.ref a0, .int 32] h13 (fun h15 => (am_tg h15 a1 = (6, 3) ∧ (am_Ei m_Ship_pace 0 0 [.ref a1] h15 (fun r18 h17 => (am_tg h17 a0 = (0, 2) ∧ (am_Ew m_Page_putNumber 0 0 [.ref a0, .int r18] h17 (fun h20 => Q h20)))))))))))))))))))))))))) : am_Ew m_Page_writeShip 0 0 [.ref a0, .ref a1] h Q :=
  am_Ev.of (by decide +kernel) (Nat.le_of_ble_eq_true rfl) (by simp only [List.mem_cons, List.not_mem_nil, or_false]; intro v hv; rcases hv with rfl | rfl; all_goals first | exact trivial) (sg_Page_writeShip_0 (kc := 0) (ks := 0) a0 a1 h (am_qw Q) t)
def bk_Page_writeSill_0_4 : List am_E := [(0, .aload_n 0, 1, 0, 0), (1, .iconst 0, 1, 0, 0), (2, .putfield 13, 3, 4, 0), (5, .aload_n 1, 1, 0, 0)]
theorem bk_Page_writeSill_0_4_ok : bk_Page_writeSill_0_4.all (am_ok 0 false m_Page_writeSill.2.1) = true := by decide +kernel
def bk_Page_writeSill_10_2 : List am_E := [(10, .aload_n 0, 1, 0, 0), (11, .aload_n 1, 1, 0, 0)]
theorem bk_Page_writeSill_10_2_ok : bk_Page_writeSill_10_2.all (am_ok 0 false m_Page_writeSill.2.1) = true := by decide +kernel
def bk_Page_writeSill_21_2 : List am_E := [(21, .aload_n 0, 1, 0, 0), (22, .bipush 32, 2, 0, 32)]
theorem bk_Page_writeSill_21_2_ok : bk_Page_writeSill_21_2.all (am_ok 0 false m_Page_writeSill.2.1) = true := by decide +kernel
def bk_Page_writeSill_27_2 : List am_E := [(27, .aload_n 0, 1, 0, 0), (28, .aload_n 1, 1, 0, 0)]
theorem bk_Page_writeSill_27_2_ok : bk_Page_writeSill_27_2.all (am_ok 0 false m_Page_writeSill.2.1) = true := by decide +kernel
def bk_Page_writeSill_35_1 : List am_E := [(35, .aload_n 1, 1, 0, 0)]
theorem bk_Page_writeSill_35_1_ok : bk_Page_writeSill_35_1.all (am_ok 0 false m_Page_writeSill.2.1) = true := by decide +kernel
def bk_Page_writeSill_42_2 : List am_E := [(42, .aload_n 0, 1, 0, 0), (43, .bipush 32, 2, 0, 32)]
theorem bk_Page_writeSill_42_2_ok : bk_Page_writeSill_42_2.all (am_ok 0 false m_Page_writeSill.2.1) = true := by decide +kernel
def bk_Page_writeSill_48_2 : List am_E := [(48, .aload_n 0, 1, 0, 0), (49, .aload_n 1, 1, 0, 0)]
theorem bk_Page_writeSill_48_2_ok : bk_Page_writeSill_48_2.all (am_ok 0 false m_Page_writeSill.2.1) = true := by decide +kernel
def bk_Page_writeSill_56_2 : List am_E := [(56, .aload_n 0, 1, 0, 0), (57, .bipush 32, 2, 0, 32)]
theorem bk_Page_writeSill_56_2_ok : bk_Page_writeSill_56_2.all (am_ok 0 false m_Page_writeSill.2.1) = true := by decide +kernel
def bk_Page_writeSill_62_2 : List am_E := [(62, .aload_n 0, 1, 0, 0), (63, .aload_n 1, 1, 0, 0)]
theorem bk_Page_writeSill_62_2_ok : bk_Page_writeSill_62_2.all (am_ok 0 false m_Page_writeSill.2.1) = true := by decide +kernel
theorem dc_Page_writeSill_6 : decode m_Page_writeSill.2.1 6 = .ok (.ifnonnull 4, 3) := by decide +kernel
theorem dc_Page_writeSill_12 : decode m_Page_writeSill.2.1 12 = .ok (.invokevirtual 53, 3) := by decide +kernel
theorem dc_Page_writeSill_15 : decode m_Page_writeSill.2.1 15 = .ok (.invokestatic 58, 3) := by decide +kernel
theorem dc_Page_writeSill_18 : decode m_Page_writeSill.2.1 18 = .ok (.invokevirtual 35, 3) := by decide +kernel
theorem dc_Page_writeSill_24 : decode m_Page_writeSill.2.1 24 = .ok (.invokevirtual 23, 3) := by decide +kernel
theorem dc_Page_writeSill_29 : decode m_Page_writeSill.2.1 29 = .ok (.invokevirtual 62, 3) := by decide +kernel
theorem dc_Page_writeSill_32 : decode m_Page_writeSill.2.1 32 = .ok (.invokevirtual 50, 3) := by decide +kernel
theorem dc_Page_writeSill_36 : decode m_Page_writeSill.2.1 36 = .ok (.invokevirtual 65, 3) := by decide +kernel
theorem dc_Page_writeSill_70 : decode m_Page_writeSill.2.1 70 = .ok (.return_, 1) := by decide +kernel
theorem dc_Page_writeSill_45 : decode m_Page_writeSill.2.1 45 = .ok (.invokevirtual 23, 3) := by decide +kernel
theorem dc_Page_writeSill_50 : decode m_Page_writeSill.2.1 50 = .ok (.invokevirtual 69, 3) := by decide +kernel
theorem dc_Page_writeSill_53 : decode m_Page_writeSill.2.1 53 = .ok (.invokevirtual 50, 3) := by decide +kernel
theorem dc_Page_writeSill_59 : decode m_Page_writeSill.2.1 59 = .ok (.invokevirtual 23, 3) := by decide +kernel
theorem dc_Page_writeSill_64 : decode m_Page_writeSill.2.1 64 = .ok (.invokevirtual 72, 3) := by decide +kernel
theorem dc_Page_writeSill_67 : decode m_Page_writeSill.2.1 67 = .ok (.invokevirtual 50, 3) := by decide +kernel
theorem dc_Page_writeSill_39 : decode m_Page_writeSill.2.1 39 = .ok (.ifCond .eq 31, 3) := by decide +kernel
set_option maxRecDepth 20000 in
theorem sg_Page_writeSill_0 {kc ks : Nat} (a0 a1 : Nat) (h : am_H) (Q : Option Value → am_H → Prop) (t : (am_tg h a0 = (0, 2) ∧ (am_tg h a1 = (7, 5) ∧ (am_Ei m_Sill_kind 0 0 [.ref a1] (am_si h a0 1 0) (fun r4 h3 => (am_Ec m_Page_wordOf 0 0 [.int r4] h3 (fun j6 h5 => (am_tg h5 a0 = (0, 2) ∧ (am_Ew m_Page_putText 0 0 [.ref a0, .retAddr j6] h5 (fun h8 => (am_tg h8 a0 = (0, 2) ∧ (am_Ew m_Page_put 0 0 [.ref a0, .int 32] h8 (fun h10 => (am_tg h10 a1 = (7, 5) ∧ (am_Ei m_Sill_level 0 0 [.ref a1] h10 (fun r13 h12 => (am_tg h12 a0 = (0, 2) ∧ (am_Ew m_Page_putNumber 0 0 [.ref a0, .int r13] h12 (fun h15 => (am_tg h15 a1 = (7, 5) ∧ (am_Ei m_Sill_hasTwoNumbers 0 0 [.ref a1] h15 (fun r18 h17 => ((r18 = 0 → Q none h17) ∧ (¬ r18 = 0 → (am_tg h17 a0 = (0, 2) ∧ (am_Ew m_Page_put 0 0 [.ref a0, .int 32] h17 (fun h21 => (am_tg h21 a1 = (7, 5) ∧ (am_Ei m_Sill_one 0 0 [.ref a1] h21 (fun r24 h23 => (am_tg h23 a0 = (0, 2) ∧ (am_Ew m_Page_putNumber 0 0 [.ref a0, .int r24] h23 (fun h26 => (am_tg h26 a0 = (0, 2) ∧ (am_Ew m_Page_put 0 0 [.ref a0, .int 32] h26 (fun h28 => (am_tg h28 a1 = (7, 5) ∧ (am_Ei m_Sill_two 0 0 [.ref a1] h28 (fun r31 h30 => (am_tg h30 a0 = (0, 2) ∧ (am_Ew m_Page_putNumber 0 0 [.ref a0, .int r31] h30 (fun h33 => Q none h33)))))))))))))))))))))))))))))))))))))))))) : am_EI m_Page_writeSill kc ks 0 [.ref a0, .ref a1] [] h Q := by
  refine am_blk_ok (c := 0) (ini := false) (by decide) rfl (fun q => by cases q) bk_Page_writeSill_0_4 _ 6 _ _ _ bk_Page_writeSill_0_4_ok rfl ?_
  show (am_tg h a0 = (0, 2) ∧ am_EI m_Page_writeSill kc ks 6 [.ref a0, .ref a1] [.ref a1] (am_si h a0 1 0) Q)
  obtain ⟨o1, t⟩ := t
  refine ⟨o1, ?_⟩
  refine am_ifnonnull (tgt := 10) dc_Page_writeSill_6 (by decide) ?_
  refine am_blk_ok (c := 0) (ini := false) (by decide) rfl (fun q => by cases q) bk_Page_writeSill_10_2 _ 12 _ _ _ bk_Page_writeSill_10_2_ok rfl ?_
  show am_EI m_Page_writeSill kc ks 12 [.ref a0, .ref a1] [.ref a1, .ref a0] (am_si h a0 1 0) Q
  obtain ⟨o2, t⟩ := t
  refine am_callV (M2 := m_Sill_kind) (ci := 7) (a := a1) (kc := kc) (ks := ks) (k2c := 0) (k2s := 0) (as := [.ref a0]) [] dc_Page_writeSill_12 lk_0_53 im_Sill_kind se_Sill_kind lm_Sill_kind np_Sill_kind ⟨Nat.le_of_ble_eq_true rfl, Nat.le_of_ble_eq_true rfl⟩ (fun _ => Nat.le_of_ble_eq_true rfl) (by decide) rfl o2 (am_Ei.end (am_Ei.mono t (fun r4 h3 t => ?_)))
  refine am_callS (M2 := m_Page_wordOf) (kc := kc) (ks := ks) (k2c := 0) (k2s := 0) (as := [.ref a0]) [.int r4] dc_Page_writeSill_15 lk_0_58 st_Page_wordOf lm_Page_wordOf np_Page_wordOf ⟨Nat.le_of_ble_eq_true rfl, Nat.le_of_ble_eq_true rfl⟩ (fun _ => Nat.le_of_ble_eq_true rfl) (am_Ec.end (am_Ec.mono t (fun j6 h5 t => ?_)))
  obtain ⟨o7, t⟩ := t
  refine am_callV (M2 := m_Page_putText) (ci := 0) (a := a0) (kc := kc) (ks := ks) (k2c := 0) (k2s := 0) (as := []) [.retAddr j6] dc_Page_writeSill_18 lk_0_35 im_Page_putText se_Page_putText lm_Page_putText np_Page_putText ⟨Nat.le_of_ble_eq_true rfl, Nat.le_of_ble_eq_true rfl⟩ (fun _ => Nat.le_of_ble_eq_true rfl) (by decide) rfl o7 (am_Ew.end (am_Ew.mono t (fun h8 t => ?_)))
  refine am_blk_ok (c := 0) (ini := false) (by decide) rfl (fun q => by cases q) bk_Page_writeSill_21_2 _ 24 _ _ _ bk_Page_writeSill_21_2_ok rfl ?_
  show am_EI m_Page_writeSill kc ks 24 [.ref a0, .ref a1] [.int 32, .ref a0] h8 Q
  obtain ⟨o9, t⟩ := t
  refine am_callV (M2 := m_Page_put) (ci := 0) (a := a0) (kc := kc) (ks := ks) (k2c := 0) (k2s := 0) (as := []) [.int 32] dc_Page_writeSill_24 lk_0_23 im_Page_put se_Page_put lm_Page_put np_Page_put ⟨Nat.le_of_ble_eq_true rfl, Nat.le_of_ble_eq_true rfl⟩ (fun _ => Nat.le_of_ble_eq_true rfl) (by decide) rfl o9 (am_Ew.end (am_Ew.mono t (fun h10 t => ?_)))
  refine am_blk_ok (c := 0) (ini := false) (by decide) rfl (fun q => by cases q) bk_Page_writeSill_27_2 _ 29 _ _ _ bk_Page_writeSill_27_2_ok rfl ?_
  show am_EI m_Page_writeSill kc ks 29 [.ref a0, .ref a1] [.ref a1, .ref a0] h10 Q
  obtain ⟨o11, t⟩ := t
  refine am_callV (M2 := m_Sill_level) (ci := 7) (a := a1) (kc := kc) (ks := ks) (k2c := 0) (k2s := 0) (as := [.ref a0]) [] dc_Page_writeSill_29 lk_0_62 im_Sill_level se_Sill_level lm_Sill_level np_Sill_level ⟨Nat.le_of_ble_eq_true rfl, Nat.le_of_ble_eq_true rfl⟩ (fun _ => Nat.le_of_ble_eq_true rfl) (by decide) rfl o11 (am_Ei.end (am_Ei.mono t (fun r13 h12 t => ?_)))
  obtain ⟨o14, t⟩ := t
  refine am_callV (M2 := m_Page_putNumber) (ci := 0) (a := a0) (kc := kc) (ks := ks) (k2c := 0) (k2s := 0) (as := []) [.int r13] dc_Page_writeSill_32 lk_0_50 im_Page_putNumber se_Page_putNumber lm_Page_putNumber np_Page_putNumber ⟨Nat.le_of_ble_eq_true rfl, Nat.le_of_ble_eq_true rfl⟩ (fun _ => Nat.le_of_ble_eq_true rfl) (by decide) rfl o14 (am_Ew.end (am_Ew.mono t (fun h15 t => ?_)))
  refine am_blk_ok (c := 0) (ini := false) (by decide) rfl (fun q => by cases q) bk_Page_writeSill_35_1 _ 36 _ _ _ bk_Page_writeSill_35_1_ok rfl ?_
  show am_EI m_Page_writeSill kc ks 36 [.ref a0, .ref a1] [.ref a1] h15 Q
  obtain ⟨o16, t⟩ := t
  refine am_callV (M2 := m_Sill_hasTwoNumbers) (ci := 7) (a := a1) (kc := kc) (ks := ks) (k2c := 0) (k2s := 0) (as := []) [] dc_Page_writeSill_36 lk_0_65 im_Sill_hasTwoNumbers se_Sill_hasTwoNumbers lm_Sill_hasTwoNumbers np_Sill_hasTwoNumbers ⟨Nat.le_of_ble_eq_true rfl, Nat.le_of_ble_eq_true rfl⟩ (fun _ => Nat.le_of_ble_eq_true rfl) (by decide) rfl o16 (am_Ei.end (am_Ei.mono t (fun r18 h17 t => ?_)))
  refine am_if_eq (tgt := 70) dc_Page_writeSill_39 (by decide) (fun c19 => ?_) (fun c19 => ?_)
  · replace t := t.1 c19
    exact am_vret dc_Page_writeSill_70 rfl t
  · replace t := t.2 c19
    refine am_blk_ok (c := 0) (ini := false) (by decide) rfl (fun q => by cases q) bk_Page_writeSill_42_2 _ 45 _ _ _ bk_Page_writeSill_42_2_ok rfl ?_
    show am_EI m_Page_writeSill kc ks 45 [.ref a0, .ref a1] [.int 32, .ref a0] h17 Q
    obtain ⟨o20, t⟩ := t
    refine am_callV (M2 := m_Page_put) (ci := 0) (a := a0) (kc := kc) (ks := ks) (k2c := 0) (k2s := 0) (as := []) [.int 32] dc_Page_writeSill_45 lk_0_23 im_Page_put se_Page_put lm_Page_put np_Page_put ⟨Nat.le_of_ble_eq_true rfl, Nat.le_of_ble_eq_true rfl⟩ (fun _ => Nat.le_of_ble_eq_true rfl) (by decide) rfl o20 (am_Ew.end (am_Ew.mono t (fun h21 t => ?_)))
    refine am_blk_ok (c := 0) (ini := false) (by decide) rfl (fun q => by cases q) bk_Page_writeSill_48_2 _ 50 _ _ _ bk_Page_writeSill_48_2_ok rfl ?_
    show am_EI m_Page_writeSill kc ks 50 [.ref a0, .ref a1] [.ref a1, .ref a0] h21 Q
    obtain ⟨o22, t⟩ := t
    refine am_callV (M2 := m_Sill_one) (ci := 7) (a := a1) (kc := kc) (ks := ks) (k2c := 0) (k2s := 0) (as := [.ref a0]) [] dc_Page_writeSill_50 lk_0_69 im_Sill_one se_Sill_one lm_Sill_one np_Sill_one ⟨Nat.le_of_ble_eq_true rfl, Nat.le_of_ble_eq_true rfl⟩ (fun _ => Nat.le_of_ble_eq_true rfl) (by decide) rfl o22 (am_Ei.end (am_Ei.mono t (fun r24 h23 t => ?_)))
    obtain ⟨o25, t⟩ := t
    refine am_callV (M2 := m_Page_putNumber) (ci := 0) (a := a0) (kc := kc) (ks := ks) (k2c := 0) (k2s := 0) (as := []) [.int r24] dc_Page_writeSill_53 lk_0_50 im_Page_putNumber se_Page_putNumber lm_Page_putNumber np_Page_putNumber ⟨Nat.le_of_ble_eq_true rfl, Nat.le_of_ble_eq_true rfl⟩ (fun _ => Nat.le_of_ble_eq_true rfl) (by decide) rfl o25 (am_Ew.end (am_Ew.mono t (fun h26 t => ?_)))
    refine am_blk_ok (c := 0) (ini := false) (by decide) rfl (fun q => by cases q) bk_Page_writeSill_56_2 _ 59 _ _ _ bk_Page_writeSill_56_2_ok rfl ?_
    show am_EI m_Page_writeSill kc ks 59 [.ref a0, .ref a1] [.int 32, .ref a0] h26 Q
    obtain ⟨o27, t⟩ := t
    refine am_callV (M2 := m_Page_put) (ci := 0) (a := a0) (kc := kc) (ks := ks) (k2c := 0) (k2s := 0) (as := []) [.int 32] dc_Page_writeSill_59 lk_0_23 im_Page_put se_Page_put lm_Page_put np_Page_put ⟨Nat.le_of_ble_eq_true rfl, Nat.le_of_ble_eq_true rfl⟩ (fun _ => Nat.le_of_ble_eq_true rfl) (by decide) rfl o27 (am_Ew.end (am_Ew.mono t (fun h28 t => ?_)))
    refine am_blk_ok (c := 0) (ini := false) (by decide) rfl (fun q => by cases q) bk_Page_writeSill_62_2 _ 64 _ _ _ bk_Page_writeSill_62_2_ok rfl ?_
    show am_EI m_Page_writeSill kc ks 64 [.ref a0, .ref a1] [.ref a1, .ref a0] h28 Q
    obtain ⟨o29, t⟩ := t
    refine am_callV (M2 := m_Sill_two) (ci := 7) (a := a1) (kc := kc) (ks := ks) (k2c := 0) (k2s := 0) (as := [.ref a0]) [] dc_Page_writeSill_64 lk_0_72 im_Sill_two se_Sill_two lm_Sill_two np_Sill_two ⟨Nat.le_of_ble_eq_true rfl, Nat.le_of_ble_eq_true rfl⟩ (fun _ => Nat.le_of_ble_eq_true rfl) (by decide) rfl o29 (am_Ei.end (am_Ei.mono t (fun r31 h30 t => ?_)))
    obtain ⟨o32, t⟩ := t
    refine am_callV (M2 := m_Page_putNumber) (ci := 0) (a := a0) (kc := kc) (ks := ks) (k2c := 0) (k2s := 0) (as := []) [.int r31] dc_Page_writeSill_67 lk_0_50 im_Page_putNumber se_Page_putNumber lm_Page_putNumber np_Page_putNumber ⟨Nat.le_of_ble_eq_true rfl, Nat.le_of_ble_eq_true rfl⟩ (fun _ => Nat.le_of_ble_eq_true rfl) (by decide) rfl o32 (am_Ew.end (am_Ew.mono t (fun h33 t => ?_)))
    exact am_vret dc_Page_writeSill_70 rfl t
set_option maxRecDepth 20000 in
theorem ev_Page_writeSill (a0 a1 : Nat) (h : am_H) (Q : am_H → Prop) (t : (am_tg h a0 = (0, 2) ∧ (am_tg h a1 = (7, 5) ∧ (am_Ei m_Sill_kind 0 0 [.ref a1] (am_si h a0 1 0) (fun r4 h3 => (am_Ec m_Page_wordOf 0 0 [.int r4] h3 (fun j6 h5 => (am_tg h5 a0 = (0, 2) ∧ (am_Ew m_Page_putText 0 0 [.ref a0, .retAddr j6] h5 (fun h8 => (am_tg h8 a0 = (0, 2) ∧ (am_Ew m_Page_put 0 0 [.ref a0, .int 32] h8 (fun h10 => (am_tg h10 a1 = (7, 5) ∧ (am_Ei m_Sill_level 0 0 [.ref a1] h10 (fun r13 h12 => (am_tg h12 a0 = (0, 2) ∧ (am_Ew m_Page_putNumber 0 0 [.ref a0, .int r13] h12 (fun h15 => (am_tg h15 a1 = (7, 5) ∧ (am_Ei m_Sill_hasTwoNumbers 0 0 [.ref a1] h15 (fun r18 h17 => ((r18 = 0 → Q h17) ∧ (¬ r18 = 0 → (am_tg h17 a0 = (0, 2) ∧ (am_Ew m_Page_put 0 0 [.ref a0, .int 32] h17 (fun h21 => (am_tg h21 a1 = (7, 5) ∧ (am_Ei m_Sill_one 0 0 [.ref a1] h21 (fun r24 h23 => (am_tg h23 a0 = (0, 2) ∧ (am_Ew m_Page_putNumber 0 0 [.ref a0, .int r24] h23 (fun h26 => (am_tg h26 a0 = (0, 2) ∧ (am_Ew m_Page_put 0 0 [.ref a0, .int 32] h26 (fun h28 => (am_tg h28 a1 = (7, 5) ∧ (am_Ei m_Sill_two 0 0 [.ref a1] h28 (fun r31 h30 => (am_tg h30 a0 = (0, 2) ∧ (am_Ew m_Page_putNumber 0 0 [.ref a0, .int r31] h30 (fun h33 => Q h33)))))))))))))))))))))))))))))))))))))))))) : am_Ew m_Page_writeSill 0 0 [.ref a0, .ref a1] h Q :=
  am_Ev.of (by decide +kernel) (Nat.le_of_ble_eq_true rfl) (by simp only [List.mem_cons, List.not_mem_nil, or_false]; intro v hv; rcases hv with rfl | rfl; all_goals first | exact trivial) (sg_Page_writeSill_0 (kc := 0) (ks := 0) a0 a1 h (am_qw Q) t)
