def bk_Port_add_0_2 : List am_E := [(0, .aload_n 0, 1, 0, 0), (1, .getfield 7, 3, 816, 0)]
theorem bk_Port_add_0_2_ok : bk_Port_add_0_2.all (am_ok 2 false m_Port_add.2.1) = true := by decide +kernel
def bk_Port_add_7_4 : List am_E := [(7, .aload_n 0, 1, 0, 0), (8, .getfield 7, 3, 816, 0), (11, .aload_n 0, 1, 0, 0), (12, .getfield 19, 3, 800, 0)]
theorem bk_Port_add_7_4_ok : bk_Port_add_7_4.all (am_ok 2 false m_Port_add.2.1) = true := by decide +kernel
def bk_Port_add_18_24 : List am_E := [(18, .aload_n 0, 1, 0, 0), (19, .getfield 22, 3, 805, 0), (22, .aload_n 0, 1, 0, 0), (23, .getfield 7, 3, 816, 0), (26, .iload_n 1, 1, 0, 0), (27, .bastore, 1, 21, 0), (28, .aload_n 0, 1, 0, 0), (29, .getfield 26, 3, 809, 0), (32, .aload_n 0, 1, 0, 0), (33, .getfield 7, 3, 816, 0), (36, .iload_n 2, 1, 0, 0), (37, .iastore, 1, 0, 0), (38, .aload_n 0, 1, 0, 0), (39, .getfield 30, 3, 813, 0), (42, .aload_n 0, 1, 0, 0), (43, .getfield 7, 3, 816, 0), (46, .iload_n 3, 1, 0, 0), (47, .iastore, 1, 0, 0), (48, .aload_n 0, 1, 0, 0), (49, .dup, 1, 0, 0), (50, .getfield 7, 3, 816, 0), (53, .iconst 1, 1, 0, 1), (54, .iadd, 1, 0, 0), (55, .putfield 7, 3, 816, 0)]
theorem bk_Port_add_18_24_ok : bk_Port_add_18_24.all (am_ok 2 false m_Port_add.2.1) = true := by decide +kernel
theorem dc_Port_add_58 : decode m_Port_add.2.1 58 = .ok (.return_, 1) := by decide +kernel
theorem dc_Port_add_15 : decode m_Port_add.2.1 15 = .ok (.if_icmp .ge 43, 3) := by decide +kernel
theorem dc_Port_add_4 : decode m_Port_add.2.1 4 = .ok (.ifCond .lt 54, 3) := by decide +kernel
set_option maxRecDepth 20000 in
theorem sg_Port_add_0 {kc ks : Nat} (a0 : Nat) (x1 x2 x3 : Int32) (h : am_H) (Q : Option Value → am_H → Prop) (t : (am_tg h a0 = (2, 5) ∧ (((am_I h a0 4) < 0 → Q none h) ∧ (¬ (am_I h a0 4) < 0 → (((am_I h a0 0) ≤ (am_I h a0 4) → Q none h) ∧ (¬ (am_I h a0 0) ≤ (am_I h a0 4) → (∃ b4, am_P h a0 1 = some b4 ∧ ((am_tg h b4).1 = 21 ∧ (vp_in (am_I h a0 4) (am_tg h b4).2 ∧ (am_b01 x1 ∧ (∃ b5, am_P h a0 2 = some b5 ∧ ((am_tg h b5).1 = 20 ∧ (vp_in (am_I (am_si h b4 ((am_I h a0 4).toNatClampNeg) x1) a0 4) (am_tg h b5).2 ∧ (∃ b6, am_P h a0 3 = some b6 ∧ ((am_tg h b6).1 = 20 ∧ (vp_in (am_I (am_si (am_si h b4 ((am_I h a0 4).toNatClampNeg) x1) b5 ((am_I (am_si h b4 ((am_I h a0 4).toNatClampNeg) x1) a0 4).toNatClampNeg) x2) a0 4) (am_tg h b6).2 ∧ Q none (am_si (am_si (am_si (am_si h b4 ((am_I h a0 4).toNatClampNeg) x1) b5 ((am_I (am_si h b4 ((am_I h a0 4).toNatClampNeg) x1) a0 4).toNatClampNeg) x2) b6 ((am_I (am_si (am_si h b4 ((am_I h a0 4).toNatClampNeg) x1) b5 ((am_I (am_si h b4 ((am_I h a0 4).toNatClampNeg) x1) a0 4).toNatClampNeg) x2) a0 4).toNatClampNeg) x3) a0 4 ((am_I (am_si (am_si (am_si h b4 ((am_I h a0 4).toNatClampNeg) x1) b5 ((am_I (am_si h b4 ((am_I h a0 4).toNatClampNeg) x1) a0 4).toNatClampNeg) x2) b6 ((am_I (am_si (am_si h b4 ((am_I h a0 4).toNatClampNeg) x1) b5 ((am_I (am_si h b4 ((am_I h a0 4).toNatClampNeg) x1) a0 4).toNatClampNeg) x2) a0 4).toNatClampNeg) x3) a0 4) + 1)))))))))))))))))) : am_EI m_Port_add kc ks 0 [.ref a0, .int x1, .int x2, .int x3] [] h Q := by
  refine am_blk_ok (c := 2) (ini := false) (by decide) rfl (fun q => by cases q) bk_Port_add_0_2 _ 4 _ _ _ bk_Port_add_0_2_ok rfl ?_
  show (am_tg h a0 = (2, 5) ∧ am_EI m_Port_add kc ks 4 [.ref a0, .int x1, .int x2, .int x3] [.int (am_I h a0 4)] h Q)
  obtain ⟨o1, t⟩ := t
  refine ⟨o1, ?_⟩
  refine am_if_lt (tgt := 58) dc_Port_add_4 (by decide) (fun c2 => ?_) (fun c2 => ?_)
  · replace t := t.1 c2
    exact am_vret dc_Port_add_58 rfl t
  · replace t := t.2 c2
    refine am_blk_ok (c := 2) (ini := false) (by decide) rfl (fun q => by cases q) bk_Port_add_7_4 _ 15 _ _ _ bk_Port_add_7_4_ok rfl ?_
    show (am_tg h a0 = (2, 5) ∧ (am_tg h a0 = (2, 5) ∧ am_EI m_Port_add kc ks 15 [.ref a0, .int x1, .int x2, .int x3] [.int (am_I h a0 0), .int (am_I h a0 4)] h Q))
    refine ⟨o1, o1, ?_⟩
    refine am_ic_ge (tgt := 58) dc_Port_add_15 (by decide) (fun c3 => ?_) (fun c3 => ?_)
    · replace t := t.1 c3
      exact am_vret dc_Port_add_58 rfl t
    · replace t := t.2 c3
      refine am_blk_ok (c := 2) (ini := false) (by decide) rfl (fun q => by cases q) bk_Port_add_18_24 _ 58 _ _ _ bk_Port_add_18_24_ok rfl ?_
      show (am_tg h a0 = (2, 5) ∧ (∃ b4, am_P h a0 1 = some b4 ∧ (am_tg h a0 = (2, 5) ∧ ((am_tg h b4).1 = 21 ∧ (vp_in (am_I h a0 4) (am_tg h b4).2 ∧ (am_b01 x1 ∧ (am_tg h a0 = (2, 5) ∧ (∃ b5, am_P h a0 2 = some b5 ∧ (am_tg h a0 = (2, 5) ∧ ((am_tg h b5).1 = 20 ∧ (vp_in (am_I (am_si h b4 ((am_I h a0 4).toNatClampNeg) x1) a0 4) (am_tg h b5).2 ∧ (am_tg h a0 = (2, 5) ∧ (∃ b6, am_P h a0 3 = some b6 ∧ (am_tg h a0 = (2, 5) ∧ ((am_tg h b6).1 = 20 ∧ (vp_in (am_I (am_si (am_si h b4 ((am_I h a0 4).toNatClampNeg) x1) b5 ((am_I (am_si h b4 ((am_I h a0 4).toNatClampNeg) x1) a0 4).toNatClampNeg) x2) a0 4) (am_tg h b6).2 ∧ (am_tg h a0 = (2, 5) ∧ (am_tg h a0 = (2, 5) ∧ am_EI m_Port_add kc ks 58 [.ref a0, .int x1, .int x2, .int x3] [] (am_si (am_si (am_si (am_si h b4 ((am_I h a0 4).toNatClampNeg) x1) b5 ((am_I (am_si h b4 ((am_I h a0 4).toNatClampNeg) x1) a0 4).toNatClampNeg) x2) b6 ((am_I (am_si (am_si h b4 ((am_I h a0 4).toNatClampNeg) x1) b5 ((am_I (am_si h b4 ((am_I h a0 4).toNatClampNeg) x1) a0 4).toNatClampNeg) x2) a0 4).toNatClampNeg) x3) a0 4 ((am_I (am_si (am_si (am_si h b4 ((am_I h a0 4).toNatClampNeg) x1) b5 ((am_I (am_si h b4 ((am_I h a0 4).toNatClampNeg) x1) a0 4).toNatClampNeg) x2) b6 ((am_I (am_si (am_si h b4 ((am_I h a0 4).toNatClampNeg) x1) b5 ((am_I (am_si h b4 ((am_I h a0 4).toNatClampNeg) x1) a0 4).toNatClampNeg) x2) a0 4).toNatClampNeg) x3) a0 4) + 1)) Q))))))))))))))))))
      obtain ⟨b4, q7, o8, o9, o10, b5, q11, o12, o13, b6, q14, o15, o16, t⟩ := t
      refine ⟨o1, b4, q7, o1, o8, o9, o10, o1, b5, q11, o1, o12, o13, o1, b6, q14, o1, o15, o16, o1, o1, ?_⟩
      exact am_vret dc_Port_add_58 rfl t
set_option maxRecDepth 20000 in
theorem ev_Port_add (a0 : Nat) (x1 x2 x3 : Int32) (h : am_H) (Q : am_H → Prop) (t : (am_tg h a0 = (2, 5) ∧ (((am_I h a0 4) < 0 → Q h) ∧ (¬ (am_I h a0 4) < 0 → (((am_I h a0 0) ≤ (am_I h a0 4) → Q h) ∧ (¬ (am_I h a0 0) ≤ (am_I h a0 4) → (∃ b4, am_P h a0 1 = some b4 ∧ ((am_tg h b4).1 = 21 ∧ (vp_in (am_I h a0 4) (am_tg h b4).2 ∧ (am_b01 x1 ∧ (∃ b5, am_P h a0 2 = some b5 ∧ ((am_tg h b5).1 = 20 ∧ (vp_in (am_I (am_si h b4 ((am_I h a0 4).toNatClampNeg) x1) a0 4) (am_tg h b5).2 ∧ (∃ b6, am_P h a0 3 = some b6 ∧ ((am_tg h b6).1 = 20 ∧ (vp_in (am_I (am_si (am_si h b4 ((am_I h a0 4).toNatClampNeg) x1) b5 ((am_I (am_si h b4 ((am_I h a0 4).toNatClampNeg) x1) a0 4).toNatClampNeg) x2) a0 4) (am_tg h b6).2 ∧ Q (am_si (am_si (am_si (am_si h b4 ((am_I h a0 4).toNatClampNeg) x1) b5 ((am_I (am_si h b4 ((am_I h a0 4).toNatClampNeg) x1) a0 4).toNatClampNeg) x2) b6 ((am_I (am_si (am_si h b4 ((am_I h a0 4).toNatClampNeg) x1) b5 ((am_I (am_si h b4 ((am_I h a0 4).toNatClampNeg) x1) a0 4).toNatClampNeg) x2) a0 4).toNatClampNeg) x3) a0 4 ((am_I (am_si (am_si (am_si h b4 ((am_I h a0 4).toNatClampNeg) x1) b5 ((am_I (am_si h b4 ((am_I h a0 4).toNatClampNeg) x1) a0 4).toNatClampNeg) x2) b6 ((am_I (am_si (am_si h b4 ((am_I h a0 4).toNatClampNeg) x1) b5 ((am_I (am_si h b4 ((am_I h a0 4).toNatClampNeg) x1) a0 4).toNatClampNeg) x2) a0 4).toNatClampNeg) x3) a0 4) + 1)))))))))))))))))) : am_Ew m_Port_add 0 0 [.ref a0, .int x1, .int x2, .int x3] h Q :=
  am_Ev.of (by decide +kernel) (Nat.le_of_ble_eq_true rfl) (by simp only [List.mem_cons, List.not_mem_nil, or_false]; intro v hv; rcases hv with rfl | rfl | rfl | rfl; all_goals first | exact trivial) (sg_Port_add_0 (kc := 0) (ks := 0) a0 x1 x2 x3 h (am_qw Q) t)
def bk_Port_clear_0_3 : List am_E := [(0, .aload_n 0, 1, 0, 0), (1, .iconst 0, 1, 0, 0), (2, .putfield 7, 3, 816, 0)]
theorem bk_Port_clear_0_3_ok : bk_Port_clear_0_3.all (am_ok 2 false m_Port_clear.2.1) = true := by decide +kernel
theorem dc_Port_clear_5 : decode m_Port_clear.2.1 5 = .ok (.return_, 1) := by decide +kernel
set_option maxRecDepth 20000 in
theorem sg_Port_clear_0 {kc ks : Nat} (a0 : Nat) (h : am_H) (Q : Option Value → am_H → Prop) (t : (am_tg h a0 = (2, 5) ∧ Q none (am_si h a0 4 0))) : am_EI m_Port_clear kc ks 0 [.ref a0] [] h Q := by
  refine am_blk_ok (c := 2) (ini := false) (by decide) rfl (fun q => by cases q) bk_Port_clear_0_3 _ 5 _ _ _ bk_Port_clear_0_3_ok rfl ?_
  show (am_tg h a0 = (2, 5) ∧ am_EI m_Port_clear kc ks 5 [.ref a0] [] (am_si h a0 4 0) Q)
  obtain ⟨o1, t⟩ := t
  refine ⟨o1, ?_⟩
  exact am_vret dc_Port_clear_5 rfl t
set_option maxRecDepth 20000 in
theorem ev_Port_clear (a0 : Nat) (h : am_H) (Q : am_H → Prop) (t : (am_tg h a0 = (2, 5) ∧ Q (am_si h a0 4 0))) : am_Ew m_Port_clear 0 0 [.ref a0] h Q :=
  am_Ev.of (by decide +kernel) (Nat.le_of_ble_eq_true rfl) (by simp only [List.mem_cons, List.not_mem_nil, or_false]; intro v hv; rcases hv with rfl; all_goals first | exact trivial) (sg_Port_clear_0 (kc := 0) (ks := 0) a0 h (am_qw Q) t)
def bk_Port_collect_0_1 : List am_E := [(0, .aload_n 3, 1, 0, 0)]
theorem bk_Port_collect_0_1_ok : bk_Port_collect_0_1.all (am_ok 2 false m_Port_collect.2.1) = true := by decide +kernel
def bk_Port_collect_4_2 : List am_E := [(4, .iconst 0, 1, 0, 0), (5, .istore 4, 2, 0, 0)]
theorem bk_Port_collect_4_2_ok : bk_Port_collect_4_2.all (am_ok 2 false m_Port_collect.2.1) = true := by decide +kernel
def bk_Port_collect_7_3 : List am_E := [(7, .iload 4, 2, 0, 0), (9, .aload_n 0, 1, 0, 0), (10, .getfield 7, 3, 816, 0)]
theorem bk_Port_collect_7_3_ok : bk_Port_collect_7_3.all (am_ok 2 false m_Port_collect.2.1) = true := by decide +kernel
def bk_Port_collect_16_2 : List am_E := [(16, .aload_n 0, 1, 0, 0), (17, .iload 4, 2, 0, 0)]
theorem bk_Port_collect_16_2_ok : bk_Port_collect_16_2.all (am_ok 2 false m_Port_collect.2.1) = true := by decide +kernel
def bk_Port_collect_22_6 : List am_E := [(22, .istore 5, 2, 0, 0), (24, .iload 4, 2, 0, 0), (26, .iconst 1, 1, 0, 1), (27, .iadd, 1, 0, 0), (28, .aload_n 0, 1, 0, 0), (29, .getfield 7, 3, 816, 0)]
theorem bk_Port_collect_22_6_ok : bk_Port_collect_22_6.all (am_ok 2 false m_Port_collect.2.1) = true := by decide +kernel
def bk_Port_collect_46_9 : List am_E := [(46, .iload 5, 2, 0, 0), (48, .iconst 1, 1, 0, 1), (49, .iadd, 1, 0, 0), (50, .istore 6, 2, 0, 0), (52, .aload_n 0, 1, 0, 0), (53, .iload 4, 2, 0, 0), (55, .iload_n 1, 1, 0, 0), (56, .iload_n 2, 1, 0, 0), (57, .iload 6, 2, 0, 0)]
theorem bk_Port_collect_46_9_ok : bk_Port_collect_46_9.all (am_ok 2 false m_Port_collect.2.1) = true := by decide +kernel
def bk_Port_collect_62_4 : List am_E := [(62, .istore 7, 2, 0, 0), (64, .iload_n 1, 1, 0, 0), (65, .aload_n 0, 1, 0, 0), (66, .iload 4, 2, 0, 0)]
theorem bk_Port_collect_62_4_ok : bk_Port_collect_62_4.all (am_ok 2 false m_Port_collect.2.1) = true := by decide +kernel
def bk_Port_collect_71_2 : List am_E := [(71, .iload_n 2, 1, 0, 0), (72, .isub, 1, 0, 0)]
theorem bk_Port_collect_71_2_ok : bk_Port_collect_71_2.all (am_ok 2 false m_Port_collect.2.1) = true := by decide +kernel
def bk_Port_collect_92_5 : List am_E := [(92, .aload_n 3, 1, 0, 0), (93, .iload 7, 2, 0, 0), (95, .iload 6, 2, 0, 0), (97, .iconst 1, 1, 0, 1), (98, .isub, 1, 0, 0)]
theorem bk_Port_collect_92_5_ok : bk_Port_collect_92_5.all (am_ok 2 false m_Port_collect.2.1) = true := by decide +kernel
def bk_Port_collect_102_2 : List am_E := [(102, .iinc 4 1, 3, 0, 1), (105, .goto (-98), 3, 0, -98)]
theorem bk_Port_collect_102_2_ok : bk_Port_collect_102_2.all (am_ok 2 false m_Port_collect.2.1) = true := by decide +kernel
def bk_Port_collect_79_5 : List am_E := [(79, .aload_n 3, 1, 0, 0), (80, .iload 5, 2, 0, 0), (82, .iload 7, 2, 0, 0), (84, .iconst 1, 1, 0, 1), (85, .isub, 1, 0, 0)]
theorem bk_Port_collect_79_5_ok : bk_Port_collect_79_5.all (am_ok 2 false m_Port_collect.2.1) = true := by decide +kernel
def bk_Port_collect_89_3 : List am_E := [(89, .goto 13, 3, 0, 13), (102, .iinc 4 1, 3, 0, 1), (105, .goto (-98), 3, 0, -98)]
theorem bk_Port_collect_89_3_ok : bk_Port_collect_89_3.all (am_ok 2 false m_Port_collect.2.1) = true := by decide +kernel
def bk_Port_collect_35_4 : List am_E := [(35, .aload_n 0, 1, 0, 0), (36, .iload 4, 2, 0, 0), (38, .iconst 1, 1, 0, 1), (39, .iadd, 1, 0, 0)]
theorem bk_Port_collect_35_4_ok : bk_Port_collect_35_4.all (am_ok 2 false m_Port_collect.2.1) = true := by decide +kernel
def bk_Port_collect_43_7 : List am_E := [(43, .goto 7, 3, 0, 7), (50, .istore 6, 2, 0, 0), (52, .aload_n 0, 1, 0, 0), (53, .iload 4, 2, 0, 0), (55, .iload_n 1, 1, 0, 0), (56, .iload_n 2, 1, 0, 0), (57, .iload 6, 2, 0, 0)]
theorem bk_Port_collect_43_7_ok : bk_Port_collect_43_7.all (am_ok 2 false m_Port_collect.2.1) = true := by decide +kernel
theorem dc_Port_collect_1 : decode m_Port_collect.2.1 1 = .ok (.invokevirtual 81, 3) := by decide +kernel
theorem dc_Port_collect_108 : decode m_Port_collect.2.1 108 = .ok (.return_, 1) := by decide +kernel
theorem dc_Port_collect_19 : decode m_Port_collect.2.1 19 = .ok (.invokevirtual 33, 3) := by decide +kernel
theorem dc_Port_collect_59 : decode m_Port_collect.2.1 59 = .ok (.invokevirtual 86, 3) := by decide +kernel
theorem dc_Port_collect_68 : decode m_Port_collect.2.1 68 = .ok (.invokevirtual 51, 3) := by decide +kernel
theorem dc_Port_collect_73 : decode m_Port_collect.2.1 73 = .ok (.invokestatic 90, 3) := by decide +kernel
theorem dc_Port_collect_99 : decode m_Port_collect.2.1 99 = .ok (.invokevirtual 94, 3) := by decide +kernel
theorem dc_Port_collect_86 : decode m_Port_collect.2.1 86 = .ok (.invokevirtual 94, 3) := by decide +kernel
theorem dc_Port_collect_76 : decode m_Port_collect.2.1 76 = .ok (.ifCond .eq 16, 3) := by decide +kernel
theorem dc_Port_collect_40 : decode m_Port_collect.2.1 40 = .ok (.invokevirtual 33, 3) := by decide +kernel
theorem dc_Port_collect_32 : decode m_Port_collect.2.1 32 = .ok (.if_icmp .ge 14, 3) := by decide +kernel
theorem dc_Port_collect_13 : decode m_Port_collect.2.1 13 = .ok (.if_icmp .ge 95, 3) := by decide +kernel
set_option maxRecDepth 20000 in
theorem sg_Port_collect_0 {kc ks : Nat} (a0 a3 : Nat) (x1 x2 : Int32) (h : am_H) (Q : Option Value → am_H → Prop) (t : (am_tg h a3 = (8, 4) ∧ (am_Ew m_Spans_clear 0 0 [.ref a3] h (fun h2 => am_EI m_Port_collect kc ks 7 [.ref a0, .int x1, .int x2, .ref a3, .int 0, .float 0, .float 0, .float 0] [] h2 Q)))) : am_EI m_Port_collect kc ks 0 [.ref a0, .int x1, .int x2, .ref a3, .float 0, .float 0, .float 0, .float 0] [] h Q := by
  refine am_blk_ok (c := 2) (ini := false) (by decide) rfl (fun q => by cases q) bk_Port_collect_0_1 _ 1 _ _ _ bk_Port_collect_0_1_ok rfl ?_
  show am_EI m_Port_collect kc ks 1 [.ref a0, .int x1, .int x2, .ref a3, .float 0, .float 0, .float 0, .float 0] [.ref a3] h Q
  obtain ⟨o1, t⟩ := t
  refine am_callV (M2 := m_Spans_clear) (ci := 8) (a := a3) (kc := kc) (ks := ks) (k2c := 0) (k2s := 0) (as := []) [] dc_Port_collect_1 lk_2_81 im_Spans_clear se_Spans_clear lm_Spans_clear np_Spans_clear ⟨Nat.le_of_ble_eq_true rfl, Nat.le_of_ble_eq_true rfl⟩ (fun _ => Nat.le_of_ble_eq_true rfl) (by decide) rfl o1 (am_Ew.end (am_Ew.mono t (fun h2 t => ?_)))
  refine am_blk_ok (c := 2) (ini := false) (by decide) rfl (fun q => by cases q) bk_Port_collect_4_2 _ 7 _ _ _ bk_Port_collect_4_2_ok rfl ?_
  show am_EI m_Port_collect kc ks 7 [.ref a0, .int x1, .int x2, .ref a3, .int 0, .float 0, .float 0, .float 0] [] h2 Q
  exact t
set_option maxRecDepth 20000 in
theorem ev_Port_collect (a0 a3 : Nat) (x1 x2 : Int32) (h : am_H) (Q : am_H → Prop) (t : (am_tg h a3 = (8, 4) ∧ (am_Ew m_Spans_clear 0 0 [.ref a3] h (fun h2 => am_EI m_Port_collect 0 0 7 [.ref a0, .int x1, .int x2, .ref a3, .int 0, .float 0, .float 0, .float 0] [] h2 (am_qw Q))))) : am_Ew m_Port_collect 0 0 [.ref a0, .int x1, .int x2, .ref a3] h Q :=
  am_Ev.of (by decide +kernel) (Nat.le_of_ble_eq_true rfl) (by simp only [List.mem_cons, List.not_mem_nil, or_false]; intro v hv; rcases hv with rfl | rfl | rfl | rfl; all_goals first | exact trivial) (sg_Port_collect_0 (kc := 0) (ks := 0) a0 a3 x1 x2 h (am_qw Q) t)
set_option maxRecDepth 20000 in
theorem sg_Port_collect_7 {kc ks : Nat} (a0 a3 : Nat) (x1 x2 x4 : Int32) (h : am_H) (Q : Option Value → am_H → Prop) (t : (am_tg h a0 = (2, 5) ∧ (((am_I h a0 4) ≤ x4 → Q none h) ∧ (¬ (am_I h a0 4) ≤ x4 → (am_Ei m_Port_minuteOf 0 0 [.ref a0, .int x4] h (fun r4 h3 => (am_tg h3 a0 = (2, 5) ∧ (((am_I h3 a0 4) ≤ (x4 + 1) → (am_Ei m_Port_firstChange 0 0 [.ref a0, .int x4, .int x1, .int x2, .int (r4 + 1)] h3 (fun r8 h7 => (am_tg h7 a0 = (2, 5) ∧ (am_Ei m_Port_heightOf 0 0 [.ref a0, .int x4] h7 (fun r11 h10 => (am_Ei m_Port_isOn 0 0 [.int x1, .int (r11 - x2)] h10 (fun r13 h12 => ((r13 = 0 → (am_tg h12 a3 = (8, 4) ∧ (am_Ew m_Spans_add 0 0 [.ref a3, .int r8, .int ((r4 + 1) - 1)] h12 (fun h16 => am_EI m_Port_collect kc ks 7 [.ref a0, .int x1, .int x2, .ref a3, .int (x4 + 1), .float 0, .float 0, .float 0] [] h16 Q)))) ∧ (¬ r13 = 0 → (am_tg h12 a3 = (8, 4) ∧ (am_Ew m_Spans_add 0 0 [.ref a3, .int r4, .int (r8 - 1)] h12 (fun h18 => am_EI m_Port_collect kc ks 7 [.ref a0, .int x1, .int x2, .ref a3, .int (x4 + 1), .float 0, .float 0, .float 0] [] h18 Q))))))))))))) ∧ (¬ (am_I h3 a0 4) ≤ (x4 + 1) → (am_Ei m_Port_minuteOf 0 0 [.ref a0, .int (x4 + 1)] h3 (fun r20 h19 => (am_tg h19 a0 = (2, 5) ∧ (am_Ei m_Port_firstChange 0 0 [.ref a0, .int x4, .int x1, .int x2, .int r20] h19 (fun r23 h22 => (am_tg h22 a0 = (2, 5) ∧ (am_Ei m_Port_heightOf 0 0 [.ref a0, .int x4] h22 (fun r26 h25 => (am_Ei m_Port_isOn 0 0 [.int x1, .int (r26 - x2)] h25 (fun r28 h27 => ((r28 = 0 → (am_tg h27 a3 = (8, 4) ∧ (am_Ew m_Spans_add 0 0 [.ref a3, .int r23, .int (r20 - 1)] h27 (fun h31 => am_EI m_Port_collect kc ks 7 [.ref a0, .int x1, .int x2, .ref a3, .int (x4 + 1), .float 0, .float 0, .float 0] [] h31 Q)))) ∧ (¬ r28 = 0 → (am_tg h27 a3 = (8, 4) ∧ (am_Ew m_Spans_add 0 0 [.ref a3, .int r4, .int (r23 - 1)] h27 (fun h33 => am_EI m_Port_collect kc ks 7 [.ref a0, .int x1, .int x2, .ref a3, .int (x4 + 1), .float 0, .float 0, .float 0] [] h33 Q)))))))))))))))))))))))) : am_EI m_Port_collect kc ks 7 [.ref a0, .int x1, .int x2, .ref a3, .int x4, .float 0, .float 0, .float 0] [] h Q := by
  refine am_blk_ok (c := 2) (ini := false) (by decide) rfl (fun q => by cases q) bk_Port_collect_7_3 _ 13 _ _ _ bk_Port_collect_7_3_ok rfl ?_
  show (am_tg h a0 = (2, 5) ∧ am_EI m_Port_collect kc ks 13 [.ref a0, .int x1, .int x2, .ref a3, .int x4, .float 0, .float 0, .float 0] [.int (am_I h a0 4), .int x4] h Q)
  obtain ⟨o1, t⟩ := t
  refine ⟨o1, ?_⟩
  refine am_ic_ge (tgt := 108) dc_Port_collect_13 (by decide) (fun c2 => ?_) (fun c2 => ?_)
  · replace t := t.1 c2
    exact am_vret dc_Port_collect_108 rfl t
  · replace t := t.2 c2
    refine am_blk_ok (c := 2) (ini := false) (by decide) rfl (fun q => by cases q) bk_Port_collect_16_2 _ 19 _ _ _ bk_Port_collect_16_2_ok rfl ?_
    show am_EI m_Port_collect kc ks 19 [.ref a0, .int x1, .int x2, .ref a3, .int x4, .float 0, .float 0, .float 0] [.int x4, .ref a0] h Q
    refine am_callV (M2 := m_Port_minuteOf) (ci := 2) (a := a0) (kc := kc) (ks := ks) (k2c := 0) (k2s := 0) (as := []) [.int x4] dc_Port_collect_19 lk_2_33 im_Port_minuteOf se_Port_minuteOf lm_Port_minuteOf np_Port_minuteOf ⟨Nat.le_of_ble_eq_true rfl, Nat.le_of_ble_eq_true rfl⟩ (fun _ => Nat.le_of_ble_eq_true rfl) (by decide) rfl o1 (am_Ei.end (am_Ei.mono t (fun r4 h3 t => ?_)))
    refine am_blk_ok (c := 2) (ini := false) (by decide) rfl (fun q => by cases q) bk_Port_collect_22_6 _ 32 _ _ _ bk_Port_collect_22_6_ok rfl ?_
    show (am_tg h3 a0 = (2, 5) ∧ am_EI m_Port_collect kc ks 32 [.ref a0, .int x1, .int x2, .ref a3, .int x4, .int r4, .float 0, .float 0] [.int (am_I h3 a0 4), .int (x4 + 1)] h3 Q)
    obtain ⟨o5, t⟩ := t
    refine ⟨o5, ?_⟩
    refine am_ic_ge (tgt := 46) dc_Port_collect_32 (by decide) (fun c6 => ?_) (fun c6 => ?_)
    · replace t := t.1 c6
      refine am_blk_ok (c := 2) (ini := false) (by decide) rfl (fun q => by cases q) bk_Port_collect_46_9 _ 59 _ _ _ bk_Port_collect_46_9_ok rfl ?_
      show am_EI m_Port_collect kc ks 59 [.ref a0, .int x1, .int x2, .ref a3, .int x4, .int r4, .int (r4 + 1), .float 0] [.int (r4 + 1), .int x2, .int x1, .int x4, .ref a0] h3 Q
      refine am_callV (M2 := m_Port_firstChange) (ci := 2) (a := a0) (kc := kc) (ks := ks) (k2c := 0) (k2s := 0) (as := []) [.int x4, .int x1, .int x2, .int (r4 + 1)] dc_Port_collect_59 lk_2_86 im_Port_firstChange se_Port_firstChange lm_Port_firstChange np_Port_firstChange ⟨Nat.le_of_ble_eq_true rfl, Nat.le_of_ble_eq_true rfl⟩ (fun _ => Nat.le_of_ble_eq_true rfl) (by decide) rfl o5 (am_Ei.end (am_Ei.mono t (fun r8 h7 t => ?_)))
      refine am_blk_ok (c := 2) (ini := false) (by decide) rfl (fun q => by cases q) bk_Port_collect_62_4 _ 68 _ _ _ bk_Port_collect_62_4_ok rfl ?_
      show am_EI m_Port_collect kc ks 68 [.ref a0, .int x1, .int x2, .ref a3, .int x4, .int r4, .int (r4 + 1), .int r8] [.int x4, .ref a0, .int x1] h7 Q
      obtain ⟨o9, t⟩ := t
      refine am_callV (M2 := m_Port_heightOf) (ci := 2) (a := a0) (kc := kc) (ks := ks) (k2c := 0) (k2s := 0) (as := [.int x1]) [.int x4] dc_Port_collect_68 lk_2_51 im_Port_heightOf se_Port_heightOf lm_Port_heightOf np_Port_heightOf ⟨Nat.le_of_ble_eq_true rfl, Nat.le_of_ble_eq_true rfl⟩ (fun _ => Nat.le_of_ble_eq_true rfl) (by decide) rfl o9 (am_Ei.end (am_Ei.mono t (fun r11 h10 t => ?_)))
      refine am_blk_ok (c := 2) (ini := false) (by decide) rfl (fun q => by cases q) bk_Port_collect_71_2 _ 73 _ _ _ bk_Port_collect_71_2_ok rfl ?_
      show am_EI m_Port_collect kc ks 73 [.ref a0, .int x1, .int x2, .ref a3, .int x4, .int r4, .int (r4 + 1), .int r8] [.int (r11 - x2), .int x1] h10 Q
      refine am_callS (M2 := m_Port_isOn) (kc := kc) (ks := ks) (k2c := 0) (k2s := 0) (as := []) [.int x1, .int (r11 - x2)] dc_Port_collect_73 lk_2_90 st_Port_isOn lm_Port_isOn np_Port_isOn ⟨Nat.le_of_ble_eq_true rfl, Nat.le_of_ble_eq_true rfl⟩ (fun _ => Nat.le_of_ble_eq_true rfl) (am_Ei.end (am_Ei.mono t (fun r13 h12 t => ?_)))
      refine am_if_eq (tgt := 92) dc_Port_collect_76 (by decide) (fun c14 => ?_) (fun c14 => ?_)
      · replace t := t.1 c14
        refine am_blk_ok (c := 2) (ini := false) (by decide) rfl (fun q => by cases q) bk_Port_collect_92_5 _ 99 _ _ _ bk_Port_collect_92_5_ok rfl ?_
        show am_EI m_Port_collect kc ks 99 [.ref a0, .int x1, .int x2, .ref a3, .int x4, .int r4, .int (r4 + 1), .int r8] [.int ((r4 + 1) - 1), .int r8, .ref a3] h12 Q
        obtain ⟨o15, t⟩ := t
        refine am_callV (M2 := m_Spans_add) (ci := 8) (a := a3) (kc := kc) (ks := ks) (k2c := 0) (k2s := 0) (as := []) [.int r8, .int ((r4 + 1) - 1)] dc_Port_collect_99 lk_2_94 im_Spans_add se_Spans_add lm_Spans_add np_Spans_add ⟨Nat.le_of_ble_eq_true rfl, Nat.le_of_ble_eq_true rfl⟩ (fun _ => Nat.le_of_ble_eq_true rfl) (by decide) rfl o15 (am_Ew.end (am_Ew.mono t (fun h16 t => ?_)))
        refine am_blk_ok (c := 2) (ini := false) (by decide) rfl (fun q => by cases q) bk_Port_collect_102_2 _ 7 _ _ _ bk_Port_collect_102_2_ok rfl ?_
        show am_EI m_Port_collect kc ks 7 [.ref a0, .int x1, .int x2, .ref a3, .int (x4 + 1), .int r4, .int (r4 + 1), .int r8] [] h16 Q
        refine am_EI.fg 5 ?_
        show am_EI m_Port_collect kc ks 7 [.ref a0, .int x1, .int x2, .ref a3, .int (x4 + 1), .float 0, .int (r4 + 1), .int r8] [] h16 Q
        refine am_EI.fg 6 ?_
        show am_EI m_Port_collect kc ks 7 [.ref a0, .int x1, .int x2, .ref a3, .int (x4 + 1), .float 0, .float 0, .int r8] [] h16 Q
        refine am_EI.fg 7 ?_
        show am_EI m_Port_collect kc ks 7 [.ref a0, .int x1, .int x2, .ref a3, .int (x4 + 1), .float 0, .float 0, .float 0] [] h16 Q
        exact t
      · replace t := t.2 c14
        refine am_blk_ok (c := 2) (ini := false) (by decide) rfl (fun q => by cases q) bk_Port_collect_79_5 _ 86 _ _ _ bk_Port_collect_79_5_ok rfl ?_
        show am_EI m_Port_collect kc ks 86 [.ref a0, .int x1, .int x2, .ref a3, .int x4, .int r4, .int (r4 + 1), .int r8] [.int (r8 - 1), .int r4, .ref a3] h12 Q
        obtain ⟨o17, t⟩ := t
        refine am_callV (M2 := m_Spans_add) (ci := 8) (a := a3) (kc := kc) (ks := ks) (k2c := 0) (k2s := 0) (as := []) [.int r4, .int (r8 - 1)] dc_Port_collect_86 lk_2_94 im_Spans_add se_Spans_add lm_Spans_add np_Spans_add ⟨Nat.le_of_ble_eq_true rfl, Nat.le_of_ble_eq_true rfl⟩ (fun _ => Nat.le_of_ble_eq_true rfl) (by decide) rfl o17 (am_Ew.end (am_Ew.mono t (fun h18 t => ?_)))
        refine am_blk_ok (c := 2) (ini := false) (by decide) rfl (fun q => by cases q) bk_Port_collect_89_3 _ 7 _ _ _ bk_Port_collect_89_3_ok rfl ?_
        show am_EI m_Port_collect kc ks 7 [.ref a0, .int x1, .int x2, .ref a3, .int (x4 + 1), .int r4, .int (r4 + 1), .int r8] [] h18 Q
        refine am_EI.fg 5 ?_
        show am_EI m_Port_collect kc ks 7 [.ref a0, .int x1, .int x2, .ref a3, .int (x4 + 1), .float 0, .int (r4 + 1), .int r8] [] h18 Q
        refine am_EI.fg 6 ?_
        show am_EI m_Port_collect kc ks 7 [.ref a0, .int x1, .int x2, .ref a3, .int (x4 + 1), .float 0, .float 0, .int r8] [] h18 Q
        refine am_EI.fg 7 ?_
        show am_EI m_Port_collect kc ks 7 [.ref a0, .int x1, .int x2, .ref a3, .int (x4 + 1), .float 0, .float 0, .float 0] [] h18 Q
        exact t
    · replace t := t.2 c6
      refine am_blk_ok (c := 2) (ini := false) (by decide) rfl (fun q => by cases q) bk_Port_collect_35_4 _ 40 _ _ _ bk_Port_collect_35_4_ok rfl ?_
      show am_EI m_Port_collect kc ks 40 [.ref a0, .int x1, .int x2, .ref a3, .int x4, .int r4, .float 0, .float 0] [.int (x4 + 1), .ref a0] h3 Q
      refine am_callV (M2 := m_Port_minuteOf) (ci := 2) (a := a0) (kc := kc) (ks := ks) (k2c := 0) (k2s := 0) (as := []) [.int (x4 + 1)] dc_Port_collect_40 lk_2_33 im_Port_minuteOf se_Port_minuteOf lm_Port_minuteOf np_Port_minuteOf ⟨Nat.le_of_ble_eq_true rfl, Nat.le_of_ble_eq_true rfl⟩ (fun _ => Nat.le_of_ble_eq_true rfl) (by decide) rfl o5 (am_Ei.end (am_Ei.mono t (fun r20 h19 t => ?_)))
      refine am_blk_ok (c := 2) (ini := false) (by decide) rfl (fun q => by cases q) bk_Port_collect_43_7 _ 59 _ _ _ bk_Port_collect_43_7_ok rfl ?_
      show am_EI m_Port_collect kc ks 59 [.ref a0, .int x1, .int x2, .ref a3, .int x4, .int r4, .int r20, .float 0] [.int r20, .int x2, .int x1, .int x4, .ref a0] h19 Q
      obtain ⟨o21, t⟩ := t
      refine am_callV (M2 := m_Port_firstChange) (ci := 2) (a := a0) (kc := kc) (ks := ks) (k2c := 0) (k2s := 0) (as := []) [.int x4, .int x1, .int x2, .int r20] dc_Port_collect_59 lk_2_86 im_Port_firstChange se_Port_firstChange lm_Port_firstChange np_Port_firstChange ⟨Nat.le_of_ble_eq_true rfl, Nat.le_of_ble_eq_true rfl⟩ (fun _ => Nat.le_of_ble_eq_true rfl) (by decide) rfl o21 (am_Ei.end (am_Ei.mono t (fun r23 h22 t => ?_)))
      refine am_blk_ok (c := 2) (ini := false) (by decide) rfl (fun q => by cases q) bk_Port_collect_62_4 _ 68 _ _ _ bk_Port_collect_62_4_ok rfl ?_
      show am_EI m_Port_collect kc ks 68 [.ref a0, .int x1, .int x2, .ref a3, .int x4, .int r4, .int r20, .int r23] [.int x4, .ref a0, .int x1] h22 Q
      obtain ⟨o24, t⟩ := t
      refine am_callV (M2 := m_Port_heightOf) (ci := 2) (a := a0) (kc := kc) (ks := ks) (k2c := 0) (k2s := 0) (as := [.int x1]) [.int x4] dc_Port_collect_68 lk_2_51 im_Port_heightOf se_Port_heightOf lm_Port_heightOf np_Port_heightOf ⟨Nat.le_of_ble_eq_true rfl, Nat.le_of_ble_eq_true rfl⟩ (fun _ => Nat.le_of_ble_eq_true rfl) (by decide) rfl o24 (am_Ei.end (am_Ei.mono t (fun r26 h25 t => ?_)))
      refine am_blk_ok (c := 2) (ini := false) (by decide) rfl (fun q => by cases q) bk_Port_collect_71_2 _ 73 _ _ _ bk_Port_collect_71_2_ok rfl ?_
      show am_EI m_Port_collect kc ks 73 [.ref a0, .int x1, .int x2, .ref a3, .int x4, .int r4, .int r20, .int r23] [.int (r26 - x2), .int x1] h25 Q
      refine am_callS (M2 := m_Port_isOn) (kc := kc) (ks := ks) (k2c := 0) (k2s := 0) (as := []) [.int x1, .int (r26 - x2)] dc_Port_collect_73 lk_2_90 st_Port_isOn lm_Port_isOn np_Port_isOn ⟨Nat.le_of_ble_eq_true rfl, Nat.le_of_ble_eq_true rfl⟩ (fun _ => Nat.le_of_ble_eq_true rfl) (am_Ei.end (am_Ei.mono t (fun r28 h27 t => ?_)))
      refine am_if_eq (tgt := 92) dc_Port_collect_76 (by decide) (fun c29 => ?_) (fun c29 => ?_)
      · replace t := t.1 c29
        refine am_blk_ok (c := 2) (ini := false) (by decide) rfl (fun q => by cases q) bk_Port_collect_92_5 _ 99 _ _ _ bk_Port_collect_92_5_ok rfl ?_
        show am_EI m_Port_collect kc ks 99 [.ref a0, .int x1, .int x2, .ref a3, .int x4, .int r4, .int r20, .int r23] [.int (r20 - 1), .int r23, .ref a3] h27 Q
        obtain ⟨o30, t⟩ := t
        refine am_callV (M2 := m_Spans_add) (ci := 8) (a := a3) (kc := kc) (ks := ks) (k2c := 0) (k2s := 0) (as := []) [.int r23, .int (r20 - 1)] dc_Port_collect_99 lk_2_94 im_Spans_add se_Spans_add lm_Spans_add np_Spans_add ⟨Nat.le_of_ble_eq_true rfl, Nat.le_of_ble_eq_true rfl⟩ (fun _ => Nat.le_of_ble_eq_true rfl) (by decide) rfl o30 (am_Ew.end (am_Ew.mono t (fun h31 t => ?_)))
        refine am_blk_ok (c := 2) (ini := false) (by decide) rfl (fun q => by cases q) bk_Port_collect_102_2 _ 7 _ _ _ bk_Port_collect_102_2_ok rfl ?_
        show am_EI m_Port_collect kc ks 7 [.ref a0, .int x1, .int x2, .ref a3, .int (x4 + 1), .int r4, .int r20, .int r23] [] h31 Q
        refine am_EI.fg 5 ?_
        show am_EI m_Port_collect kc ks 7 [.ref a0, .int x1, .int x2, .ref a3, .int (x4 + 1), .float 0, .int r20, .int r23] [] h31 Q
        refine am_EI.fg 6 ?_
        show am_EI m_Port_collect kc ks 7 [.ref a0, .int x1, .int x2, .ref a3, .int (x4 + 1), .float 0, .float 0, .int r23] [] h31 Q
        refine am_EI.fg 7 ?_
        show am_EI m_Port_collect kc ks 7 [.ref a0, .int x1, .int x2, .ref a3, .int (x4 + 1), .float 0, .float 0, .float 0] [] h31 Q
        exact t
      · replace t := t.2 c29
        refine am_blk_ok (c := 2) (ini := false) (by decide) rfl (fun q => by cases q) bk_Port_collect_79_5 _ 86 _ _ _ bk_Port_collect_79_5_ok rfl ?_
        show am_EI m_Port_collect kc ks 86 [.ref a0, .int x1, .int x2, .ref a3, .int x4, .int r4, .int r20, .int r23] [.int (r23 - 1), .int r4, .ref a3] h27 Q
        obtain ⟨o32, t⟩ := t
        refine am_callV (M2 := m_Spans_add) (ci := 8) (a := a3) (kc := kc) (ks := ks) (k2c := 0) (k2s := 0) (as := []) [.int r4, .int (r23 - 1)] dc_Port_collect_86 lk_2_94 im_Spans_add se_Spans_add lm_Spans_add np_Spans_add ⟨Nat.le_of_ble_eq_true rfl, Nat.le_of_ble_eq_true rfl⟩ (fun _ => Nat.le_of_ble_eq_true rfl) (by decide) rfl o32 (am_Ew.end (am_Ew.mono t (fun h33 t => ?_)))
        refine am_blk_ok (c := 2) (ini := false) (by decide) rfl (fun q => by cases q) bk_Port_collect_89_3 _ 7 _ _ _ bk_Port_collect_89_3_ok rfl ?_
        show am_EI m_Port_collect kc ks 7 [.ref a0, .int x1, .int x2, .ref a3, .int (x4 + 1), .int r4, .int r20, .int r23] [] h33 Q
        refine am_EI.fg 5 ?_
        show am_EI m_Port_collect kc ks 7 [.ref a0, .int x1, .int x2, .ref a3, .int (x4 + 1), .float 0, .int r20, .int r23] [] h33 Q
        refine am_EI.fg 6 ?_
        show am_EI m_Port_collect kc ks 7 [.ref a0, .int x1, .int x2, .ref a3, .int (x4 + 1), .float 0, .float 0, .int r23] [] h33 Q
        refine am_EI.fg 7 ?_
        show am_EI m_Port_collect kc ks 7 [.ref a0, .int x1, .int x2, .ref a3, .int (x4 + 1), .float 0, .float 0, .float 0] [] h33 Q
        exact t
def bk_Port_copyFrom_0_5 : List am_E := [(0, .aload_n 0, 1, 0, 0), (1, .iconst 0, 1, 0, 0), (2, .putfield 7, 3, 816, 0), (5, .iconst 0, 1, 0, 0), (6, .istore_n 2, 1, 0, 0)]
theorem bk_Port_copyFrom_0_5_ok : bk_Port_copyFrom_0_5.all (am_ok 2 false m_Port_copyFrom.2.1) = true := by decide +kernel
def bk_Port_copyFrom_7_2 : List am_E := [(7, .iload_n 2, 1, 0, 0), (8, .aload_n 1, 1, 0, 0)]
theorem bk_Port_copyFrom_7_2_ok : bk_Port_copyFrom_7_2.all (am_ok 2 false m_Port_copyFrom.2.1) = true := by decide +kernel
def bk_Port_copyFrom_15_3 : List am_E := [(15, .aload_n 0, 1, 0, 0), (16, .aload_n 1, 1, 0, 0), (17, .iload_n 2, 1, 0, 0)]
theorem bk_Port_copyFrom_15_3_ok : bk_Port_copyFrom_15_3.all (am_ok 2 false m_Port_copyFrom.2.1) = true := by decide +kernel
def bk_Port_copyFrom_21_2 : List am_E := [(21, .aload_n 1, 1, 0, 0), (22, .iload_n 2, 1, 0, 0)]
theorem bk_Port_copyFrom_21_2_ok : bk_Port_copyFrom_21_2.all (am_ok 2 false m_Port_copyFrom.2.1) = true := by decide +kernel
def bk_Port_copyFrom_26_2 : List am_E := [(26, .aload_n 1, 1, 0, 0), (27, .iload_n 2, 1, 0, 0)]
theorem bk_Port_copyFrom_26_2_ok : bk_Port_copyFrom_26_2.all (am_ok 2 false m_Port_copyFrom.2.1) = true := by decide +kernel
def bk_Port_copyFrom_34_2 : List am_E := [(34, .iinc 2 1, 3, 0, 1), (37, .goto (-30), 3, 0, -30)]
theorem bk_Port_copyFrom_34_2_ok : bk_Port_copyFrom_34_2.all (am_ok 2 false m_Port_copyFrom.2.1) = true := by decide +kernel
theorem dc_Port_copyFrom_9 : decode m_Port_copyFrom.2.1 9 = .ok (.invokevirtual 44, 3) := by decide +kernel
theorem dc_Port_copyFrom_40 : decode m_Port_copyFrom.2.1 40 = .ok (.return_, 1) := by decide +kernel
theorem dc_Port_copyFrom_18 : decode m_Port_copyFrom.2.1 18 = .ok (.invokevirtual 47, 3) := by decide +kernel
theorem dc_Port_copyFrom_23 : decode m_Port_copyFrom.2.1 23 = .ok (.invokevirtual 33, 3) := by decide +kernel
theorem dc_Port_copyFrom_28 : decode m_Port_copyFrom.2.1 28 = .ok (.invokevirtual 51, 3) := by decide +kernel
theorem dc_Port_copyFrom_31 : decode m_Port_copyFrom.2.1 31 = .ok (.invokevirtual 54, 3) := by decide +kernel
theorem dc_Port_copyFrom_12 : decode m_Port_copyFrom.2.1 12 = .ok (.if_icmp .ge 28, 3) := by decide +kernel
set_option maxRecDepth 20000 in
theorem sg_Port_copyFrom_0 {kc ks : Nat} (a0 a1 : Nat) (h : am_H) (Q : Option Value → am_H → Prop) (t : (am_tg h a0 = (2, 5) ∧ am_EI m_Port_copyFrom kc ks 7 [.ref a0, .ref a1, .int 0] [] (am_si h a0 4 0) Q)) : am_EI m_Port_copyFrom kc ks 0 [.ref a0, .ref a1, .float 0] [] h Q := by
  refine am_blk_ok (c := 2) (ini := false) (by decide) rfl (fun q => by cases q) bk_Port_copyFrom_0_5 _ 7 _ _ _ bk_Port_copyFrom_0_5_ok rfl ?_
  show (am_tg h a0 = (2, 5) ∧ am_EI m_Port_copyFrom kc ks 7 [.ref a0, .ref a1, .int 0] [] (am_si h a0 4 0) Q)
  obtain ⟨o1, t⟩ := t
  refine ⟨o1, ?_⟩
  exact t
set_option maxRecDepth 20000 in
theorem ev_Port_copyFrom (a0 a1 : Nat) (h : am_H) (Q : am_H → Prop) (t : (am_tg h a0 = (2, 5) ∧ am_EI m_Port_copyFrom 0 0 7 [.ref a0, .ref a1, .int 0] [] (am_si h a0 4 0) (am_qw Q))) : am_Ew m_Port_copyFrom 0 0 [.ref a0, .ref a1] h Q :=
  am_Ev.of (by decide +kernel) (Nat.le_of_ble_eq_true rfl) (by simp only [List.mem_cons, List.not_mem_nil, or_false]; intro v hv; rcases hv with rfl | rfl; all_goals first | exact trivial) (sg_Port_copyFrom_0 (kc := 0) (ks := 0) a0 a1 h (am_qw Q) t)
set_option maxRecDepth 20000 in
theorem sg_Port_copyFrom_7 {kc ks : Nat} (a0 a1 : Nat) (x2 : Int32) (h : am_H) (Q : Option Value → am_H → Prop) (t : (am_tg h a1 = (2, 5) ∧ (am_Ei m_Port_turnCount 0 0 [.ref a1] h (fun r3 h2 => ((r3 ≤ x2 → Q none h2) ∧ (¬ r3 ≤ x2 → (am_tg h2 a1 = (2, 5) ∧ (am_Ei m_Port_isHigh 0 0 [.ref a1, .int x2] h2 (fun r7 h6 => (am_tg h6 a1 = (2, 5) ∧ (am_Ei m_Port_minuteOf 0 0 [.ref a1, .int x2] h6 (fun r10 h9 => (am_tg h9 a1 = (2, 5) ∧ (am_Ei m_Port_heightOf 0 0 [.ref a1, .int x2] h9 (fun r13 h12 => (am_tg h12 a0 = (2, 5) ∧ (am_Ew m_Port_add 0 0 [.ref a0, .int r7, .int r10, .int r13] h12 (fun h15 => am_EI m_Port_copyFrom kc ks 7 [.ref a0, .ref a1, .int (x2 + 1)] [] h15 Q)))))))))))))))))) : am_EI m_Port_copyFrom kc ks 7 [.ref a0, .ref a1, .int x2] [] h Q := by
  refine am_blk_ok (c := 2) (ini := false) (by decide) rfl (fun q => by cases q) bk_Port_copyFrom_7_2 _ 9 _ _ _ bk_Port_copyFrom_7_2_ok rfl ?_
  show am_EI m_Port_copyFrom kc ks 9 [.ref a0, .ref a1, .int x2] [.ref a1, .int x2] h Q
  obtain ⟨o1, t⟩ := t
  refine am_callV (M2 := m_Port_turnCount) (ci := 2) (a := a1) (kc := kc) (ks := ks) (k2c := 0) (k2s := 0) (as := [.int x2]) [] dc_Port_copyFrom_9 lk_2_44 im_Port_turnCount se_Port_turnCount lm_Port_turnCount np_Port_turnCount ⟨Nat.le_of_ble_eq_true rfl, Nat.le_of_ble_eq_true rfl⟩ (fun _ => Nat.le_of_ble_eq_true rfl) (by decide) rfl o1 (am_Ei.end (am_Ei.mono t (fun r3 h2 t => ?_)))
  refine am_ic_ge (tgt := 40) dc_Port_copyFrom_12 (by decide) (fun c4 => ?_) (fun c4 => ?_)
  · replace t := t.1 c4
    exact am_vret dc_Port_copyFrom_40 rfl t
  · replace t := t.2 c4
    refine am_blk_ok (c := 2) (ini := false) (by decide) rfl (fun q => by cases q) bk_Port_copyFrom_15_3 _ 18 _ _ _ bk_Port_copyFrom_15_3_ok rfl ?_
    show am_EI m_Port_copyFrom kc ks 18 [.ref a0, .ref a1, .int x2] [.int x2, .ref a1, .ref a0] h2 Q
    obtain ⟨o5, t⟩ := t
    refine am_callV (M2 := m_Port_isHigh) (ci := 2) (a := a1) (kc := kc) (ks := ks) (k2c := 0) (k2s := 0) (as := [.ref a0]) [.int x2] dc_Port_copyFrom_18 lk_2_47 im_Port_isHigh se_Port_isHigh lm_Port_isHigh np_Port_isHigh ⟨Nat.le_of_ble_eq_true rfl, Nat.le_of_ble_eq_true rfl⟩ (fun _ => Nat.le_of_ble_eq_true rfl) (by decide) rfl o5 (am_Ei.end (am_Ei.mono t (fun r7 h6 t => ?_)))
    refine am_blk_ok (c := 2) (ini := false) (by decide) rfl (fun q => by cases q) bk_Port_copyFrom_21_2 _ 23 _ _ _ bk_Port_copyFrom_21_2_ok rfl ?_
    show am_EI m_Port_copyFrom kc ks 23 [.ref a0, .ref a1, .int x2] [.int x2, .ref a1, .int r7, .ref a0] h6 Q
    obtain ⟨o8, t⟩ := t
    refine am_callV (M2 := m_Port_minuteOf) (ci := 2) (a := a1) (kc := kc) (ks := ks) (k2c := 0) (k2s := 0) (as := [.int r7, .ref a0]) [.int x2] dc_Port_copyFrom_23 lk_2_33 im_Port_minuteOf se_Port_minuteOf lm_Port_minuteOf np_Port_minuteOf ⟨Nat.le_of_ble_eq_true rfl, Nat.le_of_ble_eq_true rfl⟩ (fun _ => Nat.le_of_ble_eq_true rfl) (by decide) rfl o8 (am_Ei.end (am_Ei.mono t (fun r10 h9 t => ?_)))
    refine am_blk_ok (c := 2) (ini := false) (by decide) rfl (fun q => by cases q) bk_Port_copyFrom_26_2 _ 28 _ _ _ bk_Port_copyFrom_26_2_ok rfl ?_
    show am_EI m_Port_copyFrom kc ks 28 [.ref a0, .ref a1, .int x2] [.int x2, .ref a1, .int r10, .int r7, .ref a0] h9 Q
    obtain ⟨o11, t⟩ := t
    refine am_callV (M2 := m_Port_heightOf) (ci := 2) (a := a1) (kc := kc) (ks := ks) (k2c := 0) (k2s := 0) (as := [.int r10, .int r7, .ref a0]) [.int x2] dc_Port_copyFrom_28 lk_2_51 im_Port_heightOf se_Port_heightOf lm_Port_heightOf np_Port_heightOf ⟨Nat.le_of_ble_eq_true rfl, Nat.le_of_ble_eq_true rfl⟩ (fun _ => Nat.le_of_ble_eq_true rfl) (by decide) rfl o11 (am_Ei.end (am_Ei.mono t (fun r13 h12 t => ?_)))
    obtain ⟨o14, t⟩ := t
    refine am_callV (M2 := m_Port_add) (ci := 2) (a := a0) (kc := kc) (ks := ks) (k2c := 0) (k2s := 0) (as := []) [.int r7, .int r10, .int r13] dc_Port_copyFrom_31 lk_2_54 im_Port_add se_Port_add lm_Port_add np_Port_add ⟨Nat.le_of_ble_eq_true rfl, Nat.le_of_ble_eq_true rfl⟩ (fun _ => Nat.le_of_ble_eq_true rfl) (by decide) rfl o14 (am_Ew.end (am_Ew.mono t (fun h15 t => ?_)))
    refine am_blk_ok (c := 2) (ini := false) (by decide) rfl (fun q => by cases q) bk_Port_copyFrom_34_2 _ 7 _ _ _ bk_Port_copyFrom_34_2_ok rfl ?_
    show am_EI m_Port_copyFrom kc ks 7 [.ref a0, .ref a1, .int (x2 + 1)] [] h15 Q
    exact t
def bk_Port_excess_0_1 : List am_E := [(0, .iload_n 1, 1, 0, 0)]
theorem bk_Port_excess_0_1_ok : bk_Port_excess_0_1.all (am_ok 2 false m_Port_excess.2.1) = true := by decide +kernel
def bk_Port_excess_24_1 : List am_E := [(24, .iconst 0, 1, 0, 0)]
theorem bk_Port_excess_24_1_ok : bk_Port_excess_24_1.all (am_ok 2 false m_Port_excess.2.1) = true := by decide +kernel
def bk_Port_excess_4_5 : List am_E := [(4, .iload_n 1, 1, 0, 0), (5, .iconst 1, 1, 0, 1), (6, .iadd, 1, 0, 0), (7, .aload_n 0, 1, 0, 0), (8, .getfield 7, 3, 816, 0)]
theorem bk_Port_excess_4_5_ok : bk_Port_excess_4_5.all (am_ok 2 false m_Port_excess.2.1) = true := by decide +kernel
def bk_Port_excess_14_5 : List am_E := [(14, .iload_n 1, 1, 0, 0), (15, .iconst 1, 1, 0, 1), (16, .iadd, 1, 0, 0), (17, .aload_n 0, 1, 0, 0), (18, .getfield 19, 3, 800, 0)]
theorem bk_Port_excess_14_5_ok : bk_Port_excess_14_5.all (am_ok 2 false m_Port_excess.2.1) = true := by decide +kernel
def bk_Port_excess_26_13 : List am_E := [(26, .aload_n 0, 1, 0, 0), (27, .getfield 26, 3, 809, 0), (30, .iload_n 1, 1, 0, 0), (31, .iconst 1, 1, 0, 1), (32, .iadd, 1, 0, 0), (33, .iaload, 1, 0, 0), (34, .aload_n 0, 1, 0, 0), (35, .getfield 26, 3, 809, 0), (38, .iload_n 1, 1, 0, 0), (39, .iaload, 1, 0, 0), (40, .isub, 1, 0, 0), (41, .istore 4, 2, 0, 0), (43, .iload 4, 2, 0, 0)]
theorem bk_Port_excess_26_13_ok : bk_Port_excess_26_13.all (am_ok 2 false m_Port_excess.2.1) = true := by decide +kernel
def bk_Port_excess_50_14 : List am_E := [(50, .bipush 6, 2, 0, 6), (52, .iload_n 2, 1, 0, 0), (53, .aload_n 0, 1, 0, 0), (54, .getfield 26, 3, 809, 0), (57, .iload_n 1, 1, 0, 0), (58, .iaload, 1, 0, 0), (59, .isub, 1, 0, 0), (60, .imul, 1, 0, 0), (61, .istore 5, 2, 0, 0), (63, .iload 5, 2, 0, 0), (65, .iload 4, 2, 0, 0), (67, .idiv, 1, 0, 0), (68, .istore 6, 2, 0, 0), (70, .iload 6, 2, 0, 0)]
theorem bk_Port_excess_50_14_ok : bk_Port_excess_50_14.all (am_ok 2 false m_Port_excess.2.1) = true := by decide +kernel
def bk_Port_excess_93_1 : List am_E := [(93, .iconst 0, 1, 0, 0)]
theorem bk_Port_excess_93_1_ok : bk_Port_excess_93_1.all (am_ok 2 false m_Port_excess.2.1) = true := by decide +kernel
def bk_Port_excess_75_3 : List am_E := [(75, .iload 6, 2, 0, 0), (77, .getstatic 97, 3, 3, 0), (80, .arraylength, 1, 0, 0)]
theorem bk_Port_excess_75_3_ok : bk_Port_excess_75_3.all (am_ok 2 false m_Port_excess.2.1) = true := by decide +kernel
def bk_Port_excess_84_3 : List am_E := [(84, .iload 6, 2, 0, 0), (86, .getstatic 100, 3, 4, 0), (89, .arraylength, 1, 0, 0)]
theorem bk_Port_excess_84_3_ok : bk_Port_excess_84_3.all (am_ok 2 false m_Port_excess.2.1) = true := by decide +kernel
def bk_Port_excess_95_38 : List am_E := [(95, .getstatic 97, 3, 3, 0), (98, .iload 6, 2, 0, 0), (100, .iaload, 1, 0, 0), (101, .iload 4, 2, 0, 0), (103, .imul, 1, 0, 0), (104, .getstatic 100, 3, 4, 0), (107, .iload 6, 2, 0, 0), (109, .iaload, 1, 0, 0), (110, .iload 5, 2, 0, 0), (112, .iload 4, 2, 0, 0), (114, .irem, 1, 0, 0), (115, .imul, 1, 0, 0), (116, .iadd, 1, 0, 0), (117, .istore 7, 2, 0, 0), (119, .aload_n 0, 1, 0, 0), (120, .getfield 30, 3, 813, 0), (123, .iload_n 1, 1, 0, 0), (124, .iaload, 1, 0, 0), (125, .iload_n 3, 1, 0, 0), (126, .isub, 1, 0, 0), (127, .bipush 12, 2, 0, 12), (129, .imul, 1, 0, 0), (130, .iload 4, 2, 0, 0), (132, .imul, 1, 0, 0), (133, .aload_n 0, 1, 0, 0), (134, .getfield 30, 3, 813, 0), (137, .iload_n 1, 1, 0, 0), (138, .iconst 1, 1, 0, 1), (139, .iadd, 1, 0, 0), (140, .iaload, 1, 0, 0), (141, .aload_n 0, 1, 0, 0), (142, .getfield 30, 3, 813, 0), (145, .iload_n 1, 1, 0, 0), (146, .iaload, 1, 0, 0), (147, .isub, 1, 0, 0), (148, .iload 7, 2, 0, 0), (150, .imul, 1, 0, 0), (151, .iadd, 1, 0, 0)]
theorem bk_Port_excess_95_38_ok : bk_Port_excess_95_38.all (am_ok 2 false m_Port_excess.2.1) = true := by decide +kernel
def bk_Port_excess_48_1 : List am_E := [(48, .iconst 0, 1, 0, 0)]
theorem bk_Port_excess_48_1_ok : bk_Port_excess_48_1.all (am_ok 2 false m_Port_excess.2.1) = true := by decide +kernel
theorem dc_Port_excess_25 : decode m_Port_excess.2.1 25 = .ok (.ireturn, 1) := by decide +kernel
theorem dc_Port_excess_94 : decode m_Port_excess.2.1 94 = .ok (.ireturn, 1) := by decide +kernel
theorem dc_Port_excess_152 : decode m_Port_excess.2.1 152 = .ok (.ireturn, 1) := by decide +kernel
theorem dc_Port_excess_90 : decode m_Port_excess.2.1 90 = .ok (.if_icmp .lt 5, 3) := by decide +kernel
theorem dc_Port_excess_81 : decode m_Port_excess.2.1 81 = .ok (.if_icmp .ge 12, 3) := by decide +kernel
theorem dc_Port_excess_72 : decode m_Port_excess.2.1 72 = .ok (.ifCond .lt 21, 3) := by decide +kernel
theorem dc_Port_excess_49 : decode m_Port_excess.2.1 49 = .ok (.ireturn, 1) := by decide +kernel
theorem dc_Port_excess_45 : decode m_Port_excess.2.1 45 = .ok (.ifCond .gt 5, 3) := by decide +kernel
theorem dc_Port_excess_21 : decode m_Port_excess.2.1 21 = .ok (.if_icmp .lt 5, 3) := by decide +kernel
theorem dc_Port_excess_11 : decode m_Port_excess.2.1 11 = .ok (.if_icmp .ge 13, 3) := by decide +kernel
theorem dc_Port_excess_1 : decode m_Port_excess.2.1 1 = .ok (.ifCond .lt 23, 3) := by decide +kernel
set_option maxRecDepth 20000 in
theorem sg_Port_excess_0 {kc ks : Nat} (a0 : Nat) (x1 x2 x3 : Int32) (h : am_H) (Q : Option Value → am_H → Prop) (t : ((x1 < 0 → Q (some (.int 0)) h) ∧ (¬ x1 < 0 → (am_tg h a0 = (2, 5) ∧ (((am_I h a0 4) ≤ (x1 + 1) → Q (some (.int 0)) h) ∧ (¬ (am_I h a0 4) ≤ (x1 + 1) → (((x1 + 1) < (am_I h a0 0) → (∃ b5, am_P h a0 2 = some b5 ∧ ((am_tg h b5).1 = 20 ∧ (vp_in (x1 + 1) (am_tg h b5).2 ∧ (vp_in x1 (am_tg h b5).2 ∧ ((0 < ((am_I h b5 (x1 + 1).toNatClampNeg) - (am_I h b5 x1.toNatClampNeg)) → ((¬ ((am_I h b5 (x1 + 1).toNatClampNeg) - (am_I h b5 x1.toNatClampNeg)) = 0) ∧ ((((6 * (x2 - (am_I h b5 x1.toNatClampNeg))) / ((am_I h b5 (x1 + 1).toNatClampNeg) - (am_I h b5 x1.toNatClampNeg))) < 0 → Q (some (.int 0)) h) ∧ (¬ ((6 * (x2 - (am_I h b5 x1.toNatClampNeg))) / ((am_I h b5 (x1 + 1).toNatClampNeg) - (am_I h b5 x1.toNatClampNeg))) < 0 → (((Int32.ofNat (am_cb 200).length) ≤ ((6 * (x2 - (am_I h b5 x1.toNatClampNeg))) / ((am_I h b5 (x1 + 1).toNatClampNeg) - (am_I h b5 x1.toNatClampNeg))) → Q (some (.int 0)) h) ∧ (¬ (Int32.ofNat (am_cb 200).length) ≤ ((6 * (x2 - (am_I h b5 x1.toNatClampNeg))) / ((am_I h b5 (x1 + 1).toNatClampNeg) - (am_I h b5 x1.toNatClampNeg))) → ((((6 * (x2 - (am_I h b5 x1.toNatClampNeg))) / ((am_I h b5 (x1 + 1).toNatClampNeg) - (am_I h b5 x1.toNatClampNeg))) < (Int32.ofNat (am_cb 201).length) → (vp_in ((6 * (x2 - (am_I h b5 x1.toNatClampNeg))) / ((am_I h b5 (x1 + 1).toNatClampNeg) - (am_I h b5 x1.toNatClampNeg))) (am_cb 200).length ∧ (vp_in ((6 * (x2 - (am_I h b5 x1.toNatClampNeg))) / ((am_I h b5 (x1 + 1).toNatClampNeg) - (am_I h b5 x1.toNatClampNeg))) (am_cb 201).length ∧ (∃ b17, am_P h a0 3 = some b17 ∧ ((am_tg h b17).1 = 20 ∧ (vp_in x1 (am_tg h b17).2 ∧ (vp_in (x1 + 1) (am_tg h b17).2 ∧ Q (some (.int (((((am_I h b17 x1.toNatClampNeg) - x3) * 12) * ((am_I h b5 (x1 + 1).toNatClampNeg) - (am_I h b5 x1.toNatClampNeg))) + (((am_I h b17 (x1 + 1).toNatClampNeg) - (am_I h b17 x1.toNatClampNeg)) * ((((am_cb 200).getD ((6 * (x2 - (am_I h b5 x1.toNatClampNeg))) / ((am_I h b5 (x1 + 1).toNatClampNeg) - (am_I h b5 x1.toNatClampNeg))).toNatClampNeg 0) * ((am_I h b5 (x1 + 1).toNatClampNeg) - (am_I h b5 x1.toNatClampNeg))) + (((am_cb 201).getD ((6 * (x2 - (am_I h b5 x1.toNatClampNeg))) / ((am_I h b5 (x1 + 1).toNatClampNeg) - (am_I h b5 x1.toNatClampNeg))).toNatClampNeg 0) * ((6 * (x2 - (am_I h b5 x1.toNatClampNeg))) % ((am_I h b5 (x1 + 1).toNatClampNeg) - (am_I h b5 x1.toNatClampNeg))))))))) h))))))) ∧ (¬ ((6 * (x2 - (am_I h b5 x1.toNatClampNeg))) / ((am_I h b5 (x1 + 1).toNatClampNeg) - (am_I h b5 x1.toNatClampNeg))) < (Int32.ofNat (am_cb 201).length) → Q (some (.int 0)) h)))))))) ∧ (¬ 0 < ((am_I h b5 (x1 + 1).toNatClampNeg) - (am_I h b5 x1.toNatClampNeg)) → Q (some (.int 0)) h))))))) ∧ (¬ (x1 + 1) < (am_I h a0 0) → Q (some (.int 0)) h)))))))) : am_EI m_Port_excess kc ks 0 [.ref a0, .int x1, .int x2, .int x3, .float 0, .float 0, .float 0, .float 0] [] h Q := by
  refine am_blk_ok (c := 2) (ini := false) (by decide) rfl (fun q => by cases q) bk_Port_excess_0_1 _ 1 _ _ _ bk_Port_excess_0_1_ok rfl ?_
  show am_EI m_Port_excess kc ks 1 [.ref a0, .int x1, .int x2, .int x3, .float 0, .float 0, .float 0, .float 0] [.int x1] h Q
  refine am_if_lt (tgt := 24) dc_Port_excess_1 (by decide) (fun c1 => ?_) (fun c1 => ?_)
  · replace t := t.1 c1
    refine am_blk_ok (c := 2) (ini := false) (by decide) rfl (fun q => by cases q) bk_Port_excess_24_1 _ 25 _ _ _ bk_Port_excess_24_1_ok rfl ?_
    show am_EI m_Port_excess kc ks 25 [.ref a0, .int x1, .int x2, .int x3, .float 0, .float 0, .float 0, .float 0] [.int 0] h Q
    exact am_iret dc_Port_excess_25 rfl t
  · replace t := t.2 c1
    refine am_blk_ok (c := 2) (ini := false) (by decide) rfl (fun q => by cases q) bk_Port_excess_4_5 _ 11 _ _ _ bk_Port_excess_4_5_ok rfl ?_
    show (am_tg h a0 = (2, 5) ∧ am_EI m_Port_excess kc ks 11 [.ref a0, .int x1, .int x2, .int x3, .float 0, .float 0, .float 0, .float 0] [.int (am_I h a0 4), .int (x1 + 1)] h Q)
    obtain ⟨o2, t⟩ := t
    refine ⟨o2, ?_⟩
    refine am_ic_ge (tgt := 24) dc_Port_excess_11 (by decide) (fun c3 => ?_) (fun c3 => ?_)
    · replace t := t.1 c3
      refine am_blk_ok (c := 2) (ini := false) (by decide) rfl (fun q => by cases q) bk_Port_excess_24_1 _ 25 _ _ _ bk_Port_excess_24_1_ok rfl ?_
      show am_EI m_Port_excess kc ks 25 [.ref a0, .int x1, .int x2, .int x3, .float 0, .float 0, .float 0, .float 0] [.int 0] h Q
      exact am_iret dc_Port_excess_25 rfl t
    · replace t := t.2 c3
      refine am_blk_ok (c := 2) (ini := false) (by decide) rfl (fun q => by cases q) bk_Port_excess_14_5 _ 21 _ _ _ bk_Port_excess_14_5_ok rfl ?_
      show (am_tg h a0 = (2, 5) ∧ am_EI m_Port_excess kc ks 21 [.ref a0, .int x1, .int x2, .int x3, .float 0, .float 0, .float 0, .float 0] [.int (am_I h a0 0), .int (x1 + 1)] h Q)
      refine ⟨o2, ?_⟩
      refine am_ic_lt (tgt := 26) dc_Port_excess_21 (by decide) (fun c4 => ?_) (fun c4 => ?_)
      · replace t := t.1 c4
        refine am_blk_ok (c := 2) (ini := false) (by decide) rfl (fun q => by cases q) bk_Port_excess_26_13 _ 45 _ _ _ bk_Port_excess_26_13_ok rfl ?_
        show (am_tg h a0 = (2, 5) ∧ (∃ b5, am_P h a0 2 = some b5 ∧ ((am_tg h b5).1 = 20 ∧ (vp_in (x1 + 1) (am_tg h b5).2 ∧ (am_tg h a0 = (2, 5) ∧ (∃ b6, am_P h a0 2 = some b6 ∧ ((am_tg h b6).1 = 20 ∧ (vp_in x1 (am_tg h b6).2 ∧ am_EI m_Port_excess kc ks 45 [.ref a0, .int x1, .int x2, .int x3, .int ((am_I h b5 (x1 + 1).toNatClampNeg) - (am_I h b6 x1.toNatClampNeg)), .float 0, .float 0, .float 0] [.int ((am_I h b5 (x1 + 1).toNatClampNeg) - (am_I h b6 x1.toNatClampNeg))] h Q))))))))
        obtain ⟨b5, q7, o8, o9, o10, t⟩ := t
        refine ⟨o2, b5, q7, o8, o9, o2, b5, q7, o8, o10, ?_⟩
        refine am_if_gt (tgt := 50) dc_Port_excess_45 (by decide) (fun c11 => ?_) (fun c11 => ?_)
        · replace t := t.1 c11
          refine am_blk_ok (c := 2) (ini := false) (by decide) rfl (fun q => by cases q) bk_Port_excess_50_14 _ 72 _ _ _ bk_Port_excess_50_14_ok rfl ?_
          show (am_tg h a0 = (2, 5) ∧ (∃ b12, am_P h a0 2 = some b12 ∧ ((am_tg h b12).1 = 20 ∧ (vp_in x1 (am_tg h b12).2 ∧ ((¬ ((am_I h b5 (x1 + 1).toNatClampNeg) - (am_I h b5 x1.toNatClampNeg)) = 0) ∧ am_EI m_Port_excess kc ks 72 [.ref a0, .int x1, .int x2, .int x3, .int ((am_I h b5 (x1 + 1).toNatClampNeg) - (am_I h b5 x1.toNatClampNeg)), .int (6 * (x2 - (am_I h b12 x1.toNatClampNeg))), .int ((6 * (x2 - (am_I h b12 x1.toNatClampNeg))) / ((am_I h b5 (x1 + 1).toNatClampNeg) - (am_I h b5 x1.toNatClampNeg))), .float 0] [.int ((6 * (x2 - (am_I h b12 x1.toNatClampNeg))) / ((am_I h b5 (x1 + 1).toNatClampNeg) - (am_I h b5 x1.toNatClampNeg)))] h Q)))))
          obtain ⟨o13, t⟩ := t
          refine ⟨o2, b5, q7, o8, o10, o13, ?_⟩
          refine am_if_lt (tgt := 93) dc_Port_excess_72 (by decide) (fun c14 => ?_) (fun c14 => ?_)
          · replace t := t.1 c14
            refine am_blk_ok (c := 2) (ini := false) (by decide) rfl (fun q => by cases q) bk_Port_excess_93_1 _ 94 _ _ _ bk_Port_excess_93_1_ok rfl ?_
            show am_EI m_Port_excess kc ks 94 [.ref a0, .int x1, .int x2, .int x3, .int ((am_I h b5 (x1 + 1).toNatClampNeg) - (am_I h b5 x1.toNatClampNeg)), .int (6 * (x2 - (am_I h b5 x1.toNatClampNeg))), .int ((6 * (x2 - (am_I h b5 x1.toNatClampNeg))) / ((am_I h b5 (x1 + 1).toNatClampNeg) - (am_I h b5 x1.toNatClampNeg))), .float 0] [.int 0] h Q
            exact am_iret dc_Port_excess_94 rfl t
          · replace t := t.2 c14
            refine am_blk_ok (c := 2) (ini := false) (by decide) rfl (fun q => by cases q) bk_Port_excess_75_3 _ 81 _ _ _ bk_Port_excess_75_3_ok rfl ?_
            show ((200 = 200 ∨ 200 = 201 ∨ (100 ≤ 200 ∧ 200 < 130)) ∧ am_EI m_Port_excess kc ks 81 [.ref a0, .int x1, .int x2, .int x3, .int ((am_I h b5 (x1 + 1).toNatClampNeg) - (am_I h b5 x1.toNatClampNeg)), .int (6 * (x2 - (am_I h b5 x1.toNatClampNeg))), .int ((6 * (x2 - (am_I h b5 x1.toNatClampNeg))) / ((am_I h b5 (x1 + 1).toNatClampNeg) - (am_I h b5 x1.toNatClampNeg))), .float 0] [.int (Int32.ofNat (am_cb 200).length), .int ((6 * (x2 - (am_I h b5 x1.toNatClampNeg))) / ((am_I h b5 (x1 + 1).toNatClampNeg) - (am_I h b5 x1.toNatClampNeg)))] h Q)
            refine ⟨(Or.inl rfl), ?_⟩
            refine am_ic_ge (tgt := 93) dc_Port_excess_81 (by decide) (fun c15 => ?_) (fun c15 => ?_)
            · replace t := t.1 c15
              refine am_blk_ok (c := 2) (ini := false) (by decide) rfl (fun q => by cases q) bk_Port_excess_93_1 _ 94 _ _ _ bk_Port_excess_93_1_ok rfl ?_
              show am_EI m_Port_excess kc ks 94 [.ref a0, .int x1, .int x2, .int x3, .int ((am_I h b5 (x1 + 1).toNatClampNeg) - (am_I h b5 x1.toNatClampNeg)), .int (6 * (x2 - (am_I h b5 x1.toNatClampNeg))), .int ((6 * (x2 - (am_I h b5 x1.toNatClampNeg))) / ((am_I h b5 (x1 + 1).toNatClampNeg) - (am_I h b5 x1.toNatClampNeg))), .float 0] [.int 0] h Q
              exact am_iret dc_Port_excess_94 rfl t
            · replace t := t.2 c15
              refine am_blk_ok (c := 2) (ini := false) (by decide) rfl (fun q => by cases q) bk_Port_excess_84_3 _ 90 _ _ _ bk_Port_excess_84_3_ok rfl ?_
              show ((201 = 200 ∨ 201 = 201 ∨ (100 ≤ 201 ∧ 201 < 130)) ∧ am_EI m_Port_excess kc ks 90 [.ref a0, .int x1, .int x2, .int x3, .int ((am_I h b5 (x1 + 1).toNatClampNeg) - (am_I h b5 x1.toNatClampNeg)), .int (6 * (x2 - (am_I h b5 x1.toNatClampNeg))), .int ((6 * (x2 - (am_I h b5 x1.toNatClampNeg))) / ((am_I h b5 (x1 + 1).toNatClampNeg) - (am_I h b5 x1.toNatClampNeg))), .float 0] [.int (Int32.ofNat (am_cb 201).length), .int ((6 * (x2 - (am_I h b5 x1.toNatClampNeg))) / ((am_I h b5 (x1 + 1).toNatClampNeg) - (am_I h b5 x1.toNatClampNeg)))] h Q)
              refine ⟨(Or.inr (Or.inl rfl)), ?_⟩
              refine am_ic_lt (tgt := 95) dc_Port_excess_90 (by decide) (fun c16 => ?_) (fun c16 => ?_)
              · replace t := t.1 c16
                refine am_blk_ok (c := 2) (ini := false) (by decide) rfl (fun q => by cases q) bk_Port_excess_95_38 _ 152 _ _ _ bk_Port_excess_95_38_ok rfl ?_
                show ((200 = 200 ∨ 200 = 201) ∧ (vp_in ((6 * (x2 - (am_I h b5 x1.toNatClampNeg))) / ((am_I h b5 (x1 + 1).toNatClampNeg) - (am_I h b5 x1.toNatClampNeg))) (am_cb 200).length ∧ ((201 = 200 ∨ 201 = 201) ∧ (vp_in ((6 * (x2 - (am_I h b5 x1.toNatClampNeg))) / ((am_I h b5 (x1 + 1).toNatClampNeg) - (am_I h b5 x1.toNatClampNeg))) (am_cb 201).length ∧ ((¬ ((am_I h b5 (x1 + 1).toNatClampNeg) - (am_I h b5 x1.toNatClampNeg)) = 0) ∧ (am_tg h a0 = (2, 5) ∧ (∃ b17, am_P h a0 3 = some b17 ∧ ((am_tg h b17).1 = 20 ∧ (vp_in x1 (am_tg h b17).2 ∧ (am_tg h a0 = (2, 5) ∧ (∃ b18, am_P h a0 3 = some b18 ∧ ((am_tg h b18).1 = 20 ∧ (vp_in (x1 + 1) (am_tg h b18).2 ∧ (am_tg h a0 = (2, 5) ∧ (∃ b19, am_P h a0 3 = some b19 ∧ ((am_tg h b19).1 = 20 ∧ (vp_in x1 (am_tg h b19).2 ∧ am_EI m_Port_excess kc ks 152 [.ref a0, .int x1, .int x2, .int x3, .int ((am_I h b5 (x1 + 1).toNatClampNeg) - (am_I h b5 x1.toNatClampNeg)), .int (6 * (x2 - (am_I h b5 x1.toNatClampNeg))), .int ((6 * (x2 - (am_I h b5 x1.toNatClampNeg))) / ((am_I h b5 (x1 + 1).toNatClampNeg) - (am_I h b5 x1.toNatClampNeg))), .int ((((am_cb 200).getD ((6 * (x2 - (am_I h b5 x1.toNatClampNeg))) / ((am_I h b5 (x1 + 1).toNatClampNeg) - (am_I h b5 x1.toNatClampNeg))).toNatClampNeg 0) * ((am_I h b5 (x1 + 1).toNatClampNeg) - (am_I h b5 x1.toNatClampNeg))) + (((am_cb 201).getD ((6 * (x2 - (am_I h b5 x1.toNatClampNeg))) / ((am_I h b5 (x1 + 1).toNatClampNeg) - (am_I h b5 x1.toNatClampNeg))).toNatClampNeg 0) * ((6 * (x2 - (am_I h b5 x1.toNatClampNeg))) % ((am_I h b5 (x1 + 1).toNatClampNeg) - (am_I h b5 x1.toNatClampNeg)))))] [.int (((((am_I h b17 x1.toNatClampNeg) - x3) * 12) * ((am_I h b5 (x1 + 1).toNatClampNeg) - (am_I h b5 x1.toNatClampNeg))) + (((am_I h b18 (x1 + 1).toNatClampNeg) - (am_I h b19 x1.toNatClampNeg)) * ((((am_cb 200).getD ((6 * (x2 - (am_I h b5 x1.toNatClampNeg))) / ((am_I h b5 (x1 + 1).toNatClampNeg) - (am_I h b5 x1.toNatClampNeg))).toNatClampNeg 0) * ((am_I h b5 (x1 + 1).toNatClampNeg) - (am_I h b5 x1.toNatClampNeg))) + (((am_cb 201).getD ((6 * (x2 - (am_I h b5 x1.toNatClampNeg))) / ((am_I h b5 (x1 + 1).toNatClampNeg) - (am_I h b5 x1.toNatClampNeg))).toNatClampNeg 0) * ((6 * (x2 - (am_I h b5 x1.toNatClampNeg))) % ((am_I h b5 (x1 + 1).toNatClampNeg) - (am_I h b5 x1.toNatClampNeg)))))))] h Q)))))))))))))))))
                obtain ⟨o20, o21, b17, q22, o23, o24, o25, t⟩ := t
                refine ⟨(Or.inl rfl), o20, (Or.inr rfl), o21, o13, o2, b17, q22, o23, o24, o2, b17, q22, o23, o25, o2, b17, q22, o23, o24, ?_⟩
                exact am_iret dc_Port_excess_152 rfl t
              · replace t := t.2 c16
                refine am_blk_ok (c := 2) (ini := false) (by decide) rfl (fun q => by cases q) bk_Port_excess_93_1 _ 94 _ _ _ bk_Port_excess_93_1_ok rfl ?_
                show am_EI m_Port_excess kc ks 94 [.ref a0, .int x1, .int x2, .int x3, .int ((am_I h b5 (x1 + 1).toNatClampNeg) - (am_I h b5 x1.toNatClampNeg)), .int (6 * (x2 - (am_I h b5 x1.toNatClampNeg))), .int ((6 * (x2 - (am_I h b5 x1.toNatClampNeg))) / ((am_I h b5 (x1 + 1).toNatClampNeg) - (am_I h b5 x1.toNatClampNeg))), .float 0] [.int 0] h Q
                exact am_iret dc_Port_excess_94 rfl t
        · replace t := t.2 c11
          refine am_blk_ok (c := 2) (ini := false) (by decide) rfl (fun q => by cases q) bk_Port_excess_48_1 _ 49 _ _ _ bk_Port_excess_48_1_ok rfl ?_
          show am_EI m_Port_excess kc ks 49 [.ref a0, .int x1, .int x2, .int x3, .int ((am_I h b5 (x1 + 1).toNatClampNeg) - (am_I h b5 x1.toNatClampNeg)), .float 0, .float 0, .float 0] [.int 0] h Q
          exact am_iret dc_Port_excess_49 rfl t
      · replace t := t.2 c4
        refine am_blk_ok (c := 2) (ini := false) (by decide) rfl (fun q => by cases q) bk_Port_excess_24_1 _ 25 _ _ _ bk_Port_excess_24_1_ok rfl ?_
        show am_EI m_Port_excess kc ks 25 [.ref a0, .int x1, .int x2, .int x3, .float 0, .float 0, .float 0, .float 0] [.int 0] h Q
        exact am_iret dc_Port_excess_25 rfl t
set_option maxRecDepth 20000 in
theorem ev_Port_excess (a0 : Nat) (x1 x2 x3 : Int32) (h : am_H) (Q : Int32 → am_H → Prop) (t : ((x1 < 0 → Q 0 h) ∧ (¬ x1 < 0 → (am_tg h a0 = (2, 5) ∧ (((am_I h a0 4) ≤ (x1 + 1) → Q 0 h) ∧ (¬ (am_I h a0 4) ≤ (x1 + 1) → (((x1 + 1) < (am_I h a0 0) → (∃ b5, am_P h a0 2 = some b5 ∧ ((am_tg h b5).1 = 20 ∧ (vp_in (x1 + 1) (am_tg h b5).2 ∧ (vp_in x1 (am_tg h b5).2 ∧ ((0 < ((am_I h b5 (x1 + 1).toNatClampNeg) - (am_I h b5 x1.toNatClampNeg)) → ((¬ ((am_I h b5 (x1 + 1).toNatClampNeg) - (am_I h b5 x1.toNatClampNeg)) = 0) ∧ ((((6 * (x2 - (am_I h b5 x1.toNatClampNeg))) / ((am_I h b5 (x1 + 1).toNatClampNeg) - (am_I h b5 x1.toNatClampNeg))) < 0 → Q 0 h) ∧ (¬ ((6 * (x2 - (am_I h b5 x1.toNatClampNeg))) / ((am_I h b5 (x1 + 1).toNatClampNeg) - (am_I h b5 x1.toNatClampNeg))) < 0 → (((Int32.ofNat (am_cb 200).length) ≤ ((6 * (x2 - (am_I h b5 x1.toNatClampNeg))) / ((am_I h b5 (x1 + 1).toNatClampNeg) - (am_I h b5 x1.toNatClampNeg))) → Q 0 h) ∧ (¬ (Int32.ofNat (am_cb 200).length) ≤ ((6 * (x2 - (am_I h b5 x1.toNatClampNeg))) / ((am_I h b5 (x1 + 1).toNatClampNeg) - (am_I h b5 x1.toNatClampNeg))) → ((((6 * (x2 - (am_I h b5 x1.toNatClampNeg))) / ((am_I h b5 (x1 + 1).toNatClampNeg) - (am_I h b5 x1.toNatClampNeg))) < (Int32.ofNat (am_cb 201).length) → (vp_in ((6 * (x2 - (am_I h b5 x1.toNatClampNeg))) / ((am_I h b5 (x1 + 1).toNatClampNeg) - (am_I h b5 x1.toNatClampNeg))) (am_cb 200).length ∧ (vp_in ((6 * (x2 - (am_I h b5 x1.toNatClampNeg))) / ((am_I h b5 (x1 + 1).toNatClampNeg) - (am_I h b5 x1.toNatClampNeg))) (am_cb 201).length ∧ (∃ b17, am_P h a0 3 = some b17 ∧ ((am_tg h b17).1 = 20 ∧ (vp_in x1 (am_tg h b17).2 ∧ (vp_in (x1 + 1) (am_tg h b17).2 ∧ Q (((((am_I h b17 x1.toNatClampNeg) - x3) * 12) * ((am_I h b5 (x1 + 1).toNatClampNeg) - (am_I h b5 x1.toNatClampNeg))) + (((am_I h b17 (x1 + 1).toNatClampNeg) - (am_I h b17 x1.toNatClampNeg)) * ((((am_cb 200).getD ((6 * (x2 - (am_I h b5 x1.toNatClampNeg))) / ((am_I h b5 (x1 + 1).toNatClampNeg) - (am_I h b5 x1.toNatClampNeg))).toNatClampNeg 0) * ((am_I h b5 (x1 + 1).toNatClampNeg) - (am_I h b5 x1.toNatClampNeg))) + (((am_cb 201).getD ((6 * (x2 - (am_I h b5 x1.toNatClampNeg))) / ((am_I h b5 (x1 + 1).toNatClampNeg) - (am_I h b5 x1.toNatClampNeg))).toNatClampNeg 0) * ((6 * (x2 - (am_I h b5 x1.toNatClampNeg))) % ((am_I h b5 (x1 + 1).toNatClampNeg) - (am_I h b5 x1.toNatClampNeg))))))) h))))))) ∧ (¬ ((6 * (x2 - (am_I h b5 x1.toNatClampNeg))) / ((am_I h b5 (x1 + 1).toNatClampNeg) - (am_I h b5 x1.toNatClampNeg))) < (Int32.ofNat (am_cb 201).length) → Q 0 h)))))))) ∧ (¬ 0 < ((am_I h b5 (x1 + 1).toNatClampNeg) - (am_I h b5 x1.toNatClampNeg)) → Q 0 h))))))) ∧ (¬ (x1 + 1) < (am_I h a0 0) → Q 0 h)))))))) : am_Ei m_Port_excess 0 0 [.ref a0, .int x1, .int x2, .int x3] h Q :=
  am_Ev.of (by decide +kernel) (Nat.le_of_ble_eq_true rfl) (by simp only [List.mem_cons, List.not_mem_nil, or_false]; intro v hv; rcases hv with rfl | rfl | rfl | rfl; all_goals first | exact trivial) (sg_Port_excess_0 (kc := 0) (ks := 0) a0 x1 x2 x3 h (am_qi Q) t)
def bk_Port_faultOfHeight_0_1 : List am_E := [(0, .iload_n 2, 1, 0, 0)]
theorem bk_Port_faultOfHeight_0_1_ok : bk_Port_faultOfHeight_0_1.all (am_ok 2 false m_Port_faultOfHeight.2.1) = true := by decide +kernel
def bk_Port_faultOfHeight_9_2 : List am_E := [(9, .aload_n 0, 1, 0, 0), (10, .getfield 7, 3, 816, 0)]
theorem bk_Port_faultOfHeight_9_2_ok : bk_Port_faultOfHeight_9_2.all (am_ok 2 false m_Port_faultOfHeight.2.1) = true := by decide +kernel
def bk_Port_faultOfHeight_18_5 : List am_E := [(18, .aload_n 0, 1, 0, 0), (19, .aload_n 0, 1, 0, 0), (20, .getfield 7, 3, 816, 0), (23, .iconst 1, 1, 0, 1), (24, .isub, 1, 0, 0)]
theorem bk_Port_faultOfHeight_18_5_ok : bk_Port_faultOfHeight_18_5.all (am_ok 2 false m_Port_faultOfHeight.2.1) = true := by decide +kernel
def bk_Port_faultOfHeight_28_2 : List am_E := [(28, .istore_n 3, 1, 0, 0), (29, .iload_n 1, 1, 0, 0)]
theorem bk_Port_faultOfHeight_28_2_ok : bk_Port_faultOfHeight_28_2.all (am_ok 2 false m_Port_faultOfHeight.2.1) = true := by decide +kernel
def bk_Port_faultOfHeight_46_2 : List am_E := [(46, .iload_n 2, 1, 0, 0), (47, .iload_n 3, 1, 0, 0)]
theorem bk_Port_faultOfHeight_46_2_ok : bk_Port_faultOfHeight_46_2.all (am_ok 2 false m_Port_faultOfHeight.2.1) = true := by decide +kernel
def bk_Port_faultOfHeight_55_3 : List am_E := [(55, .iconst 0, 1, 0, 0), (56, .istore 4, 2, 0, 0), (58, .iload 4, 2, 0, 0)]
theorem bk_Port_faultOfHeight_55_3_ok : bk_Port_faultOfHeight_55_3.all (am_ok 2 false m_Port_faultOfHeight.2.1) = true := by decide +kernel
def bk_Port_faultOfHeight_67_1 : List am_E := [(67, .iconst 4, 1, 0, 4)]
theorem bk_Port_faultOfHeight_67_1_ok : bk_Port_faultOfHeight_67_1.all (am_ok 2 false m_Port_faultOfHeight.2.1) = true := by decide +kernel
def bk_Port_faultOfHeight_51_4 : List am_E := [(51, .iconst 1, 1, 0, 1), (52, .goto 4, 3, 0, 4), (56, .istore 4, 2, 0, 0), (58, .iload 4, 2, 0, 0)]
theorem bk_Port_faultOfHeight_51_4_ok : bk_Port_faultOfHeight_51_4.all (am_ok 2 false m_Port_faultOfHeight.2.1) = true := by decide +kernel
def bk_Port_faultOfHeight_63_2 : List am_E := [(63, .iconst 0, 1, 0, 0), (64, .goto 4, 3, 0, 4)]
theorem bk_Port_faultOfHeight_63_2_ok : bk_Port_faultOfHeight_63_2.all (am_ok 2 false m_Port_faultOfHeight.2.1) = true := by decide +kernel
def bk_Port_faultOfHeight_33_2 : List am_E := [(33, .iload_n 2, 1, 0, 0), (34, .iload_n 3, 1, 0, 0)]
theorem bk_Port_faultOfHeight_33_2_ok : bk_Port_faultOfHeight_33_2.all (am_ok 2 false m_Port_faultOfHeight.2.1) = true := by decide +kernel
def bk_Port_faultOfHeight_42_4 : List am_E := [(42, .iconst 0, 1, 0, 0), (43, .goto 13, 3, 0, 13), (56, .istore 4, 2, 0, 0), (58, .iload 4, 2, 0, 0)]
theorem bk_Port_faultOfHeight_42_4_ok : bk_Port_faultOfHeight_42_4.all (am_ok 2 false m_Port_faultOfHeight.2.1) = true := by decide +kernel
def bk_Port_faultOfHeight_38_4 : List am_E := [(38, .iconst 1, 1, 0, 1), (39, .goto 17, 3, 0, 17), (56, .istore 4, 2, 0, 0), (58, .iload 4, 2, 0, 0)]
theorem bk_Port_faultOfHeight_38_4_ok : bk_Port_faultOfHeight_38_4.all (am_ok 2 false m_Port_faultOfHeight.2.1) = true := by decide +kernel
def bk_Port_faultOfHeight_16_1 : List am_E := [(16, .iconst 0, 1, 0, 0)]
theorem bk_Port_faultOfHeight_16_1_ok : bk_Port_faultOfHeight_16_1.all (am_ok 2 false m_Port_faultOfHeight.2.1) = true := by decide +kernel
def bk_Port_faultOfHeight_7_1 : List am_E := [(7, .iconst 3, 1, 0, 3)]
theorem bk_Port_faultOfHeight_7_1_ok : bk_Port_faultOfHeight_7_1.all (am_ok 2 false m_Port_faultOfHeight.2.1) = true := by decide +kernel
theorem dc_Port_faultOfHeight_1 : decode m_Port_faultOfHeight.2.1 1 = .ok (.invokestatic 71, 3) := by decide +kernel
theorem dc_Port_faultOfHeight_25 : decode m_Port_faultOfHeight.2.1 25 = .ok (.invokevirtual 51, 3) := by decide +kernel
theorem dc_Port_faultOfHeight_68 : decode m_Port_faultOfHeight.2.1 68 = .ok (.ireturn, 1) := by decide +kernel
theorem dc_Port_faultOfHeight_60 : decode m_Port_faultOfHeight.2.1 60 = .ok (.ifCond .eq 7, 3) := by decide +kernel
theorem dc_Port_faultOfHeight_48 : decode m_Port_faultOfHeight.2.1 48 = .ok (.if_icmp .ge 7, 3) := by decide +kernel
theorem dc_Port_faultOfHeight_35 : decode m_Port_faultOfHeight.2.1 35 = .ok (.if_icmp .le 7, 3) := by decide +kernel
theorem dc_Port_faultOfHeight_30 : decode m_Port_faultOfHeight.2.1 30 = .ok (.ifCond .eq 16, 3) := by decide +kernel
theorem dc_Port_faultOfHeight_17 : decode m_Port_faultOfHeight.2.1 17 = .ok (.ireturn, 1) := by decide +kernel
theorem dc_Port_faultOfHeight_13 : decode m_Port_faultOfHeight.2.1 13 = .ok (.ifCond .ne 5, 3) := by decide +kernel
theorem dc_Port_faultOfHeight_8 : decode m_Port_faultOfHeight.2.1 8 = .ok (.ireturn, 1) := by decide +kernel
theorem dc_Port_faultOfHeight_4 : decode m_Port_faultOfHeight.2.1 4 = .ok (.ifCond .ne 5, 3) := by decide +kernel
set_option maxRecDepth 20000 in
theorem sg_Port_faultOfHeight_0 {kc ks : Nat} (a0 : Nat) (x1 x2 : Int32) (h : am_H) (Q : Option Value → am_H → Prop) (t : (am_Ei m_Port_isHeight 0 0 [.int x2] h (fun r2 h1 => ((¬ r2 = 0 → (am_tg h1 a0 = (2, 5) ∧ ((¬ (am_I h1 a0 4) = 0 → (am_Ei m_Port_heightOf 0 0 [.ref a0, .int ((am_I h1 a0 4) - 1)] h1 (fun r7 h6 => ((x1 = 0 → ((r7 ≤ x2 → Q (some (.int 4)) h6) ∧ (¬ r7 ≤ x2 → Q (some (.int 0)) h6))) ∧ (¬ x1 = 0 → ((x2 ≤ r7 → Q (some (.int 4)) h6) ∧ (¬ x2 ≤ r7 → Q (some (.int 0)) h6))))))) ∧ ((am_I h1 a0 4) = 0 → Q (some (.int 0)) h1)))) ∧ (r2 = 0 → Q (some (.int 3)) h1))))) : am_EI m_Port_faultOfHeight kc ks 0 [.ref a0, .int x1, .int x2, .float 0, .float 0] [] h Q := by
  refine am_blk_ok (c := 2) (ini := false) (by decide) rfl (fun q => by cases q) bk_Port_faultOfHeight_0_1 _ 1 _ _ _ bk_Port_faultOfHeight_0_1_ok rfl ?_
  show am_EI m_Port_faultOfHeight kc ks 1 [.ref a0, .int x1, .int x2, .float 0, .float 0] [.int x2] h Q
  refine am_callS (M2 := m_Port_isHeight) (kc := kc) (ks := ks) (k2c := 0) (k2s := 0) (as := []) [.int x2] dc_Port_faultOfHeight_1 lk_2_71 st_Port_isHeight lm_Port_isHeight np_Port_isHeight ⟨Nat.le_of_ble_eq_true rfl, Nat.le_of_ble_eq_true rfl⟩ (fun _ => Nat.le_of_ble_eq_true rfl) (am_Ei.end (am_Ei.mono t (fun r2 h1 t => ?_)))
  refine am_if_ne (tgt := 9) dc_Port_faultOfHeight_4 (by decide) (fun c3 => ?_) (fun c3 => ?_)
  · replace t := t.1 c3
    refine am_blk_ok (c := 2) (ini := false) (by decide) rfl (fun q => by cases q) bk_Port_faultOfHeight_9_2 _ 13 _ _ _ bk_Port_faultOfHeight_9_2_ok rfl ?_
    show (am_tg h1 a0 = (2, 5) ∧ am_EI m_Port_faultOfHeight kc ks 13 [.ref a0, .int x1, .int x2, .float 0, .float 0] [.int (am_I h1 a0 4)] h1 Q)
    obtain ⟨o4, t⟩ := t
    refine ⟨o4, ?_⟩
    refine am_if_ne (tgt := 18) dc_Port_faultOfHeight_13 (by decide) (fun c5 => ?_) (fun c5 => ?_)
    · replace t := t.1 c5
      refine am_blk_ok (c := 2) (ini := false) (by decide) rfl (fun q => by cases q) bk_Port_faultOfHeight_18_5 _ 25 _ _ _ bk_Port_faultOfHeight_18_5_ok rfl ?_
      show (am_tg h1 a0 = (2, 5) ∧ am_EI m_Port_faultOfHeight kc ks 25 [.ref a0, .int x1, .int x2, .float 0, .float 0] [.int ((am_I h1 a0 4) - 1), .ref a0] h1 Q)
      refine ⟨o4, ?_⟩
      refine am_callV (M2 := m_Port_heightOf) (ci := 2) (a := a0) (kc := kc) (ks := ks) (k2c := 0) (k2s := 0) (as := []) [.int ((am_I h1 a0 4) - 1)] dc_Port_faultOfHeight_25 lk_2_51 im_Port_heightOf se_Port_heightOf lm_Port_heightOf np_Port_heightOf ⟨Nat.le_of_ble_eq_true rfl, Nat.le_of_ble_eq_true rfl⟩ (fun _ => Nat.le_of_ble_eq_true rfl) (by decide) rfl o4 (am_Ei.end (am_Ei.mono t (fun r7 h6 t => ?_)))
      refine am_blk_ok (c := 2) (ini := false) (by decide) rfl (fun q => by cases q) bk_Port_faultOfHeight_28_2 _ 30 _ _ _ bk_Port_faultOfHeight_28_2_ok rfl ?_
      show am_EI m_Port_faultOfHeight kc ks 30 [.ref a0, .int x1, .int x2, .int r7, .float 0] [.int x1] h6 Q
      refine am_if_eq (tgt := 46) dc_Port_faultOfHeight_30 (by decide) (fun c8 => ?_) (fun c8 => ?_)
      · replace t := t.1 c8
        refine am_blk_ok (c := 2) (ini := false) (by decide) rfl (fun q => by cases q) bk_Port_faultOfHeight_46_2 _ 48 _ _ _ bk_Port_faultOfHeight_46_2_ok rfl ?_
        show am_EI m_Port_faultOfHeight kc ks 48 [.ref a0, .int x1, .int x2, .int r7, .float 0] [.int r7, .int x2] h6 Q
        refine am_ic_ge (tgt := 55) dc_Port_faultOfHeight_48 (by decide) (fun c9 => ?_) (fun c9 => ?_)
        · replace t := t.1 c9
          refine am_blk_ok (c := 2) (ini := false) (by decide) rfl (fun q => by cases q) bk_Port_faultOfHeight_55_3 _ 60 _ _ _ bk_Port_faultOfHeight_55_3_ok rfl ?_
          show am_EI m_Port_faultOfHeight kc ks 60 [.ref a0, .int x1, .int x2, .int r7, .int 0] [.int 0] h6 Q
          refine am_if_eq (tgt := 67) dc_Port_faultOfHeight_60 (by decide) (fun _ => ?_) (fun q => absurd q (by decide))
          refine am_blk_ok (c := 2) (ini := false) (by decide) rfl (fun q => by cases q) bk_Port_faultOfHeight_67_1 _ 68 _ _ _ bk_Port_faultOfHeight_67_1_ok rfl ?_
          show am_EI m_Port_faultOfHeight kc ks 68 [.ref a0, .int x1, .int x2, .int r7, .int 0] [.int 4] h6 Q
          exact am_iret dc_Port_faultOfHeight_68 rfl t
        · replace t := t.2 c9
          refine am_blk_ok (c := 2) (ini := false) (by decide) rfl (fun q => by cases q) bk_Port_faultOfHeight_51_4 _ 60 _ _ _ bk_Port_faultOfHeight_51_4_ok rfl ?_
          show am_EI m_Port_faultOfHeight kc ks 60 [.ref a0, .int x1, .int x2, .int r7, .int 1] [.int 1] h6 Q
          refine am_if_eq (tgt := 67) dc_Port_faultOfHeight_60 (by decide) (fun q => absurd q (by decide)) (fun _ => ?_)
          refine am_blk_ok (c := 2) (ini := false) (by decide) rfl (fun q => by cases q) bk_Port_faultOfHeight_63_2 _ 68 _ _ _ bk_Port_faultOfHeight_63_2_ok rfl ?_
          show am_EI m_Port_faultOfHeight kc ks 68 [.ref a0, .int x1, .int x2, .int r7, .int 1] [.int 0] h6 Q
          exact am_iret dc_Port_faultOfHeight_68 rfl t
      · replace t := t.2 c8
        refine am_blk_ok (c := 2) (ini := false) (by decide) rfl (fun q => by cases q) bk_Port_faultOfHeight_33_2 _ 35 _ _ _ bk_Port_faultOfHeight_33_2_ok rfl ?_
        show am_EI m_Port_faultOfHeight kc ks 35 [.ref a0, .int x1, .int x2, .int r7, .float 0] [.int r7, .int x2] h6 Q
        refine am_ic_le (tgt := 42) dc_Port_faultOfHeight_35 (by decide) (fun c12 => ?_) (fun c12 => ?_)
        · replace t := t.1 c12
          refine am_blk_ok (c := 2) (ini := false) (by decide) rfl (fun q => by cases q) bk_Port_faultOfHeight_42_4 _ 60 _ _ _ bk_Port_faultOfHeight_42_4_ok rfl ?_
          show am_EI m_Port_faultOfHeight kc ks 60 [.ref a0, .int x1, .int x2, .int r7, .int 0] [.int 0] h6 Q
          refine am_if_eq (tgt := 67) dc_Port_faultOfHeight_60 (by decide) (fun _ => ?_) (fun q => absurd q (by decide))
          refine am_blk_ok (c := 2) (ini := false) (by decide) rfl (fun q => by cases q) bk_Port_faultOfHeight_67_1 _ 68 _ _ _ bk_Port_faultOfHeight_67_1_ok rfl ?_
          show am_EI m_Port_faultOfHeight kc ks 68 [.ref a0, .int x1, .int x2, .int r7, .int 0] [.int 4] h6 Q
          exact am_iret dc_Port_faultOfHeight_68 rfl t
        · replace t := t.2 c12
          refine am_blk_ok (c := 2) (ini := false) (by decide) rfl (fun q => by cases q) bk_Port_faultOfHeight_38_4 _ 60 _ _ _ bk_Port_faultOfHeight_38_4_ok rfl ?_
          show am_EI m_Port_faultOfHeight kc ks 60 [.ref a0, .int x1, .int x2, .int r7, .int 1] [.int 1] h6 Q
          refine am_if_eq (tgt := 67) dc_Port_faultOfHeight_60 (by decide) (fun q => absurd q (by decide)) (fun _ => ?_)
          refine am_blk_ok (c := 2) (ini := false) (by decide) rfl (fun q => by cases q) bk_Port_faultOfHeight_63_2 _ 68 _ _ _ bk_Port_faultOfHeight_63_2_ok rfl ?_
          show am_EI m_Port_faultOfHeight kc ks 68 [.ref a0, .int x1, .int x2, .int r7, .int 1] [.int 0] h6 Q
          exact am_iret dc_Port_faultOfHeight_68 rfl t
    · replace t := t.2 c5
      refine am_blk_ok (c := 2) (ini := false) (by decide) rfl (fun q => by cases q) bk_Port_faultOfHeight_16_1 _ 17 _ _ _ bk_Port_faultOfHeight_16_1_ok rfl ?_
      show am_EI m_Port_faultOfHeight kc ks 17 [.ref a0, .int x1, .int x2, .float 0, .float 0] [.int 0] h1 Q
      exact am_iret dc_Port_faultOfHeight_17 rfl t
  · replace t := t.2 c3
    refine am_blk_ok (c := 2) (ini := false) (by decide) rfl (fun q => by cases q) bk_Port_faultOfHeight_7_1 _ 8 _ _ _ bk_Port_faultOfHeight_7_1_ok rfl ?_
    show am_EI m_Port_faultOfHeight kc ks 8 [.ref a0, .int x1, .int x2, .float 0, .float 0] [.int 3] h1 Q
    exact am_iret dc_Port_faultOfHeight_8 rfl t
set_option maxRecDepth 20000 in
theorem ev_Port_faultOfHeight (a0 : Nat) (x1 x2 : Int32) (h : am_H) (Q : Int32 → am_H → Prop) (t : (am_Ei m_Port_isHeight 0 0 [.int x2] h (fun r2 h1 => ((¬ r2 = 0 → (am_tg h1 a0 = (2, 5) ∧ ((¬ (am_I h1 a0 4) = 0 → (am_Ei m_Port_heightOf 0 0 [.ref a0, .int ((am_I h1 a0 4) - 1)] h1 (fun r7 h6 => ((x1 = 0 → ((r7 ≤ x2 → Q 4 h6) ∧ (¬ r7 ≤ x2 → Q 0 h6))) ∧ (¬ x1 = 0 → ((x2 ≤ r7 → Q 4 h6) ∧ (¬ x2 ≤ r7 → Q 0 h6))))))) ∧ ((am_I h1 a0 4) = 0 → Q 0 h1)))) ∧ (r2 = 0 → Q 3 h1))))) : am_Ei m_Port_faultOfHeight 0 0 [.ref a0, .int x1, .int x2] h Q :=
  am_Ev.of (by decide +kernel) (Nat.le_of_ble_eq_true rfl) (by simp only [List.mem_cons, List.not_mem_nil, or_false]; intro v hv; rcases hv with rfl | rfl | rfl; all_goals first | exact trivial) (sg_Port_faultOfHeight_0 (kc := 0) (ks := 0) a0 x1 x2 h (am_qi Q) t)
def bk_Port_faultOfMinute_0_2 : List am_E := [(0, .aload_n 0, 1, 0, 0), (1, .getfield 7, 3, 816, 0)]
theorem bk_Port_faultOfMinute_0_2_ok : bk_Port_faultOfMinute_0_2.all (am_ok 2 false m_Port_faultOfMinute.2.1) = true := by decide +kernel
def bk_Port_faultOfMinute_9_2 : List am_E := [(9, .iload_n 1, 1, 0, 0), (10, .aload_n 0, 1, 0, 0)]
theorem bk_Port_faultOfMinute_9_2_ok : bk_Port_faultOfMinute_9_2.all (am_ok 2 false m_Port_faultOfMinute.2.1) = true := by decide +kernel
def bk_Port_faultOfMinute_14_4 : List am_E := [(14, .isub, 1, 0, 0), (15, .istore_n 2, 1, 0, 0), (16, .iload_n 2, 1, 0, 0), (17, .bipush 60, 2, 0, 60)]
theorem bk_Port_faultOfMinute_14_4_ok : bk_Port_faultOfMinute_14_4.all (am_ok 2 false m_Port_faultOfMinute.2.1) = true := by decide +kernel
def bk_Port_faultOfMinute_33_1 : List am_E := [(33, .iconst 5, 1, 0, 5)]
theorem bk_Port_faultOfMinute_33_1_ok : bk_Port_faultOfMinute_33_1.all (am_ok 2 false m_Port_faultOfMinute.2.1) = true := by decide +kernel
def bk_Port_faultOfMinute_22_2 : List am_E := [(22, .iload_n 2, 1, 0, 0), (23, .sipush 800, 3, 0, 800)]
theorem bk_Port_faultOfMinute_22_2_ok : bk_Port_faultOfMinute_22_2.all (am_ok 2 false m_Port_faultOfMinute.2.1) = true := by decide +kernel
def bk_Port_faultOfMinute_29_2 : List am_E := [(29, .iconst 0, 1, 0, 0), (30, .goto 4, 3, 0, 4)]
theorem bk_Port_faultOfMinute_29_2_ok : bk_Port_faultOfMinute_29_2.all (am_ok 2 false m_Port_faultOfMinute.2.1) = true := by decide +kernel
def bk_Port_faultOfMinute_7_1 : List am_E := [(7, .iconst 0, 1, 0, 0)]
theorem bk_Port_faultOfMinute_7_1_ok : bk_Port_faultOfMinute_7_1.all (am_ok 2 false m_Port_faultOfMinute.2.1) = true := by decide +kernel
theorem dc_Port_faultOfMinute_11 : decode m_Port_faultOfMinute.2.1 11 = .ok (.invokevirtual 41, 3) := by decide +kernel
theorem dc_Port_faultOfMinute_34 : decode m_Port_faultOfMinute.2.1 34 = .ok (.ireturn, 1) := by decide +kernel
theorem dc_Port_faultOfMinute_26 : decode m_Port_faultOfMinute.2.1 26 = .ok (.if_icmp .gt 7, 3) := by decide +kernel
theorem dc_Port_faultOfMinute_19 : decode m_Port_faultOfMinute.2.1 19 = .ok (.if_icmp .lt 14, 3) := by decide +kernel
theorem dc_Port_faultOfMinute_8 : decode m_Port_faultOfMinute.2.1 8 = .ok (.ireturn, 1) := by decide +kernel
theorem dc_Port_faultOfMinute_4 : decode m_Port_faultOfMinute.2.1 4 = .ok (.ifCond .ne 5, 3) := by decide +kernel
set_option maxRecDepth 20000 in
theorem sg_Port_faultOfMinute_0 {kc ks : Nat} (a0 : Nat) (x1 : Int32) (h : am_H) (Q : Option Value → am_H → Prop) (t : (am_tg h a0 = (2, 5) ∧ ((¬ (am_I h a0 4) = 0 → (am_Ei m_Port_lastMinute 0 0 [.ref a0] h (fun r4 h3 => (((x1 - r4) < 60 → Q (some (.int 5)) h3) ∧ (¬ (x1 - r4) < 60 → ((800 < (x1 - r4) → Q (some (.int 5)) h3) ∧ (¬ 800 < (x1 - r4) → Q (some (.int 0)) h3))))))) ∧ ((am_I h a0 4) = 0 → Q (some (.int 0)) h)))) : am_EI m_Port_faultOfMinute kc ks 0 [.ref a0, .int x1, .float 0] [] h Q := by
  refine am_blk_ok (c := 2) (ini := false) (by decide) rfl (fun q => by cases q) bk_Port_faultOfMinute_0_2 _ 4 _ _ _ bk_Port_faultOfMinute_0_2_ok rfl ?_
  show (am_tg h a0 = (2, 5) ∧ am_EI m_Port_faultOfMinute kc ks 4 [.ref a0, .int x1, .float 0] [.int (am_I h a0 4)] h Q)
  obtain ⟨o1, t⟩ := t
  refine ⟨o1, ?_⟩
  refine am_if_ne (tgt := 9) dc_Port_faultOfMinute_4 (by decide) (fun c2 => ?_) (fun c2 => ?_)
  · replace t := t.1 c2
    refine am_blk_ok (c := 2) (ini := false) (by decide) rfl (fun q => by cases q) bk_Port_faultOfMinute_9_2 _ 11 _ _ _ bk_Port_faultOfMinute_9_2_ok rfl ?_
    show am_EI m_Port_faultOfMinute kc ks 11 [.ref a0, .int x1, .float 0] [.ref a0, .int x1] h Q
    refine am_callV (M2 := m_Port_lastMinute) (ci := 2) (a := a0) (kc := kc) (ks := ks) (k2c := 0) (k2s := 0) (as := [.int x1]) [] dc_Port_faultOfMinute_11 lk_2_41 im_Port_lastMinute se_Port_lastMinute lm_Port_lastMinute np_Port_lastMinute ⟨Nat.le_of_ble_eq_true rfl, Nat.le_of_ble_eq_true rfl⟩ (fun _ => Nat.le_of_ble_eq_true rfl) (by decide) rfl o1 (am_Ei.end (am_Ei.mono t (fun r4 h3 t => ?_)))
    refine am_blk_ok (c := 2) (ini := false) (by decide) rfl (fun q => by cases q) bk_Port_faultOfMinute_14_4 _ 19 _ _ _ bk_Port_faultOfMinute_14_4_ok rfl ?_
    show am_EI m_Port_faultOfMinute kc ks 19 [.ref a0, .int x1, .int (x1 - r4)] [.int 60, .int (x1 - r4)] h3 Q
    refine am_ic_lt (tgt := 33) dc_Port_faultOfMinute_19 (by decide) (fun c5 => ?_) (fun c5 => ?_)
    · replace t := t.1 c5
      refine am_blk_ok (c := 2) (ini := false) (by decide) rfl (fun q => by cases q) bk_Port_faultOfMinute_33_1 _ 34 _ _ _ bk_Port_faultOfMinute_33_1_ok rfl ?_
      show am_EI m_Port_faultOfMinute kc ks 34 [.ref a0, .int x1, .int (x1 - r4)] [.int 5] h3 Q
      exact am_iret dc_Port_faultOfMinute_34 rfl t
    · replace t := t.2 c5
      refine am_blk_ok (c := 2) (ini := false) (by decide) rfl (fun q => by cases q) bk_Port_faultOfMinute_22_2 _ 26 _ _ _ bk_Port_faultOfMinute_22_2_ok rfl ?_
      show am_EI m_Port_faultOfMinute kc ks 26 [.ref a0, .int x1, .int (x1 - r4)] [.int 800, .int (x1 - r4)] h3 Q
      refine am_ic_gt (tgt := 33) dc_Port_faultOfMinute_26 (by decide) (fun c6 => ?_) (fun c6 => ?_)
      · replace t := t.1 c6
        refine am_blk_ok (c := 2) (ini := false) (by decide) rfl (fun q => by cases q) bk_Port_faultOfMinute_33_1 _ 34 _ _ _ bk_Port_faultOfMinute_33_1_ok rfl ?_
        show am_EI m_Port_faultOfMinute kc ks 34 [.ref a0, .int x1, .int (x1 - r4)] [.int 5] h3 Q
        exact am_iret dc_Port_faultOfMinute_34 rfl t
      · replace t := t.2 c6
        refine am_blk_ok (c := 2) (ini := false) (by decide) rfl (fun q => by cases q) bk_Port_faultOfMinute_29_2 _ 34 _ _ _ bk_Port_faultOfMinute_29_2_ok rfl ?_
        show am_EI m_Port_faultOfMinute kc ks 34 [.ref a0, .int x1, .int (x1 - r4)] [.int 0] h3 Q
        exact am_iret dc_Port_faultOfMinute_34 rfl t
  · replace t := t.2 c2
    refine am_blk_ok (c := 2) (ini := false) (by decide) rfl (fun q => by cases q) bk_Port_faultOfMinute_7_1 _ 8 _ _ _ bk_Port_faultOfMinute_7_1_ok rfl ?_
    show am_EI m_Port_faultOfMinute kc ks 8 [.ref a0, .int x1, .float 0] [.int 0] h Q
    exact am_iret dc_Port_faultOfMinute_8 rfl t
set_option maxRecDepth 20000 in
theorem ev_Port_faultOfMinute (a0 : Nat) (x1 : Int32) (h : am_H) (Q : Int32 → am_H → Prop) (t : (am_tg h a0 = (2, 5) ∧ ((¬ (am_I h a0 4) = 0 → (am_Ei m_Port_lastMinute 0 0 [.ref a0] h (fun r4 h3 => (((x1 - r4) < 60 → Q 5 h3) ∧ (¬ (x1 - r4) < 60 → ((800 < (x1 - r4) → Q 5 h3) ∧ (¬ 800 < (x1 - r4) → Q 0 h3))))))) ∧ ((am_I h a0 4) = 0 → Q 0 h)))) : am_Ei m_Port_faultOfMinute 0 0 [.ref a0, .int x1] h Q :=
  am_Ev.of (by decide +kernel) (Nat.le_of_ble_eq_true rfl) (by simp only [List.mem_cons, List.not_mem_nil, or_false]; intro v hv; rcases hv with rfl | rfl; all_goals first | exact trivial) (sg_Port_faultOfMinute_0 (kc := 0) (ks := 0) a0 x1 h (am_qi Q) t)
def bk_Port_faultOfNext_0_4 : List am_E := [(0, .iload_n 2, 1, 0, 0), (1, .bipush 100, 2, 0, 100), (3, .idiv, 1, 0, 0), (4, .bipush 24, 2, 0, 24)]
theorem bk_Port_faultOfNext_0_4_ok : bk_Port_faultOfNext_0_4.all (am_ok 2 false m_Port_faultOfNext.2.1) = true := by decide +kernel
def bk_Port_faultOfNext_18_1 : List am_E := [(18, .iconst 1, 1, 0, 1)]
theorem bk_Port_faultOfNext_18_1_ok : bk_Port_faultOfNext_18_1.all (am_ok 2 false m_Port_faultOfNext.2.1) = true := by decide +kernel
def bk_Port_faultOfNext_9_4 : List am_E := [(9, .iload_n 2, 1, 0, 0), (10, .bipush 100, 2, 0, 100), (12, .irem, 1, 0, 0), (13, .bipush 60, 2, 0, 60)]
theorem bk_Port_faultOfNext_9_4_ok : bk_Port_faultOfNext_9_4.all (am_ok 2 false m_Port_faultOfNext.2.1) = true := by decide +kernel
def bk_Port_faultOfNext_20_2 : List am_E := [(20, .aload_n 0, 1, 0, 0), (21, .getfield 7, 3, 816, 0)]
theorem bk_Port_faultOfNext_20_2_ok : bk_Port_faultOfNext_20_2.all (am_ok 2 false m_Port_faultOfNext.2.1) = true := by decide +kernel
def bk_Port_faultOfNext_43_3 : List am_E := [(43, .aload_n 0, 1, 0, 0), (44, .iload_n 1, 1, 0, 0), (45, .iload_n 3, 1, 0, 0)]
theorem bk_Port_faultOfNext_43_3_ok : bk_Port_faultOfNext_43_3.all (am_ok 2 false m_Port_faultOfNext.2.1) = true := by decide +kernel
def bk_Port_faultOfNext_49_2 : List am_E := [(49, .istore 4, 2, 0, 0), (51, .iload 4, 2, 0, 0)]
theorem bk_Port_faultOfNext_49_2_ok : bk_Port_faultOfNext_49_2.all (am_ok 2 false m_Port_faultOfNext.2.1) = true := by decide +kernel
def bk_Port_faultOfNext_61_3 : List am_E := [(61, .aload_n 0, 1, 0, 0), (62, .aload_n 0, 1, 0, 0), (63, .iload_n 2, 1, 0, 0)]
theorem bk_Port_faultOfNext_61_3_ok : bk_Port_faultOfNext_61_3.all (am_ok 2 false m_Port_faultOfNext.2.1) = true := by decide +kernel
def bk_Port_faultOfNext_56_2 : List am_E := [(56, .iload 4, 2, 0, 0), (58, .goto 12, 3, 0, 12)]
theorem bk_Port_faultOfNext_56_2_ok : bk_Port_faultOfNext_56_2.all (am_ok 2 false m_Port_faultOfNext.2.1) = true := by decide +kernel
def bk_Port_faultOfNext_27_6 : List am_E := [(27, .iload_n 1, 1, 0, 0), (28, .aload_n 0, 1, 0, 0), (29, .aload_n 0, 1, 0, 0), (30, .getfield 7, 3, 816, 0), (33, .iconst 1, 1, 0, 1), (34, .isub, 1, 0, 0)]
theorem bk_Port_faultOfNext_27_6_ok : bk_Port_faultOfNext_27_6.all (am_ok 2 false m_Port_faultOfNext.2.1) = true := by decide +kernel
def bk_Port_faultOfNext_41_1 : List am_E := [(41, .iconst 2, 1, 0, 2)]
theorem bk_Port_faultOfNext_41_1_ok : bk_Port_faultOfNext_41_1.all (am_ok 2 false m_Port_faultOfNext.2.1) = true := by decide +kernel
theorem dc_Port_faultOfNext_19 : decode m_Port_faultOfNext.2.1 19 = .ok (.ireturn, 1) := by decide +kernel
theorem dc_Port_faultOfNext_46 : decode m_Port_faultOfNext.2.1 46 = .ok (.invokevirtual 61, 3) := by decide +kernel
theorem dc_Port_faultOfNext_64 : decode m_Port_faultOfNext.2.1 64 = .ok (.invokevirtual 65, 3) := by decide +kernel
theorem dc_Port_faultOfNext_67 : decode m_Port_faultOfNext.2.1 67 = .ok (.invokevirtual 68, 3) := by decide +kernel
theorem dc_Port_faultOfNext_70 : decode m_Port_faultOfNext.2.1 70 = .ok (.ireturn, 1) := by decide +kernel
theorem dc_Port_faultOfNext_53 : decode m_Port_faultOfNext.2.1 53 = .ok (.ifCond .eq 8, 3) := by decide +kernel
theorem dc_Port_faultOfNext_35 : decode m_Port_faultOfNext.2.1 35 = .ok (.invokevirtual 47, 3) := by decide +kernel
theorem dc_Port_faultOfNext_42 : decode m_Port_faultOfNext.2.1 42 = .ok (.ireturn, 1) := by decide +kernel
theorem dc_Port_faultOfNext_38 : decode m_Port_faultOfNext.2.1 38 = .ok (.if_icmp .ne 5, 3) := by decide +kernel
theorem dc_Port_faultOfNext_24 : decode m_Port_faultOfNext.2.1 24 = .ok (.ifCond .le 19, 3) := by decide +kernel
theorem dc_Port_faultOfNext_15 : decode m_Port_faultOfNext.2.1 15 = .ok (.if_icmp .lt 5, 3) := by decide +kernel
theorem dc_Port_faultOfNext_6 : decode m_Port_faultOfNext.2.1 6 = .ok (.if_icmp .ge 12, 3) := by decide +kernel
set_option maxRecDepth 20000 in
theorem sg_Port_faultOfNext_0 {kc ks : Nat} (a0 : Nat) (x1 x2 x3 : Int32) (h : am_H) (Q : Option Value → am_H → Prop) (t : ((24 ≤ (x2 / 100) → Q (some (.int 1)) h) ∧ (¬ 24 ≤ (x2 / 100) → (((x2 % 100) < 60 → (am_tg h a0 = (2, 5) ∧ (((am_I h a0 4) ≤ 0 → (am_Ei m_Port_faultOfHeight 0 0 [.ref a0, .int x1, .int x3] h (fun r6 h5 => ((r6 = 0 → (am_tg h5 a0 = (2, 5) ∧ (am_Ei m_Port_minuteOfNext 0 0 [.ref a0, .int x2] h5 (fun r10 h9 => (am_tg h9 a0 = (2, 5) ∧ (am_Ei m_Port_faultOfMinute 0 0 [.ref a0, .int r10] h9 (fun r13 h12 => Q (some (.int r13)) h12))))))) ∧ (¬ r6 = 0 → Q (some (.int r6)) h5))))) ∧ (¬ (am_I h a0 4) ≤ 0 → (am_Ei m_Port_isHigh 0 0 [.ref a0, .int ((am_I h a0 4) - 1)] h (fun r15 h14 => ((¬ x1 = r15 → (am_tg h14 a0 = (2, 5) ∧ (am_Ei m_Port_faultOfHeight 0 0 [.ref a0, .int x1, .int x3] h14 (fun r19 h18 => ((r19 = 0 → (am_tg h18 a0 = (2, 5) ∧ (am_Ei m_Port_minuteOfNext 0 0 [.ref a0, .int x2] h18 (fun r23 h22 => (am_tg h22 a0 = (2, 5) ∧ (am_Ei m_Port_faultOfMinute 0 0 [.ref a0, .int r23] h22 (fun r26 h25 => Q (some (.int r26)) h25))))))) ∧ (¬ r19 = 0 → Q (some (.int r19)) h18)))))) ∧ (x1 = r15 → Q (some (.int 2)) h14)))))))) ∧ (¬ (x2 % 100) < 60 → Q (some (.int 1)) h))))) : am_EI m_Port_faultOfNext kc ks 0 [.ref a0, .int x1, .int x2, .int x3, .float 0] [] h Q := by
  refine am_blk_ok (c := 2) (ini := false) (by decide) rfl (fun q => by cases q) bk_Port_faultOfNext_0_4 _ 6 _ _ _ bk_Port_faultOfNext_0_4_ok rfl ?_
  show ((¬ 100 = 0) ∧ am_EI m_Port_faultOfNext kc ks 6 [.ref a0, .int x1, .int x2, .int x3, .float 0] [.int 24, .int (x2 / 100)] h Q)
  refine ⟨(by decide), ?_⟩
  refine am_ic_ge (tgt := 18) dc_Port_faultOfNext_6 (by decide) (fun c1 => ?_) (fun c1 => ?_)
  · replace t := t.1 c1
    refine am_blk_ok (c := 2) (ini := false) (by decide) rfl (fun q => by cases q) bk_Port_faultOfNext_18_1 _ 19 _ _ _ bk_Port_faultOfNext_18_1_ok rfl ?_
    show am_EI m_Port_faultOfNext kc ks 19 [.ref a0, .int x1, .int x2, .int x3, .float 0] [.int 1] h Q
    exact am_iret dc_Port_faultOfNext_19 rfl t
  · replace t := t.2 c1
    refine am_blk_ok (c := 2) (ini := false) (by decide) rfl (fun q => by cases q) bk_Port_faultOfNext_9_4 _ 15 _ _ _ bk_Port_faultOfNext_9_4_ok rfl ?_
    show ((¬ 100 = 0) ∧ am_EI m_Port_faultOfNext kc ks 15 [.ref a0, .int x1, .int x2, .int x3, .float 0] [.int 60, .int (x2 % 100)] h Q)
    refine ⟨(by decide), ?_⟩
    refine am_ic_lt (tgt := 20) dc_Port_faultOfNext_15 (by decide) (fun c2 => ?_) (fun c2 => ?_)
    · replace t := t.1 c2
      refine am_blk_ok (c := 2) (ini := false) (by decide) rfl (fun q => by cases q) bk_Port_faultOfNext_20_2 _ 24 _ _ _ bk_Port_faultOfNext_20_2_ok rfl ?_
      show (am_tg h a0 = (2, 5) ∧ am_EI m_Port_faultOfNext kc ks 24 [.ref a0, .int x1, .int x2, .int x3, .float 0] [.int (am_I h a0 4)] h Q)
      obtain ⟨o3, t⟩ := t
      refine ⟨o3, ?_⟩
      refine am_if_le (tgt := 43) dc_Port_faultOfNext_24 (by decide) (fun c4 => ?_) (fun c4 => ?_)
      · replace t := t.1 c4
        refine am_blk_ok (c := 2) (ini := false) (by decide) rfl (fun q => by cases q) bk_Port_faultOfNext_43_3 _ 46 _ _ _ bk_Port_faultOfNext_43_3_ok rfl ?_
        show am_EI m_Port_faultOfNext kc ks 46 [.ref a0, .int x1, .int x2, .int x3, .float 0] [.int x3, .int x1, .ref a0] h Q
        refine am_callV (M2 := m_Port_faultOfHeight) (ci := 2) (a := a0) (kc := kc) (ks := ks) (k2c := 0) (k2s := 0) (as := []) [.int x1, .int x3] dc_Port_faultOfNext_46 lk_2_61 im_Port_faultOfHeight se_Port_faultOfHeight lm_Port_faultOfHeight np_Port_faultOfHeight ⟨Nat.le_of_ble_eq_true rfl, Nat.le_of_ble_eq_true rfl⟩ (fun _ => Nat.le_of_ble_eq_true rfl) (by decide) rfl o3 (am_Ei.end (am_Ei.mono t (fun r6 h5 t => ?_)))
        refine am_blk_ok (c := 2) (ini := false) (by decide) rfl (fun q => by cases q) bk_Port_faultOfNext_49_2 _ 53 _ _ _ bk_Port_faultOfNext_49_2_ok rfl ?_
        show am_EI m_Port_faultOfNext kc ks 53 [.ref a0, .int x1, .int x2, .int x3, .int r6] [.int r6] h5 Q
        refine am_if_eq (tgt := 61) dc_Port_faultOfNext_53 (by decide) (fun c7 => ?_) (fun c7 => ?_)
        · replace t := t.1 c7
          refine am_blk_ok (c := 2) (ini := false) (by decide) rfl (fun q => by cases q) bk_Port_faultOfNext_61_3 _ 64 _ _ _ bk_Port_faultOfNext_61_3_ok rfl ?_
          show am_EI m_Port_faultOfNext kc ks 64 [.ref a0, .int x1, .int x2, .int x3, .int r6] [.int x2, .ref a0, .ref a0] h5 Q
          obtain ⟨o8, t⟩ := t
          refine am_callV (M2 := m_Port_minuteOfNext) (ci := 2) (a := a0) (kc := kc) (ks := ks) (k2c := 0) (k2s := 0) (as := [.ref a0]) [.int x2] dc_Port_faultOfNext_64 lk_2_65 im_Port_minuteOfNext se_Port_minuteOfNext lm_Port_minuteOfNext np_Port_minuteOfNext ⟨Nat.le_of_ble_eq_true rfl, Nat.le_of_ble_eq_true rfl⟩ (fun _ => Nat.le_of_ble_eq_true rfl) (by decide) rfl o8 (am_Ei.end (am_Ei.mono t (fun r10 h9 t => ?_)))
          obtain ⟨o11, t⟩ := t
          refine am_callV (M2 := m_Port_faultOfMinute) (ci := 2) (a := a0) (kc := kc) (ks := ks) (k2c := 0) (k2s := 0) (as := []) [.int r10] dc_Port_faultOfNext_67 lk_2_68 im_Port_faultOfMinute se_Port_faultOfMinute lm_Port_faultOfMinute np_Port_faultOfMinute ⟨Nat.le_of_ble_eq_true rfl, Nat.le_of_ble_eq_true rfl⟩ (fun _ => Nat.le_of_ble_eq_true rfl) (by decide) rfl o11 (am_Ei.end (am_Ei.mono t (fun r13 h12 t => ?_)))
          exact am_iret dc_Port_faultOfNext_70 rfl t
        · replace t := t.2 c7
          refine am_blk_ok (c := 2) (ini := false) (by decide) rfl (fun q => by cases q) bk_Port_faultOfNext_56_2 _ 70 _ _ _ bk_Port_faultOfNext_56_2_ok rfl ?_
          show am_EI m_Port_faultOfNext kc ks 70 [.ref a0, .int x1, .int x2, .int x3, .int r6] [.int r6] h5 Q
          exact am_iret dc_Port_faultOfNext_70 rfl t
      · replace t := t.2 c4
        refine am_blk_ok (c := 2) (ini := false) (by decide) rfl (fun q => by cases q) bk_Port_faultOfNext_27_6 _ 35 _ _ _ bk_Port_faultOfNext_27_6_ok rfl ?_
        show (am_tg h a0 = (2, 5) ∧ am_EI m_Port_faultOfNext kc ks 35 [.ref a0, .int x1, .int x2, .int x3, .float 0] [.int ((am_I h a0 4) - 1), .ref a0, .int x1] h Q)
        refine ⟨o3, ?_⟩
        refine am_callV (M2 := m_Port_isHigh) (ci := 2) (a := a0) (kc := kc) (ks := ks) (k2c := 0) (k2s := 0) (as := [.int x1]) [.int ((am_I h a0 4) - 1)] dc_Port_faultOfNext_35 lk_2_47 im_Port_isHigh se_Port_isHigh lm_Port_isHigh np_Port_isHigh ⟨Nat.le_of_ble_eq_true rfl, Nat.le_of_ble_eq_true rfl⟩ (fun _ => Nat.le_of_ble_eq_true rfl) (by decide) rfl o3 (am_Ei.end (am_Ei.mono t (fun r15 h14 t => ?_)))
        refine am_ic_ne (tgt := 43) dc_Port_faultOfNext_38 (by decide) (fun c16 => ?_) (fun c16 => ?_)
        · replace t := t.1 c16
          refine am_blk_ok (c := 2) (ini := false) (by decide) rfl (fun q => by cases q) bk_Port_faultOfNext_43_3 _ 46 _ _ _ bk_Port_faultOfNext_43_3_ok rfl ?_
          show am_EI m_Port_faultOfNext kc ks 46 [.ref a0, .int x1, .int x2, .int x3, .float 0] [.int x3, .int x1, .ref a0] h14 Q
          obtain ⟨o17, t⟩ := t
          refine am_callV (M2 := m_Port_faultOfHeight) (ci := 2) (a := a0) (kc := kc) (ks := ks) (k2c := 0) (k2s := 0) (as := []) [.int x1, .int x3] dc_Port_faultOfNext_46 lk_2_61 im_Port_faultOfHeight se_Port_faultOfHeight lm_Port_faultOfHeight np_Port_faultOfHeight ⟨Nat.le_of_ble_eq_true rfl, Nat.le_of_ble_eq_true rfl⟩ (fun _ => Nat.le_of_ble_eq_true rfl) (by decide) rfl o17 (am_Ei.end (am_Ei.mono t (fun r19 h18 t => ?_)))
          refine am_blk_ok (c := 2) (ini := false) (by decide) rfl (fun q => by cases q) bk_Port_faultOfNext_49_2 _ 53 _ _ _ bk_Port_faultOfNext_49_2_ok rfl ?_
          show am_EI m_Port_faultOfNext kc ks 53 [.ref a0, .int x1, .int x2, .int x3, .int r19] [.int r19] h18 Q
          refine am_if_eq (tgt := 61) dc_Port_faultOfNext_53 (by decide) (fun c20 => ?_) (fun c20 => ?_)
          · replace t := t.1 c20
            refine am_blk_ok (c := 2) (ini := false) (by decide) rfl (fun q => by cases q) bk_Port_faultOfNext_61_3 _ 64 _ _ _ bk_Port_faultOfNext_61_3_ok rfl ?_
            show am_EI m_Port_faultOfNext kc ks 64 [.ref a0, .int x1, .int x2, .int x3, .int r19] [.int x2, .ref a0, .ref a0] h18 Q
            obtain ⟨o21, t⟩ := t
            refine am_callV (M2 := m_Port_minuteOfNext) (ci := 2) (a := a0) (kc := kc) (ks := ks) (k2c := 0) (k2s := 0) (as := [.ref a0]) [.int x2] dc_Port_faultOfNext_64 lk_2_65 im_Port_minuteOfNext se_Port_minuteOfNext lm_Port_minuteOfNext np_Port_minuteOfNext ⟨Nat.le_of_ble_eq_true rfl, Nat.le_of_ble_eq_true rfl⟩ (fun _ => Nat.le_of_ble_eq_true rfl) (by decide) rfl o21 (am_Ei.end (am_Ei.mono t (fun r23 h22 t => ?_)))
            obtain ⟨o24, t⟩ := t
            refine am_callV (M2 := m_Port_faultOfMinute) (ci := 2) (a := a0) (kc := kc) (ks := ks) (k2c := 0) (k2s := 0) (as := []) [.int r23] dc_Port_faultOfNext_67 lk_2_68 im_Port_faultOfMinute se_Port_faultOfMinute lm_Port_faultOfMinute np_Port_faultOfMinute ⟨Nat.le_of_ble_eq_true rfl, Nat.le_of_ble_eq_true rfl⟩ (fun _ => Nat.le_of_ble_eq_true rfl) (by decide) rfl o24 (am_Ei.end (am_Ei.mono t (fun r26 h25 t => ?_)))
            exact am_iret dc_Port_faultOfNext_70 rfl t
          · replace t := t.2 c20
            refine am_blk_ok (c := 2) (ini := false) (by decide) rfl (fun q => by cases q) bk_Port_faultOfNext_56_2 _ 70 _ _ _ bk_Port_faultOfNext_56_2_ok rfl ?_
            show am_EI m_Port_faultOfNext kc ks 70 [.ref a0, .int x1, .int x2, .int x3, .int r19] [.int r19] h18 Q
            exact am_iret dc_Port_faultOfNext_70 rfl t
        · replace t := t.2 c16
          refine am_blk_ok (c := 2) (ini := false) (by decide) rfl (fun q => by cases q) bk_Port_faultOfNext_41_1 _ 42 _ _ _ bk_Port_faultOfNext_41_1_ok rfl ?_
          show am_EI m_Port_faultOfNext kc ks 42 [.ref a0, .int x1, .int x2, .int x3, .float 0] [.int 2] h14 Q
          exact am_iret dc_Port_faultOfNext_42 rfl t
    · replace t := t.2 c2
      refine am_blk_ok (c := 2) (ini := false) (by decide) rfl (fun q => by cases q) bk_Port_faultOfNext_18_1 _ 19 _ _ _ bk_Port_faultOfNext_18_1_ok rfl ?_
      show am_EI m_Port_faultOfNext kc ks 19 [.ref a0, .int x1, .int x2, .int x3, .float 0] [.int 1] h Q
      exact am_iret dc_Port_faultOfNext_19 rfl t
set_option maxRecDepth 20000 in
theorem ev_Port_faultOfNext (a0 : Nat) (x1 x2 x3 : Int32) (h : am_H) (Q : Int32 → am_H → Prop) (t : ((24 ≤ (x2 / 100) → Q 1 h) ∧ (¬ 24 ≤ (x2 / 100) → (((x2 % 100) < 60 → (am_tg h a0 = (2, 5) ∧ (((am_I h a0 4) ≤ 0 → (am_Ei m_Port_faultOfHeight 0 0 [.ref a0, .int x1, .int x3] h (fun r6 h5 => ((r6 = 0 → (am_tg h5 a0 = (2, 5) ∧ (am_Ei m_Port_minuteOfNext 0 0 [.ref a0, .int x2] h5 (fun r10 h9 => (am_tg h9 a0 = (2, 5) ∧ (am_Ei m_Port_faultOfMinute 0 0 [.ref a0, .int r10] h9 (fun r13 h12 => Q r13 h12))))))) ∧ (¬ r6 = 0 → Q r6 h5))))) ∧ (¬ (am_I h a0 4) ≤ 0 → (am_Ei m_Port_isHigh 0 0 [.ref a0, .int ((am_I h a0 4) - 1)] h (fun r15 h14 => ((¬ x1 = r15 → (am_tg h14 a0 = (2, 5) ∧ (am_Ei m_Port_faultOfHeight 0 0 [.ref a0, .int x1, .int x3] h14 (fun r19 h18 => ((r19 = 0 → (am_tg h18 a0 = (2, 5) ∧ (am_Ei m_Port_minuteOfNext 0 0 [.ref a0, .int x2] h18 (fun r23 h22 => (am_tg h22 a0 = (2, 5) ∧ (am_Ei m_Port_faultOfMinute 0 0 [.ref a0, .int r23] h22 (fun r26 h25 => Q r26 h25))))))) ∧ (¬ r19 = 0 → Q r19 h18)))))) ∧ (x1 = r15 → Q 2 h14)))))))) ∧ (¬ (x2 % 100) < 60 → Q 1 h))))) : am_Ei m_Port_faultOfNext 0 0 [.ref a0, .int x1, .int x2, .int x3] h Q :=
  am_Ev.of (by decide +kernel) (Nat.le_of_ble_eq_true rfl) (by simp only [List.mem_cons, List.not_mem_nil, or_false]; intro v hv; rcases hv with rfl | rfl | rfl | rfl; all_goals first | exact trivial) (sg_Port_faultOfNext_0 (kc := 0) (ks := 0) a0 x1 x2 x3 h (am_qi Q) t)
def bk_Port_firstChange_0_3 : List am_E := [(0, .iload_n 2, 1, 0, 0), (1, .aload_n 0, 1, 0, 0), (2, .iload_n 1, 1, 0, 0)]
theorem bk_Port_firstChange_0_3_ok : bk_Port_firstChange_0_3.all (am_ok 2 false m_Port_firstChange.2.1) = true := by decide +kernel
def bk_Port_firstChange_6_2 : List am_E := [(6, .iload_n 3, 1, 0, 0), (7, .isub, 1, 0, 0)]
theorem bk_Port_firstChange_6_2_ok : bk_Port_firstChange_6_2.all (am_ok 2 false m_Port_firstChange.2.1) = true := by decide +kernel
def bk_Port_firstChange_11_3 : List am_E := [(11, .istore 5, 2, 0, 0), (13, .aload_n 0, 1, 0, 0), (14, .iload_n 1, 1, 0, 0)]
theorem bk_Port_firstChange_11_3_ok : bk_Port_firstChange_11_3.all (am_ok 2 false m_Port_firstChange.2.1) = true := by decide +kernel
def bk_Port_firstChange_18_5 : List am_E := [(18, .istore 6, 2, 0, 0), (20, .iload 4, 2, 0, 0), (22, .istore 7, 2, 0, 0), (24, .iconst 0, 1, 0, 0), (25, .istore 8, 2, 0, 0)]
theorem bk_Port_firstChange_18_5_ok : bk_Port_firstChange_18_5.all (am_ok 2 false m_Port_firstChange.2.1) = true := by decide +kernel
def bk_Port_firstChange_27_2 : List am_E := [(27, .iload 8, 2, 0, 0), (29, .bipush 16, 2, 0, 16)]
theorem bk_Port_firstChange_27_2_ok : bk_Port_firstChange_27_2.all (am_ok 2 false m_Port_firstChange.2.1) = true := by decide +kernel
def bk_Port_firstChange_89_1 : List am_E := [(89, .iload 7, 2, 0, 0)]
theorem bk_Port_firstChange_89_1_ok : bk_Port_firstChange_89_1.all (am_ok 2 false m_Port_firstChange.2.1) = true := by decide +kernel
def bk_Port_firstChange_34_4 : List am_E := [(34, .iload 7, 2, 0, 0), (36, .iload 6, 2, 0, 0), (38, .isub, 1, 0, 0), (39, .iconst 1, 1, 0, 1)]
theorem bk_Port_firstChange_34_4_ok : bk_Port_firstChange_34_4.all (am_ok 2 false m_Port_firstChange.2.1) = true := by decide +kernel
def bk_Port_firstChange_43_13 : List am_E := [(43, .iload 6, 2, 0, 0), (45, .iload 7, 2, 0, 0), (47, .iload 6, 2, 0, 0), (49, .isub, 1, 0, 0), (50, .iconst 2, 1, 0, 2), (51, .idiv, 1, 0, 0), (52, .iadd, 1, 0, 0), (53, .istore 9, 2, 0, 0), (55, .iload_n 2, 1, 0, 0), (56, .aload_n 0, 1, 0, 0), (57, .iload_n 1, 1, 0, 0), (58, .iload 9, 2, 0, 0), (60, .iload_n 3, 1, 0, 0)]
theorem bk_Port_firstChange_43_13_ok : bk_Port_firstChange_43_13.all (am_ok 2 false m_Port_firstChange.2.1) = true := by decide +kernel
def bk_Port_firstChange_67_1 : List am_E := [(67, .iload 5, 2, 0, 0)]
theorem bk_Port_firstChange_67_1_ok : bk_Port_firstChange_67_1.all (am_ok 2 false m_Port_firstChange.2.1) = true := by decide +kernel
def bk_Port_firstChange_79_4 : List am_E := [(79, .iload 9, 2, 0, 0), (81, .istore 7, 2, 0, 0), (83, .iinc 8 1, 3, 0, 1), (86, .goto (-59), 3, 0, -59)]
theorem bk_Port_firstChange_79_4_ok : bk_Port_firstChange_79_4.all (am_ok 2 false m_Port_firstChange.2.1) = true := by decide +kernel
def bk_Port_firstChange_72_5 : List am_E := [(72, .iload 9, 2, 0, 0), (74, .istore 6, 2, 0, 0), (76, .goto 7, 3, 0, 7), (83, .iinc 8 1, 3, 0, 1), (86, .goto (-59), 3, 0, -59)]
theorem bk_Port_firstChange_72_5_ok : bk_Port_firstChange_72_5.all (am_ok 2 false m_Port_firstChange.2.1) = true := by decide +kernel
theorem dc_Port_firstChange_3 : decode m_Port_firstChange.2.1 3 = .ok (.invokevirtual 51, 3) := by decide +kernel
theorem dc_Port_firstChange_8 : decode m_Port_firstChange.2.1 8 = .ok (.invokestatic 90, 3) := by decide +kernel
theorem dc_Port_firstChange_15 : decode m_Port_firstChange.2.1 15 = .ok (.invokevirtual 33, 3) := by decide +kernel
theorem dc_Port_firstChange_91 : decode m_Port_firstChange.2.1 91 = .ok (.ireturn, 1) := by decide +kernel
theorem dc_Port_firstChange_61 : decode m_Port_firstChange.2.1 61 = .ok (.invokevirtual 74, 3) := by decide +kernel
theorem dc_Port_firstChange_64 : decode m_Port_firstChange.2.1 64 = .ok (.invokestatic 90, 3) := by decide +kernel
theorem dc_Port_firstChange_69 : decode m_Port_firstChange.2.1 69 = .ok (.if_icmp .ne 10, 3) := by decide +kernel
theorem dc_Port_firstChange_40 : decode m_Port_firstChange.2.1 40 = .ok (.if_icmp .le 49, 3) := by decide +kernel
theorem dc_Port_firstChange_31 : decode m_Port_firstChange.2.1 31 = .ok (.if_icmp .ge 58, 3) := by decide +kernel
set_option maxRecDepth 20000 in
theorem sg_Port_firstChange_0 {kc ks : Nat} (a0 : Nat) (x1 x2 x3 x4 : Int32) (h : am_H) (Q : Option Value → am_H → Prop) (t : (am_tg h a0 = (2, 5) ∧ (am_Ei m_Port_heightOf 0 0 [.ref a0, .int x1] h (fun r3 h2 => (am_Ei m_Port_isOn 0 0 [.int x2, .int (r3 - x3)] h2 (fun r5 h4 => (am_tg h4 a0 = (2, 5) ∧ (am_Ei m_Port_minuteOf 0 0 [.ref a0, .int x1] h4 (fun r8 h7 => am_EI m_Port_firstChange kc ks 27 [.ref a0, .int x1, .int x2, .int x3, .int x4, .int r5, .int r8, .int x4, .int 0, .float 0] [] h7 Q))))))))) : am_EI m_Port_firstChange kc ks 0 [.ref a0, .int x1, .int x2, .int x3, .int x4, .float 0, .float 0, .float 0, .float 0, .float 0] [] h Q := by
  refine am_blk_ok (c := 2) (ini := false) (by decide) rfl (fun q => by cases q) bk_Port_firstChange_0_3 _ 3 _ _ _ bk_Port_firstChange_0_3_ok rfl ?_
  show am_EI m_Port_firstChange kc ks 3 [.ref a0, .int x1, .int x2, .int x3, .int x4, .float 0, .float 0, .float 0, .float 0, .float 0] [.int x1, .ref a0, .int x2] h Q
  obtain ⟨o1, t⟩ := t
  refine am_callV (M2 := m_Port_heightOf) (ci := 2) (a := a0) (kc := kc) (ks := ks) (k2c := 0) (k2s := 0) (as := [.int x2]) [.int x1] dc_Port_firstChange_3 lk_2_51 im_Port_heightOf se_Port_heightOf lm_Port_heightOf np_Port_heightOf ⟨Nat.le_of_ble_eq_true rfl, Nat.le_of_ble_eq_true rfl⟩ (fun _ => Nat.le_of_ble_eq_true rfl) (by decide) rfl o1 (am_Ei.end (am_Ei.mono t (fun r3 h2 t => ?_)))
  refine am_blk_ok (c := 2) (ini := false) (by decide) rfl (fun q => by cases q) bk_Port_firstChange_6_2 _ 8 _ _ _ bk_Port_firstChange_6_2_ok rfl ?_
  show am_EI m_Port_firstChange kc ks 8 [.ref a0, .int x1, .int x2, .int x3, .int x4, .float 0, .float 0, .float 0, .float 0, .float 0] [.int (r3 - x3), .int x2] h2 Q
  refine am_callS (M2 := m_Port_isOn) (kc := kc) (ks := ks) (k2c := 0) (k2s := 0) (as := []) [.int x2, .int (r3 - x3)] dc_Port_firstChange_8 lk_2_90 st_Port_isOn lm_Port_isOn np_Port_isOn ⟨Nat.le_of_ble_eq_true rfl, Nat.le_of_ble_eq_true rfl⟩ (fun _ => Nat.le_of_ble_eq_true rfl) (am_Ei.end (am_Ei.mono t (fun r5 h4 t => ?_)))
  refine am_blk_ok (c := 2) (ini := false) (by decide) rfl (fun q => by cases q) bk_Port_firstChange_11_3 _ 15 _ _ _ bk_Port_firstChange_11_3_ok rfl ?_
  show am_EI m_Port_firstChange kc ks 15 [.ref a0, .int x1, .int x2, .int x3, .int x4, .int r5, .float 0, .float 0, .float 0, .float 0] [.int x1, .ref a0] h4 Q
  obtain ⟨o6, t⟩ := t
  refine am_callV (M2 := m_Port_minuteOf) (ci := 2) (a := a0) (kc := kc) (ks := ks) (k2c := 0) (k2s := 0) (as := []) [.int x1] dc_Port_firstChange_15 lk_2_33 im_Port_minuteOf se_Port_minuteOf lm_Port_minuteOf np_Port_minuteOf ⟨Nat.le_of_ble_eq_true rfl, Nat.le_of_ble_eq_true rfl⟩ (fun _ => Nat.le_of_ble_eq_true rfl) (by decide) rfl o6 (am_Ei.end (am_Ei.mono t (fun r8 h7 t => ?_)))
  refine am_blk_ok (c := 2) (ini := false) (by decide) rfl (fun q => by cases q) bk_Port_firstChange_18_5 _ 27 _ _ _ bk_Port_firstChange_18_5_ok rfl ?_
  show am_EI m_Port_firstChange kc ks 27 [.ref a0, .int x1, .int x2, .int x3, .int x4, .int r5, .int r8, .int x4, .int 0, .float 0] [] h7 Q
  exact t
set_option maxRecDepth 20000 in
theorem ev_Port_firstChange (a0 : Nat) (x1 x2 x3 x4 : Int32) (h : am_H) (Q : Int32 → am_H → Prop) (t : (am_tg h a0 = (2, 5) ∧ (am_Ei m_Port_heightOf 0 0 [.ref a0, .int x1] h (fun r3 h2 => (am_Ei m_Port_isOn 0 0 [.int x2, .int (r3 - x3)] h2 (fun r5 h4 => (am_tg h4 a0 = (2, 5) ∧ (am_Ei m_Port_minuteOf 0 0 [.ref a0, .int x1] h4 (fun r8 h7 => am_EI m_Port_firstChange 0 0 27 [.ref a0, .int x1, .int x2, .int x3, .int x4, .int r5, .int r8, .int x4, .int 0, .float 0] [] h7 (am_qi Q)))))))))) : am_Ei m_Port_firstChange 0 0 [.ref a0, .int x1, .int x2, .int x3, .int x4] h Q :=
  am_Ev.of (by decide +kernel) (Nat.le_of_ble_eq_true rfl) (by simp only [List.mem_cons, List.not_mem_nil, or_false]; intro v hv; rcases hv with rfl | rfl | rfl | rfl | rfl; all_goals first | exact trivial) (sg_Port_firstChange_0 (kc := 0) (ks := 0) a0 x1 x2 x3 x4 h (am_qi Q) t)
set_option maxRecDepth 20000 in
theorem sg_Port_firstChange_27 {kc ks : Nat} (a0 : Nat) (x1 x2 x3 x4 x5 x6 x7 x8 : Int32) (h : am_H) (Q : Option Value → am_H → Prop) (t : ((16 ≤ x8 → Q (some (.int x7)) h) ∧ (¬ 16 ≤ x8 → (((x7 - x6) ≤ 1 → Q (some (.int x7)) h) ∧ (¬ (x7 - x6) ≤ 1 → (am_tg h a0 = (2, 5) ∧ (am_Ei m_Port_excess 0 0 [.ref a0, .int x1, .int (x6 + ((x7 - x6) / 2)), .int x3] h (fun r5 h4 => (am_Ei m_Port_isOn 0 0 [.int x2, .int r5] h4 (fun r7 h6 => ((¬ r7 = x5 → am_EI m_Port_firstChange kc ks 27 [.ref a0, .int x1, .int x2, .int x3, .int x4, .int x5, .int x6, .int (x6 + ((x7 - x6) / 2)), .int (x8 + 1), .float 0] [] h6 Q) ∧ (r7 = x5 → am_EI m_Port_firstChange kc ks 27 [.ref a0, .int x1, .int x2, .int x3, .int x4, .int x5, .int (x6 + ((x7 - x6) / 2)), .int x7, .int (x8 + 1), .float 0] [] h6 Q)))))))))))) : am_EI m_Port_firstChange kc ks 27 [.ref a0, .int x1, .int x2, .int x3, .int x4, .int x5, .int x6, .int x7, .int x8, .float 0] [] h Q := by
  refine am_blk_ok (c := 2) (ini := false) (by decide) rfl (fun q => by cases q) bk_Port_firstChange_27_2 _ 31 _ _ _ bk_Port_firstChange_27_2_ok rfl ?_
  show am_EI m_Port_firstChange kc ks 31 [.ref a0, .int x1, .int x2, .int x3, .int x4, .int x5, .int x6, .int x7, .int x8, .float 0] [.int 16, .int x8] h Q
  refine am_ic_ge (tgt := 89) dc_Port_firstChange_31 (by decide) (fun c1 => ?_) (fun c1 => ?_)
  · replace t := t.1 c1
    refine am_blk_ok (c := 2) (ini := false) (by decide) rfl (fun q => by cases q) bk_Port_firstChange_89_1 _ 91 _ _ _ bk_Port_firstChange_89_1_ok rfl ?_
    show am_EI m_Port_firstChange kc ks 91 [.ref a0, .int x1, .int x2, .int x3, .int x4, .int x5, .int x6, .int x7, .int x8, .float 0] [.int x7] h Q
    exact am_iret dc_Port_firstChange_91 rfl t
  · replace t := t.2 c1
    refine am_blk_ok (c := 2) (ini := false) (by decide) rfl (fun q => by cases q) bk_Port_firstChange_34_4 _ 40 _ _ _ bk_Port_firstChange_34_4_ok rfl ?_
    show am_EI m_Port_firstChange kc ks 40 [.ref a0, .int x1, .int x2, .int x3, .int x4, .int x5, .int x6, .int x7, .int x8, .float 0] [.int 1, .int (x7 - x6)] h Q
    refine am_ic_le (tgt := 89) dc_Port_firstChange_40 (by decide) (fun c2 => ?_) (fun c2 => ?_)
    · replace t := t.1 c2
      refine am_blk_ok (c := 2) (ini := false) (by decide) rfl (fun q => by cases q) bk_Port_firstChange_89_1 _ 91 _ _ _ bk_Port_firstChange_89_1_ok rfl ?_
      show am_EI m_Port_firstChange kc ks 91 [.ref a0, .int x1, .int x2, .int x3, .int x4, .int x5, .int x6, .int x7, .int x8, .float 0] [.int x7] h Q
      exact am_iret dc_Port_firstChange_91 rfl t
    · replace t := t.2 c2
      refine am_blk_ok (c := 2) (ini := false) (by decide) rfl (fun q => by cases q) bk_Port_firstChange_43_13 _ 61 _ _ _ bk_Port_firstChange_43_13_ok rfl ?_
      show ((¬ 2 = 0) ∧ am_EI m_Port_firstChange kc ks 61 [.ref a0, .int x1, .int x2, .int x3, .int x4, .int x5, .int x6, .int x7, .int x8, .int (x6 + ((x7 - x6) / 2))] [.int x3, .int (x6 + ((x7 - x6) / 2)), .int x1, .ref a0, .int x2] h Q)
      refine ⟨(by decide), ?_⟩
      obtain ⟨o3, t⟩ := t
      refine am_callV (M2 := m_Port_excess) (ci := 2) (a := a0) (kc := kc) (ks := ks) (k2c := 0) (k2s := 0) (as := [.int x2]) [.int x1, .int (x6 + ((x7 - x6) / 2)), .int x3] dc_Port_firstChange_61 lk_2_74 im_Port_excess se_Port_excess lm_Port_excess np_Port_excess ⟨Nat.le_of_ble_eq_true rfl, Nat.le_of_ble_eq_true rfl⟩ (fun _ => Nat.le_of_ble_eq_true rfl) (by decide) rfl o3 (am_Ei.end (am_Ei.mono t (fun r5 h4 t => ?_)))
      refine am_callS (M2 := m_Port_isOn) (kc := kc) (ks := ks) (k2c := 0) (k2s := 0) (as := []) [.int x2, .int r5] dc_Port_firstChange_64 lk_2_90 st_Port_isOn lm_Port_isOn np_Port_isOn ⟨Nat.le_of_ble_eq_true rfl, Nat.le_of_ble_eq_true rfl⟩ (fun _ => Nat.le_of_ble_eq_true rfl) (am_Ei.end (am_Ei.mono t (fun r7 h6 t => ?_)))
      refine am_blk_ok (c := 2) (ini := false) (by decide) rfl (fun q => by cases q) bk_Port_firstChange_67_1 _ 69 _ _ _ bk_Port_firstChange_67_1_ok rfl ?_
      show am_EI m_Port_firstChange kc ks 69 [.ref a0, .int x1, .int x2, .int x3, .int x4, .int x5, .int x6, .int x7, .int x8, .int (x6 + ((x7 - x6) / 2))] [.int x5, .int r7] h6 Q
      refine am_ic_ne (tgt := 79) dc_Port_firstChange_69 (by decide) (fun c8 => ?_) (fun c8 => ?_)
      · replace t := t.1 c8
        refine am_blk_ok (c := 2) (ini := false) (by decide) rfl (fun q => by cases q) bk_Port_firstChange_79_4 _ 27 _ _ _ bk_Port_firstChange_79_4_ok rfl ?_
        show am_EI m_Port_firstChange kc ks 27 [.ref a0, .int x1, .int x2, .int x3, .int x4, .int x5, .int x6, .int (x6 + ((x7 - x6) / 2)), .int (x8 + 1), .int (x6 + ((x7 - x6) / 2))] [] h6 Q
        refine am_EI.fg 9 ?_
        show am_EI m_Port_firstChange kc ks 27 [.ref a0, .int x1, .int x2, .int x3, .int x4, .int x5, .int x6, .int (x6 + ((x7 - x6) / 2)), .int (x8 + 1), .float 0] [] h6 Q
        exact t
      · replace t := t.2 c8
        refine am_blk_ok (c := 2) (ini := false) (by decide) rfl (fun q => by cases q) bk_Port_firstChange_72_5 _ 27 _ _ _ bk_Port_firstChange_72_5_ok rfl ?_
        show am_EI m_Port_firstChange kc ks 27 [.ref a0, .int x1, .int x2, .int x3, .int x4, .int x5, .int (x6 + ((x7 - x6) / 2)), .int x7, .int (x8 + 1), .int (x6 + ((x7 - x6) / 2))] [] h6 Q
        refine am_EI.fg 9 ?_
        show am_EI m_Port_firstChange kc ks 27 [.ref a0, .int x1, .int x2, .int x3, .int x4, .int x5, .int (x6 + ((x7 - x6) / 2)), .int x7, .int (x8 + 1), .float 0] [] h6 Q
        exact t
def bk_Port_firstMinute_0_2 : List am_E := [(0, .aload_n 0, 1, 0, 0), (1, .iconst 0, 1, 0, 0)]
theorem bk_Port_firstMinute_0_2_ok : bk_Port_firstMinute_0_2.all (am_ok 2 false m_Port_firstMinute.2.1) = true := by decide +kernel
theorem dc_Port_firstMinute_2 : decode m_Port_firstMinute.2.1 2 = .ok (.invokevirtual 33, 3) := by decide +kernel
theorem dc_Port_firstMinute_5 : decode m_Port_firstMinute.2.1 5 = .ok (.ireturn, 1) := by decide +kernel
set_option maxRecDepth 20000 in
theorem sg_Port_firstMinute_0 {kc ks : Nat} (a0 : Nat) (h : am_H) (Q : Option Value → am_H → Prop) (t : (am_tg h a0 = (2, 5) ∧ (am_Ei m_Port_minuteOf 0 0 [.ref a0, .int 0] h (fun r3 h2 => Q (some (.int r3)) h2)))) : am_EI m_Port_firstMinute kc ks 0 [.ref a0] [] h Q := by
  refine am_blk_ok (c := 2) (ini := false) (by decide) rfl (fun q => by cases q) bk_Port_firstMinute_0_2 _ 2 _ _ _ bk_Port_firstMinute_0_2_ok rfl ?_
  show am_EI m_Port_firstMinute kc ks 2 [.ref a0] [.int 0, .ref a0] h Q
  obtain ⟨o1, t⟩ := t
  refine am_callV (M2 := m_Port_minuteOf) (ci := 2) (a := a0) (kc := kc) (ks := ks) (k2c := 0) (k2s := 0) (as := []) [.int 0] dc_Port_firstMinute_2 lk_2_33 im_Port_minuteOf se_Port_minuteOf lm_Port_minuteOf np_Port_minuteOf ⟨Nat.le_of_ble_eq_true rfl, Nat.le_of_ble_eq_true rfl⟩ (fun _ => Nat.le_of_ble_eq_true rfl) (by decide) rfl o1 (am_Ei.end (am_Ei.mono t (fun r3 h2 t => ?_)))
  exact am_iret dc_Port_firstMinute_5 rfl t
set_option maxRecDepth 20000 in
theorem ev_Port_firstMinute (a0 : Nat) (h : am_H) (Q : Int32 → am_H → Prop) (t : (am_tg h a0 = (2, 5) ∧ (am_Ei m_Port_minuteOf 0 0 [.ref a0, .int 0] h (fun r3 h2 => Q r3 h2)))) : am_Ei m_Port_firstMinute 0 0 [.ref a0] h Q :=
  am_Ev.of (by decide +kernel) (Nat.le_of_ble_eq_true rfl) (by simp only [List.mem_cons, List.not_mem_nil, or_false]; intro v hv; rcases hv with rfl; all_goals first | exact trivial) (sg_Port_firstMinute_0 (kc := 0) (ks := 0) a0 h (am_qi Q) t)
def bk_Port_hasMinute_0_2 : List am_E := [(0, .aload_n 0, 1, 0, 0), (1, .getfield 7, 3, 816, 0)]
theorem bk_Port_hasMinute_0_2_ok : bk_Port_hasMinute_0_2.all (am_ok 2 false m_Port_hasMinute.2.1) = true := by decide +kernel
def bk_Port_hasMinute_27_1 : List am_E := [(27, .iconst 0, 1, 0, 0)]
theorem bk_Port_hasMinute_27_1_ok : bk_Port_hasMinute_27_1.all (am_ok 2 false m_Port_hasMinute.2.1) = true := by decide +kernel
def bk_Port_hasMinute_7_2 : List am_E := [(7, .iload_n 1, 1, 0, 0), (8, .aload_n 0, 1, 0, 0)]
theorem bk_Port_hasMinute_7_2_ok : bk_Port_hasMinute_7_2.all (am_ok 2 false m_Port_hasMinute.2.1) = true := by decide +kernel
def bk_Port_hasMinute_15_2 : List am_E := [(15, .iload_n 1, 1, 0, 0), (16, .aload_n 0, 1, 0, 0)]
theorem bk_Port_hasMinute_15_2_ok : bk_Port_hasMinute_15_2.all (am_ok 2 false m_Port_hasMinute.2.1) = true := by decide +kernel
def bk_Port_hasMinute_23_2 : List am_E := [(23, .iconst 1, 1, 0, 1), (24, .goto 4, 3, 0, 4)]
theorem bk_Port_hasMinute_23_2_ok : bk_Port_hasMinute_23_2.all (am_ok 2 false m_Port_hasMinute.2.1) = true := by decide +kernel
theorem dc_Port_hasMinute_28 : decode m_Port_hasMinute.2.1 28 = .ok (.ireturn, 1) := by decide +kernel
theorem dc_Port_hasMinute_9 : decode m_Port_hasMinute.2.1 9 = .ok (.invokevirtual 37, 3) := by decide +kernel
theorem dc_Port_hasMinute_17 : decode m_Port_hasMinute.2.1 17 = .ok (.invokevirtual 41, 3) := by decide +kernel
theorem dc_Port_hasMinute_20 : decode m_Port_hasMinute.2.1 20 = .ok (.if_icmp .gt 7, 3) := by decide +kernel
theorem dc_Port_hasMinute_12 : decode m_Port_hasMinute.2.1 12 = .ok (.if_icmp .lt 15, 3) := by decide +kernel
theorem dc_Port_hasMinute_4 : decode m_Port_hasMinute.2.1 4 = .ok (.ifCond .le 23, 3) := by decide +kernel
set_option maxRecDepth 20000 in
theorem sg_Port_hasMinute_0 {kc ks : Nat} (a0 : Nat) (x1 : Int32) (h : am_H) (Q : Option Value → am_H → Prop) (t : (am_tg h a0 = (2, 5) ∧ (((am_I h a0 4) ≤ 0 → Q (some (.int 0)) h) ∧ (¬ (am_I h a0 4) ≤ 0 → (am_Ei m_Port_firstMinute 0 0 [.ref a0] h (fun r4 h3 => ((x1 < r4 → Q (some (.int 0)) h3) ∧ (¬ x1 < r4 → (am_tg h3 a0 = (2, 5) ∧ (am_Ei m_Port_lastMinute 0 0 [.ref a0] h3 (fun r8 h7 => ((r8 < x1 → Q (some (.int 0)) h7) ∧ (¬ r8 < x1 → Q (some (.int 1)) h7))))))))))))) : am_EI m_Port_hasMinute kc ks 0 [.ref a0, .int x1] [] h Q := by
  refine am_blk_ok (c := 2) (ini := false) (by decide) rfl (fun q => by cases q) bk_Port_hasMinute_0_2 _ 4 _ _ _ bk_Port_hasMinute_0_2_ok rfl ?_
  show (am_tg h a0 = (2, 5) ∧ am_EI m_Port_hasMinute kc ks 4 [.ref a0, .int x1] [.int (am_I h a0 4)] h Q)
  obtain ⟨o1, t⟩ := t
  refine ⟨o1, ?_⟩
  refine am_if_le (tgt := 27) dc_Port_hasMinute_4 (by decide) (fun c2 => ?_) (fun c2 => ?_)
  · replace t := t.1 c2
    refine am_blk_ok (c := 2) (ini := false) (by decide) rfl (fun q => by cases q) bk_Port_hasMinute_27_1 _ 28 _ _ _ bk_Port_hasMinute_27_1_ok rfl ?_
    show am_EI m_Port_hasMinute kc ks 28 [.ref a0, .int x1] [.int 0] h Q
    exact am_zret dc_Port_hasMinute_28 rfl (Or.inl rfl) t
  · replace t := t.2 c2
    refine am_blk_ok (c := 2) (ini := false) (by decide) rfl (fun q => by cases q) bk_Port_hasMinute_7_2 _ 9 _ _ _ bk_Port_hasMinute_7_2_ok rfl ?_
    show am_EI m_Port_hasMinute kc ks 9 [.ref a0, .int x1] [.ref a0, .int x1] h Q
    refine am_callV (M2 := m_Port_firstMinute) (ci := 2) (a := a0) (kc := kc) (ks := ks) (k2c := 0) (k2s := 0) (as := [.int x1]) [] dc_Port_hasMinute_9 lk_2_37 im_Port_firstMinute se_Port_firstMinute lm_Port_firstMinute np_Port_firstMinute ⟨Nat.le_of_ble_eq_true rfl, Nat.le_of_ble_eq_true rfl⟩ (fun _ => Nat.le_of_ble_eq_true rfl) (by decide) rfl o1 (am_Ei.end (am_Ei.mono t (fun r4 h3 t => ?_)))
    refine am_ic_lt (tgt := 27) dc_Port_hasMinute_12 (by decide) (fun c5 => ?_) (fun c5 => ?_)
    · replace t := t.1 c5
      refine am_blk_ok (c := 2) (ini := false) (by decide) rfl (fun q => by cases q) bk_Port_hasMinute_27_1 _ 28 _ _ _ bk_Port_hasMinute_27_1_ok rfl ?_
      show am_EI m_Port_hasMinute kc ks 28 [.ref a0, .int x1] [.int 0] h3 Q
      exact am_zret dc_Port_hasMinute_28 rfl (Or.inl rfl) t
    · replace t := t.2 c5
      refine am_blk_ok (c := 2) (ini := false) (by decide) rfl (fun q => by cases q) bk_Port_hasMinute_15_2 _ 17 _ _ _ bk_Port_hasMinute_15_2_ok rfl ?_
      show am_EI m_Port_hasMinute kc ks 17 [.ref a0, .int x1] [.ref a0, .int x1] h3 Q
      obtain ⟨o6, t⟩ := t
      refine am_callV (M2 := m_Port_lastMinute) (ci := 2) (a := a0) (kc := kc) (ks := ks) (k2c := 0) (k2s := 0) (as := [.int x1]) [] dc_Port_hasMinute_17 lk_2_41 im_Port_lastMinute se_Port_lastMinute lm_Port_lastMinute np_Port_lastMinute ⟨Nat.le_of_ble_eq_true rfl, Nat.le_of_ble_eq_true rfl⟩ (fun _ => Nat.le_of_ble_eq_true rfl) (by decide) rfl o6 (am_Ei.end (am_Ei.mono t (fun r8 h7 t => ?_)))
      refine am_ic_gt (tgt := 27) dc_Port_hasMinute_20 (by decide) (fun c9 => ?_) (fun c9 => ?_)
      · replace t := t.1 c9
        refine am_blk_ok (c := 2) (ini := false) (by decide) rfl (fun q => by cases q) bk_Port_hasMinute_27_1 _ 28 _ _ _ bk_Port_hasMinute_27_1_ok rfl ?_
        show am_EI m_Port_hasMinute kc ks 28 [.ref a0, .int x1] [.int 0] h7 Q
        exact am_zret dc_Port_hasMinute_28 rfl (Or.inl rfl) t
      · replace t := t.2 c9
        refine am_blk_ok (c := 2) (ini := false) (by decide) rfl (fun q => by cases q) bk_Port_hasMinute_23_2 _ 28 _ _ _ bk_Port_hasMinute_23_2_ok rfl ?_
        show am_EI m_Port_hasMinute kc ks 28 [.ref a0, .int x1] [.int 1] h7 Q
        exact am_zret dc_Port_hasMinute_28 rfl (Or.inr rfl) t
set_option maxRecDepth 20000 in
theorem ev_Port_hasMinute (a0 : Nat) (x1 : Int32) (h : am_H) (Q : Int32 → am_H → Prop) (t : (am_tg h a0 = (2, 5) ∧ (((am_I h a0 4) ≤ 0 → Q 0 h) ∧ (¬ (am_I h a0 4) ≤ 0 → (am_Ei m_Port_firstMinute 0 0 [.ref a0] h (fun r4 h3 => ((x1 < r4 → Q 0 h3) ∧ (¬ x1 < r4 → (am_tg h3 a0 = (2, 5) ∧ (am_Ei m_Port_lastMinute 0 0 [.ref a0] h3 (fun r8 h7 => ((r8 < x1 → Q 0 h7) ∧ (¬ r8 < x1 → Q 1 h7))))))))))))) : am_Ei m_Port_hasMinute 0 0 [.ref a0, .int x1] h Q :=
  am_Ev.of (by decide +kernel) (Nat.le_of_ble_eq_true rfl) (by simp only [List.mem_cons, List.not_mem_nil, or_false]; intro v hv; rcases hv with rfl | rfl; all_goals first | exact trivial) (sg_Port_hasMinute_0 (kc := 0) (ks := 0) a0 x1 h (am_qi Q) t)
def bk_Port_heightOf_0_1 : List am_E := [(0, .iload_n 1, 1, 0, 0)]
theorem bk_Port_heightOf_0_1_ok : bk_Port_heightOf_0_1.all (am_ok 2 false m_Port_heightOf.2.1) = true := by decide +kernel
def bk_Port_heightOf_29_1 : List am_E := [(29, .iconst 0, 1, 0, 0)]
theorem bk_Port_heightOf_29_1_ok : bk_Port_heightOf_29_1.all (am_ok 2 false m_Port_heightOf.2.1) = true := by decide +kernel
def bk_Port_heightOf_4_3 : List am_E := [(4, .iload_n 1, 1, 0, 0), (5, .aload_n 0, 1, 0, 0), (6, .getfield 7, 3, 816, 0)]
theorem bk_Port_heightOf_4_3_ok : bk_Port_heightOf_4_3.all (am_ok 2 false m_Port_heightOf.2.1) = true := by decide +kernel
def bk_Port_heightOf_12_3 : List am_E := [(12, .iload_n 1, 1, 0, 0), (13, .aload_n 0, 1, 0, 0), (14, .getfield 19, 3, 800, 0)]
theorem bk_Port_heightOf_12_3_ok : bk_Port_heightOf_12_3.all (am_ok 2 false m_Port_heightOf.2.1) = true := by decide +kernel
def bk_Port_heightOf_20_5 : List am_E := [(20, .aload_n 0, 1, 0, 0), (21, .getfield 30, 3, 813, 0), (24, .iload_n 1, 1, 0, 0), (25, .iaload, 1, 0, 0), (26, .goto 4, 3, 0, 4)]
theorem bk_Port_heightOf_20_5_ok : bk_Port_heightOf_20_5.all (am_ok 2 false m_Port_heightOf.2.1) = true := by decide +kernel
theorem dc_Port_heightOf_30 : decode m_Port_heightOf.2.1 30 = .ok (.ireturn, 1) := by decide +kernel
theorem dc_Port_heightOf_17 : decode m_Port_heightOf.2.1 17 = .ok (.if_icmp .ge 12, 3) := by decide +kernel
theorem dc_Port_heightOf_9 : decode m_Port_heightOf.2.1 9 = .ok (.if_icmp .ge 20, 3) := by decide +kernel
theorem dc_Port_heightOf_1 : decode m_Port_heightOf.2.1 1 = .ok (.ifCond .lt 28, 3) := by decide +kernel
set_option maxRecDepth 20000 in
theorem sg_Port_heightOf_0 {kc ks : Nat} (a0 : Nat) (x1 : Int32) (h : am_H) (Q : Option Value → am_H → Prop) (t : ((x1 < 0 → Q (some (.int 0)) h) ∧ (¬ x1 < 0 → (am_tg h a0 = (2, 5) ∧ (((am_I h a0 4) ≤ x1 → Q (some (.int 0)) h) ∧ (¬ (am_I h a0 4) ≤ x1 → (((am_I h a0 0) ≤ x1 → Q (some (.int 0)) h) ∧ (¬ (am_I h a0 0) ≤ x1 → (∃ b5, am_P h a0 3 = some b5 ∧ ((am_tg h b5).1 = 20 ∧ (vp_in x1 (am_tg h b5).2 ∧ Q (some (.int (am_I h b5 x1.toNatClampNeg))) h))))))))))) : am_EI m_Port_heightOf kc ks 0 [.ref a0, .int x1] [] h Q := by
  refine am_blk_ok (c := 2) (ini := false) (by decide) rfl (fun q => by cases q) bk_Port_heightOf_0_1 _ 1 _ _ _ bk_Port_heightOf_0_1_ok rfl ?_
  show am_EI m_Port_heightOf kc ks 1 [.ref a0, .int x1] [.int x1] h Q
  refine am_if_lt (tgt := 29) dc_Port_heightOf_1 (by decide) (fun c1 => ?_) (fun c1 => ?_)
  · replace t := t.1 c1
    refine am_blk_ok (c := 2) (ini := false) (by decide) rfl (fun q => by cases q) bk_Port_heightOf_29_1 _ 30 _ _ _ bk_Port_heightOf_29_1_ok rfl ?_
    show am_EI m_Port_heightOf kc ks 30 [.ref a0, .int x1] [.int 0] h Q
    exact am_iret dc_Port_heightOf_30 rfl t
  · replace t := t.2 c1
    refine am_blk_ok (c := 2) (ini := false) (by decide) rfl (fun q => by cases q) bk_Port_heightOf_4_3 _ 9 _ _ _ bk_Port_heightOf_4_3_ok rfl ?_
    show (am_tg h a0 = (2, 5) ∧ am_EI m_Port_heightOf kc ks 9 [.ref a0, .int x1] [.int (am_I h a0 4), .int x1] h Q)
    obtain ⟨o2, t⟩ := t
    refine ⟨o2, ?_⟩
    refine am_ic_ge (tgt := 29) dc_Port_heightOf_9 (by decide) (fun c3 => ?_) (fun c3 => ?_)
    · replace t := t.1 c3
      refine am_blk_ok (c := 2) (ini := false) (by decide) rfl (fun q => by cases q) bk_Port_heightOf_29_1 _ 30 _ _ _ bk_Port_heightOf_29_1_ok rfl ?_
      show am_EI m_Port_heightOf kc ks 30 [.ref a0, .int x1] [.int 0] h Q
      exact am_iret dc_Port_heightOf_30 rfl t
    · replace t := t.2 c3
      refine am_blk_ok (c := 2) (ini := false) (by decide) rfl (fun q => by cases q) bk_Port_heightOf_12_3 _ 17 _ _ _ bk_Port_heightOf_12_3_ok rfl ?_
      show (am_tg h a0 = (2, 5) ∧ am_EI m_Port_heightOf kc ks 17 [.ref a0, .int x1] [.int (am_I h a0 0), .int x1] h Q)
      refine ⟨o2, ?_⟩
      refine am_ic_ge (tgt := 29) dc_Port_heightOf_17 (by decide) (fun c4 => ?_) (fun c4 => ?_)
      · replace t := t.1 c4
        refine am_blk_ok (c := 2) (ini := false) (by decide) rfl (fun q => by cases q) bk_Port_heightOf_29_1 _ 30 _ _ _ bk_Port_heightOf_29_1_ok rfl ?_
        show am_EI m_Port_heightOf kc ks 30 [.ref a0, .int x1] [.int 0] h Q
        exact am_iret dc_Port_heightOf_30 rfl t
      · replace t := t.2 c4
        refine am_blk_ok (c := 2) (ini := false) (by decide) rfl (fun q => by cases q) bk_Port_heightOf_20_5 _ 30 _ _ _ bk_Port_heightOf_20_5_ok rfl ?_
        show (am_tg h a0 = (2, 5) ∧ (∃ b5, am_P h a0 3 = some b5 ∧ ((am_tg h b5).1 = 20 ∧ (vp_in x1 (am_tg h b5).2 ∧ am_EI m_Port_heightOf kc ks 30 [.ref a0, .int x1] [.int (am_I h b5 x1.toNatClampNeg)] h Q))))
        obtain ⟨b5, q6, o7, o8, t⟩ := t
        refine ⟨o2, b5, q6, o7, o8, ?_⟩
        exact am_iret dc_Port_heightOf_30 rfl t
set_option maxRecDepth 20000 in
theorem ev_Port_heightOf (a0 : Nat) (x1 : Int32) (h : am_H) (Q : Int32 → am_H → Prop) (t : ((x1 < 0 → Q 0 h) ∧ (¬ x1 < 0 → (am_tg h a0 = (2, 5) ∧ (((am_I h a0 4) ≤ x1 → Q 0 h) ∧ (¬ (am_I h a0 4) ≤ x1 → (((am_I h a0 0) ≤ x1 → Q 0 h) ∧ (¬ (am_I h a0 0) ≤ x1 → (∃ b5, am_P h a0 3 = some b5 ∧ ((am_tg h b5).1 = 20 ∧ (vp_in x1 (am_tg h b5).2 ∧ Q (am_I h b5 x1.toNatClampNeg) h))))))))))) : am_Ei m_Port_heightOf 0 0 [.ref a0, .int x1] h Q :=
  am_Ev.of (by decide +kernel) (Nat.le_of_ble_eq_true rfl) (by simp only [List.mem_cons, List.not_mem_nil, or_false]; intro v hv; rcases hv with rfl | rfl; all_goals first | exact trivial) (sg_Port_heightOf_0 (kc := 0) (ks := 0) a0 x1 h (am_qi Q) t)
def bk_Port_init_0_1 : List am_E := [(0, .aload_n 0, 1, 0, 0)]
theorem bk_Port_init_0_1_ok : bk_Port_init_0_1.all (am_ok 2 true m_Port_init.2.1) = true := by decide +kernel
def bk_Port_init_4_6 : List am_E := [(4, .aload_n 0, 1, 0, 0), (5, .iconst 0, 1, 0, 0), (6, .putfield 7, 3, 816, 0), (9, .aload_n 0, 1, 0, 0), (10, .iload_n 1, 1, 0, 0), (11, .iconst 1, 1, 0, 1)]
theorem bk_Port_init_4_6_ok : bk_Port_init_4_6.all (am_ok 2 true m_Port_init.2.1) = true := by decide +kernel
def bk_Port_init_15_4 : List am_E := [(15, .putfield 19, 3, 800, 0), (18, .aload_n 0, 1, 0, 0), (19, .aload_n 0, 1, 0, 0), (20, .getfield 19, 3, 800, 0)]
theorem bk_Port_init_15_4_ok : bk_Port_init_15_4.all (am_ok 2 true m_Port_init.2.1) = true := by decide +kernel
def bk_Port_init_25_4 : List am_E := [(25, .putfield 22, 3, 805, 0), (28, .aload_n 0, 1, 0, 0), (29, .aload_n 0, 1, 0, 0), (30, .getfield 19, 3, 800, 0)]
theorem bk_Port_init_25_4_ok : bk_Port_init_25_4.all (am_ok 2 true m_Port_init.2.1) = true := by decide +kernel
def bk_Port_init_35_4 : List am_E := [(35, .putfield 26, 3, 809, 0), (38, .aload_n 0, 1, 0, 0), (39, .aload_n 0, 1, 0, 0), (40, .getfield 19, 3, 800, 0)]
theorem bk_Port_init_35_4_ok : bk_Port_init_35_4.all (am_ok 2 true m_Port_init.2.1) = true := by decide +kernel
def bk_Port_init_45_1 : List am_E := [(45, .putfield 30, 3, 813, 0)]
theorem bk_Port_init_45_1_ok : bk_Port_init_45_1.all (am_ok 2 true m_Port_init.2.1) = true := by decide +kernel
theorem dc_Port_init_12 : decode m_Port_init.2.1 12 = .ok (.invokestatic 13, 3) := by decide +kernel
theorem dc_Port_init_48 : decode m_Port_init.2.1 48 = .ok (.return_, 1) := by decide +kernel
theorem dc_Port_init_43 : decode m_Port_init.2.1 43 = .ok (.newarray .int, 2) := by decide +kernel
theorem dc_Port_init_33 : decode m_Port_init.2.1 33 = .ok (.newarray .int, 2) := by decide +kernel
theorem dc_Port_init_23 : decode m_Port_init.2.1 23 = .ok (.newarray .boolean, 2) := by decide +kernel
theorem dc_Port_init_1 : decode m_Port_init.2.1 1 = .ok (.invokespecial 1, 3) := by decide +kernel
set_option maxRecDepth 20000 in
theorem sg_Port_init_0 {kc ks : Nat} (N : Nat) (a0 : Nat) (x1 : Int32) (h : am_H) (Q : Option Value → am_H → Prop) (t : (am_tg h a0 = (2, 5) ∧ (am_Ei m_Math_max 0 0 [.int x1, .int 1] (am_si h a0 4 0) (fun r3 h2 => (am_tg h2 a0 = (2, 5) ∧ ((¬ (am_I (am_si h2 a0 0 r3) a0 0) < 0) ∧ ((am_I (am_si h2 a0 0 r3) a0 0).toNatClampNeg = N) ∧ (N ≤ 100000) ∧ (am_tg (am_nw (am_si h2 a0 0 r3) 21 N) a0 = (2, 5) ∧ ((¬ (am_I (am_nw (am_si h2 a0 0 r3) 21 N) a0 0) < 0) ∧ ((am_I (am_nw (am_si h2 a0 0 r3) 21 N) a0 0).toNatClampNeg = N) ∧ (N ≤ 100000) ∧ (am_tg (am_nw (am_sp (am_nw (am_si h2 a0 0 r3) 21 N) a0 1 (some (am_sz h2))) 20 N) a0 = (2, 5) ∧ ((¬ (am_I (am_nw (am_sp (am_nw (am_si h2 a0 0 r3) 21 N) a0 1 (some (am_sz h2))) 20 N) a0 0) < 0) ∧ ((am_I (am_nw (am_sp (am_nw (am_si h2 a0 0 r3) 21 N) a0 1 (some (am_sz h2))) 20 N) a0 0).toNatClampNeg = N) ∧ (N ≤ 100000) ∧ (am_tg (am_nw (am_sp (am_nw (am_sp (am_nw (am_si h2 a0 0 r3) 21 N) a0 1 (some (am_sz h2))) 20 N) a0 2 (some (am_sz (am_nw (am_si h2 a0 0 r3) 21 N)))) 20 N) a0 = (2, 5) ∧ Q none (am_sp (am_nw (am_sp (am_nw (am_sp (am_nw (am_si h2 a0 0 r3) 21 N) a0 1 (some (am_sz h2))) 20 N) a0 2 (some (am_sz (am_nw (am_si h2 a0 0 r3) 21 N)))) 20 N) a0 3 (some (am_sz (am_nw (am_sp (am_nw (am_si h2 a0 0 r3) 21 N) a0 1 (some (am_sz h2))) 20 N))))))))))))))) : am_EI m_Port_init (kc + 1 + 1 + 1) (ks + N + N + N) 0 [.ref a0, .int x1] [] h Q := by
  refine am_blk_ok (c := 2) (ini := true) (by decide) rfl (fun _ => rfl) bk_Port_init_0_1 _ 1 _ _ _ bk_Port_init_0_1_ok rfl ?_
  show am_EI m_Port_init (kc + 1 + 1 + 1) (ks + N + N + N) 1 [.ref a0, .int x1] [.ref a0] h Q
  refine am_oinit (a := a0) dc_Port_init_1 lk_2_1 oi_2 oi_3 (by decide) (by decide) ?_
  refine am_blk_ok (c := 2) (ini := true) (by decide) rfl (fun _ => rfl) bk_Port_init_4_6 _ 12 _ _ _ bk_Port_init_4_6_ok rfl ?_
  show (am_tg h a0 = (2, 5) ∧ am_EI m_Port_init (kc + 1 + 1 + 1) (ks + N + N + N) 12 [.ref a0, .int x1] [.int 1, .int x1, .ref a0] (am_si h a0 4 0) Q)
  obtain ⟨o1, t⟩ := t
  refine ⟨o1, ?_⟩
  refine am_callS (M2 := m_Math_max) (kc := (kc + 1 + 1 + 1)) (ks := (ks + N + N + N)) (k2c := 0) (k2s := 0) (as := [.ref a0]) [.int x1, .int 1] dc_Port_init_12 lk_2_13 st_Math_max lm_Math_max np_Math_max ⟨Nat.le_of_ble_eq_true rfl, Nat.le_of_ble_eq_true rfl⟩ (fun _ => Nat.le_of_ble_eq_true rfl) (am_Ei.end (am_Ei.mono t (fun r3 h2 t => ?_)))
  refine am_blk_ok (c := 2) (ini := true) (by decide) rfl (fun _ => rfl) bk_Port_init_15_4 _ 23 _ _ _ bk_Port_init_15_4_ok rfl ?_
  show (am_tg h2 a0 = (2, 5) ∧ (am_tg h2 a0 = (2, 5) ∧ am_EI m_Port_init (kc + 1 + 1 + 1) (ks + N + N + N) 23 [.ref a0, .int x1] [.int (am_I (am_si h2 a0 0 r3) a0 0), .ref a0] (am_si h2 a0 0 r3) Q))
  obtain ⟨o4, t⟩ := t
  refine ⟨o4, o4, ?_⟩
  obtain ⟨o5, o6, o7, t⟩ := t
  refine am_newa (kc := (kc + 1 + 1)) (ks := (ks + N + N)) (kd := 21) (N := N) dc_Port_init_23 (by decide) ac_boolean o5 o6 o7 ?_
  refine am_blk_ok (c := 2) (ini := true) (by decide) rfl (fun _ => rfl) bk_Port_init_25_4 _ 33 _ _ _ bk_Port_init_25_4_ok rfl ?_
  show (am_tg (am_nw (am_si h2 a0 0 r3) 21 N) a0 = (2, 5) ∧ (am_tg (am_nw (am_si h2 a0 0 r3) 21 N) a0 = (2, 5) ∧ am_EI m_Port_init (kc + 1 + 1) (ks + N + N) 33 [.ref a0, .int x1] [.int (am_I (am_nw (am_si h2 a0 0 r3) 21 N) a0 0), .ref a0] (am_sp (am_nw (am_si h2 a0 0 r3) 21 N) a0 1 (some (am_sz h2))) Q))
  obtain ⟨o8, t⟩ := t
  refine ⟨o8, o8, ?_⟩
  obtain ⟨o9, o10, o11, t⟩ := t
  refine am_newa (kc := (kc + 1)) (ks := (ks + N)) (kd := 20) (N := N) dc_Port_init_33 (by decide) ac_int o9 o10 o11 ?_
  refine am_blk_ok (c := 2) (ini := true) (by decide) rfl (fun _ => rfl) bk_Port_init_35_4 _ 43 _ _ _ bk_Port_init_35_4_ok rfl ?_
  show (am_tg (am_nw (am_sp (am_nw (am_si h2 a0 0 r3) 21 N) a0 1 (some (am_sz h2))) 20 N) a0 = (2, 5) ∧ (am_tg (am_nw (am_sp (am_nw (am_si h2 a0 0 r3) 21 N) a0 1 (some (am_sz h2))) 20 N) a0 = (2, 5) ∧ am_EI m_Port_init (kc + 1) (ks + N) 43 [.ref a0, .int x1] [.int (am_I (am_nw (am_sp (am_nw (am_si h2 a0 0 r3) 21 N) a0 1 (some (am_sz h2))) 20 N) a0 0), .ref a0] (am_sp (am_nw (am_sp (am_nw (am_si h2 a0 0 r3) 21 N) a0 1 (some (am_sz h2))) 20 N) a0 2 (some (am_sz (am_nw (am_si h2 a0 0 r3) 21 N)))) Q))
  obtain ⟨o12, t⟩ := t
  refine ⟨o12, o12, ?_⟩
  obtain ⟨o13, o14, o15, t⟩ := t
  refine am_newa (kc := kc) (ks := ks) (kd := 20) (N := N) dc_Port_init_43 (by decide) ac_int o13 o14 o15 ?_
  refine am_blk_ok (c := 2) (ini := true) (by decide) rfl (fun _ => rfl) bk_Port_init_45_1 _ 48 _ _ _ bk_Port_init_45_1_ok rfl ?_
  show (am_tg (am_nw (am_sp (am_nw (am_sp (am_nw (am_si h2 a0 0 r3) 21 N) a0 1 (some (am_sz h2))) 20 N) a0 2 (some (am_sz (am_nw (am_si h2 a0 0 r3) 21 N)))) 20 N) a0 = (2, 5) ∧ am_EI m_Port_init kc ks 48 [.ref a0, .int x1] [] (am_sp (am_nw (am_sp (am_nw (am_sp (am_nw (am_si h2 a0 0 r3) 21 N) a0 1 (some (am_sz h2))) 20 N) a0 2 (some (am_sz (am_nw (am_si h2 a0 0 r3) 21 N)))) 20 N) a0 3 (some (am_sz (am_nw (am_sp (am_nw (am_si h2 a0 0 r3) 21 N) a0 1 (some (am_sz h2))) 20 N)))) Q)
  obtain ⟨o16, t⟩ := t
  refine ⟨o16, ?_⟩
  exact am_vret dc_Port_init_48 rfl t
set_option maxRecDepth 20000 in
theorem ev_Port_init (N : Nat) (a0 : Nat) (x1 : Int32) (h : am_H) (Q : am_H → Prop) (t : (am_tg h a0 = (2, 5) ∧ (am_Ei m_Math_max 0 0 [.int x1, .int 1] (am_si h a0 4 0) (fun r3 h2 => (am_tg h2 a0 = (2, 5) ∧ ((¬ (am_I (am_si h2 a0 0 r3) a0 0) < 0) ∧ ((am_I (am_si h2 a0 0 r3) a0 0).toNatClampNeg = N) ∧ (N ≤ 100000) ∧ (am_tg (am_nw (am_si h2 a0 0 r3) 21 N) a0 = (2, 5) ∧ ((¬ (am_I (am_nw (am_si h2 a0 0 r3) 21 N) a0 0) < 0) ∧ ((am_I (am_nw (am_si h2 a0 0 r3) 21 N) a0 0).toNatClampNeg = N) ∧ (N ≤ 100000) ∧ (am_tg (am_nw (am_sp (am_nw (am_si h2 a0 0 r3) 21 N) a0 1 (some (am_sz h2))) 20 N) a0 = (2, 5) ∧ ((¬ (am_I (am_nw (am_sp (am_nw (am_si h2 a0 0 r3) 21 N) a0 1 (some (am_sz h2))) 20 N) a0 0) < 0) ∧ ((am_I (am_nw (am_sp (am_nw (am_si h2 a0 0 r3) 21 N) a0 1 (some (am_sz h2))) 20 N) a0 0).toNatClampNeg = N) ∧ (N ≤ 100000) ∧ (am_tg (am_nw (am_sp (am_nw (am_sp (am_nw (am_si h2 a0 0 r3) 21 N) a0 1 (some (am_sz h2))) 20 N) a0 2 (some (am_sz (am_nw (am_si h2 a0 0 r3) 21 N)))) 20 N) a0 = (2, 5) ∧ Q (am_sp (am_nw (am_sp (am_nw (am_sp (am_nw (am_si h2 a0 0 r3) 21 N) a0 1 (some (am_sz h2))) 20 N) a0 2 (some (am_sz (am_nw (am_si h2 a0 0 r3) 21 N)))) 20 N) a0 3 (some (am_sz (am_nw (am_sp (am_nw (am_si h2 a0 0 r3) 21 N) a0 1 (some (am_sz h2))) 20 N))))))))))))))) : am_Ew m_Port_init (0 + 1 + 1 + 1) (0 + N + N + N) [.ref a0, .int x1] h Q :=
  am_Ev.of (by decide +kernel) (Nat.le_of_ble_eq_true rfl) (by simp only [List.mem_cons, List.not_mem_nil, or_false]; intro v hv; rcases hv with rfl | rfl; all_goals first | exact trivial) (sg_Port_init_0 (kc := 0) (ks := 0) N a0 x1 h (am_qw Q) t)
def bk_Port_isHeight_0_2 : List am_E := [(0, .iload_n 0, 1, 0, 0), (1, .sipush (-500), 3, 0, -500)]
theorem bk_Port_isHeight_0_2_ok : bk_Port_isHeight_0_2.all (am_ok 2 false m_Port_isHeight.2.1) = true := by decide +kernel
def bk_Port_isHeight_18_1 : List am_E := [(18, .iconst 0, 1, 0, 0)]
theorem bk_Port_isHeight_18_1_ok : bk_Port_isHeight_18_1.all (am_ok 2 false m_Port_isHeight.2.1) = true := by decide +kernel
def bk_Port_isHeight_7_2 : List am_E := [(7, .iload_n 0, 1, 0, 0), (8, .sipush 1500, 3, 0, 1500)]
theorem bk_Port_isHeight_7_2_ok : bk_Port_isHeight_7_2.all (am_ok 2 false m_Port_isHeight.2.1) = true := by decide +kernel
def bk_Port_isHeight_14_2 : List am_E := [(14, .iconst 1, 1, 0, 1), (15, .goto 4, 3, 0, 4)]
theorem bk_Port_isHeight_14_2_ok : bk_Port_isHeight_14_2.all (am_ok 2 false m_Port_isHeight.2.1) = true := by decide +kernel
theorem dc_Port_isHeight_19 : decode m_Port_isHeight.2.1 19 = .ok (.ireturn, 1) := by decide +kernel
theorem dc_Port_isHeight_11 : decode m_Port_isHeight.2.1 11 = .ok (.if_icmp .gt 7, 3) := by decide +kernel
theorem dc_Port_isHeight_4 : decode m_Port_isHeight.2.1 4 = .ok (.if_icmp .lt 14, 3) := by decide +kernel
set_option maxRecDepth 20000 in
theorem sg_Port_isHeight_0 {kc ks : Nat} (x0 : Int32) (h : am_H) (Q : Option Value → am_H → Prop) (t : ((x0 < (-500) → Q (some (.int 0)) h) ∧ (¬ x0 < (-500) → ((1500 < x0 → Q (some (.int 0)) h) ∧ (¬ 1500 < x0 → Q (some (.int 1)) h))))) : am_EI m_Port_isHeight kc ks 0 [.int x0] [] h Q := by
  refine am_blk_ok (c := 2) (ini := false) (by decide) rfl (fun q => by cases q) bk_Port_isHeight_0_2 _ 4 _ _ _ bk_Port_isHeight_0_2_ok rfl ?_
  show am_EI m_Port_isHeight kc ks 4 [.int x0] [.int (-500), .int x0] h Q
  refine am_ic_lt (tgt := 18) dc_Port_isHeight_4 (by decide) (fun c1 => ?_) (fun c1 => ?_)
  · replace t := t.1 c1
    refine am_blk_ok (c := 2) (ini := false) (by decide) rfl (fun q => by cases q) bk_Port_isHeight_18_1 _ 19 _ _ _ bk_Port_isHeight_18_1_ok rfl ?_
    show am_EI m_Port_isHeight kc ks 19 [.int x0] [.int 0] h Q
    exact am_zret dc_Port_isHeight_19 rfl (Or.inl rfl) t
  · replace t := t.2 c1
    refine am_blk_ok (c := 2) (ini := false) (by decide) rfl (fun q => by cases q) bk_Port_isHeight_7_2 _ 11 _ _ _ bk_Port_isHeight_7_2_ok rfl ?_
    show am_EI m_Port_isHeight kc ks 11 [.int x0] [.int 1500, .int x0] h Q
    refine am_ic_gt (tgt := 18) dc_Port_isHeight_11 (by decide) (fun c2 => ?_) (fun c2 => ?_)
    · replace t := t.1 c2
      refine am_blk_ok (c := 2) (ini := false) (by decide) rfl (fun q => by cases q) bk_Port_isHeight_18_1 _ 19 _ _ _ bk_Port_isHeight_18_1_ok rfl ?_
      show am_EI m_Port_isHeight kc ks 19 [.int x0] [.int 0] h Q
      exact am_zret dc_Port_isHeight_19 rfl (Or.inl rfl) t
    · replace t := t.2 c2
      refine am_blk_ok (c := 2) (ini := false) (by decide) rfl (fun q => by cases q) bk_Port_isHeight_14_2 _ 19 _ _ _ bk_Port_isHeight_14_2_ok rfl ?_
      show am_EI m_Port_isHeight kc ks 19 [.int x0] [.int 1] h Q
      exact am_zret dc_Port_isHeight_19 rfl (Or.inr rfl) t
set_option maxRecDepth 20000 in
theorem ev_Port_isHeight (x0 : Int32) (h : am_H) (Q : Int32 → am_H → Prop) (t : ((x0 < (-500) → Q 0 h) ∧ (¬ x0 < (-500) → ((1500 < x0 → Q 0 h) ∧ (¬ 1500 < x0 → Q 1 h))))) : am_Ei m_Port_isHeight 0 0 [.int x0] h Q :=
  am_Ev.of (by decide +kernel) (Nat.le_of_ble_eq_true rfl) (by simp only [List.mem_cons, List.not_mem_nil, or_false]; intro v hv; rcases hv with rfl; all_goals first | exact trivial) (sg_Port_isHeight_0 (kc := 0) (ks := 0) x0 h (am_qi Q) t)
def bk_Port_isHigh_0_1 : List am_E := [(0, .iload_n 1, 1, 0, 0)]
theorem bk_Port_isHigh_0_1_ok : bk_Port_isHigh_0_1.all (am_ok 2 false m_Port_isHigh.2.1) = true := by decide +kernel
def bk_Port_isHigh_33_1 : List am_E := [(33, .iconst 0, 1, 0, 0)]
theorem bk_Port_isHigh_33_1_ok : bk_Port_isHigh_33_1.all (am_ok 2 false m_Port_isHigh.2.1) = true := by decide +kernel
def bk_Port_isHigh_4_3 : List am_E := [(4, .iload_n 1, 1, 0, 0), (5, .aload_n 0, 1, 0, 0), (6, .getfield 7, 3, 816, 0)]
theorem bk_Port_isHigh_4_3_ok : bk_Port_isHigh_4_3.all (am_ok 2 false m_Port_isHigh.2.1) = true := by decide +kernel
def bk_Port_isHigh_12_3 : List am_E := [(12, .iload_n 1, 1, 0, 0), (13, .aload_n 0, 1, 0, 0), (14, .getfield 19, 3, 800, 0)]
theorem bk_Port_isHigh_12_3_ok : bk_Port_isHigh_12_3.all (am_ok 2 false m_Port_isHigh.2.1) = true := by decide +kernel
def bk_Port_isHigh_20_4 : List am_E := [(20, .aload_n 0, 1, 0, 0), (21, .getfield 22, 3, 805, 0), (24, .iload_n 1, 1, 0, 0), (25, .baload, 1, 21, 0)]
theorem bk_Port_isHigh_20_4_ok : bk_Port_isHigh_20_4.all (am_ok 2 false m_Port_isHigh.2.1) = true := by decide +kernel
def bk_Port_isHigh_29_2 : List am_E := [(29, .iconst 1, 1, 0, 1), (30, .goto 4, 3, 0, 4)]
theorem bk_Port_isHigh_29_2_ok : bk_Port_isHigh_29_2.all (am_ok 2 false m_Port_isHigh.2.1) = true := by decide +kernel
theorem dc_Port_isHigh_34 : decode m_Port_isHigh.2.1 34 = .ok (.ireturn, 1) := by decide +kernel
theorem dc_Port_isHigh_26 : decode m_Port_isHigh.2.1 26 = .ok (.ifCond .eq 7, 3) := by decide +kernel
theorem dc_Port_isHigh_17 : decode m_Port_isHigh.2.1 17 = .ok (.if_icmp .ge 16, 3) := by decide +kernel
theorem dc_Port_isHigh_9 : decode m_Port_isHigh.2.1 9 = .ok (.if_icmp .ge 24, 3) := by decide +kernel
theorem dc_Port_isHigh_1 : decode m_Port_isHigh.2.1 1 = .ok (.ifCond .lt 32, 3) := by decide +kernel
set_option maxRecDepth 20000 in
theorem sg_Port_isHigh_0 {kc ks : Nat} (a0 : Nat) (x1 : Int32) (h : am_H) (Q : Option Value → am_H → Prop) (t : ((x1 < 0 → Q (some (.int 0)) h) ∧ (¬ x1 < 0 → (am_tg h a0 = (2, 5) ∧ (((am_I h a0 4) ≤ x1 → Q (some (.int 0)) h) ∧ (¬ (am_I h a0 4) ≤ x1 → (((am_I h a0 0) ≤ x1 → Q (some (.int 0)) h) ∧ (¬ (am_I h a0 0) ≤ x1 → (∃ b5, am_P h a0 1 = some b5 ∧ ((am_tg h b5).1 = 21 ∧ (vp_in x1 (am_tg h b5).2 ∧ (((am_I h b5 x1.toNatClampNeg) = 0 → Q (some (.int 0)) h) ∧ (¬ (am_I h b5 x1.toNatClampNeg) = 0 → Q (some (.int 1)) h))))))))))))) : am_EI m_Port_isHigh kc ks 0 [.ref a0, .int x1] [] h Q := by
  refine am_blk_ok (c := 2) (ini := false) (by decide) rfl (fun q => by cases q) bk_Port_isHigh_0_1 _ 1 _ _ _ bk_Port_isHigh_0_1_ok rfl ?_
  show am_EI m_Port_isHigh kc ks 1 [.ref a0, .int x1] [.int x1] h Q
  refine am_if_lt (tgt := 33) dc_Port_isHigh_1 (by decide) (fun c1 => ?_) (fun c1 => ?_)
  · replace t := t.1 c1
    refine am_blk_ok (c := 2) (ini := false) (by decide) rfl (fun q => by cases q) bk_Port_isHigh_33_1 _ 34 _ _ _ bk_Port_isHigh_33_1_ok rfl ?_
    show am_EI m_Port_isHigh kc ks 34 [.ref a0, .int x1] [.int 0] h Q
    exact am_zret dc_Port_isHigh_34 rfl (Or.inl rfl) t
  · replace t := t.2 c1
    refine am_blk_ok (c := 2) (ini := false) (by decide) rfl (fun q => by cases q) bk_Port_isHigh_4_3 _ 9 _ _ _ bk_Port_isHigh_4_3_ok rfl ?_
    show (am_tg h a0 = (2, 5) ∧ am_EI m_Port_isHigh kc ks 9 [.ref a0, .int x1] [.int (am_I h a0 4), .int x1] h Q)
    obtain ⟨o2, t⟩ := t
    refine ⟨o2, ?_⟩
    refine am_ic_ge (tgt := 33) dc_Port_isHigh_9 (by decide) (fun c3 => ?_) (fun c3 => ?_)
    · replace t := t.1 c3
      refine am_blk_ok (c := 2) (ini := false) (by decide) rfl (fun q => by cases q) bk_Port_isHigh_33_1 _ 34 _ _ _ bk_Port_isHigh_33_1_ok rfl ?_
      show am_EI m_Port_isHigh kc ks 34 [.ref a0, .int x1] [.int 0] h Q
      exact am_zret dc_Port_isHigh_34 rfl (Or.inl rfl) t
    · replace t := t.2 c3
      refine am_blk_ok (c := 2) (ini := false) (by decide) rfl (fun q => by cases q) bk_Port_isHigh_12_3 _ 17 _ _ _ bk_Port_isHigh_12_3_ok rfl ?_
      show (am_tg h a0 = (2, 5) ∧ am_EI m_Port_isHigh kc ks 17 [.ref a0, .int x1] [.int (am_I h a0 0), .int x1] h Q)
      refine ⟨o2, ?_⟩
      refine am_ic_ge (tgt := 33) dc_Port_isHigh_17 (by decide) (fun c4 => ?_) (fun c4 => ?_)
      · replace t := t.1 c4
        refine am_blk_ok (c := 2) (ini := false) (by decide) rfl (fun q => by cases q) bk_Port_isHigh_33_1 _ 34 _ _ _ bk_Port_isHigh_33_1_ok rfl ?_
        show am_EI m_Port_isHigh kc ks 34 [.ref a0, .int x1] [.int 0] h Q
        exact am_zret dc_Port_isHigh_34 rfl (Or.inl rfl) t
      · replace t := t.2 c4
        refine am_blk_ok (c := 2) (ini := false) (by decide) rfl (fun q => by cases q) bk_Port_isHigh_20_4 _ 26 _ _ _ bk_Port_isHigh_20_4_ok rfl ?_
        show (am_tg h a0 = (2, 5) ∧ (∃ b5, am_P h a0 1 = some b5 ∧ ((am_tg h b5).1 = 21 ∧ ((21 = 21 ∨ 21 = 22) ∧ (vp_in x1 (am_tg h b5).2 ∧ am_EI m_Port_isHigh kc ks 26 [.ref a0, .int x1] [.int (am_I h b5 x1.toNatClampNeg)] h Q)))))
        obtain ⟨b5, q6, o7, o8, t⟩ := t
        refine ⟨o2, b5, q6, o7, (by decide), o8, ?_⟩
        refine am_if_eq (tgt := 33) dc_Port_isHigh_26 (by decide) (fun c9 => ?_) (fun c9 => ?_)
        · replace t := t.1 c9
          refine am_blk_ok (c := 2) (ini := false) (by decide) rfl (fun q => by cases q) bk_Port_isHigh_33_1 _ 34 _ _ _ bk_Port_isHigh_33_1_ok rfl ?_
          show am_EI m_Port_isHigh kc ks 34 [.ref a0, .int x1] [.int 0] h Q
          exact am_zret dc_Port_isHigh_34 rfl (Or.inl rfl) t
        · replace t := t.2 c9
          refine am_blk_ok (c := 2) (ini := false) (by decide) rfl (fun q => by cases q) bk_Port_isHigh_29_2 _ 34 _ _ _ bk_Port_isHigh_29_2_ok rfl ?_
          show am_EI m_Port_isHigh kc ks 34 [.ref a0, .int x1] [.int 1] h Q
          exact am_zret dc_Port_isHigh_34 rfl (Or.inr rfl) t
set_option maxRecDepth 20000 in
theorem ev_Port_isHigh (a0 : Nat) (x1 : Int32) (h : am_H) (Q : Int32 → am_H → Prop) (t : ((x1 < 0 → Q 0 h) ∧ (¬ x1 < 0 → (am_tg h a0 = (2, 5) ∧ (((am_I h a0 4) ≤ x1 → Q 0 h) ∧ (¬ (am_I h a0 4) ≤ x1 → (((am_I h a0 0) ≤ x1 → Q 0 h) ∧ (¬ (am_I h a0 0) ≤ x1 → (∃ b5, am_P h a0 1 = some b5 ∧ ((am_tg h b5).1 = 21 ∧ (vp_in x1 (am_tg h b5).2 ∧ (((am_I h b5 x1.toNatClampNeg) = 0 → Q 0 h) ∧ (¬ (am_I h b5 x1.toNatClampNeg) = 0 → Q 1 h))))))))))))) : am_Ei m_Port_isHigh 0 0 [.ref a0, .int x1] h Q :=
  am_Ev.of (by decide +kernel) (Nat.le_of_ble_eq_true rfl) (by simp only [List.mem_cons, List.not_mem_nil, or_false]; intro v hv; rcases hv with rfl | rfl; all_goals first | exact trivial) (sg_Port_isHigh_0 (kc := 0) (ks := 0) a0 x1 h (am_qi Q) t)
def bk_Port_isOn_0_1 : List am_E := [(0, .iload_n 0, 1, 0, 0)]
theorem bk_Port_isOn_0_1_ok : bk_Port_isOn_0_1.all (am_ok 2 false m_Port_isOn.2.1) = true := by decide +kernel
def bk_Port_isOn_14_2 : List am_E := [(14, .iload_n 0, 1, 0, 0), (15, .iconst 1, 1, 0, 1)]
theorem bk_Port_isOn_14_2_ok : bk_Port_isOn_14_2.all (am_ok 2 false m_Port_isOn.2.1) = true := by decide +kernel
def bk_Port_isOn_31_1 : List am_E := [(31, .iload_n 1, 1, 0, 0)]
theorem bk_Port_isOn_31_1_ok : bk_Port_isOn_31_1.all (am_ok 2 false m_Port_isOn.2.1) = true := by decide +kernel
def bk_Port_isOn_39_1 : List am_E := [(39, .iconst 0, 1, 0, 0)]
theorem bk_Port_isOn_39_1_ok : bk_Port_isOn_39_1.all (am_ok 2 false m_Port_isOn.2.1) = true := by decide +kernel
def bk_Port_isOn_35_2 : List am_E := [(35, .iconst 1, 1, 0, 1), (36, .goto 4, 3, 0, 4)]
theorem bk_Port_isOn_35_2_ok : bk_Port_isOn_35_2.all (am_ok 2 false m_Port_isOn.2.1) = true := by decide +kernel
def bk_Port_isOn_19_1 : List am_E := [(19, .iload_n 1, 1, 0, 0)]
theorem bk_Port_isOn_19_1_ok : bk_Port_isOn_19_1.all (am_ok 2 false m_Port_isOn.2.1) = true := by decide +kernel
def bk_Port_isOn_27_2 : List am_E := [(27, .iconst 0, 1, 0, 0), (28, .goto 12, 3, 0, 12)]
theorem bk_Port_isOn_27_2_ok : bk_Port_isOn_27_2.all (am_ok 2 false m_Port_isOn.2.1) = true := by decide +kernel
def bk_Port_isOn_23_2 : List am_E := [(23, .iconst 1, 1, 0, 1), (24, .goto 16, 3, 0, 16)]
theorem bk_Port_isOn_23_2_ok : bk_Port_isOn_23_2.all (am_ok 2 false m_Port_isOn.2.1) = true := by decide +kernel
def bk_Port_isOn_4_1 : List am_E := [(4, .iload_n 1, 1, 0, 0)]
theorem bk_Port_isOn_4_1_ok : bk_Port_isOn_4_1.all (am_ok 2 false m_Port_isOn.2.1) = true := by decide +kernel
def bk_Port_isOn_12_1 : List am_E := [(12, .iconst 0, 1, 0, 0)]
theorem bk_Port_isOn_12_1_ok : bk_Port_isOn_12_1.all (am_ok 2 false m_Port_isOn.2.1) = true := by decide +kernel
def bk_Port_isOn_8_2 : List am_E := [(8, .iconst 1, 1, 0, 1), (9, .goto 4, 3, 0, 4)]
theorem bk_Port_isOn_8_2_ok : bk_Port_isOn_8_2.all (am_ok 2 false m_Port_isOn.2.1) = true := by decide +kernel
theorem dc_Port_isOn_40 : decode m_Port_isOn.2.1 40 = .ok (.ireturn, 1) := by decide +kernel
theorem dc_Port_isOn_32 : decode m_Port_isOn.2.1 32 = .ok (.ifCond .gt 7, 3) := by decide +kernel
theorem dc_Port_isOn_20 : decode m_Port_isOn.2.1 20 = .ok (.ifCond .ge 7, 3) := by decide +kernel
theorem dc_Port_isOn_16 : decode m_Port_isOn.2.1 16 = .ok (.if_icmp .ne 15, 3) := by decide +kernel
theorem dc_Port_isOn_13 : decode m_Port_isOn.2.1 13 = .ok (.ireturn, 1) := by decide +kernel
theorem dc_Port_isOn_5 : decode m_Port_isOn.2.1 5 = .ok (.ifCond .lt 7, 3) := by decide +kernel
theorem dc_Port_isOn_1 : decode m_Port_isOn.2.1 1 = .ok (.ifCond .ne 13, 3) := by decide +kernel
set_option maxRecDepth 20000 in
theorem sg_Port_isOn_0 {kc ks : Nat} (x0 x1 : Int32) (h : am_H) (Q : Option Value → am_H → Prop) (t : ((¬ x0 = 0 → ((¬ x0 = 1 → ((0 < x1 → Q (some (.int 0)) h) ∧ (¬ 0 < x1 → Q (some (.int 1)) h))) ∧ (x0 = 1 → ((0 ≤ x1 → Q (some (.int 0)) h) ∧ (¬ 0 ≤ x1 → Q (some (.int 1)) h))))) ∧ (x0 = 0 → ((x1 < 0 → Q (some (.int 0)) h) ∧ (¬ x1 < 0 → Q (some (.int 1)) h))))) : am_EI m_Port_isOn kc ks 0 [.int x0, .int x1] [] h Q := by
  refine am_blk_ok (c := 2) (ini := false) (by decide) rfl (fun q => by cases q) bk_Port_isOn_0_1 _ 1 _ _ _ bk_Port_isOn_0_1_ok rfl ?_
  show am_EI m_Port_isOn kc ks 1 [.int x0, .int x1] [.int x0] h Q
  refine am_if_ne (tgt := 14) dc_Port_isOn_1 (by decide) (fun c1 => ?_) (fun c1 => ?_)
  · replace t := t.1 c1
    refine am_blk_ok (c := 2) (ini := false) (by decide) rfl (fun q => by cases q) bk_Port_isOn_14_2 _ 16 _ _ _ bk_Port_isOn_14_2_ok rfl ?_
    show am_EI m_Port_isOn kc ks 16 [.int x0, .int x1] [.int 1, .int x0] h Q
    refine am_ic_ne (tgt := 31) dc_Port_isOn_16 (by decide) (fun c2 => ?_) (fun c2 => ?_)
    · replace t := t.1 c2
      refine am_blk_ok (c := 2) (ini := false) (by decide) rfl (fun q => by cases q) bk_Port_isOn_31_1 _ 32 _ _ _ bk_Port_isOn_31_1_ok rfl ?_
      show am_EI m_Port_isOn kc ks 32 [.int x0, .int x1] [.int x1] h Q
      refine am_if_gt (tgt := 39) dc_Port_isOn_32 (by decide) (fun c3 => ?_) (fun c3 => ?_)
      · replace t := t.1 c3
        refine am_blk_ok (c := 2) (ini := false) (by decide) rfl (fun q => by cases q) bk_Port_isOn_39_1 _ 40 _ _ _ bk_Port_isOn_39_1_ok rfl ?_
        show am_EI m_Port_isOn kc ks 40 [.int x0, .int x1] [.int 0] h Q
        exact am_zret dc_Port_isOn_40 rfl (Or.inl rfl) t
      · replace t := t.2 c3
        refine am_blk_ok (c := 2) (ini := false) (by decide) rfl (fun q => by cases q) bk_Port_isOn_35_2 _ 40 _ _ _ bk_Port_isOn_35_2_ok rfl ?_
        show am_EI m_Port_isOn kc ks 40 [.int x0, .int x1] [.int 1] h Q
        exact am_zret dc_Port_isOn_40 rfl (Or.inr rfl) t
    · replace t := t.2 c2
      refine am_blk_ok (c := 2) (ini := false) (by decide) rfl (fun q => by cases q) bk_Port_isOn_19_1 _ 20 _ _ _ bk_Port_isOn_19_1_ok rfl ?_
      show am_EI m_Port_isOn kc ks 20 [.int x0, .int x1] [.int x1] h Q
      refine am_if_ge (tgt := 27) dc_Port_isOn_20 (by decide) (fun c4 => ?_) (fun c4 => ?_)
      · replace t := t.1 c4
        refine am_blk_ok (c := 2) (ini := false) (by decide) rfl (fun q => by cases q) bk_Port_isOn_27_2 _ 40 _ _ _ bk_Port_isOn_27_2_ok rfl ?_
        show am_EI m_Port_isOn kc ks 40 [.int x0, .int x1] [.int 0] h Q
        exact am_zret dc_Port_isOn_40 rfl (Or.inl rfl) t
      · replace t := t.2 c4
        refine am_blk_ok (c := 2) (ini := false) (by decide) rfl (fun q => by cases q) bk_Port_isOn_23_2 _ 40 _ _ _ bk_Port_isOn_23_2_ok rfl ?_
        show am_EI m_Port_isOn kc ks 40 [.int x0, .int x1] [.int 1] h Q
        exact am_zret dc_Port_isOn_40 rfl (Or.inr rfl) t
  · replace t := t.2 c1
    refine am_blk_ok (c := 2) (ini := false) (by decide) rfl (fun q => by cases q) bk_Port_isOn_4_1 _ 5 _ _ _ bk_Port_isOn_4_1_ok rfl ?_
    show am_EI m_Port_isOn kc ks 5 [.int x0, .int x1] [.int x1] h Q
    refine am_if_lt (tgt := 12) dc_Port_isOn_5 (by decide) (fun c5 => ?_) (fun c5 => ?_)
    · replace t := t.1 c5
      refine am_blk_ok (c := 2) (ini := false) (by decide) rfl (fun q => by cases q) bk_Port_isOn_12_1 _ 13 _ _ _ bk_Port_isOn_12_1_ok rfl ?_
      show am_EI m_Port_isOn kc ks 13 [.int x0, .int x1] [.int 0] h Q
      exact am_zret dc_Port_isOn_13 rfl (Or.inl rfl) t
    · replace t := t.2 c5
      refine am_blk_ok (c := 2) (ini := false) (by decide) rfl (fun q => by cases q) bk_Port_isOn_8_2 _ 13 _ _ _ bk_Port_isOn_8_2_ok rfl ?_
      show am_EI m_Port_isOn kc ks 13 [.int x0, .int x1] [.int 1] h Q
      exact am_zret dc_Port_isOn_13 rfl (Or.inr rfl) t
set_option maxRecDepth 20000 in
theorem ev_Port_isOn (x0 x1 : Int32) (h : am_H) (Q : Int32 → am_H → Prop) (t : ((¬ x0 = 0 → ((¬ x0 = 1 → ((0 < x1 → Q 0 h) ∧ (¬ 0 < x1 → Q 1 h))) ∧ (x0 = 1 → ((0 ≤ x1 → Q 0 h) ∧ (¬ 0 ≤ x1 → Q 1 h))))) ∧ (x0 = 0 → ((x1 < 0 → Q 0 h) ∧ (¬ x1 < 0 → Q 1 h))))) : am_Ei m_Port_isOn 0 0 [.int x0, .int x1] h Q :=
  am_Ev.of (by decide +kernel) (Nat.le_of_ble_eq_true rfl) (by simp only [List.mem_cons, List.not_mem_nil, or_false]; intro v hv; rcases hv with rfl | rfl; all_goals first | exact trivial) (sg_Port_isOn_0 (kc := 0) (ks := 0) x0 x1 h (am_qi Q) t)
def bk_Port_isWrittenAs_0_3 : List am_E := [(0, .aload_n 0, 1, 0, 0), (1, .getfield 7, 3, 816, 0), (4, .aload_n 1, 1, 0, 0)]
theorem bk_Port_isWrittenAs_0_3_ok : bk_Port_isWrittenAs_0_3.all (am_ok 2 false m_Port_isWrittenAs.2.1) = true := by decide +kernel
def bk_Port_isWrittenAs_13_2 : List am_E := [(13, .iconst 0, 1, 0, 0), (14, .istore_n 2, 1, 0, 0)]
theorem bk_Port_isWrittenAs_13_2_ok : bk_Port_isWrittenAs_13_2.all (am_ok 2 false m_Port_isWrittenAs.2.1) = true := by decide +kernel
def bk_Port_isWrittenAs_11_1 : List am_E := [(11, .iconst 0, 1, 0, 0)]
theorem bk_Port_isWrittenAs_11_1_ok : bk_Port_isWrittenAs_11_1.all (am_ok 2 false m_Port_isWrittenAs.2.1) = true := by decide +kernel
def bk_Port_isWrittenAs_15_3 : List am_E := [(15, .iload_n 2, 1, 0, 0), (16, .aload_n 0, 1, 0, 0), (17, .getfield 7, 3, 816, 0)]
theorem bk_Port_isWrittenAs_15_3_ok : bk_Port_isWrittenAs_15_3.all (am_ok 2 false m_Port_isWrittenAs.2.1) = true := by decide +kernel
def bk_Port_isWrittenAs_88_1 : List am_E := [(88, .iconst 1, 1, 0, 1)]
theorem bk_Port_isWrittenAs_88_1_ok : bk_Port_isWrittenAs_88_1.all (am_ok 2 false m_Port_isWrittenAs.2.1) = true := by decide +kernel
def bk_Port_isWrittenAs_23_2 : List am_E := [(23, .aload_n 0, 1, 0, 0), (24, .iload_n 2, 1, 0, 0)]
theorem bk_Port_isWrittenAs_23_2_ok : bk_Port_isWrittenAs_23_2.all (am_ok 2 false m_Port_isWrittenAs.2.1) = true := by decide +kernel
def bk_Port_isWrittenAs_28_4 : List am_E := [(28, .sipush 1440, 3, 0, 1440), (31, .irem, 1, 0, 0), (32, .aload_n 1, 1, 0, 0), (33, .iload_n 2, 1, 0, 0)]
theorem bk_Port_isWrittenAs_28_4_ok : bk_Port_isWrittenAs_28_4.all (am_ok 2 false m_Port_isWrittenAs.2.1) = true := by decide +kernel
def bk_Port_isWrittenAs_37_2 : List am_E := [(37, .sipush 1440, 3, 0, 1440), (40, .irem, 1, 0, 0)]
theorem bk_Port_isWrittenAs_37_2_ok : bk_Port_isWrittenAs_37_2.all (am_ok 2 false m_Port_isWrittenAs.2.1) = true := by decide +kernel
def bk_Port_isWrittenAs_48_3 : List am_E := [(48, .iconst 0, 1, 0, 0), (49, .istore_n 3, 1, 0, 0), (50, .iload_n 3, 1, 0, 0)]
theorem bk_Port_isWrittenAs_48_3_ok : bk_Port_isWrittenAs_48_3.all (am_ok 2 false m_Port_isWrittenAs.2.1) = true := by decide +kernel
def bk_Port_isWrittenAs_80_1 : List am_E := [(80, .iconst 0, 1, 0, 0)]
theorem bk_Port_isWrittenAs_80_1_ok : bk_Port_isWrittenAs_80_1.all (am_ok 2 false m_Port_isWrittenAs.2.1) = true := by decide +kernel
def bk_Port_isWrittenAs_44_4 : List am_E := [(44, .iconst 1, 1, 0, 1), (45, .goto 4, 3, 0, 4), (49, .istore_n 3, 1, 0, 0), (50, .iload_n 3, 1, 0, 0)]
theorem bk_Port_isWrittenAs_44_4_ok : bk_Port_isWrittenAs_44_4.all (am_ok 2 false m_Port_isWrittenAs.2.1) = true := by decide +kernel
def bk_Port_isWrittenAs_54_2 : List am_E := [(54, .aload_n 0, 1, 0, 0), (55, .iload_n 2, 1, 0, 0)]
theorem bk_Port_isWrittenAs_54_2_ok : bk_Port_isWrittenAs_54_2.all (am_ok 2 false m_Port_isWrittenAs.2.1) = true := by decide +kernel
def bk_Port_isWrittenAs_59_2 : List am_E := [(59, .aload_n 1, 1, 0, 0), (60, .iload_n 2, 1, 0, 0)]
theorem bk_Port_isWrittenAs_59_2_ok : bk_Port_isWrittenAs_59_2.all (am_ok 2 false m_Port_isWrittenAs.2.1) = true := by decide +kernel
def bk_Port_isWrittenAs_67_2 : List am_E := [(67, .aload_n 0, 1, 0, 0), (68, .iload_n 2, 1, 0, 0)]
theorem bk_Port_isWrittenAs_67_2_ok : bk_Port_isWrittenAs_67_2.all (am_ok 2 false m_Port_isWrittenAs.2.1) = true := by decide +kernel
def bk_Port_isWrittenAs_72_2 : List am_E := [(72, .aload_n 1, 1, 0, 0), (73, .iload_n 2, 1, 0, 0)]
theorem bk_Port_isWrittenAs_72_2_ok : bk_Port_isWrittenAs_72_2.all (am_ok 2 false m_Port_isWrittenAs.2.1) = true := by decide +kernel
def bk_Port_isWrittenAs_82_2 : List am_E := [(82, .iinc 2 1, 3, 0, 1), (85, .goto (-70), 3, 0, -70)]
theorem bk_Port_isWrittenAs_82_2_ok : bk_Port_isWrittenAs_82_2.all (am_ok 2 false m_Port_isWrittenAs.2.1) = true := by decide +kernel
theorem dc_Port_isWrittenAs_5 : decode m_Port_isWrittenAs.2.1 5 = .ok (.invokevirtual 44, 3) := by decide +kernel
theorem dc_Port_isWrittenAs_12 : decode m_Port_isWrittenAs.2.1 12 = .ok (.ireturn, 1) := by decide +kernel
theorem dc_Port_isWrittenAs_8 : decode m_Port_isWrittenAs.2.1 8 = .ok (.if_icmp .eq 5, 3) := by decide +kernel
theorem dc_Port_isWrittenAs_89 : decode m_Port_isWrittenAs.2.1 89 = .ok (.ireturn, 1) := by decide +kernel
theorem dc_Port_isWrittenAs_25 : decode m_Port_isWrittenAs.2.1 25 = .ok (.invokevirtual 33, 3) := by decide +kernel
theorem dc_Port_isWrittenAs_34 : decode m_Port_isWrittenAs.2.1 34 = .ok (.invokevirtual 33, 3) := by decide +kernel
theorem dc_Port_isWrittenAs_81 : decode m_Port_isWrittenAs.2.1 81 = .ok (.ireturn, 1) := by decide +kernel
theorem dc_Port_isWrittenAs_51 : decode m_Port_isWrittenAs.2.1 51 = .ok (.ifCond .eq 29, 3) := by decide +kernel
theorem dc_Port_isWrittenAs_56 : decode m_Port_isWrittenAs.2.1 56 = .ok (.invokevirtual 47, 3) := by decide +kernel
theorem dc_Port_isWrittenAs_61 : decode m_Port_isWrittenAs.2.1 61 = .ok (.invokevirtual 47, 3) := by decide +kernel
theorem dc_Port_isWrittenAs_69 : decode m_Port_isWrittenAs.2.1 69 = .ok (.invokevirtual 51, 3) := by decide +kernel
theorem dc_Port_isWrittenAs_74 : decode m_Port_isWrittenAs.2.1 74 = .ok (.invokevirtual 51, 3) := by decide +kernel
theorem dc_Port_isWrittenAs_77 : decode m_Port_isWrittenAs.2.1 77 = .ok (.if_icmp .eq 5, 3) := by decide +kernel
theorem dc_Port_isWrittenAs_64 : decode m_Port_isWrittenAs.2.1 64 = .ok (.if_icmp .ne 16, 3) := by decide +kernel
theorem dc_Port_isWrittenAs_41 : decode m_Port_isWrittenAs.2.1 41 = .ok (.if_icmp .ne 7, 3) := by decide +kernel
theorem dc_Port_isWrittenAs_20 : decode m_Port_isWrittenAs.2.1 20 = .ok (.if_icmp .ge 68, 3) := by decide +kernel
set_option maxRecDepth 20000 in
theorem sg_Port_isWrittenAs_0 {kc ks : Nat} (a0 a1 : Nat) (h : am_H) (Q : Option Value → am_H → Prop) (t : (am_tg h a0 = (2, 5) ∧ (am_tg h a1 = (2, 5) ∧ (am_Ei m_Port_turnCount 0 0 [.ref a1] h (fun r4 h3 => (((am_I h a0 4) = r4 → am_EI m_Port_isWrittenAs kc ks 15 [.ref a0, .ref a1, .int 0, .float 0] [] h3 Q) ∧ (¬ (am_I h a0 4) = r4 → Q (some (.int 0)) h3))))))) : am_EI m_Port_isWrittenAs kc ks 0 [.ref a0, .ref a1, .float 0, .float 0] [] h Q := by
  refine am_blk_ok (c := 2) (ini := false) (by decide) rfl (fun q => by cases q) bk_Port_isWrittenAs_0_3 _ 5 _ _ _ bk_Port_isWrittenAs_0_3_ok rfl ?_
  show (am_tg h a0 = (2, 5) ∧ am_EI m_Port_isWrittenAs kc ks 5 [.ref a0, .ref a1, .float 0, .float 0] [.ref a1, .int (am_I h a0 4)] h Q)
  obtain ⟨o1, t⟩ := t
  refine ⟨o1, ?_⟩
  obtain ⟨o2, t⟩ := t
  refine am_callV (M2 := m_Port_turnCount) (ci := 2) (a := a1) (kc := kc) (ks := ks) (k2c := 0) (k2s := 0) (as := [.int (am_I h a0 4)]) [] dc_Port_isWrittenAs_5 lk_2_44 im_Port_turnCount se_Port_turnCount lm_Port_turnCount np_Port_turnCount ⟨Nat.le_of_ble_eq_true rfl, Nat.le_of_ble_eq_true rfl⟩ (fun _ => Nat.le_of_ble_eq_true rfl) (by decide) rfl o2 (am_Ei.end (am_Ei.mono t (fun r4 h3 t => ?_)))
  refine am_ic_eq (tgt := 13) dc_Port_isWrittenAs_8 (by decide) (fun c5 => ?_) (fun c5 => ?_)
  · replace t := t.1 c5
    refine am_blk_ok (c := 2) (ini := false) (by decide) rfl (fun q => by cases q) bk_Port_isWrittenAs_13_2 _ 15 _ _ _ bk_Port_isWrittenAs_13_2_ok rfl ?_
    show am_EI m_Port_isWrittenAs kc ks 15 [.ref a0, .ref a1, .int 0, .float 0] [] h3 Q
    exact t
  · replace t := t.2 c5
    refine am_blk_ok (c := 2) (ini := false) (by decide) rfl (fun q => by cases q) bk_Port_isWrittenAs_11_1 _ 12 _ _ _ bk_Port_isWrittenAs_11_1_ok rfl ?_
    show am_EI m_Port_isWrittenAs kc ks 12 [.ref a0, .ref a1, .float 0, .float 0] [.int 0] h3 Q
    exact am_zret dc_Port_isWrittenAs_12 rfl (Or.inl rfl) t
set_option maxRecDepth 20000 in
theorem ev_Port_isWrittenAs (a0 a1 : Nat) (h : am_H) (Q : Int32 → am_H → Prop) (t : (am_tg h a0 = (2, 5) ∧ (am_tg h a1 = (2, 5) ∧ (am_Ei m_Port_turnCount 0 0 [.ref a1] h (fun r4 h3 => (((am_I h a0 4) = r4 → am_EI m_Port_isWrittenAs 0 0 15 [.ref a0, .ref a1, .int 0, .float 0] [] h3 (am_qi Q)) ∧ (¬ (am_I h a0 4) = r4 → Q 0 h3))))))) : am_Ei m_Port_isWrittenAs 0 0 [.ref a0, .ref a1] h Q :=
  am_Ev.of (by decide +kernel) (Nat.le_of_ble_eq_true rfl) (by simp only [List.mem_cons, List.not_mem_nil, or_false]; intro v hv; rcases hv with rfl | rfl; all_goals first | exact trivial) (sg_Port_isWrittenAs_0 (kc := 0) (ks := 0) a0 a1 h (am_qi Q) t)
set_option maxRecDepth 20000 in
theorem sg_Port_isWrittenAs_15 {kc ks : Nat} (a0 a1 : Nat) (x2 : Int32) (h : am_H) (Q : Option Value → am_H → Prop) (t : (am_tg h a0 = (2, 5) ∧ (((am_I h a0 4) ≤ x2 → Q (some (.int 1)) h) ∧ (¬ (am_I h a0 4) ≤ x2 → (am_Ei m_Port_minuteOf 0 0 [.ref a0, .int x2] h (fun r4 h3 => (am_tg h3 a1 = (2, 5) ∧ (am_Ei m_Port_minuteOf 0 0 [.ref a1, .int x2] h3 (fun r7 h6 => ((¬ (r4 % 1440) = (r7 % 1440) → Q (some (.int 0)) h6) ∧ ((r4 % 1440) = (r7 % 1440) → (am_tg h6 a0 = (2, 5) ∧ (am_Ei m_Port_isHigh 0 0 [.ref a0, .int x2] h6 (fun r13 h12 => (am_tg h12 a1 = (2, 5) ∧ (am_Ei m_Port_isHigh 0 0 [.ref a1, .int x2] h12 (fun r16 h15 => ((¬ r13 = r16 → Q (some (.int 0)) h15) ∧ (r13 = r16 → (am_tg h15 a0 = (2, 5) ∧ (am_Ei m_Port_heightOf 0 0 [.ref a0, .int x2] h15 (fun r20 h19 => (am_tg h19 a1 = (2, 5) ∧ (am_Ei m_Port_heightOf 0 0 [.ref a1, .int x2] h19 (fun r23 h22 => ((r20 = r23 → am_EI m_Port_isWrittenAs kc ks 15 [.ref a0, .ref a1, .int (x2 + 1), .float 0] [] h22 Q) ∧ (¬ r20 = r23 → Q (some (.int 0)) h22))))))))))))))))))))))))))) : am_EI m_Port_isWrittenAs kc ks 15 [.ref a0, .ref a1, .int x2, .float 0] [] h Q := by
  refine am_blk_ok (c := 2) (ini := false) (by decide) rfl (fun q => by cases q) bk_Port_isWrittenAs_15_3 _ 20 _ _ _ bk_Port_isWrittenAs_15_3_ok rfl ?_
  show (am_tg h a0 = (2, 5) ∧ am_EI m_Port_isWrittenAs kc ks 20 [.ref a0, .ref a1, .int x2, .float 0] [.int (am_I h a0 4), .int x2] h Q)
  obtain ⟨o1, t⟩ := t
  refine ⟨o1, ?_⟩
  refine am_ic_ge (tgt := 88) dc_Port_isWrittenAs_20 (by decide) (fun c2 => ?_) (fun c2 => ?_)
  · replace t := t.1 c2
    refine am_blk_ok (c := 2) (ini := false) (by decide) rfl (fun q => by cases q) bk_Port_isWrittenAs_88_1 _ 89 _ _ _ bk_Port_isWrittenAs_88_1_ok rfl ?_
    show am_EI m_Port_isWrittenAs kc ks 89 [.ref a0, .ref a1, .int x2, .float 0] [.int 1] h Q
    exact am_zret dc_Port_isWrittenAs_89 rfl (Or.inr rfl) t
  · replace t := t.2 c2
    refine am_blk_ok (c := 2) (ini := false) (by decide) rfl (fun q => by cases q) bk_Port_isWrittenAs_23_2 _ 25 _ _ _ bk_Port_isWrittenAs_23_2_ok rfl ?_
    show am_EI m_Port_isWrittenAs kc ks 25 [.ref a0, .ref a1, .int x2, .float 0] [.int x2, .ref a0] h Q
    refine am_callV (M2 := m_Port_minuteOf) (ci := 2) (a := a0) (kc := kc) (ks := ks) (k2c := 0) (k2s := 0) (as := []) [.int x2] dc_Port_isWrittenAs_25 lk_2_33 im_Port_minuteOf se_Port_minuteOf lm_Port_minuteOf np_Port_minuteOf ⟨Nat.le_of_ble_eq_true rfl, Nat.le_of_ble_eq_true rfl⟩ (fun _ => Nat.le_of_ble_eq_true rfl) (by decide) rfl o1 (am_Ei.end (am_Ei.mono t (fun r4 h3 t => ?_)))
    refine am_blk_ok (c := 2) (ini := false) (by decide) rfl (fun q => by cases q) bk_Port_isWrittenAs_28_4 _ 34 _ _ _ bk_Port_isWrittenAs_28_4_ok rfl ?_
    show ((¬ 1440 = 0) ∧ am_EI m_Port_isWrittenAs kc ks 34 [.ref a0, .ref a1, .int x2, .float 0] [.int x2, .ref a1, .int (r4 % 1440)] h3 Q)
    refine ⟨(by decide), ?_⟩
    obtain ⟨o5, t⟩ := t
    refine am_callV (M2 := m_Port_minuteOf) (ci := 2) (a := a1) (kc := kc) (ks := ks) (k2c := 0) (k2s := 0) (as := [.int (r4 % 1440)]) [.int x2] dc_Port_isWrittenAs_34 lk_2_33 im_Port_minuteOf se_Port_minuteOf lm_Port_minuteOf np_Port_minuteOf ⟨Nat.le_of_ble_eq_true rfl, Nat.le_of_ble_eq_true rfl⟩ (fun _ => Nat.le_of_ble_eq_true rfl) (by decide) rfl o5 (am_Ei.end (am_Ei.mono t (fun r7 h6 t => ?_)))
    refine am_blk_ok (c := 2) (ini := false) (by decide) rfl (fun q => by cases q) bk_Port_isWrittenAs_37_2 _ 41 _ _ _ bk_Port_isWrittenAs_37_2_ok rfl ?_
    show ((¬ 1440 = 0) ∧ am_EI m_Port_isWrittenAs kc ks 41 [.ref a0, .ref a1, .int x2, .float 0] [.int (r7 % 1440), .int (r4 % 1440)] h6 Q)
    refine ⟨(by decide), ?_⟩
    refine am_ic_ne (tgt := 48) dc_Port_isWrittenAs_41 (by decide) (fun c8 => ?_) (fun c8 => ?_)
    · replace t := t.1 c8
      refine am_blk_ok (c := 2) (ini := false) (by decide) rfl (fun q => by cases q) bk_Port_isWrittenAs_48_3 _ 51 _ _ _ bk_Port_isWrittenAs_48_3_ok rfl ?_
      show am_EI m_Port_isWrittenAs kc ks 51 [.ref a0, .ref a1, .int x2, .int 0] [.int 0] h6 Q
      refine am_if_eq (tgt := 80) dc_Port_isWrittenAs_51 (by decide) (fun _ => ?_) (fun q => absurd q (by decide))
      refine am_blk_ok (c := 2) (ini := false) (by decide) rfl (fun q => by cases q) bk_Port_isWrittenAs_80_1 _ 81 _ _ _ bk_Port_isWrittenAs_80_1_ok rfl ?_
      show am_EI m_Port_isWrittenAs kc ks 81 [.ref a0, .ref a1, .int x2, .int 0] [.int 0] h6 Q
      exact am_zret dc_Port_isWrittenAs_81 rfl (Or.inl rfl) t
    · replace t := t.2 c8
      refine am_blk_ok (c := 2) (ini := false) (by decide) rfl (fun q => by cases q) bk_Port_isWrittenAs_44_4 _ 51 _ _ _ bk_Port_isWrittenAs_44_4_ok rfl ?_
      show am_EI m_Port_isWrittenAs kc ks 51 [.ref a0, .ref a1, .int x2, .int 1] [.int 1] h6 Q
      refine am_if_eq (tgt := 80) dc_Port_isWrittenAs_51 (by decide) (fun q => absurd q (by decide)) (fun _ => ?_)
      refine am_blk_ok (c := 2) (ini := false) (by decide) rfl (fun q => by cases q) bk_Port_isWrittenAs_54_2 _ 56 _ _ _ bk_Port_isWrittenAs_54_2_ok rfl ?_
      show am_EI m_Port_isWrittenAs kc ks 56 [.ref a0, .ref a1, .int x2, .int 1] [.int x2, .ref a0] h6 Q
      obtain ⟨o11, t⟩ := t
      refine am_callV (M2 := m_Port_isHigh) (ci := 2) (a := a0) (kc := kc) (ks := ks) (k2c := 0) (k2s := 0) (as := []) [.int x2] dc_Port_isWrittenAs_56 lk_2_47 im_Port_isHigh se_Port_isHigh lm_Port_isHigh np_Port_isHigh ⟨Nat.le_of_ble_eq_true rfl, Nat.le_of_ble_eq_true rfl⟩ (fun _ => Nat.le_of_ble_eq_true rfl) (by decide) rfl o11 (am_Ei.end (am_Ei.mono t (fun r13 h12 t => ?_)))
      refine am_blk_ok (c := 2) (ini := false) (by decide) rfl (fun q => by cases q) bk_Port_isWrittenAs_59_2 _ 61 _ _ _ bk_Port_isWrittenAs_59_2_ok rfl ?_
      show am_EI m_Port_isWrittenAs kc ks 61 [.ref a0, .ref a1, .int x2, .int 1] [.int x2, .ref a1, .int r13] h12 Q
      obtain ⟨o14, t⟩ := t
      refine am_callV (M2 := m_Port_isHigh) (ci := 2) (a := a1) (kc := kc) (ks := ks) (k2c := 0) (k2s := 0) (as := [.int r13]) [.int x2] dc_Port_isWrittenAs_61 lk_2_47 im_Port_isHigh se_Port_isHigh lm_Port_isHigh np_Port_isHigh ⟨Nat.le_of_ble_eq_true rfl, Nat.le_of_ble_eq_true rfl⟩ (fun _ => Nat.le_of_ble_eq_true rfl) (by decide) rfl o14 (am_Ei.end (am_Ei.mono t (fun r16 h15 t => ?_)))
      refine am_ic_ne (tgt := 80) dc_Port_isWrittenAs_64 (by decide) (fun c17 => ?_) (fun c17 => ?_)
      · replace t := t.1 c17
        refine am_blk_ok (c := 2) (ini := false) (by decide) rfl (fun q => by cases q) bk_Port_isWrittenAs_80_1 _ 81 _ _ _ bk_Port_isWrittenAs_80_1_ok rfl ?_
        show am_EI m_Port_isWrittenAs kc ks 81 [.ref a0, .ref a1, .int x2, .int 1] [.int 0] h15 Q
        exact am_zret dc_Port_isWrittenAs_81 rfl (Or.inl rfl) t
      · replace t := t.2 c17
        refine am_blk_ok (c := 2) (ini := false) (by decide) rfl (fun q => by cases q) bk_Port_isWrittenAs_67_2 _ 69 _ _ _ bk_Port_isWrittenAs_67_2_ok rfl ?_
        show am_EI m_Port_isWrittenAs kc ks 69 [.ref a0, .ref a1, .int x2, .int 1] [.int x2, .ref a0] h15 Q
        obtain ⟨o18, t⟩ := t
        refine am_callV (M2 := m_Port_heightOf) (ci := 2) (a := a0) (kc := kc) (ks := ks) (k2c := 0) (k2s := 0) (as := []) [.int x2] dc_Port_isWrittenAs_69 lk_2_51 im_Port_heightOf se_Port_heightOf lm_Port_heightOf np_Port_heightOf ⟨Nat.le_of_ble_eq_true rfl, Nat.le_of_ble_eq_true rfl⟩ (fun _ => Nat.le_of_ble_eq_true rfl) (by decide) rfl o18 (am_Ei.end (am_Ei.mono t (fun r20 h19 t => ?_)))
        refine am_blk_ok (c := 2) (ini := false) (by decide) rfl (fun q => by cases q) bk_Port_isWrittenAs_72_2 _ 74 _ _ _ bk_Port_isWrittenAs_72_2_ok rfl ?_
        show am_EI m_Port_isWrittenAs kc ks 74 [.ref a0, .ref a1, .int x2, .int 1] [.int x2, .ref a1, .int r20] h19 Q
        obtain ⟨o21, t⟩ := t
        refine am_callV (M2 := m_Port_heightOf) (ci := 2) (a := a1) (kc := kc) (ks := ks) (k2c := 0) (k2s := 0) (as := [.int r20]) [.int x2] dc_Port_isWrittenAs_74 lk_2_51 im_Port_heightOf se_Port_heightOf lm_Port_heightOf np_Port_heightOf ⟨Nat.le_of_ble_eq_true rfl, Nat.le_of_ble_eq_true rfl⟩ (fun _ => Nat.le_of_ble_eq_true rfl) (by decide) rfl o21 (am_Ei.end (am_Ei.mono t (fun r23 h22 t => ?_)))
        refine am_ic_eq (tgt := 82) dc_Port_isWrittenAs_77 (by decide) (fun c24 => ?_) (fun c24 => ?_)
        · replace t := t.1 c24
          refine am_blk_ok (c := 2) (ini := false) (by decide) rfl (fun q => by cases q) bk_Port_isWrittenAs_82_2 _ 15 _ _ _ bk_Port_isWrittenAs_82_2_ok rfl ?_
          show am_EI m_Port_isWrittenAs kc ks 15 [.ref a0, .ref a1, .int (x2 + 1), .int 1] [] h22 Q
          refine am_EI.fg 3 ?_
          show am_EI m_Port_isWrittenAs kc ks 15 [.ref a0, .ref a1, .int (x2 + 1), .float 0] [] h22 Q
          exact t
        · replace t := t.2 c24
          refine am_blk_ok (c := 2) (ini := false) (by decide) rfl (fun q => by cases q) bk_Port_isWrittenAs_80_1 _ 81 _ _ _ bk_Port_isWrittenAs_80_1_ok rfl ?_
          show am_EI m_Port_isWrittenAs kc ks 81 [.ref a0, .ref a1, .int x2, .int 1] [.int 0] h22 Q
          exact am_zret dc_Port_isWrittenAs_81 rfl (Or.inl rfl) t
def bk_Port_lastMinute_0_5 : List am_E := [(0, .aload_n 0, 1, 0, 0), (1, .aload_n 0, 1, 0, 0), (2, .getfield 7, 3, 816, 0), (5, .iconst 1, 1, 0, 1), (6, .isub, 1, 0, 0)]
theorem bk_Port_lastMinute_0_5_ok : bk_Port_lastMinute_0_5.all (am_ok 2 false m_Port_lastMinute.2.1) = true := by decide +kernel
theorem dc_Port_lastMinute_7 : decode m_Port_lastMinute.2.1 7 = .ok (.invokevirtual 33, 3) := by decide +kernel
theorem dc_Port_lastMinute_10 : decode m_Port_lastMinute.2.1 10 = .ok (.ireturn, 1) := by decide +kernel
set_option maxRecDepth 20000 in
theorem sg_Port_lastMinute_0 {kc ks : Nat} (a0 : Nat) (h : am_H) (Q : Option Value → am_H → Prop) (t : (am_tg h a0 = (2, 5) ∧ (am_Ei m_Port_minuteOf 0 0 [.ref a0, .int ((am_I h a0 4) - 1)] h (fun r3 h2 => Q (some (.int r3)) h2)))) : am_EI m_Port_lastMinute kc ks 0 [.ref a0] [] h Q := by
  refine am_blk_ok (c := 2) (ini := false) (by decide) rfl (fun q => by cases q) bk_Port_lastMinute_0_5 _ 7 _ _ _ bk_Port_lastMinute_0_5_ok rfl ?_
  show (am_tg h a0 = (2, 5) ∧ am_EI m_Port_lastMinute kc ks 7 [.ref a0] [.int ((am_I h a0 4) - 1), .ref a0] h Q)
  obtain ⟨o1, t⟩ := t
  refine ⟨o1, ?_⟩
  refine am_callV (M2 := m_Port_minuteOf) (ci := 2) (a := a0) (kc := kc) (ks := ks) (k2c := 0) (k2s := 0) (as := []) [.int ((am_I h a0 4) - 1)] dc_Port_lastMinute_7 lk_2_33 im_Port_minuteOf se_Port_minuteOf lm_Port_minuteOf np_Port_minuteOf ⟨Nat.le_of_ble_eq_true rfl, Nat.le_of_ble_eq_true rfl⟩ (fun _ => Nat.le_of_ble_eq_true rfl) (by decide) rfl o1 (am_Ei.end (am_Ei.mono t (fun r3 h2 t => ?_)))
  exact am_iret dc_Port_lastMinute_10 rfl t
set_option maxRecDepth 20000 in
theorem ev_Port_lastMinute (a0 : Nat) (h : am_H) (Q : Int32 → am_H → Prop) (t : (am_tg h a0 = (2, 5) ∧ (am_Ei m_Port_minuteOf 0 0 [.ref a0, .int ((am_I h a0 4) - 1)] h (fun r3 h2 => Q r3 h2)))) : am_Ei m_Port_lastMinute 0 0 [.ref a0] h Q :=
  am_Ev.of (by decide +kernel) (Nat.le_of_ble_eq_true rfl) (by simp only [List.mem_cons, List.not_mem_nil, or_false]; intro v hv; rcases hv with rfl; all_goals first | exact trivial) (sg_Port_lastMinute_0 (kc := 0) (ks := 0) a0 h (am_qi Q) t)
def bk_Port_minuteOf_0_1 : List am_E := [(0, .iload_n 1, 1, 0, 0)]
theorem bk_Port_minuteOf_0_1_ok : bk_Port_minuteOf_0_1.all (am_ok 2 false m_Port_minuteOf.2.1) = true := by decide +kernel
def bk_Port_minuteOf_29_1 : List am_E := [(29, .iconst 0, 1, 0, 0)]
theorem bk_Port_minuteOf_29_1_ok : bk_Port_minuteOf_29_1.all (am_ok 2 false m_Port_minuteOf.2.1) = true := by decide +kernel
def bk_Port_minuteOf_4_3 : List am_E := [(4, .iload_n 1, 1, 0, 0), (5, .aload_n 0, 1, 0, 0), (6, .getfield 7, 3, 816, 0)]
theorem bk_Port_minuteOf_4_3_ok : bk_Port_minuteOf_4_3.all (am_ok 2 false m_Port_minuteOf.2.1) = true := by decide +kernel
def bk_Port_minuteOf_12_3 : List am_E := [(12, .iload_n 1, 1, 0, 0), (13, .aload_n 0, 1, 0, 0), (14, .getfield 19, 3, 800, 0)]
theorem bk_Port_minuteOf_12_3_ok : bk_Port_minuteOf_12_3.all (am_ok 2 false m_Port_minuteOf.2.1) = true := by decide +kernel
def bk_Port_minuteOf_20_5 : List am_E := [(20, .aload_n 0, 1, 0, 0), (21, .getfield 26, 3, 809, 0), (24, .iload_n 1, 1, 0, 0), (25, .iaload, 1, 0, 0), (26, .goto 4, 3, 0, 4)]
theorem bk_Port_minuteOf_20_5_ok : bk_Port_minuteOf_20_5.all (am_ok 2 false m_Port_minuteOf.2.1) = true := by decide +kernel
theorem dc_Port_minuteOf_30 : decode m_Port_minuteOf.2.1 30 = .ok (.ireturn, 1) := by decide +kernel
theorem dc_Port_minuteOf_17 : decode m_Port_minuteOf.2.1 17 = .ok (.if_icmp .ge 12, 3) := by decide +kernel
theorem dc_Port_minuteOf_9 : decode m_Port_minuteOf.2.1 9 = .ok (.if_icmp .ge 20, 3) := by decide +kernel
theorem dc_Port_minuteOf_1 : decode m_Port_minuteOf.2.1 1 = .ok (.ifCond .lt 28, 3) := by decide +kernel
set_option maxRecDepth 20000 in
theorem sg_Port_minuteOf_0 {kc ks : Nat} (a0 : Nat) (x1 : Int32) (h : am_H) (Q : Option Value → am_H → Prop) (t : ((x1 < 0 → Q (some (.int 0)) h) ∧ (¬ x1 < 0 → (am_tg h a0 = (2, 5) ∧ (((am_I h a0 4) ≤ x1 → Q (some (.int 0)) h) ∧ (¬ (am_I h a0 4) ≤ x1 → (((am_I h a0 0) ≤ x1 → Q (some (.int 0)) h) ∧ (¬ (am_I h a0 0) ≤ x1 → (∃ b5, am_P h a0 2 = some b5 ∧ ((am_tg h b5).1 = 20 ∧ (vp_in x1 (am_tg h b5).2 ∧ Q (some (.int (am_I h b5 x1.toNatClampNeg))) h))))))))))) : am_EI m_Port_minuteOf kc ks 0 [.ref a0, .int x1] [] h Q := by
  refine am_blk_ok (c := 2) (ini := false) (by decide) rfl (fun q => by cases q) bk_Port_minuteOf_0_1 _ 1 _ _ _ bk_Port_minuteOf_0_1_ok rfl ?_
  show am_EI m_Port_minuteOf kc ks 1 [.ref a0, .int x1] [.int x1] h Q
  refine am_if_lt (tgt := 29) dc_Port_minuteOf_1 (by decide) (fun c1 => ?_) (fun c1 => ?_)
  · replace t := t.1 c1
    refine am_blk_ok (c := 2) (ini := false) (by decide) rfl (fun q => by cases q) bk_Port_minuteOf_29_1 _ 30 _ _ _ bk_Port_minuteOf_29_1_ok rfl ?_
    show am_EI m_Port_minuteOf kc ks 30 [.ref a0, .int x1] [.int 0] h Q
    exact am_iret dc_Port_minuteOf_30 rfl t
  · replace t := t.2 c1
    refine am_blk_ok (c := 2) (ini := false) (by decide) rfl (fun q => by cases q) bk_Port_minuteOf_4_3 _ 9 _ _ _ bk_Port_minuteOf_4_3_ok rfl ?_
    show (am_tg h a0 = (2, 5) ∧ am_EI m_Port_minuteOf kc ks 9 [.ref a0, .int x1] [.int (am_I h a0 4), .int x1] h Q)
    obtain ⟨o2, t⟩ := t
    refine ⟨o2, ?_⟩
    refine am_ic_ge (tgt := 29) dc_Port_minuteOf_9 (by decide) (fun c3 => ?_) (fun c3 => ?_)
    · replace t := t.1 c3
      refine am_blk_ok (c := 2) (ini := false) (by decide) rfl (fun q => by cases q) bk_Port_minuteOf_29_1 _ 30 _ _ _ bk_Port_minuteOf_29_1_ok rfl ?_
      show am_EI m_Port_minuteOf kc ks 30 [.ref a0, .int x1] [.int 0] h Q
      exact am_iret dc_Port_minuteOf_30 rfl t
    · replace t := t.2 c3
      refine am_blk_ok (c := 2) (ini := false) (by decide) rfl (fun q => by cases q) bk_Port_minuteOf_12_3 _ 17 _ _ _ bk_Port_minuteOf_12_3_ok rfl ?_
      show (am_tg h a0 = (2, 5) ∧ am_EI m_Port_minuteOf kc ks 17 [.ref a0, .int x1] [.int (am_I h a0 0), .int x1] h Q)
      refine ⟨o2, ?_⟩
      refine am_ic_ge (tgt := 29) dc_Port_minuteOf_17 (by decide) (fun c4 => ?_) (fun c4 => ?_)
      · replace t := t.1 c4
        refine am_blk_ok (c := 2) (ini := false) (by decide) rfl (fun q => by cases q) bk_Port_minuteOf_29_1 _ 30 _ _ _ bk_Port_minuteOf_29_1_ok rfl ?_
        show am_EI m_Port_minuteOf kc ks 30 [.ref a0, .int x1] [.int 0] h Q
        exact am_iret dc_Port_minuteOf_30 rfl t
      · replace t := t.2 c4
        refine am_blk_ok (c := 2) (ini := false) (by decide) rfl (fun q => by cases q) bk_Port_minuteOf_20_5 _ 30 _ _ _ bk_Port_minuteOf_20_5_ok rfl ?_
        show (am_tg h a0 = (2, 5) ∧ (∃ b5, am_P h a0 2 = some b5 ∧ ((am_tg h b5).1 = 20 ∧ (vp_in x1 (am_tg h b5).2 ∧ am_EI m_Port_minuteOf kc ks 30 [.ref a0, .int x1] [.int (am_I h b5 x1.toNatClampNeg)] h Q))))
        obtain ⟨b5, q6, o7, o8, t⟩ := t
        refine ⟨o2, b5, q6, o7, o8, ?_⟩
        exact am_iret dc_Port_minuteOf_30 rfl t
set_option maxRecDepth 20000 in
theorem ev_Port_minuteOf (a0 : Nat) (x1 : Int32) (h : am_H) (Q : Int32 → am_H → Prop) (t : ((x1 < 0 → Q 0 h) ∧ (¬ x1 < 0 → (am_tg h a0 = (2, 5) ∧ (((am_I h a0 4) ≤ x1 → Q 0 h) ∧ (¬ (am_I h a0 4) ≤ x1 → (((am_I h a0 0) ≤ x1 → Q 0 h) ∧ (¬ (am_I h a0 0) ≤ x1 → (∃ b5, am_P h a0 2 = some b5 ∧ ((am_tg h b5).1 = 20 ∧ (vp_in x1 (am_tg h b5).2 ∧ Q (am_I h b5 x1.toNatClampNeg) h))))))))))) : am_Ei m_Port_minuteOf 0 0 [.ref a0, .int x1] h Q :=
  am_Ev.of (by decide +kernel) (Nat.le_of_ble_eq_true rfl) (by simp only [List.mem_cons, List.not_mem_nil, or_false]; intro v hv; rcases hv with rfl | rfl; all_goals first | exact trivial) (sg_Port_minuteOf_0 (kc := 0) (ks := 0) a0 x1 h (am_qi Q) t)
def bk_Port_minuteOfNext_0_12 : List am_E := [(0, .iload_n 1, 1, 0, 0), (1, .bipush 100, 2, 0, 100), (3, .idiv, 1, 0, 0), (4, .bipush 60, 2, 0, 60), (6, .imul, 1, 0, 0), (7, .iload_n 1, 1, 0, 0), (8, .bipush 100, 2, 0, 100), (10, .irem, 1, 0, 0), (11, .iadd, 1, 0, 0), (12, .istore_n 2, 1, 0, 0), (13, .aload_n 0, 1, 0, 0), (14, .getfield 7, 3, 816, 0)]
theorem bk_Port_minuteOfNext_0_12_ok : bk_Port_minuteOfNext_0_12.all (am_ok 2 false m_Port_minuteOfNext.2.1) = true := by decide +kernel
def bk_Port_minuteOfNext_22_1 : List am_E := [(22, .aload_n 0, 1, 0, 0)]
theorem bk_Port_minuteOfNext_22_1_ok : bk_Port_minuteOfNext_22_1.all (am_ok 2 false m_Port_minuteOfNext.2.1) = true := by decide +kernel
def bk_Port_minuteOfNext_26_8 : List am_E := [(26, .iconst 1, 1, 0, 1), (27, .iadd, 1, 0, 0), (28, .istore_n 3, 1, 0, 0), (29, .iload_n 3, 1, 0, 0), (30, .iload_n 2, 1, 0, 0), (31, .iload_n 3, 1, 0, 0), (32, .isub, 1, 0, 0), (33, .sipush 1440, 3, 0, 1440)]
theorem bk_Port_minuteOfNext_26_8_ok : bk_Port_minuteOfNext_26_8.all (am_ok 2 false m_Port_minuteOfNext.2.1) = true := by decide +kernel
def bk_Port_minuteOfNext_39_1 : List am_E := [(39, .iadd, 1, 0, 0)]
theorem bk_Port_minuteOfNext_39_1_ok : bk_Port_minuteOfNext_39_1.all (am_ok 2 false m_Port_minuteOfNext.2.1) = true := by decide +kernel
def bk_Port_minuteOfNext_20_1 : List am_E := [(20, .iload_n 2, 1, 0, 0)]
theorem bk_Port_minuteOfNext_20_1_ok : bk_Port_minuteOfNext_20_1.all (am_ok 2 false m_Port_minuteOfNext.2.1) = true := by decide +kernel
theorem dc_Port_minuteOfNext_23 : decode m_Port_minuteOfNext.2.1 23 = .ok (.invokevirtual 41, 3) := by decide +kernel
theorem dc_Port_minuteOfNext_36 : decode m_Port_minuteOfNext.2.1 36 = .ok (.invokestatic 58, 3) := by decide +kernel
theorem dc_Port_minuteOfNext_40 : decode m_Port_minuteOfNext.2.1 40 = .ok (.ireturn, 1) := by decide +kernel
theorem dc_Port_minuteOfNext_21 : decode m_Port_minuteOfNext.2.1 21 = .ok (.ireturn, 1) := by decide +kernel
theorem dc_Port_minuteOfNext_17 : decode m_Port_minuteOfNext.2.1 17 = .ok (.ifCond .ne 5, 3) := by decide +kernel
set_option maxRecDepth 20000 in
theorem sg_Port_minuteOfNext_0 {kc ks : Nat} (a0 : Nat) (x1 : Int32) (h : am_H) (Q : Option Value → am_H → Prop) (t : (am_tg h a0 = (2, 5) ∧ ((¬ (am_I h a0 4) = 0 → (am_Ei m_Port_lastMinute 0 0 [.ref a0] h (fun r4 h3 => (am_Ei m_Math_floorMod 0 0 [.int ((((x1 / 100) * 60) + (x1 % 100)) - (r4 + 1)), .int 1440] h3 (fun r6 h5 => Q (some (.int ((r4 + 1) + r6))) h5))))) ∧ ((am_I h a0 4) = 0 → Q (some (.int (((x1 / 100) * 60) + (x1 % 100)))) h)))) : am_EI m_Port_minuteOfNext kc ks 0 [.ref a0, .int x1, .float 0, .float 0] [] h Q := by
  refine am_blk_ok (c := 2) (ini := false) (by decide) rfl (fun q => by cases q) bk_Port_minuteOfNext_0_12 _ 17 _ _ _ bk_Port_minuteOfNext_0_12_ok rfl ?_
  show ((¬ 100 = 0) ∧ ((¬ 100 = 0) ∧ (am_tg h a0 = (2, 5) ∧ am_EI m_Port_minuteOfNext kc ks 17 [.ref a0, .int x1, .int (((x1 / 100) * 60) + (x1 % 100)), .float 0] [.int (am_I h a0 4)] h Q)))
  obtain ⟨o1, t⟩ := t
  refine ⟨(by decide), (by decide), o1, ?_⟩
  refine am_if_ne (tgt := 22) dc_Port_minuteOfNext_17 (by decide) (fun c2 => ?_) (fun c2 => ?_)
  · replace t := t.1 c2
    refine am_blk_ok (c := 2) (ini := false) (by decide) rfl (fun q => by cases q) bk_Port_minuteOfNext_22_1 _ 23 _ _ _ bk_Port_minuteOfNext_22_1_ok rfl ?_
    show am_EI m_Port_minuteOfNext kc ks 23 [.ref a0, .int x1, .int (((x1 / 100) * 60) + (x1 % 100)), .float 0] [.ref a0] h Q
    refine am_callV (M2 := m_Port_lastMinute) (ci := 2) (a := a0) (kc := kc) (ks := ks) (k2c := 0) (k2s := 0) (as := []) [] dc_Port_minuteOfNext_23 lk_2_41 im_Port_lastMinute se_Port_lastMinute lm_Port_lastMinute np_Port_lastMinute ⟨Nat.le_of_ble_eq_true rfl, Nat.le_of_ble_eq_true rfl⟩ (fun _ => Nat.le_of_ble_eq_true rfl) (by decide) rfl o1 (am_Ei.end (am_Ei.mono t (fun r4 h3 t => ?_)))
    refine am_blk_ok (c := 2) (ini := false) (by decide) rfl (fun q => by cases q) bk_Port_minuteOfNext_26_8 _ 36 _ _ _ bk_Port_minuteOfNext_26_8_ok rfl ?_
    show am_EI m_Port_minuteOfNext kc ks 36 [.ref a0, .int x1, .int (((x1 / 100) * 60) + (x1 % 100)), .int (r4 + 1)] [.int 1440, .int ((((x1 / 100) * 60) + (x1 % 100)) - (r4 + 1)), .int (r4 + 1)] h3 Q
    refine am_callS (M2 := m_Math_floorMod) (kc := kc) (ks := ks) (k2c := 0) (k2s := 0) (as := [.int (r4 + 1)]) [.int ((((x1 / 100) * 60) + (x1 % 100)) - (r4 + 1)), .int 1440] dc_Port_minuteOfNext_36 lk_2_58 st_Math_floorMod lm_Math_floorMod np_Math_floorMod ⟨Nat.le_of_ble_eq_true rfl, Nat.le_of_ble_eq_true rfl⟩ (fun _ => Nat.le_of_ble_eq_true rfl) (am_Ei.end (am_Ei.mono t (fun r6 h5 t => ?_)))
    refine am_blk_ok (c := 2) (ini := false) (by decide) rfl (fun q => by cases q) bk_Port_minuteOfNext_39_1 _ 40 _ _ _ bk_Port_minuteOfNext_39_1_ok rfl ?_
    show am_EI m_Port_minuteOfNext kc ks 40 [.ref a0, .int x1, .int (((x1 / 100) * 60) + (x1 % 100)), .int (r4 + 1)] [.int ((r4 + 1) + r6)] h5 Q
    exact am_iret dc_Port_minuteOfNext_40 rfl t
  · replace t := t.2 c2
    refine am_blk_ok (c := 2) (ini := false) (by decide) rfl (fun q => by cases q) bk_Port_minuteOfNext_20_1 _ 21 _ _ _ bk_Port_minuteOfNext_20_1_ok rfl ?_
    show am_EI m_Port_minuteOfNext kc ks 21 [.ref a0, .int x1, .int (((x1 / 100) * 60) + (x1 % 100)), .float 0] [.int (((x1 / 100) * 60) + (x1 % 100))] h Q
    exact am_iret dc_Port_minuteOfNext_21 rfl t
set_option maxRecDepth 20000 in
theorem ev_Port_minuteOfNext (a0 : Nat) (x1 : Int32) (h : am_H) (Q : Int32 → am_H → Prop) (t : (am_tg h a0 = (2, 5) ∧ ((¬ (am_I h a0 4) = 0 → (am_Ei m_Port_lastMinute 0 0 [.ref a0] h (fun r4 h3 => (am_Ei m_Math_floorMod 0 0 [.int ((((x1 / 100) * 60) + (x1 % 100)) - (r4 + 1)), .int 1440] h3 (fun r6 h5 => Q ((r4 + 1) + r6) h5))))) ∧ ((am_I h a0 4) = 0 → Q (((x1 / 100) * 60) + (x1 % 100)) h)))) : am_Ei m_Port_minuteOfNext 0 0 [.ref a0, .int x1] h Q :=
  am_Ev.of (by decide +kernel) (Nat.le_of_ble_eq_true rfl) (by simp only [List.mem_cons, List.not_mem_nil, or_false]; intro v hv; rcases hv with rfl | rfl; all_goals first | exact trivial) (sg_Port_minuteOfNext_0 (kc := 0) (ks := 0) a0 x1 h (am_qi Q) t)
def bk_Port_turnCount_0_2 : List am_E := [(0, .aload_n 0, 1, 0, 0), (1, .getfield 7, 3, 816, 0)]
theorem bk_Port_turnCount_0_2_ok : bk_Port_turnCount_0_2.all (am_ok 2 false m_Port_turnCount.2.1) = true := by decide +kernel
theorem dc_Port_turnCount_4 : decode m_Port_turnCount.2.1 4 = .ok (.ireturn, 1) := by decide +kernel
set_option maxRecDepth 20000 in
theorem sg_Port_turnCount_0 {kc ks : Nat} (a0 : Nat) (h : am_H) (Q : Option Value → am_H → Prop) (t : (am_tg h a0 = (2, 5) ∧ Q (some (.int (am_I h a0 4))) h)) : am_EI m_Port_turnCount kc ks 0 [.ref a0] [] h Q := by
  refine am_blk_ok (c := 2) (ini := false) (by decide) rfl (fun q => by cases q) bk_Port_turnCount_0_2 _ 4 _ _ _ bk_Port_turnCount_0_2_ok rfl ?_
  show (am_tg h a0 = (2, 5) ∧ am_EI m_Port_turnCount kc ks 4 [.ref a0] [.int (am_I h a0 4)] h Q)
  obtain ⟨o1, t⟩ := t
  refine ⟨o1, ?_⟩
  exact am_iret dc_Port_turnCount_4 rfl t
set_option maxRecDepth 20000 in
theorem ev_Port_turnCount (a0 : Nat) (h : am_H) (Q : Int32 → am_H → Prop) (t : (am_tg h a0 = (2, 5) ∧ Q (am_I h a0 4) h)) : am_Ei m_Port_turnCount 0 0 [.ref a0] h Q :=
  am_Ev.of (by decide +kernel) (Nat.le_of_ble_eq_true rfl) (by simp only [List.mem_cons, List.not_mem_nil, or_false]; intro v hv; rcases hv with rfl; all_goals first | exact trivial) (sg_Port_turnCount_0 (kc := 0) (ks := 0) a0 h (am_qi Q) t)
def bk_Port_wholeHeightAt_0_5 : List am_E := [(0, .aload_n 0, 1, 0, 0), (1, .getfield 7, 3, 816, 0), (4, .iconst 1, 1, 0, 1), (5, .isub, 1, 0, 0), (6, .istore_n 2, 1, 0, 0)]
theorem bk_Port_wholeHeightAt_0_5_ok : bk_Port_wholeHeightAt_0_5.all (am_ok 2 false m_Port_wholeHeightAt.2.1) = true := by decide +kernel
def bk_Port_wholeHeightAt_7_1 : List am_E := [(7, .iload_n 2, 1, 0, 0)]
theorem bk_Port_wholeHeightAt_7_1_ok : bk_Port_wholeHeightAt_7_1.all (am_ok 2 false m_Port_wholeHeightAt.2.1) = true := by decide +kernel
def bk_Port_wholeHeightAt_26_4 : List am_E := [(26, .aload_n 0, 1, 0, 0), (27, .iload_n 2, 1, 0, 0), (28, .iconst 1, 1, 0, 1), (29, .iadd, 1, 0, 0)]
theorem bk_Port_wholeHeightAt_26_4_ok : bk_Port_wholeHeightAt_26_4.all (am_ok 2 false m_Port_wholeHeightAt.2.1) = true := by decide +kernel
def bk_Port_wholeHeightAt_33_2 : List am_E := [(33, .aload_n 0, 1, 0, 0), (34, .iload_n 2, 1, 0, 0)]
theorem bk_Port_wholeHeightAt_33_2_ok : bk_Port_wholeHeightAt_33_2.all (am_ok 2 false m_Port_wholeHeightAt.2.1) = true := by decide +kernel
def bk_Port_wholeHeightAt_38_7 : List am_E := [(38, .isub, 1, 0, 0), (39, .istore_n 3, 1, 0, 0), (40, .iload_n 2, 1, 0, 0), (41, .iconst 1, 1, 0, 1), (42, .iadd, 1, 0, 0), (43, .aload_n 0, 1, 0, 0), (44, .getfield 7, 3, 816, 0)]
theorem bk_Port_wholeHeightAt_38_7_ok : bk_Port_wholeHeightAt_38_7.all (am_ok 2 false m_Port_wholeHeightAt.2.1) = true := by decide +kernel
def bk_Port_wholeHeightAt_54_2 : List am_E := [(54, .aload_n 0, 1, 0, 0), (55, .iload_n 2, 1, 0, 0)]
theorem bk_Port_wholeHeightAt_54_2_ok : bk_Port_wholeHeightAt_54_2.all (am_ok 2 false m_Port_wholeHeightAt.2.1) = true := by decide +kernel
def bk_Port_wholeHeightAt_50_1 : List am_E := [(50, .iload_n 3, 1, 0, 0)]
theorem bk_Port_wholeHeightAt_50_1_ok : bk_Port_wholeHeightAt_50_1.all (am_ok 2 false m_Port_wholeHeightAt.2.1) = true := by decide +kernel
def bk_Port_wholeHeightAt_60_4 : List am_E := [(60, .aload_n 0, 1, 0, 0), (61, .iload_n 2, 1, 0, 0), (62, .iload_n 1, 1, 0, 0), (63, .iconst 0, 1, 0, 0)]
theorem bk_Port_wholeHeightAt_60_4_ok : bk_Port_wholeHeightAt_60_4.all (am_ok 2 false m_Port_wholeHeightAt.2.1) = true := by decide +kernel
def bk_Port_wholeHeightAt_67_3 : List am_E := [(67, .bipush 12, 2, 0, 12), (69, .iload_n 3, 1, 0, 0), (70, .imul, 1, 0, 0)]
theorem bk_Port_wholeHeightAt_67_3_ok : bk_Port_wholeHeightAt_67_3.all (am_ok 2 false m_Port_wholeHeightAt.2.1) = true := by decide +kernel
def bk_Port_wholeHeightAt_11_2 : List am_E := [(11, .aload_n 0, 1, 0, 0), (12, .iload_n 2, 1, 0, 0)]
theorem bk_Port_wholeHeightAt_11_2_ok : bk_Port_wholeHeightAt_11_2.all (am_ok 2 false m_Port_wholeHeightAt.2.1) = true := by decide +kernel
def bk_Port_wholeHeightAt_16_1 : List am_E := [(16, .iload_n 1, 1, 0, 0)]
theorem bk_Port_wholeHeightAt_16_1_ok : bk_Port_wholeHeightAt_16_1.all (am_ok 2 false m_Port_wholeHeightAt.2.1) = true := by decide +kernel
def bk_Port_wholeHeightAt_20_2 : List am_E := [(20, .iinc 2 (-1), 3, 0, -1), (23, .goto (-16), 3, 0, -16)]
theorem bk_Port_wholeHeightAt_20_2_ok : bk_Port_wholeHeightAt_20_2.all (am_ok 2 false m_Port_wholeHeightAt.2.1) = true := by decide +kernel
theorem dc_Port_wholeHeightAt_30 : decode m_Port_wholeHeightAt.2.1 30 = .ok (.invokevirtual 33, 3) := by decide +kernel
theorem dc_Port_wholeHeightAt_35 : decode m_Port_wholeHeightAt.2.1 35 = .ok (.invokevirtual 33, 3) := by decide +kernel
theorem dc_Port_wholeHeightAt_56 : decode m_Port_wholeHeightAt.2.1 56 = .ok (.invokevirtual 51, 3) := by decide +kernel
theorem dc_Port_wholeHeightAt_59 : decode m_Port_wholeHeightAt.2.1 59 = .ok (.ireturn, 1) := by decide +kernel
theorem dc_Port_wholeHeightAt_64 : decode m_Port_wholeHeightAt.2.1 64 = .ok (.invokevirtual 74, 3) := by decide +kernel
theorem dc_Port_wholeHeightAt_71 : decode m_Port_wholeHeightAt.2.1 71 = .ok (.invokestatic 78, 3) := by decide +kernel
theorem dc_Port_wholeHeightAt_74 : decode m_Port_wholeHeightAt.2.1 74 = .ok (.ireturn, 1) := by decide +kernel
theorem dc_Port_wholeHeightAt_51 : decode m_Port_wholeHeightAt.2.1 51 = .ok (.ifCond .gt 9, 3) := by decide +kernel
theorem dc_Port_wholeHeightAt_47 : decode m_Port_wholeHeightAt.2.1 47 = .ok (.if_icmp .ge 7, 3) := by decide +kernel
theorem dc_Port_wholeHeightAt_13 : decode m_Port_wholeHeightAt.2.1 13 = .ok (.invokevirtual 33, 3) := by decide +kernel
theorem dc_Port_wholeHeightAt_17 : decode m_Port_wholeHeightAt.2.1 17 = .ok (.if_icmp .le 9, 3) := by decide +kernel
theorem dc_Port_wholeHeightAt_8 : decode m_Port_wholeHeightAt.2.1 8 = .ok (.ifCond .le 18, 3) := by decide +kernel
set_option maxRecDepth 20000 in
theorem sg_Port_wholeHeightAt_0 {kc ks : Nat} (a0 : Nat) (x1 : Int32) (h : am_H) (Q : Option Value → am_H → Prop) (t : (am_tg h a0 = (2, 5) ∧ am_EI m_Port_wholeHeightAt kc ks 7 [.ref a0, .int x1, .int ((am_I h a0 4) - 1), .float 0] [] h Q)) : am_EI m_Port_wholeHeightAt kc ks 0 [.ref a0, .int x1, .float 0, .float 0] [] h Q := by
  refine am_blk_ok (c := 2) (ini := false) (by decide) rfl (fun q => by cases q) bk_Port_wholeHeightAt_0_5 _ 7 _ _ _ bk_Port_wholeHeightAt_0_5_ok rfl ?_
  show (am_tg h a0 = (2, 5) ∧ am_EI m_Port_wholeHeightAt kc ks 7 [.ref a0, .int x1, .int ((am_I h a0 4) - 1), .float 0] [] h Q)
  obtain ⟨o1, t⟩ := t
  refine ⟨o1, ?_⟩
  exact t
set_option maxRecDepth 20000 in
theorem ev_Port_wholeHeightAt (a0 : Nat) (x1 : Int32) (h : am_H) (Q : Int32 → am_H → Prop) (t : (am_tg h a0 = (2, 5) ∧ am_EI m_Port_wholeHeightAt 0 0 7 [.ref a0, .int x1, .int ((am_I h a0 4) - 1), .float 0] [] h (am_qi Q))) : am_Ei m_Port_wholeHeightAt 0 0 [.ref a0, .int x1] h Q :=
  am_Ev.of (by decide +kernel) (Nat.le_of_ble_eq_true rfl) (by simp only [List.mem_cons, List.not_mem_nil, or_false]; intro v hv; rcases hv with rfl | rfl; all_goals first | exact trivial) (sg_Port_wholeHeightAt_0 (kc := 0) (ks := 0) a0 x1 h (am_qi Q) t)
set_option maxRecDepth 20000 in
theorem sg_Port_wholeHeightAt_7 {kc ks : Nat} (a0 : Nat) (x1 x2 : Int32) (h : am_H) (Q : Option Value → am_H → Prop) (t : ((x2 ≤ 0 → (am_tg h a0 = (2, 5) ∧ (am_Ei m_Port_minuteOf 0 0 [.ref a0, .int (x2 + 1)] h (fun r4 h3 => (am_tg h3 a0 = (2, 5) ∧ (am_Ei m_Port_minuteOf 0 0 [.ref a0, .int x2] h3 (fun r7 h6 => (am_tg h6 a0 = (2, 5) ∧ (((am_I h6 a0 4) ≤ (x2 + 1) → (am_Ei m_Port_heightOf 0 0 [.ref a0, .int x2] h6 (fun r11 h10 => Q (some (.int r11)) h10))) ∧ (¬ (am_I h6 a0 4) ≤ (x2 + 1) → ((0 < (r4 - r7) → (am_Ei m_Port_excess 0 0 [.ref a0, .int x2, .int x1, .int 0] h6 (fun r14 h13 => (am_Ei m_Math_floorDiv 0 0 [.int r14, .int (12 * (r4 - r7))] h13 (fun r16 h15 => Q (some (.int r16)) h15))))) ∧ (¬ 0 < (r4 - r7) → (am_Ei m_Port_heightOf 0 0 [.ref a0, .int x2] h6 (fun r18 h17 => Q (some (.int r18)) h17)))))))))))))) ∧ (¬ x2 ≤ 0 → (am_tg h a0 = (2, 5) ∧ (am_Ei m_Port_minuteOf 0 0 [.ref a0, .int x2] h (fun r21 h20 => ((r21 ≤ x1 → (am_tg h20 a0 = (2, 5) ∧ (am_Ei m_Port_minuteOf 0 0 [.ref a0, .int (x2 + 1)] h20 (fun r25 h24 => (am_tg h24 a0 = (2, 5) ∧ (am_Ei m_Port_minuteOf 0 0 [.ref a0, .int x2] h24 (fun r28 h27 => (am_tg h27 a0 = (2, 5) ∧ (((am_I h27 a0 4) ≤ (x2 + 1) → (am_Ei m_Port_heightOf 0 0 [.ref a0, .int x2] h27 (fun r32 h31 => Q (some (.int r32)) h31))) ∧ (¬ (am_I h27 a0 4) ≤ (x2 + 1) → ((0 < (r25 - r28) → (am_Ei m_Port_excess 0 0 [.ref a0, .int x2, .int x1, .int 0] h27 (fun r35 h34 => (am_Ei m_Math_floorDiv 0 0 [.int r35, .int (12 * (r25 - r28))] h34 (fun r37 h36 => Q (some (.int r37)) h36))))) ∧ (¬ 0 < (r25 - r28) → (am_Ei m_Port_heightOf 0 0 [.ref a0, .int x2] h27 (fun r39 h38 => Q (some (.int r39)) h38)))))))))))))) ∧ (¬ r21 ≤ x1 → am_EI m_Port_wholeHeightAt kc ks 7 [.ref a0, .int x1, .int (x2 + (-1)), .float 0] [] h20 Q)))))))) : am_EI m_Port_wholeHeightAt kc ks 7 [.ref a0, .int x1, .int x2, .float 0] [] h Q := by
  refine am_blk_ok (c := 2) (ini := false) (by decide) rfl (fun q => by cases q) bk_Port_wholeHeightAt_7_1 _ 8 _ _ _ bk_Port_wholeHeightAt_7_1_ok rfl ?_
  show am_EI m_Port_wholeHeightAt kc ks 8 [.ref a0, .int x1, .int x2, .float 0] [.int x2] h Q
  refine am_if_le (tgt := 26) dc_Port_wholeHeightAt_8 (by decide) (fun c1 => ?_) (fun c1 => ?_)
  · replace t := t.1 c1
    refine am_blk_ok (c := 2) (ini := false) (by decide) rfl (fun q => by cases q) bk_Port_wholeHeightAt_26_4 _ 30 _ _ _ bk_Port_wholeHeightAt_26_4_ok rfl ?_
    show am_EI m_Port_wholeHeightAt kc ks 30 [.ref a0, .int x1, .int x2, .float 0] [.int (x2 + 1), .ref a0] h Q
    obtain ⟨o2, t⟩ := t
    refine am_callV (M2 := m_Port_minuteOf) (ci := 2) (a := a0) (kc := kc) (ks := ks) (k2c := 0) (k2s := 0) (as := []) [.int (x2 + 1)] dc_Port_wholeHeightAt_30 lk_2_33 im_Port_minuteOf se_Port_minuteOf lm_Port_minuteOf np_Port_minuteOf ⟨Nat.le_of_ble_eq_true rfl, Nat.le_of_ble_eq_true rfl⟩ (fun _ => Nat.le_of_ble_eq_true rfl) (by decide) rfl o2 (am_Ei.end (am_Ei.mono t (fun r4 h3 t => ?_)))
    refine am_blk_ok (c := 2) (ini := false) (by decide) rfl (fun q => by cases q) bk_Port_wholeHeightAt_33_2 _ 35 _ _ _ bk_Port_wholeHeightAt_33_2_ok rfl ?_
    show am_EI m_Port_wholeHeightAt kc ks 35 [.ref a0, .int x1, .int x2, .float 0] [.int x2, .ref a0, .int r4] h3 Q
    obtain ⟨o5, t⟩ := t
    refine am_callV (M2 := m_Port_minuteOf) (ci := 2) (a := a0) (kc := kc) (ks := ks) (k2c := 0) (k2s := 0) (as := [.int r4]) [.int x2] dc_Port_wholeHeightAt_35 lk_2_33 im_Port_minuteOf se_Port_minuteOf lm_Port_minuteOf np_Port_minuteOf ⟨Nat.le_of_ble_eq_true rfl, Nat.le_of_ble_eq_true rfl⟩ (fun _ => Nat.le_of_ble_eq_true rfl) (by decide) rfl o5 (am_Ei.end (am_Ei.mono t (fun r7 h6 t => ?_)))
    refine am_blk_ok (c := 2) (ini := false) (by decide) rfl (fun q => by cases q) bk_Port_wholeHeightAt_38_7 _ 47 _ _ _ bk_Port_wholeHeightAt_38_7_ok rfl ?_
    show (am_tg h6 a0 = (2, 5) ∧ am_EI m_Port_wholeHeightAt kc ks 47 [.ref a0, .int x1, .int x2, .int (r4 - r7)] [.int (am_I h6 a0 4), .int (x2 + 1)] h6 Q)
    obtain ⟨o8, t⟩ := t
    refine ⟨o8, ?_⟩
    refine am_ic_ge (tgt := 54) dc_Port_wholeHeightAt_47 (by decide) (fun c9 => ?_) (fun c9 => ?_)
    · replace t := t.1 c9
      refine am_blk_ok (c := 2) (ini := false) (by decide) rfl (fun q => by cases q) bk_Port_wholeHeightAt_54_2 _ 56 _ _ _ bk_Port_wholeHeightAt_54_2_ok rfl ?_
      show am_EI m_Port_wholeHeightAt kc ks 56 [.ref a0, .int x1, .int x2, .int (r4 - r7)] [.int x2, .ref a0] h6 Q
      refine am_callV (M2 := m_Port_heightOf) (ci := 2) (a := a0) (kc := kc) (ks := ks) (k2c := 0) (k2s := 0) (as := []) [.int x2] dc_Port_wholeHeightAt_56 lk_2_51 im_Port_heightOf se_Port_heightOf lm_Port_heightOf np_Port_heightOf ⟨Nat.le_of_ble_eq_true rfl, Nat.le_of_ble_eq_true rfl⟩ (fun _ => Nat.le_of_ble_eq_true rfl) (by decide) rfl o8 (am_Ei.end (am_Ei.mono t (fun r11 h10 t => ?_)))
      exact am_iret dc_Port_wholeHeightAt_59 rfl t
    · replace t := t.2 c9
      refine am_blk_ok (c := 2) (ini := false) (by decide) rfl (fun q => by cases q) bk_Port_wholeHeightAt_50_1 _ 51 _ _ _ bk_Port_wholeHeightAt_50_1_ok rfl ?_
      show am_EI m_Port_wholeHeightAt kc ks 51 [.ref a0, .int x1, .int x2, .int (r4 - r7)] [.int (r4 - r7)] h6 Q
      refine am_if_gt (tgt := 60) dc_Port_wholeHeightAt_51 (by decide) (fun c12 => ?_) (fun c12 => ?_)
      · replace t := t.1 c12
        refine am_blk_ok (c := 2) (ini := false) (by decide) rfl (fun q => by cases q) bk_Port_wholeHeightAt_60_4 _ 64 _ _ _ bk_Port_wholeHeightAt_60_4_ok rfl ?_
        show am_EI m_Port_wholeHeightAt kc ks 64 [.ref a0, .int x1, .int x2, .int (r4 - r7)] [.int 0, .int x1, .int x2, .ref a0] h6 Q
        refine am_callV (M2 := m_Port_excess) (ci := 2) (a := a0) (kc := kc) (ks := ks) (k2c := 0) (k2s := 0) (as := []) [.int x2, .int x1, .int 0] dc_Port_wholeHeightAt_64 lk_2_74 im_Port_excess se_Port_excess lm_Port_excess np_Port_excess ⟨Nat.le_of_ble_eq_true rfl, Nat.le_of_ble_eq_true rfl⟩ (fun _ => Nat.le_of_ble_eq_true rfl) (by decide) rfl o8 (am_Ei.end (am_Ei.mono t (fun r14 h13 t => ?_)))
        refine am_blk_ok (c := 2) (ini := false) (by decide) rfl (fun q => by cases q) bk_Port_wholeHeightAt_67_3 _ 71 _ _ _ bk_Port_wholeHeightAt_67_3_ok rfl ?_
        show am_EI m_Port_wholeHeightAt kc ks 71 [.ref a0, .int x1, .int x2, .int (r4 - r7)] [.int (12 * (r4 - r7)), .int r14] h13 Q
        refine am_callS (M2 := m_Math_floorDiv) (kc := kc) (ks := ks) (k2c := 0) (k2s := 0) (as := []) [.int r14, .int (12 * (r4 - r7))] dc_Port_wholeHeightAt_71 lk_2_78 st_Math_floorDiv lm_Math_floorDiv np_Math_floorDiv ⟨Nat.le_of_ble_eq_true rfl, Nat.le_of_ble_eq_true rfl⟩ (fun _ => Nat.le_of_ble_eq_true rfl) (am_Ei.end (am_Ei.mono t (fun r16 h15 t => ?_)))
        exact am_iret dc_Port_wholeHeightAt_74 rfl t
      · replace t := t.2 c12
        refine am_blk_ok (c := 2) (ini := false) (by decide) rfl (fun q => by cases q) bk_Port_wholeHeightAt_54_2 _ 56 _ _ _ bk_Port_wholeHeightAt_54_2_ok rfl ?_
        show am_EI m_Port_wholeHeightAt kc ks 56 [.ref a0, .int x1, .int x2, .int (r4 - r7)] [.int x2, .ref a0] h6 Q
        refine am_callV (M2 := m_Port_heightOf) (ci := 2) (a := a0) (kc := kc) (ks := ks) (k2c := 0) (k2s := 0) (as := []) [.int x2] dc_Port_wholeHeightAt_56 lk_2_51 im_Port_heightOf se_Port_heightOf lm_Port_heightOf np_Port_heightOf ⟨Nat.le_of_ble_eq_true rfl, Nat.le_of_ble_eq_true rfl⟩ (fun _ => Nat.le_of_ble_eq_true rfl) (by decide) rfl o8 (am_Ei.end (am_Ei.mono t (fun r18 h17 t => ?_)))
        exact am_iret dc_Port_wholeHeightAt_59 rfl t
  · replace t := t.2 c1
    refine am_blk_ok (c := 2) (ini := false) (by decide) rfl (fun q => by cases q) bk_Port_wholeHeightAt_11_2 _ 13 _ _ _ bk_Port_wholeHeightAt_11_2_ok rfl ?_
    show am_EI m_Port_wholeHeightAt kc ks 13 [.ref a0, .int x1, .int x2, .float 0] [.int x2, .ref a0] h Q
    obtain ⟨o19, t⟩ := t
    refine am_callV (M2 := m_Port_minuteOf) (ci := 2) (a := a0) (kc := kc) (ks := ks) (k2c := 0) (k2s := 0) (as := []) [.int x2] dc_Port_wholeHeightAt_13 lk_2_33 im_Port_minuteOf se_Port_minuteOf lm_Port_minuteOf np_Port_minuteOf ⟨Nat.le_of_ble_eq_true rfl, Nat.le_of_ble_eq_true rfl⟩ (fun _ => Nat.le_of_ble_eq_true rfl) (by decide) rfl o19 (am_Ei.end (am_Ei.mono t (fun r21 h20 t => ?_)))
    refine am_blk_ok (c := 2) (ini := false) (by decide) rfl (fun q => by cases q) bk_Port_wholeHeightAt_16_1 _ 17 _ _ _ bk_Port_wholeHeightAt_16_1_ok rfl ?_
    show am_EI m_Port_wholeHeightAt kc ks 17 [.ref a0, .int x1, .int x2, .float 0] [.int x1, .int r21] h20 Q
    refine am_ic_le (tgt := 26) dc_Port_wholeHeightAt_17 (by decide) (fun c22 => ?_) (fun c22 => ?_)
    · replace t := t.1 c22
      refine am_blk_ok (c := 2) (ini := false) (by decide) rfl (fun q => by cases q) bk_Port_wholeHeightAt_26_4 _ 30 _ _ _ bk_Port_wholeHeightAt_26_4_ok rfl ?_
      show am_EI m_Port_wholeHeightAt kc ks 30 [.ref a0, .int x1, .int x2, .float 0] [.int (x2 + 1), .ref a0] h20 Q
      obtain ⟨o23, t⟩ := t
      refine am_callV (M2 := m_Port_minuteOf) (ci := 2) (a := a0) (kc := kc) (ks := ks) (k2c := 0) (k2s := 0) (as := []) [.int (x2 + 1)] dc_Port_wholeHeightAt_30 lk_2_33 im_Port_minuteOf se_Port_minuteOf lm_Port_minuteOf np_Port_minuteOf ⟨Nat.le_of_ble_eq_true rfl, Nat.le_of_ble_eq_true rfl⟩ (fun _ => Nat.le_of_ble_eq_true rfl) (by decide) rfl o23 (am_Ei.end (am_Ei.mono t (fun r25 h24 t => ?_)))
      refine am_blk_ok (c := 2) (ini := false) (by decide) rfl (fun q => by cases q) bk_Port_wholeHeightAt_33_2 _ 35 _ _ _ bk_Port_wholeHeightAt_33_2_ok rfl ?_
      show am_EI m_Port_wholeHeightAt kc ks 35 [.ref a0, .int x1, .int x2, .float 0] [.int x2, .ref a0, .int r25] h24 Q
      obtain ⟨o26, t⟩ := t
      refine am_callV (M2 := m_Port_minuteOf) (ci := 2) (a := a0) (kc := kc) (ks := ks) (k2c := 0) (k2s := 0) (as := [.int r25]) [.int x2] dc_Port_wholeHeightAt_35 lk_2_33 im_Port_minuteOf se_Port_minuteOf lm_Port_minuteOf np_Port_minuteOf ⟨Nat.le_of_ble_eq_true rfl, Nat.le_of_ble_eq_true rfl⟩ (fun _ => Nat.le_of_ble_eq_true rfl) (by decide) rfl o26 (am_Ei.end (am_Ei.mono t (fun r28 h27 t => ?_)))
      refine am_blk_ok (c := 2) (ini := false) (by decide) rfl (fun q => by cases q) bk_Port_wholeHeightAt_38_7 _ 47 _ _ _ bk_Port_wholeHeightAt_38_7_ok rfl ?_
      show (am_tg h27 a0 = (2, 5) ∧ am_EI m_Port_wholeHeightAt kc ks 47 [.ref a0, .int x1, .int x2, .int (r25 - r28)] [.int (am_I h27 a0 4), .int (x2 + 1)] h27 Q)
      obtain ⟨o29, t⟩ := t
      refine ⟨o29, ?_⟩
      refine am_ic_ge (tgt := 54) dc_Port_wholeHeightAt_47 (by decide) (fun c30 => ?_) (fun c30 => ?_)
      · replace t := t.1 c30
        refine am_blk_ok (c := 2) (ini := false) (by decide) rfl (fun q => by cases q) bk_Port_wholeHeightAt_54_2 _ 56 _ _ _ bk_Port_wholeHeightAt_54_2_ok rfl ?_
        show am_EI m_Port_wholeHeightAt kc ks 56 [.ref a0, .int x1, .int x2, .int (r25 - r28)] [.int x2, .ref a0] h27 Q
        refine am_callV (M2 := m_Port_heightOf) (ci := 2) (a := a0) (kc := kc) (ks := ks) (k2c := 0) (k2s := 0) (as := []) [.int x2] dc_Port_wholeHeightAt_56 lk_2_51 im_Port_heightOf se_Port_heightOf lm_Port_heightOf np_Port_heightOf ⟨Nat.le_of_ble_eq_true rfl, Nat.le_of_ble_eq_true rfl⟩ (fun _ => Nat.le_of_ble_eq_true rfl) (by decide) rfl o29 (am_Ei.end (am_Ei.mono t (fun r32 h31 t => ?_)))
        exact am_iret dc_Port_wholeHeightAt_59 rfl t
      · replace t := t.2 c30
        refine am_blk_ok (c := 2) (ini := false) (by decide) rfl (fun q => by cases q) bk_Port_wholeHeightAt_50_1 _ 51 _ _ _ bk_Port_wholeHeightAt_50_1_ok rfl ?_
        show am_EI m_Port_wholeHeightAt kc ks 51 [.ref a0, .int x1, .int x2, .int (r25 - r28)] [.int (r25 - r28)] h27 Q
        refine am_if_gt (tgt := 60) dc_Port_wholeHeightAt_51 (by decide) (fun c33 => ?_) (fun c33 => ?_)
        · replace t := t.1 c33
          refine am_blk_ok (c := 2) (ini := false) (by decide) rfl (fun q => by cases q) bk_Port_wholeHeightAt_60_4 _ 64 _ _ _ bk_Port_wholeHeightAt_60_4_ok rfl ?_
          show am_EI m_Port_wholeHeightAt kc ks 64 [.ref a0, .int x1, .int x2, .int (r25 - r28)] [.int 0, .int x1, .int x2, .ref a0] h27 Q
          refine am_callV (M2 := m_Port_excess) (ci := 2) (a := a0) (kc := kc) (ks := ks) (k2c := 0) (k2s := 0) (as := []) [.int x2, .int x1, .int 0] dc_Port_wholeHeightAt_64 lk_2_74 im_Port_excess se_Port_excess lm_Port_excess np_Port_excess ⟨Nat.le_of_ble_eq_true rfl, Nat.le_of_ble_eq_true rfl⟩ (fun _ => Nat.le_of_ble_eq_true rfl) (by decide) rfl o29 (am_Ei.end (am_Ei.mono t (fun r35 h34 t => ?_)))
          refine am_blk_ok (c := 2) (ini := false) (by decide) rfl (fun q => by cases q) bk_Port_wholeHeightAt_67_3 _ 71 _ _ _ bk_Port_wholeHeightAt_67_3_ok rfl ?_
          show am_EI m_Port_wholeHeightAt kc ks 71 [.ref a0, .int x1, .int x2, .int (r25 - r28)] [.int (12 * (r25 - r28)), .int r35] h34 Q
          refine am_callS (M2 := m_Math_floorDiv) (kc := kc) (ks := ks) (k2c := 0) (k2s := 0) (as := []) [.int r35, .int (12 * (r25 - r28))] dc_Port_wholeHeightAt_71 lk_2_78 st_Math_floorDiv lm_Math_floorDiv np_Math_floorDiv ⟨Nat.le_of_ble_eq_true rfl, Nat.le_of_ble_eq_true rfl⟩ (fun _ => Nat.le_of_ble_eq_true rfl) (am_Ei.end (am_Ei.mono t (fun r37 h36 t => ?_)))
          exact am_iret dc_Port_wholeHeightAt_74 rfl t
        · replace t := t.2 c33
          refine am_blk_ok (c := 2) (ini := false) (by decide) rfl (fun q => by cases q) bk_Port_wholeHeightAt_54_2 _ 56 _ _ _ bk_Port_wholeHeightAt_54_2_ok rfl ?_
          show am_EI m_Port_wholeHeightAt kc ks 56 [.ref a0, .int x1, .int x2, .int (r25 - r28)] [.int x2, .ref a0] h27 Q
          refine am_callV (M2 := m_Port_heightOf) (ci := 2) (a := a0) (kc := kc) (ks := ks) (k2c := 0) (k2s := 0) (as := []) [.int x2] dc_Port_wholeHeightAt_56 lk_2_51 im_Port_heightOf se_Port_heightOf lm_Port_heightOf np_Port_heightOf ⟨Nat.le_of_ble_eq_true rfl, Nat.le_of_ble_eq_true rfl⟩ (fun _ => Nat.le_of_ble_eq_true rfl) (by decide) rfl o29 (am_Ei.end (am_Ei.mono t (fun r39 h38 t => ?_)))
          exact am_iret dc_Port_wholeHeightAt_59 rfl t
    · replace t := t.2 c22
      refine am_blk_ok (c := 2) (ini := false) (by decide) rfl (fun q => by cases q) bk_Port_wholeHeightAt_20_2 _ 7 _ _ _ bk_Port_wholeHeightAt_20_2_ok rfl ?_
      show am_EI m_Port_wholeHeightAt kc ks 7 [.ref a0, .int x1, .int (x2 + (-1)), .float 0] [] h20 Q
      exact t
