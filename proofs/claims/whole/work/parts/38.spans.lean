def bk_Spans_add_0_2 : List am_E := [(0, .iload_n 1, 1, 0, 0), (1, .iload_n 2, 1, 0, 0)]
theorem bk_Spans_add_0_2_ok : bk_Spans_add_0_2.all (am_ok 8 false m_Spans_add.2.1) = true := by decide +kernel
def bk_Spans_add_6_2 : List am_E := [(6, .aload_n 0, 1, 0, 0), (7, .getfield 7, 3, 3212, 0)]
theorem bk_Spans_add_6_2_ok : bk_Spans_add_6_2.all (am_ok 8 false m_Spans_add.2.1) = true := by decide +kernel
def bk_Spans_add_70_2 : List am_E := [(70, .aload_n 0, 1, 0, 0), (71, .getfield 7, 3, 3212, 0)]
theorem bk_Spans_add_70_2_ok : bk_Spans_add_70_2.all (am_ok 8 false m_Spans_add.2.1) = true := by decide +kernel
def bk_Spans_add_77_4 : List am_E := [(77, .aload_n 0, 1, 0, 0), (78, .getfield 7, 3, 3212, 0), (81, .aload_n 0, 1, 0, 0), (82, .getfield 19, 3, 3200, 0)]
theorem bk_Spans_add_77_4_ok : bk_Spans_add_77_4.all (am_ok 8 false m_Spans_add.2.1) = true := by decide +kernel
def bk_Spans_add_88_18 : List am_E := [(88, .aload_n 0, 1, 0, 0), (89, .getfield 22, 3, 3205, 0), (92, .aload_n 0, 1, 0, 0), (93, .getfield 7, 3, 3212, 0), (96, .iload_n 1, 1, 0, 0), (97, .iastore, 1, 0, 0), (98, .aload_n 0, 1, 0, 0), (99, .getfield 26, 3, 3209, 0), (102, .aload_n 0, 1, 0, 0), (103, .getfield 7, 3, 3212, 0), (106, .iload_n 2, 1, 0, 0), (107, .iastore, 1, 0, 0), (108, .aload_n 0, 1, 0, 0), (109, .dup, 1, 0, 0), (110, .getfield 7, 3, 3212, 0), (113, .iconst 1, 1, 0, 1), (114, .iadd, 1, 0, 0), (115, .putfield 7, 3, 3212, 0)]
theorem bk_Spans_add_88_18_ok : bk_Spans_add_88_18.all (am_ok 8 false m_Spans_add.2.1) = true := by decide +kernel
def bk_Spans_add_13_4 : List am_E := [(13, .aload_n 0, 1, 0, 0), (14, .getfield 7, 3, 3212, 0), (17, .aload_n 0, 1, 0, 0), (18, .getfield 19, 3, 3200, 0)]
theorem bk_Spans_add_13_4_ok : bk_Spans_add_13_4.all (am_ok 8 false m_Spans_add.2.1) = true := by decide +kernel
def bk_Spans_add_24_10 : List am_E := [(24, .iload_n 1, 1, 0, 0), (25, .aload_n 0, 1, 0, 0), (26, .getfield 26, 3, 3209, 0), (29, .aload_n 0, 1, 0, 0), (30, .getfield 7, 3, 3212, 0), (33, .iconst 1, 1, 0, 1), (34, .isub, 1, 0, 0), (35, .iaload, 1, 0, 0), (36, .iconst 1, 1, 0, 1), (37, .iadd, 1, 0, 0)]
theorem bk_Spans_add_24_10_ok : bk_Spans_add_24_10.all (am_ok 8 false m_Spans_add.2.1) = true := by decide +kernel
def bk_Spans_add_41_14 : List am_E := [(41, .aload_n 0, 1, 0, 0), (42, .getfield 26, 3, 3209, 0), (45, .aload_n 0, 1, 0, 0), (46, .getfield 7, 3, 3212, 0), (49, .iconst 1, 1, 0, 1), (50, .isub, 1, 0, 0), (51, .aload_n 0, 1, 0, 0), (52, .getfield 26, 3, 3209, 0), (55, .aload_n 0, 1, 0, 0), (56, .getfield 7, 3, 3212, 0), (59, .iconst 1, 1, 0, 1), (60, .isub, 1, 0, 0), (61, .iaload, 1, 0, 0), (62, .iload_n 2, 1, 0, 0)]
theorem bk_Spans_add_41_14_ok : bk_Spans_add_41_14.all (am_ok 8 false m_Spans_add.2.1) = true := by decide +kernel
def bk_Spans_add_66_2 : List am_E := [(66, .iastore, 1, 0, 0), (67, .goto 51, 3, 0, 51)]
theorem bk_Spans_add_66_2_ok : bk_Spans_add_66_2.all (am_ok 8 false m_Spans_add.2.1) = true := by decide +kernel
theorem dc_Spans_add_118 : decode m_Spans_add.2.1 118 = .ok (.return_, 1) := by decide +kernel
theorem dc_Spans_add_85 : decode m_Spans_add.2.1 85 = .ok (.if_icmp .ge 33, 3) := by decide +kernel
theorem dc_Spans_add_74 : decode m_Spans_add.2.1 74 = .ok (.ifCond .lt 44, 3) := by decide +kernel
theorem dc_Spans_add_63 : decode m_Spans_add.2.1 63 = .ok (.invokestatic 13, 3) := by decide +kernel
theorem dc_Spans_add_38 : decode m_Spans_add.2.1 38 = .ok (.if_icmp .gt 32, 3) := by decide +kernel
theorem dc_Spans_add_21 : decode m_Spans_add.2.1 21 = .ok (.if_icmp .gt 49, 3) := by decide +kernel
theorem dc_Spans_add_10 : decode m_Spans_add.2.1 10 = .ok (.ifCond .le 60, 3) := by decide +kernel
theorem dc_Spans_add_5 : decode m_Spans_add.2.1 5 = .ok (.return_, 1) := by decide +kernel
theorem dc_Spans_add_2 : decode m_Spans_add.2.1 2 = .ok (.if_icmp .le 4, 3) := by decide +kernel
set_option maxRecDepth 20000 in
theorem sg_Spans_add_0 {kc ks : Nat} (a0 : Nat) (x1 x2 : Int32) (h : am_H) (Q : Option Value → am_H → Prop) (t : ((x1 ≤ x2 → (am_tg h a0 = (8, 4) ∧ (((am_I h a0 3) ≤ 0 → (((am_I h a0 3) < 0 → Q none h) ∧ (¬ (am_I h a0 3) < 0 → (((am_I h a0 0) ≤ (am_I h a0 3) → Q none h) ∧ (¬ (am_I h a0 0) ≤ (am_I h a0 3) → (∃ b6, am_P h a0 1 = some b6 ∧ ((am_tg h b6).1 = 20 ∧ (vp_in (am_I h a0 3) (am_tg h b6).2 ∧ (∃ b7, am_P h a0 2 = some b7 ∧ ((am_tg h b7).1 = 20 ∧ (vp_in (am_I (am_si h b6 ((am_I h a0 3).toNatClampNeg) x1) a0 3) (am_tg h b7).2 ∧ Q none (am_si (am_si (am_si h b6 ((am_I h a0 3).toNatClampNeg) x1) b7 ((am_I (am_si h b6 ((am_I h a0 3).toNatClampNeg) x1) a0 3).toNatClampNeg) x2) a0 3 ((am_I (am_si (am_si h b6 ((am_I h a0 3).toNatClampNeg) x1) b7 ((am_I (am_si h b6 ((am_I h a0 3).toNatClampNeg) x1) a0 3).toNatClampNeg) x2) a0 3) + 1))))))))))))) ∧ (¬ (am_I h a0 3) ≤ 0 → (((am_I h a0 0) < (am_I h a0 3) → (((am_I h a0 3) < 0 → Q none h) ∧ (¬ (am_I h a0 3) < 0 → (((am_I h a0 0) ≤ (am_I h a0 3) → Q none h) ∧ (¬ (am_I h a0 0) ≤ (am_I h a0 3) → (∃ b17, am_P h a0 1 = some b17 ∧ ((am_tg h b17).1 = 20 ∧ (vp_in (am_I h a0 3) (am_tg h b17).2 ∧ (∃ b18, am_P h a0 2 = some b18 ∧ ((am_tg h b18).1 = 20 ∧ (vp_in (am_I (am_si h b17 ((am_I h a0 3).toNatClampNeg) x1) a0 3) (am_tg h b18).2 ∧ Q none (am_si (am_si (am_si h b17 ((am_I h a0 3).toNatClampNeg) x1) b18 ((am_I (am_si h b17 ((am_I h a0 3).toNatClampNeg) x1) a0 3).toNatClampNeg) x2) a0 3 ((am_I (am_si (am_si h b17 ((am_I h a0 3).toNatClampNeg) x1) b18 ((am_I (am_si h b17 ((am_I h a0 3).toNatClampNeg) x1) a0 3).toNatClampNeg) x2) a0 3) + 1))))))))))))) ∧ (¬ (am_I h a0 0) < (am_I h a0 3) → (∃ b25, am_P h a0 2 = some b25 ∧ ((am_tg h b25).1 = 20 ∧ (vp_in ((am_I h a0 3) - 1) (am_tg h b25).2 ∧ ((((am_I h b25 ((am_I h a0 3) - 1).toNatClampNeg) + 1) < x1 → (((am_I h a0 3) < 0 → Q none h) ∧ (¬ (am_I h a0 3) < 0 → (((am_I h a0 0) ≤ (am_I h a0 3) → Q none h) ∧ (¬ (am_I h a0 0) ≤ (am_I h a0 3) → (∃ b32, am_P h a0 1 = some b32 ∧ ((am_tg h b32).1 = 20 ∧ (vp_in (am_I h a0 3) (am_tg h b32).2 ∧ (vp_in (am_I (am_si h b32 ((am_I h a0 3).toNatClampNeg) x1) a0 3) (am_tg h b25).2 ∧ Q none (am_si (am_si (am_si h b32 ((am_I h a0 3).toNatClampNeg) x1) b25 ((am_I (am_si h b32 ((am_I h a0 3).toNatClampNeg) x1) a0 3).toNatClampNeg) x2) a0 3 ((am_I (am_si (am_si h b32 ((am_I h a0 3).toNatClampNeg) x1) b25 ((am_I (am_si h b32 ((am_I h a0 3).toNatClampNeg) x1) a0 3).toNatClampNeg) x2) a0 3) + 1))))))))))) ∧ (¬ ((am_I h b25 ((am_I h a0 3) - 1).toNatClampNeg) + 1) < x1 → (am_Ei m_Math_max 0 0 [.int (am_I h b25 ((am_I h a0 3) - 1).toNatClampNeg), .int x2] h (fun r41 h40 => ((am_tg h40 b25).1 = 20 ∧ (vp_in ((am_I h a0 3) - 1) (am_tg h40 b25).2 ∧ Q none (am_si h40 b25 (((am_I h a0 3) - 1).toNatClampNeg) r41)))))))))))))))) ∧ (¬ x1 ≤ x2 → Q none h))) : am_EI m_Spans_add kc ks 0 [.ref a0, .int x1, .int x2] [] h Q := by
  refine am_blk_ok (c := 8) (ini := false) (by decide) rfl (fun q => by cases q) bk_Spans_add_0_2 _ 2 _ _ _ bk_Spans_add_0_2_ok rfl ?_
  show am_EI m_Spans_add kc ks 2 [.ref a0, .int x1, .int x2] [.int x2, .int x1] h Q
  refine am_ic_le (tgt := 6) dc_Spans_add_2 (by decide) (fun c1 => ?_) (fun c1 => ?_)
  · replace t := t.1 c1
    refine am_blk_ok (c := 8) (ini := false) (by decide) rfl (fun q => by cases q) bk_Spans_add_6_2 _ 10 _ _ _ bk_Spans_add_6_2_ok rfl ?_
    show (am_tg h a0 = (8, 4) ∧ am_EI m_Spans_add kc ks 10 [.ref a0, .int x1, .int x2] [.int (am_I h a0 3)] h Q)
    obtain ⟨o2, t⟩ := t
    refine ⟨o2, ?_⟩
    refine am_if_le (tgt := 70) dc_Spans_add_10 (by decide) (fun c3 => ?_) (fun c3 => ?_)
    · replace t := t.1 c3
      refine am_blk_ok (c := 8) (ini := false) (by decide) rfl (fun q => by cases q) bk_Spans_add_70_2 _ 74 _ _ _ bk_Spans_add_70_2_ok rfl ?_
      show (am_tg h a0 = (8, 4) ∧ am_EI m_Spans_add kc ks 74 [.ref a0, .int x1, .int x2] [.int (am_I h a0 3)] h Q)
      refine ⟨o2, ?_⟩
      refine am_if_lt (tgt := 118) dc_Spans_add_74 (by decide) (fun c4 => ?_) (fun c4 => ?_)
      · replace t := t.1 c4
        exact am_vret dc_Spans_add_118 rfl t
      · replace t := t.2 c4
        refine am_blk_ok (c := 8) (ini := false) (by decide) rfl (fun q => by cases q) bk_Spans_add_77_4 _ 85 _ _ _ bk_Spans_add_77_4_ok rfl ?_
        show (am_tg h a0 = (8, 4) ∧ (am_tg h a0 = (8, 4) ∧ am_EI m_Spans_add kc ks 85 [.ref a0, .int x1, .int x2] [.int (am_I h a0 0), .int (am_I h a0 3)] h Q))
        refine ⟨o2, o2, ?_⟩
        refine am_ic_ge (tgt := 118) dc_Spans_add_85 (by decide) (fun c5 => ?_) (fun c5 => ?_)
        · replace t := t.1 c5
          exact am_vret dc_Spans_add_118 rfl t
        · replace t := t.2 c5
          refine am_blk_ok (c := 8) (ini := false) (by decide) rfl (fun q => by cases q) bk_Spans_add_88_18 _ 118 _ _ _ bk_Spans_add_88_18_ok rfl ?_
          show (am_tg h a0 = (8, 4) ∧ (∃ b6, am_P h a0 1 = some b6 ∧ (am_tg h a0 = (8, 4) ∧ ((am_tg h b6).1 = 20 ∧ (vp_in (am_I h a0 3) (am_tg h b6).2 ∧ (am_tg h a0 = (8, 4) ∧ (∃ b7, am_P h a0 2 = some b7 ∧ (am_tg h a0 = (8, 4) ∧ ((am_tg h b7).1 = 20 ∧ (vp_in (am_I (am_si h b6 ((am_I h a0 3).toNatClampNeg) x1) a0 3) (am_tg h b7).2 ∧ (am_tg h a0 = (8, 4) ∧ (am_tg h a0 = (8, 4) ∧ am_EI m_Spans_add kc ks 118 [.ref a0, .int x1, .int x2] [] (am_si (am_si (am_si h b6 ((am_I h a0 3).toNatClampNeg) x1) b7 ((am_I (am_si h b6 ((am_I h a0 3).toNatClampNeg) x1) a0 3).toNatClampNeg) x2) a0 3 ((am_I (am_si (am_si h b6 ((am_I h a0 3).toNatClampNeg) x1) b7 ((am_I (am_si h b6 ((am_I h a0 3).toNatClampNeg) x1) a0 3).toNatClampNeg) x2) a0 3) + 1)) Q))))))))))))
          obtain ⟨b6, q8, o9, o10, b7, q11, o12, o13, t⟩ := t
          refine ⟨o2, b6, q8, o2, o9, o10, o2, b7, q11, o2, o12, o13, o2, o2, ?_⟩
          exact am_vret dc_Spans_add_118 rfl t
    · replace t := t.2 c3
      refine am_blk_ok (c := 8) (ini := false) (by decide) rfl (fun q => by cases q) bk_Spans_add_13_4 _ 21 _ _ _ bk_Spans_add_13_4_ok rfl ?_
      show (am_tg h a0 = (8, 4) ∧ (am_tg h a0 = (8, 4) ∧ am_EI m_Spans_add kc ks 21 [.ref a0, .int x1, .int x2] [.int (am_I h a0 0), .int (am_I h a0 3)] h Q))
      refine ⟨o2, o2, ?_⟩
      refine am_ic_gt (tgt := 70) dc_Spans_add_21 (by decide) (fun c14 => ?_) (fun c14 => ?_)
      · replace t := t.1 c14
        refine am_blk_ok (c := 8) (ini := false) (by decide) rfl (fun q => by cases q) bk_Spans_add_70_2 _ 74 _ _ _ bk_Spans_add_70_2_ok rfl ?_
        show (am_tg h a0 = (8, 4) ∧ am_EI m_Spans_add kc ks 74 [.ref a0, .int x1, .int x2] [.int (am_I h a0 3)] h Q)
        refine ⟨o2, ?_⟩
        refine am_if_lt (tgt := 118) dc_Spans_add_74 (by decide) (fun c15 => ?_) (fun c15 => ?_)
        · replace t := t.1 c15
          exact am_vret dc_Spans_add_118 rfl t
        · replace t := t.2 c15
          refine am_blk_ok (c := 8) (ini := false) (by decide) rfl (fun q => by cases q) bk_Spans_add_77_4 _ 85 _ _ _ bk_Spans_add_77_4_ok rfl ?_
          show (am_tg h a0 = (8, 4) ∧ (am_tg h a0 = (8, 4) ∧ am_EI m_Spans_add kc ks 85 [.ref a0, .int x1, .int x2] [.int (am_I h a0 0), .int (am_I h a0 3)] h Q))
          refine ⟨o2, o2, ?_⟩
          refine am_ic_ge (tgt := 118) dc_Spans_add_85 (by decide) (fun c16 => ?_) (fun c16 => ?_)
          · replace t := t.1 c16
            exact am_vret dc_Spans_add_118 rfl t
          · replace t := t.2 c16
            refine am_blk_ok (c := 8) (ini := false) (by decide) rfl (fun q => by cases q) bk_Spans_add_88_18 _ 118 _ _ _ bk_Spans_add_88_18_ok rfl ?_
            show (am_tg h a0 = (8, 4) ∧ (∃ b17, am_P h a0 1 = some b17 ∧ (am_tg h a0 = (8, 4) ∧ ((am_tg h b17).1 = 20 ∧ (vp_in (am_I h a0 3) (am_tg h b17).2 ∧ (am_tg h a0 = (8, 4) ∧ (∃ b18, am_P h a0 2 = some b18 ∧ (am_tg h a0 = (8, 4) ∧ ((am_tg h b18).1 = 20 ∧ (vp_in (am_I (am_si h b17 ((am_I h a0 3).toNatClampNeg) x1) a0 3) (am_tg h b18).2 ∧ (am_tg h a0 = (8, 4) ∧ (am_tg h a0 = (8, 4) ∧ am_EI m_Spans_add kc ks 118 [.ref a0, .int x1, .int x2] [] (am_si (am_si (am_si h b17 ((am_I h a0 3).toNatClampNeg) x1) b18 ((am_I (am_si h b17 ((am_I h a0 3).toNatClampNeg) x1) a0 3).toNatClampNeg) x2) a0 3 ((am_I (am_si (am_si h b17 ((am_I h a0 3).toNatClampNeg) x1) b18 ((am_I (am_si h b17 ((am_I h a0 3).toNatClampNeg) x1) a0 3).toNatClampNeg) x2) a0 3) + 1)) Q))))))))))))
            obtain ⟨b17, q19, o20, o21, b18, q22, o23, o24, t⟩ := t
            refine ⟨o2, b17, q19, o2, o20, o21, o2, b18, q22, o2, o23, o24, o2, o2, ?_⟩
            exact am_vret dc_Spans_add_118 rfl t
      · replace t := t.2 c14
        refine am_blk_ok (c := 8) (ini := false) (by decide) rfl (fun q => by cases q) bk_Spans_add_24_10 _ 38 _ _ _ bk_Spans_add_24_10_ok rfl ?_
        show (am_tg h a0 = (8, 4) ∧ (∃ b25, am_P h a0 2 = some b25 ∧ (am_tg h a0 = (8, 4) ∧ ((am_tg h b25).1 = 20 ∧ (vp_in ((am_I h a0 3) - 1) (am_tg h b25).2 ∧ am_EI m_Spans_add kc ks 38 [.ref a0, .int x1, .int x2] [.int ((am_I h b25 ((am_I h a0 3) - 1).toNatClampNeg) + 1), .int x1] h Q)))))
        obtain ⟨b25, q26, o27, o28, t⟩ := t
        refine ⟨o2, b25, q26, o2, o27, o28, ?_⟩
        refine am_ic_gt (tgt := 70) dc_Spans_add_38 (by decide) (fun c29 => ?_) (fun c29 => ?_)
        · replace t := t.1 c29
          refine am_blk_ok (c := 8) (ini := false) (by decide) rfl (fun q => by cases q) bk_Spans_add_70_2 _ 74 _ _ _ bk_Spans_add_70_2_ok rfl ?_
          show (am_tg h a0 = (8, 4) ∧ am_EI m_Spans_add kc ks 74 [.ref a0, .int x1, .int x2] [.int (am_I h a0 3)] h Q)
          refine ⟨o2, ?_⟩
          refine am_if_lt (tgt := 118) dc_Spans_add_74 (by decide) (fun c30 => ?_) (fun c30 => ?_)
          · replace t := t.1 c30
            exact am_vret dc_Spans_add_118 rfl t
          · replace t := t.2 c30
            refine am_blk_ok (c := 8) (ini := false) (by decide) rfl (fun q => by cases q) bk_Spans_add_77_4 _ 85 _ _ _ bk_Spans_add_77_4_ok rfl ?_
            show (am_tg h a0 = (8, 4) ∧ (am_tg h a0 = (8, 4) ∧ am_EI m_Spans_add kc ks 85 [.ref a0, .int x1, .int x2] [.int (am_I h a0 0), .int (am_I h a0 3)] h Q))
            refine ⟨o2, o2, ?_⟩
            refine am_ic_ge (tgt := 118) dc_Spans_add_85 (by decide) (fun c31 => ?_) (fun c31 => ?_)
            · replace t := t.1 c31
              exact am_vret dc_Spans_add_118 rfl t
            · replace t := t.2 c31
              refine am_blk_ok (c := 8) (ini := false) (by decide) rfl (fun q => by cases q) bk_Spans_add_88_18 _ 118 _ _ _ bk_Spans_add_88_18_ok rfl ?_
              show (am_tg h a0 = (8, 4) ∧ (∃ b32, am_P h a0 1 = some b32 ∧ (am_tg h a0 = (8, 4) ∧ ((am_tg h b32).1 = 20 ∧ (vp_in (am_I h a0 3) (am_tg h b32).2 ∧ (am_tg h a0 = (8, 4) ∧ (∃ b33, am_P h a0 2 = some b33 ∧ (am_tg h a0 = (8, 4) ∧ ((am_tg h b33).1 = 20 ∧ (vp_in (am_I (am_si h b32 ((am_I h a0 3).toNatClampNeg) x1) a0 3) (am_tg h b33).2 ∧ (am_tg h a0 = (8, 4) ∧ (am_tg h a0 = (8, 4) ∧ am_EI m_Spans_add kc ks 118 [.ref a0, .int x1, .int x2] [] (am_si (am_si (am_si h b32 ((am_I h a0 3).toNatClampNeg) x1) b33 ((am_I (am_si h b32 ((am_I h a0 3).toNatClampNeg) x1) a0 3).toNatClampNeg) x2) a0 3 ((am_I (am_si (am_si h b32 ((am_I h a0 3).toNatClampNeg) x1) b33 ((am_I (am_si h b32 ((am_I h a0 3).toNatClampNeg) x1) a0 3).toNatClampNeg) x2) a0 3) + 1)) Q))))))))))))
              obtain ⟨b32, q34, o35, o36, o37, t⟩ := t
              refine ⟨o2, b32, q34, o2, o35, o36, o2, b25, q26, o2, o27, o37, o2, o2, ?_⟩
              exact am_vret dc_Spans_add_118 rfl t
        · replace t := t.2 c29
          refine am_blk_ok (c := 8) (ini := false) (by decide) rfl (fun q => by cases q) bk_Spans_add_41_14 _ 63 _ _ _ bk_Spans_add_41_14_ok rfl ?_
          show (am_tg h a0 = (8, 4) ∧ (∃ b38, am_P h a0 2 = some b38 ∧ (am_tg h a0 = (8, 4) ∧ (am_tg h a0 = (8, 4) ∧ (∃ b39, am_P h a0 2 = some b39 ∧ (am_tg h a0 = (8, 4) ∧ ((am_tg h b39).1 = 20 ∧ (vp_in ((am_I h a0 3) - 1) (am_tg h b39).2 ∧ am_EI m_Spans_add kc ks 63 [.ref a0, .int x1, .int x2] [.int x2, .int (am_I h b39 ((am_I h a0 3) - 1).toNatClampNeg), .int ((am_I h a0 3) - 1), .ref b38] h Q))))))))
          refine ⟨o2, b25, q26, o2, o2, b25, q26, o2, o27, o28, ?_⟩
          refine am_callS (M2 := m_Math_max) (kc := kc) (ks := ks) (k2c := 0) (k2s := 0) (as := [.int ((am_I h a0 3) - 1), .ref b25]) [.int (am_I h b25 ((am_I h a0 3) - 1).toNatClampNeg), .int x2] dc_Spans_add_63 lk_8_13 st_Math_max lm_Math_max np_Math_max ⟨Nat.le_of_ble_eq_true rfl, Nat.le_of_ble_eq_true rfl⟩ (fun _ => Nat.le_of_ble_eq_true rfl) (am_Ei.end (am_Ei.mono t (fun r41 h40 t => ?_)))
          refine am_blk_ok (c := 8) (ini := false) (by decide) rfl (fun q => by cases q) bk_Spans_add_66_2 _ 118 _ _ _ bk_Spans_add_66_2_ok rfl ?_
          show ((am_tg h40 b25).1 = 20 ∧ (vp_in ((am_I h a0 3) - 1) (am_tg h40 b25).2 ∧ am_EI m_Spans_add kc ks 118 [.ref a0, .int x1, .int x2] [] (am_si h40 b25 (((am_I h a0 3) - 1).toNatClampNeg) r41) Q))
          obtain ⟨o42, o43, t⟩ := t
          refine ⟨o42, o43, ?_⟩
          exact am_vret dc_Spans_add_118 rfl t
  · replace t := t.2 c1
    exact am_vret dc_Spans_add_5 rfl t
set_option maxRecDepth 20000 in
theorem ev_Spans_add (a0 : Nat) (x1 x2 : Int32) (h : am_H) (Q : am_H → Prop) (t : ((x1 ≤ x2 → (am_tg h a0 = (8, 4) ∧ (((am_I h a0 3) ≤ 0 → (((am_I h a0 3) < 0 → Q h) ∧ (¬ (am_I h a0 3) < 0 → (((am_I h a0 0) ≤ (am_I h a0 3) → Q h) ∧ (¬ (am_I h a0 0) ≤ (am_I h a0 3) → (∃ b6, am_P h a0 1 = some b6 ∧ ((am_tg h b6).1 = 20 ∧ (vp_in (am_I h a0 3) (am_tg h b6).2 ∧ (∃ b7, am_P h a0 2 = some b7 ∧ ((am_tg h b7).1 = 20 ∧ (vp_in (am_I (am_si h b6 ((am_I h a0 3).toNatClampNeg) x1) a0 3) (am_tg h b7).2 ∧ Q (am_si (am_si (am_si h b6 ((am_I h a0 3).toNatClampNeg) x1) b7 ((am_I (am_si h b6 ((am_I h a0 3).toNatClampNeg) x1) a0 3).toNatClampNeg) x2) a0 3 ((am_I (am_si (am_si h b6 ((am_I h a0 3).toNatClampNeg) x1) b7 ((am_I (am_si h b6 ((am_I h a0 3).toNatClampNeg) x1) a0 3).toNatClampNeg) x2) a0 3) + 1))))))))))))) ∧ (¬ (am_I h a0 3) ≤ 0 → (((am_I h a0 0) < (am_I h a0 3) → (((am_I h a0 3) < 0 → Q h) ∧ (¬ (am_I h a0 3) < 0 → (((am_I h a0 0) ≤ (am_I h a0 3) → Q h) ∧ (¬ (am_I h a0 0) ≤ (am_I h a0 3) → (∃ b17, am_P h a0 1 = some b17 ∧ ((am_tg h b17).1 = 20 ∧ (vp_in (am_I h a0 3) (am_tg h b17).2 ∧ (∃ b18, am_P h a0 2 = some b18 ∧ ((am_tg h b18).1 = 20 ∧ (vp_in (am_I (am_si h b17 ((am_I h a0 3).toNatClampNeg) x1) a0 3) (am_tg h b18).2 ∧ Q (am_si (am_si (am_si h b17 ((am_I h a0 3).toNatClampNeg) x1) b18 ((am_I (am_si h b17 ((am_I h a0 3).toNatClampNeg) x1) a0 3).toNatClampNeg) x2) a0 3 ((am_I (am_si (am_si h b17 ((am_I h a0 3).toNatClampNeg) x1) b18 ((am_I (am_si h b17 ((am_I h a0 3).toNatClampNeg) x1) a0 3).toNatClampNeg) x2) a0 3) + 1))))))))))))) ∧ (¬ (am_I h a0 0) < (am_I h a0 3) → (∃ b25, am_P h a0 2 = some b25 ∧ ((am_tg h b25).1 = 20 ∧ (vp_in ((am_I h a0 3) - 1) (am_tg h b25).2 ∧ ((((am_I h b25 ((am_I h a0 3) - 1).toNatClampNeg) + 1) < x1 → (((am_I h a0 3) < 0 → Q h) ∧ (¬ (am_I h a0 3) < 0 → (((am_I h a0 0) ≤ (am_I h a0 3) → Q h) ∧ (¬ (am_I h a0 0) ≤ (am_I h a0 3) → (∃ b32, am_P h a0 1 = some b32 ∧ ((am_tg h b32).1 = 20 ∧ (vp_in (am_I h a0 3) (am_tg h b32).2 ∧ (vp_in (am_I (am_si h b32 ((am_I h a0 3).toNatClampNeg) x1) a0 3) (am_tg h b25).2 ∧ Q (am_si (am_si (am_si h b32 ((am_I h a0 3).toNatClampNeg) x1) b25 ((am_I (am_si h b32 ((am_I h a0 3).toNatClampNeg) x1) a0 3).toNatClampNeg) x2) a0 3 ((am_I (am_si (am_si h b32 ((am_I h a0 3).toNatClampNeg) x1) b25 ((am_I (am_si h b32 ((am_I h a0 3).toNatClampNeg) x1) a0 3).toNatClampNeg) x2) a0 3) + 1))))))))))) ∧ (¬ ((am_I h b25 ((am_I h a0 3) - 1).toNatClampNeg) + 1) < x1 → (am_Ei m_Math_max 0 0 [.int (am_I h b25 ((am_I h a0 3) - 1).toNatClampNeg), .int x2] h (fun r41 h40 => ((am_tg h40 b25).1 = 20 ∧ (vp_in ((am_I h a0 3) - 1) (am_tg h40 b25).2 ∧ Q (am_si h40 b25 (((am_I h a0 3) - 1).toNatClampNeg) r41)))))))))))))))) ∧ (¬ x1 ≤ x2 → Q h))) : am_Ew m_Spans_add 0 0 [.ref a0, .int x1, .int x2] h Q :=
  am_Ev.of (by decide +kernel) (Nat.le_of_ble_eq_true rfl) (by simp only [List.mem_cons, List.not_mem_nil, or_false]; intro v hv; rcases hv with rfl | rfl | rfl; all_goals first | exact trivial) (sg_Spans_add_0 (kc := 0) (ks := 0) a0 x1 x2 h (am_qw Q) t)
def bk_Spans_clear_0_3 : List am_E := [(0, .aload_n 0, 1, 0, 0), (1, .iconst 0, 1, 0, 0), (2, .putfield 7, 3, 3212, 0)]
theorem bk_Spans_clear_0_3_ok : bk_Spans_clear_0_3.all (am_ok 8 false m_Spans_clear.2.1) = true := by decide +kernel
theorem dc_Spans_clear_5 : decode m_Spans_clear.2.1 5 = .ok (.return_, 1) := by decide +kernel
set_option maxRecDepth 20000 in
theorem sg_Spans_clear_0 {kc ks : Nat} (a0 : Nat) (h : am_H) (Q : Option Value → am_H → Prop) (t : (am_tg h a0 = (8, 4) ∧ Q none (am_si h a0 3 0))) : am_EI m_Spans_clear kc ks 0 [.ref a0] [] h Q := by
  refine am_blk_ok (c := 8) (ini := false) (by decide) rfl (fun q => by cases q) bk_Spans_clear_0_3 _ 5 _ _ _ bk_Spans_clear_0_3_ok rfl ?_
  show (am_tg h a0 = (8, 4) ∧ am_EI m_Spans_clear kc ks 5 [.ref a0] [] (am_si h a0 3 0) Q)
  obtain ⟨o1, t⟩ := t
  refine ⟨o1, ?_⟩
  exact am_vret dc_Spans_clear_5 rfl t
set_option maxRecDepth 20000 in
theorem ev_Spans_clear (a0 : Nat) (h : am_H) (Q : am_H → Prop) (t : (am_tg h a0 = (8, 4) ∧ Q (am_si h a0 3 0))) : am_Ew m_Spans_clear 0 0 [.ref a0] h Q :=
  am_Ev.of (by decide +kernel) (Nat.le_of_ble_eq_true rfl) (by simp only [List.mem_cons, List.not_mem_nil, or_false]; intro v hv; rcases hv with rfl; all_goals first | exact trivial) (sg_Spans_clear_0 (kc := 0) (ks := 0) a0 h (am_qw Q) t)
def bk_Spans_copyShifted_0_5 : List am_E := [(0, .aload_n 0, 1, 0, 0), (1, .iconst 0, 1, 0, 0), (2, .putfield 7, 3, 3212, 0), (5, .iconst 0, 1, 0, 0), (6, .istore_n 3, 1, 0, 0)]
theorem bk_Spans_copyShifted_0_5_ok : bk_Spans_copyShifted_0_5.all (am_ok 8 false m_Spans_copyShifted.2.1) = true := by decide +kernel
def bk_Spans_copyShifted_7_2 : List am_E := [(7, .iload_n 3, 1, 0, 0), (8, .aload_n 1, 1, 0, 0)]
theorem bk_Spans_copyShifted_7_2_ok : bk_Spans_copyShifted_7_2.all (am_ok 8 false m_Spans_copyShifted.2.1) = true := by decide +kernel
def bk_Spans_copyShifted_15_3 : List am_E := [(15, .aload_n 0, 1, 0, 0), (16, .aload_n 1, 1, 0, 0), (17, .iload_n 3, 1, 0, 0)]
theorem bk_Spans_copyShifted_15_3_ok : bk_Spans_copyShifted_15_3.all (am_ok 8 false m_Spans_copyShifted.2.1) = true := by decide +kernel
def bk_Spans_copyShifted_21_4 : List am_E := [(21, .iload_n 2, 1, 0, 0), (22, .iadd, 1, 0, 0), (23, .aload_n 1, 1, 0, 0), (24, .iload_n 3, 1, 0, 0)]
theorem bk_Spans_copyShifted_21_4_ok : bk_Spans_copyShifted_21_4.all (am_ok 8 false m_Spans_copyShifted.2.1) = true := by decide +kernel
def bk_Spans_copyShifted_28_2 : List am_E := [(28, .iload_n 2, 1, 0, 0), (29, .iadd, 1, 0, 0)]
theorem bk_Spans_copyShifted_28_2_ok : bk_Spans_copyShifted_28_2.all (am_ok 8 false m_Spans_copyShifted.2.1) = true := by decide +kernel
def bk_Spans_copyShifted_33_2 : List am_E := [(33, .iinc 3 1, 3, 0, 1), (36, .goto (-29), 3, 0, -29)]
theorem bk_Spans_copyShifted_33_2_ok : bk_Spans_copyShifted_33_2.all (am_ok 8 false m_Spans_copyShifted.2.1) = true := by decide +kernel
theorem dc_Spans_copyShifted_9 : decode m_Spans_copyShifted.2.1 9 = .ok (.invokevirtual 30, 3) := by decide +kernel
theorem dc_Spans_copyShifted_39 : decode m_Spans_copyShifted.2.1 39 = .ok (.return_, 1) := by decide +kernel
theorem dc_Spans_copyShifted_18 : decode m_Spans_copyShifted.2.1 18 = .ok (.invokevirtual 33, 3) := by decide +kernel
theorem dc_Spans_copyShifted_25 : decode m_Spans_copyShifted.2.1 25 = .ok (.invokevirtual 37, 3) := by decide +kernel
theorem dc_Spans_copyShifted_30 : decode m_Spans_copyShifted.2.1 30 = .ok (.invokevirtual 40, 3) := by decide +kernel
theorem dc_Spans_copyShifted_12 : decode m_Spans_copyShifted.2.1 12 = .ok (.if_icmp .ge 27, 3) := by decide +kernel
set_option maxRecDepth 20000 in
theorem sg_Spans_copyShifted_0 {kc ks : Nat} (a0 a1 : Nat) (x2 : Int32) (h : am_H) (Q : Option Value → am_H → Prop) (t : (am_tg h a0 = (8, 4) ∧ am_EI m_Spans_copyShifted kc ks 7 [.ref a0, .ref a1, .int x2, .int 0] [] (am_si h a0 3 0) Q)) : am_EI m_Spans_copyShifted kc ks 0 [.ref a0, .ref a1, .int x2, .float 0] [] h Q := by
  refine am_blk_ok (c := 8) (ini := false) (by decide) rfl (fun q => by cases q) bk_Spans_copyShifted_0_5 _ 7 _ _ _ bk_Spans_copyShifted_0_5_ok rfl ?_
  show (am_tg h a0 = (8, 4) ∧ am_EI m_Spans_copyShifted kc ks 7 [.ref a0, .ref a1, .int x2, .int 0] [] (am_si h a0 3 0) Q)
  obtain ⟨o1, t⟩ := t
  refine ⟨o1, ?_⟩
  exact t
set_option maxRecDepth 20000 in
theorem ev_Spans_copyShifted (a0 a1 : Nat) (x2 : Int32) (h : am_H) (Q : am_H → Prop) (t : (am_tg h a0 = (8, 4) ∧ am_EI m_Spans_copyShifted 0 0 7 [.ref a0, .ref a1, .int x2, .int 0] [] (am_si h a0 3 0) (am_qw Q))) : am_Ew m_Spans_copyShifted 0 0 [.ref a0, .ref a1, .int x2] h Q :=
  am_Ev.of (by decide +kernel) (Nat.le_of_ble_eq_true rfl) (by simp only [List.mem_cons, List.not_mem_nil, or_false]; intro v hv; rcases hv with rfl | rfl | rfl; all_goals first | exact trivial) (sg_Spans_copyShifted_0 (kc := 0) (ks := 0) a0 a1 x2 h (am_qw Q) t)
set_option maxRecDepth 20000 in
theorem sg_Spans_copyShifted_7 {kc ks : Nat} (a0 a1 : Nat) (x2 x3 : Int32) (h : am_H) (Q : Option Value → am_H → Prop) (t : (am_tg h a1 = (8, 4) ∧ (am_Ei m_Spans_size 0 0 [.ref a1] h (fun r3 h2 => ((r3 ≤ x3 → Q none h2) ∧ (¬ r3 ≤ x3 → (am_tg h2 a1 = (8, 4) ∧ (am_Ei m_Spans_firstOf 0 0 [.ref a1, .int x3] h2 (fun r7 h6 => (am_tg h6 a1 = (8, 4) ∧ (am_Ei m_Spans_lastOf 0 0 [.ref a1, .int x3] h6 (fun r10 h9 => (am_tg h9 a0 = (8, 4) ∧ (am_Ew m_Spans_add 0 0 [.ref a0, .int (r7 + x2), .int (r10 + x2)] h9 (fun h12 => am_EI m_Spans_copyShifted kc ks 7 [.ref a0, .ref a1, .int x2, .int (x3 + 1)] [] h12 Q))))))))))))))) : am_EI m_Spans_copyShifted kc ks 7 [.ref a0, .ref a1, .int x2, .int x3] [] h Q := by
  refine am_blk_ok (c := 8) (ini := false) (by decide) rfl (fun q => by cases q) bk_Spans_copyShifted_7_2 _ 9 _ _ _ bk_Spans_copyShifted_7_2_ok rfl ?_
  show am_EI m_Spans_copyShifted kc ks 9 [.ref a0, .ref a1, .int x2, .int x3] [.ref a1, .int x3] h Q
  obtain ⟨o1, t⟩ := t
  refine am_callV (M2 := m_Spans_size) (ci := 8) (a := a1) (kc := kc) (ks := ks) (k2c := 0) (k2s := 0) (as := [.int x3]) [] dc_Spans_copyShifted_9 lk_8_30 im_Spans_size se_Spans_size lm_Spans_size np_Spans_size ⟨Nat.le_of_ble_eq_true rfl, Nat.le_of_ble_eq_true rfl⟩ (fun _ => Nat.le_of_ble_eq_true rfl) (by decide) rfl o1 (am_Ei.end (am_Ei.mono t (fun r3 h2 t => ?_)))
  refine am_ic_ge (tgt := 39) dc_Spans_copyShifted_12 (by decide) (fun c4 => ?_) (fun c4 => ?_)
  · replace t := t.1 c4
    exact am_vret dc_Spans_copyShifted_39 rfl t
  · replace t := t.2 c4
    refine am_blk_ok (c := 8) (ini := false) (by decide) rfl (fun q => by cases q) bk_Spans_copyShifted_15_3 _ 18 _ _ _ bk_Spans_copyShifted_15_3_ok rfl ?_
    show am_EI m_Spans_copyShifted kc ks 18 [.ref a0, .ref a1, .int x2, .int x3] [.int x3, .ref a1, .ref a0] h2 Q
    obtain ⟨o5, t⟩ := t
    refine am_callV (M2 := m_Spans_firstOf) (ci := 8) (a := a1) (kc := kc) (ks := ks) (k2c := 0) (k2s := 0) (as := [.ref a0]) [.int x3] dc_Spans_copyShifted_18 lk_8_33 im_Spans_firstOf se_Spans_firstOf lm_Spans_firstOf np_Spans_firstOf ⟨Nat.le_of_ble_eq_true rfl, Nat.le_of_ble_eq_true rfl⟩ (fun _ => Nat.le_of_ble_eq_true rfl) (by decide) rfl o5 (am_Ei.end (am_Ei.mono t (fun r7 h6 t => ?_)))
    refine am_blk_ok (c := 8) (ini := false) (by decide) rfl (fun q => by cases q) bk_Spans_copyShifted_21_4 _ 25 _ _ _ bk_Spans_copyShifted_21_4_ok rfl ?_
    show am_EI m_Spans_copyShifted kc ks 25 [.ref a0, .ref a1, .int x2, .int x3] [.int x3, .ref a1, .int (r7 + x2), .ref a0] h6 Q
    obtain ⟨o8, t⟩ := t
    refine am_callV (M2 := m_Spans_lastOf) (ci := 8) (a := a1) (kc := kc) (ks := ks) (k2c := 0) (k2s := 0) (as := [.int (r7 + x2), .ref a0]) [.int x3] dc_Spans_copyShifted_25 lk_8_37 im_Spans_lastOf se_Spans_lastOf lm_Spans_lastOf np_Spans_lastOf ⟨Nat.le_of_ble_eq_true rfl, Nat.le_of_ble_eq_true rfl⟩ (fun _ => Nat.le_of_ble_eq_true rfl) (by decide) rfl o8 (am_Ei.end (am_Ei.mono t (fun r10 h9 t => ?_)))
    refine am_blk_ok (c := 8) (ini := false) (by decide) rfl (fun q => by cases q) bk_Spans_copyShifted_28_2 _ 30 _ _ _ bk_Spans_copyShifted_28_2_ok rfl ?_
    show am_EI m_Spans_copyShifted kc ks 30 [.ref a0, .ref a1, .int x2, .int x3] [.int (r10 + x2), .int (r7 + x2), .ref a0] h9 Q
    obtain ⟨o11, t⟩ := t
    refine am_callV (M2 := m_Spans_add) (ci := 8) (a := a0) (kc := kc) (ks := ks) (k2c := 0) (k2s := 0) (as := []) [.int (r7 + x2), .int (r10 + x2)] dc_Spans_copyShifted_30 lk_8_40 im_Spans_add se_Spans_add lm_Spans_add np_Spans_add ⟨Nat.le_of_ble_eq_true rfl, Nat.le_of_ble_eq_true rfl⟩ (fun _ => Nat.le_of_ble_eq_true rfl) (by decide) rfl o11 (am_Ew.end (am_Ew.mono t (fun h12 t => ?_)))
    refine am_blk_ok (c := 8) (ini := false) (by decide) rfl (fun q => by cases q) bk_Spans_copyShifted_33_2 _ 7 _ _ _ bk_Spans_copyShifted_33_2_ok rfl ?_
    show am_EI m_Spans_copyShifted kc ks 7 [.ref a0, .ref a1, .int x2, .int (x3 + 1)] [] h12 Q
    exact t
def bk_Spans_countAll_0_4 : List am_E := [(0, .iconst 0, 1, 0, 0), (1, .istore_n 1, 1, 0, 0), (2, .iconst 0, 1, 0, 0), (3, .istore_n 2, 1, 0, 0)]
theorem bk_Spans_countAll_0_4_ok : bk_Spans_countAll_0_4.all (am_ok 8 false m_Spans_countAll.2.1) = true := by decide +kernel
def bk_Spans_countAll_4_3 : List am_E := [(4, .iload_n 2, 1, 0, 0), (5, .aload_n 0, 1, 0, 0), (6, .getfield 7, 3, 3212, 0)]
theorem bk_Spans_countAll_4_3_ok : bk_Spans_countAll_4_3.all (am_ok 8 false m_Spans_countAll.2.1) = true := by decide +kernel
def bk_Spans_countAll_34_1 : List am_E := [(34, .iload_n 1, 1, 0, 0)]
theorem bk_Spans_countAll_34_1_ok : bk_Spans_countAll_34_1.all (am_ok 8 false m_Spans_countAll.2.1) = true := by decide +kernel
def bk_Spans_countAll_12_3 : List am_E := [(12, .iload_n 1, 1, 0, 0), (13, .aload_n 0, 1, 0, 0), (14, .iload_n 2, 1, 0, 0)]
theorem bk_Spans_countAll_12_3_ok : bk_Spans_countAll_12_3.all (am_ok 8 false m_Spans_countAll.2.1) = true := by decide +kernel
def bk_Spans_countAll_18_2 : List am_E := [(18, .aload_n 0, 1, 0, 0), (19, .iload_n 2, 1, 0, 0)]
theorem bk_Spans_countAll_18_2_ok : bk_Spans_countAll_18_2.all (am_ok 8 false m_Spans_countAll.2.1) = true := by decide +kernel
def bk_Spans_countAll_23_7 : List am_E := [(23, .isub, 1, 0, 0), (24, .iconst 1, 1, 0, 1), (25, .iadd, 1, 0, 0), (26, .iadd, 1, 0, 0), (27, .istore_n 1, 1, 0, 0), (28, .iinc 2 1, 3, 0, 1), (31, .goto (-27), 3, 0, -27)]
theorem bk_Spans_countAll_23_7_ok : bk_Spans_countAll_23_7.all (am_ok 8 false m_Spans_countAll.2.1) = true := by decide +kernel
theorem dc_Spans_countAll_35 : decode m_Spans_countAll.2.1 35 = .ok (.ireturn, 1) := by decide +kernel
theorem dc_Spans_countAll_15 : decode m_Spans_countAll.2.1 15 = .ok (.invokevirtual 37, 3) := by decide +kernel
theorem dc_Spans_countAll_20 : decode m_Spans_countAll.2.1 20 = .ok (.invokevirtual 33, 3) := by decide +kernel
theorem dc_Spans_countAll_9 : decode m_Spans_countAll.2.1 9 = .ok (.if_icmp .ge 25, 3) := by decide +kernel
set_option maxRecDepth 20000 in
theorem sg_Spans_countAll_0 {kc ks : Nat} (a0 : Nat) (h : am_H) (Q : Option Value → am_H → Prop) (t : am_EI m_Spans_countAll kc ks 4 [.ref a0, .int 0, .int 0] [] h Q) : am_EI m_Spans_countAll kc ks 0 [.ref a0, .float 0, .float 0] [] h Q := by
  refine am_blk_ok (c := 8) (ini := false) (by decide) rfl (fun q => by cases q) bk_Spans_countAll_0_4 _ 4 _ _ _ bk_Spans_countAll_0_4_ok rfl ?_
  show am_EI m_Spans_countAll kc ks 4 [.ref a0, .int 0, .int 0] [] h Q
  exact t
set_option maxRecDepth 20000 in
theorem ev_Spans_countAll (a0 : Nat) (h : am_H) (Q : Int32 → am_H → Prop) (t : am_EI m_Spans_countAll 0 0 4 [.ref a0, .int 0, .int 0] [] h (am_qi Q)) : am_Ei m_Spans_countAll 0 0 [.ref a0] h Q :=
  am_Ev.of (by decide +kernel) (Nat.le_of_ble_eq_true rfl) (by simp only [List.mem_cons, List.not_mem_nil, or_false]; intro v hv; rcases hv with rfl; all_goals first | exact trivial) (sg_Spans_countAll_0 (kc := 0) (ks := 0) a0 h (am_qi Q) t)
set_option maxRecDepth 20000 in
theorem sg_Spans_countAll_4 {kc ks : Nat} (a0 : Nat) (x1 x2 : Int32) (h : am_H) (Q : Option Value → am_H → Prop) (t : (am_tg h a0 = (8, 4) ∧ (((am_I h a0 3) ≤ x2 → Q (some (.int x1)) h) ∧ (¬ (am_I h a0 3) ≤ x2 → (am_Ei m_Spans_lastOf 0 0 [.ref a0, .int x2] h (fun r4 h3 => (am_tg h3 a0 = (8, 4) ∧ (am_Ei m_Spans_firstOf 0 0 [.ref a0, .int x2] h3 (fun r7 h6 => am_EI m_Spans_countAll kc ks 4 [.ref a0, .int (x1 + ((r4 - r7) + 1)), .int (x2 + 1)] [] h6 Q))))))))) : am_EI m_Spans_countAll kc ks 4 [.ref a0, .int x1, .int x2] [] h Q := by
  refine am_blk_ok (c := 8) (ini := false) (by decide) rfl (fun q => by cases q) bk_Spans_countAll_4_3 _ 9 _ _ _ bk_Spans_countAll_4_3_ok rfl ?_
  show (am_tg h a0 = (8, 4) ∧ am_EI m_Spans_countAll kc ks 9 [.ref a0, .int x1, .int x2] [.int (am_I h a0 3), .int x2] h Q)
  obtain ⟨o1, t⟩ := t
  refine ⟨o1, ?_⟩
  refine am_ic_ge (tgt := 34) dc_Spans_countAll_9 (by decide) (fun c2 => ?_) (fun c2 => ?_)
  · replace t := t.1 c2
    refine am_blk_ok (c := 8) (ini := false) (by decide) rfl (fun q => by cases q) bk_Spans_countAll_34_1 _ 35 _ _ _ bk_Spans_countAll_34_1_ok rfl ?_
    show am_EI m_Spans_countAll kc ks 35 [.ref a0, .int x1, .int x2] [.int x1] h Q
    exact am_iret dc_Spans_countAll_35 rfl t
  · replace t := t.2 c2
    refine am_blk_ok (c := 8) (ini := false) (by decide) rfl (fun q => by cases q) bk_Spans_countAll_12_3 _ 15 _ _ _ bk_Spans_countAll_12_3_ok rfl ?_
    show am_EI m_Spans_countAll kc ks 15 [.ref a0, .int x1, .int x2] [.int x2, .ref a0, .int x1] h Q
    refine am_callV (M2 := m_Spans_lastOf) (ci := 8) (a := a0) (kc := kc) (ks := ks) (k2c := 0) (k2s := 0) (as := [.int x1]) [.int x2] dc_Spans_countAll_15 lk_8_37 im_Spans_lastOf se_Spans_lastOf lm_Spans_lastOf np_Spans_lastOf ⟨Nat.le_of_ble_eq_true rfl, Nat.le_of_ble_eq_true rfl⟩ (fun _ => Nat.le_of_ble_eq_true rfl) (by decide) rfl o1 (am_Ei.end (am_Ei.mono t (fun r4 h3 t => ?_)))
    refine am_blk_ok (c := 8) (ini := false) (by decide) rfl (fun q => by cases q) bk_Spans_countAll_18_2 _ 20 _ _ _ bk_Spans_countAll_18_2_ok rfl ?_
    show am_EI m_Spans_countAll kc ks 20 [.ref a0, .int x1, .int x2] [.int x2, .ref a0, .int r4, .int x1] h3 Q
    obtain ⟨o5, t⟩ := t
    refine am_callV (M2 := m_Spans_firstOf) (ci := 8) (a := a0) (kc := kc) (ks := ks) (k2c := 0) (k2s := 0) (as := [.int r4, .int x1]) [.int x2] dc_Spans_countAll_20 lk_8_33 im_Spans_firstOf se_Spans_firstOf lm_Spans_firstOf np_Spans_firstOf ⟨Nat.le_of_ble_eq_true rfl, Nat.le_of_ble_eq_true rfl⟩ (fun _ => Nat.le_of_ble_eq_true rfl) (by decide) rfl o5 (am_Ei.end (am_Ei.mono t (fun r7 h6 t => ?_)))
    refine am_blk_ok (c := 8) (ini := false) (by decide) rfl (fun q => by cases q) bk_Spans_countAll_23_7 _ 4 _ _ _ bk_Spans_countAll_23_7_ok rfl ?_
    show am_EI m_Spans_countAll kc ks 4 [.ref a0, .int (x1 + ((r4 - r7) + 1)), .int (x2 + 1)] [] h6 Q
    exact t
def bk_Spans_earliestFrom_0_2 : List am_E := [(0, .iconst 0, 1, 0, 0), (1, .istore_n 2, 1, 0, 0)]
theorem bk_Spans_earliestFrom_0_2_ok : bk_Spans_earliestFrom_0_2.all (am_ok 8 false m_Spans_earliestFrom.2.1) = true := by decide +kernel
def bk_Spans_earliestFrom_2_3 : List am_E := [(2, .iload_n 2, 1, 0, 0), (3, .aload_n 0, 1, 0, 0), (4, .getfield 7, 3, 3212, 0)]
theorem bk_Spans_earliestFrom_2_3_ok : bk_Spans_earliestFrom_2_3.all (am_ok 8 false m_Spans_earliestFrom.2.1) = true := by decide +kernel
def bk_Spans_earliestFrom_35_1 : List am_E := [(35, .ldc 29, 2, 0, -2147483648)]
theorem bk_Spans_earliestFrom_35_1_ok : bk_Spans_earliestFrom_35_1.all (am_ok 8 false m_Spans_earliestFrom.2.1) = true := by decide +kernel
def bk_Spans_earliestFrom_10_2 : List am_E := [(10, .aload_n 0, 1, 0, 0), (11, .iload_n 2, 1, 0, 0)]
theorem bk_Spans_earliestFrom_10_2_ok : bk_Spans_earliestFrom_10_2.all (am_ok 8 false m_Spans_earliestFrom.2.1) = true := by decide +kernel
def bk_Spans_earliestFrom_15_1 : List am_E := [(15, .iload_n 1, 1, 0, 0)]
theorem bk_Spans_earliestFrom_15_1_ok : bk_Spans_earliestFrom_15_1.all (am_ok 8 false m_Spans_earliestFrom.2.1) = true := by decide +kernel
def bk_Spans_earliestFrom_29_2 : List am_E := [(29, .iinc 2 1, 3, 0, 1), (32, .goto (-30), 3, 0, -30)]
theorem bk_Spans_earliestFrom_29_2_ok : bk_Spans_earliestFrom_29_2.all (am_ok 8 false m_Spans_earliestFrom.2.1) = true := by decide +kernel
def bk_Spans_earliestFrom_19_2 : List am_E := [(19, .aload_n 0, 1, 0, 0), (20, .iload_n 2, 1, 0, 0)]
theorem bk_Spans_earliestFrom_19_2_ok : bk_Spans_earliestFrom_19_2.all (am_ok 8 false m_Spans_earliestFrom.2.1) = true := by decide +kernel
def bk_Spans_earliestFrom_24_1 : List am_E := [(24, .iload_n 1, 1, 0, 0)]
theorem bk_Spans_earliestFrom_24_1_ok : bk_Spans_earliestFrom_24_1.all (am_ok 8 false m_Spans_earliestFrom.2.1) = true := by decide +kernel
theorem dc_Spans_earliestFrom_37 : decode m_Spans_earliestFrom.2.1 37 = .ok (.ireturn, 1) := by decide +kernel
theorem dc_Spans_earliestFrom_12 : decode m_Spans_earliestFrom.2.1 12 = .ok (.invokevirtual 37, 3) := by decide +kernel
theorem dc_Spans_earliestFrom_21 : decode m_Spans_earliestFrom.2.1 21 = .ok (.invokevirtual 33, 3) := by decide +kernel
theorem dc_Spans_earliestFrom_25 : decode m_Spans_earliestFrom.2.1 25 = .ok (.invokestatic 13, 3) := by decide +kernel
theorem dc_Spans_earliestFrom_28 : decode m_Spans_earliestFrom.2.1 28 = .ok (.ireturn, 1) := by decide +kernel
theorem dc_Spans_earliestFrom_16 : decode m_Spans_earliestFrom.2.1 16 = .ok (.if_icmp .lt 13, 3) := by decide +kernel
theorem dc_Spans_earliestFrom_7 : decode m_Spans_earliestFrom.2.1 7 = .ok (.if_icmp .ge 28, 3) := by decide +kernel
set_option maxRecDepth 20000 in
theorem sg_Spans_earliestFrom_0 {kc ks : Nat} (a0 : Nat) (x1 : Int32) (h : am_H) (Q : Option Value → am_H → Prop) (t : am_EI m_Spans_earliestFrom kc ks 2 [.ref a0, .int x1, .int 0] [] h Q) : am_EI m_Spans_earliestFrom kc ks 0 [.ref a0, .int x1, .float 0] [] h Q := by
  refine am_blk_ok (c := 8) (ini := false) (by decide) rfl (fun q => by cases q) bk_Spans_earliestFrom_0_2 _ 2 _ _ _ bk_Spans_earliestFrom_0_2_ok rfl ?_
  show am_EI m_Spans_earliestFrom kc ks 2 [.ref a0, .int x1, .int 0] [] h Q
  exact t
set_option maxRecDepth 20000 in
theorem ev_Spans_earliestFrom (a0 : Nat) (x1 : Int32) (h : am_H) (Q : Int32 → am_H → Prop) (t : am_EI m_Spans_earliestFrom 0 0 2 [.ref a0, .int x1, .int 0] [] h (am_qi Q)) : am_Ei m_Spans_earliestFrom 0 0 [.ref a0, .int x1] h Q :=
  am_Ev.of (by decide +kernel) (Nat.le_of_ble_eq_true rfl) (by simp only [List.mem_cons, List.not_mem_nil, or_false]; intro v hv; rcases hv with rfl | rfl; all_goals first | exact trivial) (sg_Spans_earliestFrom_0 (kc := 0) (ks := 0) a0 x1 h (am_qi Q) t)
set_option maxRecDepth 20000 in
theorem sg_Spans_earliestFrom_2 {kc ks : Nat} (a0 : Nat) (x1 x2 : Int32) (h : am_H) (Q : Option Value → am_H → Prop) (t : (am_tg h a0 = (8, 4) ∧ (((am_I h a0 3) ≤ x2 → Q (some (.int (-2147483648))) h) ∧ (¬ (am_I h a0 3) ≤ x2 → (am_Ei m_Spans_lastOf 0 0 [.ref a0, .int x2] h (fun r4 h3 => ((r4 < x1 → am_EI m_Spans_earliestFrom kc ks 2 [.ref a0, .int x1, .int (x2 + 1)] [] h3 Q) ∧ (¬ r4 < x1 → (am_tg h3 a0 = (8, 4) ∧ (am_Ei m_Spans_firstOf 0 0 [.ref a0, .int x2] h3 (fun r8 h7 => (am_Ei m_Math_max 0 0 [.int r8, .int x1] h7 (fun r10 h9 => Q (some (.int r10)) h9))))))))))))) : am_EI m_Spans_earliestFrom kc ks 2 [.ref a0, .int x1, .int x2] [] h Q := by
  refine am_blk_ok (c := 8) (ini := false) (by decide) rfl (fun q => by cases q) bk_Spans_earliestFrom_2_3 _ 7 _ _ _ bk_Spans_earliestFrom_2_3_ok rfl ?_
  show (am_tg h a0 = (8, 4) ∧ am_EI m_Spans_earliestFrom kc ks 7 [.ref a0, .int x1, .int x2] [.int (am_I h a0 3), .int x2] h Q)
  obtain ⟨o1, t⟩ := t
  refine ⟨o1, ?_⟩
  refine am_ic_ge (tgt := 35) dc_Spans_earliestFrom_7 (by decide) (fun c2 => ?_) (fun c2 => ?_)
  · replace t := t.1 c2
    refine am_blk_ok (c := 8) (ini := false) (by decide) rfl (fun q => by cases q) bk_Spans_earliestFrom_35_1 _ 37 _ _ _ bk_Spans_earliestFrom_35_1_ok rfl ?_
    show am_EI m_Spans_earliestFrom kc ks 37 [.ref a0, .int x1, .int x2] [.int (-2147483648)] h Q
    exact am_iret dc_Spans_earliestFrom_37 rfl t
  · replace t := t.2 c2
    refine am_blk_ok (c := 8) (ini := false) (by decide) rfl (fun q => by cases q) bk_Spans_earliestFrom_10_2 _ 12 _ _ _ bk_Spans_earliestFrom_10_2_ok rfl ?_
    show am_EI m_Spans_earliestFrom kc ks 12 [.ref a0, .int x1, .int x2] [.int x2, .ref a0] h Q
    refine am_callV (M2 := m_Spans_lastOf) (ci := 8) (a := a0) (kc := kc) (ks := ks) (k2c := 0) (k2s := 0) (as := []) [.int x2] dc_Spans_earliestFrom_12 lk_8_37 im_Spans_lastOf se_Spans_lastOf lm_Spans_lastOf np_Spans_lastOf ⟨Nat.le_of_ble_eq_true rfl, Nat.le_of_ble_eq_true rfl⟩ (fun _ => Nat.le_of_ble_eq_true rfl) (by decide) rfl o1 (am_Ei.end (am_Ei.mono t (fun r4 h3 t => ?_)))
    refine am_blk_ok (c := 8) (ini := false) (by decide) rfl (fun q => by cases q) bk_Spans_earliestFrom_15_1 _ 16 _ _ _ bk_Spans_earliestFrom_15_1_ok rfl ?_
    show am_EI m_Spans_earliestFrom kc ks 16 [.ref a0, .int x1, .int x2] [.int x1, .int r4] h3 Q
    refine am_ic_lt (tgt := 29) dc_Spans_earliestFrom_16 (by decide) (fun c5 => ?_) (fun c5 => ?_)
    · replace t := t.1 c5
      refine am_blk_ok (c := 8) (ini := false) (by decide) rfl (fun q => by cases q) bk_Spans_earliestFrom_29_2 _ 2 _ _ _ bk_Spans_earliestFrom_29_2_ok rfl ?_
      show am_EI m_Spans_earliestFrom kc ks 2 [.ref a0, .int x1, .int (x2 + 1)] [] h3 Q
      exact t
    · replace t := t.2 c5
      refine am_blk_ok (c := 8) (ini := false) (by decide) rfl (fun q => by cases q) bk_Spans_earliestFrom_19_2 _ 21 _ _ _ bk_Spans_earliestFrom_19_2_ok rfl ?_
      show am_EI m_Spans_earliestFrom kc ks 21 [.ref a0, .int x1, .int x2] [.int x2, .ref a0] h3 Q
      obtain ⟨o6, t⟩ := t
      refine am_callV (M2 := m_Spans_firstOf) (ci := 8) (a := a0) (kc := kc) (ks := ks) (k2c := 0) (k2s := 0) (as := []) [.int x2] dc_Spans_earliestFrom_21 lk_8_33 im_Spans_firstOf se_Spans_firstOf lm_Spans_firstOf np_Spans_firstOf ⟨Nat.le_of_ble_eq_true rfl, Nat.le_of_ble_eq_true rfl⟩ (fun _ => Nat.le_of_ble_eq_true rfl) (by decide) rfl o6 (am_Ei.end (am_Ei.mono t (fun r8 h7 t => ?_)))
      refine am_blk_ok (c := 8) (ini := false) (by decide) rfl (fun q => by cases q) bk_Spans_earliestFrom_24_1 _ 25 _ _ _ bk_Spans_earliestFrom_24_1_ok rfl ?_
      show am_EI m_Spans_earliestFrom kc ks 25 [.ref a0, .int x1, .int x2] [.int x1, .int r8] h7 Q
      refine am_callS (M2 := m_Math_max) (kc := kc) (ks := ks) (k2c := 0) (k2s := 0) (as := []) [.int r8, .int x1] dc_Spans_earliestFrom_25 lk_8_13 st_Math_max lm_Math_max np_Math_max ⟨Nat.le_of_ble_eq_true rfl, Nat.le_of_ble_eq_true rfl⟩ (fun _ => Nat.le_of_ble_eq_true rfl) (am_Ei.end (am_Ei.mono t (fun r10 h9 t => ?_)))
      exact am_iret dc_Spans_earliestFrom_28 rfl t
def bk_Spans_firstOf_0_1 : List am_E := [(0, .iload_n 1, 1, 0, 0)]
theorem bk_Spans_firstOf_0_1_ok : bk_Spans_firstOf_0_1.all (am_ok 8 false m_Spans_firstOf.2.1) = true := by decide +kernel
def bk_Spans_firstOf_29_1 : List am_E := [(29, .ldc 29, 2, 0, -2147483648)]
theorem bk_Spans_firstOf_29_1_ok : bk_Spans_firstOf_29_1.all (am_ok 8 false m_Spans_firstOf.2.1) = true := by decide +kernel
def bk_Spans_firstOf_4_3 : List am_E := [(4, .iload_n 1, 1, 0, 0), (5, .aload_n 0, 1, 0, 0), (6, .getfield 7, 3, 3212, 0)]
theorem bk_Spans_firstOf_4_3_ok : bk_Spans_firstOf_4_3.all (am_ok 8 false m_Spans_firstOf.2.1) = true := by decide +kernel
def bk_Spans_firstOf_12_3 : List am_E := [(12, .iload_n 1, 1, 0, 0), (13, .aload_n 0, 1, 0, 0), (14, .getfield 19, 3, 3200, 0)]
theorem bk_Spans_firstOf_12_3_ok : bk_Spans_firstOf_12_3.all (am_ok 8 false m_Spans_firstOf.2.1) = true := by decide +kernel
def bk_Spans_firstOf_20_5 : List am_E := [(20, .aload_n 0, 1, 0, 0), (21, .getfield 22, 3, 3205, 0), (24, .iload_n 1, 1, 0, 0), (25, .iaload, 1, 0, 0), (26, .goto 5, 3, 0, 5)]
theorem bk_Spans_firstOf_20_5_ok : bk_Spans_firstOf_20_5.all (am_ok 8 false m_Spans_firstOf.2.1) = true := by decide +kernel
theorem dc_Spans_firstOf_31 : decode m_Spans_firstOf.2.1 31 = .ok (.ireturn, 1) := by decide +kernel
theorem dc_Spans_firstOf_17 : decode m_Spans_firstOf.2.1 17 = .ok (.if_icmp .ge 12, 3) := by decide +kernel
theorem dc_Spans_firstOf_9 : decode m_Spans_firstOf.2.1 9 = .ok (.if_icmp .ge 20, 3) := by decide +kernel
theorem dc_Spans_firstOf_1 : decode m_Spans_firstOf.2.1 1 = .ok (.ifCond .lt 28, 3) := by decide +kernel
set_option maxRecDepth 20000 in
theorem sg_Spans_firstOf_0 {kc ks : Nat} (a0 : Nat) (x1 : Int32) (h : am_H) (Q : Option Value → am_H → Prop) (t : ((x1 < 0 → Q (some (.int (-2147483648))) h) ∧ (¬ x1 < 0 → (am_tg h a0 = (8, 4) ∧ (((am_I h a0 3) ≤ x1 → Q (some (.int (-2147483648))) h) ∧ (¬ (am_I h a0 3) ≤ x1 → (((am_I h a0 0) ≤ x1 → Q (some (.int (-2147483648))) h) ∧ (¬ (am_I h a0 0) ≤ x1 → (∃ b5, am_P h a0 1 = some b5 ∧ ((am_tg h b5).1 = 20 ∧ (vp_in x1 (am_tg h b5).2 ∧ Q (some (.int (am_I h b5 x1.toNatClampNeg))) h))))))))))) : am_EI m_Spans_firstOf kc ks 0 [.ref a0, .int x1] [] h Q := by
  refine am_blk_ok (c := 8) (ini := false) (by decide) rfl (fun q => by cases q) bk_Spans_firstOf_0_1 _ 1 _ _ _ bk_Spans_firstOf_0_1_ok rfl ?_
  show am_EI m_Spans_firstOf kc ks 1 [.ref a0, .int x1] [.int x1] h Q
  refine am_if_lt (tgt := 29) dc_Spans_firstOf_1 (by decide) (fun c1 => ?_) (fun c1 => ?_)
  · replace t := t.1 c1
    refine am_blk_ok (c := 8) (ini := false) (by decide) rfl (fun q => by cases q) bk_Spans_firstOf_29_1 _ 31 _ _ _ bk_Spans_firstOf_29_1_ok rfl ?_
    show am_EI m_Spans_firstOf kc ks 31 [.ref a0, .int x1] [.int (-2147483648)] h Q
    exact am_iret dc_Spans_firstOf_31 rfl t
  · replace t := t.2 c1
    refine am_blk_ok (c := 8) (ini := false) (by decide) rfl (fun q => by cases q) bk_Spans_firstOf_4_3 _ 9 _ _ _ bk_Spans_firstOf_4_3_ok rfl ?_
    show (am_tg h a0 = (8, 4) ∧ am_EI m_Spans_firstOf kc ks 9 [.ref a0, .int x1] [.int (am_I h a0 3), .int x1] h Q)
    obtain ⟨o2, t⟩ := t
    refine ⟨o2, ?_⟩
    refine am_ic_ge (tgt := 29) dc_Spans_firstOf_9 (by decide) (fun c3 => ?_) (fun c3 => ?_)
    · replace t := t.1 c3
      refine am_blk_ok (c := 8) (ini := false) (by decide) rfl (fun q => by cases q) bk_Spans_firstOf_29_1 _ 31 _ _ _ bk_Spans_firstOf_29_1_ok rfl ?_
      show am_EI m_Spans_firstOf kc ks 31 [.ref a0, .int x1] [.int (-2147483648)] h Q
      exact am_iret dc_Spans_firstOf_31 rfl t
    · replace t := t.2 c3
      refine am_blk_ok (c := 8) (ini := false) (by decide) rfl (fun q => by cases q) bk_Spans_firstOf_12_3 _ 17 _ _ _ bk_Spans_firstOf_12_3_ok rfl ?_
      show (am_tg h a0 = (8, 4) ∧ am_EI m_Spans_firstOf kc ks 17 [.ref a0, .int x1] [.int (am_I h a0 0), .int x1] h Q)
      refine ⟨o2, ?_⟩
      refine am_ic_ge (tgt := 29) dc_Spans_firstOf_17 (by decide) (fun c4 => ?_) (fun c4 => ?_)
      · replace t := t.1 c4
        refine am_blk_ok (c := 8) (ini := false) (by decide) rfl (fun q => by cases q) bk_Spans_firstOf_29_1 _ 31 _ _ _ bk_Spans_firstOf_29_1_ok rfl ?_
        show am_EI m_Spans_firstOf kc ks 31 [.ref a0, .int x1] [.int (-2147483648)] h Q
        exact am_iret dc_Spans_firstOf_31 rfl t
      · replace t := t.2 c4
        refine am_blk_ok (c := 8) (ini := false) (by decide) rfl (fun q => by cases q) bk_Spans_firstOf_20_5 _ 31 _ _ _ bk_Spans_firstOf_20_5_ok rfl ?_
        show (am_tg h a0 = (8, 4) ∧ (∃ b5, am_P h a0 1 = some b5 ∧ ((am_tg h b5).1 = 20 ∧ (vp_in x1 (am_tg h b5).2 ∧ am_EI m_Spans_firstOf kc ks 31 [.ref a0, .int x1] [.int (am_I h b5 x1.toNatClampNeg)] h Q))))
        obtain ⟨b5, q6, o7, o8, t⟩ := t
        refine ⟨o2, b5, q6, o7, o8, ?_⟩
        exact am_iret dc_Spans_firstOf_31 rfl t
set_option maxRecDepth 20000 in
theorem ev_Spans_firstOf (a0 : Nat) (x1 : Int32) (h : am_H) (Q : Int32 → am_H → Prop) (t : ((x1 < 0 → Q (-2147483648) h) ∧ (¬ x1 < 0 → (am_tg h a0 = (8, 4) ∧ (((am_I h a0 3) ≤ x1 → Q (-2147483648) h) ∧ (¬ (am_I h a0 3) ≤ x1 → (((am_I h a0 0) ≤ x1 → Q (-2147483648) h) ∧ (¬ (am_I h a0 0) ≤ x1 → (∃ b5, am_P h a0 1 = some b5 ∧ ((am_tg h b5).1 = 20 ∧ (vp_in x1 (am_tg h b5).2 ∧ Q (am_I h b5 x1.toNatClampNeg) h))))))))))) : am_Ei m_Spans_firstOf 0 0 [.ref a0, .int x1] h Q :=
  am_Ev.of (by decide +kernel) (Nat.le_of_ble_eq_true rfl) (by simp only [List.mem_cons, List.not_mem_nil, or_false]; intro v hv; rcases hv with rfl | rfl; all_goals first | exact trivial) (sg_Spans_firstOf_0 (kc := 0) (ks := 0) a0 x1 h (am_qi Q) t)
def bk_Spans_has_0_2 : List am_E := [(0, .aload_n 0, 1, 0, 0), (1, .getfield 7, 3, 3212, 0)]
theorem bk_Spans_has_0_2_ok : bk_Spans_has_0_2.all (am_ok 8 false m_Spans_has.2.1) = true := by decide +kernel
def bk_Spans_has_20_1 : List am_E := [(20, .iconst 0, 1, 0, 0)]
theorem bk_Spans_has_20_1_ok : bk_Spans_has_20_1.all (am_ok 8 false m_Spans_has.2.1) = true := by decide +kernel
def bk_Spans_has_7_2 : List am_E := [(7, .aload_n 0, 1, 0, 0), (8, .iload_n 1, 1, 0, 0)]
theorem bk_Spans_has_7_2_ok : bk_Spans_has_7_2.all (am_ok 8 false m_Spans_has.2.1) = true := by decide +kernel
def bk_Spans_has_12_1 : List am_E := [(12, .iload_n 1, 1, 0, 0)]
theorem bk_Spans_has_12_1_ok : bk_Spans_has_12_1.all (am_ok 8 false m_Spans_has.2.1) = true := by decide +kernel
def bk_Spans_has_16_2 : List am_E := [(16, .iconst 1, 1, 0, 1), (17, .goto 4, 3, 0, 4)]
theorem bk_Spans_has_16_2_ok : bk_Spans_has_16_2.all (am_ok 8 false m_Spans_has.2.1) = true := by decide +kernel
theorem dc_Spans_has_21 : decode m_Spans_has.2.1 21 = .ok (.ireturn, 1) := by decide +kernel
theorem dc_Spans_has_9 : decode m_Spans_has.2.1 9 = .ok (.invokevirtual 47, 3) := by decide +kernel
theorem dc_Spans_has_13 : decode m_Spans_has.2.1 13 = .ok (.if_icmp .ne 7, 3) := by decide +kernel
theorem dc_Spans_has_4 : decode m_Spans_has.2.1 4 = .ok (.ifCond .le 16, 3) := by decide +kernel
set_option maxRecDepth 20000 in
theorem sg_Spans_has_0 {kc ks : Nat} (a0 : Nat) (x1 : Int32) (h : am_H) (Q : Option Value → am_H → Prop) (t : (am_tg h a0 = (8, 4) ∧ (((am_I h a0 3) ≤ 0 → Q (some (.int 0)) h) ∧ (¬ (am_I h a0 3) ≤ 0 → (am_Ei m_Spans_earliestFrom 0 0 [.ref a0, .int x1] h (fun r4 h3 => ((¬ r4 = x1 → Q (some (.int 0)) h3) ∧ (r4 = x1 → Q (some (.int 1)) h3)))))))) : am_EI m_Spans_has kc ks 0 [.ref a0, .int x1] [] h Q := by
  refine am_blk_ok (c := 8) (ini := false) (by decide) rfl (fun q => by cases q) bk_Spans_has_0_2 _ 4 _ _ _ bk_Spans_has_0_2_ok rfl ?_
  show (am_tg h a0 = (8, 4) ∧ am_EI m_Spans_has kc ks 4 [.ref a0, .int x1] [.int (am_I h a0 3)] h Q)
  obtain ⟨o1, t⟩ := t
  refine ⟨o1, ?_⟩
  refine am_if_le (tgt := 20) dc_Spans_has_4 (by decide) (fun c2 => ?_) (fun c2 => ?_)
  · replace t := t.1 c2
    refine am_blk_ok (c := 8) (ini := false) (by decide) rfl (fun q => by cases q) bk_Spans_has_20_1 _ 21 _ _ _ bk_Spans_has_20_1_ok rfl ?_
    show am_EI m_Spans_has kc ks 21 [.ref a0, .int x1] [.int 0] h Q
    exact am_zret dc_Spans_has_21 rfl (Or.inl rfl) t
  · replace t := t.2 c2
    refine am_blk_ok (c := 8) (ini := false) (by decide) rfl (fun q => by cases q) bk_Spans_has_7_2 _ 9 _ _ _ bk_Spans_has_7_2_ok rfl ?_
    show am_EI m_Spans_has kc ks 9 [.ref a0, .int x1] [.int x1, .ref a0] h Q
    refine am_callV (M2 := m_Spans_earliestFrom) (ci := 8) (a := a0) (kc := kc) (ks := ks) (k2c := 0) (k2s := 0) (as := []) [.int x1] dc_Spans_has_9 lk_8_47 im_Spans_earliestFrom se_Spans_earliestFrom lm_Spans_earliestFrom np_Spans_earliestFrom ⟨Nat.le_of_ble_eq_true rfl, Nat.le_of_ble_eq_true rfl⟩ (fun _ => Nat.le_of_ble_eq_true rfl) (by decide) rfl o1 (am_Ei.end (am_Ei.mono t (fun r4 h3 t => ?_)))
    refine am_blk_ok (c := 8) (ini := false) (by decide) rfl (fun q => by cases q) bk_Spans_has_12_1 _ 13 _ _ _ bk_Spans_has_12_1_ok rfl ?_
    show am_EI m_Spans_has kc ks 13 [.ref a0, .int x1] [.int x1, .int r4] h3 Q
    refine am_ic_ne (tgt := 20) dc_Spans_has_13 (by decide) (fun c5 => ?_) (fun c5 => ?_)
    · replace t := t.1 c5
      refine am_blk_ok (c := 8) (ini := false) (by decide) rfl (fun q => by cases q) bk_Spans_has_20_1 _ 21 _ _ _ bk_Spans_has_20_1_ok rfl ?_
      show am_EI m_Spans_has kc ks 21 [.ref a0, .int x1] [.int 0] h3 Q
      exact am_zret dc_Spans_has_21 rfl (Or.inl rfl) t
    · replace t := t.2 c5
      refine am_blk_ok (c := 8) (ini := false) (by decide) rfl (fun q => by cases q) bk_Spans_has_16_2 _ 21 _ _ _ bk_Spans_has_16_2_ok rfl ?_
      show am_EI m_Spans_has kc ks 21 [.ref a0, .int x1] [.int 1] h3 Q
      exact am_zret dc_Spans_has_21 rfl (Or.inr rfl) t
set_option maxRecDepth 20000 in
theorem ev_Spans_has (a0 : Nat) (x1 : Int32) (h : am_H) (Q : Int32 → am_H → Prop) (t : (am_tg h a0 = (8, 4) ∧ (((am_I h a0 3) ≤ 0 → Q 0 h) ∧ (¬ (am_I h a0 3) ≤ 0 → (am_Ei m_Spans_earliestFrom 0 0 [.ref a0, .int x1] h (fun r4 h3 => ((¬ r4 = x1 → Q 0 h3) ∧ (r4 = x1 → Q 1 h3)))))))) : am_Ei m_Spans_has 0 0 [.ref a0, .int x1] h Q :=
  am_Ev.of (by decide +kernel) (Nat.le_of_ble_eq_true rfl) (by simp only [List.mem_cons, List.not_mem_nil, or_false]; intro v hv; rcases hv with rfl | rfl; all_goals first | exact trivial) (sg_Spans_has_0 (kc := 0) (ks := 0) a0 x1 h (am_qi Q) t)
def bk_Spans_init_0_1 : List am_E := [(0, .aload_n 0, 1, 0, 0)]
theorem bk_Spans_init_0_1_ok : bk_Spans_init_0_1.all (am_ok 8 true m_Spans_init.2.1) = true := by decide +kernel
def bk_Spans_init_4_6 : List am_E := [(4, .aload_n 0, 1, 0, 0), (5, .iconst 0, 1, 0, 0), (6, .putfield 7, 3, 3212, 0), (9, .aload_n 0, 1, 0, 0), (10, .iload_n 1, 1, 0, 0), (11, .iconst 1, 1, 0, 1)]
theorem bk_Spans_init_4_6_ok : bk_Spans_init_4_6.all (am_ok 8 true m_Spans_init.2.1) = true := by decide +kernel
def bk_Spans_init_15_4 : List am_E := [(15, .putfield 19, 3, 3200, 0), (18, .aload_n 0, 1, 0, 0), (19, .aload_n 0, 1, 0, 0), (20, .getfield 19, 3, 3200, 0)]
theorem bk_Spans_init_15_4_ok : bk_Spans_init_15_4.all (am_ok 8 true m_Spans_init.2.1) = true := by decide +kernel
def bk_Spans_init_25_4 : List am_E := [(25, .putfield 22, 3, 3205, 0), (28, .aload_n 0, 1, 0, 0), (29, .aload_n 0, 1, 0, 0), (30, .getfield 19, 3, 3200, 0)]
theorem bk_Spans_init_25_4_ok : bk_Spans_init_25_4.all (am_ok 8 true m_Spans_init.2.1) = true := by decide +kernel
def bk_Spans_init_35_1 : List am_E := [(35, .putfield 26, 3, 3209, 0)]
theorem bk_Spans_init_35_1_ok : bk_Spans_init_35_1.all (am_ok 8 true m_Spans_init.2.1) = true := by decide +kernel
theorem dc_Spans_init_12 : decode m_Spans_init.2.1 12 = .ok (.invokestatic 13, 3) := by decide +kernel
theorem dc_Spans_init_38 : decode m_Spans_init.2.1 38 = .ok (.return_, 1) := by decide +kernel
theorem dc_Spans_init_33 : decode m_Spans_init.2.1 33 = .ok (.newarray .int, 2) := by decide +kernel
theorem dc_Spans_init_23 : decode m_Spans_init.2.1 23 = .ok (.newarray .int, 2) := by decide +kernel
theorem dc_Spans_init_1 : decode m_Spans_init.2.1 1 = .ok (.invokespecial 1, 3) := by decide +kernel
set_option maxRecDepth 20000 in
theorem sg_Spans_init_0 {kc ks : Nat} (N : Nat) (a0 : Nat) (x1 : Int32) (h : am_H) (Q : Option Value → am_H → Prop) (t : (am_tg h a0 = (8, 4) ∧ (am_Ei m_Math_max 0 0 [.int x1, .int 1] (am_si h a0 3 0) (fun r3 h2 => (am_tg h2 a0 = (8, 4) ∧ ((¬ (am_I (am_si h2 a0 0 r3) a0 0) < 0) ∧ ((am_I (am_si h2 a0 0 r3) a0 0).toNatClampNeg = N) ∧ (N ≤ 100000) ∧ (am_tg (am_nw (am_si h2 a0 0 r3) 20 N) a0 = (8, 4) ∧ ((¬ (am_I (am_nw (am_si h2 a0 0 r3) 20 N) a0 0) < 0) ∧ ((am_I (am_nw (am_si h2 a0 0 r3) 20 N) a0 0).toNatClampNeg = N) ∧ (N ≤ 100000) ∧ (am_tg (am_nw (am_sp (am_nw (am_si h2 a0 0 r3) 20 N) a0 1 (some (am_sz h2))) 20 N) a0 = (8, 4) ∧ Q none (am_sp (am_nw (am_sp (am_nw (am_si h2 a0 0 r3) 20 N) a0 1 (some (am_sz h2))) 20 N) a0 2 (some (am_sz (am_nw (am_si h2 a0 0 r3) 20 N))))))))))))) : am_EI m_Spans_init (kc + 1 + 1) (ks + N + N) 0 [.ref a0, .int x1] [] h Q := by
  refine am_blk_ok (c := 8) (ini := true) (by decide) rfl (fun _ => rfl) bk_Spans_init_0_1 _ 1 _ _ _ bk_Spans_init_0_1_ok rfl ?_
  show am_EI m_Spans_init (kc + 1 + 1) (ks + N + N) 1 [.ref a0, .int x1] [.ref a0] h Q
  refine am_oinit (a := a0) dc_Spans_init_1 lk_8_1 oi_2 oi_3 (by decide) (by decide) ?_
  refine am_blk_ok (c := 8) (ini := true) (by decide) rfl (fun _ => rfl) bk_Spans_init_4_6 _ 12 _ _ _ bk_Spans_init_4_6_ok rfl ?_
  show (am_tg h a0 = (8, 4) ∧ am_EI m_Spans_init (kc + 1 + 1) (ks + N + N) 12 [.ref a0, .int x1] [.int 1, .int x1, .ref a0] (am_si h a0 3 0) Q)
  obtain ⟨o1, t⟩ := t
  refine ⟨o1, ?_⟩
  refine am_callS (M2 := m_Math_max) (kc := (kc + 1 + 1)) (ks := (ks + N + N)) (k2c := 0) (k2s := 0) (as := [.ref a0]) [.int x1, .int 1] dc_Spans_init_12 lk_8_13 st_Math_max lm_Math_max np_Math_max ⟨Nat.le_of_ble_eq_true rfl, Nat.le_of_ble_eq_true rfl⟩ (fun _ => Nat.le_of_ble_eq_true rfl) (am_Ei.end (am_Ei.mono t (fun r3 h2 t => ?_)))
  refine am_blk_ok (c := 8) (ini := true) (by decide) rfl (fun _ => rfl) bk_Spans_init_15_4 _ 23 _ _ _ bk_Spans_init_15_4_ok rfl ?_
  show (am_tg h2 a0 = (8, 4) ∧ (am_tg h2 a0 = (8, 4) ∧ am_EI m_Spans_init (kc + 1 + 1) (ks + N + N) 23 [.ref a0, .int x1] [.int (am_I (am_si h2 a0 0 r3) a0 0), .ref a0] (am_si h2 a0 0 r3) Q))
  obtain ⟨o4, t⟩ := t
  refine ⟨o4, o4, ?_⟩
  obtain ⟨o5, o6, o7, t⟩ := t
  refine am_newa (kc := (kc + 1)) (ks := (ks + N)) (kd := 20) (N := N) dc_Spans_init_23 (by decide) ac_int o5 o6 o7 ?_
  refine am_blk_ok (c := 8) (ini := true) (by decide) rfl (fun _ => rfl) bk_Spans_init_25_4 _ 33 _ _ _ bk_Spans_init_25_4_ok rfl ?_
  show (am_tg (am_nw (am_si h2 a0 0 r3) 20 N) a0 = (8, 4) ∧ (am_tg (am_nw (am_si h2 a0 0 r3) 20 N) a0 = (8, 4) ∧ am_EI m_Spans_init (kc + 1) (ks + N) 33 [.ref a0, .int x1] [.int (am_I (am_nw (am_si h2 a0 0 r3) 20 N) a0 0), .ref a0] (am_sp (am_nw (am_si h2 a0 0 r3) 20 N) a0 1 (some (am_sz h2))) Q))
  obtain ⟨o8, t⟩ := t
  refine ⟨o8, o8, ?_⟩
  obtain ⟨o9, o10, o11, t⟩ := t
  refine am_newa (kc := kc) (ks := ks) (kd := 20) (N := N) dc_Spans_init_33 (by decide) ac_int o9 o10 o11 ?_
  refine am_blk_ok (c := 8) (ini := true) (by decide) rfl (fun _ => rfl) bk_Spans_init_35_1 _ 38 _ _ _ bk_Spans_init_35_1_ok rfl ?_
  show (am_tg (am_nw (am_sp (am_nw (am_si h2 a0 0 r3) 20 N) a0 1 (some (am_sz h2))) 20 N) a0 = (8, 4) ∧ am_EI m_Spans_init kc ks 38 [.ref a0, .int x1] [] (am_sp (am_nw (am_sp (am_nw (am_si h2 a0 0 r3) 20 N) a0 1 (some (am_sz h2))) 20 N) a0 2 (some (am_sz (am_nw (am_si h2 a0 0 r3) 20 N)))) Q)
  obtain ⟨o12, t⟩ := t
  refine ⟨o12, ?_⟩
  exact am_vret dc_Spans_init_38 rfl t
set_option maxRecDepth 20000 in
theorem ev_Spans_init (N : Nat) (a0 : Nat) (x1 : Int32) (h : am_H) (Q : am_H → Prop) (t : (am_tg h a0 = (8, 4) ∧ (am_Ei m_Math_max 0 0 [.int x1, .int 1] (am_si h a0 3 0) (fun r3 h2 => (am_tg h2 a0 = (8, 4) ∧ ((¬ (am_I (am_si h2 a0 0 r3) a0 0) < 0) ∧ ((am_I (am_si h2 a0 0 r3) a0 0).toNatClampNeg = N) ∧ (N ≤ 100000) ∧ (am_tg (am_nw (am_si h2 a0 0 r3) 20 N) a0 = (8, 4) ∧ ((¬ (am_I (am_nw (am_si h2 a0 0 r3) 20 N) a0 0) < 0) ∧ ((am_I (am_nw (am_si h2 a0 0 r3) 20 N) a0 0).toNatClampNeg = N) ∧ (N ≤ 100000) ∧ (am_tg (am_nw (am_sp (am_nw (am_si h2 a0 0 r3) 20 N) a0 1 (some (am_sz h2))) 20 N) a0 = (8, 4) ∧ Q (am_sp (am_nw (am_sp (am_nw (am_si h2 a0 0 r3) 20 N) a0 1 (some (am_sz h2))) 20 N) a0 2 (some (am_sz (am_nw (am_si h2 a0 0 r3) 20 N))))))))))))) : am_Ew m_Spans_init (0 + 1 + 1) (0 + N + N) [.ref a0, .int x1] h Q :=
  am_Ev.of (by decide +kernel) (Nat.le_of_ble_eq_true rfl) (by simp only [List.mem_cons, List.not_mem_nil, or_false]; intro v hv; rcases hv with rfl | rfl; all_goals first | exact trivial) (sg_Spans_init_0 (kc := 0) (ks := 0) N a0 x1 h (am_qw Q) t)
def bk_Spans_intersect_0_7 : List am_E := [(0, .aload_n 0, 1, 0, 0), (1, .iconst 0, 1, 0, 0), (2, .putfield 7, 3, 3212, 0), (5, .iconst 0, 1, 0, 0), (6, .istore_n 3, 1, 0, 0), (7, .iconst 0, 1, 0, 0), (8, .istore 4, 2, 0, 0)]
theorem bk_Spans_intersect_0_7_ok : bk_Spans_intersect_0_7.all (am_ok 8 false m_Spans_intersect.2.1) = true := by decide +kernel
def bk_Spans_intersect_10_2 : List am_E := [(10, .iload_n 3, 1, 0, 0), (11, .aload_n 1, 1, 0, 0)]
theorem bk_Spans_intersect_10_2_ok : bk_Spans_intersect_10_2.all (am_ok 8 false m_Spans_intersect.2.1) = true := by decide +kernel
def bk_Spans_intersect_18_2 : List am_E := [(18, .iload 4, 2, 0, 0), (20, .aload_n 2, 1, 0, 0)]
theorem bk_Spans_intersect_18_2_ok : bk_Spans_intersect_18_2.all (am_ok 8 false m_Spans_intersect.2.1) = true := by decide +kernel
def bk_Spans_intersect_27_3 : List am_E := [(27, .aload_n 0, 1, 0, 0), (28, .aload_n 1, 1, 0, 0), (29, .iload_n 3, 1, 0, 0)]
theorem bk_Spans_intersect_27_3_ok : bk_Spans_intersect_27_3.all (am_ok 8 false m_Spans_intersect.2.1) = true := by decide +kernel
def bk_Spans_intersect_33_2 : List am_E := [(33, .aload_n 2, 1, 0, 0), (34, .iload 4, 2, 0, 0)]
theorem bk_Spans_intersect_33_2_ok : bk_Spans_intersect_33_2.all (am_ok 8 false m_Spans_intersect.2.1) = true := by decide +kernel
def bk_Spans_intersect_42_2 : List am_E := [(42, .aload_n 1, 1, 0, 0), (43, .iload_n 3, 1, 0, 0)]
theorem bk_Spans_intersect_42_2_ok : bk_Spans_intersect_42_2.all (am_ok 8 false m_Spans_intersect.2.1) = true := by decide +kernel
def bk_Spans_intersect_47_2 : List am_E := [(47, .aload_n 2, 1, 0, 0), (48, .iload 4, 2, 0, 0)]
theorem bk_Spans_intersect_47_2_ok : bk_Spans_intersect_47_2.all (am_ok 8 false m_Spans_intersect.2.1) = true := by decide +kernel
def bk_Spans_intersect_59_2 : List am_E := [(59, .aload_n 1, 1, 0, 0), (60, .iload_n 3, 1, 0, 0)]
theorem bk_Spans_intersect_59_2_ok : bk_Spans_intersect_59_2.all (am_ok 8 false m_Spans_intersect.2.1) = true := by decide +kernel
def bk_Spans_intersect_64_2 : List am_E := [(64, .aload_n 2, 1, 0, 0), (65, .iload 4, 2, 0, 0)]
theorem bk_Spans_intersect_64_2_ok : bk_Spans_intersect_64_2.all (am_ok 8 false m_Spans_intersect.2.1) = true := by decide +kernel
def bk_Spans_intersect_79_2 : List am_E := [(79, .iinc 4 1, 3, 0, 1), (82, .goto (-72), 3, 0, -72)]
theorem bk_Spans_intersect_79_2_ok : bk_Spans_intersect_79_2.all (am_ok 8 false m_Spans_intersect.2.1) = true := by decide +kernel
def bk_Spans_intersect_73_2 : List am_E := [(73, .iinc 3 1, 3, 0, 1), (76, .goto (-66), 3, 0, -66)]
theorem bk_Spans_intersect_73_2_ok : bk_Spans_intersect_73_2.all (am_ok 8 false m_Spans_intersect.2.1) = true := by decide +kernel
theorem dc_Spans_intersect_12 : decode m_Spans_intersect.2.1 12 = .ok (.invokevirtual 30, 3) := by decide +kernel
theorem dc_Spans_intersect_85 : decode m_Spans_intersect.2.1 85 = .ok (.return_, 1) := by decide +kernel
theorem dc_Spans_intersect_21 : decode m_Spans_intersect.2.1 21 = .ok (.invokevirtual 30, 3) := by decide +kernel
theorem dc_Spans_intersect_30 : decode m_Spans_intersect.2.1 30 = .ok (.invokevirtual 33, 3) := by decide +kernel
theorem dc_Spans_intersect_36 : decode m_Spans_intersect.2.1 36 = .ok (.invokevirtual 33, 3) := by decide +kernel
theorem dc_Spans_intersect_39 : decode m_Spans_intersect.2.1 39 = .ok (.invokestatic 13, 3) := by decide +kernel
theorem dc_Spans_intersect_44 : decode m_Spans_intersect.2.1 44 = .ok (.invokevirtual 37, 3) := by decide +kernel
theorem dc_Spans_intersect_50 : decode m_Spans_intersect.2.1 50 = .ok (.invokevirtual 37, 3) := by decide +kernel
theorem dc_Spans_intersect_53 : decode m_Spans_intersect.2.1 53 = .ok (.invokestatic 44, 3) := by decide +kernel
theorem dc_Spans_intersect_56 : decode m_Spans_intersect.2.1 56 = .ok (.invokevirtual 40, 3) := by decide +kernel
theorem dc_Spans_intersect_61 : decode m_Spans_intersect.2.1 61 = .ok (.invokevirtual 37, 3) := by decide +kernel
theorem dc_Spans_intersect_67 : decode m_Spans_intersect.2.1 67 = .ok (.invokevirtual 37, 3) := by decide +kernel
theorem dc_Spans_intersect_70 : decode m_Spans_intersect.2.1 70 = .ok (.if_icmp .ge 9, 3) := by decide +kernel
theorem dc_Spans_intersect_24 : decode m_Spans_intersect.2.1 24 = .ok (.if_icmp .ge 61, 3) := by decide +kernel
theorem dc_Spans_intersect_15 : decode m_Spans_intersect.2.1 15 = .ok (.if_icmp .ge 70, 3) := by decide +kernel
set_option maxRecDepth 20000 in
theorem sg_Spans_intersect_0 {kc ks : Nat} (a0 a1 a2 : Nat) (h : am_H) (Q : Option Value → am_H → Prop) (t : (am_tg h a0 = (8, 4) ∧ am_EI m_Spans_intersect kc ks 10 [.ref a0, .ref a1, .ref a2, .int 0, .int 0] [] (am_si h a0 3 0) Q)) : am_EI m_Spans_intersect kc ks 0 [.ref a0, .ref a1, .ref a2, .float 0, .float 0] [] h Q := by
  refine am_blk_ok (c := 8) (ini := false) (by decide) rfl (fun q => by cases q) bk_Spans_intersect_0_7 _ 10 _ _ _ bk_Spans_intersect_0_7_ok rfl ?_
  show (am_tg h a0 = (8, 4) ∧ am_EI m_Spans_intersect kc ks 10 [.ref a0, .ref a1, .ref a2, .int 0, .int 0] [] (am_si h a0 3 0) Q)
  obtain ⟨o1, t⟩ := t
  refine ⟨o1, ?_⟩
  exact t
set_option maxRecDepth 20000 in
theorem ev_Spans_intersect (a0 a1 a2 : Nat) (h : am_H) (Q : am_H → Prop) (t : (am_tg h a0 = (8, 4) ∧ am_EI m_Spans_intersect 0 0 10 [.ref a0, .ref a1, .ref a2, .int 0, .int 0] [] (am_si h a0 3 0) (am_qw Q))) : am_Ew m_Spans_intersect 0 0 [.ref a0, .ref a1, .ref a2] h Q :=
  am_Ev.of (by decide +kernel) (Nat.le_of_ble_eq_true rfl) (by simp only [List.mem_cons, List.not_mem_nil, or_false]; intro v hv; rcases hv with rfl | rfl | rfl; all_goals first | exact trivial) (sg_Spans_intersect_0 (kc := 0) (ks := 0) a0 a1 a2 h (am_qw Q) t)
set_option maxRecDepth 20000 in
theorem sg_Spans_intersect_10 {kc ks : Nat} (a0 a1 a2 : Nat) (x3 x4 : Int32) (h : am_H) (Q : Option Value → am_H → Prop) (t : (am_tg h a1 = (8, 4) ∧ (am_Ei m_Spans_size 0 0 [.ref a1] h (fun r3 h2 => ((r3 ≤ x3 → Q none h2) ∧ (¬ r3 ≤ x3 → (am_tg h2 a2 = (8, 4) ∧ (am_Ei m_Spans_size 0 0 [.ref a2] h2 (fun r7 h6 => ((r7 ≤ x4 → Q none h6) ∧ (¬ r7 ≤ x4 → (am_tg h6 a1 = (8, 4) ∧ (am_Ei m_Spans_firstOf 0 0 [.ref a1, .int x3] h6 (fun r11 h10 => (am_tg h10 a2 = (8, 4) ∧ (am_Ei m_Spans_firstOf 0 0 [.ref a2, .int x4] h10 (fun r14 h13 => (am_Ei m_Math_max 0 0 [.int r11, .int r14] h13 (fun r16 h15 => (am_tg h15 a1 = (8, 4) ∧ (am_Ei m_Spans_lastOf 0 0 [.ref a1, .int x3] h15 (fun r19 h18 => (am_tg h18 a2 = (8, 4) ∧ (am_Ei m_Spans_lastOf 0 0 [.ref a2, .int x4] h18 (fun r22 h21 => (am_Ei m_Math_min 0 0 [.int r19, .int r22] h21 (fun r24 h23 => (am_tg h23 a0 = (8, 4) ∧ (am_Ew m_Spans_add 0 0 [.ref a0, .int r16, .int r24] h23 (fun h26 => (am_tg h26 a1 = (8, 4) ∧ (am_Ei m_Spans_lastOf 0 0 [.ref a1, .int x3] h26 (fun r29 h28 => (am_tg h28 a2 = (8, 4) ∧ (am_Ei m_Spans_lastOf 0 0 [.ref a2, .int x4] h28 (fun r32 h31 => ((r32 ≤ r29 → am_EI m_Spans_intersect kc ks 10 [.ref a0, .ref a1, .ref a2, .int x3, .int (x4 + 1)] [] h31 Q) ∧ (¬ r32 ≤ r29 → am_EI m_Spans_intersect kc ks 10 [.ref a0, .ref a1, .ref a2, .int (x3 + 1), .int x4] [] h31 Q)))))))))))))))))))))))))))))))))))))) : am_EI m_Spans_intersect kc ks 10 [.ref a0, .ref a1, .ref a2, .int x3, .int x4] [] h Q := by
  refine am_blk_ok (c := 8) (ini := false) (by decide) rfl (fun q => by cases q) bk_Spans_intersect_10_2 _ 12 _ _ _ bk_Spans_intersect_10_2_ok rfl ?_
  show am_EI m_Spans_intersect kc ks 12 [.ref a0, .ref a1, .ref a2, .int x3, .int x4] [.ref a1, .int x3] h Q
  obtain ⟨o1, t⟩ := t
  refine am_callV (M2 := m_Spans_size) (ci := 8) (a := a1) (kc := kc) (ks := ks) (k2c := 0) (k2s := 0) (as := [.int x3]) [] dc_Spans_intersect_12 lk_8_30 im_Spans_size se_Spans_size lm_Spans_size np_Spans_size ⟨Nat.le_of_ble_eq_true rfl, Nat.le_of_ble_eq_true rfl⟩ (fun _ => Nat.le_of_ble_eq_true rfl) (by decide) rfl o1 (am_Ei.end (am_Ei.mono t (fun r3 h2 t => ?_)))
  refine am_ic_ge (tgt := 85) dc_Spans_intersect_15 (by decide) (fun c4 => ?_) (fun c4 => ?_)
  · replace t := t.1 c4
    exact am_vret dc_Spans_intersect_85 rfl t
  · replace t := t.2 c4
    refine am_blk_ok (c := 8) (ini := false) (by decide) rfl (fun q => by cases q) bk_Spans_intersect_18_2 _ 21 _ _ _ bk_Spans_intersect_18_2_ok rfl ?_
    show am_EI m_Spans_intersect kc ks 21 [.ref a0, .ref a1, .ref a2, .int x3, .int x4] [.ref a2, .int x4] h2 Q
    obtain ⟨o5, t⟩ := t
    refine am_callV (M2 := m_Spans_size) (ci := 8) (a := a2) (kc := kc) (ks := ks) (k2c := 0) (k2s := 0) (as := [.int x4]) [] dc_Spans_intersect_21 lk_8_30 im_Spans_size se_Spans_size lm_Spans_size np_Spans_size ⟨Nat.le_of_ble_eq_true rfl, Nat.le_of_ble_eq_true rfl⟩ (fun _ => Nat.le_of_ble_eq_true rfl) (by decide) rfl o5 (am_Ei.end (am_Ei.mono t (fun r7 h6 t => ?_)))
    refine am_ic_ge (tgt := 85) dc_Spans_intersect_24 (by decide) (fun c8 => ?_) (fun c8 => ?_)
    · replace t := t.1 c8
      exact am_vret dc_Spans_intersect_85 rfl t
    · replace t := t.2 c8
      refine am_blk_ok (c := 8) (ini := false) (by decide) rfl (fun q => by cases q) bk_Spans_intersect_27_3 _ 30 _ _ _ bk_Spans_intersect_27_3_ok rfl ?_
      show am_EI m_Spans_intersect kc ks 30 [.ref a0, .ref a1, .ref a2, .int x3, .int x4] [.int x3, .ref a1, .ref a0] h6 Q
      obtain ⟨o9, t⟩ := t
      refine am_callV (M2 := m_Spans_firstOf) (ci := 8) (a := a1) (kc := kc) (ks := ks) (k2c := 0) (k2s := 0) (as := [.ref a0]) [.int x3] dc_Spans_intersect_30 lk_8_33 im_Spans_firstOf se_Spans_firstOf lm_Spans_firstOf np_Spans_firstOf ⟨Nat.le_of_ble_eq_true rfl, Nat.le_of_ble_eq_true rfl⟩ (fun _ => Nat.le_of_ble_eq_true rfl) (by decide) rfl o9 (am_Ei.end (am_Ei.mono t (fun r11 h10 t => ?_)))
      refine am_blk_ok (c := 8) (ini := false) (by decide) rfl (fun q => by cases q) bk_Spans_intersect_33_2 _ 36 _ _ _ bk_Spans_intersect_33_2_ok rfl ?_
      show am_EI m_Spans_intersect kc ks 36 [.ref a0, .ref a1, .ref a2, .int x3, .int x4] [.int x4, .ref a2, .int r11, .ref a0] h10 Q
      obtain ⟨o12, t⟩ := t
      refine am_callV (M2 := m_Spans_firstOf) (ci := 8) (a := a2) (kc := kc) (ks := ks) (k2c := 0) (k2s := 0) (as := [.int r11, .ref a0]) [.int x4] dc_Spans_intersect_36 lk_8_33 im_Spans_firstOf se_Spans_firstOf lm_Spans_firstOf np_Spans_firstOf ⟨Nat.le_of_ble_eq_true rfl, Nat.le_of_ble_eq_true rfl⟩ (fun _ => Nat.le_of_ble_eq_true rfl) (by decide) rfl o12 (am_Ei.end (am_Ei.mono t (fun r14 h13 t => ?_)))
      refine am_callS (M2 := m_Math_max) (kc := kc) (ks := ks) (k2c := 0) (k2s := 0) (as := [.ref a0]) [.int r11, .int r14] dc_Spans_intersect_39 lk_8_13 st_Math_max lm_Math_max np_Math_max ⟨Nat.le_of_ble_eq_true rfl, Nat.le_of_ble_eq_true rfl⟩ (fun _ => Nat.le_of_ble_eq_true rfl) (am_Ei.end (am_Ei.mono t (fun r16 h15 t => ?_)))
      refine am_blk_ok (c := 8) (ini := false) (by decide) rfl (fun q => by cases q) bk_Spans_intersect_42_2 _ 44 _ _ _ bk_Spans_intersect_42_2_ok rfl ?_
      show am_EI m_Spans_intersect kc ks 44 [.ref a0, .ref a1, .ref a2, .int x3, .int x4] [.int x3, .ref a1, .int r16, .ref a0] h15 Q
      obtain ⟨o17, t⟩ := t
      refine am_callV (M2 := m_Spans_lastOf) (ci := 8) (a := a1) (kc := kc) (ks := ks) (k2c := 0) (k2s := 0) (as := [.int r16, .ref a0]) [.int x3] dc_Spans_intersect_44 lk_8_37 im_Spans_lastOf se_Spans_lastOf lm_Spans_lastOf np_Spans_lastOf ⟨Nat.le_of_ble_eq_true rfl, Nat.le_of_ble_eq_true rfl⟩ (fun _ => Nat.le_of_ble_eq_true rfl) (by decide) rfl o17 (am_Ei.end (am_Ei.mono t (fun r19 h18 t => ?_)))
      refine am_blk_ok (c := 8) (ini := false) (by decide) rfl (fun q => by cases q) bk_Spans_intersect_47_2 _ 50 _ _ _ bk_Spans_intersect_47_2_ok rfl ?_
      show am_EI m_Spans_intersect kc ks 50 [.ref a0, .ref a1, .ref a2, .int x3, .int x4] [.int x4, .ref a2, .int r19, .int r16, .ref a0] h18 Q
      obtain ⟨o20, t⟩ := t
      refine am_callV (M2 := m_Spans_lastOf) (ci := 8) (a := a2) (kc := kc) (ks := ks) (k2c := 0) (k2s := 0) (as := [.int r19, .int r16, .ref a0]) [.int x4] dc_Spans_intersect_50 lk_8_37 im_Spans_lastOf se_Spans_lastOf lm_Spans_lastOf np_Spans_lastOf ⟨Nat.le_of_ble_eq_true rfl, Nat.le_of_ble_eq_true rfl⟩ (fun _ => Nat.le_of_ble_eq_true rfl) (by decide) rfl o20 (am_Ei.end (am_Ei.mono t (fun r22 h21 t => ?_)))
      refine am_callS (M2 := m_Math_min) (kc := kc) (ks := ks) (k2c := 0) (k2s := 0) (as := [.int r16, .ref a0]) [.int r19, .int r22] dc_Spans_intersect_53 lk_8_44 st_Math_min lm_Math_min np_Math_min ⟨Nat.le_of_ble_eq_true rfl, Nat.le_of_ble_eq_true rfl⟩ (fun _ => Nat.le_of_ble_eq_true rfl) (am_Ei.end (am_Ei.mono t (fun r24 h23 t => ?_)))
      obtain ⟨o25, t⟩ := t
      refine am_callV (M2 := m_Spans_add) (ci := 8) (a := a0) (kc := kc) (ks := ks) (k2c := 0) (k2s := 0) (as := []) [.int r16, .int r24] dc_Spans_intersect_56 lk_8_40 im_Spans_add se_Spans_add lm_Spans_add np_Spans_add ⟨Nat.le_of_ble_eq_true rfl, Nat.le_of_ble_eq_true rfl⟩ (fun _ => Nat.le_of_ble_eq_true rfl) (by decide) rfl o25 (am_Ew.end (am_Ew.mono t (fun h26 t => ?_)))
      refine am_blk_ok (c := 8) (ini := false) (by decide) rfl (fun q => by cases q) bk_Spans_intersect_59_2 _ 61 _ _ _ bk_Spans_intersect_59_2_ok rfl ?_
      show am_EI m_Spans_intersect kc ks 61 [.ref a0, .ref a1, .ref a2, .int x3, .int x4] [.int x3, .ref a1] h26 Q
      obtain ⟨o27, t⟩ := t
      refine am_callV (M2 := m_Spans_lastOf) (ci := 8) (a := a1) (kc := kc) (ks := ks) (k2c := 0) (k2s := 0) (as := []) [.int x3] dc_Spans_intersect_61 lk_8_37 im_Spans_lastOf se_Spans_lastOf lm_Spans_lastOf np_Spans_lastOf ⟨Nat.le_of_ble_eq_true rfl, Nat.le_of_ble_eq_true rfl⟩ (fun _ => Nat.le_of_ble_eq_true rfl) (by decide) rfl o27 (am_Ei.end (am_Ei.mono t (fun r29 h28 t => ?_)))
      refine am_blk_ok (c := 8) (ini := false) (by decide) rfl (fun q => by cases q) bk_Spans_intersect_64_2 _ 67 _ _ _ bk_Spans_intersect_64_2_ok rfl ?_
      show am_EI m_Spans_intersect kc ks 67 [.ref a0, .ref a1, .ref a2, .int x3, .int x4] [.int x4, .ref a2, .int r29] h28 Q
      obtain ⟨o30, t⟩ := t
      refine am_callV (M2 := m_Spans_lastOf) (ci := 8) (a := a2) (kc := kc) (ks := ks) (k2c := 0) (k2s := 0) (as := [.int r29]) [.int x4] dc_Spans_intersect_67 lk_8_37 im_Spans_lastOf se_Spans_lastOf lm_Spans_lastOf np_Spans_lastOf ⟨Nat.le_of_ble_eq_true rfl, Nat.le_of_ble_eq_true rfl⟩ (fun _ => Nat.le_of_ble_eq_true rfl) (by decide) rfl o30 (am_Ei.end (am_Ei.mono t (fun r32 h31 t => ?_)))
      refine am_ic_ge (tgt := 79) dc_Spans_intersect_70 (by decide) (fun c33 => ?_) (fun c33 => ?_)
      · replace t := t.1 c33
        refine am_blk_ok (c := 8) (ini := false) (by decide) rfl (fun q => by cases q) bk_Spans_intersect_79_2 _ 10 _ _ _ bk_Spans_intersect_79_2_ok rfl ?_
        show am_EI m_Spans_intersect kc ks 10 [.ref a0, .ref a1, .ref a2, .int x3, .int (x4 + 1)] [] h31 Q
        exact t
      · replace t := t.2 c33
        refine am_blk_ok (c := 8) (ini := false) (by decide) rfl (fun q => by cases q) bk_Spans_intersect_73_2 _ 10 _ _ _ bk_Spans_intersect_73_2_ok rfl ?_
        show am_EI m_Spans_intersect kc ks 10 [.ref a0, .ref a1, .ref a2, .int (x3 + 1), .int x4] [] h31 Q
        exact t
def bk_Spans_lastOf_0_1 : List am_E := [(0, .iload_n 1, 1, 0, 0)]
theorem bk_Spans_lastOf_0_1_ok : bk_Spans_lastOf_0_1.all (am_ok 8 false m_Spans_lastOf.2.1) = true := by decide +kernel
def bk_Spans_lastOf_29_1 : List am_E := [(29, .ldc 29, 2, 0, -2147483648)]
theorem bk_Spans_lastOf_29_1_ok : bk_Spans_lastOf_29_1.all (am_ok 8 false m_Spans_lastOf.2.1) = true := by decide +kernel
def bk_Spans_lastOf_4_3 : List am_E := [(4, .iload_n 1, 1, 0, 0), (5, .aload_n 0, 1, 0, 0), (6, .getfield 7, 3, 3212, 0)]
theorem bk_Spans_lastOf_4_3_ok : bk_Spans_lastOf_4_3.all (am_ok 8 false m_Spans_lastOf.2.1) = true := by decide +kernel
def bk_Spans_lastOf_12_3 : List am_E := [(12, .iload_n 1, 1, 0, 0), (13, .aload_n 0, 1, 0, 0), (14, .getfield 19, 3, 3200, 0)]
theorem bk_Spans_lastOf_12_3_ok : bk_Spans_lastOf_12_3.all (am_ok 8 false m_Spans_lastOf.2.1) = true := by decide +kernel
def bk_Spans_lastOf_20_5 : List am_E := [(20, .aload_n 0, 1, 0, 0), (21, .getfield 26, 3, 3209, 0), (24, .iload_n 1, 1, 0, 0), (25, .iaload, 1, 0, 0), (26, .goto 5, 3, 0, 5)]
theorem bk_Spans_lastOf_20_5_ok : bk_Spans_lastOf_20_5.all (am_ok 8 false m_Spans_lastOf.2.1) = true := by decide +kernel
theorem dc_Spans_lastOf_31 : decode m_Spans_lastOf.2.1 31 = .ok (.ireturn, 1) := by decide +kernel
theorem dc_Spans_lastOf_17 : decode m_Spans_lastOf.2.1 17 = .ok (.if_icmp .ge 12, 3) := by decide +kernel
theorem dc_Spans_lastOf_9 : decode m_Spans_lastOf.2.1 9 = .ok (.if_icmp .ge 20, 3) := by decide +kernel
theorem dc_Spans_lastOf_1 : decode m_Spans_lastOf.2.1 1 = .ok (.ifCond .lt 28, 3) := by decide +kernel
set_option maxRecDepth 20000 in
theorem sg_Spans_lastOf_0 {kc ks : Nat} (a0 : Nat) (x1 : Int32) (h : am_H) (Q : Option Value → am_H → Prop) (t : ((x1 < 0 → Q (some (.int (-2147483648))) h) ∧ (¬ x1 < 0 → (am_tg h a0 = (8, 4) ∧ (((am_I h a0 3) ≤ x1 → Q (some (.int (-2147483648))) h) ∧ (¬ (am_I h a0 3) ≤ x1 → (((am_I h a0 0) ≤ x1 → Q (some (.int (-2147483648))) h) ∧ (¬ (am_I h a0 0) ≤ x1 → (∃ b5, am_P h a0 2 = some b5 ∧ ((am_tg h b5).1 = 20 ∧ (vp_in x1 (am_tg h b5).2 ∧ Q (some (.int (am_I h b5 x1.toNatClampNeg))) h))))))))))) : am_EI m_Spans_lastOf kc ks 0 [.ref a0, .int x1] [] h Q := by
  refine am_blk_ok (c := 8) (ini := false) (by decide) rfl (fun q => by cases q) bk_Spans_lastOf_0_1 _ 1 _ _ _ bk_Spans_lastOf_0_1_ok rfl ?_
  show am_EI m_Spans_lastOf kc ks 1 [.ref a0, .int x1] [.int x1] h Q
  refine am_if_lt (tgt := 29) dc_Spans_lastOf_1 (by decide) (fun c1 => ?_) (fun c1 => ?_)
  · replace t := t.1 c1
    refine am_blk_ok (c := 8) (ini := false) (by decide) rfl (fun q => by cases q) bk_Spans_lastOf_29_1 _ 31 _ _ _ bk_Spans_lastOf_29_1_ok rfl ?_
    show am_EI m_Spans_lastOf kc ks 31 [.ref a0, .int x1] [.int (-2147483648)] h Q
    exact am_iret dc_Spans_lastOf_31 rfl t
  · replace t := t.2 c1
    refine am_blk_ok (c := 8) (ini := false) (by decide) rfl (fun q => by cases q) bk_Spans_lastOf_4_3 _ 9 _ _ _ bk_Spans_lastOf_4_3_ok rfl ?_
    show (am_tg h a0 = (8, 4) ∧ am_EI m_Spans_lastOf kc ks 9 [.ref a0, .int x1] [.int (am_I h a0 3), .int x1] h Q)
    obtain ⟨o2, t⟩ := t
    refine ⟨o2, ?_⟩
    refine am_ic_ge (tgt := 29) dc_Spans_lastOf_9 (by decide) (fun c3 => ?_) (fun c3 => ?_)
    · replace t := t.1 c3
      refine am_blk_ok (c := 8) (ini := false) (by decide) rfl (fun q => by cases q) bk_Spans_lastOf_29_1 _ 31 _ _ _ bk_Spans_lastOf_29_1_ok rfl ?_
      show am_EI m_Spans_lastOf kc ks 31 [.ref a0, .int x1] [.int (-2147483648)] h Q
      exact am_iret dc_Spans_lastOf_31 rfl t
    · replace t := t.2 c3
      refine am_blk_ok (c := 8) (ini := false) (by decide) rfl (fun q => by cases q) bk_Spans_lastOf_12_3 _ 17 _ _ _ bk_Spans_lastOf_12_3_ok rfl ?_
      show (am_tg h a0 = (8, 4) ∧ am_EI m_Spans_lastOf kc ks 17 [.ref a0, .int x1] [.int (am_I h a0 0), .int x1] h Q)
      refine ⟨o2, ?_⟩
      refine am_ic_ge (tgt := 29) dc_Spans_lastOf_17 (by decide) (fun c4 => ?_) (fun c4 => ?_)
      · replace t := t.1 c4
        refine am_blk_ok (c := 8) (ini := false) (by decide) rfl (fun q => by cases q) bk_Spans_lastOf_29_1 _ 31 _ _ _ bk_Spans_lastOf_29_1_ok rfl ?_
        show am_EI m_Spans_lastOf kc ks 31 [.ref a0, .int x1] [.int (-2147483648)] h Q
        exact am_iret dc_Spans_lastOf_31 rfl t
      · replace t := t.2 c4
        refine am_blk_ok (c := 8) (ini := false) (by decide) rfl (fun q => by cases q) bk_Spans_lastOf_20_5 _ 31 _ _ _ bk_Spans_lastOf_20_5_ok rfl ?_
        show (am_tg h a0 = (8, 4) ∧ (∃ b5, am_P h a0 2 = some b5 ∧ ((am_tg h b5).1 = 20 ∧ (vp_in x1 (am_tg h b5).2 ∧ am_EI m_Spans_lastOf kc ks 31 [.ref a0, .int x1] [.int (am_I h b5 x1.toNatClampNeg)] h Q))))
        obtain ⟨b5, q6, o7, o8, t⟩ := t
        refine ⟨o2, b5, q6, o7, o8, ?_⟩
        exact am_iret dc_Spans_lastOf_31 rfl t
set_option maxRecDepth 20000 in
theorem ev_Spans_lastOf (a0 : Nat) (x1 : Int32) (h : am_H) (Q : Int32 → am_H → Prop) (t : ((x1 < 0 → Q (-2147483648) h) ∧ (¬ x1 < 0 → (am_tg h a0 = (8, 4) ∧ (((am_I h a0 3) ≤ x1 → Q (-2147483648) h) ∧ (¬ (am_I h a0 3) ≤ x1 → (((am_I h a0 0) ≤ x1 → Q (-2147483648) h) ∧ (¬ (am_I h a0 0) ≤ x1 → (∃ b5, am_P h a0 2 = some b5 ∧ ((am_tg h b5).1 = 20 ∧ (vp_in x1 (am_tg h b5).2 ∧ Q (am_I h b5 x1.toNatClampNeg) h))))))))))) : am_Ei m_Spans_lastOf 0 0 [.ref a0, .int x1] h Q :=
  am_Ev.of (by decide +kernel) (Nat.le_of_ble_eq_true rfl) (by simp only [List.mem_cons, List.not_mem_nil, or_false]; intro v hv; rcases hv with rfl | rfl; all_goals first | exact trivial) (sg_Spans_lastOf_0 (kc := 0) (ks := 0) a0 x1 h (am_qi Q) t)
def bk_Spans_latestUpTo_0_5 : List am_E := [(0, .aload_n 0, 1, 0, 0), (1, .getfield 7, 3, 3212, 0), (4, .iconst 1, 1, 0, 1), (5, .isub, 1, 0, 0), (6, .istore_n 2, 1, 0, 0)]
theorem bk_Spans_latestUpTo_0_5_ok : bk_Spans_latestUpTo_0_5.all (am_ok 8 false m_Spans_latestUpTo.2.1) = true := by decide +kernel
def bk_Spans_latestUpTo_7_1 : List am_E := [(7, .iload_n 2, 1, 0, 0)]
theorem bk_Spans_latestUpTo_7_1_ok : bk_Spans_latestUpTo_7_1.all (am_ok 8 false m_Spans_latestUpTo.2.1) = true := by decide +kernel
def bk_Spans_latestUpTo_36_1 : List am_E := [(36, .ldc 29, 2, 0, -2147483648)]
theorem bk_Spans_latestUpTo_36_1_ok : bk_Spans_latestUpTo_36_1.all (am_ok 8 false m_Spans_latestUpTo.2.1) = true := by decide +kernel
def bk_Spans_latestUpTo_11_2 : List am_E := [(11, .aload_n 0, 1, 0, 0), (12, .iload_n 2, 1, 0, 0)]
theorem bk_Spans_latestUpTo_11_2_ok : bk_Spans_latestUpTo_11_2.all (am_ok 8 false m_Spans_latestUpTo.2.1) = true := by decide +kernel
def bk_Spans_latestUpTo_16_1 : List am_E := [(16, .iload_n 1, 1, 0, 0)]
theorem bk_Spans_latestUpTo_16_1_ok : bk_Spans_latestUpTo_16_1.all (am_ok 8 false m_Spans_latestUpTo.2.1) = true := by decide +kernel
def bk_Spans_latestUpTo_30_2 : List am_E := [(30, .iinc 2 (-1), 3, 0, -1), (33, .goto (-26), 3, 0, -26)]
theorem bk_Spans_latestUpTo_30_2_ok : bk_Spans_latestUpTo_30_2.all (am_ok 8 false m_Spans_latestUpTo.2.1) = true := by decide +kernel
def bk_Spans_latestUpTo_20_2 : List am_E := [(20, .aload_n 0, 1, 0, 0), (21, .iload_n 2, 1, 0, 0)]
theorem bk_Spans_latestUpTo_20_2_ok : bk_Spans_latestUpTo_20_2.all (am_ok 8 false m_Spans_latestUpTo.2.1) = true := by decide +kernel
def bk_Spans_latestUpTo_25_1 : List am_E := [(25, .iload_n 1, 1, 0, 0)]
theorem bk_Spans_latestUpTo_25_1_ok : bk_Spans_latestUpTo_25_1.all (am_ok 8 false m_Spans_latestUpTo.2.1) = true := by decide +kernel
theorem dc_Spans_latestUpTo_38 : decode m_Spans_latestUpTo.2.1 38 = .ok (.ireturn, 1) := by decide +kernel
theorem dc_Spans_latestUpTo_13 : decode m_Spans_latestUpTo.2.1 13 = .ok (.invokevirtual 33, 3) := by decide +kernel
theorem dc_Spans_latestUpTo_22 : decode m_Spans_latestUpTo.2.1 22 = .ok (.invokevirtual 37, 3) := by decide +kernel
theorem dc_Spans_latestUpTo_26 : decode m_Spans_latestUpTo.2.1 26 = .ok (.invokestatic 44, 3) := by decide +kernel
theorem dc_Spans_latestUpTo_29 : decode m_Spans_latestUpTo.2.1 29 = .ok (.ireturn, 1) := by decide +kernel
theorem dc_Spans_latestUpTo_17 : decode m_Spans_latestUpTo.2.1 17 = .ok (.if_icmp .gt 13, 3) := by decide +kernel
theorem dc_Spans_latestUpTo_8 : decode m_Spans_latestUpTo.2.1 8 = .ok (.ifCond .lt 28, 3) := by decide +kernel
set_option maxRecDepth 20000 in
theorem sg_Spans_latestUpTo_0 {kc ks : Nat} (a0 : Nat) (x1 : Int32) (h : am_H) (Q : Option Value → am_H → Prop) (t : (am_tg h a0 = (8, 4) ∧ am_EI m_Spans_latestUpTo kc ks 7 [.ref a0, .int x1, .int ((am_I h a0 3) - 1)] [] h Q)) : am_EI m_Spans_latestUpTo kc ks 0 [.ref a0, .int x1, .float 0] [] h Q := by
  refine am_blk_ok (c := 8) (ini := false) (by decide) rfl (fun q => by cases q) bk_Spans_latestUpTo_0_5 _ 7 _ _ _ bk_Spans_latestUpTo_0_5_ok rfl ?_
  show (am_tg h a0 = (8, 4) ∧ am_EI m_Spans_latestUpTo kc ks 7 [.ref a0, .int x1, .int ((am_I h a0 3) - 1)] [] h Q)
  obtain ⟨o1, t⟩ := t
  refine ⟨o1, ?_⟩
  exact t
set_option maxRecDepth 20000 in
theorem ev_Spans_latestUpTo (a0 : Nat) (x1 : Int32) (h : am_H) (Q : Int32 → am_H → Prop) (t : (am_tg h a0 = (8, 4) ∧ am_EI m_Spans_latestUpTo 0 0 7 [.ref a0, .int x1, .int ((am_I h a0 3) - 1)] [] h (am_qi Q))) : am_Ei m_Spans_latestUpTo 0 0 [.ref a0, .int x1] h Q :=
  am_Ev.of (by decide +kernel) (Nat.le_of_ble_eq_true rfl) (by simp only [List.mem_cons, List.not_mem_nil, or_false]; intro v hv; rcases hv with rfl | rfl; all_goals first | exact trivial) (sg_Spans_latestUpTo_0 (kc := 0) (ks := 0) a0 x1 h (am_qi Q) t)
set_option maxRecDepth 20000 in
theorem sg_Spans_latestUpTo_7 {kc ks : Nat} (a0 : Nat) (x1 x2 : Int32) (h : am_H) (Q : Option Value → am_H → Prop) (t : ((x2 < 0 → Q (some (.int (-2147483648))) h) ∧ (¬ x2 < 0 → (am_tg h a0 = (8, 4) ∧ (am_Ei m_Spans_firstOf 0 0 [.ref a0, .int x2] h (fun r4 h3 => ((x1 < r4 → am_EI m_Spans_latestUpTo kc ks 7 [.ref a0, .int x1, .int (x2 + (-1))] [] h3 Q) ∧ (¬ x1 < r4 → (am_tg h3 a0 = (8, 4) ∧ (am_Ei m_Spans_lastOf 0 0 [.ref a0, .int x2] h3 (fun r8 h7 => (am_Ei m_Math_min 0 0 [.int r8, .int x1] h7 (fun r10 h9 => Q (some (.int r10)) h9))))))))))))) : am_EI m_Spans_latestUpTo kc ks 7 [.ref a0, .int x1, .int x2] [] h Q := by
  refine am_blk_ok (c := 8) (ini := false) (by decide) rfl (fun q => by cases q) bk_Spans_latestUpTo_7_1 _ 8 _ _ _ bk_Spans_latestUpTo_7_1_ok rfl ?_
  show am_EI m_Spans_latestUpTo kc ks 8 [.ref a0, .int x1, .int x2] [.int x2] h Q
  refine am_if_lt (tgt := 36) dc_Spans_latestUpTo_8 (by decide) (fun c1 => ?_) (fun c1 => ?_)
  · replace t := t.1 c1
    refine am_blk_ok (c := 8) (ini := false) (by decide) rfl (fun q => by cases q) bk_Spans_latestUpTo_36_1 _ 38 _ _ _ bk_Spans_latestUpTo_36_1_ok rfl ?_
    show am_EI m_Spans_latestUpTo kc ks 38 [.ref a0, .int x1, .int x2] [.int (-2147483648)] h Q
    exact am_iret dc_Spans_latestUpTo_38 rfl t
  · replace t := t.2 c1
    refine am_blk_ok (c := 8) (ini := false) (by decide) rfl (fun q => by cases q) bk_Spans_latestUpTo_11_2 _ 13 _ _ _ bk_Spans_latestUpTo_11_2_ok rfl ?_
    show am_EI m_Spans_latestUpTo kc ks 13 [.ref a0, .int x1, .int x2] [.int x2, .ref a0] h Q
    obtain ⟨o2, t⟩ := t
    refine am_callV (M2 := m_Spans_firstOf) (ci := 8) (a := a0) (kc := kc) (ks := ks) (k2c := 0) (k2s := 0) (as := []) [.int x2] dc_Spans_latestUpTo_13 lk_8_33 im_Spans_firstOf se_Spans_firstOf lm_Spans_firstOf np_Spans_firstOf ⟨Nat.le_of_ble_eq_true rfl, Nat.le_of_ble_eq_true rfl⟩ (fun _ => Nat.le_of_ble_eq_true rfl) (by decide) rfl o2 (am_Ei.end (am_Ei.mono t (fun r4 h3 t => ?_)))
    refine am_blk_ok (c := 8) (ini := false) (by decide) rfl (fun q => by cases q) bk_Spans_latestUpTo_16_1 _ 17 _ _ _ bk_Spans_latestUpTo_16_1_ok rfl ?_
    show am_EI m_Spans_latestUpTo kc ks 17 [.ref a0, .int x1, .int x2] [.int x1, .int r4] h3 Q
    refine am_ic_gt (tgt := 30) dc_Spans_latestUpTo_17 (by decide) (fun c5 => ?_) (fun c5 => ?_)
    · replace t := t.1 c5
      refine am_blk_ok (c := 8) (ini := false) (by decide) rfl (fun q => by cases q) bk_Spans_latestUpTo_30_2 _ 7 _ _ _ bk_Spans_latestUpTo_30_2_ok rfl ?_
      show am_EI m_Spans_latestUpTo kc ks 7 [.ref a0, .int x1, .int (x2 + (-1))] [] h3 Q
      exact t
    · replace t := t.2 c5
      refine am_blk_ok (c := 8) (ini := false) (by decide) rfl (fun q => by cases q) bk_Spans_latestUpTo_20_2 _ 22 _ _ _ bk_Spans_latestUpTo_20_2_ok rfl ?_
      show am_EI m_Spans_latestUpTo kc ks 22 [.ref a0, .int x1, .int x2] [.int x2, .ref a0] h3 Q
      obtain ⟨o6, t⟩ := t
      refine am_callV (M2 := m_Spans_lastOf) (ci := 8) (a := a0) (kc := kc) (ks := ks) (k2c := 0) (k2s := 0) (as := []) [.int x2] dc_Spans_latestUpTo_22 lk_8_37 im_Spans_lastOf se_Spans_lastOf lm_Spans_lastOf np_Spans_lastOf ⟨Nat.le_of_ble_eq_true rfl, Nat.le_of_ble_eq_true rfl⟩ (fun _ => Nat.le_of_ble_eq_true rfl) (by decide) rfl o6 (am_Ei.end (am_Ei.mono t (fun r8 h7 t => ?_)))
      refine am_blk_ok (c := 8) (ini := false) (by decide) rfl (fun q => by cases q) bk_Spans_latestUpTo_25_1 _ 26 _ _ _ bk_Spans_latestUpTo_25_1_ok rfl ?_
      show am_EI m_Spans_latestUpTo kc ks 26 [.ref a0, .int x1, .int x2] [.int x1, .int r8] h7 Q
      refine am_callS (M2 := m_Math_min) (kc := kc) (ks := ks) (k2c := 0) (k2s := 0) (as := []) [.int r8, .int x1] dc_Spans_latestUpTo_26 lk_8_44 st_Math_min lm_Math_min np_Math_min ⟨Nat.le_of_ble_eq_true rfl, Nat.le_of_ble_eq_true rfl⟩ (fun _ => Nat.le_of_ble_eq_true rfl) (am_Ei.end (am_Ei.mono t (fun r10 h9 t => ?_)))
      exact am_iret dc_Spans_latestUpTo_29 rfl t
def bk_Spans_size_0_2 : List am_E := [(0, .aload_n 0, 1, 0, 0), (1, .getfield 7, 3, 3212, 0)]
theorem bk_Spans_size_0_2_ok : bk_Spans_size_0_2.all (am_ok 8 false m_Spans_size.2.1) = true := by decide +kernel
theorem dc_Spans_size_4 : decode m_Spans_size.2.1 4 = .ok (.ireturn, 1) := by decide +kernel
set_option maxRecDepth 20000 in
theorem sg_Spans_size_0 {kc ks : Nat} (a0 : Nat) (h : am_H) (Q : Option Value → am_H → Prop) (t : (am_tg h a0 = (8, 4) ∧ Q (some (.int (am_I h a0 3))) h)) : am_EI m_Spans_size kc ks 0 [.ref a0] [] h Q := by
  refine am_blk_ok (c := 8) (ini := false) (by decide) rfl (fun q => by cases q) bk_Spans_size_0_2 _ 4 _ _ _ bk_Spans_size_0_2_ok rfl ?_
  show (am_tg h a0 = (8, 4) ∧ am_EI m_Spans_size kc ks 4 [.ref a0] [.int (am_I h a0 3)] h Q)
  obtain ⟨o1, t⟩ := t
  refine ⟨o1, ?_⟩
  exact am_iret dc_Spans_size_4 rfl t
set_option maxRecDepth 20000 in
theorem ev_Spans_size (a0 : Nat) (h : am_H) (Q : Int32 → am_H → Prop) (t : (am_tg h a0 = (8, 4) ∧ Q (am_I h a0 3) h)) : am_Ei m_Spans_size 0 0 [.ref a0] h Q :=
  am_Ev.of (by decide +kernel) (Nat.le_of_ble_eq_true rfl) (by simp only [List.mem_cons, List.not_mem_nil, or_false]; intro v hv; rcases hv with rfl; all_goals first | exact trivial) (sg_Spans_size_0 (kc := 0) (ks := 0) a0 h (am_qi Q) t)
def bk_Spans_unite_0_7 : List am_E := [(0, .aload_n 0, 1, 0, 0), (1, .iconst 0, 1, 0, 0), (2, .putfield 7, 3, 3212, 0), (5, .iconst 0, 1, 0, 0), (6, .istore_n 3, 1, 0, 0), (7, .iconst 0, 1, 0, 0), (8, .istore 4, 2, 0, 0)]
theorem bk_Spans_unite_0_7_ok : bk_Spans_unite_0_7.all (am_ok 8 false m_Spans_unite.2.1) = true := by decide +kernel
def bk_Spans_unite_10_2 : List am_E := [(10, .iload_n 3, 1, 0, 0), (11, .aload_n 1, 1, 0, 0)]
theorem bk_Spans_unite_10_2_ok : bk_Spans_unite_10_2.all (am_ok 8 false m_Spans_unite.2.1) = true := by decide +kernel
def bk_Spans_unite_18_2 : List am_E := [(18, .iload 4, 2, 0, 0), (20, .aload_n 2, 1, 0, 0)]
theorem bk_Spans_unite_18_2_ok : bk_Spans_unite_18_2.all (am_ok 8 false m_Spans_unite.2.1) = true := by decide +kernel
def bk_Spans_unite_27_2 : List am_E := [(27, .iload 4, 2, 0, 0), (29, .aload_n 2, 1, 0, 0)]
theorem bk_Spans_unite_27_2_ok : bk_Spans_unite_27_2.all (am_ok 8 false m_Spans_unite.2.1) = true := by decide +kernel
def bk_Spans_unite_36_2 : List am_E := [(36, .iload_n 3, 1, 0, 0), (37, .aload_n 1, 1, 0, 0)]
theorem bk_Spans_unite_36_2_ok : bk_Spans_unite_36_2.all (am_ok 8 false m_Spans_unite.2.1) = true := by decide +kernel
def bk_Spans_unite_44_2 : List am_E := [(44, .aload_n 1, 1, 0, 0), (45, .iload_n 3, 1, 0, 0)]
theorem bk_Spans_unite_44_2_ok : bk_Spans_unite_44_2.all (am_ok 8 false m_Spans_unite.2.1) = true := by decide +kernel
def bk_Spans_unite_49_2 : List am_E := [(49, .aload_n 2, 1, 0, 0), (50, .iload 4, 2, 0, 0)]
theorem bk_Spans_unite_49_2_ok : bk_Spans_unite_49_2.all (am_ok 8 false m_Spans_unite.2.1) = true := by decide +kernel
def bk_Spans_unite_58_3 : List am_E := [(58, .aload_n 0, 1, 0, 0), (59, .aload_n 1, 1, 0, 0), (60, .iload_n 3, 1, 0, 0)]
theorem bk_Spans_unite_58_3_ok : bk_Spans_unite_58_3.all (am_ok 8 false m_Spans_unite.2.1) = true := by decide +kernel
def bk_Spans_unite_64_2 : List am_E := [(64, .aload_n 1, 1, 0, 0), (65, .iload_n 3, 1, 0, 0)]
theorem bk_Spans_unite_64_2_ok : bk_Spans_unite_64_2.all (am_ok 8 false m_Spans_unite.2.1) = true := by decide +kernel
def bk_Spans_unite_72_2 : List am_E := [(72, .iinc 3 1, 3, 0, 1), (75, .goto (-65), 3, 0, -65)]
theorem bk_Spans_unite_72_2_ok : bk_Spans_unite_72_2.all (am_ok 8 false m_Spans_unite.2.1) = true := by decide +kernel
def bk_Spans_unite_78_3 : List am_E := [(78, .aload_n 0, 1, 0, 0), (79, .aload_n 2, 1, 0, 0), (80, .iload 4, 2, 0, 0)]
theorem bk_Spans_unite_78_3_ok : bk_Spans_unite_78_3.all (am_ok 8 false m_Spans_unite.2.1) = true := by decide +kernel
def bk_Spans_unite_85_2 : List am_E := [(85, .aload_n 2, 1, 0, 0), (86, .iload 4, 2, 0, 0)]
theorem bk_Spans_unite_85_2_ok : bk_Spans_unite_85_2.all (am_ok 8 false m_Spans_unite.2.1) = true := by decide +kernel
def bk_Spans_unite_94_2 : List am_E := [(94, .iinc 4 1, 3, 0, 1), (97, .goto (-87), 3, 0, -87)]
theorem bk_Spans_unite_94_2_ok : bk_Spans_unite_94_2.all (am_ok 8 false m_Spans_unite.2.1) = true := by decide +kernel
theorem dc_Spans_unite_12 : decode m_Spans_unite.2.1 12 = .ok (.invokevirtual 30, 3) := by decide +kernel
theorem dc_Spans_unite_21 : decode m_Spans_unite.2.1 21 = .ok (.invokevirtual 30, 3) := by decide +kernel
theorem dc_Spans_unite_100 : decode m_Spans_unite.2.1 100 = .ok (.return_, 1) := by decide +kernel
theorem dc_Spans_unite_24 : decode m_Spans_unite.2.1 24 = .ok (.if_icmp .ge 76, 3) := by decide +kernel
theorem dc_Spans_unite_15 : decode m_Spans_unite.2.1 15 = .ok (.if_icmp .lt 12, 3) := by decide +kernel
theorem dc_Spans_unite_30 : decode m_Spans_unite.2.1 30 = .ok (.invokevirtual 30, 3) := by decide +kernel
theorem dc_Spans_unite_38 : decode m_Spans_unite.2.1 38 = .ok (.invokevirtual 30, 3) := by decide +kernel
theorem dc_Spans_unite_46 : decode m_Spans_unite.2.1 46 = .ok (.invokevirtual 33, 3) := by decide +kernel
theorem dc_Spans_unite_52 : decode m_Spans_unite.2.1 52 = .ok (.invokevirtual 33, 3) := by decide +kernel
theorem dc_Spans_unite_55 : decode m_Spans_unite.2.1 55 = .ok (.if_icmp .gt 23, 3) := by decide +kernel
theorem dc_Spans_unite_41 : decode m_Spans_unite.2.1 41 = .ok (.if_icmp .ge 37, 3) := by decide +kernel
theorem dc_Spans_unite_33 : decode m_Spans_unite.2.1 33 = .ok (.if_icmp .ge 25, 3) := by decide +kernel
theorem dc_Spans_unite_61 : decode m_Spans_unite.2.1 61 = .ok (.invokevirtual 33, 3) := by decide +kernel
theorem dc_Spans_unite_66 : decode m_Spans_unite.2.1 66 = .ok (.invokevirtual 37, 3) := by decide +kernel
theorem dc_Spans_unite_69 : decode m_Spans_unite.2.1 69 = .ok (.invokevirtual 40, 3) := by decide +kernel
theorem dc_Spans_unite_82 : decode m_Spans_unite.2.1 82 = .ok (.invokevirtual 33, 3) := by decide +kernel
theorem dc_Spans_unite_88 : decode m_Spans_unite.2.1 88 = .ok (.invokevirtual 37, 3) := by decide +kernel
theorem dc_Spans_unite_91 : decode m_Spans_unite.2.1 91 = .ok (.invokevirtual 40, 3) := by decide +kernel
set_option maxRecDepth 20000 in
theorem sg_Spans_unite_0 {kc ks : Nat} (a0 a1 a2 : Nat) (h : am_H) (Q : Option Value → am_H → Prop) (t : (am_tg h a0 = (8, 4) ∧ am_EI m_Spans_unite kc ks 10 [.ref a0, .ref a1, .ref a2, .int 0, .int 0] [] (am_si h a0 3 0) Q)) : am_EI m_Spans_unite kc ks 0 [.ref a0, .ref a1, .ref a2, .float 0, .float 0] [] h Q := by
  refine am_blk_ok (c := 8) (ini := false) (by decide) rfl (fun q => by cases q) bk_Spans_unite_0_7 _ 10 _ _ _ bk_Spans_unite_0_7_ok rfl ?_
  show (am_tg h a0 = (8, 4) ∧ am_EI m_Spans_unite kc ks 10 [.ref a0, .ref a1, .ref a2, .int 0, .int 0] [] (am_si h a0 3 0) Q)
  obtain ⟨o1, t⟩ := t
  refine ⟨o1, ?_⟩
  exact t
set_option maxRecDepth 20000 in
theorem ev_Spans_unite (a0 a1 a2 : Nat) (h : am_H) (Q : am_H → Prop) (t : (am_tg h a0 = (8, 4) ∧ am_EI m_Spans_unite 0 0 10 [.ref a0, .ref a1, .ref a2, .int 0, .int 0] [] (am_si h a0 3 0) (am_qw Q))) : am_Ew m_Spans_unite 0 0 [.ref a0, .ref a1, .ref a2] h Q :=
  am_Ev.of (by decide +kernel) (Nat.le_of_ble_eq_true rfl) (by simp only [List.mem_cons, List.not_mem_nil, or_false]; intro v hv; rcases hv with rfl | rfl | rfl; all_goals first | exact trivial) (sg_Spans_unite_0 (kc := 0) (ks := 0) a0 a1 a2 h (am_qw Q) t)
set_option maxRecDepth 20000 in
theorem sg_Spans_unite_10 {kc ks : Nat} (a0 a1 a2 : Nat) (x3 x4 : Int32) (h : am_H) (Q : Option Value → am_H → Prop) (t : (am_tg h a1 = (8, 4) ∧ (am_Ei m_Spans_size 0 0 [.ref a1] h (fun r3 h2 => ((x3 < r3 → am_EI m_Spans_unite kc ks 27 [.ref a0, .ref a1, .ref a2, .int x3, .int x4] [] h2 Q) ∧ (¬ x3 < r3 → (am_tg h2 a2 = (8, 4) ∧ (am_Ei m_Spans_size 0 0 [.ref a2] h2 (fun r7 h6 => ((r7 ≤ x4 → Q none h6) ∧ (¬ r7 ≤ x4 → am_EI m_Spans_unite kc ks 27 [.ref a0, .ref a1, .ref a2, .int x3, .int x4] [] h6 Q))))))))))) : am_EI m_Spans_unite kc ks 10 [.ref a0, .ref a1, .ref a2, .int x3, .int x4] [] h Q := by
  refine am_blk_ok (c := 8) (ini := false) (by decide) rfl (fun q => by cases q) bk_Spans_unite_10_2 _ 12 _ _ _ bk_Spans_unite_10_2_ok rfl ?_
  show am_EI m_Spans_unite kc ks 12 [.ref a0, .ref a1, .ref a2, .int x3, .int x4] [.ref a1, .int x3] h Q
  obtain ⟨o1, t⟩ := t
  refine am_callV (M2 := m_Spans_size) (ci := 8) (a := a1) (kc := kc) (ks := ks) (k2c := 0) (k2s := 0) (as := [.int x3]) [] dc_Spans_unite_12 lk_8_30 im_Spans_size se_Spans_size lm_Spans_size np_Spans_size ⟨Nat.le_of_ble_eq_true rfl, Nat.le_of_ble_eq_true rfl⟩ (fun _ => Nat.le_of_ble_eq_true rfl) (by decide) rfl o1 (am_Ei.end (am_Ei.mono t (fun r3 h2 t => ?_)))
  refine am_ic_lt (tgt := 27) dc_Spans_unite_15 (by decide) (fun c4 => ?_) (fun c4 => ?_)
  · replace t := t.1 c4
    exact t
  · replace t := t.2 c4
    refine am_blk_ok (c := 8) (ini := false) (by decide) rfl (fun q => by cases q) bk_Spans_unite_18_2 _ 21 _ _ _ bk_Spans_unite_18_2_ok rfl ?_
    show am_EI m_Spans_unite kc ks 21 [.ref a0, .ref a1, .ref a2, .int x3, .int x4] [.ref a2, .int x4] h2 Q
    obtain ⟨o5, t⟩ := t
    refine am_callV (M2 := m_Spans_size) (ci := 8) (a := a2) (kc := kc) (ks := ks) (k2c := 0) (k2s := 0) (as := [.int x4]) [] dc_Spans_unite_21 lk_8_30 im_Spans_size se_Spans_size lm_Spans_size np_Spans_size ⟨Nat.le_of_ble_eq_true rfl, Nat.le_of_ble_eq_true rfl⟩ (fun _ => Nat.le_of_ble_eq_true rfl) (by decide) rfl o5 (am_Ei.end (am_Ei.mono t (fun r7 h6 t => ?_)))
    refine am_ic_ge (tgt := 100) dc_Spans_unite_24 (by decide) (fun c8 => ?_) (fun c8 => ?_)
    · replace t := t.1 c8
      exact am_vret dc_Spans_unite_100 rfl t
    · replace t := t.2 c8
      exact t
set_option maxRecDepth 20000 in
theorem sg_Spans_unite_27 {kc ks : Nat} (a0 a1 a2 : Nat) (x3 x4 : Int32) (h : am_H) (Q : Option Value → am_H → Prop) (t : (am_tg h a2 = (8, 4) ∧ (am_Ei m_Spans_size 0 0 [.ref a2] h (fun r3 h2 => ((r3 ≤ x4 → am_EI m_Spans_unite kc ks 58 [.ref a0, .ref a1, .ref a2, .int x3, .int x4] [] h2 Q) ∧ (¬ r3 ≤ x4 → (am_tg h2 a1 = (8, 4) ∧ (am_Ei m_Spans_size 0 0 [.ref a1] h2 (fun r7 h6 => ((r7 ≤ x3 → am_EI m_Spans_unite kc ks 78 [.ref a0, .ref a1, .ref a2, .int x3, .int x4] [] h6 Q) ∧ (¬ r7 ≤ x3 → (am_tg h6 a1 = (8, 4) ∧ (am_Ei m_Spans_firstOf 0 0 [.ref a1, .int x3] h6 (fun r11 h10 => (am_tg h10 a2 = (8, 4) ∧ (am_Ei m_Spans_firstOf 0 0 [.ref a2, .int x4] h10 (fun r14 h13 => ((r14 < r11 → am_EI m_Spans_unite kc ks 78 [.ref a0, .ref a1, .ref a2, .int x3, .int x4] [] h13 Q) ∧ (¬ r14 < r11 → am_EI m_Spans_unite kc ks 58 [.ref a0, .ref a1, .ref a2, .int x3, .int x4] [] h13 Q))))))))))))))))))) : am_EI m_Spans_unite kc ks 27 [.ref a0, .ref a1, .ref a2, .int x3, .int x4] [] h Q := by
  refine am_blk_ok (c := 8) (ini := false) (by decide) rfl (fun q => by cases q) bk_Spans_unite_27_2 _ 30 _ _ _ bk_Spans_unite_27_2_ok rfl ?_
  show am_EI m_Spans_unite kc ks 30 [.ref a0, .ref a1, .ref a2, .int x3, .int x4] [.ref a2, .int x4] h Q
  obtain ⟨o1, t⟩ := t
  refine am_callV (M2 := m_Spans_size) (ci := 8) (a := a2) (kc := kc) (ks := ks) (k2c := 0) (k2s := 0) (as := [.int x4]) [] dc_Spans_unite_30 lk_8_30 im_Spans_size se_Spans_size lm_Spans_size np_Spans_size ⟨Nat.le_of_ble_eq_true rfl, Nat.le_of_ble_eq_true rfl⟩ (fun _ => Nat.le_of_ble_eq_true rfl) (by decide) rfl o1 (am_Ei.end (am_Ei.mono t (fun r3 h2 t => ?_)))
  refine am_ic_ge (tgt := 58) dc_Spans_unite_33 (by decide) (fun c4 => ?_) (fun c4 => ?_)
  · replace t := t.1 c4
    exact t
  · replace t := t.2 c4
    refine am_blk_ok (c := 8) (ini := false) (by decide) rfl (fun q => by cases q) bk_Spans_unite_36_2 _ 38 _ _ _ bk_Spans_unite_36_2_ok rfl ?_
    show am_EI m_Spans_unite kc ks 38 [.ref a0, .ref a1, .ref a2, .int x3, .int x4] [.ref a1, .int x3] h2 Q
    obtain ⟨o5, t⟩ := t
    refine am_callV (M2 := m_Spans_size) (ci := 8) (a := a1) (kc := kc) (ks := ks) (k2c := 0) (k2s := 0) (as := [.int x3]) [] dc_Spans_unite_38 lk_8_30 im_Spans_size se_Spans_size lm_Spans_size np_Spans_size ⟨Nat.le_of_ble_eq_true rfl, Nat.le_of_ble_eq_true rfl⟩ (fun _ => Nat.le_of_ble_eq_true rfl) (by decide) rfl o5 (am_Ei.end (am_Ei.mono t (fun r7 h6 t => ?_)))
    refine am_ic_ge (tgt := 78) dc_Spans_unite_41 (by decide) (fun c8 => ?_) (fun c8 => ?_)
    · replace t := t.1 c8
      exact t
    · replace t := t.2 c8
      refine am_blk_ok (c := 8) (ini := false) (by decide) rfl (fun q => by cases q) bk_Spans_unite_44_2 _ 46 _ _ _ bk_Spans_unite_44_2_ok rfl ?_
      show am_EI m_Spans_unite kc ks 46 [.ref a0, .ref a1, .ref a2, .int x3, .int x4] [.int x3, .ref a1] h6 Q
      obtain ⟨o9, t⟩ := t
      refine am_callV (M2 := m_Spans_firstOf) (ci := 8) (a := a1) (kc := kc) (ks := ks) (k2c := 0) (k2s := 0) (as := []) [.int x3] dc_Spans_unite_46 lk_8_33 im_Spans_firstOf se_Spans_firstOf lm_Spans_firstOf np_Spans_firstOf ⟨Nat.le_of_ble_eq_true rfl, Nat.le_of_ble_eq_true rfl⟩ (fun _ => Nat.le_of_ble_eq_true rfl) (by decide) rfl o9 (am_Ei.end (am_Ei.mono t (fun r11 h10 t => ?_)))
      refine am_blk_ok (c := 8) (ini := false) (by decide) rfl (fun q => by cases q) bk_Spans_unite_49_2 _ 52 _ _ _ bk_Spans_unite_49_2_ok rfl ?_
      show am_EI m_Spans_unite kc ks 52 [.ref a0, .ref a1, .ref a2, .int x3, .int x4] [.int x4, .ref a2, .int r11] h10 Q
      obtain ⟨o12, t⟩ := t
      refine am_callV (M2 := m_Spans_firstOf) (ci := 8) (a := a2) (kc := kc) (ks := ks) (k2c := 0) (k2s := 0) (as := [.int r11]) [.int x4] dc_Spans_unite_52 lk_8_33 im_Spans_firstOf se_Spans_firstOf lm_Spans_firstOf np_Spans_firstOf ⟨Nat.le_of_ble_eq_true rfl, Nat.le_of_ble_eq_true rfl⟩ (fun _ => Nat.le_of_ble_eq_true rfl) (by decide) rfl o12 (am_Ei.end (am_Ei.mono t (fun r14 h13 t => ?_)))
      refine am_ic_gt (tgt := 78) dc_Spans_unite_55 (by decide) (fun c15 => ?_) (fun c15 => ?_)
      · replace t := t.1 c15
        exact t
      · replace t := t.2 c15
        exact t
set_option maxRecDepth 20000 in
theorem sg_Spans_unite_58 {kc ks : Nat} (a0 a1 a2 : Nat) (x3 x4 : Int32) (h : am_H) (Q : Option Value → am_H → Prop) (t : (am_tg h a1 = (8, 4) ∧ (am_Ei m_Spans_firstOf 0 0 [.ref a1, .int x3] h (fun r3 h2 => (am_tg h2 a1 = (8, 4) ∧ (am_Ei m_Spans_lastOf 0 0 [.ref a1, .int x3] h2 (fun r6 h5 => (am_tg h5 a0 = (8, 4) ∧ (am_Ew m_Spans_add 0 0 [.ref a0, .int r3, .int r6] h5 (fun h8 => am_EI m_Spans_unite kc ks 10 [.ref a0, .ref a1, .ref a2, .int (x3 + 1), .int x4] [] h8 Q)))))))))) : am_EI m_Spans_unite kc ks 58 [.ref a0, .ref a1, .ref a2, .int x3, .int x4] [] h Q := by
  refine am_blk_ok (c := 8) (ini := false) (by decide) rfl (fun q => by cases q) bk_Spans_unite_58_3 _ 61 _ _ _ bk_Spans_unite_58_3_ok rfl ?_
  show am_EI m_Spans_unite kc ks 61 [.ref a0, .ref a1, .ref a2, .int x3, .int x4] [.int x3, .ref a1, .ref a0] h Q
  obtain ⟨o1, t⟩ := t
  refine am_callV (M2 := m_Spans_firstOf) (ci := 8) (a := a1) (kc := kc) (ks := ks) (k2c := 0) (k2s := 0) (as := [.ref a0]) [.int x3] dc_Spans_unite_61 lk_8_33 im_Spans_firstOf se_Spans_firstOf lm_Spans_firstOf np_Spans_firstOf ⟨Nat.le_of_ble_eq_true rfl, Nat.le_of_ble_eq_true rfl⟩ (fun _ => Nat.le_of_ble_eq_true rfl) (by decide) rfl o1 (am_Ei.end (am_Ei.mono t (fun r3 h2 t => ?_)))
  refine am_blk_ok (c := 8) (ini := false) (by decide) rfl (fun q => by cases q) bk_Spans_unite_64_2 _ 66 _ _ _ bk_Spans_unite_64_2_ok rfl ?_
  show am_EI m_Spans_unite kc ks 66 [.ref a0, .ref a1, .ref a2, .int x3, .int x4] [.int x3, .ref a1, .int r3, .ref a0] h2 Q
  obtain ⟨o4, t⟩ := t
  refine am_callV (M2 := m_Spans_lastOf) (ci := 8) (a := a1) (kc := kc) (ks := ks) (k2c := 0) (k2s := 0) (as := [.int r3, .ref a0]) [.int x3] dc_Spans_unite_66 lk_8_37 im_Spans_lastOf se_Spans_lastOf lm_Spans_lastOf np_Spans_lastOf ⟨Nat.le_of_ble_eq_true rfl, Nat.le_of_ble_eq_true rfl⟩ (fun _ => Nat.le_of_ble_eq_true rfl) (by decide) rfl o4 (am_Ei.end (am_Ei.mono t (fun r6 h5 t => ?_)))
  obtain ⟨o7, t⟩ := t
  refine am_callV (M2 := m_Spans_add) (ci := 8) (a := a0) (kc := kc) (ks := ks) (k2c := 0) (k2s := 0) (as := []) [.int r3, .int r6] dc_Spans_unite_69 lk_8_40 im_Spans_add se_Spans_add lm_Spans_add np_Spans_add ⟨Nat.le_of_ble_eq_true rfl, Nat.le_of_ble_eq_true rfl⟩ (fun _ => Nat.le_of_ble_eq_true rfl) (by decide) rfl o7 (am_Ew.end (am_Ew.mono t (fun h8 t => ?_)))
  refine am_blk_ok (c := 8) (ini := false) (by decide) rfl (fun q => by cases q) bk_Spans_unite_72_2 _ 10 _ _ _ bk_Spans_unite_72_2_ok rfl ?_
  show am_EI m_Spans_unite kc ks 10 [.ref a0, .ref a1, .ref a2, .int (x3 + 1), .int x4] [] h8 Q
  exact t
set_option maxRecDepth 20000 in
theorem sg_Spans_unite_78 {kc ks : Nat} (a0 a1 a2 : Nat) (x3 x4 : Int32) (h : am_H) (Q : Option Value → am_H → Prop) (t : (am_tg h a2 = (8, 4) ∧ (am_Ei m_Spans_firstOf 0 0 [.ref a2, .int x4] h (fun r3 h2 => (am_tg h2 a2 = (8, 4) ∧ (am_Ei m_Spans_lastOf 0 0 [.ref a2, .int x4] h2 (fun r6 h5 => (am_tg h5 a0 = (8, 4) ∧ (am_Ew m_Spans_add 0 0 [.ref a0, .int r3, .int r6] h5 (fun h8 => am_EI m_Spans_unite kc ks 10 [.ref a0, .ref a1, .ref a2, .int x3, .int (x4 + 1)] [] h8 Q)))))))))) : am_EI m_Spans_unite kc ks 78 [.ref a0, .ref a1, .ref a2, .int x3, .int x4] [] h Q := by
  refine am_blk_ok (c := 8) (ini := false) (by decide) rfl (fun q => by cases q) bk_Spans_unite_78_3 _ 82 _ _ _ bk_Spans_unite_78_3_ok rfl ?_
  show am_EI m_Spans_unite kc ks 82 [.ref a0, .ref a1, .ref a2, .int x3, .int x4] [.int x4, .ref a2, .ref a0] h Q
  obtain ⟨o1, t⟩ := t
  refine am_callV (M2 := m_Spans_firstOf) (ci := 8) (a := a2) (kc := kc) (ks := ks) (k2c := 0) (k2s := 0) (as := [.ref a0]) [.int x4] dc_Spans_unite_82 lk_8_33 im_Spans_firstOf se_Spans_firstOf lm_Spans_firstOf np_Spans_firstOf ⟨Nat.le_of_ble_eq_true rfl, Nat.le_of_ble_eq_true rfl⟩ (fun _ => Nat.le_of_ble_eq_true rfl) (by decide) rfl o1 (am_Ei.end (am_Ei.mono t (fun r3 h2 t => ?_)))
  refine am_blk_ok (c := 8) (ini := false) (by decide) rfl (fun q => by cases q) bk_Spans_unite_85_2 _ 88 _ _ _ bk_Spans_unite_85_2_ok rfl ?_
  show am_EI m_Spans_unite kc ks 88 [.ref a0, .ref a1, .ref a2, .int x3, .int x4] [.int x4, .ref a2, .int r3, .ref a0] h2 Q
  obtain ⟨o4, t⟩ := t
  refine am_callV (M2 := m_Spans_lastOf) (ci := 8) (a := a2) (kc := kc) (ks := ks) (k2c := 0) (k2s := 0) (as := [.int r3, .ref a0]) [.int x4] dc_Spans_unite_88 lk_8_37 im_Spans_lastOf se_Spans_lastOf lm_Spans_lastOf np_Spans_lastOf ⟨Nat.le_of_ble_eq_true rfl, Nat.le_of_ble_eq_true rfl⟩ (fun _ => Nat.le_of_ble_eq_true rfl) (by decide) rfl o4 (am_Ei.end (am_Ei.mono t (fun r6 h5 t => ?_)))
  obtain ⟨o7, t⟩ := t
  refine am_callV (M2 := m_Spans_add) (ci := 8) (a := a0) (kc := kc) (ks := ks) (k2c := 0) (k2s := 0) (as := []) [.int r3, .int r6] dc_Spans_unite_91 lk_8_40 im_Spans_add se_Spans_add lm_Spans_add np_Spans_add ⟨Nat.le_of_ble_eq_true rfl, Nat.le_of_ble_eq_true rfl⟩ (fun _ => Nat.le_of_ble_eq_true rfl) (by decide) rfl o7 (am_Ew.end (am_Ew.mono t (fun h8 t => ?_)))
  refine am_blk_ok (c := 8) (ini := false) (by decide) rfl (fun q => by cases q) bk_Spans_unite_94_2 _ 10 _ _ _ bk_Spans_unite_94_2_ok rfl ?_
  show am_EI m_Spans_unite kc ks 10 [.ref a0, .ref a1, .ref a2, .int x3, .int (x4 + 1)] [] h8 Q
  exact t
