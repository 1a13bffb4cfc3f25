def bk_Route_add_0_2 : List am_E := [(0, .aload_n 0, 1, 0, 0), (1, .getfield 7, 3, 1624, 0)]
theorem bk_Route_add_0_2_ok : bk_Route_add_0_2.all (am_ok 4 false m_Route_add.2.1) = true := by decide +kernel
def bk_Route_add_7_4 : List am_E := [(7, .aload_n 0, 1, 0, 0), (8, .getfield 7, 3, 1624, 0), (11, .aload_n 0, 1, 0, 0), (12, .getfield 19, 3, 1600, 0)]
theorem bk_Route_add_7_4_ok : bk_Route_add_7_4.all (am_ok 4 false m_Route_add.2.1) = true := by decide +kernel
def bk_Route_add_18_30 : List am_E := [(18, .aload_n 0, 1, 0, 0), (19, .getfield 38, 3, 1621, 0), (22, .aload_n 0, 1, 0, 0), (23, .getfield 7, 3, 1624, 0), (26, .iload_n 1, 1, 0, 0), (27, .iastore, 1, 0, 0), (28, .aload_n 0, 1, 0, 0), (29, .getfield 28, 3, 1609, 0), (32, .aload_n 0, 1, 0, 0), (33, .getfield 7, 3, 1624, 0), (36, .iload_n 2, 1, 0, 0), (37, .iastore, 1, 0, 0), (38, .aload_n 0, 1, 0, 0), (39, .getfield 32, 3, 1613, 0), (42, .aload_n 0, 1, 0, 0), (43, .getfield 7, 3, 1624, 0), (46, .iload_n 3, 1, 0, 0), (47, .iastore, 1, 0, 0), (48, .aload_n 0, 1, 0, 0), (49, .getfield 35, 3, 1617, 0), (52, .aload_n 0, 1, 0, 0), (53, .getfield 7, 3, 1624, 0), (56, .iload 4, 2, 0, 0), (58, .iastore, 1, 0, 0), (59, .aload_n 0, 1, 0, 0), (60, .dup, 1, 0, 0), (61, .getfield 7, 3, 1624, 0), (64, .iconst 1, 1, 0, 1), (65, .iadd, 1, 0, 0), (66, .putfield 7, 3, 1624, 0)]
theorem bk_Route_add_18_30_ok : bk_Route_add_18_30.all (am_ok 4 false m_Route_add.2.1) = true := by decide +kernel
theorem dc_Route_add_69 : decode m_Route_add.2.1 69 = .ok (.return_, 1) := by decide +kernel
theorem dc_Route_add_15 : decode m_Route_add.2.1 15 = .ok (.if_icmp .ge 54, 3) := by decide +kernel
theorem dc_Route_add_4 : decode m_Route_add.2.1 4 = .ok (.ifCond .lt 65, 3) := by decide +kernel
set_option maxRecDepth 20000 in
theorem sg_Route_add_0 {kc ks : Nat} (a0 : Nat) (x1 x2 x3 x4 : Int32) (h : am_H) (Q : Option Value → am_H → Prop) (t : (am_tg h a0 = (4, 7) ∧ (((am_I h a0 6) < 0 → Q none h) ∧ (¬ (am_I h a0 6) < 0 → (((am_I h a0 0) ≤ (am_I h a0 6) → Q none h) ∧ (¬ (am_I h a0 0) ≤ (am_I h a0 6) → (∃ b4, am_P h a0 5 = some b4 ∧ ((am_tg h b4).1 = 20 ∧ (vp_in (am_I h a0 6) (am_tg h b4).2 ∧ (∃ b5, am_P h a0 2 = some b5 ∧ ((am_tg h b5).1 = 20 ∧ (vp_in (am_I (am_si h b4 ((am_I h a0 6).toNatClampNeg) x1) a0 6) (am_tg h b5).2 ∧ (∃ b6, am_P h a0 3 = some b6 ∧ ((am_tg h b6).1 = 20 ∧ (vp_in (am_I (am_si (am_si h b4 ((am_I h a0 6).toNatClampNeg) x1) b5 ((am_I (am_si h b4 ((am_I h a0 6).toNatClampNeg) x1) a0 6).toNatClampNeg) x2) a0 6) (am_tg h b6).2 ∧ (∃ b7, am_P h a0 4 = some b7 ∧ ((am_tg h b7).1 = 20 ∧ (vp_in (am_I (am_si (am_si (am_si h b4 ((am_I h a0 6).toNatClampNeg) x1) b5 ((am_I (am_si h b4 ((am_I h a0 6).toNatClampNeg) x1) a0 6).toNatClampNeg) x2) b6 ((am_I (am_si (am_si h b4 ((am_I h a0 6).toNatClampNeg) x1) b5 ((am_I (am_si h b4 ((am_I h a0 6).toNatClampNeg) x1) a0 6).toNatClampNeg) x2) a0 6).toNatClampNeg) x3) a0 6) (am_tg h b7).2 ∧ Q none (am_si (am_si (am_si (am_si (am_si h b4 ((am_I h a0 6).toNatClampNeg) x1) b5 ((am_I (am_si h b4 ((am_I h a0 6).toNatClampNeg) x1) a0 6).toNatClampNeg) x2) b6 ((am_I (am_si (am_si h b4 ((am_I h a0 6).toNatClampNeg) x1) b5 ((am_I (am_si h b4 ((am_I h a0 6).toNatClampNeg) x1) a0 6).toNatClampNeg) x2) a0 6).toNatClampNeg) x3) b7 ((am_I (am_si (am_si (am_si h b4 ((am_I h a0 6).toNatClampNeg) x1) b5 ((am_I (am_si h b4 ((am_I h a0 6).toNatClampNeg) x1) a0 6).toNatClampNeg) x2) b6 ((am_I (am_si (am_si h b4 ((am_I h a0 6).toNatClampNeg) x1) b5 ((am_I (am_si h b4 ((am_I h a0 6).toNatClampNeg) x1) a0 6).toNatClampNeg) x2) a0 6).toNatClampNeg) x3) a0 6).toNatClampNeg) x4) a0 6 ((am_I (am_si (am_si (am_si (am_si h b4 ((am_I h a0 6).toNatClampNeg) x1) b5 ((am_I (am_si h b4 ((am_I h a0 6).toNatClampNeg) x1) a0 6).toNatClampNeg) x2) b6 ((am_I (am_si (am_si h b4 ((am_I h a0 6).toNatClampNeg) x1) b5 ((am_I (am_si h b4 ((am_I h a0 6).toNatClampNeg) x1) a0 6).toNatClampNeg) x2) a0 6).toNatClampNeg) x3) b7 ((am_I (am_si (am_si (am_si h b4 ((am_I h a0 6).toNatClampNeg) x1) b5 ((am_I (am_si h b4 ((am_I h a0 6).toNatClampNeg) x1) a0 6).toNatClampNeg) x2) b6 ((am_I (am_si (am_si h b4 ((am_I h a0 6).toNatClampNeg) x1) b5 ((am_I (am_si h b4 ((am_I h a0 6).toNatClampNeg) x1) a0 6).toNatClampNeg) x2) a0 6).toNatClampNeg) x3) a0 6).toNatClampNeg) x4) a0 6) + 1)))))))))))))))))))) : am_EI m_Route_add kc ks 0 [.ref a0, .int x1, .int x2, .int x3, .int x4] [] h Q := by
  refine am_blk_ok (c := 4) (ini := false) (by decide) rfl (fun q => by cases q) bk_Route_add_0_2 _ 4 _ _ _ bk_Route_add_0_2_ok rfl ?_
  show (am_tg h a0 = (4, 7) ∧ am_EI m_Route_add kc ks 4 [.ref a0, .int x1, .int x2, .int x3, .int x4] [.int (am_I h a0 6)] h Q)
  obtain ⟨o1, t⟩ := t
  refine ⟨o1, ?_⟩
  refine am_if_lt (tgt := 69) dc_Route_add_4 (by decide) (fun c2 => ?_) (fun c2 => ?_)
  · replace t := t.1 c2
    exact am_vret dc_Route_add_69 rfl t
  · replace t := t.2 c2
    refine am_blk_ok (c := 4) (ini := false) (by decide) rfl (fun q => by cases q) bk_Route_add_7_4 _ 15 _ _ _ bk_Route_add_7_4_ok rfl ?_
    show (am_tg h a0 = (4, 7) ∧ (am_tg h a0 = (4, 7) ∧ am_EI m_Route_add kc ks 15 [.ref a0, .int x1, .int x2, .int x3, .int x4] [.int (am_I h a0 0), .int (am_I h a0 6)] h Q))
    refine ⟨o1, o1, ?_⟩
    refine am_ic_ge (tgt := 69) dc_Route_add_15 (by decide) (fun c3 => ?_) (fun c3 => ?_)
    · replace t := t.1 c3
      exact am_vret dc_Route_add_69 rfl t
    · replace t := t.2 c3
      refine am_blk_ok (c := 4) (ini := false) (by decide) rfl (fun q => by cases q) bk_Route_add_18_30 _ 69 _ _ _ bk_Route_add_18_30_ok rfl ?_
      show (am_tg h a0 = (4, 7) ∧ (∃ b4, am_P h a0 5 = some b4 ∧ (am_tg h a0 = (4, 7) ∧ ((am_tg h b4).1 = 20 ∧ (vp_in (am_I h a0 6) (am_tg h b4).2 ∧ (am_tg h a0 = (4, 7) ∧ (∃ b5, am_P h a0 2 = some b5 ∧ (am_tg h a0 = (4, 7) ∧ ((am_tg h b5).1 = 20 ∧ (vp_in (am_I (am_si h b4 ((am_I h a0 6).toNatClampNeg) x1) a0 6) (am_tg h b5).2 ∧ (am_tg h a0 = (4, 7) ∧ (∃ b6, am_P h a0 3 = some b6 ∧ (am_tg h a0 = (4, 7) ∧ ((am_tg h b6).1 = 20 ∧ (vp_in (am_I (am_si (am_si h b4 ((am_I h a0 6).toNatClampNeg) x1) b5 ((am_I (am_si h b4 ((am_I h a0 6).toNatClampNeg) x1) a0 6).toNatClampNeg) x2) a0 6) (am_tg h b6).2 ∧ (am_tg h a0 = (4, 7) ∧ (∃ b7, am_P h a0 4 = some b7 ∧ (am_tg h a0 = (4, 7) ∧ ((am_tg h b7).1 = 20 ∧ (vp_in (am_I (am_si (am_si (am_si h b4 ((am_I h a0 6).toNatClampNeg) x1) b5 ((am_I (am_si h b4 ((am_I h a0 6).toNatClampNeg) x1) a0 6).toNatClampNeg) x2) b6 ((am_I (am_si (am_si h b4 ((am_I h a0 6).toNatClampNeg) x1) b5 ((am_I (am_si h b4 ((am_I h a0 6).toNatClampNeg) x1) a0 6).toNatClampNeg) x2) a0 6).toNatClampNeg) x3) a0 6) (am_tg h b7).2 ∧ (am_tg h a0 = (4, 7) ∧ (am_tg h a0 = (4, 7) ∧ am_EI m_Route_add kc ks 69 [.ref a0, .int x1, .int x2, .int x3, .int x4] [] (am_si (am_si (am_si (am_si (am_si h b4 ((am_I h a0 6).toNatClampNeg) x1) b5 ((am_I (am_si h b4 ((am_I h a0 6).toNatClampNeg) x1) a0 6).toNatClampNeg) x2) b6 ((am_I (am_si (am_si h b4 ((am_I h a0 6).toNatClampNeg) x1) b5 ((am_I (am_si h b4 ((am_I h a0 6).toNatClampNeg) x1) a0 6).toNatClampNeg) x2) a0 6).toNatClampNeg) x3) b7 ((am_I (am_si (am_si (am_si h b4 ((am_I h a0 6).toNatClampNeg) x1) b5 ((am_I (am_si h b4 ((am_I h a0 6).toNatClampNeg) x1) a0 6).toNatClampNeg) x2) b6 ((am_I (am_si (am_si h b4 ((am_I h a0 6).toNatClampNeg) x1) b5 ((am_I (am_si h b4 ((am_I h a0 6).toNatClampNeg) x1) a0 6).toNatClampNeg) x2) a0 6).toNatClampNeg) x3) a0 6).toNatClampNeg) x4) a0 6 ((am_I (am_si (am_si (am_si (am_si h b4 ((am_I h a0 6).toNatClampNeg) x1) b5 ((am_I (am_si h b4 ((am_I h a0 6).toNatClampNeg) x1) a0 6).toNatClampNeg) x2) b6 ((am_I (am_si (am_si h b4 ((am_I h a0 6).toNatClampNeg) x1) b5 ((am_I (am_si h b4 ((am_I h a0 6).toNatClampNeg) x1) a0 6).toNatClampNeg) x2) a0 6).toNatClampNeg) x3) b7 ((am_I (am_si (am_si (am_si h b4 ((am_I h a0 6).toNatClampNeg) x1) b5 ((am_I (am_si h b4 ((am_I h a0 6).toNatClampNeg) x1) a0 6).toNatClampNeg) x2) b6 ((am_I (am_si (am_si h b4 ((am_I h a0 6).toNatClampNeg) x1) b5 ((am_I (am_si h b4 ((am_I h a0 6).toNatClampNeg) x1) a0 6).toNatClampNeg) x2) a0 6).toNatClampNeg) x3) a0 6).toNatClampNeg) x4) a0 6) + 1)) Q))))))))))))))))))))))
      obtain ⟨b4, q8, o9, o10, b5, q11, o12, o13, b6, q14, o15, o16, b7, q17, o18, o19, t⟩ := t
      refine ⟨o1, b4, q8, o1, o9, o10, o1, b5, q11, o1, o12, o13, o1, b6, q14, o1, o15, o16, o1, b7, q17, o1, o18, o19, o1, o1, ?_⟩
      exact am_vret dc_Route_add_69 rfl t
set_option maxRecDepth 20000 in
theorem ev_Route_add (a0 : Nat) (x1 x2 x3 x4 : Int32) (h : am_H) (Q : am_H → Prop) (t : (am_tg h a0 = (4, 7) ∧ (((am_I h a0 6) < 0 → Q h) ∧ (¬ (am_I h a0 6) < 0 → (((am_I h a0 0) ≤ (am_I h a0 6) → Q h) ∧ (¬ (am_I h a0 0) ≤ (am_I h a0 6) → (∃ b4, am_P h a0 5 = some b4 ∧ ((am_tg h b4).1 = 20 ∧ (vp_in (am_I h a0 6) (am_tg h b4).2 ∧ (∃ b5, am_P h a0 2 = some b5 ∧ ((am_tg h b5).1 = 20 ∧ (vp_in (am_I (am_si h b4 ((am_I h a0 6).toNatClampNeg) x1) a0 6) (am_tg h b5).2 ∧ (∃ b6, am_P h a0 3 = some b6 ∧ ((am_tg h b6).1 = 20 ∧ (vp_in (am_I (am_si (am_si h b4 ((am_I h a0 6).toNatClampNeg) x1) b5 ((am_I (am_si h b4 ((am_I h a0 6).toNatClampNeg) x1) a0 6).toNatClampNeg) x2) a0 6) (am_tg h b6).2 ∧ (∃ b7, am_P h a0 4 = some b7 ∧ ((am_tg h b7).1 = 20 ∧ (vp_in (am_I (am_si (am_si (am_si h b4 ((am_I h a0 6).toNatClampNeg) x1) b5 ((am_I (am_si h b4 ((am_I h a0 6).toNatClampNeg) x1) a0 6).toNatClampNeg) x2) b6 ((am_I (am_si (am_si h b4 ((am_I h a0 6).toNatClampNeg) x1) b5 ((am_I (am_si h b4 ((am_I h a0 6).toNatClampNeg) x1) a0 6).toNatClampNeg) x2) a0 6).toNatClampNeg) x3) a0 6) (am_tg h b7).2 ∧ Q (am_si (am_si (am_si (am_si (am_si h b4 ((am_I h a0 6).toNatClampNeg) x1) b5 ((am_I (am_si h b4 ((am_I h a0 6).toNatClampNeg) x1) a0 6).toNatClampNeg) x2) b6 ((am_I (am_si (am_si h b4 ((am_I h a0 6).toNatClampNeg) x1) b5 ((am_I (am_si h b4 ((am_I h a0 6).toNatClampNeg) x1) a0 6).toNatClampNeg) x2) a0 6).toNatClampNeg) x3) b7 ((am_I (am_si (am_si (am_si h b4 ((am_I h a0 6).toNatClampNeg) x1) b5 ((am_I (am_si h b4 ((am_I h a0 6).toNatClampNeg) x1) a0 6).toNatClampNeg) x2) b6 ((am_I (am_si (am_si h b4 ((am_I h a0 6).toNatClampNeg) x1) b5 ((am_I (am_si h b4 ((am_I h a0 6).toNatClampNeg) x1) a0 6).toNatClampNeg) x2) a0 6).toNatClampNeg) x3) a0 6).toNatClampNeg) x4) a0 6 ((am_I (am_si (am_si (am_si (am_si h b4 ((am_I h a0 6).toNatClampNeg) x1) b5 ((am_I (am_si h b4 ((am_I h a0 6).toNatClampNeg) x1) a0 6).toNatClampNeg) x2) b6 ((am_I (am_si (am_si h b4 ((am_I h a0 6).toNatClampNeg) x1) b5 ((am_I (am_si h b4 ((am_I h a0 6).toNatClampNeg) x1) a0 6).toNatClampNeg) x2) a0 6).toNatClampNeg) x3) b7 ((am_I (am_si (am_si (am_si h b4 ((am_I h a0 6).toNatClampNeg) x1) b5 ((am_I (am_si h b4 ((am_I h a0 6).toNatClampNeg) x1) a0 6).toNatClampNeg) x2) b6 ((am_I (am_si (am_si h b4 ((am_I h a0 6).toNatClampNeg) x1) b5 ((am_I (am_si h b4 ((am_I h a0 6).toNatClampNeg) x1) a0 6).toNatClampNeg) x2) a0 6).toNatClampNeg) x3) a0 6).toNatClampNeg) x4) a0 6) + 1)))))))))))))))))))) : am_Ew m_Route_add 0 0 [.ref a0, .int x1, .int x2, .int x3, .int x4] h Q :=
  am_Ev.of (by decide +kernel) (Nat.le_of_ble_eq_true rfl) (by simp only [List.mem_cons, List.not_mem_nil, or_false]; intro v hv; rcases hv with rfl | rfl | rfl | rfl | rfl; all_goals first | exact trivial) (sg_Route_add_0 (kc := 0) (ks := 0) a0 x1 x2 x3 x4 h (am_qw Q) t)
def bk_Route_copyFrom_0_5 : List am_E := [(0, .aload_n 0, 1, 0, 0), (1, .iconst 0, 1, 0, 0), (2, .putfield 7, 3, 1624, 0), (5, .iconst 0, 1, 0, 0), (6, .istore_n 2, 1, 0, 0)]
theorem bk_Route_copyFrom_0_5_ok : bk_Route_copyFrom_0_5.all (am_ok 4 false m_Route_copyFrom.2.1) = true := by decide +kernel
def bk_Route_copyFrom_7_2 : List am_E := [(7, .iload_n 2, 1, 0, 0), (8, .aload_n 1, 1, 0, 0)]
theorem bk_Route_copyFrom_7_2_ok : bk_Route_copyFrom_7_2.all (am_ok 4 false m_Route_copyFrom.2.1) = true := by decide +kernel
def bk_Route_copyFrom_15_3 : List am_E := [(15, .aload_n 0, 1, 0, 0), (16, .aload_n 1, 1, 0, 0), (17, .iload_n 2, 1, 0, 0)]
theorem bk_Route_copyFrom_15_3_ok : bk_Route_copyFrom_15_3.all (am_ok 4 false m_Route_copyFrom.2.1) = true := by decide +kernel
def bk_Route_copyFrom_21_2 : List am_E := [(21, .aload_n 1, 1, 0, 0), (22, .iload_n 2, 1, 0, 0)]
theorem bk_Route_copyFrom_21_2_ok : bk_Route_copyFrom_21_2.all (am_ok 4 false m_Route_copyFrom.2.1) = true := by decide +kernel
def bk_Route_copyFrom_26_2 : List am_E := [(26, .aload_n 1, 1, 0, 0), (27, .iload_n 2, 1, 0, 0)]
theorem bk_Route_copyFrom_26_2_ok : bk_Route_copyFrom_26_2.all (am_ok 4 false m_Route_copyFrom.2.1) = true := by decide +kernel
def bk_Route_copyFrom_31_2 : List am_E := [(31, .aload_n 1, 1, 0, 0), (32, .iload_n 2, 1, 0, 0)]
theorem bk_Route_copyFrom_31_2_ok : bk_Route_copyFrom_31_2.all (am_ok 4 false m_Route_copyFrom.2.1) = true := by decide +kernel
def bk_Route_copyFrom_39_2 : List am_E := [(39, .iinc 2 1, 3, 0, 1), (42, .goto (-35), 3, 0, -35)]
theorem bk_Route_copyFrom_39_2_ok : bk_Route_copyFrom_39_2.all (am_ok 4 false m_Route_copyFrom.2.1) = true := by decide +kernel
theorem dc_Route_copyFrom_9 : decode m_Route_copyFrom.2.1 9 = .ok (.invokevirtual 45, 3) := by decide +kernel
theorem dc_Route_copyFrom_45 : decode m_Route_copyFrom.2.1 45 = .ok (.return_, 1) := by decide +kernel
theorem dc_Route_copyFrom_18 : decode m_Route_copyFrom.2.1 18 = .ok (.invokevirtual 49, 3) := by decide +kernel
theorem dc_Route_copyFrom_23 : decode m_Route_copyFrom.2.1 23 = .ok (.invokevirtual 53, 3) := by decide +kernel
theorem dc_Route_copyFrom_28 : decode m_Route_copyFrom.2.1 28 = .ok (.invokevirtual 56, 3) := by decide +kernel
theorem dc_Route_copyFrom_33 : decode m_Route_copyFrom.2.1 33 = .ok (.invokevirtual 59, 3) := by decide +kernel
theorem dc_Route_copyFrom_36 : decode m_Route_copyFrom.2.1 36 = .ok (.invokevirtual 62, 3) := by decide +kernel
theorem dc_Route_copyFrom_12 : decode m_Route_copyFrom.2.1 12 = .ok (.if_icmp .ge 33, 3) := by decide +kernel
set_option maxRecDepth 20000 in
theorem sg_Route_copyFrom_0 {kc ks : Nat} (a0 a1 : Nat) (h : am_H) (Q : Option Value → am_H → Prop) (t : (am_tg h a0 = (4, 7) ∧ am_EI m_Route_copyFrom kc ks 7 [.ref a0, .ref a1, .int 0] [] (am_si h a0 6 0) Q)) : am_EI m_Route_copyFrom kc ks 0 [.ref a0, .ref a1, .float 0] [] h Q := by
  refine am_blk_ok (c := 4) (ini := false) (by decide) rfl (fun q => by cases q) bk_Route_copyFrom_0_5 _ 7 _ _ _ bk_Route_copyFrom_0_5_ok rfl ?_
  show (am_tg h a0 = (4, 7) ∧ am_EI m_Route_copyFrom kc ks 7 [.ref a0, .ref a1, .int 0] [] (am_si h a0 6 0) Q)
  obtain ⟨o1, t⟩ := t
  refine ⟨o1, ?_⟩
  exact t
set_option maxRecDepth 20000 in
theorem ev_Route_copyFrom (a0 a1 : Nat) (h : am_H) (Q : am_H → Prop) (t : (am_tg h a0 = (4, 7) ∧ am_EI m_Route_copyFrom 0 0 7 [.ref a0, .ref a1, .int 0] [] (am_si h a0 6 0) (am_qw Q))) : am_Ew m_Route_copyFrom 0 0 [.ref a0, .ref a1] h Q :=
  am_Ev.of (by decide +kernel) (Nat.le_of_ble_eq_true rfl) (by simp only [List.mem_cons, List.not_mem_nil, or_false]; intro v hv; rcases hv with rfl | rfl; all_goals first | exact trivial) (sg_Route_copyFrom_0 (kc := 0) (ks := 0) a0 a1 h (am_qw Q) t)
set_option maxRecDepth 20000 in
theorem sg_Route_copyFrom_7 {kc ks : Nat} (a0 a1 : Nat) (x2 : Int32) (h : am_H) (Q : Option Value → am_H → Prop) (t : (am_tg h a1 = (4, 7) ∧ (am_Ei m_Route_stopCount 0 0 [.ref a1] h (fun r3 h2 => ((r3 ≤ x2 → Q none h2) ∧ (¬ r3 ≤ x2 → (am_tg h2 a1 = (4, 7) ∧ (am_Ei m_Route_milesTo 0 0 [.ref a1, .int x2] h2 (fun r7 h6 => (am_tg h6 a1 = (4, 7) ∧ (am_Ei m_Route_sillNumberOf 0 0 [.ref a1, .int x2] h6 (fun r10 h9 => (am_tg h9 a1 = (4, 7) ∧ (am_Ei m_Route_kindOf 0 0 [.ref a1, .int x2] h9 (fun r13 h12 => (am_tg h12 a1 = (4, 7) ∧ (am_Ei m_Route_levelOf 0 0 [.ref a1, .int x2] h12 (fun r16 h15 => (am_tg h15 a0 = (4, 7) ∧ (am_Ew m_Route_add 0 0 [.ref a0, .int r7, .int r10, .int r13, .int r16] h15 (fun h18 => am_EI m_Route_copyFrom kc ks 7 [.ref a0, .ref a1, .int (x2 + 1)] [] h18 Q))))))))))))))))))))) : am_EI m_Route_copyFrom kc ks 7 [.ref a0, .ref a1, .int x2] [] h Q := by
  refine am_blk_ok (c := 4) (ini := false) (by decide) rfl (fun q => by cases q) bk_Route_copyFrom_7_2 _ 9 _ _ _ bk_Route_copyFrom_7_2_ok rfl ?_
  show am_EI m_Route_copyFrom kc ks 9 [.ref a0, .ref a1, .int x2] [.ref a1, .int x2] h Q
  obtain ⟨o1, t⟩ := t
  refine am_callV (M2 := m_Route_stopCount) (ci := 4) (a := a1) (kc := kc) (ks := ks) (k2c := 0) (k2s := 0) (as := [.int x2]) [] dc_Route_copyFrom_9 lk_4_45 im_Route_stopCount se_Route_stopCount lm_Route_stopCount np_Route_stopCount ⟨Nat.le_of_ble_eq_true rfl, Nat.le_of_ble_eq_true rfl⟩ (fun _ => Nat.le_of_ble_eq_true rfl) (by decide) rfl o1 (am_Ei.end (am_Ei.mono t (fun r3 h2 t => ?_)))
  refine am_ic_ge (tgt := 45) dc_Route_copyFrom_12 (by decide) (fun c4 => ?_) (fun c4 => ?_)
  · replace t := t.1 c4
    exact am_vret dc_Route_copyFrom_45 rfl t
  · replace t := t.2 c4
    refine am_blk_ok (c := 4) (ini := false) (by decide) rfl (fun q => by cases q) bk_Route_copyFrom_15_3 _ 18 _ _ _ bk_Route_copyFrom_15_3_ok rfl ?_
    show am_EI m_Route_copyFrom kc ks 18 [.ref a0, .ref a1, .int x2] [.int x2, .ref a1, .ref a0] h2 Q
    obtain ⟨o5, t⟩ := t
    refine am_callV (M2 := m_Route_milesTo) (ci := 4) (a := a1) (kc := kc) (ks := ks) (k2c := 0) (k2s := 0) (as := [.ref a0]) [.int x2] dc_Route_copyFrom_18 lk_4_49 im_Route_milesTo se_Route_milesTo lm_Route_milesTo np_Route_milesTo ⟨Nat.le_of_ble_eq_true rfl, Nat.le_of_ble_eq_true rfl⟩ (fun _ => Nat.le_of_ble_eq_true rfl) (by decide) rfl o5 (am_Ei.end (am_Ei.mono t (fun r7 h6 t => ?_)))
    refine am_blk_ok (c := 4) (ini := false) (by decide) rfl (fun q => by cases q) bk_Route_copyFrom_21_2 _ 23 _ _ _ bk_Route_copyFrom_21_2_ok rfl ?_
    show am_EI m_Route_copyFrom kc ks 23 [.ref a0, .ref a1, .int x2] [.int x2, .ref a1, .int r7, .ref a0] h6 Q
    obtain ⟨o8, t⟩ := t
    refine am_callV (M2 := m_Route_sillNumberOf) (ci := 4) (a := a1) (kc := kc) (ks := ks) (k2c := 0) (k2s := 0) (as := [.int r7, .ref a0]) [.int x2] dc_Route_copyFrom_23 lk_4_53 im_Route_sillNumberOf se_Route_sillNumberOf lm_Route_sillNumberOf np_Route_sillNumberOf ⟨Nat.le_of_ble_eq_true rfl, Nat.le_of_ble_eq_true rfl⟩ (fun _ => Nat.le_of_ble_eq_true rfl) (by decide) rfl o8 (am_Ei.end (am_Ei.mono t (fun r10 h9 t => ?_)))
    refine am_blk_ok (c := 4) (ini := false) (by decide) rfl (fun q => by cases q) bk_Route_copyFrom_26_2 _ 28 _ _ _ bk_Route_copyFrom_26_2_ok rfl ?_
    show am_EI m_Route_copyFrom kc ks 28 [.ref a0, .ref a1, .int x2] [.int x2, .ref a1, .int r10, .int r7, .ref a0] h9 Q
    obtain ⟨o11, t⟩ := t
    refine am_callV (M2 := m_Route_kindOf) (ci := 4) (a := a1) (kc := kc) (ks := ks) (k2c := 0) (k2s := 0) (as := [.int r10, .int r7, .ref a0]) [.int x2] dc_Route_copyFrom_28 lk_4_56 im_Route_kindOf se_Route_kindOf lm_Route_kindOf np_Route_kindOf ⟨Nat.le_of_ble_eq_true rfl, Nat.le_of_ble_eq_true rfl⟩ (fun _ => Nat.le_of_ble_eq_true rfl) (by decide) rfl o11 (am_Ei.end (am_Ei.mono t (fun r13 h12 t => ?_)))
    refine am_blk_ok (c := 4) (ini := false) (by decide) rfl (fun q => by cases q) bk_Route_copyFrom_31_2 _ 33 _ _ _ bk_Route_copyFrom_31_2_ok rfl ?_
    show am_EI m_Route_copyFrom kc ks 33 [.ref a0, .ref a1, .int x2] [.int x2, .ref a1, .int r13, .int r10, .int r7, .ref a0] h12 Q
    obtain ⟨o14, t⟩ := t
    refine am_callV (M2 := m_Route_levelOf) (ci := 4) (a := a1) (kc := kc) (ks := ks) (k2c := 0) (k2s := 0) (as := [.int r13, .int r10, .int r7, .ref a0]) [.int x2] dc_Route_copyFrom_33 lk_4_59 im_Route_levelOf se_Route_levelOf lm_Route_levelOf np_Route_levelOf ⟨Nat.le_of_ble_eq_true rfl, Nat.le_of_ble_eq_true rfl⟩ (fun _ => Nat.le_of_ble_eq_true rfl) (by decide) rfl o14 (am_Ei.end (am_Ei.mono t (fun r16 h15 t => ?_)))
    obtain ⟨o17, t⟩ := t
    refine am_callV (M2 := m_Route_add) (ci := 4) (a := a0) (kc := kc) (ks := ks) (k2c := 0) (k2s := 0) (as := []) [.int r7, .int r10, .int r13, .int r16] dc_Route_copyFrom_36 lk_4_62 im_Route_add se_Route_add lm_Route_add np_Route_add ⟨Nat.le_of_ble_eq_true rfl, Nat.le_of_ble_eq_true rfl⟩ (fun _ => Nat.le_of_ble_eq_true rfl) (by decide) rfl o17 (am_Ew.end (am_Ew.mono t (fun h18 t => ?_)))
    refine am_blk_ok (c := 4) (ini := false) (by decide) rfl (fun q => by cases q) bk_Route_copyFrom_39_2 _ 7 _ _ _ bk_Route_copyFrom_39_2_ok rfl ?_
    show am_EI m_Route_copyFrom kc ks 7 [.ref a0, .ref a1, .int (x2 + 1)] [] h18 Q
    exact t
def bk_Route_findFault_0_2 : List am_E := [(0, .iconst 0, 1, 0, 0), (1, .istore_n 2, 1, 0, 0)]
theorem bk_Route_findFault_0_2_ok : bk_Route_findFault_0_2.all (am_ok 4 false m_Route_findFault.2.1) = true := by decide +kernel
def bk_Route_findFault_2_3 : List am_E := [(2, .iload_n 2, 1, 0, 0), (3, .aload_n 0, 1, 0, 0), (4, .getfield 7, 3, 1624, 0)]
theorem bk_Route_findFault_2_3_ok : bk_Route_findFault_2_3.all (am_ok 4 false m_Route_findFault.2.1) = true := by decide +kernel
def bk_Route_findFault_39_1 : List am_E := [(39, .iconst 0, 1, 0, 0)]
theorem bk_Route_findFault_39_1_ok : bk_Route_findFault_39_1.all (am_ok 4 false m_Route_findFault.2.1) = true := by decide +kernel
def bk_Route_findFault_10_2 : List am_E := [(10, .aload_n 0, 1, 0, 0), (11, .iload_n 2, 1, 0, 0)]
theorem bk_Route_findFault_10_2_ok : bk_Route_findFault_10_2.all (am_ok 4 false m_Route_findFault.2.1) = true := by decide +kernel
def bk_Route_findFault_15_1 : List am_E := [(15, .iload_n 1, 1, 0, 0)]
theorem bk_Route_findFault_15_1_ok : bk_Route_findFault_15_1.all (am_ok 4 false m_Route_findFault.2.1) = true := by decide +kernel
def bk_Route_findFault_30_1 : List am_E := [(30, .bipush 10, 2, 0, 10)]
theorem bk_Route_findFault_30_1_ok : bk_Route_findFault_30_1.all (am_ok 4 false m_Route_findFault.2.1) = true := by decide +kernel
def bk_Route_findFault_19_2 : List am_E := [(19, .aload_n 0, 1, 0, 0), (20, .iload_n 2, 1, 0, 0)]
theorem bk_Route_findFault_19_2_ok : bk_Route_findFault_19_2.all (am_ok 4 false m_Route_findFault.2.1) = true := by decide +kernel
def bk_Route_findFault_33_2 : List am_E := [(33, .iinc 2 1, 3, 0, 1), (36, .goto (-34), 3, 0, -34)]
theorem bk_Route_findFault_33_2_ok : bk_Route_findFault_33_2.all (am_ok 4 false m_Route_findFault.2.1) = true := by decide +kernel
theorem dc_Route_findFault_40 : decode m_Route_findFault.2.1 40 = .ok (.ireturn, 1) := by decide +kernel
theorem dc_Route_findFault_12 : decode m_Route_findFault.2.1 12 = .ok (.invokevirtual 53, 3) := by decide +kernel
theorem dc_Route_findFault_32 : decode m_Route_findFault.2.1 32 = .ok (.ireturn, 1) := by decide +kernel
theorem dc_Route_findFault_21 : decode m_Route_findFault.2.1 21 = .ok (.invokevirtual 59, 3) := by decide +kernel
theorem dc_Route_findFault_24 : decode m_Route_findFault.2.1 24 = .ok (.invokestatic 79, 3) := by decide +kernel
theorem dc_Route_findFault_27 : decode m_Route_findFault.2.1 27 = .ok (.ifCond .ne 6, 3) := by decide +kernel
theorem dc_Route_findFault_16 : decode m_Route_findFault.2.1 16 = .ok (.if_icmp .ge 14, 3) := by decide +kernel
theorem dc_Route_findFault_7 : decode m_Route_findFault.2.1 7 = .ok (.if_icmp .ge 32, 3) := by decide +kernel
set_option maxRecDepth 20000 in
theorem sg_Route_findFault_0 {kc ks : Nat} (a0 : Nat) (x1 : Int32) (h : am_H) (Q : Option Value → am_H → Prop) (t : am_EI m_Route_findFault kc ks 2 [.ref a0, .int x1, .int 0] [] h Q) : am_EI m_Route_findFault kc ks 0 [.ref a0, .int x1, .float 0] [] h Q := by
  refine am_blk_ok (c := 4) (ini := false) (by decide) rfl (fun q => by cases q) bk_Route_findFault_0_2 _ 2 _ _ _ bk_Route_findFault_0_2_ok rfl ?_
  show am_EI m_Route_findFault kc ks 2 [.ref a0, .int x1, .int 0] [] h Q
  exact t
set_option maxRecDepth 20000 in
theorem ev_Route_findFault (a0 : Nat) (x1 : Int32) (h : am_H) (Q : Int32 → am_H → Prop) (t : am_EI m_Route_findFault 0 0 2 [.ref a0, .int x1, .int 0] [] h (am_qi Q)) : am_Ei m_Route_findFault 0 0 [.ref a0, .int x1] h Q :=
  am_Ev.of (by decide +kernel) (Nat.le_of_ble_eq_true rfl) (by simp only [List.mem_cons, List.not_mem_nil, or_false]; intro v hv; rcases hv with rfl | rfl; all_goals first | exact trivial) (sg_Route_findFault_0 (kc := 0) (ks := 0) a0 x1 h (am_qi Q) t)
set_option maxRecDepth 20000 in
theorem sg_Route_findFault_2 {kc ks : Nat} (a0 : Nat) (x1 x2 : Int32) (h : am_H) (Q : Option Value → am_H → Prop) (t : (am_tg h a0 = (4, 7) ∧ (((am_I h a0 6) ≤ x2 → Q (some (.int 0)) h) ∧ (¬ (am_I h a0 6) ≤ x2 → (am_Ei m_Route_sillNumberOf 0 0 [.ref a0, .int x2] h (fun r4 h3 => ((x1 ≤ r4 → Q (some (.int 10)) h3) ∧ (¬ x1 ≤ r4 → (am_tg h3 a0 = (4, 7) ∧ (am_Ei m_Route_levelOf 0 0 [.ref a0, .int x2] h3 (fun r8 h7 => (am_Ei m_Port_isHeight 0 0 [.int r8] h7 (fun r10 h9 => ((¬ r10 = 0 → am_EI m_Route_findFault kc ks 2 [.ref a0, .int x1, .int (x2 + 1)] [] h9 Q) ∧ (r10 = 0 → Q (some (.int 10)) h9))))))))))))))) : am_EI m_Route_findFault kc ks 2 [.ref a0, .int x1, .int x2] [] h Q := by
  refine am_blk_ok (c := 4) (ini := false) (by decide) rfl (fun q => by cases q) bk_Route_findFault_2_3 _ 7 _ _ _ bk_Route_findFault_2_3_ok rfl ?_
  show (am_tg h a0 = (4, 7) ∧ am_EI m_Route_findFault kc ks 7 [.ref a0, .int x1, .int x2] [.int (am_I h a0 6), .int x2] h Q)
  obtain ⟨o1, t⟩ := t
  refine ⟨o1, ?_⟩
  refine am_ic_ge (tgt := 39) dc_Route_findFault_7 (by decide) (fun c2 => ?_) (fun c2 => ?_)
  · replace t := t.1 c2
    refine am_blk_ok (c := 4) (ini := false) (by decide) rfl (fun q => by cases q) bk_Route_findFault_39_1 _ 40 _ _ _ bk_Route_findFault_39_1_ok rfl ?_
    show am_EI m_Route_findFault kc ks 40 [.ref a0, .int x1, .int x2] [.int 0] h Q
    exact am_iret dc_Route_findFault_40 rfl t
  · replace t := t.2 c2
    refine am_blk_ok (c := 4) (ini := false) (by decide) rfl (fun q => by cases q) bk_Route_findFault_10_2 _ 12 _ _ _ bk_Route_findFault_10_2_ok rfl ?_
    show am_EI m_Route_findFault kc ks 12 [.ref a0, .int x1, .int x2] [.int x2, .ref a0] h Q
    refine am_callV (M2 := m_Route_sillNumberOf) (ci := 4) (a := a0) (kc := kc) (ks := ks) (k2c := 0) (k2s := 0) (as := []) [.int x2] dc_Route_findFault_12 lk_4_53 im_Route_sillNumberOf se_Route_sillNumberOf lm_Route_sillNumberOf np_Route_sillNumberOf ⟨Nat.le_of_ble_eq_true rfl, Nat.le_of_ble_eq_true rfl⟩ (fun _ => Nat.le_of_ble_eq_true rfl) (by decide) rfl o1 (am_Ei.end (am_Ei.mono t (fun r4 h3 t => ?_)))
    refine am_blk_ok (c := 4) (ini := false) (by decide) rfl (fun q => by cases q) bk_Route_findFault_15_1 _ 16 _ _ _ bk_Route_findFault_15_1_ok rfl ?_
    show am_EI m_Route_findFault kc ks 16 [.ref a0, .int x1, .int x2] [.int x1, .int r4] h3 Q
    refine am_ic_ge (tgt := 30) dc_Route_findFault_16 (by decide) (fun c5 => ?_) (fun c5 => ?_)
    · replace t := t.1 c5
      refine am_blk_ok (c := 4) (ini := false) (by decide) rfl (fun q => by cases q) bk_Route_findFault_30_1 _ 32 _ _ _ bk_Route_findFault_30_1_ok rfl ?_
      show am_EI m_Route_findFault kc ks 32 [.ref a0, .int x1, .int x2] [.int 10] h3 Q
      exact am_iret dc_Route_findFault_32 rfl t
    · replace t := t.2 c5
      refine am_blk_ok (c := 4) (ini := false) (by decide) rfl (fun q => by cases q) bk_Route_findFault_19_2 _ 21 _ _ _ bk_Route_findFault_19_2_ok rfl ?_
      show am_EI m_Route_findFault kc ks 21 [.ref a0, .int x1, .int x2] [.int x2, .ref a0] h3 Q
      obtain ⟨o6, t⟩ := t
      refine am_callV (M2 := m_Route_levelOf) (ci := 4) (a := a0) (kc := kc) (ks := ks) (k2c := 0) (k2s := 0) (as := []) [.int x2] dc_Route_findFault_21 lk_4_59 im_Route_levelOf se_Route_levelOf lm_Route_levelOf np_Route_levelOf ⟨Nat.le_of_ble_eq_true rfl, Nat.le_of_ble_eq_true rfl⟩ (fun _ => Nat.le_of_ble_eq_true rfl) (by decide) rfl o6 (am_Ei.end (am_Ei.mono t (fun r8 h7 t => ?_)))
      refine am_callS (M2 := m_Port_isHeight) (kc := kc) (ks := ks) (k2c := 0) (k2s := 0) (as := []) [.int r8] dc_Route_findFault_24 lk_4_79 st_Port_isHeight lm_Port_isHeight np_Port_isHeight ⟨Nat.le_of_ble_eq_true rfl, Nat.le_of_ble_eq_true rfl⟩ (fun _ => Nat.le_of_ble_eq_true rfl) (am_Ei.end (am_Ei.mono t (fun r10 h9 t => ?_)))
      refine am_if_ne (tgt := 33) dc_Route_findFault_27 (by decide) (fun c11 => ?_) (fun c11 => ?_)
      · replace t := t.1 c11
        refine am_blk_ok (c := 4) (ini := false) (by decide) rfl (fun q => by cases q) bk_Route_findFault_33_2 _ 2 _ _ _ bk_Route_findFault_33_2_ok rfl ?_
        show am_EI m_Route_findFault kc ks 2 [.ref a0, .int x1, .int (x2 + 1)] [] h9 Q
        exact t
      · replace t := t.2 c11
        refine am_blk_ok (c := 4) (ini := false) (by decide) rfl (fun q => by cases q) bk_Route_findFault_30_1 _ 32 _ _ _ bk_Route_findFault_30_1_ok rfl ?_
        show am_EI m_Route_findFault kc ks 32 [.ref a0, .int x1, .int x2] [.int 10] h9 Q
        exact am_iret dc_Route_findFault_32 rfl t
def bk_Route_init_0_1 : List am_E := [(0, .aload_n 0, 1, 0, 0)]
theorem bk_Route_init_0_1_ok : bk_Route_init_0_1.all (am_ok 4 true m_Route_init.2.1) = true := by decide +kernel
def bk_Route_init_4_6 : List am_E := [(4, .aload_n 0, 1, 0, 0), (5, .iconst 0, 1, 0, 0), (6, .putfield 7, 3, 1624, 0), (9, .aload_n 0, 1, 0, 0), (10, .iload_n 1, 1, 0, 0), (11, .iconst 1, 1, 0, 1)]
theorem bk_Route_init_4_6_ok : bk_Route_init_4_6.all (am_ok 4 true m_Route_init.2.1) = true := by decide +kernel
def bk_Route_init_15_4 : List am_E := [(15, .putfield 19, 3, 1600, 0), (18, .aload_n 0, 1, 0, 0), (19, .aload_n 0, 1, 0, 0), (20, .getfield 19, 3, 1600, 0)]
theorem bk_Route_init_15_4_ok : bk_Route_init_15_4.all (am_ok 4 true m_Route_init.2.1) = true := by decide +kernel
def bk_Route_init_26_4 : List am_E := [(26, .putfield 24, 3, 1605, 0), (29, .aload_n 0, 1, 0, 0), (30, .aload_n 0, 1, 0, 0), (31, .getfield 19, 3, 1600, 0)]
theorem bk_Route_init_26_4_ok : bk_Route_init_26_4.all (am_ok 4 true m_Route_init.2.1) = true := by decide +kernel
def bk_Route_init_36_4 : List am_E := [(36, .putfield 28, 3, 1609, 0), (39, .aload_n 0, 1, 0, 0), (40, .aload_n 0, 1, 0, 0), (41, .getfield 19, 3, 1600, 0)]
theorem bk_Route_init_36_4_ok : bk_Route_init_36_4.all (am_ok 4 true m_Route_init.2.1) = true := by decide +kernel
def bk_Route_init_46_4 : List am_E := [(46, .putfield 32, 3, 1613, 0), (49, .aload_n 0, 1, 0, 0), (50, .aload_n 0, 1, 0, 0), (51, .getfield 19, 3, 1600, 0)]
theorem bk_Route_init_46_4_ok : bk_Route_init_46_4.all (am_ok 4 true m_Route_init.2.1) = true := by decide +kernel
def bk_Route_init_56_4 : List am_E := [(56, .putfield 35, 3, 1617, 0), (59, .aload_n 0, 1, 0, 0), (60, .aload_n 0, 1, 0, 0), (61, .getfield 19, 3, 1600, 0)]
theorem bk_Route_init_56_4_ok : bk_Route_init_56_4.all (am_ok 4 true m_Route_init.2.1) = true := by decide +kernel
def bk_Route_init_66_1 : List am_E := [(66, .putfield 38, 3, 1621, 0)]
theorem bk_Route_init_66_1_ok : bk_Route_init_66_1.all (am_ok 4 true m_Route_init.2.1) = true := by decide +kernel
theorem dc_Route_init_12 : decode m_Route_init.2.1 12 = .ok (.invokestatic 13, 3) := by decide +kernel
theorem dc_Route_init_69 : decode m_Route_init.2.1 69 = .ok (.return_, 1) := by decide +kernel
theorem dc_Route_init_64 : decode m_Route_init.2.1 64 = .ok (.newarray .int, 2) := by decide +kernel
theorem dc_Route_init_54 : decode m_Route_init.2.1 54 = .ok (.newarray .int, 2) := by decide +kernel
theorem dc_Route_init_44 : decode m_Route_init.2.1 44 = .ok (.newarray .int, 2) := by decide +kernel
theorem dc_Route_init_34 : decode m_Route_init.2.1 34 = .ok (.newarray .int, 2) := by decide +kernel
theorem dc_Route_init_23 : decode m_Route_init.2.1 23 = .ok (.anewarray 22, 3) := by decide +kernel
theorem dc_Route_init_1 : decode m_Route_init.2.1 1 = .ok (.invokespecial 1, 3) := by decide +kernel
set_option maxRecDepth 20000 in
theorem sg_Route_init_0 {kc ks : Nat} (N : Nat) (a0 : Nat) (x1 : Int32) (h : am_H) (Q : Option Value → am_H → Prop) (t : (am_tg h a0 = (4, 7) ∧ (am_Ei m_Math_max 0 0 [.int x1, .int 1] (am_si h a0 6 0) (fun r3 h2 => (am_tg h2 a0 = (4, 7) ∧ ((¬ (am_I (am_si h2 a0 0 r3) a0 0) < 0) ∧ ((am_I (am_si h2 a0 0 r3) a0 0).toNatClampNeg = N) ∧ (N ≤ 100000) ∧ (am_tg (am_nw (am_si h2 a0 0 r3) 37 N) a0 = (4, 7) ∧ ((¬ (am_I (am_nw (am_si h2 a0 0 r3) 37 N) a0 0) < 0) ∧ ((am_I (am_nw (am_si h2 a0 0 r3) 37 N) a0 0).toNatClampNeg = N) ∧ (N ≤ 100000) ∧ (am_tg (am_nw (am_sp (am_nw (am_si h2 a0 0 r3) 37 N) a0 1 (some (am_sz h2))) 20 N) a0 = (4, 7) ∧ ((¬ (am_I (am_nw (am_sp (am_nw (am_si h2 a0 0 r3) 37 N) a0 1 (some (am_sz h2))) 20 N) a0 0) < 0) ∧ ((am_I (am_nw (am_sp (am_nw (am_si h2 a0 0 r3) 37 N) a0 1 (some (am_sz h2))) 20 N) a0 0).toNatClampNeg = N) ∧ (N ≤ 100000) ∧ (am_tg (am_nw (am_sp (am_nw (am_sp (am_nw (am_si h2 a0 0 r3) 37 N) a0 1 (some (am_sz h2))) 20 N) a0 2 (some (am_sz (am_nw (am_si h2 a0 0 r3) 37 N)))) 20 N) a0 = (4, 7) ∧ ((¬ (am_I (am_nw (am_sp (am_nw (am_sp (am_nw (am_si h2 a0 0 r3) 37 N) a0 1 (some (am_sz h2))) 20 N) a0 2 (some (am_sz (am_nw (am_si h2 a0 0 r3) 37 N)))) 20 N) a0 0) < 0) ∧ ((am_I (am_nw (am_sp (am_nw (am_sp (am_nw (am_si h2 a0 0 r3) 37 N) a0 1 (some (am_sz h2))) 20 N) a0 2 (some (am_sz (am_nw (am_si h2 a0 0 r3) 37 N)))) 20 N) a0 0).toNatClampNeg = N) ∧ (N ≤ 100000) ∧ (am_tg (am_nw (am_sp (am_nw (am_sp (am_nw (am_sp (am_nw (am_si h2 a0 0 r3) 37 N) a0 1 (some (am_sz h2))) 20 N) a0 2 (some (am_sz (am_nw (am_si h2 a0 0 r3) 37 N)))) 20 N) a0 3 (some (am_sz (am_nw (am_sp (am_nw (am_si h2 a0 0 r3) 37 N) a0 1 (some (am_sz h2))) 20 N)))) 20 N) a0 = (4, 7) ∧ ((¬ (am_I (am_nw (am_sp (am_nw (am_sp (am_nw (am_sp (am_nw (am_si h2 a0 0 r3) 37 N) a0 1 (some (am_sz h2))) 20 N) a0 2 (some (am_sz (am_nw (am_si h2 a0 0 r3) 37 N)))) 20 N) a0 3 (some (am_sz (am_nw (am_sp (am_nw (am_si h2 a0 0 r3) 37 N) a0 1 (some (am_sz h2))) 20 N)))) 20 N) a0 0) < 0) ∧ ((am_I (am_nw (am_sp (am_nw (am_sp (am_nw (am_sp (am_nw (am_si h2 a0 0 r3) 37 N) a0 1 (some (am_sz h2))) 20 N) a0 2 (some (am_sz (am_nw (am_si h2 a0 0 r3) 37 N)))) 20 N) a0 3 (some (am_sz (am_nw (am_sp (am_nw (am_si h2 a0 0 r3) 37 N) a0 1 (some (am_sz h2))) 20 N)))) 20 N) a0 0).toNatClampNeg = N) ∧ (N ≤ 100000) ∧ (am_tg (am_nw (am_sp (am_nw (am_sp (am_nw (am_sp (am_nw (am_sp (am_nw (am_si h2 a0 0 r3) 37 N) a0 1 (some (am_sz h2))) 20 N) a0 2 (some (am_sz (am_nw (am_si h2 a0 0 r3) 37 N)))) 20 N) a0 3 (some (am_sz (am_nw (am_sp (am_nw (am_si h2 a0 0 r3) 37 N) a0 1 (some (am_sz h2))) 20 N)))) 20 N) a0 4 (some (am_sz (am_nw (am_sp (am_nw (am_sp (am_nw (am_si h2 a0 0 r3) 37 N) a0 1 (some (am_sz h2))) 20 N) a0 2 (some (am_sz (am_nw (am_si h2 a0 0 r3) 37 N)))) 20 N)))) 20 N) a0 = (4, 7) ∧ Q none (am_sp (am_nw (am_sp (am_nw (am_sp (am_nw (am_sp (am_nw (am_sp (am_nw (am_si h2 a0 0 r3) 37 N) a0 1 (some (am_sz h2))) 20 N) a0 2 (some (am_sz (am_nw (am_si h2 a0 0 r3) 37 N)))) 20 N) a0 3 (some (am_sz (am_nw (am_sp (am_nw (am_si h2 a0 0 r3) 37 N) a0 1 (some (am_sz h2))) 20 N)))) 20 N) a0 4 (some (am_sz (am_nw (am_sp (am_nw (am_sp (am_nw (am_si h2 a0 0 r3) 37 N) a0 1 (some (am_sz h2))) 20 N) a0 2 (some (am_sz (am_nw (am_si h2 a0 0 r3) 37 N)))) 20 N)))) 20 N) a0 5 (some (am_sz (am_nw (am_sp (am_nw (am_sp (am_nw (am_sp (am_nw (am_si h2 a0 0 r3) 37 N) a0 1 (some (am_sz h2))) 20 N) a0 2 (some (am_sz (am_nw (am_si h2 a0 0 r3) 37 N)))) 20 N) a0 3 (some (am_sz (am_nw (am_sp (am_nw (am_si h2 a0 0 r3) 37 N) a0 1 (some (am_sz h2))) 20 N)))) 20 N))))))))))))))))))) : am_EI m_Route_init (kc + 1 + 1 + 1 + 1 + 1) (ks + N + N + N + N + N) 0 [.ref a0, .int x1] [] h Q := by
  refine am_blk_ok (c := 4) (ini := true) (by decide) rfl (fun _ => rfl) bk_Route_init_0_1 _ 1 _ _ _ bk_Route_init_0_1_ok rfl ?_
  show am_EI m_Route_init (kc + 1 + 1 + 1 + 1 + 1) (ks + N + N + N + N + N) 1 [.ref a0, .int x1] [.ref a0] h Q
  refine am_oinit (a := a0) dc_Route_init_1 lk_4_1 oi_2 oi_3 (by decide) (by decide) ?_
  refine am_blk_ok (c := 4) (ini := true) (by decide) rfl (fun _ => rfl) bk_Route_init_4_6 _ 12 _ _ _ bk_Route_init_4_6_ok rfl ?_
  show (am_tg h a0 = (4, 7) ∧ am_EI m_Route_init (kc + 1 + 1 + 1 + 1 + 1) (ks + N + N + N + N + N) 12 [.ref a0, .int x1] [.int 1, .int x1, .ref a0] (am_si h a0 6 0) Q)
  obtain ⟨o1, t⟩ := t
  refine ⟨o1, ?_⟩
  refine am_callS (M2 := m_Math_max) (kc := (kc + 1 + 1 + 1 + 1 + 1)) (ks := (ks + N + N + N + N + N)) (k2c := 0) (k2s := 0) (as := [.ref a0]) [.int x1, .int 1] dc_Route_init_12 lk_4_13 st_Math_max lm_Math_max np_Math_max ⟨Nat.le_of_ble_eq_true rfl, Nat.le_of_ble_eq_true rfl⟩ (fun _ => Nat.le_of_ble_eq_true rfl) (am_Ei.end (am_Ei.mono t (fun r3 h2 t => ?_)))
  refine am_blk_ok (c := 4) (ini := true) (by decide) rfl (fun _ => rfl) bk_Route_init_15_4 _ 23 _ _ _ bk_Route_init_15_4_ok rfl ?_
  show (am_tg h2 a0 = (4, 7) ∧ (am_tg h2 a0 = (4, 7) ∧ am_EI m_Route_init (kc + 1 + 1 + 1 + 1 + 1) (ks + N + N + N + N + N) 23 [.ref a0, .int x1] [.int (am_I (am_si h2 a0 0 r3) a0 0), .ref a0] (am_si h2 a0 0 r3) Q))
  obtain ⟨o4, t⟩ := t
  refine ⟨o4, o4, ?_⟩
  obtain ⟨o5, o6, o7, t⟩ := t
  refine am_anew (kc := (kc + 1 + 1 + 1 + 1)) (ks := (ks + N + N + N + N)) (cb := 7) (N := N) dc_Route_init_23 (by decide) cl_4_22 o5 o6 o7 ?_
  refine am_blk_ok (c := 4) (ini := true) (by decide) rfl (fun _ => rfl) bk_Route_init_26_4 _ 34 _ _ _ bk_Route_init_26_4_ok rfl ?_
  show (am_tg (am_nw (am_si h2 a0 0 r3) 37 N) a0 = (4, 7) ∧ (am_tg (am_nw (am_si h2 a0 0 r3) 37 N) a0 = (4, 7) ∧ am_EI m_Route_init (kc + 1 + 1 + 1 + 1) (ks + N + N + N + N) 34 [.ref a0, .int x1] [.int (am_I (am_nw (am_si h2 a0 0 r3) 37 N) a0 0), .ref a0] (am_sp (am_nw (am_si h2 a0 0 r3) 37 N) a0 1 (some (am_sz h2))) Q))
  obtain ⟨o8, t⟩ := t
  refine ⟨o8, o8, ?_⟩
  obtain ⟨o9, o10, o11, t⟩ := t
  refine am_newa (kc := (kc + 1 + 1 + 1)) (ks := (ks + N + N + N)) (kd := 20) (N := N) dc_Route_init_34 (by decide) ac_int o9 o10 o11 ?_
  refine am_blk_ok (c := 4) (ini := true) (by decide) rfl (fun _ => rfl) bk_Route_init_36_4 _ 44 _ _ _ bk_Route_init_36_4_ok rfl ?_
  show (am_tg (am_nw (am_sp (am_nw (am_si h2 a0 0 r3) 37 N) a0 1 (some (am_sz h2))) 20 N) a0 = (4, 7) ∧ (am_tg (am_nw (am_sp (am_nw (am_si h2 a0 0 r3) 37 N) a0 1 (some (am_sz h2))) 20 N) a0 = (4, 7) ∧ am_EI m_Route_init (kc + 1 + 1 + 1) (ks + N + N + N) 44 [.ref a0, .int x1] [.int (am_I (am_nw (am_sp (am_nw (am_si h2 a0 0 r3) 37 N) a0 1 (some (am_sz h2))) 20 N) a0 0), .ref a0] (am_sp (am_nw (am_sp (am_nw (am_si h2 a0 0 r3) 37 N) a0 1 (some (am_sz h2))) 20 N) a0 2 (some (am_sz (am_nw (am_si h2 a0 0 r3) 37 N)))) Q))
  obtain ⟨o12, t⟩ := t
  refine ⟨o12, o12, ?_⟩
  obtain ⟨o13, o14, o15, t⟩ := t
  refine am_newa (kc := (kc + 1 + 1)) (ks := (ks + N + N)) (kd := 20) (N := N) dc_Route_init_44 (by decide) ac_int o13 o14 o15 ?_
  refine am_blk_ok (c := 4) (ini := true) (by decide) rfl (fun _ => rfl) bk_Route_init_46_4 _ 54 _ _ _ bk_Route_init_46_4_ok rfl ?_
  show (am_tg (am_nw (am_sp (am_nw (am_sp (am_nw (am_si h2 a0 0 r3) 37 N) a0 1 (some (am_sz h2))) 20 N) a0 2 (some (am_sz (am_nw (am_si h2 a0 0 r3) 37 N)))) 20 N) a0 = (4, 7) ∧ (am_tg (am_nw (am_sp (am_nw (am_sp (am_nw (am_si h2 a0 0 r3) 37 N) a0 1 (some (am_sz h2))) 20 N) a0 2 (some (am_sz (am_nw (am_si h2 a0 0 r3) 37 N)))) 20 N) a0 = (4, 7) ∧ am_EI m_Route_init (kc + 1 + 1) (ks + N + N) 54 [.ref a0, .int x1] [.int (am_I (am_nw (am_sp (am_nw (am_sp (am_nw (am_si h2 a0 0 r3) 37 N) a0 1 (some (am_sz h2))) 20 N) a0 2 (some (am_sz (am_nw (am_si h2 a0 0 r3) 37 N)))) 20 N) a0 0), .ref a0] (am_sp (am_nw (am_sp (am_nw (am_sp (am_nw (am_si h2 a0 0 r3) 37 N) a0 1 (some (am_sz h2))) 20 N) a0 2 (some (am_sz (am_nw (am_si h2 a0 0 r3) 37 N)))) 20 N) a0 3 (some (am_sz (am_nw (am_sp (am_nw (am_si h2 a0 0 r3) 37 N) a0 1 (some (am_sz h2))) 20 N)))) Q))
  obtain ⟨o16, t⟩ := t
  refine ⟨o16, o16, ?_⟩
  obtain ⟨o17, o18, o19, t⟩ := t
  refine am_newa (kc := (kc + 1)) (ks := (ks + N)) (kd := 20) (N := N) dc_Route_init_54 (by decide) ac_int o17 o18 o19 ?_
  refine am_blk_ok (c := 4) (ini := true) (by decide) rfl (fun _ => rfl) bk_Route_init_56_4 _ 64 _ _ _ bk_Route_init_56_4_ok rfl ?_
  show (am_tg (am_nw (am_sp (am_nw (am_sp (am_nw (am_sp (am_nw (am_si h2 a0 0 r3) 37 N) a0 1 (some (am_sz h2))) 20 N) a0 2 (some (am_sz (am_nw (am_si h2 a0 0 r3) 37 N)))) 20 N) a0 3 (some (am_sz (am_nw (am_sp (am_nw (am_si h2 a0 0 r3) 37 N) a0 1 (some (am_sz h2))) 20 N)))) 20 N) a0 = (4, 7) ∧ (am_tg (am_nw (am_sp (am_nw (am_sp (am_nw (am_sp (am_nw (am_si h2 a0 0 r3) 37 N) a0 1 (some (am_sz h2))) 20 N) a0 2 (some (am_sz (am_nw (am_si h2 a0 0 r3) 37 N)))) 20 N) a0 3 (some (am_sz (am_nw (am_sp (am_nw (am_si h2 a0 0 r3) 37 N) a0 1 (some (am_sz h2))) 20 N)))) 20 N) a0 = (4, 7) ∧ am_EI m_Route_init (kc + 1) (ks + N) 64 [.ref a0, .int x1] [.int (am_I (am_nw (am_sp (am_nw (am_sp (am_nw (am_sp (am_nw (am_si h2 a0 0 r3) 37 N) a0 1 (some (am_sz h2))) 20 N) a0 2 (some (am_sz (am_nw (am_si h2 a0 0 r3) 37 N)))) 20 N) a0 3 (some (am_sz (am_nw (am_sp (am_nw (am_si h2 a0 0 r3) 37 N) a0 1 (some (am_sz h2))) 20 N)))) 20 N) a0 0), .ref a0] (am_sp (am_nw (am_sp (am_nw (am_sp (am_nw (am_sp (am_nw (am_si h2 a0 0 r3) 37 N) a0 1 (some (am_sz h2))) 20 N) a0 2 (some (am_sz (am_nw (am_si h2 a0 0 r3) 37 N)))) 20 N) a0 3 (some (am_sz (am_nw (am_sp (am_nw (am_si h2 a0 0 r3) 37 N) a0 1 (some (am_sz h2))) 20 N)))) 20 N) a0 4 (some (am_sz (am_nw (am_sp (am_nw (am_sp (am_nw (am_si h2 a0 0 r3) 37 N) a0 1 (some (am_sz h2))) 20 N) a0 2 (some (am_sz (am_nw (am_si h2 a0 0 r3) 37 N)))) 20 N)))) Q))
  obtain ⟨o20, t⟩ := t
  refine ⟨o20, o20, ?_⟩
  obtain ⟨o21, o22, o23, t⟩ := t
  refine am_newa (kc := kc) (ks := ks) (kd := 20) (N := N) dc_Route_init_64 (by decide) ac_int o21 o22 o23 ?_
  refine am_blk_ok (c := 4) (ini := true) (by decide) rfl (fun _ => rfl) bk_Route_init_66_1 _ 69 _ _ _ bk_Route_init_66_1_ok rfl ?_
  show (am_tg (am_nw (am_sp (am_nw (am_sp (am_nw (am_sp (am_nw (am_sp (am_nw (am_si h2 a0 0 r3) 37 N) a0 1 (some (am_sz h2))) 20 N) a0 2 (some (am_sz (am_nw (am_si h2 a0 0 r3) 37 N)))) 20 N) a0 3 (some (am_sz (am_nw (am_sp (am_nw (am_si h2 a0 0 r3) 37 N) a0 1 (some (am_sz h2))) 20 N)))) 20 N) a0 4 (some (am_sz (am_nw (am_sp (am_nw (am_sp (am_nw (am_si h2 a0 0 r3) 37 N) a0 1 (some (am_sz h2))) 20 N) a0 2 (some (am_sz (am_nw (am_si h2 a0 0 r3) 37 N)))) 20 N)))) 20 N) a0 = (4, 7) ∧ am_EI m_Route_init kc ks 69 [.ref a0, .int x1] [] (am_sp (am_nw (am_sp (am_nw (am_sp (am_nw (am_sp (am_nw (am_sp (am_nw (am_si h2 a0 0 r3) 37 N) a0 1 (some (am_sz h2))) 20 N) a0 2 (some (am_sz (am_nw (am_si h2 a0 0 r3) 37 N)))) 20 N) a0 3 (some (am_sz (am_nw (am_sp (am_nw (am_si h2 a0 0 r3) 37 N) a0 1 (some (am_sz h2))) 20 N)))) 20 N) a0 4 (some (am_sz (am_nw (am_sp (am_nw (am_sp (am_nw (am_si h2 a0 0 r3) 37 N) a0 1 (some (am_sz h2))) 20 N) a0 2 (some (am_sz (am_nw (am_si h2 a0 0 r3) 37 N)))) 20 N)))) 20 N) a0 5 (some (am_sz (am_nw (am_sp (am_nw (am_sp (am_nw (am_sp (am_nw (am_si h2 a0 0 r3) 37 N) a0 1 (some (am_sz h2))) 20 N) a0 2 (some (am_sz (am_nw (am_si h2 a0 0 r3) 37 N)))) 20 N) a0 3 (some (am_sz (am_nw (am_sp (am_nw (am_si h2 a0 0 r3) 37 N) a0 1 (some (am_sz h2))) 20 N)))) 20 N)))) Q)
  obtain ⟨o24, t⟩ := t
  refine ⟨o24, ?_⟩
  exact am_vret dc_Route_init_69 rfl t
set_option maxRecDepth 20000 in
theorem ev_Route_init (N : Nat) (a0 : Nat) (x1 : Int32) (h : am_H) (Q : am_H → Prop) (t : (am_tg h a0 = (4, 7) ∧ (am_Ei m_Math_max 0 0 [.int x1, .int 1] (am_si h a0 6 0) (fun r3 h2 => (am_tg h2 a0 = (4, 7) ∧ ((¬ (am_I (am_si h2 a0 0 r3) a0 0) < 0) ∧ ((am_I (am_si h2 a0 0 r3) a0 0).toNatClampNeg = N) ∧ (N ≤ 100000) ∧ (am_tg (am_nw (am_si h2 a0 0 r3) 37 N) a0 = (4, 7) ∧ ((¬ (am_I (am_nw (am_si h2 a0 0 r3) 37 N) a0 0) < 0) ∧ ((am_I (am_nw (am_si h2 a0 0 r3) 37 N) a0 0).toNatClampNeg = N) ∧ (N ≤ 100000) ∧ (am_tg (am_nw (am_sp (am_nw (am_si h2 a0 0 r3) 37 N) a0 1 (some (am_sz h2))) 20 N) a0 = (4, 7) ∧ ((¬ (am_I (am_nw (am_sp (am_nw (am_si h2 a0 0 r3) 37 N) a0 1 (some (am_sz h2))) 20 N) a0 0) < 0) ∧ ((am_I (am_nw (am_sp (am_nw (am_si h2 a0 0 r3) 37 N) a0 1 (some (am_sz h2))) 20 N) a0 0).toNatClampNeg = N) ∧ (N ≤ 100000) ∧ (am_tg (am_nw (am_sp (am_nw (am_sp (am_nw (am_si h2 a0 0 r3) 37 N) a0 1 (some (am_sz h2))) 20 N) a0 2 (some (am_sz (am_nw (am_si h2 a0 0 r3) 37 N)))) 20 N) a0 = (4, 7) ∧ ((¬ (am_I (am_nw (am_sp (am_nw (am_sp (am_nw (am_si h2 a0 0 r3) 37 N) a0 1 (some (am_sz h2))) 20 N) a0 2 (some (am_sz (am_nw (am_si h2 a0 0 r3) 37 N)))) 20 N) a0 0) < 0) ∧ ((am_I (am_nw (am_sp (am_nw (am_sp (am_nw (am_si h2 a0 0 r3) 37 N) a0 1 (some (am_sz h2))) 20 N) a0 2 (some (am_sz (am_nw (am_si h2 a0 0 r3) 37 N)))) 20 N) a0 0).toNatClampNeg = N) ∧ (N ≤ 100000) ∧ (am_tg (am_nw (am_sp (am_nw (am_sp (am_nw (am_sp (am_nw (am_si h2 a0 0 r3) 37 N) a0 1 (some (am_sz h2))) 20 N) a0 2 (some (am_sz (am_nw (am_si h2 a0 0 r3) 37 N)))) 20 N) a0 3 (some (am_sz (am_nw (am_sp (am_nw (am_si h2 a0 0 r3) 37 N) a0 1 (some (am_sz h2))) 20 N)))) 20 N) a0 = (4, 7) ∧ ((¬ (am_I (am_nw (am_sp (am_nw (am_sp (am_nw (am_sp (am_nw (am_si h2 a0 0 r3) 37 N) a0 1 (some (am_sz h2))) 20 N) a0 2 (some (am_sz (am_nw (am_si h2 a0 0 r3) 37 N)))) 20 N) a0 3 (some (am_sz (am_nw (am_sp (am_nw (am_si h2 a0 0 r3) 37 N) a0 1 (some (am_sz h2))) 20 N)))) 20 N) a0 0) < 0) ∧ ((am_I (am_nw (am_sp (am_nw (am_sp (am_nw (am_sp (am_nw (am_si h2 a0 0 r3) 37 N) a0 1 (some (am_sz h2))) 20 N) a0 2 (some (am_sz (am_nw (am_si h2 a0 0 r3) 37 N)))) 20 N) a0 3 (some (am_sz (am_nw (am_sp (am_nw (am_si h2 a0 0 r3) 37 N) a0 1 (some (am_sz h2))) 20 N)))) 20 N) a0 0).toNatClampNeg = N) ∧ (N ≤ 100000) ∧ (am_tg (am_nw (am_sp (am_nw (am_sp (am_nw (am_sp (am_nw (am_sp (am_nw (am_si h2 a0 0 r3) 37 N) a0 1 (some (am_sz h2))) 20 N) a0 2 (some (am_sz (am_nw (am_si h2 a0 0 r3) 37 N)))) 20 N) a0 3 (some (am_sz (am_nw (am_sp (am_nw (am_si h2 a0 0 r3) 37 N) a0 1 (some (am_sz h2))) 20 N)))) 20 N) a0 4 (some (am_sz (am_nw (am_sp (am_nw (am_sp (am_nw (am_si h2 a0 0 r3) 37 N) a0 1 (some (am_sz h2))) 20 N) a0 2 (some (am_sz (am_nw (am_si h2 a0 0 r3) 37 N)))) 20 N)))) 20 N) a0 = (4, 7) ∧ Q (am_sp (am_nw (am_sp (am_nw (am_sp (am_nw (am_sp (am_nw (am_sp (am_nw (am_si h2 a0 0 r3) 37 N) a0 1 (some (am_sz h2))) 20 N) a0 2 (some (am_sz (am_nw (am_si h2 a0 0 r3) 37 N)))) 20 N) a0 3 (some (am_sz (am_nw (am_sp (am_nw (am_si h2 a0 0 r3) 37 N) a0 1 (some (am_sz h2))) 20 N)))) 20 N) a0 4 (some (am_sz (am_nw (am_sp (am_nw (am_sp (am_nw (am_si h2 a0 0 r3) 37 N) a0 1 (some (am_sz h2))) 20 N) a0 2 (some (am_sz (am_nw (am_si h2 a0 0 r3) 37 N)))) 20 N)))) 20 N) a0 5 (some (am_sz (am_nw (am_sp (am_nw (am_sp (am_nw (am_sp (am_nw (am_si h2 a0 0 r3) 37 N) a0 1 (some (am_sz h2))) 20 N) a0 2 (some (am_sz (am_nw (am_si h2 a0 0 r3) 37 N)))) 20 N) a0 3 (some (am_sz (am_nw (am_sp (am_nw (am_si h2 a0 0 r3) 37 N) a0 1 (some (am_sz h2))) 20 N)))) 20 N))))))))))))))))))) : am_Ew m_Route_init (0 + 1 + 1 + 1 + 1 + 1) (0 + N + N + N + N + N) [.ref a0, .int x1] h Q :=
  am_Ev.of (by decide +kernel) (Nat.le_of_ble_eq_true rfl) (by simp only [List.mem_cons, List.not_mem_nil, or_false]; intro v hv; rcases hv with rfl | rfl; all_goals first | exact trivial) (sg_Route_init_0 (kc := 0) (ks := 0) N a0 x1 h (am_qw Q) t)
def bk_Route_isStop_0_1 : List am_E := [(0, .iload_n 1, 1, 0, 0)]
theorem bk_Route_isStop_0_1_ok : bk_Route_isStop_0_1.all (am_ok 4 false m_Route_isStop.2.1) = true := by decide +kernel
def bk_Route_isStop_24_1 : List am_E := [(24, .iconst 0, 1, 0, 0)]
theorem bk_Route_isStop_24_1_ok : bk_Route_isStop_24_1.all (am_ok 4 false m_Route_isStop.2.1) = true := by decide +kernel
def bk_Route_isStop_4_3 : List am_E := [(4, .iload_n 1, 1, 0, 0), (5, .aload_n 0, 1, 0, 0), (6, .getfield 7, 3, 1624, 0)]
theorem bk_Route_isStop_4_3_ok : bk_Route_isStop_4_3.all (am_ok 4 false m_Route_isStop.2.1) = true := by decide +kernel
def bk_Route_isStop_12_3 : List am_E := [(12, .iload_n 1, 1, 0, 0), (13, .aload_n 0, 1, 0, 0), (14, .getfield 19, 3, 1600, 0)]
theorem bk_Route_isStop_12_3_ok : bk_Route_isStop_12_3.all (am_ok 4 false m_Route_isStop.2.1) = true := by decide +kernel
def bk_Route_isStop_20_2 : List am_E := [(20, .iconst 1, 1, 0, 1), (21, .goto 4, 3, 0, 4)]
theorem bk_Route_isStop_20_2_ok : bk_Route_isStop_20_2.all (am_ok 4 false m_Route_isStop.2.1) = true := by decide +kernel
theorem dc_Route_isStop_25 : decode m_Route_isStop.2.1 25 = .ok (.ireturn, 1) := by decide +kernel
theorem dc_Route_isStop_17 : decode m_Route_isStop.2.1 17 = .ok (.if_icmp .ge 7, 3) := by decide +kernel
theorem dc_Route_isStop_9 : decode m_Route_isStop.2.1 9 = .ok (.if_icmp .ge 15, 3) := by decide +kernel
theorem dc_Route_isStop_1 : decode m_Route_isStop.2.1 1 = .ok (.ifCond .lt 23, 3) := by decide +kernel
set_option maxRecDepth 20000 in
theorem sg_Route_isStop_0 {kc ks : Nat} (a0 : Nat) (x1 : Int32) (h : am_H) (Q : Option Value → am_H → Prop) (t : ((x1 < 0 → Q (some (.int 0)) h) ∧ (¬ x1 < 0 → (am_tg h a0 = (4, 7) ∧ (((am_I h a0 6) ≤ x1 → Q (some (.int 0)) h) ∧ (¬ (am_I h a0 6) ≤ x1 → (((am_I h a0 0) ≤ x1 → Q (some (.int 0)) h) ∧ (¬ (am_I h a0 0) ≤ x1 → Q (some (.int 1)) h)))))))) : am_EI m_Route_isStop kc ks 0 [.ref a0, .int x1] [] h Q := by
  refine am_blk_ok (c := 4) (ini := false) (by decide) rfl (fun q => by cases q) bk_Route_isStop_0_1 _ 1 _ _ _ bk_Route_isStop_0_1_ok rfl ?_
  show am_EI m_Route_isStop kc ks 1 [.ref a0, .int x1] [.int x1] h Q
  refine am_if_lt (tgt := 24) dc_Route_isStop_1 (by decide) (fun c1 => ?_) (fun c1 => ?_)
  · replace t := t.1 c1
    refine am_blk_ok (c := 4) (ini := false) (by decide) rfl (fun q => by cases q) bk_Route_isStop_24_1 _ 25 _ _ _ bk_Route_isStop_24_1_ok rfl ?_
    show am_EI m_Route_isStop kc ks 25 [.ref a0, .int x1] [.int 0] h Q
    exact am_zret dc_Route_isStop_25 rfl (Or.inl rfl) t
  · replace t := t.2 c1
    refine am_blk_ok (c := 4) (ini := false) (by decide) rfl (fun q => by cases q) bk_Route_isStop_4_3 _ 9 _ _ _ bk_Route_isStop_4_3_ok rfl ?_
    show (am_tg h a0 = (4, 7) ∧ am_EI m_Route_isStop kc ks 9 [.ref a0, .int x1] [.int (am_I h a0 6), .int x1] h Q)
    obtain ⟨o2, t⟩ := t
    refine ⟨o2, ?_⟩
    refine am_ic_ge (tgt := 24) dc_Route_isStop_9 (by decide) (fun c3 => ?_) (fun c3 => ?_)
    · replace t := t.1 c3
      refine am_blk_ok (c := 4) (ini := false) (by decide) rfl (fun q => by cases q) bk_Route_isStop_24_1 _ 25 _ _ _ bk_Route_isStop_24_1_ok rfl ?_
      show am_EI m_Route_isStop kc ks 25 [.ref a0, .int x1] [.int 0] h Q
      exact am_zret dc_Route_isStop_25 rfl (Or.inl rfl) t
    · replace t := t.2 c3
      refine am_blk_ok (c := 4) (ini := false) (by decide) rfl (fun q => by cases q) bk_Route_isStop_12_3 _ 17 _ _ _ bk_Route_isStop_12_3_ok rfl ?_
      show (am_tg h a0 = (4, 7) ∧ am_EI m_Route_isStop kc ks 17 [.ref a0, .int x1] [.int (am_I h a0 0), .int x1] h Q)
      refine ⟨o2, ?_⟩
      refine am_ic_ge (tgt := 24) dc_Route_isStop_17 (by decide) (fun c4 => ?_) (fun c4 => ?_)
      · replace t := t.1 c4
        refine am_blk_ok (c := 4) (ini := false) (by decide) rfl (fun q => by cases q) bk_Route_isStop_24_1 _ 25 _ _ _ bk_Route_isStop_24_1_ok rfl ?_
        show am_EI m_Route_isStop kc ks 25 [.ref a0, .int x1] [.int 0] h Q
        exact am_zret dc_Route_isStop_25 rfl (Or.inl rfl) t
      · replace t := t.2 c4
        refine am_blk_ok (c := 4) (ini := false) (by decide) rfl (fun q => by cases q) bk_Route_isStop_20_2 _ 25 _ _ _ bk_Route_isStop_20_2_ok rfl ?_
        show am_EI m_Route_isStop kc ks 25 [.ref a0, .int x1] [.int 1] h Q
        exact am_zret dc_Route_isStop_25 rfl (Or.inr rfl) t
set_option maxRecDepth 20000 in
theorem ev_Route_isStop (a0 : Nat) (x1 : Int32) (h : am_H) (Q : Int32 → am_H → Prop) (t : ((x1 < 0 → Q 0 h) ∧ (¬ x1 < 0 → (am_tg h a0 = (4, 7) ∧ (((am_I h a0 6) ≤ x1 → Q 0 h) ∧ (¬ (am_I h a0 6) ≤ x1 → (((am_I h a0 0) ≤ x1 → Q 0 h) ∧ (¬ (am_I h a0 0) ≤ x1 → Q 1 h)))))))) : am_Ei m_Route_isStop 0 0 [.ref a0, .int x1] h Q :=
  am_Ev.of (by decide +kernel) (Nat.le_of_ble_eq_true rfl) (by simp only [List.mem_cons, List.not_mem_nil, or_false]; intro v hv; rcases hv with rfl | rfl; all_goals first | exact trivial) (sg_Route_isStop_0 (kc := 0) (ks := 0) a0 x1 h (am_qi Q) t)
def bk_Route_kindOf_0_2 : List am_E := [(0, .aload_n 0, 1, 0, 0), (1, .iload_n 1, 1, 0, 0)]
theorem bk_Route_kindOf_0_2_ok : bk_Route_kindOf_0_2.all (am_ok 4 false m_Route_kindOf.2.1) = true := by decide +kernel
def bk_Route_kindOf_17_1 : List am_E := [(17, .iconst 0, 1, 0, 0)]
theorem bk_Route_kindOf_17_1_ok : bk_Route_kindOf_17_1.all (am_ok 4 false m_Route_kindOf.2.1) = true := by decide +kernel
def bk_Route_kindOf_8_5 : List am_E := [(8, .aload_n 0, 1, 0, 0), (9, .getfield 32, 3, 1613, 0), (12, .iload_n 1, 1, 0, 0), (13, .iaload, 1, 0, 0), (14, .goto 4, 3, 0, 4)]
theorem bk_Route_kindOf_8_5_ok : bk_Route_kindOf_8_5.all (am_ok 4 false m_Route_kindOf.2.1) = true := by decide +kernel
theorem dc_Route_kindOf_2 : decode m_Route_kindOf.2.1 2 = .ok (.invokevirtual 41, 3) := by decide +kernel
theorem dc_Route_kindOf_18 : decode m_Route_kindOf.2.1 18 = .ok (.ireturn, 1) := by decide +kernel
theorem dc_Route_kindOf_5 : decode m_Route_kindOf.2.1 5 = .ok (.ifCond .eq 12, 3) := by decide +kernel
set_option maxRecDepth 20000 in
theorem sg_Route_kindOf_0 {kc ks : Nat} (a0 : Nat) (x1 : Int32) (h : am_H) (Q : Option Value → am_H → Prop) (t : (am_tg h a0 = (4, 7) ∧ (am_Ei m_Route_isStop 0 0 [.ref a0, .int x1] h (fun r3 h2 => ((r3 = 0 → Q (some (.int 0)) h2) ∧ (¬ r3 = 0 → (am_tg h2 a0 = (4, 7) ∧ (∃ b5, am_P h2 a0 3 = some b5 ∧ ((am_tg h2 b5).1 = 20 ∧ (vp_in x1 (am_tg h2 b5).2 ∧ Q (some (.int (am_I h2 b5 x1.toNatClampNeg))) h2)))))))))) : am_EI m_Route_kindOf kc ks 0 [.ref a0, .int x1] [] h Q := by
  refine am_blk_ok (c := 4) (ini := false) (by decide) rfl (fun q => by cases q) bk_Route_kindOf_0_2 _ 2 _ _ _ bk_Route_kindOf_0_2_ok rfl ?_
  show am_EI m_Route_kindOf kc ks 2 [.ref a0, .int x1] [.int x1, .ref a0] h Q
  obtain ⟨o1, t⟩ := t
  refine am_callV (M2 := m_Route_isStop) (ci := 4) (a := a0) (kc := kc) (ks := ks) (k2c := 0) (k2s := 0) (as := []) [.int x1] dc_Route_kindOf_2 lk_4_41 im_Route_isStop se_Route_isStop lm_Route_isStop np_Route_isStop ⟨Nat.le_of_ble_eq_true rfl, Nat.le_of_ble_eq_true rfl⟩ (fun _ => Nat.le_of_ble_eq_true rfl) (by decide) rfl o1 (am_Ei.end (am_Ei.mono t (fun r3 h2 t => ?_)))
  refine am_if_eq (tgt := 17) dc_Route_kindOf_5 (by decide) (fun c4 => ?_) (fun c4 => ?_)
  · replace t := t.1 c4
    refine am_blk_ok (c := 4) (ini := false) (by decide) rfl (fun q => by cases q) bk_Route_kindOf_17_1 _ 18 _ _ _ bk_Route_kindOf_17_1_ok rfl ?_
    show am_EI m_Route_kindOf kc ks 18 [.ref a0, .int x1] [.int 0] h2 Q
    exact am_iret dc_Route_kindOf_18 rfl t
  · replace t := t.2 c4
    refine am_blk_ok (c := 4) (ini := false) (by decide) rfl (fun q => by cases q) bk_Route_kindOf_8_5 _ 18 _ _ _ bk_Route_kindOf_8_5_ok rfl ?_
    show (am_tg h2 a0 = (4, 7) ∧ (∃ b5, am_P h2 a0 3 = some b5 ∧ ((am_tg h2 b5).1 = 20 ∧ (vp_in x1 (am_tg h2 b5).2 ∧ am_EI m_Route_kindOf kc ks 18 [.ref a0, .int x1] [.int (am_I h2 b5 x1.toNatClampNeg)] h2 Q))))
    obtain ⟨o6, b5, q7, o8, o9, t⟩ := t
    refine ⟨o6, b5, q7, o8, o9, ?_⟩
    exact am_iret dc_Route_kindOf_18 rfl t
set_option maxRecDepth 20000 in
theorem ev_Route_kindOf (a0 : Nat) (x1 : Int32) (h : am_H) (Q : Int32 → am_H → Prop) (t : (am_tg h a0 = (4, 7) ∧ (am_Ei m_Route_isStop 0 0 [.ref a0, .int x1] h (fun r3 h2 => ((r3 = 0 → Q 0 h2) ∧ (¬ r3 = 0 → (am_tg h2 a0 = (4, 7) ∧ (∃ b5, am_P h2 a0 3 = some b5 ∧ ((am_tg h2 b5).1 = 20 ∧ (vp_in x1 (am_tg h2 b5).2 ∧ Q (am_I h2 b5 x1.toNatClampNeg) h2)))))))))) : am_Ei m_Route_kindOf 0 0 [.ref a0, .int x1] h Q :=
  am_Ev.of (by decide +kernel) (Nat.le_of_ble_eq_true rfl) (by simp only [List.mem_cons, List.not_mem_nil, or_false]; intro v hv; rcases hv with rfl | rfl; all_goals first | exact trivial) (sg_Route_kindOf_0 (kc := 0) (ks := 0) a0 x1 h (am_qi Q) t)
def bk_Route_levelOf_0_2 : List am_E := [(0, .aload_n 0, 1, 0, 0), (1, .iload_n 1, 1, 0, 0)]
theorem bk_Route_levelOf_0_2_ok : bk_Route_levelOf_0_2.all (am_ok 4 false m_Route_levelOf.2.1) = true := by decide +kernel
def bk_Route_levelOf_17_1 : List am_E := [(17, .iconst 0, 1, 0, 0)]
theorem bk_Route_levelOf_17_1_ok : bk_Route_levelOf_17_1.all (am_ok 4 false m_Route_levelOf.2.1) = true := by decide +kernel
def bk_Route_levelOf_8_5 : List am_E := [(8, .aload_n 0, 1, 0, 0), (9, .getfield 35, 3, 1617, 0), (12, .iload_n 1, 1, 0, 0), (13, .iaload, 1, 0, 0), (14, .goto 4, 3, 0, 4)]
theorem bk_Route_levelOf_8_5_ok : bk_Route_levelOf_8_5.all (am_ok 4 false m_Route_levelOf.2.1) = true := by decide +kernel
theorem dc_Route_levelOf_2 : decode m_Route_levelOf.2.1 2 = .ok (.invokevirtual 41, 3) := by decide +kernel
theorem dc_Route_levelOf_18 : decode m_Route_levelOf.2.1 18 = .ok (.ireturn, 1) := by decide +kernel
theorem dc_Route_levelOf_5 : decode m_Route_levelOf.2.1 5 = .ok (.ifCond .eq 12, 3) := by decide +kernel
set_option maxRecDepth 20000 in
theorem sg_Route_levelOf_0 {kc ks : Nat} (a0 : Nat) (x1 : Int32) (h : am_H) (Q : Option Value → am_H → Prop) (t : (am_tg h a0 = (4, 7) ∧ (am_Ei m_Route_isStop 0 0 [.ref a0, .int x1] h (fun r3 h2 => ((r3 = 0 → Q (some (.int 0)) h2) ∧ (¬ r3 = 0 → (am_tg h2 a0 = (4, 7) ∧ (∃ b5, am_P h2 a0 4 = some b5 ∧ ((am_tg h2 b5).1 = 20 ∧ (vp_in x1 (am_tg h2 b5).2 ∧ Q (some (.int (am_I h2 b5 x1.toNatClampNeg))) h2)))))))))) : am_EI m_Route_levelOf kc ks 0 [.ref a0, .int x1] [] h Q := by
  refine am_blk_ok (c := 4) (ini := false) (by decide) rfl (fun q => by cases q) bk_Route_levelOf_0_2 _ 2 _ _ _ bk_Route_levelOf_0_2_ok rfl ?_
  show am_EI m_Route_levelOf kc ks 2 [.ref a0, .int x1] [.int x1, .ref a0] h Q
  obtain ⟨o1, t⟩ := t
  refine am_callV (M2 := m_Route_isStop) (ci := 4) (a := a0) (kc := kc) (ks := ks) (k2c := 0) (k2s := 0) (as := []) [.int x1] dc_Route_levelOf_2 lk_4_41 im_Route_isStop se_Route_isStop lm_Route_isStop np_Route_isStop ⟨Nat.le_of_ble_eq_true rfl, Nat.le_of_ble_eq_true rfl⟩ (fun _ => Nat.le_of_ble_eq_true rfl) (by decide) rfl o1 (am_Ei.end (am_Ei.mono t (fun r3 h2 t => ?_)))
  refine am_if_eq (tgt := 17) dc_Route_levelOf_5 (by decide) (fun c4 => ?_) (fun c4 => ?_)
  · replace t := t.1 c4
    refine am_blk_ok (c := 4) (ini := false) (by decide) rfl (fun q => by cases q) bk_Route_levelOf_17_1 _ 18 _ _ _ bk_Route_levelOf_17_1_ok rfl ?_
    show am_EI m_Route_levelOf kc ks 18 [.ref a0, .int x1] [.int 0] h2 Q
    exact am_iret dc_Route_levelOf_18 rfl t
  · replace t := t.2 c4
    refine am_blk_ok (c := 4) (ini := false) (by decide) rfl (fun q => by cases q) bk_Route_levelOf_8_5 _ 18 _ _ _ bk_Route_levelOf_8_5_ok rfl ?_
    show (am_tg h2 a0 = (4, 7) ∧ (∃ b5, am_P h2 a0 4 = some b5 ∧ ((am_tg h2 b5).1 = 20 ∧ (vp_in x1 (am_tg h2 b5).2 ∧ am_EI m_Route_levelOf kc ks 18 [.ref a0, .int x1] [.int (am_I h2 b5 x1.toNatClampNeg)] h2 Q))))
    obtain ⟨o6, b5, q7, o8, o9, t⟩ := t
    refine ⟨o6, b5, q7, o8, o9, ?_⟩
    exact am_iret dc_Route_levelOf_18 rfl t
set_option maxRecDepth 20000 in
theorem ev_Route_levelOf (a0 : Nat) (x1 : Int32) (h : am_H) (Q : Int32 → am_H → Prop) (t : (am_tg h a0 = (4, 7) ∧ (am_Ei m_Route_isStop 0 0 [.ref a0, .int x1] h (fun r3 h2 => ((r3 = 0 → Q 0 h2) ∧ (¬ r3 = 0 → (am_tg h2 a0 = (4, 7) ∧ (∃ b5, am_P h2 a0 4 = some b5 ∧ ((am_tg h2 b5).1 = 20 ∧ (vp_in x1 (am_tg h2 b5).2 ∧ Q (am_I h2 b5 x1.toNatClampNeg) h2)))))))))) : am_Ei m_Route_levelOf 0 0 [.ref a0, .int x1] h Q :=
  am_Ev.of (by decide +kernel) (Nat.le_of_ble_eq_true rfl) (by simp only [List.mem_cons, List.not_mem_nil, or_false]; intro v hv; rcases hv with rfl | rfl; all_goals first | exact trivial) (sg_Route_levelOf_0 (kc := 0) (ks := 0) a0 x1 h (am_qi Q) t)
def bk_Route_milesTo_0_2 : List am_E := [(0, .aload_n 0, 1, 0, 0), (1, .iload_n 1, 1, 0, 0)]
theorem bk_Route_milesTo_0_2_ok : bk_Route_milesTo_0_2.all (am_ok 4 false m_Route_milesTo.2.1) = true := by decide +kernel
def bk_Route_milesTo_17_1 : List am_E := [(17, .iconst 0, 1, 0, 0)]
theorem bk_Route_milesTo_17_1_ok : bk_Route_milesTo_17_1.all (am_ok 4 false m_Route_milesTo.2.1) = true := by decide +kernel
def bk_Route_milesTo_8_5 : List am_E := [(8, .aload_n 0, 1, 0, 0), (9, .getfield 38, 3, 1621, 0), (12, .iload_n 1, 1, 0, 0), (13, .iaload, 1, 0, 0), (14, .goto 4, 3, 0, 4)]
theorem bk_Route_milesTo_8_5_ok : bk_Route_milesTo_8_5.all (am_ok 4 false m_Route_milesTo.2.1) = true := by decide +kernel
theorem dc_Route_milesTo_2 : decode m_Route_milesTo.2.1 2 = .ok (.invokevirtual 41, 3) := by decide +kernel
theorem dc_Route_milesTo_18 : decode m_Route_milesTo.2.1 18 = .ok (.ireturn, 1) := by decide +kernel
theorem dc_Route_milesTo_5 : decode m_Route_milesTo.2.1 5 = .ok (.ifCond .eq 12, 3) := by decide +kernel
set_option maxRecDepth 20000 in
theorem sg_Route_milesTo_0 {kc ks : Nat} (a0 : Nat) (x1 : Int32) (h : am_H) (Q : Option Value → am_H → Prop) (t : (am_tg h a0 = (4, 7) ∧ (am_Ei m_Route_isStop 0 0 [.ref a0, .int x1] h (fun r3 h2 => ((r3 = 0 → Q (some (.int 0)) h2) ∧ (¬ r3 = 0 → (am_tg h2 a0 = (4, 7) ∧ (∃ b5, am_P h2 a0 5 = some b5 ∧ ((am_tg h2 b5).1 = 20 ∧ (vp_in x1 (am_tg h2 b5).2 ∧ Q (some (.int (am_I h2 b5 x1.toNatClampNeg))) h2)))))))))) : am_EI m_Route_milesTo kc ks 0 [.ref a0, .int x1] [] h Q := by
  refine am_blk_ok (c := 4) (ini := false) (by decide) rfl (fun q => by cases q) bk_Route_milesTo_0_2 _ 2 _ _ _ bk_Route_milesTo_0_2_ok rfl ?_
  show am_EI m_Route_milesTo kc ks 2 [.ref a0, .int x1] [.int x1, .ref a0] h Q
  obtain ⟨o1, t⟩ := t
  refine am_callV (M2 := m_Route_isStop) (ci := 4) (a := a0) (kc := kc) (ks := ks) (k2c := 0) (k2s := 0) (as := []) [.int x1] dc_Route_milesTo_2 lk_4_41 im_Route_isStop se_Route_isStop lm_Route_isStop np_Route_isStop ⟨Nat.le_of_ble_eq_true rfl, Nat.le_of_ble_eq_true rfl⟩ (fun _ => Nat.le_of_ble_eq_true rfl) (by decide) rfl o1 (am_Ei.end (am_Ei.mono t (fun r3 h2 t => ?_)))
  refine am_if_eq (tgt := 17) dc_Route_milesTo_5 (by decide) (fun c4 => ?_) (fun c4 => ?_)
  · replace t := t.1 c4
    refine am_blk_ok (c := 4) (ini := false) (by decide) rfl (fun q => by cases q) bk_Route_milesTo_17_1 _ 18 _ _ _ bk_Route_milesTo_17_1_ok rfl ?_
    show am_EI m_Route_milesTo kc ks 18 [.ref a0, .int x1] [.int 0] h2 Q
    exact am_iret dc_Route_milesTo_18 rfl t
  · replace t := t.2 c4
    refine am_blk_ok (c := 4) (ini := false) (by decide) rfl (fun q => by cases q) bk_Route_milesTo_8_5 _ 18 _ _ _ bk_Route_milesTo_8_5_ok rfl ?_
    show (am_tg h2 a0 = (4, 7) ∧ (∃ b5, am_P h2 a0 5 = some b5 ∧ ((am_tg h2 b5).1 = 20 ∧ (vp_in x1 (am_tg h2 b5).2 ∧ am_EI m_Route_milesTo kc ks 18 [.ref a0, .int x1] [.int (am_I h2 b5 x1.toNatClampNeg)] h2 Q))))
    obtain ⟨o6, b5, q7, o8, o9, t⟩ := t
    refine ⟨o6, b5, q7, o8, o9, ?_⟩
    exact am_iret dc_Route_milesTo_18 rfl t
set_option maxRecDepth 20000 in
theorem ev_Route_milesTo (a0 : Nat) (x1 : Int32) (h : am_H) (Q : Int32 → am_H → Prop) (t : (am_tg h a0 = (4, 7) ∧ (am_Ei m_Route_isStop 0 0 [.ref a0, .int x1] h (fun r3 h2 => ((r3 = 0 → Q 0 h2) ∧ (¬ r3 = 0 → (am_tg h2 a0 = (4, 7) ∧ (∃ b5, am_P h2 a0 5 = some b5 ∧ ((am_tg h2 b5).1 = 20 ∧ (vp_in x1 (am_tg h2 b5).2 ∧ Q (am_I h2 b5 x1.toNatClampNeg) h2)))))))))) : am_Ei m_Route_milesTo 0 0 [.ref a0, .int x1] h Q :=
  am_Ev.of (by decide +kernel) (Nat.le_of_ble_eq_true rfl) (by simp only [List.mem_cons, List.not_mem_nil, or_false]; intro v hv; rcases hv with rfl | rfl; all_goals first | exact trivial) (sg_Route_milesTo_0 (kc := 0) (ks := 0) a0 x1 h (am_qi Q) t)
def bk_Route_readFrom_0_6 : List am_E := [(0, .aload_n 0, 1, 0, 0), (1, .iconst 0, 1, 0, 0), (2, .putfield 7, 3, 1624, 0), (5, .aload_n 0, 1, 0, 0), (6, .aload_n 1, 1, 0, 0), (7, .iconst 0, 1, 0, 0)]
theorem bk_Route_readFrom_0_6_ok : bk_Route_readFrom_0_6.all (am_ok 4 false m_Route_readFrom.2.1) = true := by decide +kernel
def bk_Route_readFrom_11_2 : List am_E := [(11, .iconst 1, 1, 0, 1), (12, .istore_n 2, 1, 0, 0)]
theorem bk_Route_readFrom_11_2_ok : bk_Route_readFrom_11_2.all (am_ok 4 false m_Route_readFrom.2.1) = true := by decide +kernel
def bk_Route_readFrom_13_3 : List am_E := [(13, .iload_n 2, 1, 0, 0), (14, .aload_n 0, 1, 0, 0), (15, .getfield 19, 3, 1600, 0)]
theorem bk_Route_readFrom_13_3_ok : bk_Route_readFrom_13_3.all (am_ok 4 false m_Route_readFrom.2.1) = true := by decide +kernel
def bk_Route_readFrom_21_2 : List am_E := [(21, .aload_n 1, 1, 0, 0), (22, .bipush 47, 2, 0, 47)]
theorem bk_Route_readFrom_21_2_ok : bk_Route_readFrom_21_2.all (am_ok 4 false m_Route_readFrom.2.1) = true := by decide +kernel
def bk_Route_readFrom_30_3 : List am_E := [(30, .aload_n 0, 1, 0, 0), (31, .aload_n 1, 1, 0, 0), (32, .aload_n 1, 1, 0, 0)]
theorem bk_Route_readFrom_30_3_ok : bk_Route_readFrom_30_3.all (am_ok 4 false m_Route_readFrom.2.1) = true := by decide +kernel
def bk_Route_readFrom_39_2 : List am_E := [(39, .iinc 2 1, 3, 0, 1), (42, .goto (-29), 3, 0, -29)]
theorem bk_Route_readFrom_39_2_ok : bk_Route_readFrom_39_2.all (am_ok 4 false m_Route_readFrom.2.1) = true := by decide +kernel
theorem dc_Route_readFrom_8 : decode m_Route_readFrom.2.1 8 = .ok (.invokevirtual 66, 3) := by decide +kernel
theorem dc_Route_readFrom_45 : decode m_Route_readFrom.2.1 45 = .ok (.return_, 1) := by decide +kernel
theorem dc_Route_readFrom_24 : decode m_Route_readFrom.2.1 24 = .ok (.invokevirtual 70, 3) := by decide +kernel
theorem dc_Route_readFrom_33 : decode m_Route_readFrom.2.1 33 = .ok (.invokevirtual 76, 3) := by decide +kernel
theorem dc_Route_readFrom_36 : decode m_Route_readFrom.2.1 36 = .ok (.invokevirtual 66, 3) := by decide +kernel
theorem dc_Route_readFrom_27 : decode m_Route_readFrom.2.1 27 = .ok (.ifCond .eq 18, 3) := by decide +kernel
theorem dc_Route_readFrom_18 : decode m_Route_readFrom.2.1 18 = .ok (.if_icmp .ge 27, 3) := by decide +kernel
set_option maxRecDepth 20000 in
theorem sg_Route_readFrom_0 {kc ks : Nat} (a0 a1 : Nat) (h : am_H) (Q : Option Value → am_H → Prop) (t : (am_tg h a0 = (4, 7) ∧ (am_Ew m_Route_readStop 0 0 [.ref a0, .ref a1, .int 0] (am_si h a0 6 0) (fun h2 => am_EI m_Route_readFrom kc ks 13 [.ref a0, .ref a1, .int 1] [] h2 Q)))) : am_EI m_Route_readFrom kc ks 0 [.ref a0, .ref a1, .float 0] [] h Q := by
  refine am_blk_ok (c := 4) (ini := false) (by decide) rfl (fun q => by cases q) bk_Route_readFrom_0_6 _ 8 _ _ _ bk_Route_readFrom_0_6_ok rfl ?_
  show (am_tg h a0 = (4, 7) ∧ am_EI m_Route_readFrom kc ks 8 [.ref a0, .ref a1, .float 0] [.int 0, .ref a1, .ref a0] (am_si h a0 6 0) Q)
  obtain ⟨o1, t⟩ := t
  refine ⟨o1, ?_⟩
  refine am_callV (M2 := m_Route_readStop) (ci := 4) (a := a0) (kc := kc) (ks := ks) (k2c := 0) (k2s := 0) (as := []) [.ref a1, .int 0] dc_Route_readFrom_8 lk_4_66 im_Route_readStop se_Route_readStop lm_Route_readStop np_Route_readStop ⟨Nat.le_of_ble_eq_true rfl, Nat.le_of_ble_eq_true rfl⟩ (fun _ => Nat.le_of_ble_eq_true rfl) (by decide) rfl o1 (am_Ew.end (am_Ew.mono t (fun h2 t => ?_)))
  refine am_blk_ok (c := 4) (ini := false) (by decide) rfl (fun q => by cases q) bk_Route_readFrom_11_2 _ 13 _ _ _ bk_Route_readFrom_11_2_ok rfl ?_
  show am_EI m_Route_readFrom kc ks 13 [.ref a0, .ref a1, .int 1] [] h2 Q
  exact t
set_option maxRecDepth 20000 in
theorem ev_Route_readFrom (a0 a1 : Nat) (h : am_H) (Q : am_H → Prop) (t : (am_tg h a0 = (4, 7) ∧ (am_Ew m_Route_readStop 0 0 [.ref a0, .ref a1, .int 0] (am_si h a0 6 0) (fun h2 => am_EI m_Route_readFrom 0 0 13 [.ref a0, .ref a1, .int 1] [] h2 (am_qw Q))))) : am_Ew m_Route_readFrom 0 0 [.ref a0, .ref a1] h Q :=
  am_Ev.of (by decide +kernel) (Nat.le_of_ble_eq_true rfl) (by simp only [List.mem_cons, List.not_mem_nil, or_false]; intro v hv; rcases hv with rfl | rfl; all_goals first | exact trivial) (sg_Route_readFrom_0 (kc := 0) (ks := 0) a0 a1 h (am_qw Q) t)
set_option maxRecDepth 20000 in
theorem sg_Route_readFrom_13 {kc ks : Nat} (a0 a1 : Nat) (x2 : Int32) (h : am_H) (Q : Option Value → am_H → Prop) (t : (am_tg h a0 = (4, 7) ∧ (((am_I h a0 0) ≤ x2 → Q none h) ∧ (¬ (am_I h a0 0) ≤ x2 → (am_tg h a1 = (9, 4) ∧ (am_Ei m_Tape_takeMark 0 0 [.ref a1, .int 47] h (fun r5 h4 => ((r5 = 0 → Q none h4) ∧ (¬ r5 = 0 → (am_tg h4 a1 = (9, 4) ∧ (am_Ei m_Tape_wantNumber 0 0 [.ref a1] h4 (fun r9 h8 => (am_tg h8 a0 = (4, 7) ∧ (am_Ew m_Route_readStop 0 0 [.ref a0, .ref a1, .int r9] h8 (fun h11 => am_EI m_Route_readFrom kc ks 13 [.ref a0, .ref a1, .int (x2 + 1)] [] h11 Q))))))))))))))) : am_EI m_Route_readFrom kc ks 13 [.ref a0, .ref a1, .int x2] [] h Q := by
  refine am_blk_ok (c := 4) (ini := false) (by decide) rfl (fun q => by cases q) bk_Route_readFrom_13_3 _ 18 _ _ _ bk_Route_readFrom_13_3_ok rfl ?_
  show (am_tg h a0 = (4, 7) ∧ am_EI m_Route_readFrom kc ks 18 [.ref a0, .ref a1, .int x2] [.int (am_I h a0 0), .int x2] h Q)
  obtain ⟨o1, t⟩ := t
  refine ⟨o1, ?_⟩
  refine am_ic_ge (tgt := 45) dc_Route_readFrom_18 (by decide) (fun c2 => ?_) (fun c2 => ?_)
  · replace t := t.1 c2
    exact am_vret dc_Route_readFrom_45 rfl t
  · replace t := t.2 c2
    refine am_blk_ok (c := 4) (ini := false) (by decide) rfl (fun q => by cases q) bk_Route_readFrom_21_2 _ 24 _ _ _ bk_Route_readFrom_21_2_ok rfl ?_
    show am_EI m_Route_readFrom kc ks 24 [.ref a0, .ref a1, .int x2] [.int 47, .ref a1] h Q
    obtain ⟨o3, t⟩ := t
    refine am_callV (M2 := m_Tape_takeMark) (ci := 9) (a := a1) (kc := kc) (ks := ks) (k2c := 0) (k2s := 0) (as := []) [.int 47] dc_Route_readFrom_24 lk_4_70 im_Tape_takeMark se_Tape_takeMark lm_Tape_takeMark np_Tape_takeMark ⟨Nat.le_of_ble_eq_true rfl, Nat.le_of_ble_eq_true rfl⟩ (fun _ => Nat.le_of_ble_eq_true rfl) (by decide) rfl o3 (am_Ei.end (am_Ei.mono t (fun r5 h4 t => ?_)))
    refine am_if_eq (tgt := 45) dc_Route_readFrom_27 (by decide) (fun c6 => ?_) (fun c6 => ?_)
    · replace t := t.1 c6
      exact am_vret dc_Route_readFrom_45 rfl t
    · replace t := t.2 c6
      refine am_blk_ok (c := 4) (ini := false) (by decide) rfl (fun q => by cases q) bk_Route_readFrom_30_3 _ 33 _ _ _ bk_Route_readFrom_30_3_ok rfl ?_
      show am_EI m_Route_readFrom kc ks 33 [.ref a0, .ref a1, .int x2] [.ref a1, .ref a1, .ref a0] h4 Q
      obtain ⟨o7, t⟩ := t
      refine am_callV (M2 := m_Tape_wantNumber) (ci := 9) (a := a1) (kc := kc) (ks := ks) (k2c := 0) (k2s := 0) (as := [.ref a1, .ref a0]) [] dc_Route_readFrom_33 lk_4_76 im_Tape_wantNumber se_Tape_wantNumber lm_Tape_wantNumber np_Tape_wantNumber ⟨Nat.le_of_ble_eq_true rfl, Nat.le_of_ble_eq_true rfl⟩ (fun _ => Nat.le_of_ble_eq_true rfl) (by decide) rfl o7 (am_Ei.end (am_Ei.mono t (fun r9 h8 t => ?_)))
      obtain ⟨o10, t⟩ := t
      refine am_callV (M2 := m_Route_readStop) (ci := 4) (a := a0) (kc := kc) (ks := ks) (k2c := 0) (k2s := 0) (as := []) [.ref a1, .int r9] dc_Route_readFrom_36 lk_4_66 im_Route_readStop se_Route_readStop lm_Route_readStop np_Route_readStop ⟨Nat.le_of_ble_eq_true rfl, Nat.le_of_ble_eq_true rfl⟩ (fun _ => Nat.le_of_ble_eq_true rfl) (by decide) rfl o10 (am_Ew.end (am_Ew.mono t (fun h11 t => ?_)))
      refine am_blk_ok (c := 4) (ini := false) (by decide) rfl (fun q => by cases q) bk_Route_readFrom_39_2 _ 13 _ _ _ bk_Route_readFrom_39_2_ok rfl ?_
      show am_EI m_Route_readFrom kc ks 13 [.ref a0, .ref a1, .int (x2 + 1)] [] h11 Q
      exact t
def bk_Route_readStop_0_1 : List am_E := [(0, .aload_n 1, 1, 0, 0)]
theorem bk_Route_readStop_0_1_ok : bk_Route_readStop_0_1.all (am_ok 4 false m_Route_readStop.2.1) = true := by decide +kernel
def bk_Route_readStop_4_7 : List am_E := [(4, .istore_n 3, 1, 0, 0), (5, .iconst 0, 1, 0, 0), (6, .istore 4, 2, 0, 0), (8, .iconst 0, 1, 0, 0), (9, .istore 5, 2, 0, 0), (11, .aload_n 1, 1, 0, 0), (12, .bipush 33, 2, 0, 33)]
theorem bk_Route_readStop_4_7_ok : bk_Route_readStop_4_7.all (am_ok 4 false m_Route_readStop.2.1) = true := by decide +kernel
def bk_Route_readStop_26_2 : List am_E := [(26, .aload_n 1, 1, 0, 0), (27, .bipush 126, 2, 0, 126)]
theorem bk_Route_readStop_26_2_ok : bk_Route_readStop_26_2.all (am_ok 4 false m_Route_readStop.2.1) = true := by decide +kernel
def bk_Route_readStop_44_5 : List am_E := [(44, .aload_n 0, 1, 0, 0), (45, .iload_n 2, 1, 0, 0), (46, .iload_n 3, 1, 0, 0), (47, .iload 4, 2, 0, 0), (49, .iload 5, 2, 0, 0)]
theorem bk_Route_readStop_44_5_ok : bk_Route_readStop_44_5.all (am_ok 4 false m_Route_readStop.2.1) = true := by decide +kernel
def bk_Route_readStop_35_3 : List am_E := [(35, .iconst 2, 1, 0, 2), (36, .istore 4, 2, 0, 0), (38, .aload_n 1, 1, 0, 0)]
theorem bk_Route_readStop_35_3_ok : bk_Route_readStop_35_3.all (am_ok 4 false m_Route_readStop.2.1) = true := by decide +kernel
def bk_Route_readStop_42_6 : List am_E := [(42, .istore 5, 2, 0, 0), (44, .aload_n 0, 1, 0, 0), (45, .iload_n 2, 1, 0, 0), (46, .iload_n 3, 1, 0, 0), (47, .iload 4, 2, 0, 0), (49, .iload 5, 2, 0, 0)]
theorem bk_Route_readStop_42_6_ok : bk_Route_readStop_42_6.all (am_ok 4 false m_Route_readStop.2.1) = true := by decide +kernel
def bk_Route_readStop_20_8 : List am_E := [(20, .iconst 1, 1, 0, 1), (21, .istore 4, 2, 0, 0), (23, .goto 21, 3, 0, 21), (44, .aload_n 0, 1, 0, 0), (45, .iload_n 2, 1, 0, 0), (46, .iload_n 3, 1, 0, 0), (47, .iload 4, 2, 0, 0), (49, .iload 5, 2, 0, 0)]
theorem bk_Route_readStop_20_8_ok : bk_Route_readStop_20_8.all (am_ok 4 false m_Route_readStop.2.1) = true := by decide +kernel
theorem dc_Route_readStop_1 : decode m_Route_readStop.2.1 1 = .ok (.invokevirtual 76, 3) := by decide +kernel
theorem dc_Route_readStop_14 : decode m_Route_readStop.2.1 14 = .ok (.invokevirtual 70, 3) := by decide +kernel
theorem dc_Route_readStop_29 : decode m_Route_readStop.2.1 29 = .ok (.invokevirtual 70, 3) := by decide +kernel
theorem dc_Route_readStop_51 : decode m_Route_readStop.2.1 51 = .ok (.invokevirtual 62, 3) := by decide +kernel
theorem dc_Route_readStop_54 : decode m_Route_readStop.2.1 54 = .ok (.return_, 1) := by decide +kernel
theorem dc_Route_readStop_39 : decode m_Route_readStop.2.1 39 = .ok (.invokevirtual 84, 3) := by decide +kernel
theorem dc_Route_readStop_32 : decode m_Route_readStop.2.1 32 = .ok (.ifCond .eq 12, 3) := by decide +kernel
theorem dc_Route_readStop_17 : decode m_Route_readStop.2.1 17 = .ok (.ifCond .eq 9, 3) := by decide +kernel
set_option maxRecDepth 20000 in
theorem sg_Route_readStop_0 {kc ks : Nat} (a0 a1 : Nat) (x2 : Int32) (h : am_H) (Q : Option Value → am_H → Prop) (t : (am_tg h a1 = (9, 4) ∧ (am_Ei m_Tape_wantNumber 0 0 [.ref a1] h (fun r3 h2 => (am_tg h2 a1 = (9, 4) ∧ (am_Ei m_Tape_takeMark 0 0 [.ref a1, .int 33] h2 (fun r6 h5 => ((r6 = 0 → (am_tg h5 a1 = (9, 4) ∧ (am_Ei m_Tape_takeMark 0 0 [.ref a1, .int 126] h5 (fun r10 h9 => ((r10 = 0 → (am_tg h9 a0 = (4, 7) ∧ (am_Ew m_Route_add 0 0 [.ref a0, .int x2, .int r3, .int 0, .int 0] h9 (fun h13 => Q none h13)))) ∧ (¬ r10 = 0 → (am_tg h9 a1 = (9, 4) ∧ (am_Ei m_Tape_wantSize 0 0 [.ref a1] h9 (fun r16 h15 => (am_tg h15 a0 = (4, 7) ∧ (am_Ew m_Route_add 0 0 [.ref a0, .int x2, .int r3, .int 2, .int r16] h15 (fun h18 => Q none h18)))))))))))) ∧ (¬ r6 = 0 → (am_tg h5 a0 = (4, 7) ∧ (am_Ew m_Route_add 0 0 [.ref a0, .int x2, .int r3, .int 1, .int 0] h5 (fun h20 => Q none h20)))))))))))) : am_EI m_Route_readStop kc ks 0 [.ref a0, .ref a1, .int x2, .float 0, .float 0, .float 0] [] h Q := by
  refine am_blk_ok (c := 4) (ini := false) (by decide) rfl (fun q => by cases q) bk_Route_readStop_0_1 _ 1 _ _ _ bk_Route_readStop_0_1_ok rfl ?_
  show am_EI m_Route_readStop kc ks 1 [.ref a0, .ref a1, .int x2, .float 0, .float 0, .float 0] [.ref a1] h Q
  obtain ⟨o1, t⟩ := t
  refine am_callV (M2 := m_Tape_wantNumber) (ci := 9) (a := a1) (kc := kc) (ks := ks) (k2c := 0) (k2s := 0) (as := []) [] dc_Route_readStop_1 lk_4_76 im_Tape_wantNumber se_Tape_wantNumber lm_Tape_wantNumber np_Tape_wantNumber ⟨Nat.le_of_ble_eq_true rfl, Nat.le_of_ble_eq_true rfl⟩ (fun _ => Nat.le_of_ble_eq_true rfl) (by decide) rfl o1 (am_Ei.end (am_Ei.mono t (fun r3 h2 t => ?_)))
  refine am_blk_ok (c := 4) (ini := false) (by decide) rfl (fun q => by cases q) bk_Route_readStop_4_7 _ 14 _ _ _ bk_Route_readStop_4_7_ok rfl ?_
  show am_EI m_Route_readStop kc ks 14 [.ref a0, .ref a1, .int x2, .int r3, .int 0, .int 0] [.int 33, .ref a1] h2 Q
  obtain ⟨o4, t⟩ := t
  refine am_callV (M2 := m_Tape_takeMark) (ci := 9) (a := a1) (kc := kc) (ks := ks) (k2c := 0) (k2s := 0) (as := []) [.int 33] dc_Route_readStop_14 lk_4_70 im_Tape_takeMark se_Tape_takeMark lm_Tape_takeMark np_Tape_takeMark ⟨Nat.le_of_ble_eq_true rfl, Nat.le_of_ble_eq_true rfl⟩ (fun _ => Nat.le_of_ble_eq_true rfl) (by decide) rfl o4 (am_Ei.end (am_Ei.mono t (fun r6 h5 t => ?_)))
  refine am_if_eq (tgt := 26) dc_Route_readStop_17 (by decide) (fun c7 => ?_) (fun c7 => ?_)
  · replace t := t.1 c7
    refine am_blk_ok (c := 4) (ini := false) (by decide) rfl (fun q => by cases q) bk_Route_readStop_26_2 _ 29 _ _ _ bk_Route_readStop_26_2_ok rfl ?_
    show am_EI m_Route_readStop kc ks 29 [.ref a0, .ref a1, .int x2, .int r3, .int 0, .int 0] [.int 126, .ref a1] h5 Q
    obtain ⟨o8, t⟩ := t
    refine am_callV (M2 := m_Tape_takeMark) (ci := 9) (a := a1) (kc := kc) (ks := ks) (k2c := 0) (k2s := 0) (as := []) [.int 126] dc_Route_readStop_29 lk_4_70 im_Tape_takeMark se_Tape_takeMark lm_Tape_takeMark np_Tape_takeMark ⟨Nat.le_of_ble_eq_true rfl, Nat.le_of_ble_eq_true rfl⟩ (fun _ => Nat.le_of_ble_eq_true rfl) (by decide) rfl o8 (am_Ei.end (am_Ei.mono t (fun r10 h9 t => ?_)))
    refine am_if_eq (tgt := 44) dc_Route_readStop_32 (by decide) (fun c11 => ?_) (fun c11 => ?_)
    · replace t := t.1 c11
      refine am_blk_ok (c := 4) (ini := false) (by decide) rfl (fun q => by cases q) bk_Route_readStop_44_5 _ 51 _ _ _ bk_Route_readStop_44_5_ok rfl ?_
      show am_EI m_Route_readStop kc ks 51 [.ref a0, .ref a1, .int x2, .int r3, .int 0, .int 0] [.int 0, .int 0, .int r3, .int x2, .ref a0] h9 Q
      obtain ⟨o12, t⟩ := t
      refine am_callV (M2 := m_Route_add) (ci := 4) (a := a0) (kc := kc) (ks := ks) (k2c := 0) (k2s := 0) (as := []) [.int x2, .int r3, .int 0, .int 0] dc_Route_readStop_51 lk_4_62 im_Route_add se_Route_add lm_Route_add np_Route_add ⟨Nat.le_of_ble_eq_true rfl, Nat.le_of_ble_eq_true rfl⟩ (fun _ => Nat.le_of_ble_eq_true rfl) (by decide) rfl o12 (am_Ew.end (am_Ew.mono t (fun h13 t => ?_)))
      exact am_vret dc_Route_readStop_54 rfl t
    · replace t := t.2 c11
      refine am_blk_ok (c := 4) (ini := false) (by decide) rfl (fun q => by cases q) bk_Route_readStop_35_3 _ 39 _ _ _ bk_Route_readStop_35_3_ok rfl ?_
      show am_EI m_Route_readStop kc ks 39 [.ref a0, .ref a1, .int x2, .int r3, .int 2, .int 0] [.ref a1] h9 Q
      obtain ⟨o14, t⟩ := t
      refine am_callV (M2 := m_Tape_wantSize) (ci := 9) (a := a1) (kc := kc) (ks := ks) (k2c := 0) (k2s := 0) (as := []) [] dc_Route_readStop_39 lk_4_84 im_Tape_wantSize se_Tape_wantSize lm_Tape_wantSize np_Tape_wantSize ⟨Nat.le_of_ble_eq_true rfl, Nat.le_of_ble_eq_true rfl⟩ (fun _ => Nat.le_of_ble_eq_true rfl) (by decide) rfl o14 (am_Ei.end (am_Ei.mono t (fun r16 h15 t => ?_)))
      refine am_blk_ok (c := 4) (ini := false) (by decide) rfl (fun q => by cases q) bk_Route_readStop_42_6 _ 51 _ _ _ bk_Route_readStop_42_6_ok rfl ?_
      show am_EI m_Route_readStop kc ks 51 [.ref a0, .ref a1, .int x2, .int r3, .int 2, .int r16] [.int r16, .int 2, .int r3, .int x2, .ref a0] h15 Q
      obtain ⟨o17, t⟩ := t
      refine am_callV (M2 := m_Route_add) (ci := 4) (a := a0) (kc := kc) (ks := ks) (k2c := 0) (k2s := 0) (as := []) [.int x2, .int r3, .int 2, .int r16] dc_Route_readStop_51 lk_4_62 im_Route_add se_Route_add lm_Route_add np_Route_add ⟨Nat.le_of_ble_eq_true rfl, Nat.le_of_ble_eq_true rfl⟩ (fun _ => Nat.le_of_ble_eq_true rfl) (by decide) rfl o17 (am_Ew.end (am_Ew.mono t (fun h18 t => ?_)))
      exact am_vret dc_Route_readStop_54 rfl t
  · replace t := t.2 c7
    refine am_blk_ok (c := 4) (ini := false) (by decide) rfl (fun q => by cases q) bk_Route_readStop_20_8 _ 51 _ _ _ bk_Route_readStop_20_8_ok rfl ?_
    show am_EI m_Route_readStop kc ks 51 [.ref a0, .ref a1, .int x2, .int r3, .int 1, .int 0] [.int 0, .int 1, .int r3, .int x2, .ref a0] h5 Q
    obtain ⟨o19, t⟩ := t
    refine am_callV (M2 := m_Route_add) (ci := 4) (a := a0) (kc := kc) (ks := ks) (k2c := 0) (k2s := 0) (as := []) [.int x2, .int r3, .int 1, .int 0] dc_Route_readStop_51 lk_4_62 im_Route_add se_Route_add lm_Route_add np_Route_add ⟨Nat.le_of_ble_eq_true rfl, Nat.le_of_ble_eq_true rfl⟩ (fun _ => Nat.le_of_ble_eq_true rfl) (by decide) rfl o19 (am_Ew.end (am_Ew.mono t (fun h20 t => ?_)))
    exact am_vret dc_Route_readStop_54 rfl t
set_option maxRecDepth 20000 in
theorem ev_Route_readStop (a0 a1 : Nat) (x2 : Int32) (h : am_H) (Q : am_H → Prop) (t : (am_tg h a1 = (9, 4) ∧ (am_Ei m_Tape_wantNumber 0 0 [.ref a1] h (fun r3 h2 => (am_tg h2 a1 = (9, 4) ∧ (am_Ei m_Tape_takeMark 0 0 [.ref a1, .int 33] h2 (fun r6 h5 => ((r6 = 0 → (am_tg h5 a1 = (9, 4) ∧ (am_Ei m_Tape_takeMark 0 0 [.ref a1, .int 126] h5 (fun r10 h9 => ((r10 = 0 → (am_tg h9 a0 = (4, 7) ∧ (am_Ew m_Route_add 0 0 [.ref a0, .int x2, .int r3, .int 0, .int 0] h9 (fun h13 => Q h13)))) ∧ (¬ r10 = 0 → (am_tg h9 a1 = (9, 4) ∧ (am_Ei m_Tape_wantSize 0 0 [.ref a1] h9 (fun r16 h15 => (am_tg h15 a0 = (4, 7) ∧ (am_Ew m_Route_add 0 0 [.ref a0, .int x2, .int r3, .int 2, .int r16] h15 (fun h18 => Q h18)))))))))))) ∧ (¬ r6 = 0 → (am_tg h5 a0 = (4, 7) ∧ (am_Ew m_Route_add 0 0 [.ref a0, .int x2, .int r3, .int 1, .int 0] h5 (fun h20 => Q h20)))))))))))) : am_Ew m_Route_readStop 0 0 [.ref a0, .ref a1, .int x2] h Q :=
  am_Ev.of (by decide +kernel) (Nat.le_of_ble_eq_true rfl) (by simp only [List.mem_cons, List.not_mem_nil, or_false]; intro v hv; rcases hv with rfl | rfl | rfl; all_goals first | exact trivial) (sg_Route_readStop_0 (kc := 0) (ks := 0) a0 a1 x2 h (am_qw Q) t)
def bk_Route_setSill_0_2 : List am_E := [(0, .aload_n 0, 1, 0, 0), (1, .iload_n 1, 1, 0, 0)]
theorem bk_Route_setSill_0_2_ok : bk_Route_setSill_0_2.all (am_ok 4 false m_Route_setSill.2.1) = true := by decide +kernel
def bk_Route_setSill_8_5 : List am_E := [(8, .aload_n 0, 1, 0, 0), (9, .getfield 24, 3, 1605, 0), (12, .iload_n 1, 1, 0, 0), (13, .aload_n 2, 1, 0, 0), (14, .aastore, 1, 7, 0)]
theorem bk_Route_setSill_8_5_ok : bk_Route_setSill_8_5.all (am_ok 4 false m_Route_setSill.2.1) = true := by decide +kernel
theorem dc_Route_setSill_2 : decode m_Route_setSill.2.1 2 = .ok (.invokevirtual 41, 3) := by decide +kernel
theorem dc_Route_setSill_15 : decode m_Route_setSill.2.1 15 = .ok (.return_, 1) := by decide +kernel
theorem dc_Route_setSill_5 : decode m_Route_setSill.2.1 5 = .ok (.ifCond .eq 10, 3) := by decide +kernel
set_option maxRecDepth 20000 in
theorem sg_Route_setSill_0 {kc ks : Nat} (a0 a2 : Nat) (x1 : Int32) (h : am_H) (Q : Option Value → am_H → Prop) (t : (am_tg h a0 = (4, 7) ∧ (am_Ei m_Route_isStop 0 0 [.ref a0, .int x1] h (fun r3 h2 => ((r3 = 0 → Q none h2) ∧ (¬ r3 = 0 → (am_tg h2 a0 = (4, 7) ∧ (∃ b5, am_P h2 a0 1 = some b5 ∧ (am_tg h2 a2 = (7, (am_tg h2 a2).2) ∧ ((am_tg h2 b5).1 = 30 + 7 ∧ (vp_in x1 (am_tg h2 b5).2 ∧ Q none (am_sp h2 b5 x1.toNatClampNeg (some a2))))))))))))) : am_EI m_Route_setSill kc ks 0 [.ref a0, .int x1, .ref a2] [] h Q := by
  refine am_blk_ok (c := 4) (ini := false) (by decide) rfl (fun q => by cases q) bk_Route_setSill_0_2 _ 2 _ _ _ bk_Route_setSill_0_2_ok rfl ?_
  show am_EI m_Route_setSill kc ks 2 [.ref a0, .int x1, .ref a2] [.int x1, .ref a0] h Q
  obtain ⟨o1, t⟩ := t
  refine am_callV (M2 := m_Route_isStop) (ci := 4) (a := a0) (kc := kc) (ks := ks) (k2c := 0) (k2s := 0) (as := []) [.int x1] dc_Route_setSill_2 lk_4_41 im_Route_isStop se_Route_isStop lm_Route_isStop np_Route_isStop ⟨Nat.le_of_ble_eq_true rfl, Nat.le_of_ble_eq_true rfl⟩ (fun _ => Nat.le_of_ble_eq_true rfl) (by decide) rfl o1 (am_Ei.end (am_Ei.mono t (fun r3 h2 t => ?_)))
  refine am_if_eq (tgt := 15) dc_Route_setSill_5 (by decide) (fun c4 => ?_) (fun c4 => ?_)
  · replace t := t.1 c4
    exact am_vret dc_Route_setSill_15 rfl t
  · replace t := t.2 c4
    refine am_blk_ok (c := 4) (ini := false) (by decide) rfl (fun q => by cases q) bk_Route_setSill_8_5 _ 15 _ _ _ bk_Route_setSill_8_5_ok rfl ?_
    show (am_tg h2 a0 = (4, 7) ∧ (∃ b5, am_P h2 a0 1 = some b5 ∧ (am_tg h2 a2 = (7, (am_tg h2 a2).2) ∧ ((am_tg h2 b5).1 = 30 + 7 ∧ ((7 = 2 ∨ 7 = 4 ∨ 7 = 6 ∨ 7 = 7 ∨ 7 = 8) ∧ (vp_in x1 (am_tg h2 b5).2 ∧ am_EI m_Route_setSill kc ks 15 [.ref a0, .int x1, .ref a2] [] (am_sp h2 b5 x1.toNatClampNeg (some a2)) Q))))))
    obtain ⟨o6, b5, q7, o8, o9, o10, t⟩ := t
    refine ⟨o6, b5, q7, o8, o9, (by decide), o10, ?_⟩
    exact am_vret dc_Route_setSill_15 rfl t
set_option maxRecDepth 20000 in
theorem ev_Route_setSill (a0 a2 : Nat) (x1 : Int32) (h : am_H) (Q : am_H → Prop) (t : (am_tg h a0 = (4, 7) ∧ (am_Ei m_Route_isStop 0 0 [.ref a0, .int x1] h (fun r3 h2 => ((r3 = 0 → Q h2) ∧ (¬ r3 = 0 → (am_tg h2 a0 = (4, 7) ∧ (∃ b5, am_P h2 a0 1 = some b5 ∧ (am_tg h2 a2 = (7, (am_tg h2 a2).2) ∧ ((am_tg h2 b5).1 = 30 + 7 ∧ (vp_in x1 (am_tg h2 b5).2 ∧ Q (am_sp h2 b5 x1.toNatClampNeg (some a2))))))))))))) : am_Ew m_Route_setSill 0 0 [.ref a0, .int x1, .ref a2] h Q :=
  am_Ev.of (by decide +kernel) (Nat.le_of_ble_eq_true rfl) (by simp only [List.mem_cons, List.not_mem_nil, or_false]; intro v hv; rcases hv with rfl | rfl | rfl; all_goals first | exact trivial) (sg_Route_setSill_0 (kc := 0) (ks := 0) a0 a2 x1 h (am_qw Q) t)
def bk_Route_sillNumberOf_0_2 : List am_E := [(0, .aload_n 0, 1, 0, 0), (1, .iload_n 1, 1, 0, 0)]
theorem bk_Route_sillNumberOf_0_2_ok : bk_Route_sillNumberOf_0_2.all (am_ok 4 false m_Route_sillNumberOf.2.1) = true := by decide +kernel
def bk_Route_sillNumberOf_17_1 : List am_E := [(17, .iconst 0, 1, 0, 0)]
theorem bk_Route_sillNumberOf_17_1_ok : bk_Route_sillNumberOf_17_1.all (am_ok 4 false m_Route_sillNumberOf.2.1) = true := by decide +kernel
def bk_Route_sillNumberOf_8_5 : List am_E := [(8, .aload_n 0, 1, 0, 0), (9, .getfield 28, 3, 1609, 0), (12, .iload_n 1, 1, 0, 0), (13, .iaload, 1, 0, 0), (14, .goto 4, 3, 0, 4)]
theorem bk_Route_sillNumberOf_8_5_ok : bk_Route_sillNumberOf_8_5.all (am_ok 4 false m_Route_sillNumberOf.2.1) = true := by decide +kernel
theorem dc_Route_sillNumberOf_2 : decode m_Route_sillNumberOf.2.1 2 = .ok (.invokevirtual 41, 3) := by decide +kernel
theorem dc_Route_sillNumberOf_18 : decode m_Route_sillNumberOf.2.1 18 = .ok (.ireturn, 1) := by decide +kernel
theorem dc_Route_sillNumberOf_5 : decode m_Route_sillNumberOf.2.1 5 = .ok (.ifCond .eq 12, 3) := by decide +kernel
set_option maxRecDepth 20000 in
theorem sg_Route_sillNumberOf_0 {kc ks : Nat} (a0 : Nat) (x1 : Int32) (h : am_H) (Q : Option Value → am_H → Prop) (t : (am_tg h a0 = (4, 7) ∧ (am_Ei m_Route_isStop 0 0 [.ref a0, .int x1] h (fun r3 h2 => ((r3 = 0 → Q (some (.int 0)) h2) ∧ (¬ r3 = 0 → (am_tg h2 a0 = (4, 7) ∧ (∃ b5, am_P h2 a0 2 = some b5 ∧ ((am_tg h2 b5).1 = 20 ∧ (vp_in x1 (am_tg h2 b5).2 ∧ Q (some (.int (am_I h2 b5 x1.toNatClampNeg))) h2)))))))))) : am_EI m_Route_sillNumberOf kc ks 0 [.ref a0, .int x1] [] h Q := by
  refine am_blk_ok (c := 4) (ini := false) (by decide) rfl (fun q => by cases q) bk_Route_sillNumberOf_0_2 _ 2 _ _ _ bk_Route_sillNumberOf_0_2_ok rfl ?_
  show am_EI m_Route_sillNumberOf kc ks 2 [.ref a0, .int x1] [.int x1, .ref a0] h Q
  obtain ⟨o1, t⟩ := t
  refine am_callV (M2 := m_Route_isStop) (ci := 4) (a := a0) (kc := kc) (ks := ks) (k2c := 0) (k2s := 0) (as := []) [.int x1] dc_Route_sillNumberOf_2 lk_4_41 im_Route_isStop se_Route_isStop lm_Route_isStop np_Route_isStop ⟨Nat.le_of_ble_eq_true rfl, Nat.le_of_ble_eq_true rfl⟩ (fun _ => Nat.le_of_ble_eq_true rfl) (by decide) rfl o1 (am_Ei.end (am_Ei.mono t (fun r3 h2 t => ?_)))
  refine am_if_eq (tgt := 17) dc_Route_sillNumberOf_5 (by decide) (fun c4 => ?_) (fun c4 => ?_)
  · replace t := t.1 c4
    refine am_blk_ok (c := 4) (ini := false) (by decide) rfl (fun q => by cases q) bk_Route_sillNumberOf_17_1 _ 18 _ _ _ bk_Route_sillNumberOf_17_1_ok rfl ?_
    show am_EI m_Route_sillNumberOf kc ks 18 [.ref a0, .int x1] [.int 0] h2 Q
    exact am_iret dc_Route_sillNumberOf_18 rfl t
  · replace t := t.2 c4
    refine am_blk_ok (c := 4) (ini := false) (by decide) rfl (fun q => by cases q) bk_Route_sillNumberOf_8_5 _ 18 _ _ _ bk_Route_sillNumberOf_8_5_ok rfl ?_
    show (am_tg h2 a0 = (4, 7) ∧ (∃ b5, am_P h2 a0 2 = some b5 ∧ ((am_tg h2 b5).1 = 20 ∧ (vp_in x1 (am_tg h2 b5).2 ∧ am_EI m_Route_sillNumberOf kc ks 18 [.ref a0, .int x1] [.int (am_I h2 b5 x1.toNatClampNeg)] h2 Q))))
    obtain ⟨o6, b5, q7, o8, o9, t⟩ := t
    refine ⟨o6, b5, q7, o8, o9, ?_⟩
    exact am_iret dc_Route_sillNumberOf_18 rfl t
set_option maxRecDepth 20000 in
theorem ev_Route_sillNumberOf (a0 : Nat) (x1 : Int32) (h : am_H) (Q : Int32 → am_H → Prop) (t : (am_tg h a0 = (4, 7) ∧ (am_Ei m_Route_isStop 0 0 [.ref a0, .int x1] h (fun r3 h2 => ((r3 = 0 → Q 0 h2) ∧ (¬ r3 = 0 → (am_tg h2 a0 = (4, 7) ∧ (∃ b5, am_P h2 a0 2 = some b5 ∧ ((am_tg h2 b5).1 = 20 ∧ (vp_in x1 (am_tg h2 b5).2 ∧ Q (am_I h2 b5 x1.toNatClampNeg) h2)))))))))) : am_Ei m_Route_sillNumberOf 0 0 [.ref a0, .int x1] h Q :=
  am_Ev.of (by decide +kernel) (Nat.le_of_ble_eq_true rfl) (by simp only [List.mem_cons, List.not_mem_nil, or_false]; intro v hv; rcases hv with rfl | rfl; all_goals first | exact trivial) (sg_Route_sillNumberOf_0 (kc := 0) (ks := 0) a0 x1 h (am_qi Q) t)
def bk_Route_sillOf_0_2 : List am_E := [(0, .aload_n 0, 1, 0, 0), (1, .iload_n 1, 1, 0, 0)]
theorem bk_Route_sillOf_0_2_ok : bk_Route_sillOf_0_2.all (am_ok 4 false m_Route_sillOf.2.1) = true := by decide +kernel
def bk_Route_sillOf_17_1 : List am_E := [(17, .aconst_null, 1, 0, 0)]
theorem bk_Route_sillOf_17_1_ok : bk_Route_sillOf_17_1.all (am_ok 4 false m_Route_sillOf.2.1) = true := by decide +kernel
def bk_Route_sillOf_8_5 : List am_E := [(8, .aload_n 0, 1, 0, 0), (9, .getfield 24, 3, 1605, 0), (12, .iload_n 1, 1, 0, 0), (13, .aaload, 1, 37, 0), (14, .goto 4, 3, 0, 4)]
theorem bk_Route_sillOf_8_5_ok : bk_Route_sillOf_8_5.all (am_ok 4 false m_Route_sillOf.2.1) = true := by decide +kernel
theorem dc_Route_sillOf_2 : decode m_Route_sillOf.2.1 2 = .ok (.invokevirtual 41, 3) := by decide +kernel
theorem dc_Route_sillOf_18 : decode m_Route_sillOf.2.1 18 = .ok (.areturn, 1) := by decide +kernel
theorem dc_Route_sillOf_5 : decode m_Route_sillOf.2.1 5 = .ok (.ifCond .eq 12, 3) := by decide +kernel
set_option maxRecDepth 20000 in
theorem sg_Route_sillOf_0 {kc ks : Nat} (a0 : Nat) (x1 : Int32) (h : am_H) (Q : Option Value → am_H → Prop) (t : (am_tg h a0 = (4, 7) ∧ (am_Ei m_Route_isStop 0 0 [.ref a0, .int x1] h (fun r3 h2 => ((r3 = 0 → Q (some (.null)) h2) ∧ (¬ r3 = 0 → (am_tg h2 a0 = (4, 7) ∧ (∃ b5, am_P h2 a0 1 = some b5 ∧ ((am_tg h2 b5).1 = 37 ∧ (vp_in x1 (am_tg h2 b5).2 ∧ (∃ b6, am_P h2 b5 x1.toNatClampNeg = some b6 ∧ Q (some (.ref b6)) h2))))))))))) : am_EI m_Route_sillOf kc ks 0 [.ref a0, .int x1] [] h Q := by
  refine am_blk_ok (c := 4) (ini := false) (by decide) rfl (fun q => by cases q) bk_Route_sillOf_0_2 _ 2 _ _ _ bk_Route_sillOf_0_2_ok rfl ?_
  show am_EI m_Route_sillOf kc ks 2 [.ref a0, .int x1] [.int x1, .ref a0] h Q
  obtain ⟨o1, t⟩ := t
  refine am_callV (M2 := m_Route_isStop) (ci := 4) (a := a0) (kc := kc) (ks := ks) (k2c := 0) (k2s := 0) (as := []) [.int x1] dc_Route_sillOf_2 lk_4_41 im_Route_isStop se_Route_isStop lm_Route_isStop np_Route_isStop ⟨Nat.le_of_ble_eq_true rfl, Nat.le_of_ble_eq_true rfl⟩ (fun _ => Nat.le_of_ble_eq_true rfl) (by decide) rfl o1 (am_Ei.end (am_Ei.mono t (fun r3 h2 t => ?_)))
  refine am_if_eq (tgt := 17) dc_Route_sillOf_5 (by decide) (fun c4 => ?_) (fun c4 => ?_)
  · replace t := t.1 c4
    refine am_blk_ok (c := 4) (ini := false) (by decide) rfl (fun q => by cases q) bk_Route_sillOf_17_1 _ 18 _ _ _ bk_Route_sillOf_17_1_ok rfl ?_
    show am_EI m_Route_sillOf kc ks 18 [.ref a0, .int x1] [.null] h2 Q
    exact am_aret (o := none) dc_Route_sillOf_18 rfl rfl t
  · replace t := t.2 c4
    refine am_blk_ok (c := 4) (ini := false) (by decide) rfl (fun q => by cases q) bk_Route_sillOf_8_5 _ 18 _ _ _ bk_Route_sillOf_8_5_ok rfl ?_
    show (am_tg h2 a0 = (4, 7) ∧ (∃ b5, am_P h2 a0 1 = some b5 ∧ ((am_tg h2 b5).1 = 37 ∧ ((37 ∈ am_ks ∧ 30 ≤ 37) ∧ (vp_in x1 (am_tg h2 b5).2 ∧ (∃ b6, am_P h2 b5 x1.toNatClampNeg = some b6 ∧ am_EI m_Route_sillOf kc ks 18 [.ref a0, .int x1] [.ref b6] h2 Q))))))
    obtain ⟨o7, b5, q8, o9, o10, b6, q11, t⟩ := t
    refine ⟨o7, b5, q8, o9, ⟨by decide, by decide⟩, o10, b6, q11, ?_⟩
    exact am_aret (o := some b6) dc_Route_sillOf_18 rfl rfl t
set_option maxRecDepth 20000 in
theorem ev_Route_sillOf (a0 : Nat) (x1 : Int32) (h : am_H) (Q : Option Nat → am_H → Prop) (t : (am_tg h a0 = (4, 7) ∧ (am_Ei m_Route_isStop 0 0 [.ref a0, .int x1] h (fun r3 h2 => ((r3 = 0 → Q none h2) ∧ (¬ r3 = 0 → (am_tg h2 a0 = (4, 7) ∧ (∃ b5, am_P h2 a0 1 = some b5 ∧ ((am_tg h2 b5).1 = 37 ∧ (vp_in x1 (am_tg h2 b5).2 ∧ (∃ b6, am_P h2 b5 x1.toNatClampNeg = some b6 ∧ Q (some b6) h2))))))))))) : am_Er m_Route_sillOf 0 0 [.ref a0, .int x1] h Q :=
  am_Ev.of (by decide +kernel) (Nat.le_of_ble_eq_true rfl) (by simp only [List.mem_cons, List.not_mem_nil, or_false]; intro v hv; rcases hv with rfl | rfl; all_goals first | exact trivial) (sg_Route_sillOf_0 (kc := 0) (ks := 0) a0 x1 h (am_qr Q) t)
def bk_Route_stopCount_0_2 : List am_E := [(0, .aload_n 0, 1, 0, 0), (1, .getfield 7, 3, 1624, 0)]
theorem bk_Route_stopCount_0_2_ok : bk_Route_stopCount_0_2.all (am_ok 4 false m_Route_stopCount.2.1) = true := by decide +kernel
theorem dc_Route_stopCount_4 : decode m_Route_stopCount.2.1 4 = .ok (.ireturn, 1) := by decide +kernel
set_option maxRecDepth 20000 in
theorem sg_Route_stopCount_0 {kc ks : Nat} (a0 : Nat) (h : am_H) (Q : Option Value → am_H → Prop) (t : (am_tg h a0 = (4, 7) ∧ Q (some (.int (am_I h a0 6))) h)) : am_EI m_Route_stopCount kc ks 0 [.ref a0] [] h Q := by
  refine am_blk_ok (c := 4) (ini := false) (by decide) rfl (fun q => by cases q) bk_Route_stopCount_0_2 _ 4 _ _ _ bk_Route_stopCount_0_2_ok rfl ?_
  show (am_tg h a0 = (4, 7) ∧ am_EI m_Route_stopCount kc ks 4 [.ref a0] [.int (am_I h a0 6)] h Q)
  obtain ⟨o1, t⟩ := t
  refine ⟨o1, ?_⟩
  exact am_iret dc_Route_stopCount_4 rfl t
set_option maxRecDepth 20000 in
theorem ev_Route_stopCount (a0 : Nat) (h : am_H) (Q : Int32 → am_H → Prop) (t : (am_tg h a0 = (4, 7) ∧ Q (am_I h a0 6) h)) : am_Ei m_Route_stopCount 0 0 [.ref a0] h Q :=
  am_Ev.of (by decide +kernel) (Nat.le_of_ble_eq_true rfl) (by simp only [List.mem_cons, List.not_mem_nil, or_false]; intro v hv; rcases hv with rfl; all_goals first | exact trivial) (sg_Route_stopCount_0 (kc := 0) (ks := 0) a0 h (am_qi Q) t)
