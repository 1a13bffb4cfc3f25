def bk_Shift_heightFor_0_7 : List am_E := [(0, .aload_n 0, 1, 0, 0), (1, .getfield 19, 3, 2012, 0), (4, .aload_n 0, 1, 0, 0), (5, .getfield 13, 3, 2004, 0), (8, .isub, 1, 0, 0), (9, .istore_n 2, 1, 0, 0), (10, .iload_n 2, 1, 0, 0)]
theorem bk_Shift_heightFor_0_7_ok : bk_Shift_heightFor_0_7.all (am_ok 5 false m_Shift_heightFor.2.1) = true := by decide +kernel
def bk_Shift_heightFor_16_15 : List am_E := [(16, .iload_n 1, 1, 0, 0), (17, .aload_n 0, 1, 0, 0), (18, .getfield 16, 3, 2008, 0), (21, .iadd, 1, 0, 0), (22, .aload_n 0, 1, 0, 0), (23, .getfield 22, 3, 2016, 0), (26, .aload_n 0, 1, 0, 0), (27, .getfield 16, 3, 2008, 0), (30, .isub, 1, 0, 0), (31, .iload_n 1, 1, 0, 0), (32, .aload_n 0, 1, 0, 0), (33, .getfield 13, 3, 2004, 0), (36, .isub, 1, 0, 0), (37, .imul, 1, 0, 0), (38, .iload_n 2, 1, 0, 0)]
theorem bk_Shift_heightFor_16_15_ok : bk_Shift_heightFor_16_15.all (am_ok 5 false m_Shift_heightFor.2.1) = true := by decide +kernel
def bk_Shift_heightFor_42_1 : List am_E := [(42, .iadd, 1, 0, 0)]
theorem bk_Shift_heightFor_42_1_ok : bk_Shift_heightFor_42_1.all (am_ok 5 false m_Shift_heightFor.2.1) = true := by decide +kernel
def bk_Shift_heightFor_14_1 : List am_E := [(14, .iload_n 1, 1, 0, 0)]
theorem bk_Shift_heightFor_14_1_ok : bk_Shift_heightFor_14_1.all (am_ok 5 false m_Shift_heightFor.2.1) = true := by decide +kernel
theorem dc_Shift_heightFor_39 : decode m_Shift_heightFor.2.1 39 = .ok (.invokestatic 43, 3) := by decide +kernel
theorem dc_Shift_heightFor_43 : decode m_Shift_heightFor.2.1 43 = .ok (.ireturn, 1) := by decide +kernel
theorem dc_Shift_heightFor_15 : decode m_Shift_heightFor.2.1 15 = .ok (.ireturn, 1) := by decide +kernel
theorem dc_Shift_heightFor_11 : decode m_Shift_heightFor.2.1 11 = .ok (.ifCond .ne 5, 3) := by decide +kernel
set_option maxRecDepth 20000 in
theorem sg_Shift_heightFor_0 {kc ks : Nat} (a0 : Nat) (x1 : Int32) (h : am_H) (Q : Option Value → am_H → Prop) (t : (am_tg h a0 = (5, 5) ∧ ((¬ ((am_I h a0 3) - (am_I h a0 1)) = 0 → (am_Ei m_Math_floorDiv 0 0 [.int (((am_I h a0 4) - (am_I h a0 2)) * (x1 - (am_I h a0 1))), .int ((am_I h a0 3) - (am_I h a0 1))] h (fun r4 h3 => Q (some (.int ((x1 + (am_I h a0 2)) + r4))) h3))) ∧ (((am_I h a0 3) - (am_I h a0 1)) = 0 → Q (some (.int x1)) h)))) : am_EI m_Shift_heightFor kc ks 0 [.ref a0, .int x1, .float 0] [] h Q := by
  refine am_blk_ok (c := 5) (ini := false) (by decide) rfl (fun q => by cases q) bk_Shift_heightFor_0_7 _ 11 _ _ _ bk_Shift_heightFor_0_7_ok rfl ?_
  show (am_tg h a0 = (5, 5) ∧ (am_tg h a0 = (5, 5) ∧ am_EI m_Shift_heightFor kc ks 11 [.ref a0, .int x1, .int ((am_I h a0 3) - (am_I h a0 1))] [.int ((am_I h a0 3) - (am_I h a0 1))] h Q))
  obtain ⟨o1, t⟩ := t
  refine ⟨o1, o1, ?_⟩
  refine am_if_ne (tgt := 16) dc_Shift_heightFor_11 (by decide) (fun c2 => ?_) (fun c2 => ?_)
  · replace t := t.1 c2
    refine am_blk_ok (c := 5) (ini := false) (by decide) rfl (fun q => by cases q) bk_Shift_heightFor_16_15 _ 39 _ _ _ bk_Shift_heightFor_16_15_ok rfl ?_
    show (am_tg h a0 = (5, 5) ∧ (am_tg h a0 = (5, 5) ∧ (am_tg h a0 = (5, 5) ∧ (am_tg h a0 = (5, 5) ∧ am_EI m_Shift_heightFor kc ks 39 [.ref a0, .int x1, .int ((am_I h a0 3) - (am_I h a0 1))] [.int ((am_I h a0 3) - (am_I h a0 1)), .int (((am_I h a0 4) - (am_I h a0 2)) * (x1 - (am_I h a0 1))), .int (x1 + (am_I h a0 2))] h Q))))
    refine ⟨o1, o1, o1, o1, ?_⟩
    refine am_callS (M2 := m_Math_floorDiv) (kc := kc) (ks := ks) (k2c := 0) (k2s := 0) (as := [.int (x1 + (am_I h a0 2))]) [.int (((am_I h a0 4) - (am_I h a0 2)) * (x1 - (am_I h a0 1))), .int ((am_I h a0 3) - (am_I h a0 1))] dc_Shift_heightFor_39 lk_5_43 st_Math_floorDiv lm_Math_floorDiv np_Math_floorDiv ⟨Nat.le_of_ble_eq_true rfl, Nat.le_of_ble_eq_true rfl⟩ (fun _ => Nat.le_of_ble_eq_true rfl) (am_Ei.end (am_Ei.mono t (fun r4 h3 t => ?_)))
    refine am_blk_ok (c := 5) (ini := false) (by decide) rfl (fun q => by cases q) bk_Shift_heightFor_42_1 _ 43 _ _ _ bk_Shift_heightFor_42_1_ok rfl ?_
    show am_EI m_Shift_heightFor kc ks 43 [.ref a0, .int x1, .int ((am_I h a0 3) - (am_I h a0 1))] [.int ((x1 + (am_I h a0 2)) + r4)] h3 Q
    exact am_iret dc_Shift_heightFor_43 rfl t
  · replace t := t.2 c2
    refine am_blk_ok (c := 5) (ini := false) (by decide) rfl (fun q => by cases q) bk_Shift_heightFor_14_1 _ 15 _ _ _ bk_Shift_heightFor_14_1_ok rfl ?_
    show am_EI m_Shift_heightFor kc ks 15 [.ref a0, .int x1, .int ((am_I h a0 3) - (am_I h a0 1))] [.int x1] h Q
    exact am_iret dc_Shift_heightFor_15 rfl t
set_option maxRecDepth 20000 in
theorem ev_Shift_heightFor (a0 : Nat) (x1 : Int32) (h : am_H) (Q : Int32 → am_H → Prop) (t : (am_tg h a0 = (5, 5) ∧ ((¬ ((am_I h a0 3) - (am_I h a0 1)) = 0 → (am_Ei m_Math_floorDiv 0 0 [.int (((am_I h a0 4) - (am_I h a0 2)) * (x1 - (am_I h a0 1))), .int ((am_I h a0 3) - (am_I h a0 1))] h (fun r4 h3 => Q ((x1 + (am_I h a0 2)) + r4) h3))) ∧ (((am_I h a0 3) - (am_I h a0 1)) = 0 → Q x1 h)))) : am_Ei m_Shift_heightFor 0 0 [.ref a0, .int x1] h Q :=
  am_Ev.of (by decide +kernel) (Nat.le_of_ble_eq_true rfl) (by simp only [List.mem_cons, List.not_mem_nil, or_false]; intro v hv; rcases hv with rfl | rfl; all_goals first | exact trivial) (sg_Shift_heightFor_0 (kc := 0) (ks := 0) a0 x1 h (am_qi Q) t)
def bk_Shift_init_0_1 : List am_E := [(0, .aload_n 0, 1, 0, 0)]
theorem bk_Shift_init_0_1_ok : bk_Shift_init_0_1.all (am_ok 5 true m_Shift_init.2.1) = true := by decide +kernel
def bk_Shift_init_4_15 : List am_E := [(4, .aload_n 0, 1, 0, 0), (5, .iconst 0, 1, 0, 0), (6, .putfield 7, 3, 2000, 0), (9, .aload_n 0, 1, 0, 0), (10, .iconst 0, 1, 0, 0), (11, .putfield 13, 3, 2004, 0), (14, .aload_n 0, 1, 0, 0), (15, .iconst 0, 1, 0, 0), (16, .putfield 16, 3, 2008, 0), (19, .aload_n 0, 1, 0, 0), (20, .iconst 0, 1, 0, 0), (21, .putfield 19, 3, 2012, 0), (24, .aload_n 0, 1, 0, 0), (25, .iconst 0, 1, 0, 0), (26, .putfield 22, 3, 2016, 0)]
theorem bk_Shift_init_4_15_ok : bk_Shift_init_4_15.all (am_ok 5 true m_Shift_init.2.1) = true := by decide +kernel
theorem dc_Shift_init_29 : decode m_Shift_init.2.1 29 = .ok (.return_, 1) := by decide +kernel
theorem dc_Shift_init_1 : decode m_Shift_init.2.1 1 = .ok (.invokespecial 1, 3) := by decide +kernel
set_option maxRecDepth 20000 in
theorem sg_Shift_init_0 {kc ks : Nat} (a0 : Nat) (h : am_H) (Q : Option Value → am_H → Prop) (t : (am_tg h a0 = (5, 5) ∧ Q none (am_si (am_si (am_si (am_si (am_si h a0 0 0) a0 1 0) a0 2 0) a0 3 0) a0 4 0))) : am_EI m_Shift_init kc ks 0 [.ref a0] [] h Q := by
  refine am_blk_ok (c := 5) (ini := true) (by decide) rfl (fun _ => rfl) bk_Shift_init_0_1 _ 1 _ _ _ bk_Shift_init_0_1_ok rfl ?_
  show am_EI m_Shift_init kc ks 1 [.ref a0] [.ref a0] h Q
  refine am_oinit (a := a0) dc_Shift_init_1 lk_5_1 oi_2 oi_3 (by decide) (by decide) ?_
  refine am_blk_ok (c := 5) (ini := true) (by decide) rfl (fun _ => rfl) bk_Shift_init_4_15 _ 29 _ _ _ bk_Shift_init_4_15_ok rfl ?_
  show (am_tg h a0 = (5, 5) ∧ (am_tg h a0 = (5, 5) ∧ (am_tg h a0 = (5, 5) ∧ (am_tg h a0 = (5, 5) ∧ (am_tg h a0 = (5, 5) ∧ am_EI m_Shift_init kc ks 29 [.ref a0] [] (am_si (am_si (am_si (am_si (am_si h a0 0 0) a0 1 0) a0 2 0) a0 3 0) a0 4 0) Q)))))
  obtain ⟨o1, t⟩ := t
  refine ⟨o1, o1, o1, o1, o1, ?_⟩
  exact am_vret dc_Shift_init_29 rfl t
set_option maxRecDepth 20000 in
theorem ev_Shift_init (a0 : Nat) (h : am_H) (Q : am_H → Prop) (t : (am_tg h a0 = (5, 5) ∧ Q (am_si (am_si (am_si (am_si (am_si h a0 0 0) a0 1 0) a0 2 0) a0 3 0) a0 4 0))) : am_Ew m_Shift_init 0 0 [.ref a0] h Q :=
  am_Ev.of (by decide +kernel) (Nat.le_of_ble_eq_true rfl) (by simp only [List.mem_cons, List.not_mem_nil, or_false]; intro v hv; rcases hv with rfl; all_goals first | exact trivial) (sg_Shift_init_0 (kc := 0) (ks := 0) a0 h (am_qw Q) t)
def bk_Shift_isSound_0_2 : List am_E := [(0, .aload_n 0, 1, 0, 0), (1, .getfield 13, 3, 2004, 0)]
theorem bk_Shift_isSound_0_2_ok : bk_Shift_isSound_0_2.all (am_ok 5 false m_Shift_isSound.2.1) = true := by decide +kernel
def bk_Shift_isSound_65_1 : List am_E := [(65, .iconst 0, 1, 0, 0)]
theorem bk_Shift_isSound_65_1_ok : bk_Shift_isSound_65_1.all (am_ok 5 false m_Shift_isSound.2.1) = true := by decide +kernel
def bk_Shift_isSound_10_2 : List am_E := [(10, .aload_n 0, 1, 0, 0), (11, .getfield 19, 3, 2012, 0)]
theorem bk_Shift_isSound_10_2_ok : bk_Shift_isSound_10_2.all (am_ok 5 false m_Shift_isSound.2.1) = true := by decide +kernel
def bk_Shift_isSound_20_4 : List am_E := [(20, .aload_n 0, 1, 0, 0), (21, .getfield 13, 3, 2004, 0), (24, .aload_n 0, 1, 0, 0), (25, .getfield 19, 3, 2012, 0)]
theorem bk_Shift_isSound_20_4_ok : bk_Shift_isSound_20_4.all (am_ok 5 false m_Shift_isSound.2.1) = true := by decide +kernel
def bk_Shift_isSound_31_2 : List am_E := [(31, .aload_n 0, 1, 0, 0), (32, .getfield 7, 3, 2000, 0)]
theorem bk_Shift_isSound_31_2_ok : bk_Shift_isSound_31_2.all (am_ok 5 false m_Shift_isSound.2.1) = true := by decide +kernel
def bk_Shift_isSound_41_2 : List am_E := [(41, .aload_n 0, 1, 0, 0), (42, .getfield 16, 3, 2008, 0)]
theorem bk_Shift_isSound_41_2_ok : bk_Shift_isSound_41_2.all (am_ok 5 false m_Shift_isSound.2.1) = true := by decide +kernel
def bk_Shift_isSound_51_2 : List am_E := [(51, .aload_n 0, 1, 0, 0), (52, .getfield 22, 3, 2016, 0)]
theorem bk_Shift_isSound_51_2_ok : bk_Shift_isSound_51_2.all (am_ok 5 false m_Shift_isSound.2.1) = true := by decide +kernel
def bk_Shift_isSound_61_2 : List am_E := [(61, .iconst 1, 1, 0, 1), (62, .goto 4, 3, 0, 4)]
theorem bk_Shift_isSound_61_2_ok : bk_Shift_isSound_61_2.all (am_ok 5 false m_Shift_isSound.2.1) = true := by decide +kernel
theorem dc_Shift_isSound_4 : decode m_Shift_isSound.2.1 4 = .ok (.invokestatic 34, 3) := by decide +kernel
theorem dc_Shift_isSound_66 : decode m_Shift_isSound.2.1 66 = .ok (.ireturn, 1) := by decide +kernel
theorem dc_Shift_isSound_14 : decode m_Shift_isSound.2.1 14 = .ok (.invokestatic 34, 3) := by decide +kernel
theorem dc_Shift_isSound_35 : decode m_Shift_isSound.2.1 35 = .ok (.invokestatic 40, 3) := by decide +kernel
theorem dc_Shift_isSound_45 : decode m_Shift_isSound.2.1 45 = .ok (.invokestatic 40, 3) := by decide +kernel
theorem dc_Shift_isSound_55 : decode m_Shift_isSound.2.1 55 = .ok (.invokestatic 40, 3) := by decide +kernel
theorem dc_Shift_isSound_58 : decode m_Shift_isSound.2.1 58 = .ok (.ifCond .eq 7, 3) := by decide +kernel
theorem dc_Shift_isSound_48 : decode m_Shift_isSound.2.1 48 = .ok (.ifCond .eq 17, 3) := by decide +kernel
theorem dc_Shift_isSound_38 : decode m_Shift_isSound.2.1 38 = .ok (.ifCond .eq 27, 3) := by decide +kernel
theorem dc_Shift_isSound_28 : decode m_Shift_isSound.2.1 28 = .ok (.if_icmp .eq 37, 3) := by decide +kernel
theorem dc_Shift_isSound_17 : decode m_Shift_isSound.2.1 17 = .ok (.ifCond .eq 48, 3) := by decide +kernel
theorem dc_Shift_isSound_7 : decode m_Shift_isSound.2.1 7 = .ok (.ifCond .eq 58, 3) := by decide +kernel
set_option maxRecDepth 20000 in
theorem sg_Shift_isSound_0 {kc ks : Nat} (a0 : Nat) (h : am_H) (Q : Option Value → am_H → Prop) (t : (am_tg h a0 = (5, 5) ∧ (am_Ei m_Port_isHeight 0 0 [.int (am_I h a0 1)] h (fun r3 h2 => ((r3 = 0 → Q (some (.int 0)) h2) ∧ (¬ r3 = 0 → (am_tg h2 a0 = (5, 5) ∧ (am_Ei m_Port_isHeight 0 0 [.int (am_I h2 a0 3)] h2 (fun r7 h6 => ((r7 = 0 → Q (some (.int 0)) h6) ∧ (¬ r7 = 0 → (am_tg h6 a0 = (5, 5) ∧ (((am_I h6 a0 1) = (am_I h6 a0 3) → Q (some (.int 0)) h6) ∧ (¬ (am_I h6 a0 1) = (am_I h6 a0 3) → (am_Ei m_Shift_isStep 0 0 [.int (am_I h6 a0 0)] h6 (fun r12 h11 => ((r12 = 0 → Q (some (.int 0)) h11) ∧ (¬ r12 = 0 → (am_tg h11 a0 = (5, 5) ∧ (am_Ei m_Shift_isStep 0 0 [.int (am_I h11 a0 2)] h11 (fun r16 h15 => ((r16 = 0 → Q (some (.int 0)) h15) ∧ (¬ r16 = 0 → (am_tg h15 a0 = (5, 5) ∧ (am_Ei m_Shift_isStep 0 0 [.int (am_I h15 a0 4)] h15 (fun r20 h19 => ((r20 = 0 → Q (some (.int 0)) h19) ∧ (¬ r20 = 0 → Q (some (.int 1)) h19)))))))))))))))))))))))))))) : am_EI m_Shift_isSound kc ks 0 [.ref a0] [] h Q := by
  refine am_blk_ok (c := 5) (ini := false) (by decide) rfl (fun q => by cases q) bk_Shift_isSound_0_2 _ 4 _ _ _ bk_Shift_isSound_0_2_ok rfl ?_
  show (am_tg h a0 = (5, 5) ∧ am_EI m_Shift_isSound kc ks 4 [.ref a0] [.int (am_I h a0 1)] h Q)
  obtain ⟨o1, t⟩ := t
  refine ⟨o1, ?_⟩
  refine am_callS (M2 := m_Port_isHeight) (kc := kc) (ks := ks) (k2c := 0) (k2s := 0) (as := []) [.int (am_I h a0 1)] dc_Shift_isSound_4 lk_5_34 st_Port_isHeight lm_Port_isHeight np_Port_isHeight ⟨Nat.le_of_ble_eq_true rfl, Nat.le_of_ble_eq_true rfl⟩ (fun _ => Nat.le_of_ble_eq_true rfl) (am_Ei.end (am_Ei.mono t (fun r3 h2 t => ?_)))
  refine am_if_eq (tgt := 65) dc_Shift_isSound_7 (by decide) (fun c4 => ?_) (fun c4 => ?_)
  · replace t := t.1 c4
    refine am_blk_ok (c := 5) (ini := false) (by decide) rfl (fun q => by cases q) bk_Shift_isSound_65_1 _ 66 _ _ _ bk_Shift_isSound_65_1_ok rfl ?_
    show am_EI m_Shift_isSound kc ks 66 [.ref a0] [.int 0] h2 Q
    exact am_zret dc_Shift_isSound_66 rfl (Or.inl rfl) t
  · replace t := t.2 c4
    refine am_blk_ok (c := 5) (ini := false) (by decide) rfl (fun q => by cases q) bk_Shift_isSound_10_2 _ 14 _ _ _ bk_Shift_isSound_10_2_ok rfl ?_
    show (am_tg h2 a0 = (5, 5) ∧ am_EI m_Shift_isSound kc ks 14 [.ref a0] [.int (am_I h2 a0 3)] h2 Q)
    obtain ⟨o5, t⟩ := t
    refine ⟨o5, ?_⟩
    refine am_callS (M2 := m_Port_isHeight) (kc := kc) (ks := ks) (k2c := 0) (k2s := 0) (as := []) [.int (am_I h2 a0 3)] dc_Shift_isSound_14 lk_5_34 st_Port_isHeight lm_Port_isHeight np_Port_isHeight ⟨Nat.le_of_ble_eq_true rfl, Nat.le_of_ble_eq_true rfl⟩ (fun _ => Nat.le_of_ble_eq_true rfl) (am_Ei.end (am_Ei.mono t (fun r7 h6 t => ?_)))
    refine am_if_eq (tgt := 65) dc_Shift_isSound_17 (by decide) (fun c8 => ?_) (fun c8 => ?_)
    · replace t := t.1 c8
      refine am_blk_ok (c := 5) (ini := false) (by decide) rfl (fun q => by cases q) bk_Shift_isSound_65_1 _ 66 _ _ _ bk_Shift_isSound_65_1_ok rfl ?_
      show am_EI m_Shift_isSound kc ks 66 [.ref a0] [.int 0] h6 Q
      exact am_zret dc_Shift_isSound_66 rfl (Or.inl rfl) t
    · replace t := t.2 c8
      refine am_blk_ok (c := 5) (ini := false) (by decide) rfl (fun q => by cases q) bk_Shift_isSound_20_4 _ 28 _ _ _ bk_Shift_isSound_20_4_ok rfl ?_
      show (am_tg h6 a0 = (5, 5) ∧ (am_tg h6 a0 = (5, 5) ∧ am_EI m_Shift_isSound kc ks 28 [.ref a0] [.int (am_I h6 a0 3), .int (am_I h6 a0 1)] h6 Q))
      obtain ⟨o9, t⟩ := t
      refine ⟨o9, o9, ?_⟩
      refine am_ic_eq (tgt := 65) dc_Shift_isSound_28 (by decide) (fun c10 => ?_) (fun c10 => ?_)
      · replace t := t.1 c10
        refine am_blk_ok (c := 5) (ini := false) (by decide) rfl (fun q => by cases q) bk_Shift_isSound_65_1 _ 66 _ _ _ bk_Shift_isSound_65_1_ok rfl ?_
        show am_EI m_Shift_isSound kc ks 66 [.ref a0] [.int 0] h6 Q
        exact am_zret dc_Shift_isSound_66 rfl (Or.inl rfl) t
      · replace t := t.2 c10
        refine am_blk_ok (c := 5) (ini := false) (by decide) rfl (fun q => by cases q) bk_Shift_isSound_31_2 _ 35 _ _ _ bk_Shift_isSound_31_2_ok rfl ?_
        show (am_tg h6 a0 = (5, 5) ∧ am_EI m_Shift_isSound kc ks 35 [.ref a0] [.int (am_I h6 a0 0)] h6 Q)
        refine ⟨o9, ?_⟩
        refine am_callS (M2 := m_Shift_isStep) (kc := kc) (ks := ks) (k2c := 0) (k2s := 0) (as := []) [.int (am_I h6 a0 0)] dc_Shift_isSound_35 lk_5_40 st_Shift_isStep lm_Shift_isStep np_Shift_isStep ⟨Nat.le_of_ble_eq_true rfl, Nat.le_of_ble_eq_true rfl⟩ (fun _ => Nat.le_of_ble_eq_true rfl) (am_Ei.end (am_Ei.mono t (fun r12 h11 t => ?_)))
        refine am_if_eq (tgt := 65) dc_Shift_isSound_38 (by decide) (fun c13 => ?_) (fun c13 => ?_)
        · replace t := t.1 c13
          refine am_blk_ok (c := 5) (ini := false) (by decide) rfl (fun q => by cases q) bk_Shift_isSound_65_1 _ 66 _ _ _ bk_Shift_isSound_65_1_ok rfl ?_
          show am_EI m_Shift_isSound kc ks 66 [.ref a0] [.int 0] h11 Q
          exact am_zret dc_Shift_isSound_66 rfl (Or.inl rfl) t
        · replace t := t.2 c13
          refine am_blk_ok (c := 5) (ini := false) (by decide) rfl (fun q => by cases q) bk_Shift_isSound_41_2 _ 45 _ _ _ bk_Shift_isSound_41_2_ok rfl ?_
          show (am_tg h11 a0 = (5, 5) ∧ am_EI m_Shift_isSound kc ks 45 [.ref a0] [.int (am_I h11 a0 2)] h11 Q)
          obtain ⟨o14, t⟩ := t
          refine ⟨o14, ?_⟩
          refine am_callS (M2 := m_Shift_isStep) (kc := kc) (ks := ks) (k2c := 0) (k2s := 0) (as := []) [.int (am_I h11 a0 2)] dc_Shift_isSound_45 lk_5_40 st_Shift_isStep lm_Shift_isStep np_Shift_isStep ⟨Nat.le_of_ble_eq_true rfl, Nat.le_of_ble_eq_true rfl⟩ (fun _ => Nat.le_of_ble_eq_true rfl) (am_Ei.end (am_Ei.mono t (fun r16 h15 t => ?_)))
          refine am_if_eq (tgt := 65) dc_Shift_isSound_48 (by decide) (fun c17 => ?_) (fun c17 => ?_)
          · replace t := t.1 c17
            refine am_blk_ok (c := 5) (ini := false) (by decide) rfl (fun q => by cases q) bk_Shift_isSound_65_1 _ 66 _ _ _ bk_Shift_isSound_65_1_ok rfl ?_
            show am_EI m_Shift_isSound kc ks 66 [.ref a0] [.int 0] h15 Q
            exact am_zret dc_Shift_isSound_66 rfl (Or.inl rfl) t
          · replace t := t.2 c17
            refine am_blk_ok (c := 5) (ini := false) (by decide) rfl (fun q => by cases q) bk_Shift_isSound_51_2 _ 55 _ _ _ bk_Shift_isSound_51_2_ok rfl ?_
            show (am_tg h15 a0 = (5, 5) ∧ am_EI m_Shift_isSound kc ks 55 [.ref a0] [.int (am_I h15 a0 4)] h15 Q)
            obtain ⟨o18, t⟩ := t
            refine ⟨o18, ?_⟩
            refine am_callS (M2 := m_Shift_isStep) (kc := kc) (ks := ks) (k2c := 0) (k2s := 0) (as := []) [.int (am_I h15 a0 4)] dc_Shift_isSound_55 lk_5_40 st_Shift_isStep lm_Shift_isStep np_Shift_isStep ⟨Nat.le_of_ble_eq_true rfl, Nat.le_of_ble_eq_true rfl⟩ (fun _ => Nat.le_of_ble_eq_true rfl) (am_Ei.end (am_Ei.mono t (fun r20 h19 t => ?_)))
            refine am_if_eq (tgt := 65) dc_Shift_isSound_58 (by decide) (fun c21 => ?_) (fun c21 => ?_)
            · replace t := t.1 c21
              refine am_blk_ok (c := 5) (ini := false) (by decide) rfl (fun q => by cases q) bk_Shift_isSound_65_1 _ 66 _ _ _ bk_Shift_isSound_65_1_ok rfl ?_
              show am_EI m_Shift_isSound kc ks 66 [.ref a0] [.int 0] h19 Q
              exact am_zret dc_Shift_isSound_66 rfl (Or.inl rfl) t
            · replace t := t.2 c21
              refine am_blk_ok (c := 5) (ini := false) (by decide) rfl (fun q => by cases q) bk_Shift_isSound_61_2 _ 66 _ _ _ bk_Shift_isSound_61_2_ok rfl ?_
              show am_EI m_Shift_isSound kc ks 66 [.ref a0] [.int 1] h19 Q
              exact am_zret dc_Shift_isSound_66 rfl (Or.inr rfl) t
set_option maxRecDepth 20000 in
theorem ev_Shift_isSound (a0 : Nat) (h : am_H) (Q : Int32 → am_H → Prop) (t : (am_tg h a0 = (5, 5) ∧ (am_Ei m_Port_isHeight 0 0 [.int (am_I h a0 1)] h (fun r3 h2 => ((r3 = 0 → Q 0 h2) ∧ (¬ r3 = 0 → (am_tg h2 a0 = (5, 5) ∧ (am_Ei m_Port_isHeight 0 0 [.int (am_I h2 a0 3)] h2 (fun r7 h6 => ((r7 = 0 → Q 0 h6) ∧ (¬ r7 = 0 → (am_tg h6 a0 = (5, 5) ∧ (((am_I h6 a0 1) = (am_I h6 a0 3) → Q 0 h6) ∧ (¬ (am_I h6 a0 1) = (am_I h6 a0 3) → (am_Ei m_Shift_isStep 0 0 [.int (am_I h6 a0 0)] h6 (fun r12 h11 => ((r12 = 0 → Q 0 h11) ∧ (¬ r12 = 0 → (am_tg h11 a0 = (5, 5) ∧ (am_Ei m_Shift_isStep 0 0 [.int (am_I h11 a0 2)] h11 (fun r16 h15 => ((r16 = 0 → Q 0 h15) ∧ (¬ r16 = 0 → (am_tg h15 a0 = (5, 5) ∧ (am_Ei m_Shift_isStep 0 0 [.int (am_I h15 a0 4)] h15 (fun r20 h19 => ((r20 = 0 → Q 0 h19) ∧ (¬ r20 = 0 → Q 1 h19)))))))))))))))))))))))))))) : am_Ei m_Shift_isSound 0 0 [.ref a0] h Q :=
  am_Ev.of (by decide +kernel) (Nat.le_of_ble_eq_true rfl) (by simp only [List.mem_cons, List.not_mem_nil, or_false]; intro v hv; rcases hv with rfl; all_goals first | exact trivial) (sg_Shift_isSound_0 (kc := 0) (ks := 0) a0 h (am_qi Q) t)
def bk_Shift_isStep_0_2 : List am_E := [(0, .iload_n 0, 1, 0, 0), (1, .sipush (-300), 3, 0, -300)]
theorem bk_Shift_isStep_0_2_ok : bk_Shift_isStep_0_2.all (am_ok 5 false m_Shift_isStep.2.1) = true := by decide +kernel
def bk_Shift_isStep_18_1 : List am_E := [(18, .iconst 0, 1, 0, 0)]
theorem bk_Shift_isStep_18_1_ok : bk_Shift_isStep_18_1.all (am_ok 5 false m_Shift_isStep.2.1) = true := by decide +kernel
def bk_Shift_isStep_7_2 : List am_E := [(7, .iload_n 0, 1, 0, 0), (8, .sipush 300, 3, 0, 300)]
theorem bk_Shift_isStep_7_2_ok : bk_Shift_isStep_7_2.all (am_ok 5 false m_Shift_isStep.2.1) = true := by decide +kernel
def bk_Shift_isStep_14_2 : List am_E := [(14, .iconst 1, 1, 0, 1), (15, .goto 4, 3, 0, 4)]
theorem bk_Shift_isStep_14_2_ok : bk_Shift_isStep_14_2.all (am_ok 5 false m_Shift_isStep.2.1) = true := by decide +kernel
theorem dc_Shift_isStep_19 : decode m_Shift_isStep.2.1 19 = .ok (.ireturn, 1) := by decide +kernel
theorem dc_Shift_isStep_11 : decode m_Shift_isStep.2.1 11 = .ok (.if_icmp .gt 7, 3) := by decide +kernel
theorem dc_Shift_isStep_4 : decode m_Shift_isStep.2.1 4 = .ok (.if_icmp .lt 14, 3) := by decide +kernel
set_option maxRecDepth 20000 in
theorem sg_Shift_isStep_0 {kc ks : Nat} (x0 : Int32) (h : am_H) (Q : Option Value → am_H → Prop) (t : ((x0 < (-300) → Q (some (.int 0)) h) ∧ (¬ x0 < (-300) → ((300 < x0 → Q (some (.int 0)) h) ∧ (¬ 300 < x0 → Q (some (.int 1)) h))))) : am_EI m_Shift_isStep kc ks 0 [.int x0] [] h Q := by
  refine am_blk_ok (c := 5) (ini := false) (by decide) rfl (fun q => by cases q) bk_Shift_isStep_0_2 _ 4 _ _ _ bk_Shift_isStep_0_2_ok rfl ?_
  show am_EI m_Shift_isStep kc ks 4 [.int x0] [.int (-300), .int x0] h Q
  refine am_ic_lt (tgt := 18) dc_Shift_isStep_4 (by decide) (fun c1 => ?_) (fun c1 => ?_)
  · replace t := t.1 c1
    refine am_blk_ok (c := 5) (ini := false) (by decide) rfl (fun q => by cases q) bk_Shift_isStep_18_1 _ 19 _ _ _ bk_Shift_isStep_18_1_ok rfl ?_
    show am_EI m_Shift_isStep kc ks 19 [.int x0] [.int 0] h Q
    exact am_zret dc_Shift_isStep_19 rfl (Or.inl rfl) t
  · replace t := t.2 c1
    refine am_blk_ok (c := 5) (ini := false) (by decide) rfl (fun q => by cases q) bk_Shift_isStep_7_2 _ 11 _ _ _ bk_Shift_isStep_7_2_ok rfl ?_
    show am_EI m_Shift_isStep kc ks 11 [.int x0] [.int 300, .int x0] h Q
    refine am_ic_gt (tgt := 18) dc_Shift_isStep_11 (by decide) (fun c2 => ?_) (fun c2 => ?_)
    · replace t := t.1 c2
      refine am_blk_ok (c := 5) (ini := false) (by decide) rfl (fun q => by cases q) bk_Shift_isStep_18_1 _ 19 _ _ _ bk_Shift_isStep_18_1_ok rfl ?_
      show am_EI m_Shift_isStep kc ks 19 [.int x0] [.int 0] h Q
      exact am_zret dc_Shift_isStep_19 rfl (Or.inl rfl) t
    · replace t := t.2 c2
      refine am_blk_ok (c := 5) (ini := false) (by decide) rfl (fun q => by cases q) bk_Shift_isStep_14_2 _ 19 _ _ _ bk_Shift_isStep_14_2_ok rfl ?_
      show am_EI m_Shift_isStep kc ks 19 [.int x0] [.int 1] h Q
      exact am_zret dc_Shift_isStep_19 rfl (Or.inr rfl) t
set_option maxRecDepth 20000 in
theorem ev_Shift_isStep (x0 : Int32) (h : am_H) (Q : Int32 → am_H → Prop) (t : ((x0 < (-300) → Q 0 h) ∧ (¬ x0 < (-300) → ((300 < x0 → Q 0 h) ∧ (¬ 300 < x0 → Q 1 h))))) : am_Ei m_Shift_isStep 0 0 [.int x0] h Q :=
  am_Ev.of (by decide +kernel) (Nat.le_of_ble_eq_true rfl) (by simp only [List.mem_cons, List.not_mem_nil, or_false]; intro v hv; rcases hv with rfl; all_goals first | exact trivial) (sg_Shift_isStep_0 (kc := 0) (ks := 0) x0 h (am_qi Q) t)
def bk_Shift_minuteFor_0_4 : List am_E := [(0, .iload_n 1, 1, 0, 0), (1, .aload_n 0, 1, 0, 0), (2, .getfield 7, 3, 2000, 0), (5, .iadd, 1, 0, 0)]
theorem bk_Shift_minuteFor_0_4_ok : bk_Shift_minuteFor_0_4.all (am_ok 5 false m_Shift_minuteFor.2.1) = true := by decide +kernel
theorem dc_Shift_minuteFor_6 : decode m_Shift_minuteFor.2.1 6 = .ok (.ireturn, 1) := by decide +kernel
set_option maxRecDepth 20000 in
theorem sg_Shift_minuteFor_0 {kc ks : Nat} (a0 : Nat) (x1 : Int32) (h : am_H) (Q : Option Value → am_H → Prop) (t : (am_tg h a0 = (5, 5) ∧ Q (some (.int (x1 + (am_I h a0 0)))) h)) : am_EI m_Shift_minuteFor kc ks 0 [.ref a0, .int x1] [] h Q := by
  refine am_blk_ok (c := 5) (ini := false) (by decide) rfl (fun q => by cases q) bk_Shift_minuteFor_0_4 _ 6 _ _ _ bk_Shift_minuteFor_0_4_ok rfl ?_
  show (am_tg h a0 = (5, 5) ∧ am_EI m_Shift_minuteFor kc ks 6 [.ref a0, .int x1] [.int (x1 + (am_I h a0 0))] h Q)
  obtain ⟨o1, t⟩ := t
  refine ⟨o1, ?_⟩
  exact am_iret dc_Shift_minuteFor_6 rfl t
set_option maxRecDepth 20000 in
theorem ev_Shift_minuteFor (a0 : Nat) (x1 : Int32) (h : am_H) (Q : Int32 → am_H → Prop) (t : (am_tg h a0 = (5, 5) ∧ Q (x1 + (am_I h a0 0)) h)) : am_Ei m_Shift_minuteFor 0 0 [.ref a0, .int x1] h Q :=
  am_Ev.of (by decide +kernel) (Nat.le_of_ble_eq_true rfl) (by simp only [List.mem_cons, List.not_mem_nil, or_false]; intro v hv; rcases hv with rfl | rfl; all_goals first | exact trivial) (sg_Shift_minuteFor_0 (kc := 0) (ks := 0) a0 x1 h (am_qi Q) t)
def bk_Shift_readFrom_0_2 : List am_E := [(0, .aload_n 0, 1, 0, 0), (1, .aload_n 1, 1, 0, 0)]
theorem bk_Shift_readFrom_0_2_ok : bk_Shift_readFrom_0_2.all (am_ok 5 false m_Shift_readFrom.2.1) = true := by decide +kernel
def bk_Shift_readFrom_5_3 : List am_E := [(5, .putfield 7, 3, 2000, 0), (8, .aload_n 0, 1, 0, 0), (9, .aload_n 1, 1, 0, 0)]
theorem bk_Shift_readFrom_5_3_ok : bk_Shift_readFrom_5_3.all (am_ok 5 false m_Shift_readFrom.2.1) = true := by decide +kernel
def bk_Shift_readFrom_13_3 : List am_E := [(13, .putfield 13, 3, 2004, 0), (16, .aload_n 0, 1, 0, 0), (17, .aload_n 1, 1, 0, 0)]
theorem bk_Shift_readFrom_13_3_ok : bk_Shift_readFrom_13_3.all (am_ok 5 false m_Shift_readFrom.2.1) = true := by decide +kernel
def bk_Shift_readFrom_21_3 : List am_E := [(21, .putfield 16, 3, 2008, 0), (24, .aload_n 0, 1, 0, 0), (25, .aload_n 1, 1, 0, 0)]
theorem bk_Shift_readFrom_21_3_ok : bk_Shift_readFrom_21_3.all (am_ok 5 false m_Shift_readFrom.2.1) = true := by decide +kernel
def bk_Shift_readFrom_29_3 : List am_E := [(29, .putfield 19, 3, 2012, 0), (32, .aload_n 0, 1, 0, 0), (33, .aload_n 1, 1, 0, 0)]
theorem bk_Shift_readFrom_29_3_ok : bk_Shift_readFrom_29_3.all (am_ok 5 false m_Shift_readFrom.2.1) = true := by decide +kernel
def bk_Shift_readFrom_37_1 : List am_E := [(37, .putfield 22, 3, 2016, 0)]
theorem bk_Shift_readFrom_37_1_ok : bk_Shift_readFrom_37_1.all (am_ok 5 false m_Shift_readFrom.2.1) = true := by decide +kernel
theorem dc_Shift_readFrom_2 : decode m_Shift_readFrom.2.1 2 = .ok (.invokevirtual 25, 3) := by decide +kernel
theorem dc_Shift_readFrom_10 : decode m_Shift_readFrom.2.1 10 = .ok (.invokevirtual 31, 3) := by decide +kernel
theorem dc_Shift_readFrom_18 : decode m_Shift_readFrom.2.1 18 = .ok (.invokevirtual 25, 3) := by decide +kernel
theorem dc_Shift_readFrom_26 : decode m_Shift_readFrom.2.1 26 = .ok (.invokevirtual 31, 3) := by decide +kernel
theorem dc_Shift_readFrom_34 : decode m_Shift_readFrom.2.1 34 = .ok (.invokevirtual 25, 3) := by decide +kernel
theorem dc_Shift_readFrom_40 : decode m_Shift_readFrom.2.1 40 = .ok (.return_, 1) := by decide +kernel
set_option maxRecDepth 20000 in
theorem sg_Shift_readFrom_0 {kc ks : Nat} (a0 a1 : Nat) (h : am_H) (Q : Option Value → am_H → Prop) (t : (am_tg h a1 = (9, 4) ∧ (am_Ei m_Tape_wantStep 0 0 [.ref a1] h (fun r3 h2 => (am_tg h2 a0 = (5, 5) ∧ (am_tg h2 a1 = (9, 4) ∧ (am_Ei m_Tape_wantSize 0 0 [.ref a1] (am_si h2 a0 0 r3) (fun r7 h6 => (am_tg h6 a0 = (5, 5) ∧ (am_tg h6 a1 = (9, 4) ∧ (am_Ei m_Tape_wantStep 0 0 [.ref a1] (am_si h6 a0 1 r7) (fun r11 h10 => (am_tg h10 a0 = (5, 5) ∧ (am_tg h10 a1 = (9, 4) ∧ (am_Ei m_Tape_wantSize 0 0 [.ref a1] (am_si h10 a0 2 r11) (fun r15 h14 => (am_tg h14 a0 = (5, 5) ∧ (am_tg h14 a1 = (9, 4) ∧ (am_Ei m_Tape_wantStep 0 0 [.ref a1] (am_si h14 a0 3 r15) (fun r19 h18 => (am_tg h18 a0 = (5, 5) ∧ Q none (am_si h18 a0 4 r19)))))))))))))))))))))) : am_EI m_Shift_readFrom kc ks 0 [.ref a0, .ref a1] [] h Q := by
  refine am_blk_ok (c := 5) (ini := false) (by decide) rfl (fun q => by cases q) bk_Shift_readFrom_0_2 _ 2 _ _ _ bk_Shift_readFrom_0_2_ok rfl ?_
  show am_EI m_Shift_readFrom kc ks 2 [.ref a0, .ref a1] [.ref a1, .ref a0] h Q
  obtain ⟨o1, t⟩ := t
  refine am_callV (M2 := m_Tape_wantStep) (ci := 9) (a := a1) (kc := kc) (ks := ks) (k2c := 0) (k2s := 0) (as := [.ref a0]) [] dc_Shift_readFrom_2 lk_5_25 im_Tape_wantStep se_Tape_wantStep lm_Tape_wantStep np_Tape_wantStep ⟨Nat.le_of_ble_eq_true rfl, Nat.le_of_ble_eq_true rfl⟩ (fun _ => Nat.le_of_ble_eq_true rfl) (by decide) rfl o1 (am_Ei.end (am_Ei.mono t (fun r3 h2 t => ?_)))
  refine am_blk_ok (c := 5) (ini := false) (by decide) rfl (fun q => by cases q) bk_Shift_readFrom_5_3 _ 10 _ _ _ bk_Shift_readFrom_5_3_ok rfl ?_
  show (am_tg h2 a0 = (5, 5) ∧ am_EI m_Shift_readFrom kc ks 10 [.ref a0, .ref a1] [.ref a1, .ref a0] (am_si h2 a0 0 r3) Q)
  obtain ⟨o4, t⟩ := t
  refine ⟨o4, ?_⟩
  obtain ⟨o5, t⟩ := t
  refine am_callV (M2 := m_Tape_wantSize) (ci := 9) (a := a1) (kc := kc) (ks := ks) (k2c := 0) (k2s := 0) (as := [.ref a0]) [] dc_Shift_readFrom_10 lk_5_31 im_Tape_wantSize se_Tape_wantSize lm_Tape_wantSize np_Tape_wantSize ⟨Nat.le_of_ble_eq_true rfl, Nat.le_of_ble_eq_true rfl⟩ (fun _ => Nat.le_of_ble_eq_true rfl) (by decide) rfl o5 (am_Ei.end (am_Ei.mono t (fun r7 h6 t => ?_)))
  refine am_blk_ok (c := 5) (ini := false) (by decide) rfl (fun q => by cases q) bk_Shift_readFrom_13_3 _ 18 _ _ _ bk_Shift_readFrom_13_3_ok rfl ?_
  show (am_tg h6 a0 = (5, 5) ∧ am_EI m_Shift_readFrom kc ks 18 [.ref a0, .ref a1] [.ref a1, .ref a0] (am_si h6 a0 1 r7) Q)
  obtain ⟨o8, t⟩ := t
  refine ⟨o8, ?_⟩
  obtain ⟨o9, t⟩ := t
  refine am_callV (M2 := m_Tape_wantStep) (ci := 9) (a := a1) (kc := kc) (ks := ks) (k2c := 0) (k2s := 0) (as := [.ref a0]) [] dc_Shift_readFrom_18 lk_5_25 im_Tape_wantStep se_Tape_wantStep lm_Tape_wantStep np_Tape_wantStep ⟨Nat.le_of_ble_eq_true rfl, Nat.le_of_ble_eq_true rfl⟩ (fun _ => Nat.le_of_ble_eq_true rfl) (by decide) rfl o9 (am_Ei.end (am_Ei.mono t (fun r11 h10 t => ?_)))
  refine am_blk_ok (c := 5) (ini := false) (by decide) rfl (fun q => by cases q) bk_Shift_readFrom_21_3 _ 26 _ _ _ bk_Shift_readFrom_21_3_ok rfl ?_
  show (am_tg h10 a0 = (5, 5) ∧ am_EI m_Shift_readFrom kc ks 26 [.ref a0, .ref a1] [.ref a1, .ref a0] (am_si h10 a0 2 r11) Q)
  obtain ⟨o12, t⟩ := t
  refine ⟨o12, ?_⟩
  obtain ⟨o13, t⟩ := t
  refine am_callV (M2 := m_Tape_wantSize) (ci := 9) (a := a1) (kc := kc) (ks := ks) (k2c := 0) (k2s := 0) (as := [.ref a0]) [] dc_Shift_readFrom_26 lk_5_31 im_Tape_wantSize se_Tape_wantSize lm_Tape_wantSize np_Tape_wantSize ⟨Nat.le_of_ble_eq_true rfl, Nat.le_of_ble_eq_true rfl⟩ (fun _ => Nat.le_of_ble_eq_true rfl) (by decide) rfl o13 (am_Ei.end (am_Ei.mono t (fun r15 h14 t => ?_)))
  refine am_blk_ok (c := 5) (ini := false) (by decide) rfl (fun q => by cases q) bk_Shift_readFrom_29_3 _ 34 _ _ _ bk_Shift_readFrom_29_3_ok rfl ?_
  show (am_tg h14 a0 = (5, 5) ∧ am_EI m_Shift_readFrom kc ks 34 [.ref a0, .ref a1] [.ref a1, .ref a0] (am_si h14 a0 3 r15) Q)
  obtain ⟨o16, t⟩ := t
  refine ⟨o16, ?_⟩
  obtain ⟨o17, t⟩ := t
  refine am_callV (M2 := m_Tape_wantStep) (ci := 9) (a := a1) (kc := kc) (ks := ks) (k2c := 0) (k2s := 0) (as := [.ref a0]) [] dc_Shift_readFrom_34 lk_5_25 im_Tape_wantStep se_Tape_wantStep lm_Tape_wantStep np_Tape_wantStep ⟨Nat.le_of_ble_eq_true rfl, Nat.le_of_ble_eq_true rfl⟩ (fun _ => Nat.le_of_ble_eq_true rfl) (by decide) rfl o17 (am_Ei.end (am_Ei.mono t (fun r19 h18 t => ?_)))
  refine am_blk_ok (c := 5) (ini := false) (by decide) rfl (fun q => by cases q) bk_Shift_readFrom_37_1 _ 40 _ _ _ bk_Shift_readFrom_37_1_ok rfl ?_
  show (am_tg h18 a0 = (5, 5) ∧ am_EI m_Shift_readFrom kc ks 40 [.ref a0, .ref a1] [] (am_si h18 a0 4 r19) Q)
  obtain ⟨o20, t⟩ := t
  refine ⟨o20, ?_⟩
  exact am_vret dc_Shift_readFrom_40 rfl t
set_option maxRecDepth 20000 in
theorem ev_Shift_readFrom (a0 a1 : Nat) (h : am_H) (Q : am_H → Prop) (t : (am_tg h a1 = (9, 4) ∧ (am_Ei m_Tape_wantStep 0 0 [.ref a1] h (fun r3 h2 => (am_tg h2 a0 = (5, 5) ∧ (am_tg h2 a1 = (9, 4) ∧ (am_Ei m_Tape_wantSize 0 0 [.ref a1] (am_si h2 a0 0 r3) (fun r7 h6 => (am_tg h6 a0 = (5, 5) ∧ (am_tg h6 a1 = (9, 4) ∧ (am_Ei m_Tape_wantStep 0 0 [.ref a1] (am_si h6 a0 1 r7) (fun r11 h10 => (am_tg h10 a0 = (5, 5) ∧ (am_tg h10 a1 = (9, 4) ∧ (am_Ei m_Tape_wantSize 0 0 [.ref a1] (am_si h10 a0 2 r11) (fun r15 h14 => (am_tg h14 a0 = (5, 5) ∧ (am_tg h14 a1 = (9, 4) ∧ (am_Ei m_Tape_wantStep 0 0 [.ref a1] (am_si h14 a0 3 r15) (fun r19 h18 => (am_tg h18 a0 = (5, 5) ∧ Q (am_si h18 a0 4 r19)))))))))))))))))))))) : am_Ew m_Shift_readFrom 0 0 [.ref a0, .ref a1] h Q :=
  am_Ev.of (by decide +kernel) (Nat.le_of_ble_eq_true rfl) (by simp only [List.mem_cons, List.not_mem_nil, or_false]; intro v hv; rcases hv with rfl | rfl; all_goals first | exact trivial) (sg_Shift_readFrom_0 (kc := 0) (ks := 0) a0 a1 h (am_qw Q) t)
