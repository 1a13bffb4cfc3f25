def bk_Tape_append_0_2 : List am_E := [(0, .bipush 24, 2, 0, 24), (2, .istore_n 2, 1, 0, 0)]
theorem bk_Tape_append_0_2_ok : bk_Tape_append_0_2.all (am_ok 9 false m_Tape_append.2.1) = true := by decide +kernel
def bk_Tape_append_3_1 : List am_E := [(3, .iload_n 2, 1, 0, 0)]
theorem bk_Tape_append_3_1_ok : bk_Tape_append_3_1.all (am_ok 9 false m_Tape_append.2.1) = true := by decide +kernel
def bk_Tape_append_7_2 : List am_E := [(7, .aload_n 0, 1, 0, 0), (8, .getfield 13, 3, 3604, 0)]
theorem bk_Tape_append_7_2_ok : bk_Tape_append_7_2.all (am_ok 9 false m_Tape_append.2.1) = true := by decide +kernel
def bk_Tape_append_46_2 : List am_E := [(46, .iinc 2 (-8), 3, 0, -8), (49, .goto (-46), 3, 0, -46)]
theorem bk_Tape_append_46_2_ok : bk_Tape_append_46_2.all (am_ok 9 false m_Tape_append.2.1) = true := by decide +kernel
def bk_Tape_append_14_3 : List am_E := [(14, .aload_n 0, 1, 0, 0), (15, .getfield 13, 3, 3604, 0), (18, .bipush 120, 2, 0, 120)]
theorem bk_Tape_append_14_3_ok : bk_Tape_append_14_3.all (am_ok 9 false m_Tape_append.2.1) = true := by decide +kernel
def bk_Tape_append_23_17 : List am_E := [(23, .aload_n 0, 1, 0, 0), (24, .getfield 9, 3, 3601, 0), (27, .aload_n 0, 1, 0, 0), (28, .getfield 13, 3, 3604, 0), (31, .iload_n 1, 1, 0, 0), (32, .iload_n 2, 1, 0, 0), (33, .iushr, 1, 0, 0), (34, .i2b, 1, 0, 0), (35, .bastore, 1, 22, 0), (36, .aload_n 0, 1, 0, 0), (37, .dup, 1, 0, 0), (38, .getfield 13, 3, 3604, 0), (41, .iconst 1, 1, 0, 1), (42, .iadd, 1, 0, 0), (43, .putfield 13, 3, 3604, 0), (46, .iinc 2 (-8), 3, 0, -8), (49, .goto (-46), 3, 0, -46)]
theorem bk_Tape_append_23_17_ok : bk_Tape_append_23_17.all (am_ok 9 false m_Tape_append.2.1) = true := by decide +kernel
theorem dc_Tape_append_52 : decode m_Tape_append.2.1 52 = .ok (.return_, 1) := by decide +kernel
theorem dc_Tape_append_20 : decode m_Tape_append.2.1 20 = .ok (.if_icmp .ge 26, 3) := by decide +kernel
theorem dc_Tape_append_11 : decode m_Tape_append.2.1 11 = .ok (.ifCond .lt 35, 3) := by decide +kernel
theorem dc_Tape_append_4 : decode m_Tape_append.2.1 4 = .ok (.ifCond .lt 48, 3) := by decide +kernel
set_option maxRecDepth 20000 in
theorem sg_Tape_append_0 {kc ks : Nat} (a0 : Nat) (x1 : Int32) (h : am_H) (Q : Option Value → am_H → Prop) (t : am_EI m_Tape_append kc ks 3 [.ref a0, .int x1, .int 24] [] h Q) : am_EI m_Tape_append kc ks 0 [.ref a0, .int x1, .float 0] [] h Q := by
  refine am_blk_ok (c := 9) (ini := false) (by decide) rfl (fun q => by cases q) bk_Tape_append_0_2 _ 3 _ _ _ bk_Tape_append_0_2_ok rfl ?_
  show am_EI m_Tape_append kc ks 3 [.ref a0, .int x1, .int 24] [] h Q
  exact t
set_option maxRecDepth 20000 in
theorem ev_Tape_append (a0 : Nat) (x1 : Int32) (h : am_H) (Q : am_H → Prop) (t : am_EI m_Tape_append 0 0 3 [.ref a0, .int x1, .int 24] [] h (am_qw Q)) : am_Ew m_Tape_append 0 0 [.ref a0, .int x1] h Q :=
  am_Ev.of (by decide +kernel) (Nat.le_of_ble_eq_true rfl) (by simp only [List.mem_cons, List.not_mem_nil, or_false]; intro v hv; rcases hv with rfl | rfl; all_goals first | exact trivial) (sg_Tape_append_0 (kc := 0) (ks := 0) a0 x1 h (am_qw Q) t)
set_option maxRecDepth 20000 in
theorem sg_Tape_append_3 {kc ks : Nat} (a0 : Nat) (x1 x2 : Int32) (h : am_H) (Q : Option Value → am_H → Prop) (t : ((x2 < 0 → Q none h) ∧ (¬ x2 < 0 → (am_tg h a0 = (9, 4) ∧ (((am_I h a0 1) < 0 → am_EI m_Tape_append kc ks 3 [.ref a0, .int x1, .int (x2 + (-8))] [] h Q) ∧ (¬ (am_I h a0 1) < 0 → ((120 ≤ (am_I h a0 1) → am_EI m_Tape_append kc ks 3 [.ref a0, .int x1, .int (x2 + (-8))] [] h Q) ∧ (¬ 120 ≤ (am_I h a0 1) → (∃ b5, am_P h a0 0 = some b5 ∧ ((am_tg h b5).1 = 22 ∧ (vp_in (am_I h a0 1) (am_tg h b5).2 ∧ (narrow .byte (.int (((x1.toUInt32 >>> (x2.toUInt32 &&& Int32.toUInt32 31)).toInt32).toInt8.toInt32)) = .int (((x1.toUInt32 >>> (x2.toUInt32 &&& Int32.toUInt32 31)).toInt32).toInt8.toInt32) ∧ am_EI m_Tape_append kc ks 3 [.ref a0, .int x1, .int (x2 + (-8))] [] (am_si (am_si h b5 ((am_I h a0 1).toNatClampNeg) (((x1.toUInt32 >>> (x2.toUInt32 &&& Int32.toUInt32 31)).toInt32).toInt8.toInt32)) a0 1 ((am_I (am_si h b5 ((am_I h a0 1).toNatClampNeg) (((x1.toUInt32 >>> (x2.toUInt32 &&& Int32.toUInt32 31)).toInt32).toInt8.toInt32)) a0 1) + 1)) Q)))))))))))) : am_EI m_Tape_append kc ks 3 [.ref a0, .int x1, .int x2] [] h Q := by
  refine am_blk_ok (c := 9) (ini := false) (by decide) rfl (fun q => by cases q) bk_Tape_append_3_1 _ 4 _ _ _ bk_Tape_append_3_1_ok rfl ?_
  show am_EI m_Tape_append kc ks 4 [.ref a0, .int x1, .int x2] [.int x2] h Q
  refine am_if_lt (tgt := 52) dc_Tape_append_4 (by decide) (fun c1 => ?_) (fun c1 => ?_)
  · replace t := t.1 c1
    exact am_vret dc_Tape_append_52 rfl t
  · replace t := t.2 c1
    refine am_blk_ok (c := 9) (ini := false) (by decide) rfl (fun q => by cases q) bk_Tape_append_7_2 _ 11 _ _ _ bk_Tape_append_7_2_ok rfl ?_
    show (am_tg h a0 = (9, 4) ∧ am_EI m_Tape_append kc ks 11 [.ref a0, .int x1, .int x2] [.int (am_I h a0 1)] h Q)
    obtain ⟨o2, t⟩ := t
    refine ⟨o2, ?_⟩
    refine am_if_lt (tgt := 46) dc_Tape_append_11 (by decide) (fun c3 => ?_) (fun c3 => ?_)
    · replace t := t.1 c3
      refine am_blk_ok (c := 9) (ini := false) (by decide) rfl (fun q => by cases q) bk_Tape_append_46_2 _ 3 _ _ _ bk_Tape_append_46_2_ok rfl ?_
      show am_EI m_Tape_append kc ks 3 [.ref a0, .int x1, .int (x2 + (-8))] [] h Q
      exact t
    · replace t := t.2 c3
      refine am_blk_ok (c := 9) (ini := false) (by decide) rfl (fun q => by cases q) bk_Tape_append_14_3 _ 20 _ _ _ bk_Tape_append_14_3_ok rfl ?_
      show (am_tg h a0 = (9, 4) ∧ am_EI m_Tape_append kc ks 20 [.ref a0, .int x1, .int x2] [.int 120, .int (am_I h a0 1)] h Q)
      refine ⟨o2, ?_⟩
      refine am_ic_ge (tgt := 46) dc_Tape_append_20 (by decide) (fun c4 => ?_) (fun c4 => ?_)
      · replace t := t.1 c4
        refine am_blk_ok (c := 9) (ini := false) (by decide) rfl (fun q => by cases q) bk_Tape_append_46_2 _ 3 _ _ _ bk_Tape_append_46_2_ok rfl ?_
        show am_EI m_Tape_append kc ks 3 [.ref a0, .int x1, .int (x2 + (-8))] [] h Q
        exact t
      · replace t := t.2 c4
        refine am_blk_ok (c := 9) (ini := false) (by decide) rfl (fun q => by cases q) bk_Tape_append_23_17 _ 3 _ _ _ bk_Tape_append_23_17_ok rfl ?_
        show (am_tg h a0 = (9, 4) ∧ (∃ b5, am_P h a0 0 = some b5 ∧ (am_tg h a0 = (9, 4) ∧ ((am_tg h b5).1 = 22 ∧ (vp_in (am_I h a0 1) (am_tg h b5).2 ∧ (narrow .byte (.int (((x1.toUInt32 >>> (x2.toUInt32 &&& Int32.toUInt32 31)).toInt32).toInt8.toInt32)) = .int (((x1.toUInt32 >>> (x2.toUInt32 &&& Int32.toUInt32 31)).toInt32).toInt8.toInt32) ∧ (am_tg h a0 = (9, 4) ∧ (am_tg h a0 = (9, 4) ∧ am_EI m_Tape_append kc ks 3 [.ref a0, .int x1, .int (x2 + (-8))] [] (am_si (am_si h b5 ((am_I h a0 1).toNatClampNeg) (((x1.toUInt32 >>> (x2.toUInt32 &&& Int32.toUInt32 31)).toInt32).toInt8.toInt32)) a0 1 ((am_I (am_si h b5 ((am_I h a0 1).toNatClampNeg) (((x1.toUInt32 >>> (x2.toUInt32 &&& Int32.toUInt32 31)).toInt32).toInt8.toInt32)) a0 1) + 1)) Q))))))))
        obtain ⟨b5, q6, o7, o8, o9, t⟩ := t
        refine ⟨o2, b5, q6, o2, o7, o8, o9, o2, o2, ?_⟩
        exact t
def bk_Tape_byteAt_0_1 : List am_E := [(0, .iload_n 1, 1, 0, 0)]
theorem bk_Tape_byteAt_0_1_ok : bk_Tape_byteAt_0_1.all (am_ok 9 false m_Tape_byteAt.2.1) = true := by decide +kernel
def bk_Tape_byteAt_27_1 : List am_E := [(27, .iconst (-1), 1, 0, -1)]
theorem bk_Tape_byteAt_27_1_ok : bk_Tape_byteAt_27_1.all (am_ok 9 false m_Tape_byteAt.2.1) = true := by decide +kernel
def bk_Tape_byteAt_4_3 : List am_E := [(4, .iload_n 1, 1, 0, 0), (5, .aload_n 0, 1, 0, 0), (6, .getfield 13, 3, 3604, 0)]
theorem bk_Tape_byteAt_4_3_ok : bk_Tape_byteAt_4_3.all (am_ok 9 false m_Tape_byteAt.2.1) = true := by decide +kernel
def bk_Tape_byteAt_12_2 : List am_E := [(12, .iload_n 1, 1, 0, 0), (13, .bipush 120, 2, 0, 120)]
theorem bk_Tape_byteAt_12_2_ok : bk_Tape_byteAt_12_2.all (am_ok 9 false m_Tape_byteAt.2.1) = true := by decide +kernel
def bk_Tape_byteAt_18_5 : List am_E := [(18, .aload_n 0, 1, 0, 0), (19, .getfield 9, 3, 3601, 0), (22, .iload_n 1, 1, 0, 0), (23, .baload, 1, 22, 0), (24, .goto 4, 3, 0, 4)]
theorem bk_Tape_byteAt_18_5_ok : bk_Tape_byteAt_18_5.all (am_ok 9 false m_Tape_byteAt.2.1) = true := by decide +kernel
theorem dc_Tape_byteAt_28 : decode m_Tape_byteAt.2.1 28 = .ok (.ireturn, 1) := by decide +kernel
theorem dc_Tape_byteAt_15 : decode m_Tape_byteAt.2.1 15 = .ok (.if_icmp .ge 12, 3) := by decide +kernel
theorem dc_Tape_byteAt_9 : decode m_Tape_byteAt.2.1 9 = .ok (.if_icmp .ge 18, 3) := by decide +kernel
theorem dc_Tape_byteAt_1 : decode m_Tape_byteAt.2.1 1 = .ok (.ifCond .lt 26, 3) := by decide +kernel
set_option maxRecDepth 20000 in
theorem sg_Tape_byteAt_0 {kc ks : Nat} (a0 : Nat) (x1 : Int32) (h : am_H) (Q : Option Value → am_H → Prop) (t : ((x1 < 0 → Q (some (.int (-1))) h) ∧ (¬ x1 < 0 → (am_tg h a0 = (9, 4) ∧ (((am_I h a0 1) ≤ x1 → Q (some (.int (-1))) h) ∧ (¬ (am_I h a0 1) ≤ x1 → ((120 ≤ x1 → Q (some (.int (-1))) h) ∧ (¬ 120 ≤ x1 → (∃ b5, am_P h a0 0 = some b5 ∧ ((am_tg h b5).1 = 22 ∧ (vp_in x1 (am_tg h b5).2 ∧ Q (some (.int (am_I h b5 x1.toNatClampNeg))) h))))))))))) : am_EI m_Tape_byteAt kc ks 0 [.ref a0, .int x1] [] h Q := by
  refine am_blk_ok (c := 9) (ini := false) (by decide) rfl (fun q => by cases q) bk_Tape_byteAt_0_1 _ 1 _ _ _ bk_Tape_byteAt_0_1_ok rfl ?_
  show am_EI m_Tape_byteAt kc ks 1 [.ref a0, .int x1] [.int x1] h Q
  refine am_if_lt (tgt := 27) dc_Tape_byteAt_1 (by decide) (fun c1 => ?_) (fun c1 => ?_)
  · replace t := t.1 c1
    refine am_blk_ok (c := 9) (ini := false) (by decide) rfl (fun q => by cases q) bk_Tape_byteAt_27_1 _ 28 _ _ _ bk_Tape_byteAt_27_1_ok rfl ?_
    show am_EI m_Tape_byteAt kc ks 28 [.ref a0, .int x1] [.int (-1)] h Q
    exact am_iret dc_Tape_byteAt_28 rfl t
  · replace t := t.2 c1
    refine am_blk_ok (c := 9) (ini := false) (by decide) rfl (fun q => by cases q) bk_Tape_byteAt_4_3 _ 9 _ _ _ bk_Tape_byteAt_4_3_ok rfl ?_
    show (am_tg h a0 = (9, 4) ∧ am_EI m_Tape_byteAt kc ks 9 [.ref a0, .int x1] [.int (am_I h a0 1), .int x1] h Q)
    obtain ⟨o2, t⟩ := t
    refine ⟨o2, ?_⟩
    refine am_ic_ge (tgt := 27) dc_Tape_byteAt_9 (by decide) (fun c3 => ?_) (fun c3 => ?_)
    · replace t := t.1 c3
      refine am_blk_ok (c := 9) (ini := false) (by decide) rfl (fun q => by cases q) bk_Tape_byteAt_27_1 _ 28 _ _ _ bk_Tape_byteAt_27_1_ok rfl ?_
      show am_EI m_Tape_byteAt kc ks 28 [.ref a0, .int x1] [.int (-1)] h Q
      exact am_iret dc_Tape_byteAt_28 rfl t
    · replace t := t.2 c3
      refine am_blk_ok (c := 9) (ini := false) (by decide) rfl (fun q => by cases q) bk_Tape_byteAt_12_2 _ 15 _ _ _ bk_Tape_byteAt_12_2_ok rfl ?_
      show am_EI m_Tape_byteAt kc ks 15 [.ref a0, .int x1] [.int 120, .int x1] h Q
      refine am_ic_ge (tgt := 27) dc_Tape_byteAt_15 (by decide) (fun c4 => ?_) (fun c4 => ?_)
      · replace t := t.1 c4
        refine am_blk_ok (c := 9) (ini := false) (by decide) rfl (fun q => by cases q) bk_Tape_byteAt_27_1 _ 28 _ _ _ bk_Tape_byteAt_27_1_ok rfl ?_
        show am_EI m_Tape_byteAt kc ks 28 [.ref a0, .int x1] [.int (-1)] h Q
        exact am_iret dc_Tape_byteAt_28 rfl t
      · replace t := t.2 c4
        refine am_blk_ok (c := 9) (ini := false) (by decide) rfl (fun q => by cases q) bk_Tape_byteAt_18_5 _ 28 _ _ _ bk_Tape_byteAt_18_5_ok rfl ?_
        show (am_tg h a0 = (9, 4) ∧ (∃ b5, am_P h a0 0 = some b5 ∧ ((am_tg h b5).1 = 22 ∧ ((22 = 21 ∨ 22 = 22) ∧ (vp_in x1 (am_tg h b5).2 ∧ am_EI m_Tape_byteAt kc ks 28 [.ref a0, .int x1] [.int (am_I h b5 x1.toNatClampNeg)] h Q)))))
        obtain ⟨b5, q6, o7, o8, t⟩ := t
        refine ⟨o2, b5, q6, o7, (by decide), o8, ?_⟩
        exact am_iret dc_Tape_byteAt_28 rfl t
set_option maxRecDepth 20000 in
theorem ev_Tape_byteAt (a0 : Nat) (x1 : Int32) (h : am_H) (Q : Int32 → am_H → Prop) (t : ((x1 < 0 → Q (-1) h) ∧ (¬ x1 < 0 → (am_tg h a0 = (9, 4) ∧ (((am_I h a0 1) ≤ x1 → Q (-1) h) ∧ (¬ (am_I h a0 1) ≤ x1 → ((120 ≤ x1 → Q (-1) h) ∧ (¬ 120 ≤ x1 → (∃ b5, am_P h a0 0 = some b5 ∧ ((am_tg h b5).1 = 22 ∧ (vp_in x1 (am_tg h b5).2 ∧ Q (am_I h b5 x1.toNatClampNeg) h))))))))))) : am_Ei m_Tape_byteAt 0 0 [.ref a0, .int x1] h Q :=
  am_Ev.of (by decide +kernel) (Nat.le_of_ble_eq_true rfl) (by simp only [List.mem_cons, List.not_mem_nil, or_false]; intro v hv; rcases hv with rfl | rfl; all_goals first | exact trivial) (sg_Tape_byteAt_0 (kc := 0) (ks := 0) a0 x1 h (am_qi Q) t)
def bk_Tape_hasRoomFor_0_5 : List am_E := [(0, .aload_n 0, 1, 0, 0), (1, .getfield 13, 3, 3604, 0), (4, .iload_n 1, 1, 0, 0), (5, .iadd, 1, 0, 0), (6, .bipush 120, 2, 0, 120)]
theorem bk_Tape_hasRoomFor_0_5_ok : bk_Tape_hasRoomFor_0_5.all (am_ok 9 false m_Tape_hasRoomFor.2.1) = true := by decide +kernel
def bk_Tape_hasRoomFor_15_1 : List am_E := [(15, .iconst 0, 1, 0, 0)]
theorem bk_Tape_hasRoomFor_15_1_ok : bk_Tape_hasRoomFor_15_1.all (am_ok 9 false m_Tape_hasRoomFor.2.1) = true := by decide +kernel
def bk_Tape_hasRoomFor_11_2 : List am_E := [(11, .iconst 1, 1, 0, 1), (12, .goto 4, 3, 0, 4)]
theorem bk_Tape_hasRoomFor_11_2_ok : bk_Tape_hasRoomFor_11_2.all (am_ok 9 false m_Tape_hasRoomFor.2.1) = true := by decide +kernel
theorem dc_Tape_hasRoomFor_16 : decode m_Tape_hasRoomFor.2.1 16 = .ok (.ireturn, 1) := by decide +kernel
theorem dc_Tape_hasRoomFor_8 : decode m_Tape_hasRoomFor.2.1 8 = .ok (.if_icmp .gt 7, 3) := by decide +kernel
set_option maxRecDepth 20000 in
theorem sg_Tape_hasRoomFor_0 {kc ks : Nat} (a0 : Nat) (x1 : Int32) (h : am_H) (Q : Option Value → am_H → Prop) (t : (am_tg h a0 = (9, 4) ∧ ((120 < ((am_I h a0 1) + x1) → Q (some (.int 0)) h) ∧ (¬ 120 < ((am_I h a0 1) + x1) → Q (some (.int 1)) h)))) : am_EI m_Tape_hasRoomFor kc ks 0 [.ref a0, .int x1] [] h Q := by
  refine am_blk_ok (c := 9) (ini := false) (by decide) rfl (fun q => by cases q) bk_Tape_hasRoomFor_0_5 _ 8 _ _ _ bk_Tape_hasRoomFor_0_5_ok rfl ?_
  show (am_tg h a0 = (9, 4) ∧ am_EI m_Tape_hasRoomFor kc ks 8 [.ref a0, .int x1] [.int 120, .int ((am_I h a0 1) + x1)] h Q)
  obtain ⟨o1, t⟩ := t
  refine ⟨o1, ?_⟩
  refine am_ic_gt (tgt := 15) dc_Tape_hasRoomFor_8 (by decide) (fun c2 => ?_) (fun c2 => ?_)
  · replace t := t.1 c2
    refine am_blk_ok (c := 9) (ini := false) (by decide) rfl (fun q => by cases q) bk_Tape_hasRoomFor_15_1 _ 16 _ _ _ bk_Tape_hasRoomFor_15_1_ok rfl ?_
    show am_EI m_Tape_hasRoomFor kc ks 16 [.ref a0, .int x1] [.int 0] h Q
    exact am_zret dc_Tape_hasRoomFor_16 rfl (Or.inl rfl) t
  · replace t := t.2 c2
    refine am_blk_ok (c := 9) (ini := false) (by decide) rfl (fun q => by cases q) bk_Tape_hasRoomFor_11_2 _ 16 _ _ _ bk_Tape_hasRoomFor_11_2_ok rfl ?_
    show am_EI m_Tape_hasRoomFor kc ks 16 [.ref a0, .int x1] [.int 1] h Q
    exact am_zret dc_Tape_hasRoomFor_16 rfl (Or.inr rfl) t
set_option maxRecDepth 20000 in
theorem ev_Tape_hasRoomFor (a0 : Nat) (x1 : Int32) (h : am_H) (Q : Int32 → am_H → Prop) (t : (am_tg h a0 = (9, 4) ∧ ((120 < ((am_I h a0 1) + x1) → Q 0 h) ∧ (¬ 120 < ((am_I h a0 1) + x1) → Q 1 h)))) : am_Ei m_Tape_hasRoomFor 0 0 [.ref a0, .int x1] h Q :=
  am_Ev.of (by decide +kernel) (Nat.le_of_ble_eq_true rfl) (by simp only [List.mem_cons, List.not_mem_nil, or_false]; intro v hv; rcases hv with rfl | rfl; all_goals first | exact trivial) (sg_Tape_hasRoomFor_0 (kc := 0) (ks := 0) a0 x1 h (am_qi Q) t)
def bk_Tape_init_0_1 : List am_E := [(0, .aload_n 0, 1, 0, 0)]
theorem bk_Tape_init_0_1_ok : bk_Tape_init_0_1.all (am_ok 9 true m_Tape_init.2.1) = true := by decide +kernel
def bk_Tape_init_4_2 : List am_E := [(4, .aload_n 0, 1, 0, 0), (5, .bipush 120, 2, 0, 120)]
theorem bk_Tape_init_4_2_ok : bk_Tape_init_4_2.all (am_ok 9 true m_Tape_init.2.1) = true := by decide +kernel
def bk_Tape_init_9_10 : List am_E := [(9, .putfield 9, 3, 3601, 0), (12, .aload_n 0, 1, 0, 0), (13, .iconst 0, 1, 0, 0), (14, .putfield 13, 3, 3604, 0), (17, .aload_n 0, 1, 0, 0), (18, .iconst 0, 1, 0, 0), (19, .putfield 17, 3, 3608, 0), (22, .aload_n 0, 1, 0, 0), (23, .iconst 0, 1, 0, 0), (24, .putfield 20, 3, 3614, 0)]
theorem bk_Tape_init_9_10_ok : bk_Tape_init_9_10.all (am_ok 9 true m_Tape_init.2.1) = true := by decide +kernel
theorem dc_Tape_init_27 : decode m_Tape_init.2.1 27 = .ok (.return_, 1) := by decide +kernel
theorem dc_Tape_init_7 : decode m_Tape_init.2.1 7 = .ok (.newarray .byte, 2) := by decide +kernel
theorem dc_Tape_init_1 : decode m_Tape_init.2.1 1 = .ok (.invokespecial 1, 3) := by decide +kernel
set_option maxRecDepth 20000 in
theorem sg_Tape_init_0 {kc ks : Nat} (a0 : Nat) (h : am_H) (Q : Option Value → am_H → Prop) (t : (am_tg (am_nw h 22 120) a0 = (9, 4) ∧ Q none (am_si (am_si (am_si (am_sp (am_nw h 22 120) a0 0 (some (am_sz h))) a0 1 0) a0 2 0) a0 3 0))) : am_EI m_Tape_init (kc + 1) (ks + 120) 0 [.ref a0] [] h Q := by
  refine am_blk_ok (c := 9) (ini := true) (by decide) rfl (fun _ => rfl) bk_Tape_init_0_1 _ 1 _ _ _ bk_Tape_init_0_1_ok rfl ?_
  show am_EI m_Tape_init (kc + 1) (ks + 120) 1 [.ref a0] [.ref a0] h Q
  refine am_oinit (a := a0) dc_Tape_init_1 lk_9_1 oi_2 oi_3 (by decide) (by decide) ?_
  refine am_blk_ok (c := 9) (ini := true) (by decide) rfl (fun _ => rfl) bk_Tape_init_4_2 _ 7 _ _ _ bk_Tape_init_4_2_ok rfl ?_
  show am_EI m_Tape_init (kc + 1) (ks + 120) 7 [.ref a0] [.int 120, .ref a0] h Q
  refine am_newa (kc := kc) (ks := ks) (kd := 22) (N := 120) dc_Tape_init_7 (by decide) ac_byte (by decide) (by decide) (by decide) ?_
  refine am_blk_ok (c := 9) (ini := true) (by decide) rfl (fun _ => rfl) bk_Tape_init_9_10 _ 27 _ _ _ bk_Tape_init_9_10_ok rfl ?_
  show (am_tg (am_nw h 22 120) a0 = (9, 4) ∧ (am_tg (am_nw h 22 120) a0 = (9, 4) ∧ (am_tg (am_nw h 22 120) a0 = (9, 4) ∧ (am_tg (am_nw h 22 120) a0 = (9, 4) ∧ (am_b01 0 ∧ am_EI m_Tape_init kc ks 27 [.ref a0] [] (am_si (am_si (am_si (am_sp (am_nw h 22 120) a0 0 (some (am_sz h))) a0 1 0) a0 2 0) a0 3 0) Q)))))
  obtain ⟨o1, t⟩ := t
  refine ⟨o1, o1, o1, o1, (Or.inl rfl), ?_⟩
  exact am_vret dc_Tape_init_27 rfl t
set_option maxRecDepth 20000 in
theorem ev_Tape_init (a0 : Nat) (h : am_H) (Q : am_H → Prop) (t : (am_tg (am_nw h 22 120) a0 = (9, 4) ∧ Q (am_si (am_si (am_si (am_sp (am_nw h 22 120) a0 0 (some (am_sz h))) a0 1 0) a0 2 0) a0 3 0))) : am_Ew m_Tape_init (0 + 1) (0 + 120) [.ref a0] h Q :=
  am_Ev.of (by decide +kernel) (Nat.le_of_ble_eq_true rfl) (by simp only [List.mem_cons, List.not_mem_nil, or_false]; intro v hv; rcases hv with rfl; all_goals first | exact trivial) (sg_Tape_init_0 (kc := 0) (ks := 0) a0 h (am_qw Q) t)
def bk_Tape_isDigit_0_2 : List am_E := [(0, .iload_n 0, 1, 0, 0), (1, .bipush 48, 2, 0, 48)]
theorem bk_Tape_isDigit_0_2_ok : bk_Tape_isDigit_0_2.all (am_ok 9 false m_Tape_isDigit.2.1) = true := by decide +kernel
def bk_Tape_isDigit_16_1 : List am_E := [(16, .iconst 0, 1, 0, 0)]
theorem bk_Tape_isDigit_16_1_ok : bk_Tape_isDigit_16_1.all (am_ok 9 false m_Tape_isDigit.2.1) = true := by decide +kernel
def bk_Tape_isDigit_6_2 : List am_E := [(6, .iload_n 0, 1, 0, 0), (7, .bipush 57, 2, 0, 57)]
theorem bk_Tape_isDigit_6_2_ok : bk_Tape_isDigit_6_2.all (am_ok 9 false m_Tape_isDigit.2.1) = true := by decide +kernel
def bk_Tape_isDigit_12_2 : List am_E := [(12, .iconst 1, 1, 0, 1), (13, .goto 4, 3, 0, 4)]
theorem bk_Tape_isDigit_12_2_ok : bk_Tape_isDigit_12_2.all (am_ok 9 false m_Tape_isDigit.2.1) = true := by decide +kernel
theorem dc_Tape_isDigit_17 : decode m_Tape_isDigit.2.1 17 = .ok (.ireturn, 1) := by decide +kernel
theorem dc_Tape_isDigit_9 : decode m_Tape_isDigit.2.1 9 = .ok (.if_icmp .gt 7, 3) := by decide +kernel
theorem dc_Tape_isDigit_3 : decode m_Tape_isDigit.2.1 3 = .ok (.if_icmp .lt 13, 3) := by decide +kernel
set_option maxRecDepth 20000 in
theorem sg_Tape_isDigit_0 {kc ks : Nat} (x0 : Int32) (h : am_H) (Q : Option Value → am_H → Prop) (t : ((x0 < 48 → Q (some (.int 0)) h) ∧ (¬ x0 < 48 → ((57 < x0 → Q (some (.int 0)) h) ∧ (¬ 57 < x0 → Q (some (.int 1)) h))))) : am_EI m_Tape_isDigit kc ks 0 [.int x0] [] h Q := by
  refine am_blk_ok (c := 9) (ini := false) (by decide) rfl (fun q => by cases q) bk_Tape_isDigit_0_2 _ 3 _ _ _ bk_Tape_isDigit_0_2_ok rfl ?_
  show am_EI m_Tape_isDigit kc ks 3 [.int x0] [.int 48, .int x0] h Q
  refine am_ic_lt (tgt := 16) dc_Tape_isDigit_3 (by decide) (fun c1 => ?_) (fun c1 => ?_)
  · replace t := t.1 c1
    refine am_blk_ok (c := 9) (ini := false) (by decide) rfl (fun q => by cases q) bk_Tape_isDigit_16_1 _ 17 _ _ _ bk_Tape_isDigit_16_1_ok rfl ?_
    show am_EI m_Tape_isDigit kc ks 17 [.int x0] [.int 0] h Q
    exact am_zret dc_Tape_isDigit_17 rfl (Or.inl rfl) t
  · replace t := t.2 c1
    refine am_blk_ok (c := 9) (ini := false) (by decide) rfl (fun q => by cases q) bk_Tape_isDigit_6_2 _ 9 _ _ _ bk_Tape_isDigit_6_2_ok rfl ?_
    show am_EI m_Tape_isDigit kc ks 9 [.int x0] [.int 57, .int x0] h Q
    refine am_ic_gt (tgt := 16) dc_Tape_isDigit_9 (by decide) (fun c2 => ?_) (fun c2 => ?_)
    · replace t := t.1 c2
      refine am_blk_ok (c := 9) (ini := false) (by decide) rfl (fun q => by cases q) bk_Tape_isDigit_16_1 _ 17 _ _ _ bk_Tape_isDigit_16_1_ok rfl ?_
      show am_EI m_Tape_isDigit kc ks 17 [.int x0] [.int 0] h Q
      exact am_zret dc_Tape_isDigit_17 rfl (Or.inl rfl) t
    · replace t := t.2 c2
      refine am_blk_ok (c := 9) (ini := false) (by decide) rfl (fun q => by cases q) bk_Tape_isDigit_12_2 _ 17 _ _ _ bk_Tape_isDigit_12_2_ok rfl ?_
      show am_EI m_Tape_isDigit kc ks 17 [.int x0] [.int 1] h Q
      exact am_zret dc_Tape_isDigit_17 rfl (Or.inr rfl) t
set_option maxRecDepth 20000 in
theorem ev_Tape_isDigit (x0 : Int32) (h : am_H) (Q : Int32 → am_H → Prop) (t : ((x0 < 48 → Q 0 h) ∧ (¬ x0 < 48 → ((57 < x0 → Q 0 h) ∧ (¬ 57 < x0 → Q 1 h))))) : am_Ei m_Tape_isDigit 0 0 [.int x0] h Q :=
  am_Ev.of (by decide +kernel) (Nat.le_of_ble_eq_true rfl) (by simp only [List.mem_cons, List.not_mem_nil, or_false]; intro v hv; rcases hv with rfl; all_goals first | exact trivial) (sg_Tape_isDigit_0 (kc := 0) (ks := 0) x0 h (am_qi Q) t)
def bk_Tape_isLetter_0_2 : List am_E := [(0, .iload_n 0, 1, 0, 0), (1, .bipush 97, 2, 0, 97)]
theorem bk_Tape_isLetter_0_2_ok : bk_Tape_isLetter_0_2.all (am_ok 9 false m_Tape_isLetter.2.1) = true := by decide +kernel
def bk_Tape_isLetter_16_1 : List am_E := [(16, .iconst 0, 1, 0, 0)]
theorem bk_Tape_isLetter_16_1_ok : bk_Tape_isLetter_16_1.all (am_ok 9 false m_Tape_isLetter.2.1) = true := by decide +kernel
def bk_Tape_isLetter_6_2 : List am_E := [(6, .iload_n 0, 1, 0, 0), (7, .bipush 122, 2, 0, 122)]
theorem bk_Tape_isLetter_6_2_ok : bk_Tape_isLetter_6_2.all (am_ok 9 false m_Tape_isLetter.2.1) = true := by decide +kernel
def bk_Tape_isLetter_12_2 : List am_E := [(12, .iconst 1, 1, 0, 1), (13, .goto 4, 3, 0, 4)]
theorem bk_Tape_isLetter_12_2_ok : bk_Tape_isLetter_12_2.all (am_ok 9 false m_Tape_isLetter.2.1) = true := by decide +kernel
theorem dc_Tape_isLetter_17 : decode m_Tape_isLetter.2.1 17 = .ok (.ireturn, 1) := by decide +kernel
theorem dc_Tape_isLetter_9 : decode m_Tape_isLetter.2.1 9 = .ok (.if_icmp .gt 7, 3) := by decide +kernel
theorem dc_Tape_isLetter_3 : decode m_Tape_isLetter.2.1 3 = .ok (.if_icmp .lt 13, 3) := by decide +kernel
set_option maxRecDepth 20000 in
theorem sg_Tape_isLetter_0 {kc ks : Nat} (x0 : Int32) (h : am_H) (Q : Option Value → am_H → Prop) (t : ((x0 < 97 → Q (some (.int 0)) h) ∧ (¬ x0 < 97 → ((122 < x0 → Q (some (.int 0)) h) ∧ (¬ 122 < x0 → Q (some (.int 1)) h))))) : am_EI m_Tape_isLetter kc ks 0 [.int x0] [] h Q := by
  refine am_blk_ok (c := 9) (ini := false) (by decide) rfl (fun q => by cases q) bk_Tape_isLetter_0_2 _ 3 _ _ _ bk_Tape_isLetter_0_2_ok rfl ?_
  show am_EI m_Tape_isLetter kc ks 3 [.int x0] [.int 97, .int x0] h Q
  refine am_ic_lt (tgt := 16) dc_Tape_isLetter_3 (by decide) (fun c1 => ?_) (fun c1 => ?_)
  · replace t := t.1 c1
    refine am_blk_ok (c := 9) (ini := false) (by decide) rfl (fun q => by cases q) bk_Tape_isLetter_16_1 _ 17 _ _ _ bk_Tape_isLetter_16_1_ok rfl ?_
    show am_EI m_Tape_isLetter kc ks 17 [.int x0] [.int 0] h Q
    exact am_zret dc_Tape_isLetter_17 rfl (Or.inl rfl) t
  · replace t := t.2 c1
    refine am_blk_ok (c := 9) (ini := false) (by decide) rfl (fun q => by cases q) bk_Tape_isLetter_6_2 _ 9 _ _ _ bk_Tape_isLetter_6_2_ok rfl ?_
    show am_EI m_Tape_isLetter kc ks 9 [.int x0] [.int 122, .int x0] h Q
    refine am_ic_gt (tgt := 16) dc_Tape_isLetter_9 (by decide) (fun c2 => ?_) (fun c2 => ?_)
    · replace t := t.1 c2
      refine am_blk_ok (c := 9) (ini := false) (by decide) rfl (fun q => by cases q) bk_Tape_isLetter_16_1 _ 17 _ _ _ bk_Tape_isLetter_16_1_ok rfl ?_
      show am_EI m_Tape_isLetter kc ks 17 [.int x0] [.int 0] h Q
      exact am_zret dc_Tape_isLetter_17 rfl (Or.inl rfl) t
    · replace t := t.2 c2
      refine am_blk_ok (c := 9) (ini := false) (by decide) rfl (fun q => by cases q) bk_Tape_isLetter_12_2 _ 17 _ _ _ bk_Tape_isLetter_12_2_ok rfl ?_
      show am_EI m_Tape_isLetter kc ks 17 [.int x0] [.int 1] h Q
      exact am_zret dc_Tape_isLetter_17 rfl (Or.inr rfl) t
set_option maxRecDepth 20000 in
theorem ev_Tape_isLetter (x0 : Int32) (h : am_H) (Q : Int32 → am_H → Prop) (t : ((x0 < 97 → Q 0 h) ∧ (¬ x0 < 97 → ((122 < x0 → Q 0 h) ∧ (¬ 122 < x0 → Q 1 h))))) : am_Ei m_Tape_isLetter 0 0 [.int x0] h Q :=
  am_Ev.of (by decide +kernel) (Nat.le_of_ble_eq_true rfl) (by simp only [List.mem_cons, List.not_mem_nil, or_false]; intro v hv; rcases hv with rfl; all_goals first | exact trivial) (sg_Tape_isLetter_0 (kc := 0) (ks := 0) x0 h (am_qi Q) t)
def bk_Tape_isReadWhole_0_2 : List am_E := [(0, .aload_n 0, 1, 0, 0), (1, .getfield 20, 3, 3614, 0)]
theorem bk_Tape_isReadWhole_0_2_ok : bk_Tape_isReadWhole_0_2.all (am_ok 9 false m_Tape_isReadWhole.2.1) = true := by decide +kernel
def bk_Tape_isReadWhole_22_1 : List am_E := [(22, .iconst 0, 1, 0, 0)]
theorem bk_Tape_isReadWhole_22_1_ok : bk_Tape_isReadWhole_22_1.all (am_ok 9 false m_Tape_isReadWhole.2.1) = true := by decide +kernel
def bk_Tape_isReadWhole_7_4 : List am_E := [(7, .aload_n 0, 1, 0, 0), (8, .getfield 17, 3, 3608, 0), (11, .aload_n 0, 1, 0, 0), (12, .getfield 13, 3, 3604, 0)]
theorem bk_Tape_isReadWhole_7_4_ok : bk_Tape_isReadWhole_7_4.all (am_ok 9 false m_Tape_isReadWhole.2.1) = true := by decide +kernel
def bk_Tape_isReadWhole_18_2 : List am_E := [(18, .iconst 1, 1, 0, 1), (19, .goto 4, 3, 0, 4)]
theorem bk_Tape_isReadWhole_18_2_ok : bk_Tape_isReadWhole_18_2.all (am_ok 9 false m_Tape_isReadWhole.2.1) = true := by decide +kernel
theorem dc_Tape_isReadWhole_23 : decode m_Tape_isReadWhole.2.1 23 = .ok (.ireturn, 1) := by decide +kernel
theorem dc_Tape_isReadWhole_15 : decode m_Tape_isReadWhole.2.1 15 = .ok (.if_icmp .lt 7, 3) := by decide +kernel
theorem dc_Tape_isReadWhole_4 : decode m_Tape_isReadWhole.2.1 4 = .ok (.ifCond .ne 18, 3) := by decide +kernel
set_option maxRecDepth 20000 in
theorem sg_Tape_isReadWhole_0 {kc ks : Nat} (a0 : Nat) (h : am_H) (Q : Option Value → am_H → Prop) (t : (am_tg h a0 = (9, 4) ∧ ((¬ (am_I h a0 3) = 0 → Q (some (.int 0)) h) ∧ ((am_I h a0 3) = 0 → (((am_I h a0 2) < (am_I h a0 1) → Q (some (.int 0)) h) ∧ (¬ (am_I h a0 2) < (am_I h a0 1) → Q (some (.int 1)) h)))))) : am_EI m_Tape_isReadWhole kc ks 0 [.ref a0] [] h Q := by
  refine am_blk_ok (c := 9) (ini := false) (by decide) rfl (fun q => by cases q) bk_Tape_isReadWhole_0_2 _ 4 _ _ _ bk_Tape_isReadWhole_0_2_ok rfl ?_
  show (am_tg h a0 = (9, 4) ∧ am_EI m_Tape_isReadWhole kc ks 4 [.ref a0] [.int (am_I h a0 3)] h Q)
  obtain ⟨o1, t⟩ := t
  refine ⟨o1, ?_⟩
  refine am_if_ne (tgt := 22) dc_Tape_isReadWhole_4 (by decide) (fun c2 => ?_) (fun c2 => ?_)
  · replace t := t.1 c2
    refine am_blk_ok (c := 9) (ini := false) (by decide) rfl (fun q => by cases q) bk_Tape_isReadWhole_22_1 _ 23 _ _ _ bk_Tape_isReadWhole_22_1_ok rfl ?_
    show am_EI m_Tape_isReadWhole kc ks 23 [.ref a0] [.int 0] h Q
    exact am_zret dc_Tape_isReadWhole_23 rfl (Or.inl rfl) t
  · replace t := t.2 c2
    refine am_blk_ok (c := 9) (ini := false) (by decide) rfl (fun q => by cases q) bk_Tape_isReadWhole_7_4 _ 15 _ _ _ bk_Tape_isReadWhole_7_4_ok rfl ?_
    show (am_tg h a0 = (9, 4) ∧ (am_tg h a0 = (9, 4) ∧ am_EI m_Tape_isReadWhole kc ks 15 [.ref a0] [.int (am_I h a0 1), .int (am_I h a0 2)] h Q))
    refine ⟨o1, o1, ?_⟩
    refine am_ic_lt (tgt := 22) dc_Tape_isReadWhole_15 (by decide) (fun c3 => ?_) (fun c3 => ?_)
    · replace t := t.1 c3
      refine am_blk_ok (c := 9) (ini := false) (by decide) rfl (fun q => by cases q) bk_Tape_isReadWhole_22_1 _ 23 _ _ _ bk_Tape_isReadWhole_22_1_ok rfl ?_
      show am_EI m_Tape_isReadWhole kc ks 23 [.ref a0] [.int 0] h Q
      exact am_zret dc_Tape_isReadWhole_23 rfl (Or.inl rfl) t
    · replace t := t.2 c3
      refine am_blk_ok (c := 9) (ini := false) (by decide) rfl (fun q => by cases q) bk_Tape_isReadWhole_18_2 _ 23 _ _ _ bk_Tape_isReadWhole_18_2_ok rfl ?_
      show am_EI m_Tape_isReadWhole kc ks 23 [.ref a0] [.int 1] h Q
      exact am_zret dc_Tape_isReadWhole_23 rfl (Or.inr rfl) t
set_option maxRecDepth 20000 in
theorem ev_Tape_isReadWhole (a0 : Nat) (h : am_H) (Q : Int32 → am_H → Prop) (t : (am_tg h a0 = (9, 4) ∧ ((¬ (am_I h a0 3) = 0 → Q 0 h) ∧ ((am_I h a0 3) = 0 → (((am_I h a0 2) < (am_I h a0 1) → Q 0 h) ∧ (¬ (am_I h a0 2) < (am_I h a0 1) → Q 1 h)))))) : am_Ei m_Tape_isReadWhole 0 0 [.ref a0] h Q :=
  am_Ev.of (by decide +kernel) (Nat.le_of_ble_eq_true rfl) (by simp only [List.mem_cons, List.not_mem_nil, or_false]; intro v hv; rcases hv with rfl; all_goals first | exact trivial) (sg_Tape_isReadWhole_0 (kc := 0) (ks := 0) a0 h (am_qi Q) t)
def bk_Tape_keepFirst_0_1 : List am_E := [(0, .iload_n 1, 1, 0, 0)]
theorem bk_Tape_keepFirst_0_1_ok : bk_Tape_keepFirst_0_1.all (am_ok 9 false m_Tape_keepFirst.2.1) = true := by decide +kernel
def bk_Tape_keepFirst_4_3 : List am_E := [(4, .iload_n 1, 1, 0, 0), (5, .aload_n 0, 1, 0, 0), (6, .getfield 13, 3, 3604, 0)]
theorem bk_Tape_keepFirst_4_3_ok : bk_Tape_keepFirst_4_3.all (am_ok 9 false m_Tape_keepFirst.2.1) = true := by decide +kernel
def bk_Tape_keepFirst_12_3 : List am_E := [(12, .aload_n 0, 1, 0, 0), (13, .iload_n 1, 1, 0, 0), (14, .putfield 13, 3, 3604, 0)]
theorem bk_Tape_keepFirst_12_3_ok : bk_Tape_keepFirst_12_3.all (am_ok 9 false m_Tape_keepFirst.2.1) = true := by decide +kernel
theorem dc_Tape_keepFirst_17 : decode m_Tape_keepFirst.2.1 17 = .ok (.return_, 1) := by decide +kernel
theorem dc_Tape_keepFirst_9 : decode m_Tape_keepFirst.2.1 9 = .ok (.if_icmp .gt 8, 3) := by decide +kernel
theorem dc_Tape_keepFirst_1 : decode m_Tape_keepFirst.2.1 1 = .ok (.ifCond .lt 16, 3) := by decide +kernel
set_option maxRecDepth 20000 in
theorem sg_Tape_keepFirst_0 {kc ks : Nat} (a0 : Nat) (x1 : Int32) (h : am_H) (Q : Option Value → am_H → Prop) (t : ((x1 < 0 → Q none h) ∧ (¬ x1 < 0 → (am_tg h a0 = (9, 4) ∧ (((am_I h a0 1) < x1 → Q none h) ∧ (¬ (am_I h a0 1) < x1 → Q none (am_si h a0 1 x1))))))) : am_EI m_Tape_keepFirst kc ks 0 [.ref a0, .int x1] [] h Q := by
  refine am_blk_ok (c := 9) (ini := false) (by decide) rfl (fun q => by cases q) bk_Tape_keepFirst_0_1 _ 1 _ _ _ bk_Tape_keepFirst_0_1_ok rfl ?_
  show am_EI m_Tape_keepFirst kc ks 1 [.ref a0, .int x1] [.int x1] h Q
  refine am_if_lt (tgt := 17) dc_Tape_keepFirst_1 (by decide) (fun c1 => ?_) (fun c1 => ?_)
  · replace t := t.1 c1
    exact am_vret dc_Tape_keepFirst_17 rfl t
  · replace t := t.2 c1
    refine am_blk_ok (c := 9) (ini := false) (by decide) rfl (fun q => by cases q) bk_Tape_keepFirst_4_3 _ 9 _ _ _ bk_Tape_keepFirst_4_3_ok rfl ?_
    show (am_tg h a0 = (9, 4) ∧ am_EI m_Tape_keepFirst kc ks 9 [.ref a0, .int x1] [.int (am_I h a0 1), .int x1] h Q)
    obtain ⟨o2, t⟩ := t
    refine ⟨o2, ?_⟩
    refine am_ic_gt (tgt := 17) dc_Tape_keepFirst_9 (by decide) (fun c3 => ?_) (fun c3 => ?_)
    · replace t := t.1 c3
      exact am_vret dc_Tape_keepFirst_17 rfl t
    · replace t := t.2 c3
      refine am_blk_ok (c := 9) (ini := false) (by decide) rfl (fun q => by cases q) bk_Tape_keepFirst_12_3 _ 17 _ _ _ bk_Tape_keepFirst_12_3_ok rfl ?_
      show (am_tg h a0 = (9, 4) ∧ am_EI m_Tape_keepFirst kc ks 17 [.ref a0, .int x1] [] (am_si h a0 1 x1) Q)
      refine ⟨o2, ?_⟩
      exact am_vret dc_Tape_keepFirst_17 rfl t
set_option maxRecDepth 20000 in
theorem ev_Tape_keepFirst (a0 : Nat) (x1 : Int32) (h : am_H) (Q : am_H → Prop) (t : ((x1 < 0 → Q h) ∧ (¬ x1 < 0 → (am_tg h a0 = (9, 4) ∧ (((am_I h a0 1) < x1 → Q h) ∧ (¬ (am_I h a0 1) < x1 → Q (am_si h a0 1 x1))))))) : am_Ew m_Tape_keepFirst 0 0 [.ref a0, .int x1] h Q :=
  am_Ev.of (by decide +kernel) (Nat.le_of_ble_eq_true rfl) (by simp only [List.mem_cons, List.not_mem_nil, or_false]; intro v hv; rcases hv with rfl | rfl; all_goals first | exact trivial) (sg_Tape_keepFirst_0 (kc := 0) (ks := 0) a0 x1 h (am_qw Q) t)
def bk_Tape_moveTo_0_3 : List am_E := [(0, .aload_n 0, 1, 0, 0), (1, .iload_n 1, 1, 0, 0), (2, .putfield 17, 3, 3608, 0)]
theorem bk_Tape_moveTo_0_3_ok : bk_Tape_moveTo_0_3.all (am_ok 9 false m_Tape_moveTo.2.1) = true := by decide +kernel
def bk_Tape_moveTo_5_2 : List am_E := [(5, .aload_n 0, 1, 0, 0), (6, .getfield 17, 3, 3608, 0)]
theorem bk_Tape_moveTo_5_2_ok : bk_Tape_moveTo_5_2.all (am_ok 9 false m_Tape_moveTo.2.1) = true := by decide +kernel
def bk_Tape_moveTo_12_4 : List am_E := [(12, .aload_n 0, 1, 0, 0), (13, .getfield 17, 3, 3608, 0), (16, .aload_n 0, 1, 0, 0), (17, .getfield 13, 3, 3604, 0)]
theorem bk_Tape_moveTo_12_4_ok : bk_Tape_moveTo_12_4.all (am_ok 9 false m_Tape_moveTo.2.1) = true := by decide +kernel
def bk_Tape_moveTo_23_3 : List am_E := [(23, .aload_n 0, 1, 0, 0), (24, .getfield 17, 3, 3608, 0), (27, .bipush 120, 2, 0, 120)]
theorem bk_Tape_moveTo_23_3_ok : bk_Tape_moveTo_23_3.all (am_ok 9 false m_Tape_moveTo.2.1) = true := by decide +kernel
def bk_Tape_moveTo_32_6 : List am_E := [(32, .aload_n 0, 1, 0, 0), (33, .getfield 9, 3, 3601, 0), (36, .aload_n 0, 1, 0, 0), (37, .getfield 17, 3, 3608, 0), (40, .baload, 1, 22, 0), (41, .bipush 32, 2, 0, 32)]
theorem bk_Tape_moveTo_32_6_ok : bk_Tape_moveTo_32_6.all (am_ok 9 false m_Tape_moveTo.2.1) = true := by decide +kernel
def bk_Tape_moveTo_46_7 : List am_E := [(46, .aload_n 0, 1, 0, 0), (47, .dup, 1, 0, 0), (48, .getfield 17, 3, 3608, 0), (51, .iconst 1, 1, 0, 1), (52, .iadd, 1, 0, 0), (53, .putfield 17, 3, 3608, 0), (56, .goto (-51), 3, 0, -51)]
theorem bk_Tape_moveTo_46_7_ok : bk_Tape_moveTo_46_7.all (am_ok 9 false m_Tape_moveTo.2.1) = true := by decide +kernel
theorem dc_Tape_moveTo_59 : decode m_Tape_moveTo.2.1 59 = .ok (.return_, 1) := by decide +kernel
theorem dc_Tape_moveTo_43 : decode m_Tape_moveTo.2.1 43 = .ok (.if_icmp .ne 16, 3) := by decide +kernel
theorem dc_Tape_moveTo_29 : decode m_Tape_moveTo.2.1 29 = .ok (.if_icmp .ge 30, 3) := by decide +kernel
theorem dc_Tape_moveTo_20 : decode m_Tape_moveTo.2.1 20 = .ok (.if_icmp .ge 39, 3) := by decide +kernel
theorem dc_Tape_moveTo_9 : decode m_Tape_moveTo.2.1 9 = .ok (.ifCond .lt 50, 3) := by decide +kernel
set_option maxRecDepth 20000 in
theorem sg_Tape_moveTo_0 {kc ks : Nat} (a0 : Nat) (x1 : Int32) (h : am_H) (Q : Option Value → am_H → Prop) (t : (am_tg h a0 = (9, 4) ∧ am_EI m_Tape_moveTo kc ks 5 [.ref a0, .int x1] [] (am_si h a0 2 x1) Q)) : am_EI m_Tape_moveTo kc ks 0 [.ref a0, .int x1] [] h Q := by
  refine am_blk_ok (c := 9) (ini := false) (by decide) rfl (fun q => by cases q) bk_Tape_moveTo_0_3 _ 5 _ _ _ bk_Tape_moveTo_0_3_ok rfl ?_
  show (am_tg h a0 = (9, 4) ∧ am_EI m_Tape_moveTo kc ks 5 [.ref a0, .int x1] [] (am_si h a0 2 x1) Q)
  obtain ⟨o1, t⟩ := t
  refine ⟨o1, ?_⟩
  exact t
set_option maxRecDepth 20000 in
theorem ev_Tape_moveTo (a0 : Nat) (x1 : Int32) (h : am_H) (Q : am_H → Prop) (t : (am_tg h a0 = (9, 4) ∧ am_EI m_Tape_moveTo 0 0 5 [.ref a0, .int x1] [] (am_si h a0 2 x1) (am_qw Q))) : am_Ew m_Tape_moveTo 0 0 [.ref a0, .int x1] h Q :=
  am_Ev.of (by decide +kernel) (Nat.le_of_ble_eq_true rfl) (by simp only [List.mem_cons, List.not_mem_nil, or_false]; intro v hv; rcases hv with rfl | rfl; all_goals first | exact trivial) (sg_Tape_moveTo_0 (kc := 0) (ks := 0) a0 x1 h (am_qw Q) t)
set_option maxRecDepth 20000 in
theorem sg_Tape_moveTo_5 {kc ks : Nat} (a0 : Nat) (x1 : Int32) (h : am_H) (Q : Option Value → am_H → Prop) (t : (am_tg h a0 = (9, 4) ∧ (((am_I h a0 2) < 0 → Q none h) ∧ (¬ (am_I h a0 2) < 0 → (((am_I h a0 1) ≤ (am_I h a0 2) → Q none h) ∧ (¬ (am_I h a0 1) ≤ (am_I h a0 2) → ((120 ≤ (am_I h a0 2) → Q none h) ∧ (¬ 120 ≤ (am_I h a0 2) → (∃ b5, am_P h a0 0 = some b5 ∧ ((am_tg h b5).1 = 22 ∧ (vp_in (am_I h a0 2) (am_tg h b5).2 ∧ ((¬ (am_I h b5 (am_I h a0 2).toNatClampNeg) = 32 → Q none h) ∧ ((am_I h b5 (am_I h a0 2).toNatClampNeg) = 32 → am_EI m_Tape_moveTo kc ks 5 [.ref a0, .int x1] [] (am_si h a0 2 ((am_I h a0 2) + 1)) Q))))))))))))) : am_EI m_Tape_moveTo kc ks 5 [.ref a0, .int x1] [] h Q := by
  refine am_blk_ok (c := 9) (ini := false) (by decide) rfl (fun q => by cases q) bk_Tape_moveTo_5_2 _ 9 _ _ _ bk_Tape_moveTo_5_2_ok rfl ?_
  show (am_tg h a0 = (9, 4) ∧ am_EI m_Tape_moveTo kc ks 9 [.ref a0, .int x1] [.int (am_I h a0 2)] h Q)
  obtain ⟨o1, t⟩ := t
  refine ⟨o1, ?_⟩
  refine am_if_lt (tgt := 59) dc_Tape_moveTo_9 (by decide) (fun c2 => ?_) (fun c2 => ?_)
  · replace t := t.1 c2
    exact am_vret dc_Tape_moveTo_59 rfl t
  · replace t := t.2 c2
    refine am_blk_ok (c := 9) (ini := false) (by decide) rfl (fun q => by cases q) bk_Tape_moveTo_12_4 _ 20 _ _ _ bk_Tape_moveTo_12_4_ok rfl ?_
    show (am_tg h a0 = (9, 4) ∧ (am_tg h a0 = (9, 4) ∧ am_EI m_Tape_moveTo kc ks 20 [.ref a0, .int x1] [.int (am_I h a0 1), .int (am_I h a0 2)] h Q))
    refine ⟨o1, o1, ?_⟩
    refine am_ic_ge (tgt := 59) dc_Tape_moveTo_20 (by decide) (fun c3 => ?_) (fun c3 => ?_)
    · replace t := t.1 c3
      exact am_vret dc_Tape_moveTo_59 rfl t
    · replace t := t.2 c3
      refine am_blk_ok (c := 9) (ini := false) (by decide) rfl (fun q => by cases q) bk_Tape_moveTo_23_3 _ 29 _ _ _ bk_Tape_moveTo_23_3_ok rfl ?_
      show (am_tg h a0 = (9, 4) ∧ am_EI m_Tape_moveTo kc ks 29 [.ref a0, .int x1] [.int 120, .int (am_I h a0 2)] h Q)
      refine ⟨o1, ?_⟩
      refine am_ic_ge (tgt := 59) dc_Tape_moveTo_29 (by decide) (fun c4 => ?_) (fun c4 => ?_)
      · replace t := t.1 c4
        exact am_vret dc_Tape_moveTo_59 rfl t
      · replace t := t.2 c4
        refine am_blk_ok (c := 9) (ini := false) (by decide) rfl (fun q => by cases q) bk_Tape_moveTo_32_6 _ 43 _ _ _ bk_Tape_moveTo_32_6_ok rfl ?_
        show (am_tg h a0 = (9, 4) ∧ (∃ b5, am_P h a0 0 = some b5 ∧ (am_tg h a0 = (9, 4) ∧ ((am_tg h b5).1 = 22 ∧ ((22 = 21 ∨ 22 = 22) ∧ (vp_in (am_I h a0 2) (am_tg h b5).2 ∧ am_EI m_Tape_moveTo kc ks 43 [.ref a0, .int x1] [.int 32, .int (am_I h b5 (am_I h a0 2).toNatClampNeg)] h Q))))))
        obtain ⟨b5, q6, o7, o8, t⟩ := t
        refine ⟨o1, b5, q6, o1, o7, (by decide), o8, ?_⟩
        refine am_ic_ne (tgt := 59) dc_Tape_moveTo_43 (by decide) (fun c9 => ?_) (fun c9 => ?_)
        · replace t := t.1 c9
          exact am_vret dc_Tape_moveTo_59 rfl t
        · replace t := t.2 c9
          refine am_blk_ok (c := 9) (ini := false) (by decide) rfl (fun q => by cases q) bk_Tape_moveTo_46_7 _ 5 _ _ _ bk_Tape_moveTo_46_7_ok rfl ?_
          show (am_tg h a0 = (9, 4) ∧ (am_tg h a0 = (9, 4) ∧ am_EI m_Tape_moveTo kc ks 5 [.ref a0, .int x1] [] (am_si h a0 2 ((am_I h a0 2) + 1)) Q))
          refine ⟨o1, o1, ?_⟩
          exact t
def bk_Tape_readTo_0_2 : List am_E := [(0, .aload_n 0, 1, 0, 0), (1, .getfield 17, 3, 3608, 0)]
theorem bk_Tape_readTo_0_2_ok : bk_Tape_readTo_0_2.all (am_ok 9 false m_Tape_readTo.2.1) = true := by decide +kernel
theorem dc_Tape_readTo_4 : decode m_Tape_readTo.2.1 4 = .ok (.ireturn, 1) := by decide +kernel
set_option maxRecDepth 20000 in
theorem sg_Tape_readTo_0 {kc ks : Nat} (a0 : Nat) (h : am_H) (Q : Option Value → am_H → Prop) (t : (am_tg h a0 = (9, 4) ∧ Q (some (.int (am_I h a0 2))) h)) : am_EI m_Tape_readTo kc ks 0 [.ref a0] [] h Q := by
  refine am_blk_ok (c := 9) (ini := false) (by decide) rfl (fun q => by cases q) bk_Tape_readTo_0_2 _ 4 _ _ _ bk_Tape_readTo_0_2_ok rfl ?_
  show (am_tg h a0 = (9, 4) ∧ am_EI m_Tape_readTo kc ks 4 [.ref a0] [.int (am_I h a0 2)] h Q)
  obtain ⟨o1, t⟩ := t
  refine ⟨o1, ?_⟩
  exact am_iret dc_Tape_readTo_4 rfl t
set_option maxRecDepth 20000 in
theorem ev_Tape_readTo (a0 : Nat) (h : am_H) (Q : Int32 → am_H → Prop) (t : (am_tg h a0 = (9, 4) ∧ Q (am_I h a0 2) h)) : am_Ei m_Tape_readTo 0 0 [.ref a0] h Q :=
  am_Ev.of (by decide +kernel) (Nat.le_of_ble_eq_true rfl) (by simp only [List.mem_cons, List.not_mem_nil, or_false]; intro v hv; rcases hv with rfl; all_goals first | exact trivial) (sg_Tape_readTo_0 (kc := 0) (ks := 0) a0 h (am_qi Q) t)
def bk_Tape_rewind_0_5 : List am_E := [(0, .aload_n 0, 1, 0, 0), (1, .iconst 0, 1, 0, 0), (2, .putfield 20, 3, 3614, 0), (5, .aload_n 0, 1, 0, 0), (6, .iconst 0, 1, 0, 0)]
theorem bk_Tape_rewind_0_5_ok : bk_Tape_rewind_0_5.all (am_ok 9 false m_Tape_rewind.2.1) = true := by decide +kernel
theorem dc_Tape_rewind_7 : decode m_Tape_rewind.2.1 7 = .ok (.invokevirtual 24, 3) := by decide +kernel
theorem dc_Tape_rewind_10 : decode m_Tape_rewind.2.1 10 = .ok (.return_, 1) := by decide +kernel
set_option maxRecDepth 20000 in
theorem sg_Tape_rewind_0 {kc ks : Nat} (a0 : Nat) (h : am_H) (Q : Option Value → am_H → Prop) (t : (am_tg h a0 = (9, 4) ∧ (am_Ew m_Tape_moveTo 0 0 [.ref a0, .int 0] (am_si h a0 3 0) (fun h2 => Q none h2)))) : am_EI m_Tape_rewind kc ks 0 [.ref a0] [] h Q := by
  refine am_blk_ok (c := 9) (ini := false) (by decide) rfl (fun q => by cases q) bk_Tape_rewind_0_5 _ 7 _ _ _ bk_Tape_rewind_0_5_ok rfl ?_
  show (am_tg h a0 = (9, 4) ∧ (am_b01 0 ∧ am_EI m_Tape_rewind kc ks 7 [.ref a0] [.int 0, .ref a0] (am_si h a0 3 0) Q))
  obtain ⟨o1, t⟩ := t
  refine ⟨o1, (Or.inl rfl), ?_⟩
  refine am_callV (M2 := m_Tape_moveTo) (ci := 9) (a := a0) (kc := kc) (ks := ks) (k2c := 0) (k2s := 0) (as := []) [.int 0] dc_Tape_rewind_7 lk_9_24 im_Tape_moveTo se_Tape_moveTo lm_Tape_moveTo np_Tape_moveTo ⟨Nat.le_of_ble_eq_true rfl, Nat.le_of_ble_eq_true rfl⟩ (fun _ => Nat.le_of_ble_eq_true rfl) (by decide) rfl o1 (am_Ew.end (am_Ew.mono t (fun h2 t => ?_)))
  exact am_vret dc_Tape_rewind_10 rfl t
set_option maxRecDepth 20000 in
theorem ev_Tape_rewind (a0 : Nat) (h : am_H) (Q : am_H → Prop) (t : (am_tg h a0 = (9, 4) ∧ (am_Ew m_Tape_moveTo 0 0 [.ref a0, .int 0] (am_si h a0 3 0) (fun h2 => Q h2)))) : am_Ew m_Tape_rewind 0 0 [.ref a0] h Q :=
  am_Ev.of (by decide +kernel) (Nat.le_of_ble_eq_true rfl) (by simp only [List.mem_cons, List.not_mem_nil, or_false]; intro v hv; rcases hv with rfl; all_goals first | exact trivial) (sg_Tape_rewind_0 (kc := 0) (ks := 0) a0 h (am_qw Q) t)
def bk_Tape_size_0_2 : List am_E := [(0, .aload_n 0, 1, 0, 0), (1, .getfield 13, 3, 3604, 0)]
theorem bk_Tape_size_0_2_ok : bk_Tape_size_0_2.all (am_ok 9 false m_Tape_size.2.1) = true := by decide +kernel
theorem dc_Tape_size_4 : decode m_Tape_size.2.1 4 = .ok (.ireturn, 1) := by decide +kernel
set_option maxRecDepth 20000 in
theorem sg_Tape_size_0 {kc ks : Nat} (a0 : Nat) (h : am_H) (Q : Option Value → am_H → Prop) (t : (am_tg h a0 = (9, 4) ∧ Q (some (.int (am_I h a0 1))) h)) : am_EI m_Tape_size kc ks 0 [.ref a0] [] h Q := by
  refine am_blk_ok (c := 9) (ini := false) (by decide) rfl (fun q => by cases q) bk_Tape_size_0_2 _ 4 _ _ _ bk_Tape_size_0_2_ok rfl ?_
  show (am_tg h a0 = (9, 4) ∧ am_EI m_Tape_size kc ks 4 [.ref a0] [.int (am_I h a0 1)] h Q)
  obtain ⟨o1, t⟩ := t
  refine ⟨o1, ?_⟩
  exact am_iret dc_Tape_size_4 rfl t
set_option maxRecDepth 20000 in
theorem ev_Tape_size (a0 : Nat) (h : am_H) (Q : Int32 → am_H → Prop) (t : (am_tg h a0 = (9, 4) ∧ Q (am_I h a0 1) h)) : am_Ei m_Tape_size 0 0 [.ref a0] h Q :=
  am_Ev.of (by decide +kernel) (Nat.le_of_ble_eq_true rfl) (by simp only [List.mem_cons, List.not_mem_nil, or_false]; intro v hv; rcases hv with rfl; all_goals first | exact trivial) (sg_Tape_size_0 (kc := 0) (ks := 0) a0 h (am_qi Q) t)
def bk_Tape_takeMark_0_2 : List am_E := [(0, .aload_n 0, 1, 0, 0), (1, .getfield 20, 3, 3614, 0)]
theorem bk_Tape_takeMark_0_2_ok : bk_Tape_takeMark_0_2.all (am_ok 9 false m_Tape_takeMark.2.1) = true := by decide +kernel
def bk_Tape_takeMark_19_1 : List am_E := [(19, .iconst 0, 1, 0, 0)]
theorem bk_Tape_takeMark_19_1_ok : bk_Tape_takeMark_19_1.all (am_ok 9 false m_Tape_takeMark.2.1) = true := by decide +kernel
def bk_Tape_takeMark_7_3 : List am_E := [(7, .aload_n 0, 1, 0, 0), (8, .aload_n 0, 1, 0, 0), (9, .getfield 17, 3, 3608, 0)]
theorem bk_Tape_takeMark_7_3_ok : bk_Tape_takeMark_7_3.all (am_ok 9 false m_Tape_takeMark.2.1) = true := by decide +kernel
def bk_Tape_takeMark_15_1 : List am_E := [(15, .iload_n 1, 1, 0, 0)]
theorem bk_Tape_takeMark_15_1_ok : bk_Tape_takeMark_15_1.all (am_ok 9 false m_Tape_takeMark.2.1) = true := by decide +kernel
def bk_Tape_takeMark_21_5 : List am_E := [(21, .aload_n 0, 1, 0, 0), (22, .aload_n 0, 1, 0, 0), (23, .getfield 17, 3, 3608, 0), (26, .iconst 1, 1, 0, 1), (27, .iadd, 1, 0, 0)]
theorem bk_Tape_takeMark_21_5_ok : bk_Tape_takeMark_21_5.all (am_ok 9 false m_Tape_takeMark.2.1) = true := by decide +kernel
def bk_Tape_takeMark_31_1 : List am_E := [(31, .iconst 1, 1, 0, 1)]
theorem bk_Tape_takeMark_31_1_ok : bk_Tape_takeMark_31_1.all (am_ok 9 false m_Tape_takeMark.2.1) = true := by decide +kernel
theorem dc_Tape_takeMark_20 : decode m_Tape_takeMark.2.1 20 = .ok (.ireturn, 1) := by decide +kernel
theorem dc_Tape_takeMark_12 : decode m_Tape_takeMark.2.1 12 = .ok (.invokevirtual 28, 3) := by decide +kernel
theorem dc_Tape_takeMark_28 : decode m_Tape_takeMark.2.1 28 = .ok (.invokevirtual 24, 3) := by decide +kernel
theorem dc_Tape_takeMark_32 : decode m_Tape_takeMark.2.1 32 = .ok (.ireturn, 1) := by decide +kernel
theorem dc_Tape_takeMark_16 : decode m_Tape_takeMark.2.1 16 = .ok (.if_icmp .eq 5, 3) := by decide +kernel
theorem dc_Tape_takeMark_4 : decode m_Tape_takeMark.2.1 4 = .ok (.ifCond .ne 15, 3) := by decide +kernel
set_option maxRecDepth 20000 in
theorem sg_Tape_takeMark_0 {kc ks : Nat} (a0 : Nat) (x1 : Int32) (h : am_H) (Q : Option Value → am_H → Prop) (t : (am_tg h a0 = (9, 4) ∧ ((¬ (am_I h a0 3) = 0 → Q (some (.int 0)) h) ∧ ((am_I h a0 3) = 0 → (am_Ei m_Tape_byteAt 0 0 [.ref a0, .int (am_I h a0 2)] h (fun r4 h3 => ((r4 = x1 → (am_tg h3 a0 = (9, 4) ∧ (am_Ew m_Tape_moveTo 0 0 [.ref a0, .int ((am_I h3 a0 2) + 1)] h3 (fun h7 => Q (some (.int 1)) h7)))) ∧ (¬ r4 = x1 → Q (some (.int 0)) h3)))))))) : am_EI m_Tape_takeMark kc ks 0 [.ref a0, .int x1] [] h Q := by
  refine am_blk_ok (c := 9) (ini := false) (by decide) rfl (fun q => by cases q) bk_Tape_takeMark_0_2 _ 4 _ _ _ bk_Tape_takeMark_0_2_ok rfl ?_
  show (am_tg h a0 = (9, 4) ∧ am_EI m_Tape_takeMark kc ks 4 [.ref a0, .int x1] [.int (am_I h a0 3)] h Q)
  obtain ⟨o1, t⟩ := t
  refine ⟨o1, ?_⟩
  refine am_if_ne (tgt := 19) dc_Tape_takeMark_4 (by decide) (fun c2 => ?_) (fun c2 => ?_)
  · replace t := t.1 c2
    refine am_blk_ok (c := 9) (ini := false) (by decide) rfl (fun q => by cases q) bk_Tape_takeMark_19_1 _ 20 _ _ _ bk_Tape_takeMark_19_1_ok rfl ?_
    show am_EI m_Tape_takeMark kc ks 20 [.ref a0, .int x1] [.int 0] h Q
    exact am_zret dc_Tape_takeMark_20 rfl (Or.inl rfl) t
  · replace t := t.2 c2
    refine am_blk_ok (c := 9) (ini := false) (by decide) rfl (fun q => by cases q) bk_Tape_takeMark_7_3 _ 12 _ _ _ bk_Tape_takeMark_7_3_ok rfl ?_
    show (am_tg h a0 = (9, 4) ∧ am_EI m_Tape_takeMark kc ks 12 [.ref a0, .int x1] [.int (am_I h a0 2), .ref a0] h Q)
    refine ⟨o1, ?_⟩
    refine am_callV (M2 := m_Tape_byteAt) (ci := 9) (a := a0) (kc := kc) (ks := ks) (k2c := 0) (k2s := 0) (as := []) [.int (am_I h a0 2)] dc_Tape_takeMark_12 lk_9_28 im_Tape_byteAt se_Tape_byteAt lm_Tape_byteAt np_Tape_byteAt ⟨Nat.le_of_ble_eq_true rfl, Nat.le_of_ble_eq_true rfl⟩ (fun _ => Nat.le_of_ble_eq_true rfl) (by decide) rfl o1 (am_Ei.end (am_Ei.mono t (fun r4 h3 t => ?_)))
    refine am_blk_ok (c := 9) (ini := false) (by decide) rfl (fun q => by cases q) bk_Tape_takeMark_15_1 _ 16 _ _ _ bk_Tape_takeMark_15_1_ok rfl ?_
    show am_EI m_Tape_takeMark kc ks 16 [.ref a0, .int x1] [.int x1, .int r4] h3 Q
    refine am_ic_eq (tgt := 21) dc_Tape_takeMark_16 (by decide) (fun c5 => ?_) (fun c5 => ?_)
    · replace t := t.1 c5
      refine am_blk_ok (c := 9) (ini := false) (by decide) rfl (fun q => by cases q) bk_Tape_takeMark_21_5 _ 28 _ _ _ bk_Tape_takeMark_21_5_ok rfl ?_
      show (am_tg h3 a0 = (9, 4) ∧ am_EI m_Tape_takeMark kc ks 28 [.ref a0, .int x1] [.int ((am_I h3 a0 2) + 1), .ref a0] h3 Q)
      obtain ⟨o6, t⟩ := t
      refine ⟨o6, ?_⟩
      refine am_callV (M2 := m_Tape_moveTo) (ci := 9) (a := a0) (kc := kc) (ks := ks) (k2c := 0) (k2s := 0) (as := []) [.int ((am_I h3 a0 2) + 1)] dc_Tape_takeMark_28 lk_9_24 im_Tape_moveTo se_Tape_moveTo lm_Tape_moveTo np_Tape_moveTo ⟨Nat.le_of_ble_eq_true rfl, Nat.le_of_ble_eq_true rfl⟩ (fun _ => Nat.le_of_ble_eq_true rfl) (by decide) rfl o6 (am_Ew.end (am_Ew.mono t (fun h7 t => ?_)))
      refine am_blk_ok (c := 9) (ini := false) (by decide) rfl (fun q => by cases q) bk_Tape_takeMark_31_1 _ 32 _ _ _ bk_Tape_takeMark_31_1_ok rfl ?_
      show am_EI m_Tape_takeMark kc ks 32 [.ref a0, .int x1] [.int 1] h7 Q
      exact am_zret dc_Tape_takeMark_32 rfl (Or.inr rfl) t
    · replace t := t.2 c5
      refine am_blk_ok (c := 9) (ini := false) (by decide) rfl (fun q => by cases q) bk_Tape_takeMark_19_1 _ 20 _ _ _ bk_Tape_takeMark_19_1_ok rfl ?_
      show am_EI m_Tape_takeMark kc ks 20 [.ref a0, .int x1] [.int 0] h3 Q
      exact am_zret dc_Tape_takeMark_20 rfl (Or.inl rfl) t
set_option maxRecDepth 20000 in
theorem ev_Tape_takeMark (a0 : Nat) (x1 : Int32) (h : am_H) (Q : Int32 → am_H → Prop) (t : (am_tg h a0 = (9, 4) ∧ ((¬ (am_I h a0 3) = 0 → Q 0 h) ∧ ((am_I h a0 3) = 0 → (am_Ei m_Tape_byteAt 0 0 [.ref a0, .int (am_I h a0 2)] h (fun r4 h3 => ((r4 = x1 → (am_tg h3 a0 = (9, 4) ∧ (am_Ew m_Tape_moveTo 0 0 [.ref a0, .int ((am_I h3 a0 2) + 1)] h3 (fun h7 => Q 1 h7)))) ∧ (¬ r4 = x1 → Q 0 h3)))))))) : am_Ei m_Tape_takeMark 0 0 [.ref a0, .int x1] h Q :=
  am_Ev.of (by decide +kernel) (Nat.le_of_ble_eq_true rfl) (by simp only [List.mem_cons, List.not_mem_nil, or_false]; intro v hv; rcases hv with rfl | rfl; all_goals first | exact trivial) (sg_Tape_takeMark_0 (kc := 0) (ks := 0) a0 x1 h (am_qi Q) t)
def bk_Tape_takeWord_0_2 : List am_E := [(0, .aload_n 0, 1, 0, 0), (1, .getfield 20, 3, 3614, 0)]
theorem bk_Tape_takeWord_0_2_ok : bk_Tape_takeWord_0_2.all (am_ok 9 false m_Tape_takeWord.2.1) = true := by decide +kernel
def bk_Tape_takeWord_26_1 : List am_E := [(26, .iconst 0, 1, 0, 0)]
theorem bk_Tape_takeWord_26_1_ok : bk_Tape_takeWord_26_1.all (am_ok 9 false m_Tape_takeWord.2.1) = true := by decide +kernel
def bk_Tape_takeWord_7_4 : List am_E := [(7, .aload_n 0, 1, 0, 0), (8, .aload_n 0, 1, 0, 0), (9, .getfield 17, 3, 3608, 0), (12, .aload_n 1, 1, 0, 0)]
theorem bk_Tape_takeWord_7_4_ok : bk_Tape_takeWord_7_4.all (am_ok 9 false m_Tape_takeWord.2.1) = true := by decide +kernel
def bk_Tape_takeWord_16_1 : List am_E := [(16, .iadd, 1, 0, 0)]
theorem bk_Tape_takeWord_16_1_ok : bk_Tape_takeWord_16_1.all (am_ok 9 false m_Tape_takeWord.2.1) = true := by decide +kernel
def bk_Tape_takeWord_28_2 : List am_E := [(28, .iconst 0, 1, 0, 0), (29, .istore_n 2, 1, 0, 0)]
theorem bk_Tape_takeWord_28_2_ok : bk_Tape_takeWord_28_2.all (am_ok 9 false m_Tape_takeWord.2.1) = true := by decide +kernel
def bk_Tape_takeWord_30_2 : List am_E := [(30, .iload_n 2, 1, 0, 0), (31, .aload_n 1, 1, 0, 0)]
theorem bk_Tape_takeWord_30_2_ok : bk_Tape_takeWord_30_2.all (am_ok 9 false m_Tape_takeWord.2.1) = true := by decide +kernel
def bk_Tape_takeWord_64_4 : List am_E := [(64, .aload_n 0, 1, 0, 0), (65, .aload_n 0, 1, 0, 0), (66, .getfield 17, 3, 3608, 0), (69, .aload_n 1, 1, 0, 0)]
theorem bk_Tape_takeWord_64_4_ok : bk_Tape_takeWord_64_4.all (am_ok 9 false m_Tape_takeWord.2.1) = true := by decide +kernel
def bk_Tape_takeWord_73_1 : List am_E := [(73, .iadd, 1, 0, 0)]
theorem bk_Tape_takeWord_73_1_ok : bk_Tape_takeWord_73_1.all (am_ok 9 false m_Tape_takeWord.2.1) = true := by decide +kernel
def bk_Tape_takeWord_77_1 : List am_E := [(77, .iconst 1, 1, 0, 1)]
theorem bk_Tape_takeWord_77_1_ok : bk_Tape_takeWord_77_1.all (am_ok 9 false m_Tape_takeWord.2.1) = true := by decide +kernel
def bk_Tape_takeWord_38_5 : List am_E := [(38, .aload_n 0, 1, 0, 0), (39, .aload_n 0, 1, 0, 0), (40, .getfield 17, 3, 3608, 0), (43, .iload_n 2, 1, 0, 0), (44, .iadd, 1, 0, 0)]
theorem bk_Tape_takeWord_38_5_ok : bk_Tape_takeWord_38_5.all (am_ok 9 false m_Tape_takeWord.2.1) = true := by decide +kernel
def bk_Tape_takeWord_48_2 : List am_E := [(48, .aload_n 1, 1, 0, 0), (49, .iload_n 2, 1, 0, 0)]
theorem bk_Tape_takeWord_48_2_ok : bk_Tape_takeWord_48_2.all (am_ok 9 false m_Tape_takeWord.2.1) = true := by decide +kernel
def bk_Tape_takeWord_58_2 : List am_E := [(58, .iinc 2 1, 3, 0, 1), (61, .goto (-31), 3, 0, -31)]
theorem bk_Tape_takeWord_58_2_ok : bk_Tape_takeWord_58_2.all (am_ok 9 false m_Tape_takeWord.2.1) = true := by decide +kernel
def bk_Tape_takeWord_56_1 : List am_E := [(56, .iconst 0, 1, 0, 0)]
theorem bk_Tape_takeWord_56_1_ok : bk_Tape_takeWord_56_1.all (am_ok 9 false m_Tape_takeWord.2.1) = true := by decide +kernel
theorem dc_Tape_takeWord_27 : decode m_Tape_takeWord.2.1 27 = .ok (.ireturn, 1) := by decide +kernel
theorem dc_Tape_takeWord_13 : decode m_Tape_takeWord.2.1 13 = .ok (.invokevirtual 36, 3) := by decide +kernel
theorem dc_Tape_takeWord_17 : decode m_Tape_takeWord.2.1 17 = .ok (.invokevirtual 28, 3) := by decide +kernel
theorem dc_Tape_takeWord_20 : decode m_Tape_takeWord.2.1 20 = .ok (.invokestatic 42, 3) := by decide +kernel
theorem dc_Tape_takeWord_23 : decode m_Tape_takeWord.2.1 23 = .ok (.ifCond .eq 5, 3) := by decide +kernel
theorem dc_Tape_takeWord_4 : decode m_Tape_takeWord.2.1 4 = .ok (.ifCond .ne 22, 3) := by decide +kernel
theorem dc_Tape_takeWord_32 : decode m_Tape_takeWord.2.1 32 = .ok (.invokevirtual 36, 3) := by decide +kernel
theorem dc_Tape_takeWord_70 : decode m_Tape_takeWord.2.1 70 = .ok (.invokevirtual 36, 3) := by decide +kernel
theorem dc_Tape_takeWord_74 : decode m_Tape_takeWord.2.1 74 = .ok (.invokevirtual 24, 3) := by decide +kernel
theorem dc_Tape_takeWord_78 : decode m_Tape_takeWord.2.1 78 = .ok (.ireturn, 1) := by decide +kernel
theorem dc_Tape_takeWord_45 : decode m_Tape_takeWord.2.1 45 = .ok (.invokevirtual 28, 3) := by decide +kernel
theorem dc_Tape_takeWord_50 : decode m_Tape_takeWord.2.1 50 = .ok (.invokevirtual 46, 3) := by decide +kernel
theorem dc_Tape_takeWord_57 : decode m_Tape_takeWord.2.1 57 = .ok (.ireturn, 1) := by decide +kernel
theorem dc_Tape_takeWord_53 : decode m_Tape_takeWord.2.1 53 = .ok (.if_icmp .eq 5, 3) := by decide +kernel
theorem dc_Tape_takeWord_35 : decode m_Tape_takeWord.2.1 35 = .ok (.if_icmp .ge 29, 3) := by decide +kernel
set_option maxRecDepth 20000 in
theorem sg_Tape_takeWord_0 {kc ks : Nat} (a0 j1 : Nat) (h : am_H) (Q : Option Value → am_H → Prop) (t : (am_tg h a0 = (9, 4) ∧ ((¬ (am_I h a0 3) = 0 → Q (some (.int 0)) h) ∧ ((am_I h a0 3) = 0 → (am_isC j1 = true ∧ (j1 < 30 ∧ (am_Ei m_Str_length 0 0 [.retAddr j1] h (fun r6 h5 => (am_tg h5 a0 = (9, 4) ∧ (am_Ei m_Tape_byteAt 0 0 [.ref a0, .int ((am_I h a0 2) + r6)] h5 (fun r9 h8 => (am_Ei m_Tape_isLetter 0 0 [.int r9] h8 (fun r11 h10 => ((r11 = 0 → am_EI m_Tape_takeWord kc ks 30 [.ref a0, .retAddr j1, .int 0] [] h10 Q) ∧ (¬ r11 = 0 → Q (some (.int 0)) h10))))))))))))))) : am_EI m_Tape_takeWord kc ks 0 [.ref a0, .retAddr j1, .float 0] [] h Q := by
  refine am_blk_ok (c := 9) (ini := false) (by decide) rfl (fun q => by cases q) bk_Tape_takeWord_0_2 _ 4 _ _ _ bk_Tape_takeWord_0_2_ok rfl ?_
  show (am_tg h a0 = (9, 4) ∧ am_EI m_Tape_takeWord kc ks 4 [.ref a0, .retAddr j1, .float 0] [.int (am_I h a0 3)] h Q)
  obtain ⟨o1, t⟩ := t
  refine ⟨o1, ?_⟩
  refine am_if_ne (tgt := 26) dc_Tape_takeWord_4 (by decide) (fun c2 => ?_) (fun c2 => ?_)
  · replace t := t.1 c2
    refine am_blk_ok (c := 9) (ini := false) (by decide) rfl (fun q => by cases q) bk_Tape_takeWord_26_1 _ 27 _ _ _ bk_Tape_takeWord_26_1_ok rfl ?_
    show am_EI m_Tape_takeWord kc ks 27 [.ref a0, .retAddr j1, .float 0] [.int 0] h Q
    exact am_zret dc_Tape_takeWord_27 rfl (Or.inl rfl) t
  · replace t := t.2 c2
    refine am_blk_ok (c := 9) (ini := false) (by decide) rfl (fun q => by cases q) bk_Tape_takeWord_7_4 _ 13 _ _ _ bk_Tape_takeWord_7_4_ok rfl ?_
    show (am_tg h a0 = (9, 4) ∧ (am_isC j1 = true ∧ am_EI m_Tape_takeWord kc ks 13 [.ref a0, .retAddr j1, .float 0] [.retAddr j1, .int (am_I h a0 2), .ref a0] h Q))
    obtain ⟨o3, t⟩ := t
    refine ⟨o1, o3, ?_⟩
    obtain ⟨o4, t⟩ := t
    refine am_callVC (M2 := m_Str_length) (j := j1) (kc := kc) (ks := ks) (k2c := 0) (k2s := 0) (as := [.int (am_I h a0 2), .ref a0]) [] dc_Tape_takeWord_13 lk_9_36 im_Str_length se_Str_length lm_Str_length np_Str_length ⟨Nat.le_of_ble_eq_true rfl, Nat.le_of_ble_eq_true rfl⟩ (fun _ => Nat.le_of_ble_eq_true rfl) rfl o4 (am_Ei.end (am_Ei.mono t (fun r6 h5 t => ?_)))
    refine am_blk_ok (c := 9) (ini := false) (by decide) rfl (fun q => by cases q) bk_Tape_takeWord_16_1 _ 17 _ _ _ bk_Tape_takeWord_16_1_ok rfl ?_
    show am_EI m_Tape_takeWord kc ks 17 [.ref a0, .retAddr j1, .float 0] [.int ((am_I h a0 2) + r6), .ref a0] h5 Q
    obtain ⟨o7, t⟩ := t
    refine am_callV (M2 := m_Tape_byteAt) (ci := 9) (a := a0) (kc := kc) (ks := ks) (k2c := 0) (k2s := 0) (as := []) [.int ((am_I h a0 2) + r6)] dc_Tape_takeWord_17 lk_9_28 im_Tape_byteAt se_Tape_byteAt lm_Tape_byteAt np_Tape_byteAt ⟨Nat.le_of_ble_eq_true rfl, Nat.le_of_ble_eq_true rfl⟩ (fun _ => Nat.le_of_ble_eq_true rfl) (by decide) rfl o7 (am_Ei.end (am_Ei.mono t (fun r9 h8 t => ?_)))
    refine am_callS (M2 := m_Tape_isLetter) (kc := kc) (ks := ks) (k2c := 0) (k2s := 0) (as := []) [.int r9] dc_Tape_takeWord_20 lk_9_42 st_Tape_isLetter lm_Tape_isLetter np_Tape_isLetter ⟨Nat.le_of_ble_eq_true rfl, Nat.le_of_ble_eq_true rfl⟩ (fun _ => Nat.le_of_ble_eq_true rfl) (am_Ei.end (am_Ei.mono t (fun r11 h10 t => ?_)))
    refine am_if_eq (tgt := 28) dc_Tape_takeWord_23 (by decide) (fun c12 => ?_) (fun c12 => ?_)
    · replace t := t.1 c12
      refine am_blk_ok (c := 9) (ini := false) (by decide) rfl (fun q => by cases q) bk_Tape_takeWord_28_2 _ 30 _ _ _ bk_Tape_takeWord_28_2_ok rfl ?_
      show am_EI m_Tape_takeWord kc ks 30 [.ref a0, .retAddr j1, .int 0] [] h10 Q
      exact t
    · replace t := t.2 c12
      refine am_blk_ok (c := 9) (ini := false) (by decide) rfl (fun q => by cases q) bk_Tape_takeWord_26_1 _ 27 _ _ _ bk_Tape_takeWord_26_1_ok rfl ?_
      show am_EI m_Tape_takeWord kc ks 27 [.ref a0, .retAddr j1, .float 0] [.int 0] h10 Q
      exact am_zret dc_Tape_takeWord_27 rfl (Or.inl rfl) t
set_option maxRecDepth 20000 in
theorem ev_Tape_takeWord (a0 j1 : Nat) (h : am_H) (Q : Int32 → am_H → Prop) (hc_j1 : am_arg (.retAddr j1)) (t : (am_tg h a0 = (9, 4) ∧ ((¬ (am_I h a0 3) = 0 → Q 0 h) ∧ ((am_I h a0 3) = 0 → (am_isC j1 = true ∧ (j1 < 30 ∧ (am_Ei m_Str_length 0 0 [.retAddr j1] h (fun r6 h5 => (am_tg h5 a0 = (9, 4) ∧ (am_Ei m_Tape_byteAt 0 0 [.ref a0, .int ((am_I h a0 2) + r6)] h5 (fun r9 h8 => (am_Ei m_Tape_isLetter 0 0 [.int r9] h8 (fun r11 h10 => ((r11 = 0 → am_EI m_Tape_takeWord 0 0 30 [.ref a0, .retAddr j1, .int 0] [] h10 (am_qi Q)) ∧ (¬ r11 = 0 → Q 0 h10))))))))))))))) : am_Ei m_Tape_takeWord 0 0 [.ref a0, .retAddr j1] h Q :=
  am_Ev.of (by decide +kernel) (Nat.le_of_ble_eq_true rfl) (by simp only [List.mem_cons, List.not_mem_nil, or_false]; intro v hv; rcases hv with rfl | rfl; all_goals first | exact trivial | exact hc_j1) (sg_Tape_takeWord_0 (kc := 0) (ks := 0) a0 j1 h (am_qi Q) t)
set_option maxRecDepth 20000 in
theorem sg_Tape_takeWord_30 {kc ks : Nat} (a0 j1 : Nat) (x2 : Int32) (h : am_H) (Q : Option Value → am_H → Prop) (t : (am_isC j1 = true ∧ (j1 < 30 ∧ (am_Ei m_Str_length 0 0 [.retAddr j1] h (fun r4 h3 => ((r4 ≤ x2 → (am_tg h3 a0 = (9, 4) ∧ (am_isC j1 = true ∧ (j1 < 30 ∧ (am_Ei m_Str_length 0 0 [.retAddr j1] h3 (fun r10 h9 => (am_tg h9 a0 = (9, 4) ∧ (am_Ew m_Tape_moveTo 0 0 [.ref a0, .int ((am_I h3 a0 2) + r10)] h9 (fun h12 => Q (some (.int 1)) h12))))))))) ∧ (¬ r4 ≤ x2 → (am_tg h3 a0 = (9, 4) ∧ (am_Ei m_Tape_byteAt 0 0 [.ref a0, .int ((am_I h3 a0 2) + x2)] h3 (fun r15 h14 => (am_isC j1 = true ∧ (j1 < 30 ∧ (am_Ei m_Str_charAt 0 0 [.retAddr j1, .int x2] h14 (fun r19 h18 => ((r15 = r19 → am_EI m_Tape_takeWord kc ks 30 [.ref a0, .retAddr j1, .int (x2 + 1)] [] h18 Q) ∧ (¬ r15 = r19 → Q (some (.int 0)) h18)))))))))))))))) : am_EI m_Tape_takeWord kc ks 30 [.ref a0, .retAddr j1, .int x2] [] h Q := by
  refine am_blk_ok (c := 9) (ini := false) (by decide) rfl (fun q => by cases q) bk_Tape_takeWord_30_2 _ 32 _ _ _ bk_Tape_takeWord_30_2_ok rfl ?_
  show (am_isC j1 = true ∧ am_EI m_Tape_takeWord kc ks 32 [.ref a0, .retAddr j1, .int x2] [.retAddr j1, .int x2] h Q)
  obtain ⟨o1, t⟩ := t
  refine ⟨o1, ?_⟩
  obtain ⟨o2, t⟩ := t
  refine am_callVC (M2 := m_Str_length) (j := j1) (kc := kc) (ks := ks) (k2c := 0) (k2s := 0) (as := [.int x2]) [] dc_Tape_takeWord_32 lk_9_36 im_Str_length se_Str_length lm_Str_length np_Str_length ⟨Nat.le_of_ble_eq_true rfl, Nat.le_of_ble_eq_true rfl⟩ (fun _ => Nat.le_of_ble_eq_true rfl) rfl o2 (am_Ei.end (am_Ei.mono t (fun r4 h3 t => ?_)))
  refine am_ic_ge (tgt := 64) dc_Tape_takeWord_35 (by decide) (fun c5 => ?_) (fun c5 => ?_)
  · replace t := t.1 c5
    refine am_blk_ok (c := 9) (ini := false) (by decide) rfl (fun q => by cases q) bk_Tape_takeWord_64_4 _ 70 _ _ _ bk_Tape_takeWord_64_4_ok rfl ?_
    show (am_tg h3 a0 = (9, 4) ∧ (am_isC j1 = true ∧ am_EI m_Tape_takeWord kc ks 70 [.ref a0, .retAddr j1, .int x2] [.retAddr j1, .int (am_I h3 a0 2), .ref a0] h3 Q))
    obtain ⟨o6, o7, t⟩ := t
    refine ⟨o6, o7, ?_⟩
    obtain ⟨o8, t⟩ := t
    refine am_callVC (M2 := m_Str_length) (j := j1) (kc := kc) (ks := ks) (k2c := 0) (k2s := 0) (as := [.int (am_I h3 a0 2), .ref a0]) [] dc_Tape_takeWord_70 lk_9_36 im_Str_length se_Str_length lm_Str_length np_Str_length ⟨Nat.le_of_ble_eq_true rfl, Nat.le_of_ble_eq_true rfl⟩ (fun _ => Nat.le_of_ble_eq_true rfl) rfl o8 (am_Ei.end (am_Ei.mono t (fun r10 h9 t => ?_)))
    refine am_blk_ok (c := 9) (ini := false) (by decide) rfl (fun q => by cases q) bk_Tape_takeWord_73_1 _ 74 _ _ _ bk_Tape_takeWord_73_1_ok rfl ?_
    show am_EI m_Tape_takeWord kc ks 74 [.ref a0, .retAddr j1, .int x2] [.int ((am_I h3 a0 2) + r10), .ref a0] h9 Q
    obtain ⟨o11, t⟩ := t
    refine am_callV (M2 := m_Tape_moveTo) (ci := 9) (a := a0) (kc := kc) (ks := ks) (k2c := 0) (k2s := 0) (as := []) [.int ((am_I h3 a0 2) + r10)] dc_Tape_takeWord_74 lk_9_24 im_Tape_moveTo se_Tape_moveTo lm_Tape_moveTo np_Tape_moveTo ⟨Nat.le_of_ble_eq_true rfl, Nat.le_of_ble_eq_true rfl⟩ (fun _ => Nat.le_of_ble_eq_true rfl) (by decide) rfl o11 (am_Ew.end (am_Ew.mono t (fun h12 t => ?_)))
    refine am_blk_ok (c := 9) (ini := false) (by decide) rfl (fun q => by cases q) bk_Tape_takeWord_77_1 _ 78 _ _ _ bk_Tape_takeWord_77_1_ok rfl ?_
    show am_EI m_Tape_takeWord kc ks 78 [.ref a0, .retAddr j1, .int x2] [.int 1] h12 Q
    exact am_zret dc_Tape_takeWord_78 rfl (Or.inr rfl) t
  · replace t := t.2 c5
    refine am_blk_ok (c := 9) (ini := false) (by decide) rfl (fun q => by cases q) bk_Tape_takeWord_38_5 _ 45 _ _ _ bk_Tape_takeWord_38_5_ok rfl ?_
    show (am_tg h3 a0 = (9, 4) ∧ am_EI m_Tape_takeWord kc ks 45 [.ref a0, .retAddr j1, .int x2] [.int ((am_I h3 a0 2) + x2), .ref a0] h3 Q)
    obtain ⟨o13, t⟩ := t
    refine ⟨o13, ?_⟩
    refine am_callV (M2 := m_Tape_byteAt) (ci := 9) (a := a0) (kc := kc) (ks := ks) (k2c := 0) (k2s := 0) (as := []) [.int ((am_I h3 a0 2) + x2)] dc_Tape_takeWord_45 lk_9_28 im_Tape_byteAt se_Tape_byteAt lm_Tape_byteAt np_Tape_byteAt ⟨Nat.le_of_ble_eq_true rfl, Nat.le_of_ble_eq_true rfl⟩ (fun _ => Nat.le_of_ble_eq_true rfl) (by decide) rfl o13 (am_Ei.end (am_Ei.mono t (fun r15 h14 t => ?_)))
    refine am_blk_ok (c := 9) (ini := false) (by decide) rfl (fun q => by cases q) bk_Tape_takeWord_48_2 _ 50 _ _ _ bk_Tape_takeWord_48_2_ok rfl ?_
    show (am_isC j1 = true ∧ am_EI m_Tape_takeWord kc ks 50 [.ref a0, .retAddr j1, .int x2] [.int x2, .retAddr j1, .int r15] h14 Q)
    obtain ⟨o16, t⟩ := t
    refine ⟨o16, ?_⟩
    obtain ⟨o17, t⟩ := t
    refine am_callVC (M2 := m_Str_charAt) (j := j1) (kc := kc) (ks := ks) (k2c := 0) (k2s := 0) (as := [.int r15]) [.int x2] dc_Tape_takeWord_50 lk_9_46 im_Str_charAt se_Str_charAt lm_Str_charAt np_Str_charAt ⟨Nat.le_of_ble_eq_true rfl, Nat.le_of_ble_eq_true rfl⟩ (fun _ => Nat.le_of_ble_eq_true rfl) rfl o17 (am_Ei.end (am_Ei.mono t (fun r19 h18 t => ?_)))
    refine am_ic_eq (tgt := 58) dc_Tape_takeWord_53 (by decide) (fun c20 => ?_) (fun c20 => ?_)
    · replace t := t.1 c20
      refine am_blk_ok (c := 9) (ini := false) (by decide) rfl (fun q => by cases q) bk_Tape_takeWord_58_2 _ 30 _ _ _ bk_Tape_takeWord_58_2_ok rfl ?_
      show am_EI m_Tape_takeWord kc ks 30 [.ref a0, .retAddr j1, .int (x2 + 1)] [] h18 Q
      exact t
    · replace t := t.2 c20
      refine am_blk_ok (c := 9) (ini := false) (by decide) rfl (fun q => by cases q) bk_Tape_takeWord_56_1 _ 57 _ _ _ bk_Tape_takeWord_56_1_ok rfl ?_
      show am_EI m_Tape_takeWord kc ks 57 [.ref a0, .retAddr j1, .int x2] [.int 0] h18 Q
      exact am_zret dc_Tape_takeWord_57 rfl (Or.inl rfl) t
def bk_Tape_wantMark_0_2 : List am_E := [(0, .aload_n 0, 1, 0, 0), (1, .iload_n 1, 1, 0, 0)]
theorem bk_Tape_wantMark_0_2_ok : bk_Tape_wantMark_0_2.all (am_ok 9 false m_Tape_wantMark.2.1) = true := by decide +kernel
def bk_Tape_wantMark_8_3 : List am_E := [(8, .aload_n 0, 1, 0, 0), (9, .iconst 1, 1, 0, 1), (10, .putfield 20, 3, 3614, 0)]
theorem bk_Tape_wantMark_8_3_ok : bk_Tape_wantMark_8_3.all (am_ok 9 false m_Tape_wantMark.2.1) = true := by decide +kernel
theorem dc_Tape_wantMark_2 : decode m_Tape_wantMark.2.1 2 = .ok (.invokevirtual 32, 3) := by decide +kernel
theorem dc_Tape_wantMark_13 : decode m_Tape_wantMark.2.1 13 = .ok (.return_, 1) := by decide +kernel
theorem dc_Tape_wantMark_5 : decode m_Tape_wantMark.2.1 5 = .ok (.ifCond .ne 8, 3) := by decide +kernel
set_option maxRecDepth 20000 in
theorem sg_Tape_wantMark_0 {kc ks : Nat} (a0 : Nat) (x1 : Int32) (h : am_H) (Q : Option Value → am_H → Prop) (t : (am_tg h a0 = (9, 4) ∧ (am_Ei m_Tape_takeMark 0 0 [.ref a0, .int x1] h (fun r3 h2 => ((¬ r3 = 0 → Q none h2) ∧ (r3 = 0 → (am_tg h2 a0 = (9, 4) ∧ Q none (am_si h2 a0 3 1)))))))) : am_EI m_Tape_wantMark kc ks 0 [.ref a0, .int x1] [] h Q := by
  refine am_blk_ok (c := 9) (ini := false) (by decide) rfl (fun q => by cases q) bk_Tape_wantMark_0_2 _ 2 _ _ _ bk_Tape_wantMark_0_2_ok rfl ?_
  show am_EI m_Tape_wantMark kc ks 2 [.ref a0, .int x1] [.int x1, .ref a0] h Q
  obtain ⟨o1, t⟩ := t
  refine am_callV (M2 := m_Tape_takeMark) (ci := 9) (a := a0) (kc := kc) (ks := ks) (k2c := 0) (k2s := 0) (as := []) [.int x1] dc_Tape_wantMark_2 lk_9_32 im_Tape_takeMark se_Tape_takeMark lm_Tape_takeMark np_Tape_takeMark ⟨Nat.le_of_ble_eq_true rfl, Nat.le_of_ble_eq_true rfl⟩ (fun _ => Nat.le_of_ble_eq_true rfl) (by decide) rfl o1 (am_Ei.end (am_Ei.mono t (fun r3 h2 t => ?_)))
  refine am_if_ne (tgt := 13) dc_Tape_wantMark_5 (by decide) (fun c4 => ?_) (fun c4 => ?_)
  · replace t := t.1 c4
    exact am_vret dc_Tape_wantMark_13 rfl t
  · replace t := t.2 c4
    refine am_blk_ok (c := 9) (ini := false) (by decide) rfl (fun q => by cases q) bk_Tape_wantMark_8_3 _ 13 _ _ _ bk_Tape_wantMark_8_3_ok rfl ?_
    show (am_tg h2 a0 = (9, 4) ∧ (am_b01 1 ∧ am_EI m_Tape_wantMark kc ks 13 [.ref a0, .int x1] [] (am_si h2 a0 3 1) Q))
    obtain ⟨o5, t⟩ := t
    refine ⟨o5, (Or.inr rfl), ?_⟩
    exact am_vret dc_Tape_wantMark_13 rfl t
set_option maxRecDepth 20000 in
theorem ev_Tape_wantMark (a0 : Nat) (x1 : Int32) (h : am_H) (Q : am_H → Prop) (t : (am_tg h a0 = (9, 4) ∧ (am_Ei m_Tape_takeMark 0 0 [.ref a0, .int x1] h (fun r3 h2 => ((¬ r3 = 0 → Q h2) ∧ (r3 = 0 → (am_tg h2 a0 = (9, 4) ∧ Q (am_si h2 a0 3 1)))))))) : am_Ew m_Tape_wantMark 0 0 [.ref a0, .int x1] h Q :=
  am_Ev.of (by decide +kernel) (Nat.le_of_ble_eq_true rfl) (by simp only [List.mem_cons, List.not_mem_nil, or_false]; intro v hv; rcases hv with rfl | rfl; all_goals first | exact trivial) (sg_Tape_wantMark_0 (kc := 0) (ks := 0) a0 x1 h (am_qw Q) t)
def bk_Tape_wantNumber_0_4 : List am_E := [(0, .iconst 0, 1, 0, 0), (1, .istore_n 1, 1, 0, 0), (2, .iconst 0, 1, 0, 0), (3, .istore_n 2, 1, 0, 0)]
theorem bk_Tape_wantNumber_0_4_ok : bk_Tape_wantNumber_0_4.all (am_ok 9 false m_Tape_wantNumber.2.1) = true := by decide +kernel
def bk_Tape_wantNumber_4_2 : List am_E := [(4, .iload_n 1, 1, 0, 0), (5, .iconst 4, 1, 0, 4)]
theorem bk_Tape_wantNumber_4_2_ok : bk_Tape_wantNumber_4_2.all (am_ok 9 false m_Tape_wantNumber.2.1) = true := by decide +kernel
def bk_Tape_wantNumber_50_2 : List am_E := [(50, .aload_n 0, 1, 0, 0), (51, .getfield 20, 3, 3614, 0)]
theorem bk_Tape_wantNumber_50_2_ok : bk_Tape_wantNumber_50_2.all (am_ok 9 false m_Tape_wantNumber.2.1) = true := by decide +kernel
def bk_Tape_wantNumber_66_4 : List am_E := [(66, .aload_n 0, 1, 0, 0), (67, .iconst 1, 1, 0, 1), (68, .putfield 20, 3, 3614, 0), (71, .iconst 0, 1, 0, 0)]
theorem bk_Tape_wantNumber_66_4_ok : bk_Tape_wantNumber_66_4.all (am_ok 9 false m_Tape_wantNumber.2.1) = true := by decide +kernel
def bk_Tape_wantNumber_57_1 : List am_E := [(57, .iload_n 1, 1, 0, 0)]
theorem bk_Tape_wantNumber_57_1_ok : bk_Tape_wantNumber_57_1.all (am_ok 9 false m_Tape_wantNumber.2.1) = true := by decide +kernel
def bk_Tape_wantNumber_61_2 : List am_E := [(61, .iload_n 1, 1, 0, 0), (62, .iconst 4, 1, 0, 4)]
theorem bk_Tape_wantNumber_61_2_ok : bk_Tape_wantNumber_61_2.all (am_ok 9 false m_Tape_wantNumber.2.1) = true := by decide +kernel
def bk_Tape_wantNumber_73_5 : List am_E := [(73, .aload_n 0, 1, 0, 0), (74, .aload_n 0, 1, 0, 0), (75, .getfield 17, 3, 3608, 0), (78, .iload_n 1, 1, 0, 0), (79, .iadd, 1, 0, 0)]
theorem bk_Tape_wantNumber_73_5_ok : bk_Tape_wantNumber_73_5.all (am_ok 9 false m_Tape_wantNumber.2.1) = true := by decide +kernel
def bk_Tape_wantNumber_83_1 : List am_E := [(83, .iload_n 2, 1, 0, 0)]
theorem bk_Tape_wantNumber_83_1_ok : bk_Tape_wantNumber_83_1.all (am_ok 9 false m_Tape_wantNumber.2.1) = true := by decide +kernel
def bk_Tape_wantNumber_9_5 : List am_E := [(9, .aload_n 0, 1, 0, 0), (10, .aload_n 0, 1, 0, 0), (11, .getfield 17, 3, 3608, 0), (14, .iload_n 1, 1, 0, 0), (15, .iadd, 1, 0, 0)]
theorem bk_Tape_wantNumber_9_5_ok : bk_Tape_wantNumber_9_5.all (am_ok 9 false m_Tape_wantNumber.2.1) = true := by decide +kernel
def bk_Tape_wantNumber_25_8 : List am_E := [(25, .iload_n 2, 1, 0, 0), (26, .bipush 10, 2, 0, 10), (28, .imul, 1, 0, 0), (29, .aload_n 0, 1, 0, 0), (30, .aload_n 0, 1, 0, 0), (31, .getfield 17, 3, 3608, 0), (34, .iload_n 1, 1, 0, 0), (35, .iadd, 1, 0, 0)]
theorem bk_Tape_wantNumber_25_8_ok : bk_Tape_wantNumber_25_8.all (am_ok 9 false m_Tape_wantNumber.2.1) = true := by decide +kernel
def bk_Tape_wantNumber_39_6 : List am_E := [(39, .iadd, 1, 0, 0), (40, .bipush 48, 2, 0, 48), (42, .isub, 1, 0, 0), (43, .istore_n 2, 1, 0, 0), (44, .iinc 1 1, 3, 0, 1), (47, .goto (-43), 3, 0, -43)]
theorem bk_Tape_wantNumber_39_6_ok : bk_Tape_wantNumber_39_6.all (am_ok 9 false m_Tape_wantNumber.2.1) = true := by decide +kernel
theorem dc_Tape_wantNumber_72 : decode m_Tape_wantNumber.2.1 72 = .ok (.ireturn, 1) := by decide +kernel
theorem dc_Tape_wantNumber_80 : decode m_Tape_wantNumber.2.1 80 = .ok (.invokevirtual 24, 3) := by decide +kernel
theorem dc_Tape_wantNumber_84 : decode m_Tape_wantNumber.2.1 84 = .ok (.ireturn, 1) := by decide +kernel
theorem dc_Tape_wantNumber_63 : decode m_Tape_wantNumber.2.1 63 = .ok (.if_icmp .le 10, 3) := by decide +kernel
theorem dc_Tape_wantNumber_58 : decode m_Tape_wantNumber.2.1 58 = .ok (.ifCond .eq 8, 3) := by decide +kernel
theorem dc_Tape_wantNumber_54 : decode m_Tape_wantNumber.2.1 54 = .ok (.ifCond .ne 12, 3) := by decide +kernel
theorem dc_Tape_wantNumber_16 : decode m_Tape_wantNumber.2.1 16 = .ok (.invokevirtual 28, 3) := by decide +kernel
theorem dc_Tape_wantNumber_19 : decode m_Tape_wantNumber.2.1 19 = .ok (.invokestatic 54, 3) := by decide +kernel
theorem dc_Tape_wantNumber_36 : decode m_Tape_wantNumber.2.1 36 = .ok (.invokevirtual 28, 3) := by decide +kernel
theorem dc_Tape_wantNumber_22 : decode m_Tape_wantNumber.2.1 22 = .ok (.ifCond .eq 28, 3) := by decide +kernel
theorem dc_Tape_wantNumber_6 : decode m_Tape_wantNumber.2.1 6 = .ok (.if_icmp .gt 44, 3) := by decide +kernel
set_option maxRecDepth 20000 in
theorem sg_Tape_wantNumber_0 {kc ks : Nat} (a0 : Nat) (h : am_H) (Q : Option Value → am_H → Prop) (t : am_EI m_Tape_wantNumber kc ks 4 [.ref a0, .int 0, .int 0] [] h Q) : am_EI m_Tape_wantNumber kc ks 0 [.ref a0, .float 0, .float 0] [] h Q := by
  refine am_blk_ok (c := 9) (ini := false) (by decide) rfl (fun q => by cases q) bk_Tape_wantNumber_0_4 _ 4 _ _ _ bk_Tape_wantNumber_0_4_ok rfl ?_
  show am_EI m_Tape_wantNumber kc ks 4 [.ref a0, .int 0, .int 0] [] h Q
  exact t
set_option maxRecDepth 20000 in
theorem ev_Tape_wantNumber (a0 : Nat) (h : am_H) (Q : Int32 → am_H → Prop) (t : am_EI m_Tape_wantNumber 0 0 4 [.ref a0, .int 0, .int 0] [] h (am_qi Q)) : am_Ei m_Tape_wantNumber 0 0 [.ref a0] h Q :=
  am_Ev.of (by decide +kernel) (Nat.le_of_ble_eq_true rfl) (by simp only [List.mem_cons, List.not_mem_nil, or_false]; intro v hv; rcases hv with rfl; all_goals first | exact trivial) (sg_Tape_wantNumber_0 (kc := 0) (ks := 0) a0 h (am_qi Q) t)
set_option maxRecDepth 20000 in
theorem sg_Tape_wantNumber_4 {kc ks : Nat} (a0 : Nat) (x1 x2 : Int32) (h : am_H) (Q : Option Value → am_H → Prop) (t : ((4 < x1 → (am_tg h a0 = (9, 4) ∧ ((¬ (am_I h a0 3) = 0 → Q (some (.int 0)) (am_si h a0 3 1)) ∧ ((am_I h a0 3) = 0 → ((x1 = 0 → Q (some (.int 0)) (am_si h a0 3 1)) ∧ (¬ x1 = 0 → ((x1 ≤ 4 → (am_Ew m_Tape_moveTo 0 0 [.ref a0, .int ((am_I h a0 2) + x1)] h (fun h6 => Q (some (.int x2)) h6))) ∧ (¬ x1 ≤ 4 → Q (some (.int 0)) (am_si h a0 3 1))))))))) ∧ (¬ 4 < x1 → (am_tg h a0 = (9, 4) ∧ (am_Ei m_Tape_byteAt 0 0 [.ref a0, .int ((am_I h a0 2) + x1)] h (fun r9 h8 => (am_Ei m_Tape_isDigit 0 0 [.int r9] h8 (fun r11 h10 => ((r11 = 0 → (am_tg h10 a0 = (9, 4) ∧ ((¬ (am_I h10 a0 3) = 0 → Q (some (.int 0)) (am_si h10 a0 3 1)) ∧ ((am_I h10 a0 3) = 0 → ((x1 = 0 → Q (some (.int 0)) (am_si h10 a0 3 1)) ∧ (¬ x1 = 0 → ((x1 ≤ 4 → (am_Ew m_Tape_moveTo 0 0 [.ref a0, .int ((am_I h10 a0 2) + x1)] h10 (fun h17 => Q (some (.int x2)) h17))) ∧ (¬ x1 ≤ 4 → Q (some (.int 0)) (am_si h10 a0 3 1))))))))) ∧ (¬ r11 = 0 → (am_tg h10 a0 = (9, 4) ∧ (am_Ei m_Tape_byteAt 0 0 [.ref a0, .int ((am_I h10 a0 2) + x1)] h10 (fun r20 h19 => am_EI m_Tape_wantNumber kc ks 4 [.ref a0, .int (x1 + 1), .int (((x2 * 10) + r20) - 48)] [] h19 Q))))))))))))) : am_EI m_Tape_wantNumber kc ks 4 [.ref a0, .int x1, .int x2] [] h Q := by
  refine am_blk_ok (c := 9) (ini := false) (by decide) rfl (fun q => by cases q) bk_Tape_wantNumber_4_2 _ 6 _ _ _ bk_Tape_wantNumber_4_2_ok rfl ?_
  show am_EI m_Tape_wantNumber kc ks 6 [.ref a0, .int x1, .int x2] [.int 4, .int x1] h Q
  refine am_ic_gt (tgt := 50) dc_Tape_wantNumber_6 (by decide) (fun c1 => ?_) (fun c1 => ?_)
  · replace t := t.1 c1
    refine am_blk_ok (c := 9) (ini := false) (by decide) rfl (fun q => by cases q) bk_Tape_wantNumber_50_2 _ 54 _ _ _ bk_Tape_wantNumber_50_2_ok rfl ?_
    show (am_tg h a0 = (9, 4) ∧ am_EI m_Tape_wantNumber kc ks 54 [.ref a0, .int x1, .int x2] [.int (am_I h a0 3)] h Q)
    obtain ⟨o2, t⟩ := t
    refine ⟨o2, ?_⟩
    refine am_if_ne (tgt := 66) dc_Tape_wantNumber_54 (by decide) (fun c3 => ?_) (fun c3 => ?_)
    · replace t := t.1 c3
      refine am_blk_ok (c := 9) (ini := false) (by decide) rfl (fun q => by cases q) bk_Tape_wantNumber_66_4 _ 72 _ _ _ bk_Tape_wantNumber_66_4_ok rfl ?_
      show (am_tg h a0 = (9, 4) ∧ (am_b01 1 ∧ am_EI m_Tape_wantNumber kc ks 72 [.ref a0, .int x1, .int x2] [.int 0] (am_si h a0 3 1) Q))
      refine ⟨o2, (Or.inr rfl), ?_⟩
      exact am_iret dc_Tape_wantNumber_72 rfl t
    · replace t := t.2 c3
      refine am_blk_ok (c := 9) (ini := false) (by decide) rfl (fun q => by cases q) bk_Tape_wantNumber_57_1 _ 58 _ _ _ bk_Tape_wantNumber_57_1_ok rfl ?_
      show am_EI m_Tape_wantNumber kc ks 58 [.ref a0, .int x1, .int x2] [.int x1] h Q
      refine am_if_eq (tgt := 66) dc_Tape_wantNumber_58 (by decide) (fun c4 => ?_) (fun c4 => ?_)
      · replace t := t.1 c4
        refine am_blk_ok (c := 9) (ini := false) (by decide) rfl (fun q => by cases q) bk_Tape_wantNumber_66_4 _ 72 _ _ _ bk_Tape_wantNumber_66_4_ok rfl ?_
        show (am_tg h a0 = (9, 4) ∧ (am_b01 1 ∧ am_EI m_Tape_wantNumber kc ks 72 [.ref a0, .int x1, .int x2] [.int 0] (am_si h a0 3 1) Q))
        refine ⟨o2, (Or.inr rfl), ?_⟩
        exact am_iret dc_Tape_wantNumber_72 rfl t
      · replace t := t.2 c4
        refine am_blk_ok (c := 9) (ini := false) (by decide) rfl (fun q => by cases q) bk_Tape_wantNumber_61_2 _ 63 _ _ _ bk_Tape_wantNumber_61_2_ok rfl ?_
        show am_EI m_Tape_wantNumber kc ks 63 [.ref a0, .int x1, .int x2] [.int 4, .int x1] h Q
        refine am_ic_le (tgt := 73) dc_Tape_wantNumber_63 (by decide) (fun c5 => ?_) (fun c5 => ?_)
        · replace t := t.1 c5
          refine am_blk_ok (c := 9) (ini := false) (by decide) rfl (fun q => by cases q) bk_Tape_wantNumber_73_5 _ 80 _ _ _ bk_Tape_wantNumber_73_5_ok rfl ?_
          show (am_tg h a0 = (9, 4) ∧ am_EI m_Tape_wantNumber kc ks 80 [.ref a0, .int x1, .int x2] [.int ((am_I h a0 2) + x1), .ref a0] h Q)
          refine ⟨o2, ?_⟩
          refine am_callV (M2 := m_Tape_moveTo) (ci := 9) (a := a0) (kc := kc) (ks := ks) (k2c := 0) (k2s := 0) (as := []) [.int ((am_I h a0 2) + x1)] dc_Tape_wantNumber_80 lk_9_24 im_Tape_moveTo se_Tape_moveTo lm_Tape_moveTo np_Tape_moveTo ⟨Nat.le_of_ble_eq_true rfl, Nat.le_of_ble_eq_true rfl⟩ (fun _ => Nat.le_of_ble_eq_true rfl) (by decide) rfl o2 (am_Ew.end (am_Ew.mono t (fun h6 t => ?_)))
          refine am_blk_ok (c := 9) (ini := false) (by decide) rfl (fun q => by cases q) bk_Tape_wantNumber_83_1 _ 84 _ _ _ bk_Tape_wantNumber_83_1_ok rfl ?_
          show am_EI m_Tape_wantNumber kc ks 84 [.ref a0, .int x1, .int x2] [.int x2] h6 Q
          exact am_iret dc_Tape_wantNumber_84 rfl t
        · replace t := t.2 c5
          refine am_blk_ok (c := 9) (ini := false) (by decide) rfl (fun q => by cases q) bk_Tape_wantNumber_66_4 _ 72 _ _ _ bk_Tape_wantNumber_66_4_ok rfl ?_
          show (am_tg h a0 = (9, 4) ∧ (am_b01 1 ∧ am_EI m_Tape_wantNumber kc ks 72 [.ref a0, .int x1, .int x2] [.int 0] (am_si h a0 3 1) Q))
          refine ⟨o2, (Or.inr rfl), ?_⟩
          exact am_iret dc_Tape_wantNumber_72 rfl t
  · replace t := t.2 c1
    refine am_blk_ok (c := 9) (ini := false) (by decide) rfl (fun q => by cases q) bk_Tape_wantNumber_9_5 _ 16 _ _ _ bk_Tape_wantNumber_9_5_ok rfl ?_
    show (am_tg h a0 = (9, 4) ∧ am_EI m_Tape_wantNumber kc ks 16 [.ref a0, .int x1, .int x2] [.int ((am_I h a0 2) + x1), .ref a0] h Q)
    obtain ⟨o7, t⟩ := t
    refine ⟨o7, ?_⟩
    refine am_callV (M2 := m_Tape_byteAt) (ci := 9) (a := a0) (kc := kc) (ks := ks) (k2c := 0) (k2s := 0) (as := []) [.int ((am_I h a0 2) + x1)] dc_Tape_wantNumber_16 lk_9_28 im_Tape_byteAt se_Tape_byteAt lm_Tape_byteAt np_Tape_byteAt ⟨Nat.le_of_ble_eq_true rfl, Nat.le_of_ble_eq_true rfl⟩ (fun _ => Nat.le_of_ble_eq_true rfl) (by decide) rfl o7 (am_Ei.end (am_Ei.mono t (fun r9 h8 t => ?_)))
    refine am_callS (M2 := m_Tape_isDigit) (kc := kc) (ks := ks) (k2c := 0) (k2s := 0) (as := []) [.int r9] dc_Tape_wantNumber_19 lk_9_54 st_Tape_isDigit lm_Tape_isDigit np_Tape_isDigit ⟨Nat.le_of_ble_eq_true rfl, Nat.le_of_ble_eq_true rfl⟩ (fun _ => Nat.le_of_ble_eq_true rfl) (am_Ei.end (am_Ei.mono t (fun r11 h10 t => ?_)))
    refine am_if_eq (tgt := 50) dc_Tape_wantNumber_22 (by decide) (fun c12 => ?_) (fun c12 => ?_)
    · replace t := t.1 c12
      refine am_blk_ok (c := 9) (ini := false) (by decide) rfl (fun q => by cases q) bk_Tape_wantNumber_50_2 _ 54 _ _ _ bk_Tape_wantNumber_50_2_ok rfl ?_
      show (am_tg h10 a0 = (9, 4) ∧ am_EI m_Tape_wantNumber kc ks 54 [.ref a0, .int x1, .int x2] [.int (am_I h10 a0 3)] h10 Q)
      obtain ⟨o13, t⟩ := t
      refine ⟨o13, ?_⟩
      refine am_if_ne (tgt := 66) dc_Tape_wantNumber_54 (by decide) (fun c14 => ?_) (fun c14 => ?_)
      · replace t := t.1 c14
        refine am_blk_ok (c := 9) (ini := false) (by decide) rfl (fun q => by cases q) bk_Tape_wantNumber_66_4 _ 72 _ _ _ bk_Tape_wantNumber_66_4_ok rfl ?_
        show (am_tg h10 a0 = (9, 4) ∧ (am_b01 1 ∧ am_EI m_Tape_wantNumber kc ks 72 [.ref a0, .int x1, .int x2] [.int 0] (am_si h10 a0 3 1) Q))
        refine ⟨o13, (Or.inr rfl), ?_⟩
        exact am_iret dc_Tape_wantNumber_72 rfl t
      · replace t := t.2 c14
        refine am_blk_ok (c := 9) (ini := false) (by decide) rfl (fun q => by cases q) bk_Tape_wantNumber_57_1 _ 58 _ _ _ bk_Tape_wantNumber_57_1_ok rfl ?_
        show am_EI m_Tape_wantNumber kc ks 58 [.ref a0, .int x1, .int x2] [.int x1] h10 Q
        refine am_if_eq (tgt := 66) dc_Tape_wantNumber_58 (by decide) (fun c15 => ?_) (fun c15 => ?_)
        · replace t := t.1 c15
          refine am_blk_ok (c := 9) (ini := false) (by decide) rfl (fun q => by cases q) bk_Tape_wantNumber_66_4 _ 72 _ _ _ bk_Tape_wantNumber_66_4_ok rfl ?_
          show (am_tg h10 a0 = (9, 4) ∧ (am_b01 1 ∧ am_EI m_Tape_wantNumber kc ks 72 [.ref a0, .int x1, .int x2] [.int 0] (am_si h10 a0 3 1) Q))
          refine ⟨o13, (Or.inr rfl), ?_⟩
          exact am_iret dc_Tape_wantNumber_72 rfl t
        · replace t := t.2 c15
          refine am_blk_ok (c := 9) (ini := false) (by decide) rfl (fun q => by cases q) bk_Tape_wantNumber_61_2 _ 63 _ _ _ bk_Tape_wantNumber_61_2_ok rfl ?_
          show am_EI m_Tape_wantNumber kc ks 63 [.ref a0, .int x1, .int x2] [.int 4, .int x1] h10 Q
          refine am_ic_le (tgt := 73) dc_Tape_wantNumber_63 (by decide) (fun c16 => ?_) (fun c16 => ?_)
          · replace t := t.1 c16
            refine am_blk_ok (c := 9) (ini := false) (by decide) rfl (fun q => by cases q) bk_Tape_wantNumber_73_5 _ 80 _ _ _ bk_Tape_wantNumber_73_5_ok rfl ?_
            show (am_tg h10 a0 = (9, 4) ∧ am_EI m_Tape_wantNumber kc ks 80 [.ref a0, .int x1, .int x2] [.int ((am_I h10 a0 2) + x1), .ref a0] h10 Q)
            refine ⟨o13, ?_⟩
            refine am_callV (M2 := m_Tape_moveTo) (ci := 9) (a := a0) (kc := kc) (ks := ks) (k2c := 0) (k2s := 0) (as := []) [.int ((am_I h10 a0 2) + x1)] dc_Tape_wantNumber_80 lk_9_24 im_Tape_moveTo se_Tape_moveTo lm_Tape_moveTo np_Tape_moveTo ⟨Nat.le_of_ble_eq_true rfl, Nat.le_of_ble_eq_true rfl⟩ (fun _ => Nat.le_of_ble_eq_true rfl) (by decide) rfl o13 (am_Ew.end (am_Ew.mono t (fun h17 t => ?_)))
            refine am_blk_ok (c := 9) (ini := false) (by decide) rfl (fun q => by cases q) bk_Tape_wantNumber_83_1 _ 84 _ _ _ bk_Tape_wantNumber_83_1_ok rfl ?_
            show am_EI m_Tape_wantNumber kc ks 84 [.ref a0, .int x1, .int x2] [.int x2] h17 Q
            exact am_iret dc_Tape_wantNumber_84 rfl t
          · replace t := t.2 c16
            refine am_blk_ok (c := 9) (ini := false) (by decide) rfl (fun q => by cases q) bk_Tape_wantNumber_66_4 _ 72 _ _ _ bk_Tape_wantNumber_66_4_ok rfl ?_
            show (am_tg h10 a0 = (9, 4) ∧ (am_b01 1 ∧ am_EI m_Tape_wantNumber kc ks 72 [.ref a0, .int x1, .int x2] [.int 0] (am_si h10 a0 3 1) Q))
            refine ⟨o13, (Or.inr rfl), ?_⟩
            exact am_iret dc_Tape_wantNumber_72 rfl t
    · replace t := t.2 c12
      refine am_blk_ok (c := 9) (ini := false) (by decide) rfl (fun q => by cases q) bk_Tape_wantNumber_25_8 _ 36 _ _ _ bk_Tape_wantNumber_25_8_ok rfl ?_
      show (am_tg h10 a0 = (9, 4) ∧ am_EI m_Tape_wantNumber kc ks 36 [.ref a0, .int x1, .int x2] [.int ((am_I h10 a0 2) + x1), .ref a0, .int (x2 * 10)] h10 Q)
      obtain ⟨o18, t⟩ := t
      refine ⟨o18, ?_⟩
      refine am_callV (M2 := m_Tape_byteAt) (ci := 9) (a := a0) (kc := kc) (ks := ks) (k2c := 0) (k2s := 0) (as := [.int (x2 * 10)]) [.int ((am_I h10 a0 2) + x1)] dc_Tape_wantNumber_36 lk_9_28 im_Tape_byteAt se_Tape_byteAt lm_Tape_byteAt np_Tape_byteAt ⟨Nat.le_of_ble_eq_true rfl, Nat.le_of_ble_eq_true rfl⟩ (fun _ => Nat.le_of_ble_eq_true rfl) (by decide) rfl o18 (am_Ei.end (am_Ei.mono t (fun r20 h19 t => ?_)))
      refine am_blk_ok (c := 9) (ini := false) (by decide) rfl (fun q => by cases q) bk_Tape_wantNumber_39_6 _ 4 _ _ _ bk_Tape_wantNumber_39_6_ok rfl ?_
      show am_EI m_Tape_wantNumber kc ks 4 [.ref a0, .int (x1 + 1), .int (((x2 * 10) + r20) - 48)] [] h19 Q
      exact t
def bk_Tape_wantSize_0_2 : List am_E := [(0, .aload_n 0, 1, 0, 0), (1, .bipush 45, 2, 0, 45)]
theorem bk_Tape_wantSize_0_2_ok : bk_Tape_wantSize_0_2.all (am_ok 9 false m_Tape_wantSize.2.1) = true := by decide +kernel
def bk_Tape_wantSize_6_2 : List am_E := [(6, .istore_n 1, 1, 0, 0), (7, .aload_n 0, 1, 0, 0)]
theorem bk_Tape_wantSize_6_2_ok : bk_Tape_wantSize_6_2.all (am_ok 9 false m_Tape_wantSize.2.1) = true := by decide +kernel
def bk_Tape_wantSize_11_2 : List am_E := [(11, .istore_n 2, 1, 0, 0), (12, .iload_n 1, 1, 0, 0)]
theorem bk_Tape_wantSize_11_2_ok : bk_Tape_wantSize_11_2.all (am_ok 9 false m_Tape_wantSize.2.1) = true := by decide +kernel
def bk_Tape_wantSize_21_1 : List am_E := [(21, .iload_n 2, 1, 0, 0)]
theorem bk_Tape_wantSize_21_1_ok : bk_Tape_wantSize_21_1.all (am_ok 9 false m_Tape_wantSize.2.1) = true := by decide +kernel
def bk_Tape_wantSize_16_3 : List am_E := [(16, .iload_n 2, 1, 0, 0), (17, .ineg, 1, 0, 0), (18, .goto 4, 3, 0, 4)]
theorem bk_Tape_wantSize_16_3_ok : bk_Tape_wantSize_16_3.all (am_ok 9 false m_Tape_wantSize.2.1) = true := by decide +kernel
theorem dc_Tape_wantSize_3 : decode m_Tape_wantSize.2.1 3 = .ok (.invokevirtual 32, 3) := by decide +kernel
theorem dc_Tape_wantSize_8 : decode m_Tape_wantSize.2.1 8 = .ok (.invokevirtual 57, 3) := by decide +kernel
theorem dc_Tape_wantSize_22 : decode m_Tape_wantSize.2.1 22 = .ok (.ireturn, 1) := by decide +kernel
theorem dc_Tape_wantSize_13 : decode m_Tape_wantSize.2.1 13 = .ok (.ifCond .eq 8, 3) := by decide +kernel
set_option maxRecDepth 20000 in
theorem sg_Tape_wantSize_0 {kc ks : Nat} (a0 : Nat) (h : am_H) (Q : Option Value → am_H → Prop) (t : (am_tg h a0 = (9, 4) ∧ (am_Ei m_Tape_takeMark 0 0 [.ref a0, .int 45] h (fun r3 h2 => (am_tg h2 a0 = (9, 4) ∧ (am_Ei m_Tape_wantNumber 0 0 [.ref a0] h2 (fun r6 h5 => ((r3 = 0 → Q (some (.int r6)) h5) ∧ (¬ r3 = 0 → Q (some (.int (-r6))) h5))))))))) : am_EI m_Tape_wantSize kc ks 0 [.ref a0, .float 0, .float 0] [] h Q := by
  refine am_blk_ok (c := 9) (ini := false) (by decide) rfl (fun q => by cases q) bk_Tape_wantSize_0_2 _ 3 _ _ _ bk_Tape_wantSize_0_2_ok rfl ?_
  show am_EI m_Tape_wantSize kc ks 3 [.ref a0, .float 0, .float 0] [.int 45, .ref a0] h Q
  obtain ⟨o1, t⟩ := t
  refine am_callV (M2 := m_Tape_takeMark) (ci := 9) (a := a0) (kc := kc) (ks := ks) (k2c := 0) (k2s := 0) (as := []) [.int 45] dc_Tape_wantSize_3 lk_9_32 im_Tape_takeMark se_Tape_takeMark lm_Tape_takeMark np_Tape_takeMark ⟨Nat.le_of_ble_eq_true rfl, Nat.le_of_ble_eq_true rfl⟩ (fun _ => Nat.le_of_ble_eq_true rfl) (by decide) rfl o1 (am_Ei.end (am_Ei.mono t (fun r3 h2 t => ?_)))
  refine am_blk_ok (c := 9) (ini := false) (by decide) rfl (fun q => by cases q) bk_Tape_wantSize_6_2 _ 8 _ _ _ bk_Tape_wantSize_6_2_ok rfl ?_
  show am_EI m_Tape_wantSize kc ks 8 [.ref a0, .int r3, .float 0] [.ref a0] h2 Q
  obtain ⟨o4, t⟩ := t
  refine am_callV (M2 := m_Tape_wantNumber) (ci := 9) (a := a0) (kc := kc) (ks := ks) (k2c := 0) (k2s := 0) (as := []) [] dc_Tape_wantSize_8 lk_9_57 im_Tape_wantNumber se_Tape_wantNumber lm_Tape_wantNumber np_Tape_wantNumber ⟨Nat.le_of_ble_eq_true rfl, Nat.le_of_ble_eq_true rfl⟩ (fun _ => Nat.le_of_ble_eq_true rfl) (by decide) rfl o4 (am_Ei.end (am_Ei.mono t (fun r6 h5 t => ?_)))
  refine am_blk_ok (c := 9) (ini := false) (by decide) rfl (fun q => by cases q) bk_Tape_wantSize_11_2 _ 13 _ _ _ bk_Tape_wantSize_11_2_ok rfl ?_
  show am_EI m_Tape_wantSize kc ks 13 [.ref a0, .int r3, .int r6] [.int r3] h5 Q
  refine am_if_eq (tgt := 21) dc_Tape_wantSize_13 (by decide) (fun c7 => ?_) (fun c7 => ?_)
  · replace t := t.1 c7
    refine am_blk_ok (c := 9) (ini := false) (by decide) rfl (fun q => by cases q) bk_Tape_wantSize_21_1 _ 22 _ _ _ bk_Tape_wantSize_21_1_ok rfl ?_
    show am_EI m_Tape_wantSize kc ks 22 [.ref a0, .int r3, .int r6] [.int r6] h5 Q
    exact am_iret dc_Tape_wantSize_22 rfl t
  · replace t := t.2 c7
    refine am_blk_ok (c := 9) (ini := false) (by decide) rfl (fun q => by cases q) bk_Tape_wantSize_16_3 _ 22 _ _ _ bk_Tape_wantSize_16_3_ok rfl ?_
    show am_EI m_Tape_wantSize kc ks 22 [.ref a0, .int r3, .int r6] [.int (-r6)] h5 Q
    exact am_iret dc_Tape_wantSize_22 rfl t
set_option maxRecDepth 20000 in
theorem ev_Tape_wantSize (a0 : Nat) (h : am_H) (Q : Int32 → am_H → Prop) (t : (am_tg h a0 = (9, 4) ∧ (am_Ei m_Tape_takeMark 0 0 [.ref a0, .int 45] h (fun r3 h2 => (am_tg h2 a0 = (9, 4) ∧ (am_Ei m_Tape_wantNumber 0 0 [.ref a0] h2 (fun r6 h5 => ((r3 = 0 → Q r6 h5) ∧ (¬ r3 = 0 → Q (-r6) h5))))))))) : am_Ei m_Tape_wantSize 0 0 [.ref a0] h Q :=
  am_Ev.of (by decide +kernel) (Nat.le_of_ble_eq_true rfl) (by simp only [List.mem_cons, List.not_mem_nil, or_false]; intro v hv; rcases hv with rfl; all_goals first | exact trivial) (sg_Tape_wantSize_0 (kc := 0) (ks := 0) a0 h (am_qi Q) t)
def bk_Tape_wantStep_0_2 : List am_E := [(0, .aload_n 0, 1, 0, 0), (1, .bipush 43, 2, 0, 43)]
theorem bk_Tape_wantStep_0_2_ok : bk_Tape_wantStep_0_2.all (am_ok 9 false m_Tape_wantStep.2.1) = true := by decide +kernel
def bk_Tape_wantStep_14_2 : List am_E := [(14, .aload_n 0, 1, 0, 0), (15, .bipush 45, 2, 0, 45)]
theorem bk_Tape_wantStep_14_2_ok : bk_Tape_wantStep_14_2.all (am_ok 9 false m_Tape_wantStep.2.1) = true := by decide +kernel
def bk_Tape_wantStep_20_1 : List am_E := [(20, .aload_n 0, 1, 0, 0)]
theorem bk_Tape_wantStep_20_1_ok : bk_Tape_wantStep_20_1.all (am_ok 9 false m_Tape_wantStep.2.1) = true := by decide +kernel
def bk_Tape_wantStep_24_1 : List am_E := [(24, .ineg, 1, 0, 0)]
theorem bk_Tape_wantStep_24_1_ok : bk_Tape_wantStep_24_1.all (am_ok 9 false m_Tape_wantStep.2.1) = true := by decide +kernel
def bk_Tape_wantStep_9_1 : List am_E := [(9, .aload_n 0, 1, 0, 0)]
theorem bk_Tape_wantStep_9_1_ok : bk_Tape_wantStep_9_1.all (am_ok 9 false m_Tape_wantStep.2.1) = true := by decide +kernel
theorem dc_Tape_wantStep_3 : decode m_Tape_wantStep.2.1 3 = .ok (.invokevirtual 32, 3) := by decide +kernel
theorem dc_Tape_wantStep_17 : decode m_Tape_wantStep.2.1 17 = .ok (.invokevirtual 60, 3) := by decide +kernel
theorem dc_Tape_wantStep_21 : decode m_Tape_wantStep.2.1 21 = .ok (.invokevirtual 57, 3) := by decide +kernel
theorem dc_Tape_wantStep_25 : decode m_Tape_wantStep.2.1 25 = .ok (.ireturn, 1) := by decide +kernel
theorem dc_Tape_wantStep_10 : decode m_Tape_wantStep.2.1 10 = .ok (.invokevirtual 57, 3) := by decide +kernel
theorem dc_Tape_wantStep_13 : decode m_Tape_wantStep.2.1 13 = .ok (.ireturn, 1) := by decide +kernel
theorem dc_Tape_wantStep_6 : decode m_Tape_wantStep.2.1 6 = .ok (.ifCond .eq 8, 3) := by decide +kernel
set_option maxRecDepth 20000 in
theorem sg_Tape_wantStep_0 {kc ks : Nat} (a0 : Nat) (h : am_H) (Q : Option Value → am_H → Prop) (t : (am_tg h a0 = (9, 4) ∧ (am_Ei m_Tape_takeMark 0 0 [.ref a0, .int 43] h (fun r3 h2 => ((r3 = 0 → (am_tg h2 a0 = (9, 4) ∧ (am_Ew m_Tape_wantMark 0 0 [.ref a0, .int 45] h2 (fun h6 => (am_tg h6 a0 = (9, 4) ∧ (am_Ei m_Tape_wantNumber 0 0 [.ref a0] h6 (fun r9 h8 => Q (some (.int (-r9))) h8))))))) ∧ (¬ r3 = 0 → (am_tg h2 a0 = (9, 4) ∧ (am_Ei m_Tape_wantNumber 0 0 [.ref a0] h2 (fun r12 h11 => Q (some (.int r12)) h11))))))))) : am_EI m_Tape_wantStep kc ks 0 [.ref a0] [] h Q := by
  refine am_blk_ok (c := 9) (ini := false) (by decide) rfl (fun q => by cases q) bk_Tape_wantStep_0_2 _ 3 _ _ _ bk_Tape_wantStep_0_2_ok rfl ?_
  show am_EI m_Tape_wantStep kc ks 3 [.ref a0] [.int 43, .ref a0] h Q
  obtain ⟨o1, t⟩ := t
  refine am_callV (M2 := m_Tape_takeMark) (ci := 9) (a := a0) (kc := kc) (ks := ks) (k2c := 0) (k2s := 0) (as := []) [.int 43] dc_Tape_wantStep_3 lk_9_32 im_Tape_takeMark se_Tape_takeMark lm_Tape_takeMark np_Tape_takeMark ⟨Nat.le_of_ble_eq_true rfl, Nat.le_of_ble_eq_true rfl⟩ (fun _ => Nat.le_of_ble_eq_true rfl) (by decide) rfl o1 (am_Ei.end (am_Ei.mono t (fun r3 h2 t => ?_)))
  refine am_if_eq (tgt := 14) dc_Tape_wantStep_6 (by decide) (fun c4 => ?_) (fun c4 => ?_)
  · replace t := t.1 c4
    refine am_blk_ok (c := 9) (ini := false) (by decide) rfl (fun q => by cases q) bk_Tape_wantStep_14_2 _ 17 _ _ _ bk_Tape_wantStep_14_2_ok rfl ?_
    show am_EI m_Tape_wantStep kc ks 17 [.ref a0] [.int 45, .ref a0] h2 Q
    obtain ⟨o5, t⟩ := t
    refine am_callV (M2 := m_Tape_wantMark) (ci := 9) (a := a0) (kc := kc) (ks := ks) (k2c := 0) (k2s := 0) (as := []) [.int 45] dc_Tape_wantStep_17 lk_9_60 im_Tape_wantMark se_Tape_wantMark lm_Tape_wantMark np_Tape_wantMark ⟨Nat.le_of_ble_eq_true rfl, Nat.le_of_ble_eq_true rfl⟩ (fun _ => Nat.le_of_ble_eq_true rfl) (by decide) rfl o5 (am_Ew.end (am_Ew.mono t (fun h6 t => ?_)))
    refine am_blk_ok (c := 9) (ini := false) (by decide) rfl (fun q => by cases q) bk_Tape_wantStep_20_1 _ 21 _ _ _ bk_Tape_wantStep_20_1_ok rfl ?_
    show am_EI m_Tape_wantStep kc ks 21 [.ref a0] [.ref a0] h6 Q
    obtain ⟨o7, t⟩ := t
    refine am_callV (M2 := m_Tape_wantNumber) (ci := 9) (a := a0) (kc := kc) (ks := ks) (k2c := 0) (k2s := 0) (as := []) [] dc_Tape_wantStep_21 lk_9_57 im_Tape_wantNumber se_Tape_wantNumber lm_Tape_wantNumber np_Tape_wantNumber ⟨Nat.le_of_ble_eq_true rfl, Nat.le_of_ble_eq_true rfl⟩ (fun _ => Nat.le_of_ble_eq_true rfl) (by decide) rfl o7 (am_Ei.end (am_Ei.mono t (fun r9 h8 t => ?_)))
    refine am_blk_ok (c := 9) (ini := false) (by decide) rfl (fun q => by cases q) bk_Tape_wantStep_24_1 _ 25 _ _ _ bk_Tape_wantStep_24_1_ok rfl ?_
    show am_EI m_Tape_wantStep kc ks 25 [.ref a0] [.int (-r9)] h8 Q
    exact am_iret dc_Tape_wantStep_25 rfl t
  · replace t := t.2 c4
    refine am_blk_ok (c := 9) (ini := false) (by decide) rfl (fun q => by cases q) bk_Tape_wantStep_9_1 _ 10 _ _ _ bk_Tape_wantStep_9_1_ok rfl ?_
    show am_EI m_Tape_wantStep kc ks 10 [.ref a0] [.ref a0] h2 Q
    obtain ⟨o10, t⟩ := t
    refine am_callV (M2 := m_Tape_wantNumber) (ci := 9) (a := a0) (kc := kc) (ks := ks) (k2c := 0) (k2s := 0) (as := []) [] dc_Tape_wantStep_10 lk_9_57 im_Tape_wantNumber se_Tape_wantNumber lm_Tape_wantNumber np_Tape_wantNumber ⟨Nat.le_of_ble_eq_true rfl, Nat.le_of_ble_eq_true rfl⟩ (fun _ => Nat.le_of_ble_eq_true rfl) (by decide) rfl o10 (am_Ei.end (am_Ei.mono t (fun r12 h11 t => ?_)))
    exact am_iret dc_Tape_wantStep_13 rfl t
set_option maxRecDepth 20000 in
theorem ev_Tape_wantStep (a0 : Nat) (h : am_H) (Q : Int32 → am_H → Prop) (t : (am_tg h a0 = (9, 4) ∧ (am_Ei m_Tape_takeMark 0 0 [.ref a0, .int 43] h (fun r3 h2 => ((r3 = 0 → (am_tg h2 a0 = (9, 4) ∧ (am_Ew m_Tape_wantMark 0 0 [.ref a0, .int 45] h2 (fun h6 => (am_tg h6 a0 = (9, 4) ∧ (am_Ei m_Tape_wantNumber 0 0 [.ref a0] h6 (fun r9 h8 => Q (-r9) h8))))))) ∧ (¬ r3 = 0 → (am_tg h2 a0 = (9, 4) ∧ (am_Ei m_Tape_wantNumber 0 0 [.ref a0] h2 (fun r12 h11 => Q r12 h11))))))))) : am_Ei m_Tape_wantStep 0 0 [.ref a0] h Q :=
  am_Ev.of (by decide +kernel) (Nat.le_of_ble_eq_true rfl) (by simp only [List.mem_cons, List.not_mem_nil, or_false]; intro v hv; rcases hv with rfl; all_goals first | exact trivial) (sg_Tape_wantStep_0 (kc := 0) (ks := 0) a0 h (am_qi Q) t)
def bk_Tape_wantWord_0_2 : List am_E := [(0, .aload_n 0, 1, 0, 0), (1, .aload_n 1, 1, 0, 0)]
theorem bk_Tape_wantWord_0_2_ok : bk_Tape_wantWord_0_2.all (am_ok 9 false m_Tape_wantWord.2.1) = true := by decide +kernel
def bk_Tape_wantWord_8_3 : List am_E := [(8, .aload_n 0, 1, 0, 0), (9, .iconst 1, 1, 0, 1), (10, .putfield 20, 3, 3614, 0)]
theorem bk_Tape_wantWord_8_3_ok : bk_Tape_wantWord_8_3.all (am_ok 9 false m_Tape_wantWord.2.1) = true := by decide +kernel
theorem dc_Tape_wantWord_2 : decode m_Tape_wantWord.2.1 2 = .ok (.invokevirtual 50, 3) := by decide +kernel
theorem dc_Tape_wantWord_13 : decode m_Tape_wantWord.2.1 13 = .ok (.return_, 1) := by decide +kernel
theorem dc_Tape_wantWord_5 : decode m_Tape_wantWord.2.1 5 = .ok (.ifCond .ne 8, 3) := by decide +kernel
set_option maxRecDepth 20000 in
theorem sg_Tape_wantWord_0 {kc ks : Nat} (a0 j1 : Nat) (h : am_H) (Q : Option Value → am_H → Prop) (t : (am_isC j1 = true ∧ (am_tg h a0 = (9, 4) ∧ (am_Ei m_Tape_takeWord 0 0 [.ref a0, .retAddr j1] h (fun r4 h3 => ((¬ r4 = 0 → Q none h3) ∧ (r4 = 0 → (am_tg h3 a0 = (9, 4) ∧ Q none (am_si h3 a0 3 1))))))))) : am_EI m_Tape_wantWord kc ks 0 [.ref a0, .retAddr j1] [] h Q := by
  refine am_blk_ok (c := 9) (ini := false) (by decide) rfl (fun q => by cases q) bk_Tape_wantWord_0_2 _ 2 _ _ _ bk_Tape_wantWord_0_2_ok rfl ?_
  show (am_isC j1 = true ∧ am_EI m_Tape_wantWord kc ks 2 [.ref a0, .retAddr j1] [.retAddr j1, .ref a0] h Q)
  obtain ⟨o1, t⟩ := t
  refine ⟨o1, ?_⟩
  obtain ⟨o2, t⟩ := t
  refine am_callV (M2 := m_Tape_takeWord) (ci := 9) (a := a0) (kc := kc) (ks := ks) (k2c := 0) (k2s := 0) (as := []) [.retAddr j1] dc_Tape_wantWord_2 lk_9_50 im_Tape_takeWord se_Tape_takeWord lm_Tape_takeWord np_Tape_takeWord ⟨Nat.le_of_ble_eq_true rfl, Nat.le_of_ble_eq_true rfl⟩ (fun _ => Nat.le_of_ble_eq_true rfl) (by decide) rfl o2 (am_Ei.end (am_Ei.mono t (fun r4 h3 t => ?_)))
  refine am_if_ne (tgt := 13) dc_Tape_wantWord_5 (by decide) (fun c5 => ?_) (fun c5 => ?_)
  · replace t := t.1 c5
    exact am_vret dc_Tape_wantWord_13 rfl t
  · replace t := t.2 c5
    refine am_blk_ok (c := 9) (ini := false) (by decide) rfl (fun q => by cases q) bk_Tape_wantWord_8_3 _ 13 _ _ _ bk_Tape_wantWord_8_3_ok rfl ?_
    show (am_tg h3 a0 = (9, 4) ∧ (am_b01 1 ∧ am_EI m_Tape_wantWord kc ks 13 [.ref a0, .retAddr j1] [] (am_si h3 a0 3 1) Q))
    obtain ⟨o6, t⟩ := t
    refine ⟨o6, (Or.inr rfl), ?_⟩
    exact am_vret dc_Tape_wantWord_13 rfl t
set_option maxRecDepth 20000 in
theorem ev_Tape_wantWord (a0 j1 : Nat) (h : am_H) (Q : am_H → Prop) (hc_j1 : am_arg (.retAddr j1)) (t : (am_isC j1 = true ∧ (am_tg h a0 = (9, 4) ∧ (am_Ei m_Tape_takeWord 0 0 [.ref a0, .retAddr j1] h (fun r4 h3 => ((¬ r4 = 0 → Q h3) ∧ (r4 = 0 → (am_tg h3 a0 = (9, 4) ∧ Q (am_si h3 a0 3 1))))))))) : am_Ew m_Tape_wantWord 0 0 [.ref a0, .retAddr j1] h Q :=
  am_Ev.of (by decide +kernel) (Nat.le_of_ble_eq_true rfl) (by simp only [List.mem_cons, List.not_mem_nil, or_false]; intro v hv; rcases hv with rfl | rfl; all_goals first | exact trivial | exact hc_j1) (sg_Tape_wantWord_0 (kc := 0) (ks := 0) a0 j1 h (am_qw Q) t)
