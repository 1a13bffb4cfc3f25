def bk_Ship_draught_0_2 : List am_E := [(0, .aload_n 0, 1, 0, 0), (1, .getfield 7, 3, 2400, 0)]
theorem bk_Ship_draught_0_2_ok : bk_Ship_draught_0_2.all (am_ok 6 false m_Ship_draught.2.1) = true := by decide +kernel
theorem dc_Ship_draught_4 : decode m_Ship_draught.2.1 4 = .ok (.ireturn, 1) := by decide +kernel
set_option maxRecDepth 20000 in
theorem sg_Ship_draught_0 {kc ks : Nat} (a0 : Nat) (h : am_H) (Q : Option Value → am_H → Prop) (t : (am_tg h a0 = (6, 3) ∧ Q (some (.int (am_I h a0 0))) h)) : am_EI m_Ship_draught kc ks 0 [.ref a0] [] h Q := by
  refine am_blk_ok (c := 6) (ini := false) (by decide) rfl (fun q => by cases q) bk_Ship_draught_0_2 _ 4 _ _ _ bk_Ship_draught_0_2_ok rfl ?_
  show (am_tg h a0 = (6, 3) ∧ am_EI m_Ship_draught kc ks 4 [.ref a0] [.int (am_I h a0 0)] h Q)
  obtain ⟨o1, t⟩ := t
  refine ⟨o1, ?_⟩
  exact am_iret dc_Ship_draught_4 rfl t
set_option maxRecDepth 20000 in
theorem ev_Ship_draught (a0 : Nat) (h : am_H) (Q : Int32 → am_H → Prop) (t : (am_tg h a0 = (6, 3) ∧ Q (am_I h a0 0) h)) : am_Ei m_Ship_draught 0 0 [.ref a0] h Q :=
  am_Ev.of (by decide +kernel) (Nat.le_of_ble_eq_true rfl) (by simp only [List.mem_cons, List.not_mem_nil, or_false]; intro v hv; rcases hv with rfl; all_goals first | exact trivial) (sg_Ship_draught_0 (kc := 0) (ks := 0) a0 h (am_qi Q) t)
def bk_Ship_findFault_0_3 : List am_E := [(0, .aload_n 0, 1, 0, 0), (1, .getfield 7, 3, 2400, 0), (4, .iconst 1, 1, 0, 1)]
theorem bk_Ship_findFault_0_3_ok : bk_Ship_findFault_0_3.all (am_ok 6 false m_Ship_findFault.2.1) = true := by decide +kernel
def bk_Ship_findFault_39_3 : List am_E := [(39, .iconst 0, 1, 0, 0), (40, .istore_n 1, 1, 0, 0), (41, .iload_n 1, 1, 0, 0)]
theorem bk_Ship_findFault_39_3_ok : bk_Ship_findFault_39_3.all (am_ok 6 false m_Ship_findFault.2.1) = true := by decide +kernel
def bk_Ship_findFault_49_1 : List am_E := [(49, .bipush 9, 2, 0, 9)]
theorem bk_Ship_findFault_49_1_ok : bk_Ship_findFault_49_1.all (am_ok 6 false m_Ship_findFault.2.1) = true := by decide +kernel
def bk_Ship_findFault_8_3 : List am_E := [(8, .aload_n 0, 1, 0, 0), (9, .getfield 7, 3, 2400, 0), (12, .sipush 1500, 3, 0, 1500)]
theorem bk_Ship_findFault_8_3_ok : bk_Ship_findFault_8_3.all (am_ok 6 false m_Ship_findFault.2.1) = true := by decide +kernel
def bk_Ship_findFault_18_3 : List am_E := [(18, .aload_n 0, 1, 0, 0), (19, .getfield 16, 3, 2408, 0), (22, .iconst 1, 1, 0, 1)]
theorem bk_Ship_findFault_18_3_ok : bk_Ship_findFault_18_3.all (am_ok 6 false m_Ship_findFault.2.1) = true := by decide +kernel
def bk_Ship_findFault_26_3 : List am_E := [(26, .aload_n 0, 1, 0, 0), (27, .getfield 16, 3, 2408, 0), (30, .bipush 60, 2, 0, 60)]
theorem bk_Ship_findFault_26_3_ok : bk_Ship_findFault_26_3.all (am_ok 6 false m_Ship_findFault.2.1) = true := by decide +kernel
def bk_Ship_findFault_35_4 : List am_E := [(35, .iconst 1, 1, 0, 1), (36, .goto 4, 3, 0, 4), (40, .istore_n 1, 1, 0, 0), (41, .iload_n 1, 1, 0, 0)]
theorem bk_Ship_findFault_35_4_ok : bk_Ship_findFault_35_4.all (am_ok 6 false m_Ship_findFault.2.1) = true := by decide +kernel
def bk_Ship_findFault_45_2 : List am_E := [(45, .iconst 0, 1, 0, 0), (46, .goto 5, 3, 0, 5)]
theorem bk_Ship_findFault_45_2_ok : bk_Ship_findFault_45_2.all (am_ok 6 false m_Ship_findFault.2.1) = true := by decide +kernel
theorem dc_Ship_findFault_51 : decode m_Ship_findFault.2.1 51 = .ok (.ireturn, 1) := by decide +kernel
theorem dc_Ship_findFault_42 : decode m_Ship_findFault.2.1 42 = .ok (.ifCond .eq 7, 3) := by decide +kernel
theorem dc_Ship_findFault_32 : decode m_Ship_findFault.2.1 32 = .ok (.if_icmp .gt 7, 3) := by decide +kernel
theorem dc_Ship_findFault_23 : decode m_Ship_findFault.2.1 23 = .ok (.if_icmp .lt 16, 3) := by decide +kernel
theorem dc_Ship_findFault_15 : decode m_Ship_findFault.2.1 15 = .ok (.if_icmp .gt 24, 3) := by decide +kernel
theorem dc_Ship_findFault_5 : decode m_Ship_findFault.2.1 5 = .ok (.if_icmp .lt 34, 3) := by decide +kernel
set_option maxRecDepth 20000 in
theorem sg_Ship_findFault_0 {kc ks : Nat} (a0 : Nat) (h : am_H) (Q : Option Value → am_H → Prop) (t : (am_tg h a0 = (6, 3) ∧ (((am_I h a0 0) < 1 → Q (some (.int 9)) h) ∧ (¬ (am_I h a0 0) < 1 → ((1500 < (am_I h a0 0) → Q (some (.int 9)) h) ∧ (¬ 1500 < (am_I h a0 0) → (((am_I h a0 2) < 1 → Q (some (.int 9)) h) ∧ (¬ (am_I h a0 2) < 1 → ((60 < (am_I h a0 2) → Q (some (.int 9)) h) ∧ (¬ 60 < (am_I h a0 2) → Q (some (.int 0)) h)))))))))) : am_EI m_Ship_findFault kc ks 0 [.ref a0, .float 0] [] h Q := by
  refine am_blk_ok (c := 6) (ini := false) (by decide) rfl (fun q => by cases q) bk_Ship_findFault_0_3 _ 5 _ _ _ bk_Ship_findFault_0_3_ok rfl ?_
  show (am_tg h a0 = (6, 3) ∧ am_EI m_Ship_findFault kc ks 5 [.ref a0, .float 0] [.int 1, .int (am_I h a0 0)] h Q)
  obtain ⟨o1, t⟩ := t
  refine ⟨o1, ?_⟩
  refine am_ic_lt (tgt := 39) dc_Ship_findFault_5 (by decide) (fun c2 => ?_) (fun c2 => ?_)
  · replace t := t.1 c2
    refine am_blk_ok (c := 6) (ini := false) (by decide) rfl (fun q => by cases q) bk_Ship_findFault_39_3 _ 42 _ _ _ bk_Ship_findFault_39_3_ok rfl ?_
    show am_EI m_Ship_findFault kc ks 42 [.ref a0, .int 0] [.int 0] h Q
    refine am_if_eq (tgt := 49) dc_Ship_findFault_42 (by decide) (fun _ => ?_) (fun q => absurd q (by decide))
    refine am_blk_ok (c := 6) (ini := false) (by decide) rfl (fun q => by cases q) bk_Ship_findFault_49_1 _ 51 _ _ _ bk_Ship_findFault_49_1_ok rfl ?_
    show am_EI m_Ship_findFault kc ks 51 [.ref a0, .int 0] [.int 9] h Q
    exact am_iret dc_Ship_findFault_51 rfl t
  · replace t := t.2 c2
    refine am_blk_ok (c := 6) (ini := false) (by decide) rfl (fun q => by cases q) bk_Ship_findFault_8_3 _ 15 _ _ _ bk_Ship_findFault_8_3_ok rfl ?_
    show (am_tg h a0 = (6, 3) ∧ am_EI m_Ship_findFault kc ks 15 [.ref a0, .float 0] [.int 1500, .int (am_I h a0 0)] h Q)
    refine ⟨o1, ?_⟩
    refine am_ic_gt (tgt := 39) dc_Ship_findFault_15 (by decide) (fun c4 => ?_) (fun c4 => ?_)
    · replace t := t.1 c4
      refine am_blk_ok (c := 6) (ini := false) (by decide) rfl (fun q => by cases q) bk_Ship_findFault_39_3 _ 42 _ _ _ bk_Ship_findFault_39_3_ok rfl ?_
      show am_EI m_Ship_findFault kc ks 42 [.ref a0, .int 0] [.int 0] h Q
      refine am_if_eq (tgt := 49) dc_Ship_findFault_42 (by decide) (fun _ => ?_) (fun q => absurd q (by decide))
      refine am_blk_ok (c := 6) (ini := false) (by decide) rfl (fun q => by cases q) bk_Ship_findFault_49_1 _ 51 _ _ _ bk_Ship_findFault_49_1_ok rfl ?_
      show am_EI m_Ship_findFault kc ks 51 [.ref a0, .int 0] [.int 9] h Q
      exact am_iret dc_Ship_findFault_51 rfl t
    · replace t := t.2 c4
      refine am_blk_ok (c := 6) (ini := false) (by decide) rfl (fun q => by cases q) bk_Ship_findFault_18_3 _ 23 _ _ _ bk_Ship_findFault_18_3_ok rfl ?_
      show (am_tg h a0 = (6, 3) ∧ am_EI m_Ship_findFault kc ks 23 [.ref a0, .float 0] [.int 1, .int (am_I h a0 2)] h Q)
      refine ⟨o1, ?_⟩
      refine am_ic_lt (tgt := 39) dc_Ship_findFault_23 (by decide) (fun c6 => ?_) (fun c6 => ?_)
      · replace t := t.1 c6
        refine am_blk_ok (c := 6) (ini := false) (by decide) rfl (fun q => by cases q) bk_Ship_findFault_39_3 _ 42 _ _ _ bk_Ship_findFault_39_3_ok rfl ?_
        show am_EI m_Ship_findFault kc ks 42 [.ref a0, .int 0] [.int 0] h Q
        refine am_if_eq (tgt := 49) dc_Ship_findFault_42 (by decide) (fun _ => ?_) (fun q => absurd q (by decide))
        refine am_blk_ok (c := 6) (ini := false) (by decide) rfl (fun q => by cases q) bk_Ship_findFault_49_1 _ 51 _ _ _ bk_Ship_findFault_49_1_ok rfl ?_
        show am_EI m_Ship_findFault kc ks 51 [.ref a0, .int 0] [.int 9] h Q
        exact am_iret dc_Ship_findFault_51 rfl t
      · replace t := t.2 c6
        refine am_blk_ok (c := 6) (ini := false) (by decide) rfl (fun q => by cases q) bk_Ship_findFault_26_3 _ 32 _ _ _ bk_Ship_findFault_26_3_ok rfl ?_
        show (am_tg h a0 = (6, 3) ∧ am_EI m_Ship_findFault kc ks 32 [.ref a0, .float 0] [.int 60, .int (am_I h a0 2)] h Q)
        refine ⟨o1, ?_⟩
        refine am_ic_gt (tgt := 39) dc_Ship_findFault_32 (by decide) (fun c8 => ?_) (fun c8 => ?_)
        · replace t := t.1 c8
          refine am_blk_ok (c := 6) (ini := false) (by decide) rfl (fun q => by cases q) bk_Ship_findFault_39_3 _ 42 _ _ _ bk_Ship_findFault_39_3_ok rfl ?_
          show am_EI m_Ship_findFault kc ks 42 [.ref a0, .int 0] [.int 0] h Q
          refine am_if_eq (tgt := 49) dc_Ship_findFault_42 (by decide) (fun _ => ?_) (fun q => absurd q (by decide))
          refine am_blk_ok (c := 6) (ini := false) (by decide) rfl (fun q => by cases q) bk_Ship_findFault_49_1 _ 51 _ _ _ bk_Ship_findFault_49_1_ok rfl ?_
          show am_EI m_Ship_findFault kc ks 51 [.ref a0, .int 0] [.int 9] h Q
          exact am_iret dc_Ship_findFault_51 rfl t
        · replace t := t.2 c8
          refine am_blk_ok (c := 6) (ini := false) (by decide) rfl (fun q => by cases q) bk_Ship_findFault_35_4 _ 42 _ _ _ bk_Ship_findFault_35_4_ok rfl ?_
          show am_EI m_Ship_findFault kc ks 42 [.ref a0, .int 1] [.int 1] h Q
          refine am_if_eq (tgt := 49) dc_Ship_findFault_42 (by decide) (fun q => absurd q (by decide)) (fun _ => ?_)
          refine am_blk_ok (c := 6) (ini := false) (by decide) rfl (fun q => by cases q) bk_Ship_findFault_45_2 _ 51 _ _ _ bk_Ship_findFault_45_2_ok rfl ?_
          show am_EI m_Ship_findFault kc ks 51 [.ref a0, .int 1] [.int 0] h Q
          exact am_iret dc_Ship_findFault_51 rfl t
set_option maxRecDepth 20000 in
theorem ev_Ship_findFault (a0 : Nat) (h : am_H) (Q : Int32 → am_H → Prop) (t : (am_tg h a0 = (6, 3) ∧ (((am_I h a0 0) < 1 → Q 9 h) ∧ (¬ (am_I h a0 0) < 1 → ((1500 < (am_I h a0 0) → Q 9 h) ∧ (¬ 1500 < (am_I h a0 0) → (((am_I h a0 2) < 1 → Q 9 h) ∧ (¬ (am_I h a0 2) < 1 → ((60 < (am_I h a0 2) → Q 9 h) ∧ (¬ 60 < (am_I h a0 2) → Q 0 h)))))))))) : am_Ei m_Ship_findFault 0 0 [.ref a0] h Q :=
  am_Ev.of (by decide +kernel) (Nat.le_of_ble_eq_true rfl) (by simp only [List.mem_cons, List.not_mem_nil, or_false]; intro v hv; rcases hv with rfl; all_goals first | exact trivial) (sg_Ship_findFault_0 (kc := 0) (ks := 0) a0 h (am_qi Q) t)
def bk_Ship_init_0_1 : List am_E := [(0, .aload_n 0, 1, 0, 0)]
theorem bk_Ship_init_0_1_ok : bk_Ship_init_0_1.all (am_ok 6 true m_Ship_init.2.1) = true := by decide +kernel
def bk_Ship_init_4_9 : List am_E := [(4, .aload_n 0, 1, 0, 0), (5, .iconst 0, 1, 0, 0), (6, .putfield 7, 3, 2400, 0), (9, .aload_n 0, 1, 0, 0), (10, .iconst 0, 1, 0, 0), (11, .putfield 13, 3, 2404, 0), (14, .aload_n 0, 1, 0, 0), (15, .iconst 0, 1, 0, 0), (16, .putfield 16, 3, 2408, 0)]
theorem bk_Ship_init_4_9_ok : bk_Ship_init_4_9.all (am_ok 6 true m_Ship_init.2.1) = true := by decide +kernel
theorem dc_Ship_init_19 : decode m_Ship_init.2.1 19 = .ok (.return_, 1) := by decide +kernel
theorem dc_Ship_init_1 : decode m_Ship_init.2.1 1 = .ok (.invokespecial 1, 3) := by decide +kernel
set_option maxRecDepth 20000 in
theorem sg_Ship_init_0 {kc ks : Nat} (a0 : Nat) (h : am_H) (Q : Option Value → am_H → Prop) (t : (am_tg h a0 = (6, 3) ∧ Q none (am_si (am_si (am_si h a0 0 0) a0 1 0) a0 2 0))) : am_EI m_Ship_init kc ks 0 [.ref a0] [] h Q := by
  refine am_blk_ok (c := 6) (ini := true) (by decide) rfl (fun _ => rfl) bk_Ship_init_0_1 _ 1 _ _ _ bk_Ship_init_0_1_ok rfl ?_
  show am_EI m_Ship_init kc ks 1 [.ref a0] [.ref a0] h Q
  refine am_oinit (a := a0) dc_Ship_init_1 lk_6_1 oi_2 oi_3 (by decide) (by decide) ?_
  refine am_blk_ok (c := 6) (ini := true) (by decide) rfl (fun _ => rfl) bk_Ship_init_4_9 _ 19 _ _ _ bk_Ship_init_4_9_ok rfl ?_
  show (am_tg h a0 = (6, 3) ∧ (am_tg h a0 = (6, 3) ∧ (am_tg h a0 = (6, 3) ∧ am_EI m_Ship_init kc ks 19 [.ref a0] [] (am_si (am_si (am_si h a0 0 0) a0 1 0) a0 2 0) Q)))
  obtain ⟨o1, t⟩ := t
  refine ⟨o1, o1, o1, ?_⟩
  exact am_vret dc_Ship_init_19 rfl t
set_option maxRecDepth 20000 in
theorem ev_Ship_init (a0 : Nat) (h : am_H) (Q : am_H → Prop) (t : (am_tg h a0 = (6, 3) ∧ Q (am_si (am_si (am_si h a0 0 0) a0 1 0) a0 2 0))) : am_Ew m_Ship_init 0 0 [.ref a0] h Q :=
  am_Ev.of (by decide +kernel) (Nat.le_of_ble_eq_true rfl) (by simp only [List.mem_cons, List.not_mem_nil, or_false]; intro v hv; rcases hv with rfl; all_goals first | exact trivial) (sg_Ship_init_0 (kc := 0) (ks := 0) a0 h (am_qw Q) t)
def bk_Ship_mast_0_2 : List am_E := [(0, .aload_n 0, 1, 0, 0), (1, .getfield 13, 3, 2404, 0)]
theorem bk_Ship_mast_0_2_ok : bk_Ship_mast_0_2.all (am_ok 6 false m_Ship_mast.2.1) = true := by decide +kernel
theorem dc_Ship_mast_4 : decode m_Ship_mast.2.1 4 = .ok (.ireturn, 1) := by decide +kernel
set_option maxRecDepth 20000 in
theorem sg_Ship_mast_0 {kc ks : Nat} (a0 : Nat) (h : am_H) (Q : Option Value → am_H → Prop) (t : (am_tg h a0 = (6, 3) ∧ Q (some (.int (am_I h a0 1))) h)) : am_EI m_Ship_mast kc ks 0 [.ref a0] [] h Q := by
  refine am_blk_ok (c := 6) (ini := false) (by decide) rfl (fun q => by cases q) bk_Ship_mast_0_2 _ 4 _ _ _ bk_Ship_mast_0_2_ok rfl ?_
  show (am_tg h a0 = (6, 3) ∧ am_EI m_Ship_mast kc ks 4 [.ref a0] [.int (am_I h a0 1)] h Q)
  obtain ⟨o1, t⟩ := t
  refine ⟨o1, ?_⟩
  exact am_iret dc_Ship_mast_4 rfl t
set_option maxRecDepth 20000 in
theorem ev_Ship_mast (a0 : Nat) (h : am_H) (Q : Int32 → am_H → Prop) (t : (am_tg h a0 = (6, 3) ∧ Q (am_I h a0 1) h)) : am_Ei m_Ship_mast 0 0 [.ref a0] h Q :=
  am_Ev.of (by decide +kernel) (Nat.le_of_ble_eq_true rfl) (by simp only [List.mem_cons, List.not_mem_nil, or_false]; intro v hv; rcases hv with rfl; all_goals first | exact trivial) (sg_Ship_mast_0 (kc := 0) (ks := 0) a0 h (am_qi Q) t)
def bk_Ship_minutesFor_0_8 : List am_E := [(0, .iload_n 1, 1, 0, 0), (1, .aload_n 0, 1, 0, 0), (2, .getfield 16, 3, 2408, 0), (5, .imul, 1, 0, 0), (6, .bipush 9, 2, 0, 9), (8, .iadd, 1, 0, 0), (9, .bipush 10, 2, 0, 10), (11, .idiv, 1, 0, 0)]
theorem bk_Ship_minutesFor_0_8_ok : bk_Ship_minutesFor_0_8.all (am_ok 6 false m_Ship_minutesFor.2.1) = true := by decide +kernel
theorem dc_Ship_minutesFor_12 : decode m_Ship_minutesFor.2.1 12 = .ok (.ireturn, 1) := by decide +kernel
set_option maxRecDepth 20000 in
theorem sg_Ship_minutesFor_0 {kc ks : Nat} (a0 : Nat) (x1 : Int32) (h : am_H) (Q : Option Value → am_H → Prop) (t : (am_tg h a0 = (6, 3) ∧ Q (some (.int (((x1 * (am_I h a0 2)) + 9) / 10))) h)) : am_EI m_Ship_minutesFor kc ks 0 [.ref a0, .int x1] [] h Q := by
  refine am_blk_ok (c := 6) (ini := false) (by decide) rfl (fun q => by cases q) bk_Ship_minutesFor_0_8 _ 12 _ _ _ bk_Ship_minutesFor_0_8_ok rfl ?_
  show (am_tg h a0 = (6, 3) ∧ ((¬ 10 = 0) ∧ am_EI m_Ship_minutesFor kc ks 12 [.ref a0, .int x1] [.int (((x1 * (am_I h a0 2)) + 9) / 10)] h Q))
  obtain ⟨o1, t⟩ := t
  refine ⟨o1, (by decide), ?_⟩
  exact am_iret dc_Ship_minutesFor_12 rfl t
set_option maxRecDepth 20000 in
theorem ev_Ship_minutesFor (a0 : Nat) (x1 : Int32) (h : am_H) (Q : Int32 → am_H → Prop) (t : (am_tg h a0 = (6, 3) ∧ Q (((x1 * (am_I h a0 2)) + 9) / 10) h)) : am_Ei m_Ship_minutesFor 0 0 [.ref a0, .int x1] h Q :=
  am_Ev.of (by decide +kernel) (Nat.le_of_ble_eq_true rfl) (by simp only [List.mem_cons, List.not_mem_nil, or_false]; intro v hv; rcases hv with rfl | rfl; all_goals first | exact trivial) (sg_Ship_minutesFor_0 (kc := 0) (ks := 0) a0 x1 h (am_qi Q) t)
def bk_Ship_pace_0_2 : List am_E := [(0, .aload_n 0, 1, 0, 0), (1, .getfield 16, 3, 2408, 0)]
theorem bk_Ship_pace_0_2_ok : bk_Ship_pace_0_2.all (am_ok 6 false m_Ship_pace.2.1) = true := by decide +kernel
theorem dc_Ship_pace_4 : decode m_Ship_pace.2.1 4 = .ok (.ireturn, 1) := by decide +kernel
set_option maxRecDepth 20000 in
theorem sg_Ship_pace_0 {kc ks : Nat} (a0 : Nat) (h : am_H) (Q : Option Value → am_H → Prop) (t : (am_tg h a0 = (6, 3) ∧ Q (some (.int (am_I h a0 2))) h)) : am_EI m_Ship_pace kc ks 0 [.ref a0] [] h Q := by
  refine am_blk_ok (c := 6) (ini := false) (by decide) rfl (fun q => by cases q) bk_Ship_pace_0_2 _ 4 _ _ _ bk_Ship_pace_0_2_ok rfl ?_
  show (am_tg h a0 = (6, 3) ∧ am_EI m_Ship_pace kc ks 4 [.ref a0] [.int (am_I h a0 2)] h Q)
  obtain ⟨o1, t⟩ := t
  refine ⟨o1, ?_⟩
  exact am_iret dc_Ship_pace_4 rfl t
set_option maxRecDepth 20000 in
theorem ev_Ship_pace (a0 : Nat) (h : am_H) (Q : Int32 → am_H → Prop) (t : (am_tg h a0 = (6, 3) ∧ Q (am_I h a0 2) h)) : am_Ei m_Ship_pace 0 0 [.ref a0] h Q :=
  am_Ev.of (by decide +kernel) (Nat.le_of_ble_eq_true rfl) (by simp only [List.mem_cons, List.not_mem_nil, or_false]; intro v hv; rcases hv with rfl; all_goals first | exact trivial) (sg_Ship_pace_0 (kc := 0) (ks := 0) a0 h (am_qi Q) t)
def bk_Ship_readFrom_0_2 : List am_E := [(0, .aload_n 0, 1, 0, 0), (1, .aload_n 1, 1, 0, 0)]
theorem bk_Ship_readFrom_0_2_ok : bk_Ship_readFrom_0_2.all (am_ok 6 false m_Ship_readFrom.2.1) = true := by decide +kernel
def bk_Ship_readFrom_5_3 : List am_E := [(5, .putfield 7, 3, 2400, 0), (8, .aload_n 0, 1, 0, 0), (9, .aload_n 1, 1, 0, 0)]
theorem bk_Ship_readFrom_5_3_ok : bk_Ship_readFrom_5_3.all (am_ok 6 false m_Ship_readFrom.2.1) = true := by decide +kernel
def bk_Ship_readFrom_13_3 : List am_E := [(13, .putfield 13, 3, 2404, 0), (16, .aload_n 0, 1, 0, 0), (17, .aload_n 1, 1, 0, 0)]
theorem bk_Ship_readFrom_13_3_ok : bk_Ship_readFrom_13_3.all (am_ok 6 false m_Ship_readFrom.2.1) = true := by decide +kernel
def bk_Ship_readFrom_21_1 : List am_E := [(21, .putfield 16, 3, 2408, 0)]
theorem bk_Ship_readFrom_21_1_ok : bk_Ship_readFrom_21_1.all (am_ok 6 false m_Ship_readFrom.2.1) = true := by decide +kernel
theorem dc_Ship_readFrom_2 : decode m_Ship_readFrom.2.1 2 = .ok (.invokevirtual 19, 3) := by decide +kernel
theorem dc_Ship_readFrom_10 : decode m_Ship_readFrom.2.1 10 = .ok (.invokevirtual 19, 3) := by decide +kernel
theorem dc_Ship_readFrom_18 : decode m_Ship_readFrom.2.1 18 = .ok (.invokevirtual 19, 3) := by decide +kernel
theorem dc_Ship_readFrom_24 : decode m_Ship_readFrom.2.1 24 = .ok (.return_, 1) := by decide +kernel
set_option maxRecDepth 20000 in
theorem sg_Ship_readFrom_0 {kc ks : Nat} (a0 a1 : Nat) (h : am_H) (Q : Option Value → am_H → Prop) (t : (am_tg h a1 = (9, 4) ∧ (am_Ei m_Tape_wantNumber 0 0 [.ref a1] h (fun r3 h2 => (am_tg h2 a0 = (6, 3) ∧ (am_tg h2 a1 = (9, 4) ∧ (am_Ei m_Tape_wantNumber 0 0 [.ref a1] (am_si h2 a0 0 r3) (fun r7 h6 => (am_tg h6 a0 = (6, 3) ∧ (am_tg h6 a1 = (9, 4) ∧ (am_Ei m_Tape_wantNumber 0 0 [.ref a1] (am_si h6 a0 1 r7) (fun r11 h10 => (am_tg h10 a0 = (6, 3) ∧ Q none (am_si h10 a0 2 r11)))))))))))))) : am_EI m_Ship_readFrom kc ks 0 [.ref a0, .ref a1] [] h Q := by
  refine am_blk_ok (c := 6) (ini := false) (by decide) rfl (fun q => by cases q) bk_Ship_readFrom_0_2 _ 2 _ _ _ bk_Ship_readFrom_0_2_ok rfl ?_
  show am_EI m_Ship_readFrom kc ks 2 [.ref a0, .ref a1] [.ref a1, .ref a0] h Q
  obtain ⟨o1, t⟩ := t
  refine am_callV (M2 := m_Tape_wantNumber) (ci := 9) (a := a1) (kc := kc) (ks := ks) (k2c := 0) (k2s := 0) (as := [.ref a0]) [] dc_Ship_readFrom_2 lk_6_19 im_Tape_wantNumber se_Tape_wantNumber lm_Tape_wantNumber np_Tape_wantNumber ⟨Nat.le_of_ble_eq_true rfl, Nat.le_of_ble_eq_true rfl⟩ (fun _ => Nat.le_of_ble_eq_true rfl) (by decide) rfl o1 (am_Ei.end (am_Ei.mono t (fun r3 h2 t => ?_)))
  refine am_blk_ok (c := 6) (ini := false) (by decide) rfl (fun q => by cases q) bk_Ship_readFrom_5_3 _ 10 _ _ _ bk_Ship_readFrom_5_3_ok rfl ?_
  show (am_tg h2 a0 = (6, 3) ∧ am_EI m_Ship_readFrom kc ks 10 [.ref a0, .ref a1] [.ref a1, .ref a0] (am_si h2 a0 0 r3) Q)
  obtain ⟨o4, t⟩ := t
  refine ⟨o4, ?_⟩
  obtain ⟨o5, t⟩ := t
  refine am_callV (M2 := m_Tape_wantNumber) (ci := 9) (a := a1) (kc := kc) (ks := ks) (k2c := 0) (k2s := 0) (as := [.ref a0]) [] dc_Ship_readFrom_10 lk_6_19 im_Tape_wantNumber se_Tape_wantNumber lm_Tape_wantNumber np_Tape_wantNumber ⟨Nat.le_of_ble_eq_true rfl, Nat.le_of_ble_eq_true rfl⟩ (fun _ => Nat.le_of_ble_eq_true rfl) (by decide) rfl o5 (am_Ei.end (am_Ei.mono t (fun r7 h6 t => ?_)))
  refine am_blk_ok (c := 6) (ini := false) (by decide) rfl (fun q => by cases q) bk_Ship_readFrom_13_3 _ 18 _ _ _ bk_Ship_readFrom_13_3_ok rfl ?_
  show (am_tg h6 a0 = (6, 3) ∧ am_EI m_Ship_readFrom kc ks 18 [.ref a0, .ref a1] [.ref a1, .ref a0] (am_si h6 a0 1 r7) Q)
  obtain ⟨o8, t⟩ := t
  refine ⟨o8, ?_⟩
  obtain ⟨o9, t⟩ := t
  refine am_callV (M2 := m_Tape_wantNumber) (ci := 9) (a := a1) (kc := kc) (ks := ks) (k2c := 0) (k2s := 0) (as := [.ref a0]) [] dc_Ship_readFrom_18 lk_6_19 im_Tape_wantNumber se_Tape_wantNumber lm_Tape_wantNumber np_Tape_wantNumber ⟨Nat.le_of_ble_eq_true rfl, Nat.le_of_ble_eq_true rfl⟩ (fun _ => Nat.le_of_ble_eq_true rfl) (by decide) rfl o9 (am_Ei.end (am_Ei.mono t (fun r11 h10 t => ?_)))
  refine am_blk_ok (c := 6) (ini := false) (by decide) rfl (fun q => by cases q) bk_Ship_readFrom_21_1 _ 24 _ _ _ bk_Ship_readFrom_21_1_ok rfl ?_
  show (am_tg h10 a0 = (6, 3) ∧ am_EI m_Ship_readFrom kc ks 24 [.ref a0, .ref a1] [] (am_si h10 a0 2 r11) Q)
  obtain ⟨o12, t⟩ := t
  refine ⟨o12, ?_⟩
  exact am_vret dc_Ship_readFrom_24 rfl t
set_option maxRecDepth 20000 in
theorem ev_Ship_readFrom (a0 a1 : Nat) (h : am_H) (Q : am_H → Prop) (t : (am_tg h a1 = (9, 4) ∧ (am_Ei m_Tape_wantNumber 0 0 [.ref a1] h (fun r3 h2 => (am_tg h2 a0 = (6, 3) ∧ (am_tg h2 a1 = (9, 4) ∧ (am_Ei m_Tape_wantNumber 0 0 [.ref a1] (am_si h2 a0 0 r3) (fun r7 h6 => (am_tg h6 a0 = (6, 3) ∧ (am_tg h6 a1 = (9, 4) ∧ (am_Ei m_Tape_wantNumber 0 0 [.ref a1] (am_si h6 a0 1 r7) (fun r11 h10 => (am_tg h10 a0 = (6, 3) ∧ Q (am_si h10 a0 2 r11)))))))))))))) : am_Ew m_Ship_readFrom 0 0 [.ref a0, .ref a1] h Q :=
  am_Ev.of (by decide +kernel) (Nat.le_of_ble_eq_true rfl) (by simp only [List.mem_cons, List.not_mem_nil, or_false]; intro v hv; rcases hv with rfl | rfl; all_goals first | exact trivial) (sg_Ship_readFrom_0 (kc := 0) (ks := 0) a0 a1 h (am_qw Q) t)
