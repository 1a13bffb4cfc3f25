def bk_Math_abs_0_1 : List am_E := [(0, .iload_n 0, 1, 0, 0)]
theorem bk_Math_abs_0_1_ok : bk_Math_abs_0_1.all (am_ok 14 false m_Math_abs.2.1) = true := by decide +kernel
def bk_Math_abs_9_1 : List am_E := [(9, .iload_n 0, 1, 0, 0)]
theorem bk_Math_abs_9_1_ok : bk_Math_abs_9_1.all (am_ok 14 false m_Math_abs.2.1) = true := by decide +kernel
def bk_Math_abs_4_3 : List am_E := [(4, .iload_n 0, 1, 0, 0), (5, .ineg, 1, 0, 0), (6, .goto 4, 3, 0, 4)]
theorem bk_Math_abs_4_3_ok : bk_Math_abs_4_3.all (am_ok 14 false m_Math_abs.2.1) = true := by decide +kernel
theorem dc_Math_abs_10 : decode m_Math_abs.2.1 10 = .ok (.ireturn, 1) := by decide +kernel
theorem dc_Math_abs_1 : decode m_Math_abs.2.1 1 = .ok (.ifCond .ge 8, 3) := by decide +kernel
set_option maxRecDepth 20000 in
theorem sg_Math_abs_0 {kc ks : Nat} (x0 : Int32) (h : am_H) (Q : Option Value → am_H → Prop) (t : ((0 ≤ x0 → Q (some (.int x0)) h) ∧ (¬ 0 ≤ x0 → Q (some (.int (-x0))) h))) : am_EI m_Math_abs kc ks 0 [.int x0] [] h Q := by
  refine am_blk_ok (c := 14) (ini := false) (by decide) rfl (fun q => by cases q) bk_Math_abs_0_1 _ 1 _ _ _ bk_Math_abs_0_1_ok rfl ?_
  show am_EI m_Math_abs kc ks 1 [.int x0] [.int x0] h Q
  refine am_if_ge (tgt := 9) dc_Math_abs_1 (by decide) (fun c1 => ?_) (fun c1 => ?_)
  · replace t := t.1 c1
    refine am_blk_ok (c := 14) (ini := false) (by decide) rfl (fun q => by cases q) bk_Math_abs_9_1 _ 10 _ _ _ bk_Math_abs_9_1_ok rfl ?_
    show am_EI m_Math_abs kc ks 10 [.int x0] [.int x0] h Q
    exact am_iret dc_Math_abs_10 rfl t
  · replace t := t.2 c1
    refine am_blk_ok (c := 14) (ini := false) (by decide) rfl (fun q => by cases q) bk_Math_abs_4_3 _ 10 _ _ _ bk_Math_abs_4_3_ok rfl ?_
    show am_EI m_Math_abs kc ks 10 [.int x0] [.int (-x0)] h Q
    exact am_iret dc_Math_abs_10 rfl t
set_option maxRecDepth 20000 in
theorem ev_Math_abs (x0 : Int32) (h : am_H) (Q : Int32 → am_H → Prop) (t : ((0 ≤ x0 → Q x0 h) ∧ (¬ 0 ≤ x0 → Q (-x0) h))) : am_Ei m_Math_abs 0 0 [.int x0] h Q :=
  am_Ev.of (by decide +kernel) (Nat.le_of_ble_eq_true rfl) (by simp only [List.mem_cons, List.not_mem_nil, or_false]; intro v hv; rcases hv with rfl; all_goals first | exact trivial) (sg_Math_abs_0 (kc := 0) (ks := 0) x0 h (am_qi Q) t)
def bk_Math_floorDiv_0_7 : List am_E := [(0, .iload_n 0, 1, 0, 0), (1, .iload_n 1, 1, 0, 0), (2, .idiv, 1, 0, 0), (3, .istore_n 2, 1, 0, 0), (4, .iload_n 0, 1, 0, 0), (5, .iload_n 1, 1, 0, 0), (6, .ixor, 1, 0, 0)]
theorem bk_Math_floorDiv_0_7_ok : bk_Math_floorDiv_0_7.all (am_ok 14 false m_Math_floorDiv.2.1) = true := by decide +kernel
def bk_Math_floorDiv_21_1 : List am_E := [(21, .iload_n 2, 1, 0, 0)]
theorem bk_Math_floorDiv_21_1_ok : bk_Math_floorDiv_21_1.all (am_ok 14 false m_Math_floorDiv.2.1) = true := by decide +kernel
def bk_Math_floorDiv_10_4 : List am_E := [(10, .iload_n 2, 1, 0, 0), (11, .iload_n 1, 1, 0, 0), (12, .imul, 1, 0, 0), (13, .iload_n 0, 1, 0, 0)]
theorem bk_Math_floorDiv_10_4_ok : bk_Math_floorDiv_10_4.all (am_ok 14 false m_Math_floorDiv.2.1) = true := by decide +kernel
def bk_Math_floorDiv_17_3 : List am_E := [(17, .iload_n 2, 1, 0, 0), (18, .iconst 1, 1, 0, 1), (19, .isub, 1, 0, 0)]
theorem bk_Math_floorDiv_17_3_ok : bk_Math_floorDiv_17_3.all (am_ok 14 false m_Math_floorDiv.2.1) = true := by decide +kernel
theorem dc_Math_floorDiv_22 : decode m_Math_floorDiv.2.1 22 = .ok (.ireturn, 1) := by decide +kernel
theorem dc_Math_floorDiv_20 : decode m_Math_floorDiv.2.1 20 = .ok (.ireturn, 1) := by decide +kernel
theorem dc_Math_floorDiv_14 : decode m_Math_floorDiv.2.1 14 = .ok (.if_icmp .eq 7, 3) := by decide +kernel
theorem dc_Math_floorDiv_7 : decode m_Math_floorDiv.2.1 7 = .ok (.ifCond .ge 14, 3) := by decide +kernel
set_option maxRecDepth 20000 in
theorem sg_Math_floorDiv_0 {kc ks : Nat} (x0 x1 : Int32) (h : am_H) (Q : Option Value → am_H → Prop) (t : ((¬ x1 = 0) ∧ ((0 ≤ (x0 ^^^ x1) → Q (some (.int (x0 / x1))) h) ∧ (¬ 0 ≤ (x0 ^^^ x1) → ((((x0 / x1) * x1) = x0 → Q (some (.int (x0 / x1))) h) ∧ (¬ ((x0 / x1) * x1) = x0 → Q (some (.int ((x0 / x1) - 1))) h)))))) : am_EI m_Math_floorDiv kc ks 0 [.int x0, .int x1, .float 0] [] h Q := by
  refine am_blk_ok (c := 14) (ini := false) (by decide) rfl (fun q => by cases q) bk_Math_floorDiv_0_7 _ 7 _ _ _ bk_Math_floorDiv_0_7_ok rfl ?_
  show ((¬ x1 = 0) ∧ am_EI m_Math_floorDiv kc ks 7 [.int x0, .int x1, .int (x0 / x1)] [.int (x0 ^^^ x1)] h Q)
  obtain ⟨o1, t⟩ := t
  refine ⟨o1, ?_⟩
  refine am_if_ge (tgt := 21) dc_Math_floorDiv_7 (by decide) (fun c2 => ?_) (fun c2 => ?_)
  · replace t := t.1 c2
    refine am_blk_ok (c := 14) (ini := false) (by decide) rfl (fun q => by cases q) bk_Math_floorDiv_21_1 _ 22 _ _ _ bk_Math_floorDiv_21_1_ok rfl ?_
    show am_EI m_Math_floorDiv kc ks 22 [.int x0, .int x1, .int (x0 / x1)] [.int (x0 / x1)] h Q
    exact am_iret dc_Math_floorDiv_22 rfl t
  · replace t := t.2 c2
    refine am_blk_ok (c := 14) (ini := false) (by decide) rfl (fun q => by cases q) bk_Math_floorDiv_10_4 _ 14 _ _ _ bk_Math_floorDiv_10_4_ok rfl ?_
    show am_EI m_Math_floorDiv kc ks 14 [.int x0, .int x1, .int (x0 / x1)] [.int x0, .int ((x0 / x1) * x1)] h Q
    refine am_ic_eq (tgt := 21) dc_Math_floorDiv_14 (by decide) (fun c3 => ?_) (fun c3 => ?_)
    · replace t := t.1 c3
      refine am_blk_ok (c := 14) (ini := false) (by decide) rfl (fun q => by cases q) bk_Math_floorDiv_21_1 _ 22 _ _ _ bk_Math_floorDiv_21_1_ok rfl ?_
      show am_EI m_Math_floorDiv kc ks 22 [.int x0, .int x1, .int (x0 / x1)] [.int (x0 / x1)] h Q
      exact am_iret dc_Math_floorDiv_22 rfl t
    · replace t := t.2 c3
      refine am_blk_ok (c := 14) (ini := false) (by decide) rfl (fun q => by cases q) bk_Math_floorDiv_17_3 _ 20 _ _ _ bk_Math_floorDiv_17_3_ok rfl ?_
      show am_EI m_Math_floorDiv kc ks 20 [.int x0, .int x1, .int (x0 / x1)] [.int ((x0 / x1) - 1)] h Q
      exact am_iret dc_Math_floorDiv_20 rfl t
set_option maxRecDepth 20000 in
theorem ev_Math_floorDiv (x0 x1 : Int32) (h : am_H) (Q : Int32 → am_H → Prop) (t : ((¬ x1 = 0) ∧ ((0 ≤ (x0 ^^^ x1) → Q (x0 / x1) h) ∧ (¬ 0 ≤ (x0 ^^^ x1) → ((((x0 / x1) * x1) = x0 → Q (x0 / x1) h) ∧ (¬ ((x0 / x1) * x1) = x0 → Q ((x0 / x1) - 1) h)))))) : am_Ei m_Math_floorDiv 0 0 [.int x0, .int x1] h Q :=
  am_Ev.of (by decide +kernel) (Nat.le_of_ble_eq_true rfl) (by simp only [List.mem_cons, List.not_mem_nil, or_false]; intro v hv; rcases hv with rfl | rfl; all_goals first | exact trivial) (sg_Math_floorDiv_0 (kc := 0) (ks := 0) x0 x1 h (am_qi Q) t)
def bk_Math_floorMod_0_7 : List am_E := [(0, .iload_n 0, 1, 0, 0), (1, .iload_n 1, 1, 0, 0), (2, .irem, 1, 0, 0), (3, .istore_n 2, 1, 0, 0), (4, .iload_n 0, 1, 0, 0), (5, .iload_n 1, 1, 0, 0), (6, .ixor, 1, 0, 0)]
theorem bk_Math_floorMod_0_7_ok : bk_Math_floorMod_0_7.all (am_ok 14 false m_Math_floorMod.2.1) = true := by decide +kernel
def bk_Math_floorMod_18_1 : List am_E := [(18, .iload_n 2, 1, 0, 0)]
theorem bk_Math_floorMod_18_1_ok : bk_Math_floorMod_18_1.all (am_ok 14 false m_Math_floorMod.2.1) = true := by decide +kernel
def bk_Math_floorMod_10_1 : List am_E := [(10, .iload_n 2, 1, 0, 0)]
theorem bk_Math_floorMod_10_1_ok : bk_Math_floorMod_10_1.all (am_ok 14 false m_Math_floorMod.2.1) = true := by decide +kernel
def bk_Math_floorMod_14_3 : List am_E := [(14, .iload_n 2, 1, 0, 0), (15, .iload_n 1, 1, 0, 0), (16, .iadd, 1, 0, 0)]
theorem bk_Math_floorMod_14_3_ok : bk_Math_floorMod_14_3.all (am_ok 14 false m_Math_floorMod.2.1) = true := by decide +kernel
theorem dc_Math_floorMod_19 : decode m_Math_floorMod.2.1 19 = .ok (.ireturn, 1) := by decide +kernel
theorem dc_Math_floorMod_17 : decode m_Math_floorMod.2.1 17 = .ok (.ireturn, 1) := by decide +kernel
theorem dc_Math_floorMod_11 : decode m_Math_floorMod.2.1 11 = .ok (.ifCond .eq 7, 3) := by decide +kernel
theorem dc_Math_floorMod_7 : decode m_Math_floorMod.2.1 7 = .ok (.ifCond .ge 11, 3) := by decide +kernel
set_option maxRecDepth 20000 in
theorem sg_Math_floorMod_0 {kc ks : Nat} (x0 x1 : Int32) (h : am_H) (Q : Option Value → am_H → Prop) (t : ((¬ x1 = 0) ∧ ((0 ≤ (x0 ^^^ x1) → Q (some (.int (x0 % x1))) h) ∧ (¬ 0 ≤ (x0 ^^^ x1) → (((x0 % x1) = 0 → Q (some (.int (x0 % x1))) h) ∧ (¬ (x0 % x1) = 0 → Q (some (.int ((x0 % x1) + x1))) h)))))) : am_EI m_Math_floorMod kc ks 0 [.int x0, .int x1, .float 0] [] h Q := by
  refine am_blk_ok (c := 14) (ini := false) (by decide) rfl (fun q => by cases q) bk_Math_floorMod_0_7 _ 7 _ _ _ bk_Math_floorMod_0_7_ok rfl ?_
  show ((¬ x1 = 0) ∧ am_EI m_Math_floorMod kc ks 7 [.int x0, .int x1, .int (x0 % x1)] [.int (x0 ^^^ x1)] h Q)
  obtain ⟨o1, t⟩ := t
  refine ⟨o1, ?_⟩
  refine am_if_ge (tgt := 18) dc_Math_floorMod_7 (by decide) (fun c2 => ?_) (fun c2 => ?_)
  · replace t := t.1 c2
    refine am_blk_ok (c := 14) (ini := false) (by decide) rfl (fun q => by cases q) bk_Math_floorMod_18_1 _ 19 _ _ _ bk_Math_floorMod_18_1_ok rfl ?_
    show am_EI m_Math_floorMod kc ks 19 [.int x0, .int x1, .int (x0 % x1)] [.int (x0 % x1)] h Q
    exact am_iret dc_Math_floorMod_19 rfl t
  · replace t := t.2 c2
    refine am_blk_ok (c := 14) (ini := false) (by decide) rfl (fun q => by cases q) bk_Math_floorMod_10_1 _ 11 _ _ _ bk_Math_floorMod_10_1_ok rfl ?_
    show am_EI m_Math_floorMod kc ks 11 [.int x0, .int x1, .int (x0 % x1)] [.int (x0 % x1)] h Q
    refine am_if_eq (tgt := 18) dc_Math_floorMod_11 (by decide) (fun c3 => ?_) (fun c3 => ?_)
    · replace t := t.1 c3
      refine am_blk_ok (c := 14) (ini := false) (by decide) rfl (fun q => by cases q) bk_Math_floorMod_18_1 _ 19 _ _ _ bk_Math_floorMod_18_1_ok rfl ?_
      show am_EI m_Math_floorMod kc ks 19 [.int x0, .int x1, .int (x0 % x1)] [.int (x0 % x1)] h Q
      exact am_iret dc_Math_floorMod_19 rfl t
    · replace t := t.2 c3
      refine am_blk_ok (c := 14) (ini := false) (by decide) rfl (fun q => by cases q) bk_Math_floorMod_14_3 _ 17 _ _ _ bk_Math_floorMod_14_3_ok rfl ?_
      show am_EI m_Math_floorMod kc ks 17 [.int x0, .int x1, .int (x0 % x1)] [.int ((x0 % x1) + x1)] h Q
      exact am_iret dc_Math_floorMod_17 rfl t
set_option maxRecDepth 20000 in
theorem ev_Math_floorMod (x0 x1 : Int32) (h : am_H) (Q : Int32 → am_H → Prop) (t : ((¬ x1 = 0) ∧ ((0 ≤ (x0 ^^^ x1) → Q (x0 % x1) h) ∧ (¬ 0 ≤ (x0 ^^^ x1) → (((x0 % x1) = 0 → Q (x0 % x1) h) ∧ (¬ (x0 % x1) = 0 → Q ((x0 % x1) + x1) h)))))) : am_Ei m_Math_floorMod 0 0 [.int x0, .int x1] h Q :=
  am_Ev.of (by decide +kernel) (Nat.le_of_ble_eq_true rfl) (by simp only [List.mem_cons, List.not_mem_nil, or_false]; intro v hv; rcases hv with rfl | rfl; all_goals first | exact trivial) (sg_Math_floorMod_0 (kc := 0) (ks := 0) x0 x1 h (am_qi Q) t)
def bk_Math_max_0_2 : List am_E := [(0, .iload_n 0, 1, 0, 0), (1, .iload_n 1, 1, 0, 0)]
theorem bk_Math_max_0_2_ok : bk_Math_max_0_2.all (am_ok 14 false m_Math_max.2.1) = true := by decide +kernel
def bk_Math_max_9_1 : List am_E := [(9, .iload_n 1, 1, 0, 0)]
theorem bk_Math_max_9_1_ok : bk_Math_max_9_1.all (am_ok 14 false m_Math_max.2.1) = true := by decide +kernel
def bk_Math_max_5_2 : List am_E := [(5, .iload_n 0, 1, 0, 0), (6, .goto 4, 3, 0, 4)]
theorem bk_Math_max_5_2_ok : bk_Math_max_5_2.all (am_ok 14 false m_Math_max.2.1) = true := by decide +kernel
theorem dc_Math_max_10 : decode m_Math_max.2.1 10 = .ok (.ireturn, 1) := by decide +kernel
theorem dc_Math_max_2 : decode m_Math_max.2.1 2 = .ok (.if_icmp .lt 7, 3) := by decide +kernel
set_option maxRecDepth 20000 in
theorem sg_Math_max_0 {kc ks : Nat} (x0 x1 : Int32) (h : am_H) (Q : Option Value → am_H → Prop) (t : ((x0 < x1 → Q (some (.int x1)) h) ∧ (¬ x0 < x1 → Q (some (.int x0)) h))) : am_EI m_Math_max kc ks 0 [.int x0, .int x1] [] h Q := by
  refine am_blk_ok (c := 14) (ini := false) (by decide) rfl (fun q => by cases q) bk_Math_max_0_2 _ 2 _ _ _ bk_Math_max_0_2_ok rfl ?_
  show am_EI m_Math_max kc ks 2 [.int x0, .int x1] [.int x1, .int x0] h Q
  refine am_ic_lt (tgt := 9) dc_Math_max_2 (by decide) (fun c1 => ?_) (fun c1 => ?_)
  · replace t := t.1 c1
    refine am_blk_ok (c := 14) (ini := false) (by decide) rfl (fun q => by cases q) bk_Math_max_9_1 _ 10 _ _ _ bk_Math_max_9_1_ok rfl ?_
    show am_EI m_Math_max kc ks 10 [.int x0, .int x1] [.int x1] h Q
    exact am_iret dc_Math_max_10 rfl t
  · replace t := t.2 c1
    refine am_blk_ok (c := 14) (ini := false) (by decide) rfl (fun q => by cases q) bk_Math_max_5_2 _ 10 _ _ _ bk_Math_max_5_2_ok rfl ?_
    show am_EI m_Math_max kc ks 10 [.int x0, .int x1] [.int x0] h Q
    exact am_iret dc_Math_max_10 rfl t
set_option maxRecDepth 20000 in
theorem ev_Math_max (x0 x1 : Int32) (h : am_H) (Q : Int32 → am_H → Prop) (t : ((x0 < x1 → Q x1 h) ∧ (¬ x0 < x1 → Q x0 h))) : am_Ei m_Math_max 0 0 [.int x0, .int x1] h Q :=
  am_Ev.of (by decide +kernel) (Nat.le_of_ble_eq_true rfl) (by simp only [List.mem_cons, List.not_mem_nil, or_false]; intro v hv; rcases hv with rfl | rfl; all_goals first | exact trivial) (sg_Math_max_0 (kc := 0) (ks := 0) x0 x1 h (am_qi Q) t)
def bk_Math_min_0_2 : List am_E := [(0, .iload_n 0, 1, 0, 0), (1, .iload_n 1, 1, 0, 0)]
theorem bk_Math_min_0_2_ok : bk_Math_min_0_2.all (am_ok 14 false m_Math_min.2.1) = true := by decide +kernel
def bk_Math_min_9_1 : List am_E := [(9, .iload_n 1, 1, 0, 0)]
theorem bk_Math_min_9_1_ok : bk_Math_min_9_1.all (am_ok 14 false m_Math_min.2.1) = true := by decide +kernel
def bk_Math_min_5_2 : List am_E := [(5, .iload_n 0, 1, 0, 0), (6, .goto 4, 3, 0, 4)]
theorem bk_Math_min_5_2_ok : bk_Math_min_5_2.all (am_ok 14 false m_Math_min.2.1) = true := by decide +kernel
theorem dc_Math_min_10 : decode m_Math_min.2.1 10 = .ok (.ireturn, 1) := by decide +kernel
theorem dc_Math_min_2 : decode m_Math_min.2.1 2 = .ok (.if_icmp .gt 7, 3) := by decide +kernel
set_option maxRecDepth 20000 in
theorem sg_Math_min_0 {kc ks : Nat} (x0 x1 : Int32) (h : am_H) (Q : Option Value → am_H → Prop) (t : ((x1 < x0 → Q (some (.int x1)) h) ∧ (¬ x1 < x0 → Q (some (.int x0)) h))) : am_EI m_Math_min kc ks 0 [.int x0, .int x1] [] h Q := by
  refine am_blk_ok (c := 14) (ini := false) (by decide) rfl (fun q => by cases q) bk_Math_min_0_2 _ 2 _ _ _ bk_Math_min_0_2_ok rfl ?_
  show am_EI m_Math_min kc ks 2 [.int x0, .int x1] [.int x1, .int x0] h Q
  refine am_ic_gt (tgt := 9) dc_Math_min_2 (by decide) (fun c1 => ?_) (fun c1 => ?_)
  · replace t := t.1 c1
    refine am_blk_ok (c := 14) (ini := false) (by decide) rfl (fun q => by cases q) bk_Math_min_9_1 _ 10 _ _ _ bk_Math_min_9_1_ok rfl ?_
    show am_EI m_Math_min kc ks 10 [.int x0, .int x1] [.int x1] h Q
    exact am_iret dc_Math_min_10 rfl t
  · replace t := t.2 c1
    refine am_blk_ok (c := 14) (ini := false) (by decide) rfl (fun q => by cases q) bk_Math_min_5_2 _ 10 _ _ _ bk_Math_min_5_2_ok rfl ?_
    show am_EI m_Math_min kc ks 10 [.int x0, .int x1] [.int x0] h Q
    exact am_iret dc_Math_min_10 rfl t
set_option maxRecDepth 20000 in
theorem ev_Math_min (x0 x1 : Int32) (h : am_H) (Q : Int32 → am_H → Prop) (t : ((x1 < x0 → Q x1 h) ∧ (¬ x1 < x0 → Q x0 h))) : am_Ei m_Math_min 0 0 [.int x0, .int x1] h Q :=
  am_Ev.of (by decide +kernel) (Nat.le_of_ble_eq_true rfl) (by simp only [List.mem_cons, List.not_mem_nil, or_false]; intro v hv; rcases hv with rfl | rfl; all_goals first | exact trivial) (sg_Math_min_0 (kc := 0) (ks := 0) x0 x1 h (am_qi Q) t)
