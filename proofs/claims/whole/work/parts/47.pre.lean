def bk_Pre_checkIndex_0_1 : List am_E := [(0, .iload_n 0, 1, 0, 0)]
theorem bk_Pre_checkIndex_0_1_ok : bk_Pre_checkIndex_0_1.all (am_ok 17 false m_Pre_checkIndex.2.1) = true := by decide +kernel
def bk_Pre_checkIndex_9_3 : List am_E := [(9, .aload_n 2, 1, 0, 0), (10, .iload_n 0, 1, 0, 0), (11, .iload_n 1, 1, 0, 0)]
theorem bk_Pre_checkIndex_9_3_ok : bk_Pre_checkIndex_9_3.all (am_ok 17 false m_Pre_checkIndex.2.1) = true := by decide +kernel
def bk_Pre_checkIndex_4_2 : List am_E := [(4, .iload_n 0, 1, 0, 0), (5, .iload_n 1, 1, 0, 0)]
theorem bk_Pre_checkIndex_4_2_ok : bk_Pre_checkIndex_4_2.all (am_ok 17 false m_Pre_checkIndex.2.1) = true := by decide +kernel
def bk_Pre_checkIndex_16_1 : List am_E := [(16, .iload_n 0, 1, 0, 0)]
theorem bk_Pre_checkIndex_16_1_ok : bk_Pre_checkIndex_16_1.all (am_ok 17 false m_Pre_checkIndex.2.1) = true := by decide +kernel
theorem dc_Pre_checkIndex_17 : decode m_Pre_checkIndex.2.1 17 = .ok (.ireturn, 1) := by decide +kernel
theorem dc_Pre_checkIndex_6 : decode m_Pre_checkIndex.2.1 6 = .ok (.if_icmp .lt 10, 3) := by decide +kernel
theorem dc_Pre_checkIndex_1 : decode m_Pre_checkIndex.2.1 1 = .ok (.ifCond .lt 8, 3) := by decide +kernel
set_option maxRecDepth 20000 in
theorem sg_Pre_checkIndex_0 {kc ks : Nat} (j2 : Nat) (x0 x1 : Int32) (h : am_H) (Q : Option Value → am_H → Prop) (t : ((x0 < 0 → (am_isC j2 = true ∧ False)) ∧ (¬ x0 < 0 → ((x0 < x1 → Q (some (.int x0)) h) ∧ (¬ x0 < x1 → (am_isC j2 = true ∧ False)))))) : am_EI m_Pre_checkIndex kc ks 0 [.int x0, .int x1, .retAddr j2] [] h Q := by
  refine am_blk_ok (c := 17) (ini := false) (by decide) rfl (fun q => by cases q) bk_Pre_checkIndex_0_1 _ 1 _ _ _ bk_Pre_checkIndex_0_1_ok rfl ?_
  show am_EI m_Pre_checkIndex kc ks 1 [.int x0, .int x1, .retAddr j2] [.int x0] h Q
  refine am_if_lt (tgt := 9) dc_Pre_checkIndex_1 (by decide) (fun c1 => ?_) (fun c1 => ?_)
  · replace t := t.1 c1
    refine am_blk_ok (c := 17) (ini := false) (by decide) rfl (fun q => by cases q) bk_Pre_checkIndex_9_3 _ 12 _ _ _ bk_Pre_checkIndex_9_3_ok rfl ?_
    show (am_isC j2 = true ∧ am_EI m_Pre_checkIndex kc ks 12 [.int x0, .int x1, .retAddr j2] [.int x1, .int x0, .retAddr j2] h Q)
    obtain ⟨o2, t⟩ := t
    refine ⟨o2, ?_⟩
    exact t.elim
  · replace t := t.2 c1
    refine am_blk_ok (c := 17) (ini := false) (by decide) rfl (fun q => by cases q) bk_Pre_checkIndex_4_2 _ 6 _ _ _ bk_Pre_checkIndex_4_2_ok rfl ?_
    show am_EI m_Pre_checkIndex kc ks 6 [.int x0, .int x1, .retAddr j2] [.int x1, .int x0] h Q
    refine am_ic_lt (tgt := 16) dc_Pre_checkIndex_6 (by decide) (fun c3 => ?_) (fun c3 => ?_)
    · replace t := t.1 c3
      refine am_blk_ok (c := 17) (ini := false) (by decide) rfl (fun q => by cases q) bk_Pre_checkIndex_16_1 _ 17 _ _ _ bk_Pre_checkIndex_16_1_ok rfl ?_
      show am_EI m_Pre_checkIndex kc ks 17 [.int x0, .int x1, .retAddr j2] [.int x0] h Q
      exact am_iret dc_Pre_checkIndex_17 rfl t
    · replace t := t.2 c3
      refine am_blk_ok (c := 17) (ini := false) (by decide) rfl (fun q => by cases q) bk_Pre_checkIndex_9_3 _ 12 _ _ _ bk_Pre_checkIndex_9_3_ok rfl ?_
      show (am_isC j2 = true ∧ am_EI m_Pre_checkIndex kc ks 12 [.int x0, .int x1, .retAddr j2] [.int x1, .int x0, .retAddr j2] h Q)
      obtain ⟨o4, t⟩ := t
      refine ⟨o4, ?_⟩
      exact t.elim
set_option maxRecDepth 20000 in
theorem ev_Pre_checkIndex (j2 : Nat) (x0 x1 : Int32) (h : am_H) (Q : Int32 → am_H → Prop) (hc_j2 : am_arg (.retAddr j2)) (t : ((x0 < 0 → (am_isC j2 = true ∧ False)) ∧ (¬ x0 < 0 → ((x0 < x1 → Q x0 h) ∧ (¬ x0 < x1 → (am_isC j2 = true ∧ False)))))) : am_Ei m_Pre_checkIndex 0 0 [.int x0, .int x1, .retAddr j2] h Q :=
  am_Ev.of (by decide +kernel) (Nat.le_of_ble_eq_true rfl) (by simp only [List.mem_cons, List.not_mem_nil, or_false]; intro v hv; rcases hv with rfl | rfl | rfl; all_goals first | exact trivial | exact hc_j2) (sg_Pre_checkIndex_0 (kc := 0) (ks := 0) j2 x0 x1 h (am_qi Q) t)
