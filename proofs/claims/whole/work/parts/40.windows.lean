def bk_Windows_areAlways_0_2 : List am_E := [(0, .aload_n 0, 1, 0, 0), (1, .getfield 24, 3, 4014, 0)]
theorem bk_Windows_areAlways_0_2_ok : bk_Windows_areAlways_0_2.all (am_ok 10 false m_Windows_areAlways.2.1) = true := by decide +kernel
theorem dc_Windows_areAlways_4 : decode m_Windows_areAlways.2.1 4 = .ok (.ireturn, 1) := by decide +kernel
set_option maxRecDepth 20000 in
theorem sg_Windows_areAlways_0 {kc ks : Nat} (a0 : Nat) (h : am_H) (Q : Option Value → am_H → Prop) (t : (am_tg h a0 = (10, 4) ∧ (am_b01 (am_I h a0 3) ∧ Q (some (.int (am_I h a0 3))) h))) : am_EI m_Windows_areAlways kc ks 0 [.ref a0] [] h Q := by
  refine am_blk_ok (c := 10) (ini := false) (by decide) rfl (fun q => by cases q) bk_Windows_areAlways_0_2 _ 4 _ _ _ bk_Windows_areAlways_0_2_ok rfl ?_
  show (am_tg h a0 = (10, 4) ∧ am_EI m_Windows_areAlways kc ks 4 [.ref a0] [.int (am_I h a0 3)] h Q)
  obtain ⟨o1, t⟩ := t
  refine ⟨o1, ?_⟩
  exact am_zret dc_Windows_areAlways_4 rfl t.1 t.2
set_option maxRecDepth 20000 in
theorem ev_Windows_areAlways (a0 : Nat) (h : am_H) (Q : Int32 → am_H → Prop) (t : (am_tg h a0 = (10, 4) ∧ (am_b01 (am_I h a0 3) ∧ Q (am_I h a0 3) h))) : am_Ei m_Windows_areAlways 0 0 [.ref a0] h Q :=
  am_Ev.of (by decide +kernel) (Nat.le_of_ble_eq_true rfl) (by simp only [List.mem_cons, List.not_mem_nil, or_false]; intro v hv; rcases hv with rfl; all_goals first | exact trivial) (sg_Windows_areAlways_0 (kc := 0) (ks := 0) a0 h (am_qi Q) t)
def bk_Windows_find_0_2 : List am_E := [(0, .aload_n 0, 1, 0, 0), (1, .getfield 14, 3, 4001, 0)]
theorem bk_Windows_find_0_2_ok : bk_Windows_find_0_2.all (am_ok 10 false m_Windows_find.2.1) = true := by decide +kernel
def bk_Windows_find_7_4 : List am_E := [(7, .aload_n 0, 1, 0, 0), (8, .iconst 0, 1, 0, 0), (9, .putfield 24, 3, 4014, 0), (12, .aload_n 1, 1, 0, 0)]
theorem bk_Windows_find_7_4_ok : bk_Windows_find_7_4.all (am_ok 10 false m_Windows_find.2.1) = true := by decide +kernel
def bk_Windows_find_16_2 : List am_E := [(16, .astore_n 3, 1, 0, 0), (17, .aload_n 3, 1, 0, 0)]
theorem bk_Windows_find_16_2_ok : bk_Windows_find_16_2.all (am_ok 10 false m_Windows_find.2.1) = true := by decide +kernel
def bk_Windows_find_22_1 : List am_E := [(22, .aload_n 1, 1, 0, 0)]
theorem bk_Windows_find_22_1_ok : bk_Windows_find_22_1.all (am_ok 10 false m_Windows_find.2.1) = true := by decide +kernel
def bk_Windows_find_52_3 : List am_E := [(52, .aload_n 3, 1, 0, 0), (53, .iconst 0, 1, 0, 0), (54, .aload_n 1, 1, 0, 0)]
theorem bk_Windows_find_52_3_ok : bk_Windows_find_52_3.all (am_ok 10 false m_Windows_find.2.1) = true := by decide +kernel
def bk_Windows_find_58_1 : List am_E := [(58, .aload_n 2, 1, 0, 0)]
theorem bk_Windows_find_58_1_ok : bk_Windows_find_58_1.all (am_ok 10 false m_Windows_find.2.1) = true := by decide +kernel
def bk_Windows_find_62_3 : List am_E := [(62, .iadd, 1, 0, 0), (63, .aload_n 0, 1, 0, 0), (64, .getfield 14, 3, 4001, 0)]
theorem bk_Windows_find_62_3_ok : bk_Windows_find_62_3.all (am_ok 10 false m_Windows_find.2.1) = true := by decide +kernel
def bk_Windows_find_70_1 : List am_E := [(70, .goto 41, 3, 0, 41)]
theorem bk_Windows_find_70_1_ok : bk_Windows_find_70_1.all (am_ok 10 false m_Windows_find.2.1) = true := by decide +kernel
def bk_Windows_find_73_4 : List am_E := [(73, .aload_n 0, 1, 0, 0), (74, .aload_n 3, 1, 0, 0), (75, .aload_n 1, 1, 0, 0), (76, .aload_n 2, 1, 0, 0)]
theorem bk_Windows_find_73_4_ok : bk_Windows_find_73_4.all (am_ok 10 false m_Windows_find.2.1) = true := by decide +kernel
def bk_Windows_find_80_1 : List am_E := [(80, .goto 31, 3, 0, 31)]
theorem bk_Windows_find_80_1_ok : bk_Windows_find_80_1.all (am_ok 10 false m_Windows_find.2.1) = true := by decide +kernel
def bk_Windows_find_83_4 : List am_E := [(83, .aload_n 0, 1, 0, 0), (84, .aload_n 3, 1, 0, 0), (85, .aload_n 1, 1, 0, 0), (86, .aload_n 2, 1, 0, 0)]
theorem bk_Windows_find_83_4_ok : bk_Windows_find_83_4.all (am_ok 10 false m_Windows_find.2.1) = true := by decide +kernel
def bk_Windows_find_90_1 : List am_E := [(90, .goto 21, 3, 0, 21)]
theorem bk_Windows_find_90_1_ok : bk_Windows_find_90_1.all (am_ok 10 false m_Windows_find.2.1) = true := by decide +kernel
def bk_Windows_find_93_3 : List am_E := [(93, .aload_n 3, 1, 0, 0), (94, .iconst 2, 1, 0, 2), (95, .aload_n 1, 1, 0, 0)]
theorem bk_Windows_find_93_3_ok : bk_Windows_find_93_3.all (am_ok 10 false m_Windows_find.2.1) = true := by decide +kernel
def bk_Windows_find_99_1 : List am_E := [(99, .aload_n 2, 1, 0, 0)]
theorem bk_Windows_find_99_1_ok : bk_Windows_find_99_1.all (am_ok 10 false m_Windows_find.2.1) = true := by decide +kernel
def bk_Windows_find_103_3 : List am_E := [(103, .isub, 1, 0, 0), (104, .aload_n 0, 1, 0, 0), (105, .getfield 14, 3, 4001, 0)]
theorem bk_Windows_find_103_3_ok : bk_Windows_find_103_3.all (am_ok 10 false m_Windows_find.2.1) = true := by decide +kernel
def bk_Windows_find_111_3 : List am_E := [(111, .aload_n 0, 1, 0, 0), (112, .aload_n 0, 1, 0, 0), (113, .getfield 14, 3, 4001, 0)]
theorem bk_Windows_find_111_3_ok : bk_Windows_find_111_3.all (am_ok 10 false m_Windows_find.2.1) = true := by decide +kernel
def bk_Windows_find_119_1 : List am_E := [(119, .aload_n 3, 1, 0, 0)]
theorem bk_Windows_find_119_1_ok : bk_Windows_find_119_1.all (am_ok 10 false m_Windows_find.2.1) = true := by decide +kernel
def bk_Windows_find_123_1 : List am_E := [(123, .aload_n 3, 1, 0, 0)]
theorem bk_Windows_find_123_1_ok : bk_Windows_find_123_1.all (am_ok 10 false m_Windows_find.2.1) = true := by decide +kernel
def bk_Windows_find_127_3 : List am_E := [(127, .isub, 1, 0, 0), (128, .iconst 1, 1, 0, 1), (129, .iadd, 1, 0, 0)]
theorem bk_Windows_find_127_3_ok : bk_Windows_find_127_3.all (am_ok 10 false m_Windows_find.2.1) = true := by decide +kernel
def bk_Windows_find_137_1 : List am_E := [(137, .iconst 0, 1, 0, 0)]
theorem bk_Windows_find_137_1_ok : bk_Windows_find_137_1.all (am_ok 10 false m_Windows_find.2.1) = true := by decide +kernel
def bk_Windows_find_133_2 : List am_E := [(133, .iconst 1, 1, 0, 1), (134, .goto 4, 3, 0, 4)]
theorem bk_Windows_find_133_2_ok : bk_Windows_find_133_2.all (am_ok 10 false m_Windows_find.2.1) = true := by decide +kernel
def bk_Windows_find_138_1 : List am_E := [(138, .putfield 24, 3, 4014, 0)]
theorem bk_Windows_find_138_1_ok : bk_Windows_find_138_1.all (am_ok 10 false m_Windows_find.2.1) = true := by decide +kernel
theorem dc_Windows_find_4 : decode m_Windows_find.2.1 4 = .ok (.invokevirtual 28, 3) := by decide +kernel
theorem dc_Windows_find_13 : decode m_Windows_find.2.1 13 = .ok (.invokevirtual 31, 3) := by decide +kernel
theorem dc_Windows_find_18 : decode m_Windows_find.2.1 18 = .ok (.ifnonnull 4, 3) := by decide +kernel
theorem dc_Windows_find_21 : decode m_Windows_find.2.1 21 = .ok (.return_, 1) := by decide +kernel
theorem dc_Windows_find_23 : decode m_Windows_find.2.1 23 = .ok (.invokevirtual 37, 3) := by decide +kernel
theorem dc_Windows_find_26 : decode m_Windows_find.2.1 26 = .ok (.tableswitch 67 0 2 #[26, 47, 57], 26) := by decide +kernel
theorem dc_Windows_find_55 : decode m_Windows_find.2.1 55 = .ok (.invokevirtual 43, 3) := by decide +kernel
theorem dc_Windows_find_59 : decode m_Windows_find.2.1 59 = .ok (.invokevirtual 46, 3) := by decide +kernel
theorem dc_Windows_find_67 : decode m_Windows_find.2.1 67 = .ok (.invokevirtual 51, 3) := by decide +kernel
theorem dc_Windows_find_77 : decode m_Windows_find.2.1 77 = .ok (.invokevirtual 55, 3) := by decide +kernel
theorem dc_Windows_find_87 : decode m_Windows_find.2.1 87 = .ok (.invokevirtual 59, 3) := by decide +kernel
theorem dc_Windows_find_96 : decode m_Windows_find.2.1 96 = .ok (.invokevirtual 43, 3) := by decide +kernel
theorem dc_Windows_find_100 : decode m_Windows_find.2.1 100 = .ok (.invokevirtual 62, 3) := by decide +kernel
theorem dc_Windows_find_108 : decode m_Windows_find.2.1 108 = .ok (.invokevirtual 51, 3) := by decide +kernel
theorem dc_Windows_find_116 : decode m_Windows_find.2.1 116 = .ok (.invokevirtual 65, 3) := by decide +kernel
theorem dc_Windows_find_120 : decode m_Windows_find.2.1 120 = .ok (.invokevirtual 68, 3) := by decide +kernel
theorem dc_Windows_find_124 : decode m_Windows_find.2.1 124 = .ok (.invokevirtual 71, 3) := by decide +kernel
theorem dc_Windows_find_130 : decode m_Windows_find.2.1 130 = .ok (.if_icmp .ne 7, 3) := by decide +kernel
theorem dc_Windows_find_141 : decode m_Windows_find.2.1 141 = .ok (.return_, 1) := by decide +kernel
set_option maxRecDepth 20000 in
theorem sg_Windows_find_0 {kc ks : Nat} (a0 a1 a2 : Nat) (h : am_H) (Q : Option Value → am_H → Prop) (t : (am_tg h a0 = (10, 4) ∧ (∃ b1, am_P h a0 0 = some b1 ∧ (am_tg h b1 = (8, 4) ∧ (am_Ew m_Spans_clear 0 0 [.ref b1] h (fun h5 => (am_tg h5 a0 = (10, 4) ∧ (am_tg h5 a1 = (7, 5) ∧ (am_Er m_Sill_home 0 0 [.ref a1] (am_si h5 a0 3 0) (fun r9 h8 => (r9 = none → Q none h8) ∧ ∀ b10, r9 = some b10 → (am_tg h8 a1 = (7, 5) ∧ (am_Ei m_Sill_kind 0 0 [.ref a1] h8 (fun r14 h13 => ((r14 = 0 → (am_tg h13 a1 = (7, 5) ∧ (am_Ei m_Sill_level 0 0 [.ref a1] h13 (fun r18 h17 => (am_tg h17 a2 = (6, 3) ∧ (am_Ei m_Ship_draught 0 0 [.ref a2] h17 (fun r21 h20 => (am_tg h20 a0 = (10, 4) ∧ (∃ b22, am_P h20 a0 0 = some b22 ∧ (am_tg h20 b10 = (2, 5) ∧ (am_Ew m_Port_collect 0 0 [.ref b10, .int 0, .int (r18 + r21), .ref b22] h20 (fun h26 => am_EI m_Windows_find kc ks 111 [.ref a0, .ref a1, .ref a2, .ref b10] [] h26 Q)))))))))))) ∧ (r14 = 1 → (am_tg h13 a0 = (10, 4) ∧ (am_Ew m_Windows_findAtGate 0 0 [.ref a0, .ref b10, .ref a1, .ref a2] h13 (fun h29 => am_EI m_Windows_find kc ks 111 [.ref a0, .ref a1, .ref a2, .ref b10] [] h29 Q)))) ∧ (r14 = 2 → (am_tg h13 a0 = (10, 4) ∧ (am_Ew m_Windows_findAtFlap 0 0 [.ref a0, .ref b10, .ref a1, .ref a2] h13 (fun h32 => am_EI m_Windows_find kc ks 111 [.ref a0, .ref a1, .ref a2, .ref b10] [] h32 Q)))) ∧ (¬ r14 = 0 → ¬ r14 = 1 → ¬ r14 = 2 → (am_tg h13 a1 = (7, 5) ∧ (am_Ei m_Sill_level 0 0 [.ref a1] h13 (fun r35 h34 => (am_tg h34 a2 = (6, 3) ∧ (am_Ei m_Ship_mast 0 0 [.ref a2] h34 (fun r38 h37 => (am_tg h37 a0 = (10, 4) ∧ (∃ b39, am_P h37 a0 0 = some b39 ∧ (am_tg h37 b10 = (2, 5) ∧ (am_Ew m_Port_collect 0 0 [.ref b10, .int 2, .int (r35 - r38), .ref b39] h37 (fun h43 => am_EI m_Windows_find kc ks 111 [.ref a0, .ref a1, .ref a2, .ref b10] [] h43 Q)))))))))))))))))))))))))) : am_EI m_Windows_find kc ks 0 [.ref a0, .ref a1, .ref a2, .float 0] [] h Q := by
  refine am_blk_ok (c := 10) (ini := false) (by decide) rfl (fun q => by cases q) bk_Windows_find_0_2 _ 4 _ _ _ bk_Windows_find_0_2_ok rfl ?_
  show (am_tg h a0 = (10, 4) ∧ (∃ b1, am_P h a0 0 = some b1 ∧ am_EI m_Windows_find kc ks 4 [.ref a0, .ref a1, .ref a2, .float 0] [.ref b1] h Q))
  obtain ⟨o2, b1, q3, t⟩ := t
  refine ⟨o2, b1, q3, ?_⟩
  obtain ⟨o4, t⟩ := t
  refine am_callV (M2 := m_Spans_clear) (ci := 8) (a := b1) (kc := kc) (ks := ks) (k2c := 0) (k2s := 0) (as := []) [] dc_Windows_find_4 lk_10_28 im_Spans_clear se_Spans_clear lm_Spans_clear np_Spans_clear ⟨Nat.le_of_ble_eq_true rfl, Nat.le_of_ble_eq_true rfl⟩ (fun _ => Nat.le_of_ble_eq_true rfl) (by decide) rfl o4 (am_Ew.end (am_Ew.mono t (fun h5 t => ?_)))
  refine am_blk_ok (c := 10) (ini := false) (by decide) rfl (fun q => by cases q) bk_Windows_find_7_4 _ 13 _ _ _ bk_Windows_find_7_4_ok rfl ?_
  show (am_tg h5 a0 = (10, 4) ∧ (am_b01 0 ∧ am_EI m_Windows_find kc ks 13 [.ref a0, .ref a1, .ref a2, .float 0] [.ref a1] (am_si h5 a0 3 0) Q))
  obtain ⟨o6, t⟩ := t
  refine ⟨o6, (Or.inl rfl), ?_⟩
  obtain ⟨o7, t⟩ := t
  refine am_callV (M2 := m_Sill_home) (ci := 7) (a := a1) (kc := kc) (ks := ks) (k2c := 0) (k2s := 0) (as := []) [] dc_Windows_find_13 lk_10_31 im_Sill_home se_Sill_home lm_Sill_home np_Sill_home ⟨Nat.le_of_ble_eq_true rfl, Nat.le_of_ble_eq_true rfl⟩ (fun _ => Nat.le_of_ble_eq_true rfl) (by decide) rfl o7 (am_Er.end (am_Er.mono t (fun r9 h8 t => ⟨fun c11 => ?_, fun b10 c11 => ?_⟩)))
  · replace t := t.1 c11
    refine am_blk_ok (c := 10) (ini := false) (by decide) rfl (fun q => by cases q) bk_Windows_find_16_2 _ 18 _ _ _ bk_Windows_find_16_2_ok rfl ?_
    show am_EI m_Windows_find kc ks 18 [.ref a0, .ref a1, .ref a2, .null] [.null] h8 Q
    refine am_ifnonnullN dc_Windows_find_18 ?_
    exact am_vret dc_Windows_find_21 rfl t
  · replace t := t.2 b10 c11
    refine am_blk_ok (c := 10) (ini := false) (by decide) rfl (fun q => by cases q) bk_Windows_find_16_2 _ 18 _ _ _ bk_Windows_find_16_2_ok rfl ?_
    show am_EI m_Windows_find kc ks 18 [.ref a0, .ref a1, .ref a2, .ref b10] [.ref b10] h8 Q
    refine am_ifnonnull (tgt := 22) dc_Windows_find_18 (by decide) ?_
    refine am_blk_ok (c := 10) (ini := false) (by decide) rfl (fun q => by cases q) bk_Windows_find_22_1 _ 23 _ _ _ bk_Windows_find_22_1_ok rfl ?_
    show am_EI m_Windows_find kc ks 23 [.ref a0, .ref a1, .ref a2, .ref b10] [.ref a1] h8 Q
    obtain ⟨o12, t⟩ := t
    refine am_callV (M2 := m_Sill_kind) (ci := 7) (a := a1) (kc := kc) (ks := ks) (k2c := 0) (k2s := 0) (as := []) [] dc_Windows_find_23 lk_10_37 im_Sill_kind se_Sill_kind lm_Sill_kind np_Sill_kind ⟨Nat.le_of_ble_eq_true rfl, Nat.le_of_ble_eq_true rfl⟩ (fun _ => Nat.le_of_ble_eq_true rfl) (by decide) rfl o12 (am_Ei.end (am_Ei.mono t (fun r14 h13 t => ?_)))
    by_cases c15 : r14 = 0
    · refine am_tabIn (x := r14) (tgt := 52) dc_Windows_find_26 (by rw [c15]; decide) (by rw [c15]; decide) (by rw [c15]; rfl) (by decide) ?_
      replace t := t.1 c15
      refine am_blk_ok (c := 10) (ini := false) (by decide) rfl (fun q => by cases q) bk_Windows_find_52_3 _ 55 _ _ _ bk_Windows_find_52_3_ok rfl ?_
      show am_EI m_Windows_find kc ks 55 [.ref a0, .ref a1, .ref a2, .ref b10] [.ref a1, .int 0, .ref b10] h13 Q
      obtain ⟨o16, t⟩ := t
      refine am_callV (M2 := m_Sill_level) (ci := 7) (a := a1) (kc := kc) (ks := ks) (k2c := 0) (k2s := 0) (as := [.int 0, .ref b10]) [] dc_Windows_find_55 lk_10_43 im_Sill_level se_Sill_level lm_Sill_level np_Sill_level ⟨Nat.le_of_ble_eq_true rfl, Nat.le_of_ble_eq_true rfl⟩ (fun _ => Nat.le_of_ble_eq_true rfl) (by decide) rfl o16 (am_Ei.end (am_Ei.mono t (fun r18 h17 t => ?_)))
      refine am_blk_ok (c := 10) (ini := false) (by decide) rfl (fun q => by cases q) bk_Windows_find_58_1 _ 59 _ _ _ bk_Windows_find_58_1_ok rfl ?_
      show am_EI m_Windows_find kc ks 59 [.ref a0, .ref a1, .ref a2, .ref b10] [.ref a2, .int r18, .int 0, .ref b10] h17 Q
      obtain ⟨o19, t⟩ := t
      refine am_callV (M2 := m_Ship_draught) (ci := 6) (a := a2) (kc := kc) (ks := ks) (k2c := 0) (k2s := 0) (as := [.int r18, .int 0, .ref b10]) [] dc_Windows_find_59 lk_10_46 im_Ship_draught se_Ship_draught lm_Ship_draught np_Ship_draught ⟨Nat.le_of_ble_eq_true rfl, Nat.le_of_ble_eq_true rfl⟩ (fun _ => Nat.le_of_ble_eq_true rfl) (by decide) rfl o19 (am_Ei.end (am_Ei.mono t (fun r21 h20 t => ?_)))
      refine am_blk_ok (c := 10) (ini := false) (by decide) rfl (fun q => by cases q) bk_Windows_find_62_3 _ 67 _ _ _ bk_Windows_find_62_3_ok rfl ?_
      show (am_tg h20 a0 = (10, 4) ∧ (∃ b22, am_P h20 a0 0 = some b22 ∧ am_EI m_Windows_find kc ks 67 [.ref a0, .ref a1, .ref a2, .ref b10] [.ref b22, .int (r18 + r21), .int 0, .ref b10] h20 Q))
      obtain ⟨o23, b22, q24, t⟩ := t
      refine ⟨o23, b22, q24, ?_⟩
      obtain ⟨o25, t⟩ := t
      refine am_callV (M2 := m_Port_collect) (ci := 2) (a := b10) (kc := kc) (ks := ks) (k2c := 0) (k2s := 0) (as := []) [.int 0, .int (r18 + r21), .ref b22] dc_Windows_find_67 lk_10_51 im_Port_collect se_Port_collect lm_Port_collect np_Port_collect ⟨Nat.le_of_ble_eq_true rfl, Nat.le_of_ble_eq_true rfl⟩ (fun _ => Nat.le_of_ble_eq_true rfl) (by decide) rfl o25 (am_Ew.end (am_Ew.mono t (fun h26 t => ?_)))
      refine am_blk_ok (c := 10) (ini := false) (by decide) rfl (fun q => by cases q) bk_Windows_find_70_1 _ 111 _ _ _ bk_Windows_find_70_1_ok rfl ?_
      show am_EI m_Windows_find kc ks 111 [.ref a0, .ref a1, .ref a2, .ref b10] [] h26 Q
      exact t
    by_cases c27 : r14 = 1
    · refine am_tabIn (x := r14) (tgt := 73) dc_Windows_find_26 (by rw [c27]; decide) (by rw [c27]; decide) (by rw [c27]; rfl) (by decide) ?_
      replace t := t.2.1 c27
      refine am_blk_ok (c := 10) (ini := false) (by decide) rfl (fun q => by cases q) bk_Windows_find_73_4 _ 77 _ _ _ bk_Windows_find_73_4_ok rfl ?_
      show am_EI m_Windows_find kc ks 77 [.ref a0, .ref a1, .ref a2, .ref b10] [.ref a2, .ref a1, .ref b10, .ref a0] h13 Q
      obtain ⟨o28, t⟩ := t
      refine am_callV (M2 := m_Windows_findAtGate) (ci := 10) (a := a0) (kc := kc) (ks := ks) (k2c := 0) (k2s := 0) (as := []) [.ref b10, .ref a1, .ref a2] dc_Windows_find_77 lk_10_55 im_Windows_findAtGate se_Windows_findAtGate lm_Windows_findAtGate np_Windows_findAtGate ⟨Nat.le_of_ble_eq_true rfl, Nat.le_of_ble_eq_true rfl⟩ (fun _ => Nat.le_of_ble_eq_true rfl) (by decide) rfl o28 (am_Ew.end (am_Ew.mono t (fun h29 t => ?_)))
      refine am_blk_ok (c := 10) (ini := false) (by decide) rfl (fun q => by cases q) bk_Windows_find_80_1 _ 111 _ _ _ bk_Windows_find_80_1_ok rfl ?_
      show am_EI m_Windows_find kc ks 111 [.ref a0, .ref a1, .ref a2, .ref b10] [] h29 Q
      exact t
    by_cases c30 : r14 = 2
    · refine am_tabIn (x := r14) (tgt := 83) dc_Windows_find_26 (by rw [c30]; decide) (by rw [c30]; decide) (by rw [c30]; rfl) (by decide) ?_
      replace t := t.2.2.1 c30
      refine am_blk_ok (c := 10) (ini := false) (by decide) rfl (fun q => by cases q) bk_Windows_find_83_4 _ 87 _ _ _ bk_Windows_find_83_4_ok rfl ?_
      show am_EI m_Windows_find kc ks 87 [.ref a0, .ref a1, .ref a2, .ref b10] [.ref a2, .ref a1, .ref b10, .ref a0] h13 Q
      obtain ⟨o31, t⟩ := t
      refine am_callV (M2 := m_Windows_findAtFlap) (ci := 10) (a := a0) (kc := kc) (ks := ks) (k2c := 0) (k2s := 0) (as := []) [.ref b10, .ref a1, .ref a2] dc_Windows_find_87 lk_10_59 im_Windows_findAtFlap se_Windows_findAtFlap lm_Windows_findAtFlap np_Windows_findAtFlap ⟨Nat.le_of_ble_eq_true rfl, Nat.le_of_ble_eq_true rfl⟩ (fun _ => Nat.le_of_ble_eq_true rfl) (by decide) rfl o31 (am_Ew.end (am_Ew.mono t (fun h32 t => ?_)))
      refine am_blk_ok (c := 10) (ini := false) (by decide) rfl (fun q => by cases q) bk_Windows_find_90_1 _ 111 _ _ _ bk_Windows_find_90_1_ok rfl ?_
      show am_EI m_Windows_find kc ks 111 [.ref a0, .ref a1, .ref a2, .ref b10] [] h32 Q
      exact t
    refine am_tabOut (x := r14) (tgt := 93) dc_Windows_find_26 (by have e0 := am_ne32 c15; have e1 := am_ne32 c27; have e2 := am_ne32 c30; rw [show (0 : Int32).toInt = 0 from rfl] at e0; rw [show (1 : Int32).toInt = 1 from rfl] at e1; rw [show (2 : Int32).toInt = 2 from rfl] at e2; omega) (by decide) ?_
    replace t := t.2.2.2 c15 c27 c30
    refine am_blk_ok (c := 10) (ini := false) (by decide) rfl (fun q => by cases q) bk_Windows_find_93_3 _ 96 _ _ _ bk_Windows_find_93_3_ok rfl ?_
    show am_EI m_Windows_find kc ks 96 [.ref a0, .ref a1, .ref a2, .ref b10] [.ref a1, .int 2, .ref b10] h13 Q
    obtain ⟨o33, t⟩ := t
    refine am_callV (M2 := m_Sill_level) (ci := 7) (a := a1) (kc := kc) (ks := ks) (k2c := 0) (k2s := 0) (as := [.int 2, .ref b10]) [] dc_Windows_find_96 lk_10_43 im_Sill_level se_Sill_level lm_Sill_level np_Sill_level ⟨Nat.le_of_ble_eq_true rfl, Nat.le_of_ble_eq_true rfl⟩ (fun _ => Nat.le_of_ble_eq_true rfl) (by decide) rfl o33 (am_Ei.end (am_Ei.mono t (fun r35 h34 t => ?_)))
    refine am_blk_ok (c := 10) (ini := false) (by decide) rfl (fun q => by cases q) bk_Windows_find_99_1 _ 100 _ _ _ bk_Windows_find_99_1_ok rfl ?_
    show am_EI m_Windows_find kc ks 100 [.ref a0, .ref a1, .ref a2, .ref b10] [.ref a2, .int r35, .int 2, .ref b10] h34 Q
    obtain ⟨o36, t⟩ := t
    refine am_callV (M2 := m_Ship_mast) (ci := 6) (a := a2) (kc := kc) (ks := ks) (k2c := 0) (k2s := 0) (as := [.int r35, .int 2, .ref b10]) [] dc_Windows_find_100 lk_10_62 im_Ship_mast se_Ship_mast lm_Ship_mast np_Ship_mast ⟨Nat.le_of_ble_eq_true rfl, Nat.le_of_ble_eq_true rfl⟩ (fun _ => Nat.le_of_ble_eq_true rfl) (by decide) rfl o36 (am_Ei.end (am_Ei.mono t (fun r38 h37 t => ?_)))
    refine am_blk_ok (c := 10) (ini := false) (by decide) rfl (fun q => by cases q) bk_Windows_find_103_3 _ 108 _ _ _ bk_Windows_find_103_3_ok rfl ?_
    show (am_tg h37 a0 = (10, 4) ∧ (∃ b39, am_P h37 a0 0 = some b39 ∧ am_EI m_Windows_find kc ks 108 [.ref a0, .ref a1, .ref a2, .ref b10] [.ref b39, .int (r35 - r38), .int 2, .ref b10] h37 Q))
    obtain ⟨o40, b39, q41, t⟩ := t
    refine ⟨o40, b39, q41, ?_⟩
    obtain ⟨o42, t⟩ := t
    refine am_callV (M2 := m_Port_collect) (ci := 2) (a := b10) (kc := kc) (ks := ks) (k2c := 0) (k2s := 0) (as := []) [.int 2, .int (r35 - r38), .ref b39] dc_Windows_find_108 lk_10_51 im_Port_collect se_Port_collect lm_Port_collect np_Port_collect ⟨Nat.le_of_ble_eq_true rfl, Nat.le_of_ble_eq_true rfl⟩ (fun _ => Nat.le_of_ble_eq_true rfl) (by decide) rfl o42 (am_Ew.end (am_Ew.mono t (fun h43 t => ?_)))
    exact t
set_option maxRecDepth 20000 in
theorem ev_Windows_find (a0 a1 a2 : Nat) (h : am_H) (Q : am_H → Prop) (t : (am_tg h a0 = (10, 4) ∧ (∃ b1, am_P h a0 0 = some b1 ∧ (am_tg h b1 = (8, 4) ∧ (am_Ew m_Spans_clear 0 0 [.ref b1] h (fun h5 => (am_tg h5 a0 = (10, 4) ∧ (am_tg h5 a1 = (7, 5) ∧ (am_Er m_Sill_home 0 0 [.ref a1] (am_si h5 a0 3 0) (fun r9 h8 => (r9 = none → Q h8) ∧ ∀ b10, r9 = some b10 → (am_tg h8 a1 = (7, 5) ∧ (am_Ei m_Sill_kind 0 0 [.ref a1] h8 (fun r14 h13 => ((r14 = 0 → (am_tg h13 a1 = (7, 5) ∧ (am_Ei m_Sill_level 0 0 [.ref a1] h13 (fun r18 h17 => (am_tg h17 a2 = (6, 3) ∧ (am_Ei m_Ship_draught 0 0 [.ref a2] h17 (fun r21 h20 => (am_tg h20 a0 = (10, 4) ∧ (∃ b22, am_P h20 a0 0 = some b22 ∧ (am_tg h20 b10 = (2, 5) ∧ (am_Ew m_Port_collect 0 0 [.ref b10, .int 0, .int (r18 + r21), .ref b22] h20 (fun h26 => am_EI m_Windows_find 0 0 111 [.ref a0, .ref a1, .ref a2, .ref b10] [] h26 (am_qw Q))))))))))))) ∧ (r14 = 1 → (am_tg h13 a0 = (10, 4) ∧ (am_Ew m_Windows_findAtGate 0 0 [.ref a0, .ref b10, .ref a1, .ref a2] h13 (fun h29 => am_EI m_Windows_find 0 0 111 [.ref a0, .ref a1, .ref a2, .ref b10] [] h29 (am_qw Q))))) ∧ (r14 = 2 → (am_tg h13 a0 = (10, 4) ∧ (am_Ew m_Windows_findAtFlap 0 0 [.ref a0, .ref b10, .ref a1, .ref a2] h13 (fun h32 => am_EI m_Windows_find 0 0 111 [.ref a0, .ref a1, .ref a2, .ref b10] [] h32 (am_qw Q))))) ∧ (¬ r14 = 0 → ¬ r14 = 1 → ¬ r14 = 2 → (am_tg h13 a1 = (7, 5) ∧ (am_Ei m_Sill_level 0 0 [.ref a1] h13 (fun r35 h34 => (am_tg h34 a2 = (6, 3) ∧ (am_Ei m_Ship_mast 0 0 [.ref a2] h34 (fun r38 h37 => (am_tg h37 a0 = (10, 4) ∧ (∃ b39, am_P h37 a0 0 = some b39 ∧ (am_tg h37 b10 = (2, 5) ∧ (am_Ew m_Port_collect 0 0 [.ref b10, .int 2, .int (r35 - r38), .ref b39] h37 (fun h43 => am_EI m_Windows_find 0 0 111 [.ref a0, .ref a1, .ref a2, .ref b10] [] h43 (am_qw Q))))))))))))))))))))))))))) : am_Ew m_Windows_find 0 0 [.ref a0, .ref a1, .ref a2] h Q :=
  am_Ev.of (by decide +kernel) (Nat.le_of_ble_eq_true rfl) (by simp only [List.mem_cons, List.not_mem_nil, or_false]; intro v hv; rcases hv with rfl | rfl | rfl; all_goals first | exact trivial) (sg_Windows_find_0 (kc := 0) (ks := 0) a0 a1 a2 h (am_qw Q) t)
set_option maxRecDepth 20000 in
theorem sg_Windows_find_111 {kc ks : Nat} (a0 a1 a2 a3 : Nat) (h : am_H) (Q : Option Value → am_H → Prop) (t : (am_tg h a0 = (10, 4) ∧ (∃ b1, am_P h a0 0 = some b1 ∧ (am_tg h b1 = (8, 4) ∧ (am_Ei m_Spans_countAll 0 0 [.ref b1] h (fun r6 h5 => (am_tg h5 a3 = (2, 5) ∧ (am_Ei m_Port_lastMinute 0 0 [.ref a3] h5 (fun r9 h8 => (am_tg h8 a3 = (2, 5) ∧ (am_Ei m_Port_firstMinute 0 0 [.ref a3] h8 (fun r12 h11 => ((¬ r6 = ((r9 - r12) + 1) → am_EI m_Windows_find kc ks 138 [.ref a0, .ref a1, .ref a2, .ref a3] [.int 0, .ref a0] h11 Q) ∧ (r6 = ((r9 - r12) + 1) → am_EI m_Windows_find kc ks 138 [.ref a0, .ref a1, .ref a2, .ref a3] [.int 1, .ref a0] h11 Q)))))))))))))) : am_EI m_Windows_find kc ks 111 [.ref a0, .ref a1, .ref a2, .ref a3] [] h Q := by
  refine am_blk_ok (c := 10) (ini := false) (by decide) rfl (fun q => by cases q) bk_Windows_find_111_3 _ 116 _ _ _ bk_Windows_find_111_3_ok rfl ?_
  show (am_tg h a0 = (10, 4) ∧ (∃ b1, am_P h a0 0 = some b1 ∧ am_EI m_Windows_find kc ks 116 [.ref a0, .ref a1, .ref a2, .ref a3] [.ref b1, .ref a0] h Q))
  obtain ⟨o2, b1, q3, t⟩ := t
  refine ⟨o2, b1, q3, ?_⟩
  obtain ⟨o4, t⟩ := t
  refine am_callV (M2 := m_Spans_countAll) (ci := 8) (a := b1) (kc := kc) (ks := ks) (k2c := 0) (k2s := 0) (as := [.ref a0]) [] dc_Windows_find_116 lk_10_65 im_Spans_countAll se_Spans_countAll lm_Spans_countAll np_Spans_countAll ⟨Nat.le_of_ble_eq_true rfl, Nat.le_of_ble_eq_true rfl⟩ (fun _ => Nat.le_of_ble_eq_true rfl) (by decide) rfl o4 (am_Ei.end (am_Ei.mono t (fun r6 h5 t => ?_)))
  refine am_blk_ok (c := 10) (ini := false) (by decide) rfl (fun q => by cases q) bk_Windows_find_119_1 _ 120 _ _ _ bk_Windows_find_119_1_ok rfl ?_
  show am_EI m_Windows_find kc ks 120 [.ref a0, .ref a1, .ref a2, .ref a3] [.ref a3, .int r6, .ref a0] h5 Q
  obtain ⟨o7, t⟩ := t
  refine am_callV (M2 := m_Port_lastMinute) (ci := 2) (a := a3) (kc := kc) (ks := ks) (k2c := 0) (k2s := 0) (as := [.int r6, .ref a0]) [] dc_Windows_find_120 lk_10_68 im_Port_lastMinute se_Port_lastMinute lm_Port_lastMinute np_Port_lastMinute ⟨Nat.le_of_ble_eq_true rfl, Nat.le_of_ble_eq_true rfl⟩ (fun _ => Nat.le_of_ble_eq_true rfl) (by decide) rfl o7 (am_Ei.end (am_Ei.mono t (fun r9 h8 t => ?_)))
  refine am_blk_ok (c := 10) (ini := false) (by decide) rfl (fun q => by cases q) bk_Windows_find_123_1 _ 124 _ _ _ bk_Windows_find_123_1_ok rfl ?_
  show am_EI m_Windows_find kc ks 124 [.ref a0, .ref a1, .ref a2, .ref a3] [.ref a3, .int r9, .int r6, .ref a0] h8 Q
  obtain ⟨o10, t⟩ := t
  refine am_callV (M2 := m_Port_firstMinute) (ci := 2) (a := a3) (kc := kc) (ks := ks) (k2c := 0) (k2s := 0) (as := [.int r9, .int r6, .ref a0]) [] dc_Windows_find_124 lk_10_71 im_Port_firstMinute se_Port_firstMinute lm_Port_firstMinute np_Port_firstMinute ⟨Nat.le_of_ble_eq_true rfl, Nat.le_of_ble_eq_true rfl⟩ (fun _ => Nat.le_of_ble_eq_true rfl) (by decide) rfl o10 (am_Ei.end (am_Ei.mono t (fun r12 h11 t => ?_)))
  refine am_blk_ok (c := 10) (ini := false) (by decide) rfl (fun q => by cases q) bk_Windows_find_127_3 _ 130 _ _ _ bk_Windows_find_127_3_ok rfl ?_
  show am_EI m_Windows_find kc ks 130 [.ref a0, .ref a1, .ref a2, .ref a3] [.int ((r9 - r12) + 1), .int r6, .ref a0] h11 Q
  refine am_ic_ne (tgt := 137) dc_Windows_find_130 (by decide) (fun c13 => ?_) (fun c13 => ?_)
  · replace t := t.1 c13
    refine am_blk_ok (c := 10) (ini := false) (by decide) rfl (fun q => by cases q) bk_Windows_find_137_1 _ 138 _ _ _ bk_Windows_find_137_1_ok rfl ?_
    show am_EI m_Windows_find kc ks 138 [.ref a0, .ref a1, .ref a2, .ref a3] [.int 0, .ref a0] h11 Q
    exact t
  · replace t := t.2 c13
    refine am_blk_ok (c := 10) (ini := false) (by decide) rfl (fun q => by cases q) bk_Windows_find_133_2 _ 138 _ _ _ bk_Windows_find_133_2_ok rfl ?_
    show am_EI m_Windows_find kc ks 138 [.ref a0, .ref a1, .ref a2, .ref a3] [.int 1, .ref a0] h11 Q
    exact t
set_option maxRecDepth 20000 in
theorem sg_Windows_find_138 {kc ks : Nat} (a0 a1 a2 a3 d1 : Nat) (y0 : Int32) (h : am_H) (Q : Option Value → am_H → Prop) (t : (am_tg h d1 = (10, 4) ∧ (am_b01 y0 ∧ Q none (am_si h d1 3 y0)))) : am_EI m_Windows_find kc ks 138 [.ref a0, .ref a1, .ref a2, .ref a3] [.int y0, .ref d1] h Q := by
  refine am_blk_ok (c := 10) (ini := false) (by decide) rfl (fun q => by cases q) bk_Windows_find_138_1 _ 141 _ _ _ bk_Windows_find_138_1_ok rfl ?_
  show (am_tg h d1 = (10, 4) ∧ (am_b01 y0 ∧ am_EI m_Windows_find kc ks 141 [.ref a0, .ref a1, .ref a2, .ref a3] [] (am_si h d1 3 y0) Q))
  obtain ⟨o1, o2, t⟩ := t
  refine ⟨o1, o2, ?_⟩
  exact am_vret dc_Windows_find_141 rfl t
def bk_Windows_findAtFlap_0_1 : List am_E := [(0, .aload_n 3, 1, 0, 0)]
theorem bk_Windows_findAtFlap_0_1_ok : bk_Windows_findAtFlap_0_1.all (am_ok 10 false m_Windows_findAtFlap.2.1) = true := by decide +kernel
def bk_Windows_findAtFlap_4_1 : List am_E := [(4, .aload_n 2, 1, 0, 0)]
theorem bk_Windows_findAtFlap_4_1_ok : bk_Windows_findAtFlap_4_1.all (am_ok 10 false m_Windows_findAtFlap.2.1) = true := by decide +kernel
def bk_Windows_findAtFlap_12_3 : List am_E := [(12, .aload_n 1, 1, 0, 0), (13, .iconst 0, 1, 0, 0), (14, .aload_n 2, 1, 0, 0)]
theorem bk_Windows_findAtFlap_12_3_ok : bk_Windows_findAtFlap_12_3.all (am_ok 10 false m_Windows_findAtFlap.2.1) = true := by decide +kernel
def bk_Windows_findAtFlap_18_2 : List am_E := [(18, .aload_n 0, 1, 0, 0), (19, .getfield 18, 3, 4005, 0)]
theorem bk_Windows_findAtFlap_18_2_ok : bk_Windows_findAtFlap_18_2.all (am_ok 10 false m_Windows_findAtFlap.2.1) = true := by decide +kernel
def bk_Windows_findAtFlap_25_2 : List am_E := [(25, .iconst 0, 1, 0, 0), (26, .istore 4, 2, 0, 0)]
theorem bk_Windows_findAtFlap_25_2_ok : bk_Windows_findAtFlap_25_2.all (am_ok 10 false m_Windows_findAtFlap.2.1) = true := by decide +kernel
def bk_Windows_findAtFlap_28_3 : List am_E := [(28, .iload 4, 2, 0, 0), (30, .aload_n 0, 1, 0, 0), (31, .getfield 18, 3, 4005, 0)]
theorem bk_Windows_findAtFlap_28_3_ok : bk_Windows_findAtFlap_28_3.all (am_ok 10 false m_Windows_findAtFlap.2.1) = true := by decide +kernel
def bk_Windows_findAtFlap_40_5 : List am_E := [(40, .aload_n 0, 1, 0, 0), (41, .getfield 14, 3, 4001, 0), (44, .aload_n 0, 1, 0, 0), (45, .getfield 18, 3, 4005, 0), (48, .iload 4, 2, 0, 0)]
theorem bk_Windows_findAtFlap_40_5_ok : bk_Windows_findAtFlap_40_5.all (am_ok 10 false m_Windows_findAtFlap.2.1) = true := by decide +kernel
def bk_Windows_findAtFlap_53_1 : List am_E := [(53, .aload_n 2, 1, 0, 0)]
theorem bk_Windows_findAtFlap_53_1_ok : bk_Windows_findAtFlap_53_1.all (am_ok 10 false m_Windows_findAtFlap.2.1) = true := by decide +kernel
def bk_Windows_findAtFlap_57_4 : List am_E := [(57, .iadd, 1, 0, 0), (58, .aload_n 0, 1, 0, 0), (59, .getfield 18, 3, 4005, 0), (62, .iload 4, 2, 0, 0)]
theorem bk_Windows_findAtFlap_57_4_ok : bk_Windows_findAtFlap_57_4.all (am_ok 10 false m_Windows_findAtFlap.2.1) = true := by decide +kernel
def bk_Windows_findAtFlap_70_2 : List am_E := [(70, .iinc 4 1, 3, 0, 1), (73, .goto (-45), 3, 0, -45)]
theorem bk_Windows_findAtFlap_70_2_ok : bk_Windows_findAtFlap_70_2.all (am_ok 10 false m_Windows_findAtFlap.2.1) = true := by decide +kernel
theorem dc_Windows_findAtFlap_1 : decode m_Windows_findAtFlap.2.1 1 = .ok (.invokevirtual 46, 3) := by decide +kernel
theorem dc_Windows_findAtFlap_5 : decode m_Windows_findAtFlap.2.1 5 = .ok (.invokevirtual 88, 3) := by decide +kernel
theorem dc_Windows_findAtFlap_15 : decode m_Windows_findAtFlap.2.1 15 = .ok (.invokevirtual 43, 3) := by decide +kernel
theorem dc_Windows_findAtFlap_22 : decode m_Windows_findAtFlap.2.1 22 = .ok (.invokevirtual 51, 3) := by decide +kernel
theorem dc_Windows_findAtFlap_11 : decode m_Windows_findAtFlap.2.1 11 = .ok (.return_, 1) := by decide +kernel
theorem dc_Windows_findAtFlap_8 : decode m_Windows_findAtFlap.2.1 8 = .ok (.if_icmp .le 4, 3) := by decide +kernel
theorem dc_Windows_findAtFlap_34 : decode m_Windows_findAtFlap.2.1 34 = .ok (.invokevirtual 99, 3) := by decide +kernel
theorem dc_Windows_findAtFlap_76 : decode m_Windows_findAtFlap.2.1 76 = .ok (.return_, 1) := by decide +kernel
theorem dc_Windows_findAtFlap_50 : decode m_Windows_findAtFlap.2.1 50 = .ok (.invokevirtual 102, 3) := by decide +kernel
theorem dc_Windows_findAtFlap_54 : decode m_Windows_findAtFlap.2.1 54 = .ok (.invokevirtual 85, 3) := by decide +kernel
theorem dc_Windows_findAtFlap_64 : decode m_Windows_findAtFlap.2.1 64 = .ok (.invokevirtual 105, 3) := by decide +kernel
theorem dc_Windows_findAtFlap_67 : decode m_Windows_findAtFlap.2.1 67 = .ok (.invokevirtual 91, 3) := by decide +kernel
theorem dc_Windows_findAtFlap_37 : decode m_Windows_findAtFlap.2.1 37 = .ok (.if_icmp .ge 39, 3) := by decide +kernel
set_option maxRecDepth 20000 in
theorem sg_Windows_findAtFlap_0 {kc ks : Nat} (a0 a1 a2 a3 : Nat) (h : am_H) (Q : Option Value → am_H → Prop) (t : (am_tg h a3 = (6, 3) ∧ (am_Ei m_Ship_draught 0 0 [.ref a3] h (fun r3 h2 => (am_tg h2 a2 = (7, 5) ∧ (am_Ei m_Sill_two 0 0 [.ref a2] h2 (fun r6 h5 => ((r3 ≤ r6 → (am_tg h5 a2 = (7, 5) ∧ (am_Ei m_Sill_level 0 0 [.ref a2] h5 (fun r10 h9 => (am_tg h9 a0 = (10, 4) ∧ (∃ b11, am_P h9 a0 1 = some b11 ∧ (am_tg h9 a1 = (2, 5) ∧ (am_Ew m_Port_collect 0 0 [.ref a1, .int 0, .int r10, .ref b11] h9 (fun h15 => am_EI m_Windows_findAtFlap kc ks 28 [.ref a0, .ref a1, .ref a2, .ref a3, .int 0] [] h15 Q))))))))) ∧ (¬ r3 ≤ r6 → Q none h5))))))))) : am_EI m_Windows_findAtFlap kc ks 0 [.ref a0, .ref a1, .ref a2, .ref a3, .float 0] [] h Q := by
  refine am_blk_ok (c := 10) (ini := false) (by decide) rfl (fun q => by cases q) bk_Windows_findAtFlap_0_1 _ 1 _ _ _ bk_Windows_findAtFlap_0_1_ok rfl ?_
  show am_EI m_Windows_findAtFlap kc ks 1 [.ref a0, .ref a1, .ref a2, .ref a3, .float 0] [.ref a3] h Q
  obtain ⟨o1, t⟩ := t
  refine am_callV (M2 := m_Ship_draught) (ci := 6) (a := a3) (kc := kc) (ks := ks) (k2c := 0) (k2s := 0) (as := []) [] dc_Windows_findAtFlap_1 lk_10_46 im_Ship_draught se_Ship_draught lm_Ship_draught np_Ship_draught ⟨Nat.le_of_ble_eq_true rfl, Nat.le_of_ble_eq_true rfl⟩ (fun _ => Nat.le_of_ble_eq_true rfl) (by decide) rfl o1 (am_Ei.end (am_Ei.mono t (fun r3 h2 t => ?_)))
  refine am_blk_ok (c := 10) (ini := false) (by decide) rfl (fun q => by cases q) bk_Windows_findAtFlap_4_1 _ 5 _ _ _ bk_Windows_findAtFlap_4_1_ok rfl ?_
  show am_EI m_Windows_findAtFlap kc ks 5 [.ref a0, .ref a1, .ref a2, .ref a3, .float 0] [.ref a2, .int r3] h2 Q
  obtain ⟨o4, t⟩ := t
  refine am_callV (M2 := m_Sill_two) (ci := 7) (a := a2) (kc := kc) (ks := ks) (k2c := 0) (k2s := 0) (as := [.int r3]) [] dc_Windows_findAtFlap_5 lk_10_88 im_Sill_two se_Sill_two lm_Sill_two np_Sill_two ⟨Nat.le_of_ble_eq_true rfl, Nat.le_of_ble_eq_true rfl⟩ (fun _ => Nat.le_of_ble_eq_true rfl) (by decide) rfl o4 (am_Ei.end (am_Ei.mono t (fun r6 h5 t => ?_)))
  refine am_ic_le (tgt := 12) dc_Windows_findAtFlap_8 (by decide) (fun c7 => ?_) (fun c7 => ?_)
  · replace t := t.1 c7
    refine am_blk_ok (c := 10) (ini := false) (by decide) rfl (fun q => by cases q) bk_Windows_findAtFlap_12_3 _ 15 _ _ _ bk_Windows_findAtFlap_12_3_ok rfl ?_
    show am_EI m_Windows_findAtFlap kc ks 15 [.ref a0, .ref a1, .ref a2, .ref a3, .float 0] [.ref a2, .int 0, .ref a1] h5 Q
    obtain ⟨o8, t⟩ := t
    refine am_callV (M2 := m_Sill_level) (ci := 7) (a := a2) (kc := kc) (ks := ks) (k2c := 0) (k2s := 0) (as := [.int 0, .ref a1]) [] dc_Windows_findAtFlap_15 lk_10_43 im_Sill_level se_Sill_level lm_Sill_level np_Sill_level ⟨Nat.le_of_ble_eq_true rfl, Nat.le_of_ble_eq_true rfl⟩ (fun _ => Nat.le_of_ble_eq_true rfl) (by decide) rfl o8 (am_Ei.end (am_Ei.mono t (fun r10 h9 t => ?_)))
    refine am_blk_ok (c := 10) (ini := false) (by decide) rfl (fun q => by cases q) bk_Windows_findAtFlap_18_2 _ 22 _ _ _ bk_Windows_findAtFlap_18_2_ok rfl ?_
    show (am_tg h9 a0 = (10, 4) ∧ (∃ b11, am_P h9 a0 1 = some b11 ∧ am_EI m_Windows_findAtFlap kc ks 22 [.ref a0, .ref a1, .ref a2, .ref a3, .float 0] [.ref b11, .int r10, .int 0, .ref a1] h9 Q))
    obtain ⟨o12, b11, q13, t⟩ := t
    refine ⟨o12, b11, q13, ?_⟩
    obtain ⟨o14, t⟩ := t
    refine am_callV (M2 := m_Port_collect) (ci := 2) (a := a1) (kc := kc) (ks := ks) (k2c := 0) (k2s := 0) (as := []) [.int 0, .int r10, .ref b11] dc_Windows_findAtFlap_22 lk_10_51 im_Port_collect se_Port_collect lm_Port_collect np_Port_collect ⟨Nat.le_of_ble_eq_true rfl, Nat.le_of_ble_eq_true rfl⟩ (fun _ => Nat.le_of_ble_eq_true rfl) (by decide) rfl o14 (am_Ew.end (am_Ew.mono t (fun h15 t => ?_)))
    refine am_blk_ok (c := 10) (ini := false) (by decide) rfl (fun q => by cases q) bk_Windows_findAtFlap_25_2 _ 28 _ _ _ bk_Windows_findAtFlap_25_2_ok rfl ?_
    show am_EI m_Windows_findAtFlap kc ks 28 [.ref a0, .ref a1, .ref a2, .ref a3, .int 0] [] h15 Q
    exact t
  · replace t := t.2 c7
    exact am_vret dc_Windows_findAtFlap_11 rfl t
set_option maxRecDepth 20000 in
theorem ev_Windows_findAtFlap (a0 a1 a2 a3 : Nat) (h : am_H) (Q : am_H → Prop) (t : (am_tg h a3 = (6, 3) ∧ (am_Ei m_Ship_draught 0 0 [.ref a3] h (fun r3 h2 => (am_tg h2 a2 = (7, 5) ∧ (am_Ei m_Sill_two 0 0 [.ref a2] h2 (fun r6 h5 => ((r3 ≤ r6 → (am_tg h5 a2 = (7, 5) ∧ (am_Ei m_Sill_level 0 0 [.ref a2] h5 (fun r10 h9 => (am_tg h9 a0 = (10, 4) ∧ (∃ b11, am_P h9 a0 1 = some b11 ∧ (am_tg h9 a1 = (2, 5) ∧ (am_Ew m_Port_collect 0 0 [.ref a1, .int 0, .int r10, .ref b11] h9 (fun h15 => am_EI m_Windows_findAtFlap 0 0 28 [.ref a0, .ref a1, .ref a2, .ref a3, .int 0] [] h15 (am_qw Q)))))))))) ∧ (¬ r3 ≤ r6 → Q h5))))))))) : am_Ew m_Windows_findAtFlap 0 0 [.ref a0, .ref a1, .ref a2, .ref a3] h Q :=
  am_Ev.of (by decide +kernel) (Nat.le_of_ble_eq_true rfl) (by simp only [List.mem_cons, List.not_mem_nil, or_false]; intro v hv; rcases hv with rfl | rfl | rfl | rfl; all_goals first | exact trivial) (sg_Windows_findAtFlap_0 (kc := 0) (ks := 0) a0 a1 a2 a3 h (am_qw Q) t)
set_option maxRecDepth 20000 in
theorem sg_Windows_findAtFlap_28 {kc ks : Nat} (a0 a1 a2 a3 : Nat) (x4 : Int32) (h : am_H) (Q : Option Value → am_H → Prop) (t : (am_tg h a0 = (10, 4) ∧ (∃ b1, am_P h a0 1 = some b1 ∧ (am_tg h b1 = (8, 4) ∧ (am_Ei m_Spans_size 0 0 [.ref b1] h (fun r6 h5 => ((r6 ≤ x4 → Q none h5) ∧ (¬ r6 ≤ x4 → (am_tg h5 a0 = (10, 4) ∧ (∃ b8, am_P h5 a0 0 = some b8 ∧ (∃ b9, am_P h5 a0 1 = some b9 ∧ (am_tg h5 b9 = (8, 4) ∧ (am_Ei m_Spans_firstOf 0 0 [.ref b9, .int x4] h5 (fun r15 h14 => (am_tg h14 a2 = (7, 5) ∧ (am_Ei m_Sill_one 0 0 [.ref a2] h14 (fun r18 h17 => (am_tg h17 a0 = (10, 4) ∧ (∃ b19, am_P h17 a0 1 = some b19 ∧ (am_tg h17 b19 = (8, 4) ∧ (am_Ei m_Spans_lastOf 0 0 [.ref b19, .int x4] h17 (fun r24 h23 => (am_tg h23 b8 = (8, 4) ∧ (am_Ew m_Spans_add 0 0 [.ref b8, .int (r15 + r18), .int r24] h23 (fun h26 => am_EI m_Windows_findAtFlap kc ks 28 [.ref a0, .ref a1, .ref a2, .ref a3, .int (x4 + 1)] [] h26 Q))))))))))))))))))))))))) : am_EI m_Windows_findAtFlap kc ks 28 [.ref a0, .ref a1, .ref a2, .ref a3, .int x4] [] h Q := by
  refine am_blk_ok (c := 10) (ini := false) (by decide) rfl (fun q => by cases q) bk_Windows_findAtFlap_28_3 _ 34 _ _ _ bk_Windows_findAtFlap_28_3_ok rfl ?_
  show (am_tg h a0 = (10, 4) ∧ (∃ b1, am_P h a0 1 = some b1 ∧ am_EI m_Windows_findAtFlap kc ks 34 [.ref a0, .ref a1, .ref a2, .ref a3, .int x4] [.ref b1, .int x4] h Q))
  obtain ⟨o2, b1, q3, t⟩ := t
  refine ⟨o2, b1, q3, ?_⟩
  obtain ⟨o4, t⟩ := t
  refine am_callV (M2 := m_Spans_size) (ci := 8) (a := b1) (kc := kc) (ks := ks) (k2c := 0) (k2s := 0) (as := [.int x4]) [] dc_Windows_findAtFlap_34 lk_10_99 im_Spans_size se_Spans_size lm_Spans_size np_Spans_size ⟨Nat.le_of_ble_eq_true rfl, Nat.le_of_ble_eq_true rfl⟩ (fun _ => Nat.le_of_ble_eq_true rfl) (by decide) rfl o4 (am_Ei.end (am_Ei.mono t (fun r6 h5 t => ?_)))
  refine am_ic_ge (tgt := 76) dc_Windows_findAtFlap_37 (by decide) (fun c7 => ?_) (fun c7 => ?_)
  · replace t := t.1 c7
    exact am_vret dc_Windows_findAtFlap_76 rfl t
  · replace t := t.2 c7
    refine am_blk_ok (c := 10) (ini := false) (by decide) rfl (fun q => by cases q) bk_Windows_findAtFlap_40_5 _ 50 _ _ _ bk_Windows_findAtFlap_40_5_ok rfl ?_
    show (am_tg h5 a0 = (10, 4) ∧ (∃ b8, am_P h5 a0 0 = some b8 ∧ (am_tg h5 a0 = (10, 4) ∧ (∃ b9, am_P h5 a0 1 = some b9 ∧ am_EI m_Windows_findAtFlap kc ks 50 [.ref a0, .ref a1, .ref a2, .ref a3, .int x4] [.int x4, .ref b9, .ref b8] h5 Q))))
    obtain ⟨o10, b8, q11, b9, q12, t⟩ := t
    refine ⟨o10, b8, q11, o10, b9, q12, ?_⟩
    obtain ⟨o13, t⟩ := t
    refine am_callV (M2 := m_Spans_firstOf) (ci := 8) (a := b9) (kc := kc) (ks := ks) (k2c := 0) (k2s := 0) (as := [.ref b8]) [.int x4] dc_Windows_findAtFlap_50 lk_10_102 im_Spans_firstOf se_Spans_firstOf lm_Spans_firstOf np_Spans_firstOf ⟨Nat.le_of_ble_eq_true rfl, Nat.le_of_ble_eq_true rfl⟩ (fun _ => Nat.le_of_ble_eq_true rfl) (by decide) rfl o13 (am_Ei.end (am_Ei.mono t (fun r15 h14 t => ?_)))
    refine am_blk_ok (c := 10) (ini := false) (by decide) rfl (fun q => by cases q) bk_Windows_findAtFlap_53_1 _ 54 _ _ _ bk_Windows_findAtFlap_53_1_ok rfl ?_
    show am_EI m_Windows_findAtFlap kc ks 54 [.ref a0, .ref a1, .ref a2, .ref a3, .int x4] [.ref a2, .int r15, .ref b8] h14 Q
    obtain ⟨o16, t⟩ := t
    refine am_callV (M2 := m_Sill_one) (ci := 7) (a := a2) (kc := kc) (ks := ks) (k2c := 0) (k2s := 0) (as := [.int r15, .ref b8]) [] dc_Windows_findAtFlap_54 lk_10_85 im_Sill_one se_Sill_one lm_Sill_one np_Sill_one ⟨Nat.le_of_ble_eq_true rfl, Nat.le_of_ble_eq_true rfl⟩ (fun _ => Nat.le_of_ble_eq_true rfl) (by decide) rfl o16 (am_Ei.end (am_Ei.mono t (fun r18 h17 t => ?_)))
    refine am_blk_ok (c := 10) (ini := false) (by decide) rfl (fun q => by cases q) bk_Windows_findAtFlap_57_4 _ 64 _ _ _ bk_Windows_findAtFlap_57_4_ok rfl ?_
    show (am_tg h17 a0 = (10, 4) ∧ (∃ b19, am_P h17 a0 1 = some b19 ∧ am_EI m_Windows_findAtFlap kc ks 64 [.ref a0, .ref a1, .ref a2, .ref a3, .int x4] [.int x4, .ref b19, .int (r15 + r18), .ref b8] h17 Q))
    obtain ⟨o20, b19, q21, t⟩ := t
    refine ⟨o20, b19, q21, ?_⟩
    obtain ⟨o22, t⟩ := t
    refine am_callV (M2 := m_Spans_lastOf) (ci := 8) (a := b19) (kc := kc) (ks := ks) (k2c := 0) (k2s := 0) (as := [.int (r15 + r18), .ref b8]) [.int x4] dc_Windows_findAtFlap_64 lk_10_105 im_Spans_lastOf se_Spans_lastOf lm_Spans_lastOf np_Spans_lastOf ⟨Nat.le_of_ble_eq_true rfl, Nat.le_of_ble_eq_true rfl⟩ (fun _ => Nat.le_of_ble_eq_true rfl) (by decide) rfl o22 (am_Ei.end (am_Ei.mono t (fun r24 h23 t => ?_)))
    obtain ⟨o25, t⟩ := t
    refine am_callV (M2 := m_Spans_add) (ci := 8) (a := b8) (kc := kc) (ks := ks) (k2c := 0) (k2s := 0) (as := []) [.int (r15 + r18), .int r24] dc_Windows_findAtFlap_67 lk_10_91 im_Spans_add se_Spans_add lm_Spans_add np_Spans_add ⟨Nat.le_of_ble_eq_true rfl, Nat.le_of_ble_eq_true rfl⟩ (fun _ => Nat.le_of_ble_eq_true rfl) (by decide) rfl o25 (am_Ew.end (am_Ew.mono t (fun h26 t => ?_)))
    refine am_blk_ok (c := 10) (ini := false) (by decide) rfl (fun q => by cases q) bk_Windows_findAtFlap_70_2 _ 28 _ _ _ bk_Windows_findAtFlap_70_2_ok rfl ?_
    show am_EI m_Windows_findAtFlap kc ks 28 [.ref a0, .ref a1, .ref a2, .ref a3, .int (x4 + 1)] [] h26 Q
    exact t
def bk_Windows_findAtGate_0_3 : List am_E := [(0, .aload_n 1, 1, 0, 0), (1, .iconst 0, 1, 0, 0), (2, .aload_n 2, 1, 0, 0)]
theorem bk_Windows_findAtGate_0_3_ok : bk_Windows_findAtGate_0_3.all (am_ok 10 false m_Windows_findAtGate.2.1) = true := by decide +kernel
def bk_Windows_findAtGate_6_1 : List am_E := [(6, .aload_n 3, 1, 0, 0)]
theorem bk_Windows_findAtGate_6_1_ok : bk_Windows_findAtGate_6_1.all (am_ok 10 false m_Windows_findAtGate.2.1) = true := by decide +kernel
def bk_Windows_findAtGate_10_3 : List am_E := [(10, .iadd, 1, 0, 0), (11, .aload_n 0, 1, 0, 0), (12, .getfield 18, 3, 4005, 0)]
theorem bk_Windows_findAtGate_10_3_ok : bk_Windows_findAtGate_10_3.all (am_ok 10 false m_Windows_findAtGate.2.1) = true := by decide +kernel
def bk_Windows_findAtGate_18_2 : List am_E := [(18, .aload_n 0, 1, 0, 0), (19, .getfield 21, 3, 4009, 0)]
theorem bk_Windows_findAtGate_18_2_ok : bk_Windows_findAtGate_18_2.all (am_ok 10 false m_Windows_findAtGate.2.1) = true := by decide +kernel
def bk_Windows_findAtGate_25_2 : List am_E := [(25, .iconst 0, 1, 0, 0), (26, .istore 4, 2, 0, 0)]
theorem bk_Windows_findAtGate_25_2_ok : bk_Windows_findAtGate_25_2.all (am_ok 10 false m_Windows_findAtGate.2.1) = true := by decide +kernel
def bk_Windows_findAtGate_28_2 : List am_E := [(28, .iload 4, 2, 0, 0), (30, .aload_n 1, 1, 0, 0)]
theorem bk_Windows_findAtGate_28_2_ok : bk_Windows_findAtGate_28_2.all (am_ok 10 false m_Windows_findAtGate.2.1) = true := by decide +kernel
def bk_Windows_findAtGate_81_6 : List am_E := [(81, .aload_n 0, 1, 0, 0), (82, .getfield 14, 3, 4001, 0), (85, .aload_n 0, 1, 0, 0), (86, .getfield 18, 3, 4005, 0), (89, .aload_n 0, 1, 0, 0), (90, .getfield 21, 3, 4009, 0)]
theorem bk_Windows_findAtGate_81_6_ok : bk_Windows_findAtGate_81_6.all (am_ok 10 false m_Windows_findAtGate.2.1) = true := by decide +kernel
def bk_Windows_findAtGate_37_2 : List am_E := [(37, .aload_n 1, 1, 0, 0), (38, .iload 4, 2, 0, 0)]
theorem bk_Windows_findAtGate_37_2_ok : bk_Windows_findAtGate_37_2.all (am_ok 10 false m_Windows_findAtGate.2.1) = true := by decide +kernel
def bk_Windows_findAtGate_75_2 : List am_E := [(75, .iinc 4 1, 3, 0, 1), (78, .goto (-50), 3, 0, -50)]
theorem bk_Windows_findAtGate_75_2_ok : bk_Windows_findAtGate_75_2.all (am_ok 10 false m_Windows_findAtGate.2.1) = true := by decide +kernel
def bk_Windows_findAtGate_46_4 : List am_E := [(46, .aload_n 0, 1, 0, 0), (47, .getfield 21, 3, 4009, 0), (50, .aload_n 1, 1, 0, 0), (51, .iload 4, 2, 0, 0)]
theorem bk_Windows_findAtGate_46_4_ok : bk_Windows_findAtGate_46_4.all (am_ok 10 false m_Windows_findAtGate.2.1) = true := by decide +kernel
def bk_Windows_findAtGate_56_1 : List am_E := [(56, .aload_n 2, 1, 0, 0)]
theorem bk_Windows_findAtGate_56_1_ok : bk_Windows_findAtGate_56_1.all (am_ok 10 false m_Windows_findAtGate.2.1) = true := by decide +kernel
def bk_Windows_findAtGate_60_3 : List am_E := [(60, .isub, 1, 0, 0), (61, .aload_n 1, 1, 0, 0), (62, .iload 4, 2, 0, 0)]
theorem bk_Windows_findAtGate_60_3_ok : bk_Windows_findAtGate_60_3.all (am_ok 10 false m_Windows_findAtGate.2.1) = true := by decide +kernel
def bk_Windows_findAtGate_67_1 : List am_E := [(67, .aload_n 2, 1, 0, 0)]
theorem bk_Windows_findAtGate_67_1_ok : bk_Windows_findAtGate_67_1.all (am_ok 10 false m_Windows_findAtGate.2.1) = true := by decide +kernel
def bk_Windows_findAtGate_71_1 : List am_E := [(71, .iadd, 1, 0, 0)]
theorem bk_Windows_findAtGate_71_1_ok : bk_Windows_findAtGate_71_1.all (am_ok 10 false m_Windows_findAtGate.2.1) = true := by decide +kernel
theorem dc_Windows_findAtGate_3 : decode m_Windows_findAtGate.2.1 3 = .ok (.invokevirtual 43, 3) := by decide +kernel
theorem dc_Windows_findAtGate_7 : decode m_Windows_findAtGate.2.1 7 = .ok (.invokevirtual 46, 3) := by decide +kernel
theorem dc_Windows_findAtGate_15 : decode m_Windows_findAtGate.2.1 15 = .ok (.invokevirtual 51, 3) := by decide +kernel
theorem dc_Windows_findAtGate_22 : decode m_Windows_findAtGate.2.1 22 = .ok (.invokevirtual 28, 3) := by decide +kernel
theorem dc_Windows_findAtGate_31 : decode m_Windows_findAtGate.2.1 31 = .ok (.invokevirtual 74, 3) := by decide +kernel
theorem dc_Windows_findAtGate_93 : decode m_Windows_findAtGate.2.1 93 = .ok (.invokevirtual 95, 3) := by decide +kernel
theorem dc_Windows_findAtGate_96 : decode m_Windows_findAtGate.2.1 96 = .ok (.return_, 1) := by decide +kernel
theorem dc_Windows_findAtGate_40 : decode m_Windows_findAtGate.2.1 40 = .ok (.invokevirtual 77, 3) := by decide +kernel
theorem dc_Windows_findAtGate_53 : decode m_Windows_findAtGate.2.1 53 = .ok (.invokevirtual 81, 3) := by decide +kernel
theorem dc_Windows_findAtGate_57 : decode m_Windows_findAtGate.2.1 57 = .ok (.invokevirtual 85, 3) := by decide +kernel
theorem dc_Windows_findAtGate_64 : decode m_Windows_findAtGate.2.1 64 = .ok (.invokevirtual 81, 3) := by decide +kernel
theorem dc_Windows_findAtGate_68 : decode m_Windows_findAtGate.2.1 68 = .ok (.invokevirtual 88, 3) := by decide +kernel
theorem dc_Windows_findAtGate_72 : decode m_Windows_findAtGate.2.1 72 = .ok (.invokevirtual 91, 3) := by decide +kernel
theorem dc_Windows_findAtGate_43 : decode m_Windows_findAtGate.2.1 43 = .ok (.ifCond .eq 32, 3) := by decide +kernel
theorem dc_Windows_findAtGate_34 : decode m_Windows_findAtGate.2.1 34 = .ok (.if_icmp .ge 47, 3) := by decide +kernel
set_option maxRecDepth 20000 in
theorem sg_Windows_findAtGate_0 {kc ks : Nat} (a0 a1 a2 a3 : Nat) (h : am_H) (Q : Option Value → am_H → Prop) (t : (am_tg h a2 = (7, 5) ∧ (am_Ei m_Sill_level 0 0 [.ref a2] h (fun r3 h2 => (am_tg h2 a3 = (6, 3) ∧ (am_Ei m_Ship_draught 0 0 [.ref a3] h2 (fun r6 h5 => (am_tg h5 a0 = (10, 4) ∧ (∃ b7, am_P h5 a0 1 = some b7 ∧ (am_tg h5 a1 = (2, 5) ∧ (am_Ew m_Port_collect 0 0 [.ref a1, .int 0, .int (r3 + r6), .ref b7] h5 (fun h11 => (am_tg h11 a0 = (10, 4) ∧ (∃ b12, am_P h11 a0 2 = some b12 ∧ (am_tg h11 b12 = (8, 4) ∧ (am_Ew m_Spans_clear 0 0 [.ref b12] h11 (fun h16 => am_EI m_Windows_findAtGate kc ks 28 [.ref a0, .ref a1, .ref a2, .ref a3, .int 0] [] h16 Q))))))))))))))))) : am_EI m_Windows_findAtGate kc ks 0 [.ref a0, .ref a1, .ref a2, .ref a3, .float 0] [] h Q := by
  refine am_blk_ok (c := 10) (ini := false) (by decide) rfl (fun q => by cases q) bk_Windows_findAtGate_0_3 _ 3 _ _ _ bk_Windows_findAtGate_0_3_ok rfl ?_
  show am_EI m_Windows_findAtGate kc ks 3 [.ref a0, .ref a1, .ref a2, .ref a3, .float 0] [.ref a2, .int 0, .ref a1] h Q
  obtain ⟨o1, t⟩ := t
  refine am_callV (M2 := m_Sill_level) (ci := 7) (a := a2) (kc := kc) (ks := ks) (k2c := 0) (k2s := 0) (as := [.int 0, .ref a1]) [] dc_Windows_findAtGate_3 lk_10_43 im_Sill_level se_Sill_level lm_Sill_level np_Sill_level ⟨Nat.le_of_ble_eq_true rfl, Nat.le_of_ble_eq_true rfl⟩ (fun _ => Nat.le_of_ble_eq_true rfl) (by decide) rfl o1 (am_Ei.end (am_Ei.mono t (fun r3 h2 t => ?_)))
  refine am_blk_ok (c := 10) (ini := false) (by decide) rfl (fun q => by cases q) bk_Windows_findAtGate_6_1 _ 7 _ _ _ bk_Windows_findAtGate_6_1_ok rfl ?_
  show am_EI m_Windows_findAtGate kc ks 7 [.ref a0, .ref a1, .ref a2, .ref a3, .float 0] [.ref a3, .int r3, .int 0, .ref a1] h2 Q
  obtain ⟨o4, t⟩ := t
  refine am_callV (M2 := m_Ship_draught) (ci := 6) (a := a3) (kc := kc) (ks := ks) (k2c := 0) (k2s := 0) (as := [.int r3, .int 0, .ref a1]) [] dc_Windows_findAtGate_7 lk_10_46 im_Ship_draught se_Ship_draught lm_Ship_draught np_Ship_draught ⟨Nat.le_of_ble_eq_true rfl, Nat.le_of_ble_eq_true rfl⟩ (fun _ => Nat.le_of_ble_eq_true rfl) (by decide) rfl o4 (am_Ei.end (am_Ei.mono t (fun r6 h5 t => ?_)))
  refine am_blk_ok (c := 10) (ini := false) (by decide) rfl (fun q => by cases q) bk_Windows_findAtGate_10_3 _ 15 _ _ _ bk_Windows_findAtGate_10_3_ok rfl ?_
  show (am_tg h5 a0 = (10, 4) ∧ (∃ b7, am_P h5 a0 1 = some b7 ∧ am_EI m_Windows_findAtGate kc ks 15 [.ref a0, .ref a1, .ref a2, .ref a3, .float 0] [.ref b7, .int (r3 + r6), .int 0, .ref a1] h5 Q))
  obtain ⟨o8, b7, q9, t⟩ := t
  refine ⟨o8, b7, q9, ?_⟩
  obtain ⟨o10, t⟩ := t
  refine am_callV (M2 := m_Port_collect) (ci := 2) (a := a1) (kc := kc) (ks := ks) (k2c := 0) (k2s := 0) (as := []) [.int 0, .int (r3 + r6), .ref b7] dc_Windows_findAtGate_15 lk_10_51 im_Port_collect se_Port_collect lm_Port_collect np_Port_collect ⟨Nat.le_of_ble_eq_true rfl, Nat.le_of_ble_eq_true rfl⟩ (fun _ => Nat.le_of_ble_eq_true rfl) (by decide) rfl o10 (am_Ew.end (am_Ew.mono t (fun h11 t => ?_)))
  refine am_blk_ok (c := 10) (ini := false) (by decide) rfl (fun q => by cases q) bk_Windows_findAtGate_18_2 _ 22 _ _ _ bk_Windows_findAtGate_18_2_ok rfl ?_
  show (am_tg h11 a0 = (10, 4) ∧ (∃ b12, am_P h11 a0 2 = some b12 ∧ am_EI m_Windows_findAtGate kc ks 22 [.ref a0, .ref a1, .ref a2, .ref a3, .float 0] [.ref b12] h11 Q))
  obtain ⟨o13, b12, q14, t⟩ := t
  refine ⟨o13, b12, q14, ?_⟩
  obtain ⟨o15, t⟩ := t
  refine am_callV (M2 := m_Spans_clear) (ci := 8) (a := b12) (kc := kc) (ks := ks) (k2c := 0) (k2s := 0) (as := []) [] dc_Windows_findAtGate_22 lk_10_28 im_Spans_clear se_Spans_clear lm_Spans_clear np_Spans_clear ⟨Nat.le_of_ble_eq_true rfl, Nat.le_of_ble_eq_true rfl⟩ (fun _ => Nat.le_of_ble_eq_true rfl) (by decide) rfl o15 (am_Ew.end (am_Ew.mono t (fun h16 t => ?_)))
  refine am_blk_ok (c := 10) (ini := false) (by decide) rfl (fun q => by cases q) bk_Windows_findAtGate_25_2 _ 28 _ _ _ bk_Windows_findAtGate_25_2_ok rfl ?_
  show am_EI m_Windows_findAtGate kc ks 28 [.ref a0, .ref a1, .ref a2, .ref a3, .int 0] [] h16 Q
  exact t
set_option maxRecDepth 20000 in
theorem ev_Windows_findAtGate (a0 a1 a2 a3 : Nat) (h : am_H) (Q : am_H → Prop) (t : (am_tg h a2 = (7, 5) ∧ (am_Ei m_Sill_level 0 0 [.ref a2] h (fun r3 h2 => (am_tg h2 a3 = (6, 3) ∧ (am_Ei m_Ship_draught 0 0 [.ref a3] h2 (fun r6 h5 => (am_tg h5 a0 = (10, 4) ∧ (∃ b7, am_P h5 a0 1 = some b7 ∧ (am_tg h5 a1 = (2, 5) ∧ (am_Ew m_Port_collect 0 0 [.ref a1, .int 0, .int (r3 + r6), .ref b7] h5 (fun h11 => (am_tg h11 a0 = (10, 4) ∧ (∃ b12, am_P h11 a0 2 = some b12 ∧ (am_tg h11 b12 = (8, 4) ∧ (am_Ew m_Spans_clear 0 0 [.ref b12] h11 (fun h16 => am_EI m_Windows_findAtGate 0 0 28 [.ref a0, .ref a1, .ref a2, .ref a3, .int 0] [] h16 (am_qw Q)))))))))))))))))) : am_Ew m_Windows_findAtGate 0 0 [.ref a0, .ref a1, .ref a2, .ref a3] h Q :=
  am_Ev.of (by decide +kernel) (Nat.le_of_ble_eq_true rfl) (by simp only [List.mem_cons, List.not_mem_nil, or_false]; intro v hv; rcases hv with rfl | rfl | rfl | rfl; all_goals first | exact trivial) (sg_Windows_findAtGate_0 (kc := 0) (ks := 0) a0 a1 a2 a3 h (am_qw Q) t)
set_option maxRecDepth 20000 in
theorem sg_Windows_findAtGate_28 {kc ks : Nat} (a0 a1 a2 a3 : Nat) (x4 : Int32) (h : am_H) (Q : Option Value → am_H → Prop) (t : (am_tg h a1 = (2, 5) ∧ (am_Ei m_Port_turnCount 0 0 [.ref a1] h (fun r3 h2 => ((r3 ≤ x4 → (am_tg h2 a0 = (10, 4) ∧ (∃ b5, am_P h2 a0 0 = some b5 ∧ (∃ b6, am_P h2 a0 1 = some b6 ∧ (∃ b7, am_P h2 a0 2 = some b7 ∧ (am_tg h2 b5 = (8, 4) ∧ (am_Ew m_Spans_intersect 0 0 [.ref b5, .ref b6, .ref b7] h2 (fun h13 => Q none h13)))))))) ∧ (¬ r3 ≤ x4 → (am_tg h2 a1 = (2, 5) ∧ (am_Ei m_Port_isHigh 0 0 [.ref a1, .int x4] h2 (fun r16 h15 => ((r16 = 0 → am_EI m_Windows_findAtGate kc ks 28 [.ref a0, .ref a1, .ref a2, .ref a3, .int (x4 + 1)] [] h15 Q) ∧ (¬ r16 = 0 → (am_tg h15 a0 = (10, 4) ∧ (∃ b18, am_P h15 a0 2 = some b18 ∧ (am_tg h15 a1 = (2, 5) ∧ (am_Ei m_Port_minuteOf 0 0 [.ref a1, .int x4] h15 (fun r23 h22 => (am_tg h22 a2 = (7, 5) ∧ (am_Ei m_Sill_one 0 0 [.ref a2] h22 (fun r26 h25 => (am_tg h25 a1 = (2, 5) ∧ (am_Ei m_Port_minuteOf 0 0 [.ref a1, .int x4] h25 (fun r29 h28 => (am_tg h28 a2 = (7, 5) ∧ (am_Ei m_Sill_two 0 0 [.ref a2] h28 (fun r32 h31 => (am_tg h31 b18 = (8, 4) ∧ (am_Ew m_Spans_add 0 0 [.ref b18, .int (r23 - r26), .int (r29 + r32)] h31 (fun h34 => am_EI m_Windows_findAtGate kc ks 28 [.ref a0, .ref a1, .ref a2, .ref a3, .int (x4 + 1)] [] h34 Q)))))))))))))))))))))))))))) : am_EI m_Windows_findAtGate kc ks 28 [.ref a0, .ref a1, .ref a2, .ref a3, .int x4] [] h Q := by
  refine am_blk_ok (c := 10) (ini := false) (by decide) rfl (fun q => by cases q) bk_Windows_findAtGate_28_2 _ 31 _ _ _ bk_Windows_findAtGate_28_2_ok rfl ?_
  show am_EI m_Windows_findAtGate kc ks 31 [.ref a0, .ref a1, .ref a2, .ref a3, .int x4] [.ref a1, .int x4] h Q
  obtain ⟨o1, t⟩ := t
  refine am_callV (M2 := m_Port_turnCount) (ci := 2) (a := a1) (kc := kc) (ks := ks) (k2c := 0) (k2s := 0) (as := [.int x4]) [] dc_Windows_findAtGate_31 lk_10_74 im_Port_turnCount se_Port_turnCount lm_Port_turnCount np_Port_turnCount ⟨Nat.le_of_ble_eq_true rfl, Nat.le_of_ble_eq_true rfl⟩ (fun _ => Nat.le_of_ble_eq_true rfl) (by decide) rfl o1 (am_Ei.end (am_Ei.mono t (fun r3 h2 t => ?_)))
  refine am_ic_ge (tgt := 81) dc_Windows_findAtGate_34 (by decide) (fun c4 => ?_) (fun c4 => ?_)
  · replace t := t.1 c4
    refine am_blk_ok (c := 10) (ini := false) (by decide) rfl (fun q => by cases q) bk_Windows_findAtGate_81_6 _ 93 _ _ _ bk_Windows_findAtGate_81_6_ok rfl ?_
    show (am_tg h2 a0 = (10, 4) ∧ (∃ b5, am_P h2 a0 0 = some b5 ∧ (am_tg h2 a0 = (10, 4) ∧ (∃ b6, am_P h2 a0 1 = some b6 ∧ (am_tg h2 a0 = (10, 4) ∧ (∃ b7, am_P h2 a0 2 = some b7 ∧ am_EI m_Windows_findAtGate kc ks 93 [.ref a0, .ref a1, .ref a2, .ref a3, .int x4] [.ref b7, .ref b6, .ref b5] h2 Q))))))
    obtain ⟨o8, b5, q9, b6, q10, b7, q11, t⟩ := t
    refine ⟨o8, b5, q9, o8, b6, q10, o8, b7, q11, ?_⟩
    obtain ⟨o12, t⟩ := t
    refine am_callV (M2 := m_Spans_intersect) (ci := 8) (a := b5) (kc := kc) (ks := ks) (k2c := 0) (k2s := 0) (as := []) [.ref b6, .ref b7] dc_Windows_findAtGate_93 lk_10_95 im_Spans_intersect se_Spans_intersect lm_Spans_intersect np_Spans_intersect ⟨Nat.le_of_ble_eq_true rfl, Nat.le_of_ble_eq_true rfl⟩ (fun _ => Nat.le_of_ble_eq_true rfl) (by decide) rfl o12 (am_Ew.end (am_Ew.mono t (fun h13 t => ?_)))
    exact am_vret dc_Windows_findAtGate_96 rfl t
  · replace t := t.2 c4
    refine am_blk_ok (c := 10) (ini := false) (by decide) rfl (fun q => by cases q) bk_Windows_findAtGate_37_2 _ 40 _ _ _ bk_Windows_findAtGate_37_2_ok rfl ?_
    show am_EI m_Windows_findAtGate kc ks 40 [.ref a0, .ref a1, .ref a2, .ref a3, .int x4] [.int x4, .ref a1] h2 Q
    obtain ⟨o14, t⟩ := t
    refine am_callV (M2 := m_Port_isHigh) (ci := 2) (a := a1) (kc := kc) (ks := ks) (k2c := 0) (k2s := 0) (as := []) [.int x4] dc_Windows_findAtGate_40 lk_10_77 im_Port_isHigh se_Port_isHigh lm_Port_isHigh np_Port_isHigh ⟨Nat.le_of_ble_eq_true rfl, Nat.le_of_ble_eq_true rfl⟩ (fun _ => Nat.le_of_ble_eq_true rfl) (by decide) rfl o14 (am_Ei.end (am_Ei.mono t (fun r16 h15 t => ?_)))
    refine am_if_eq (tgt := 75) dc_Windows_findAtGate_43 (by decide) (fun c17 => ?_) (fun c17 => ?_)
    · replace t := t.1 c17
      refine am_blk_ok (c := 10) (ini := false) (by decide) rfl (fun q => by cases q) bk_Windows_findAtGate_75_2 _ 28 _ _ _ bk_Windows_findAtGate_75_2_ok rfl ?_
      show am_EI m_Windows_findAtGate kc ks 28 [.ref a0, .ref a1, .ref a2, .ref a3, .int (x4 + 1)] [] h15 Q
      exact t
    · replace t := t.2 c17
      refine am_blk_ok (c := 10) (ini := false) (by decide) rfl (fun q => by cases q) bk_Windows_findAtGate_46_4 _ 53 _ _ _ bk_Windows_findAtGate_46_4_ok rfl ?_
      show (am_tg h15 a0 = (10, 4) ∧ (∃ b18, am_P h15 a0 2 = some b18 ∧ am_EI m_Windows_findAtGate kc ks 53 [.ref a0, .ref a1, .ref a2, .ref a3, .int x4] [.int x4, .ref a1, .ref b18] h15 Q))
      obtain ⟨o19, b18, q20, t⟩ := t
      refine ⟨o19, b18, q20, ?_⟩
      obtain ⟨o21, t⟩ := t
      refine am_callV (M2 := m_Port_minuteOf) (ci := 2) (a := a1) (kc := kc) (ks := ks) (k2c := 0) (k2s := 0) (as := [.ref b18]) [.int x4] dc_Windows_findAtGate_53 lk_10_81 im_Port_minuteOf se_Port_minuteOf lm_Port_minuteOf np_Port_minuteOf ⟨Nat.le_of_ble_eq_true rfl, Nat.le_of_ble_eq_true rfl⟩ (fun _ => Nat.le_of_ble_eq_true rfl) (by decide) rfl o21 (am_Ei.end (am_Ei.mono t (fun r23 h22 t => ?_)))
      refine am_blk_ok (c := 10) (ini := false) (by decide) rfl (fun q => by cases q) bk_Windows_findAtGate_56_1 _ 57 _ _ _ bk_Windows_findAtGate_56_1_ok rfl ?_
      show am_EI m_Windows_findAtGate kc ks 57 [.ref a0, .ref a1, .ref a2, .ref a3, .int x4] [.ref a2, .int r23, .ref b18] h22 Q
      obtain ⟨o24, t⟩ := t
      refine am_callV (M2 := m_Sill_one) (ci := 7) (a := a2) (kc := kc) (ks := ks) (k2c := 0) (k2s := 0) (as := [.int r23, .ref b18]) [] dc_Windows_findAtGate_57 lk_10_85 im_Sill_one se_Sill_one lm_Sill_one np_Sill_one ⟨Nat.le_of_ble_eq_true rfl, Nat.le_of_ble_eq_true rfl⟩ (fun _ => Nat.le_of_ble_eq_true rfl) (by decide) rfl o24 (am_Ei.end (am_Ei.mono t (fun r26 h25 t => ?_)))
      refine am_blk_ok (c := 10) (ini := false) (by decide) rfl (fun q => by cases q) bk_Windows_findAtGate_60_3 _ 64 _ _ _ bk_Windows_findAtGate_60_3_ok rfl ?_
      show am_EI m_Windows_findAtGate kc ks 64 [.ref a0, .ref a1, .ref a2, .ref a3, .int x4] [.int x4, .ref a1, .int (r23 - r26), .ref b18] h25 Q
      obtain ⟨o27, t⟩ := t
      refine am_callV (M2 := m_Port_minuteOf) (ci := 2) (a := a1) (kc := kc) (ks := ks) (k2c := 0) (k2s := 0) (as := [.int (r23 - r26), .ref b18]) [.int x4] dc_Windows_findAtGate_64 lk_10_81 im_Port_minuteOf se_Port_minuteOf lm_Port_minuteOf np_Port_minuteOf ⟨Nat.le_of_ble_eq_true rfl, Nat.le_of_ble_eq_true rfl⟩ (fun _ => Nat.le_of_ble_eq_true rfl) (by decide) rfl o27 (am_Ei.end (am_Ei.mono t (fun r29 h28 t => ?_)))
      refine am_blk_ok (c := 10) (ini := false) (by decide) rfl (fun q => by cases q) bk_Windows_findAtGate_67_1 _ 68 _ _ _ bk_Windows_findAtGate_67_1_ok rfl ?_
      show am_EI m_Windows_findAtGate kc ks 68 [.ref a0, .ref a1, .ref a2, .ref a3, .int x4] [.ref a2, .int r29, .int (r23 - r26), .ref b18] h28 Q
      obtain ⟨o30, t⟩ := t
      refine am_callV (M2 := m_Sill_two) (ci := 7) (a := a2) (kc := kc) (ks := ks) (k2c := 0) (k2s := 0) (as := [.int r29, .int (r23 - r26), .ref b18]) [] dc_Windows_findAtGate_68 lk_10_88 im_Sill_two se_Sill_two lm_Sill_two np_Sill_two ⟨Nat.le_of_ble_eq_true rfl, Nat.le_of_ble_eq_true rfl⟩ (fun _ => Nat.le_of_ble_eq_true rfl) (by decide) rfl o30 (am_Ei.end (am_Ei.mono t (fun r32 h31 t => ?_)))
      refine am_blk_ok (c := 10) (ini := false) (by decide) rfl (fun q => by cases q) bk_Windows_findAtGate_71_1 _ 72 _ _ _ bk_Windows_findAtGate_71_1_ok rfl ?_
      show am_EI m_Windows_findAtGate kc ks 72 [.ref a0, .ref a1, .ref a2, .ref a3, .int x4] [.int (r29 + r32), .int (r23 - r26), .ref b18] h31 Q
      obtain ⟨o33, t⟩ := t
      refine am_callV (M2 := m_Spans_add) (ci := 8) (a := b18) (kc := kc) (ks := ks) (k2c := 0) (k2s := 0) (as := []) [.int (r23 - r26), .int (r29 + r32)] dc_Windows_findAtGate_72 lk_10_91 im_Spans_add se_Spans_add lm_Spans_add np_Spans_add ⟨Nat.le_of_ble_eq_true rfl, Nat.le_of_ble_eq_true rfl⟩ (fun _ => Nat.le_of_ble_eq_true rfl) (by decide) rfl o33 (am_Ew.end (am_Ew.mono t (fun h34 t => ?_)))
      refine am_blk_ok (c := 10) (ini := false) (by decide) rfl (fun q => by cases q) bk_Windows_findAtGate_75_2 _ 28 _ _ _ bk_Windows_findAtGate_75_2_ok rfl ?_
      show am_EI m_Windows_findAtGate kc ks 28 [.ref a0, .ref a1, .ref a2, .ref a3, .int (x4 + 1)] [] h34 Q
      exact t
def bk_Windows_found_0_2 : List am_E := [(0, .aload_n 0, 1, 0, 0), (1, .getfield 14, 3, 4001, 0)]
theorem bk_Windows_found_0_2_ok : bk_Windows_found_0_2.all (am_ok 10 false m_Windows_found.2.1) = true := by decide +kernel
theorem dc_Windows_found_4 : decode m_Windows_found.2.1 4 = .ok (.areturn, 1) := by decide +kernel
set_option maxRecDepth 20000 in
theorem sg_Windows_found_0 {kc ks : Nat} (a0 : Nat) (h : am_H) (Q : Option Value → am_H → Prop) (t : (am_tg h a0 = (10, 4) ∧ (∃ b1, am_P h a0 0 = some b1 ∧ Q (some (.ref b1)) h))) : am_EI m_Windows_found kc ks 0 [.ref a0] [] h Q := by
  refine am_blk_ok (c := 10) (ini := false) (by decide) rfl (fun q => by cases q) bk_Windows_found_0_2 _ 4 _ _ _ bk_Windows_found_0_2_ok rfl ?_
  show (am_tg h a0 = (10, 4) ∧ (∃ b1, am_P h a0 0 = some b1 ∧ am_EI m_Windows_found kc ks 4 [.ref a0] [.ref b1] h Q))
  obtain ⟨o2, b1, q3, t⟩ := t
  refine ⟨o2, b1, q3, ?_⟩
  exact am_aret (o := some b1) dc_Windows_found_4 rfl rfl t
set_option maxRecDepth 20000 in
theorem ev_Windows_found (a0 : Nat) (h : am_H) (Q : Option Nat → am_H → Prop) (t : (am_tg h a0 = (10, 4) ∧ (∃ b1, am_P h a0 0 = some b1 ∧ Q (some b1) h))) : am_Er m_Windows_found 0 0 [.ref a0] h Q :=
  am_Ev.of (by decide +kernel) (Nat.le_of_ble_eq_true rfl) (by simp only [List.mem_cons, List.not_mem_nil, or_false]; intro v hv; rcases hv with rfl; all_goals first | exact trivial) (sg_Windows_found_0 (kc := 0) (ks := 0) a0 h (am_qr Q) t)
def bk_Windows_init_0_1 : List am_E := [(0, .aload_n 0, 1, 0, 0)]
theorem bk_Windows_init_0_1_ok : bk_Windows_init_0_1.all (am_ok 10 true m_Windows_init.2.1) = true := by decide +kernel
def bk_Windows_init_4_1 : List am_E := [(4, .aload_n 0, 1, 0, 0)]
theorem bk_Windows_init_4_1_ok : bk_Windows_init_4_1.all (am_ok 10 true m_Windows_init.2.1) = true := by decide +kernel
def bk_Windows_init_8_2 : List am_E := [(8, .dup, 1, 0, 0), (9, .bipush 24, 2, 0, 24)]
theorem bk_Windows_init_8_2_ok : bk_Windows_init_8_2.all (am_ok 10 true m_Windows_init.2.1) = true := by decide +kernel
def bk_Windows_init_14_2 : List am_E := [(14, .putfield 14, 3, 4001, 0), (17, .aload_n 0, 1, 0, 0)]
theorem bk_Windows_init_14_2_ok : bk_Windows_init_14_2.all (am_ok 10 true m_Windows_init.2.1) = true := by decide +kernel
def bk_Windows_init_21_2 : List am_E := [(21, .dup, 1, 0, 0), (22, .bipush 24, 2, 0, 24)]
theorem bk_Windows_init_21_2_ok : bk_Windows_init_21_2.all (am_ok 10 true m_Windows_init.2.1) = true := by decide +kernel
def bk_Windows_init_27_2 : List am_E := [(27, .putfield 18, 3, 4005, 0), (30, .aload_n 0, 1, 0, 0)]
theorem bk_Windows_init_27_2_ok : bk_Windows_init_27_2.all (am_ok 10 true m_Windows_init.2.1) = true := by decide +kernel
def bk_Windows_init_34_2 : List am_E := [(34, .dup, 1, 0, 0), (35, .bipush 24, 2, 0, 24)]
theorem bk_Windows_init_34_2_ok : bk_Windows_init_34_2.all (am_ok 10 true m_Windows_init.2.1) = true := by decide +kernel
def bk_Windows_init_40_4 : List am_E := [(40, .putfield 21, 3, 4009, 0), (43, .aload_n 0, 1, 0, 0), (44, .iconst 0, 1, 0, 0), (45, .putfield 24, 3, 4014, 0)]
theorem bk_Windows_init_40_4_ok : bk_Windows_init_40_4.all (am_ok 10 true m_Windows_init.2.1) = true := by decide +kernel
theorem dc_Windows_init_11 : decode m_Windows_init.2.1 11 = .ok (.invokespecial 11, 3) := by decide +kernel
theorem dc_Windows_init_24 : decode m_Windows_init.2.1 24 = .ok (.invokespecial 11, 3) := by decide +kernel
theorem dc_Windows_init_37 : decode m_Windows_init.2.1 37 = .ok (.invokespecial 11, 3) := by decide +kernel
theorem dc_Windows_init_48 : decode m_Windows_init.2.1 48 = .ok (.return_, 1) := by decide +kernel
theorem dc_Windows_init_31 : decode m_Windows_init.2.1 31 = .ok (.new 7, 3) := by decide +kernel
theorem dc_Windows_init_18 : decode m_Windows_init.2.1 18 = .ok (.new 7, 3) := by decide +kernel
theorem dc_Windows_init_5 : decode m_Windows_init.2.1 5 = .ok (.new 7, 3) := by decide +kernel
theorem dc_Windows_init_1 : decode m_Windows_init.2.1 1 = .ok (.invokespecial 1, 3) := by decide +kernel
set_option maxRecDepth 20000 in
theorem sg_Windows_init_0 {kc ks : Nat} (a0 : Nat) (h : am_H) (Q : Option Value → am_H → Prop) (t : (am_Ew m_Spans_init 2 48 [.ref (am_sz h), .int 24] (am_nw h 8 4) (fun h1 => (am_tg h1 a0 = (10, 4) ∧ (am_Ew m_Spans_init 2 48 [.ref (am_sz h1), .int 24] (am_nw (am_sp h1 a0 0 (some (am_sz h))) 8 4) (fun h3 => (am_tg h3 a0 = (10, 4) ∧ (am_Ew m_Spans_init 2 48 [.ref (am_sz h3), .int 24] (am_nw (am_sp h3 a0 1 (some (am_sz h1))) 8 4) (fun h5 => (am_tg h5 a0 = (10, 4) ∧ Q none (am_si (am_sp h5 a0 2 (some (am_sz h3))) a0 3 0))))))))))) : am_EI m_Windows_init (kc + 2 + 1 + 2 + 1 + 2 + 1) (ks + 48 + 4 + 48 + 4 + 48 + 4) 0 [.ref a0] [] h Q := by
  refine am_blk_ok (c := 10) (ini := true) (by decide) rfl (fun _ => rfl) bk_Windows_init_0_1 _ 1 _ _ _ bk_Windows_init_0_1_ok rfl ?_
  show am_EI m_Windows_init (kc + 2 + 1 + 2 + 1 + 2 + 1) (ks + 48 + 4 + 48 + 4 + 48 + 4) 1 [.ref a0] [.ref a0] h Q
  refine am_oinit (a := a0) dc_Windows_init_1 lk_10_1 oi_2 oi_3 (by decide) (by decide) ?_
  refine am_blk_ok (c := 10) (ini := true) (by decide) rfl (fun _ => rfl) bk_Windows_init_4_1 _ 5 _ _ _ bk_Windows_init_4_1_ok rfl ?_
  show am_EI m_Windows_init (kc + 2 + 1 + 2 + 1 + 2 + 1) (ks + 48 + 4 + 48 + 4 + 48 + 4) 5 [.ref a0] [.ref a0] h Q
  refine am_new (kc := (kc + 2 + 1 + 2 + 1 + 2)) (ks := (ks + 48 + 4 + 48 + 4 + 48)) (ci := 8) dc_Windows_init_5 (by decide) cl_10_7 in_8 ii_8 ?_
  refine am_blk_ok (c := 10) (ini := true) (by decide) rfl (fun _ => rfl) bk_Windows_init_8_2 _ 11 _ _ _ bk_Windows_init_8_2_ok rfl ?_
  show am_EI m_Windows_init (kc + 2 + 1 + 2 + 1 + 2) (ks + 48 + 4 + 48 + 4 + 48) 11 [.ref a0] [.int 24, .ref (am_sz h), .ref (am_sz h), .ref a0] (am_nw h 8 4) Q
  refine am_callI (M2 := m_Spans_init) (a := am_sz h) (kc := (kc + 2 + 1 + 2 + 1)) (ks := (ks + 48 + 4 + 48 + 4)) (k2c := 2) (k2s := 48) (as := [.ref (am_sz h), .ref a0]) [.int 24] dc_Windows_init_11 lk_10_11 im_Spans_init rfl rfl lm_Spans_init np_Spans_init ⟨Nat.le_of_ble_eq_true rfl, Nat.le_of_ble_eq_true rfl⟩ (fun _ => Nat.le_of_ble_eq_true rfl) (am_Ew.end (am_Ew.mono t (fun h1 t => ?_)))
  refine am_blk_ok (c := 10) (ini := true) (by decide) rfl (fun _ => rfl) bk_Windows_init_14_2 _ 18 _ _ _ bk_Windows_init_14_2_ok rfl ?_
  show (am_tg h1 a0 = (10, 4) ∧ am_EI m_Windows_init (kc + 2 + 1 + 2 + 1) (ks + 48 + 4 + 48 + 4) 18 [.ref a0] [.ref a0] (am_sp h1 a0 0 (some (am_sz h))) Q)
  obtain ⟨o2, t⟩ := t
  refine ⟨o2, ?_⟩
  refine am_new (kc := (kc + 2 + 1 + 2)) (ks := (ks + 48 + 4 + 48)) (ci := 8) dc_Windows_init_18 (by decide) cl_10_7 in_8 ii_8 ?_
  refine am_blk_ok (c := 10) (ini := true) (by decide) rfl (fun _ => rfl) bk_Windows_init_21_2 _ 24 _ _ _ bk_Windows_init_21_2_ok rfl ?_
  show am_EI m_Windows_init (kc + 2 + 1 + 2) (ks + 48 + 4 + 48) 24 [.ref a0] [.int 24, .ref (am_sz h1), .ref (am_sz h1), .ref a0] (am_nw (am_sp h1 a0 0 (some (am_sz h))) 8 4) Q
  refine am_callI (M2 := m_Spans_init) (a := am_sz h1) (kc := (kc + 2 + 1)) (ks := (ks + 48 + 4)) (k2c := 2) (k2s := 48) (as := [.ref (am_sz h1), .ref a0]) [.int 24] dc_Windows_init_24 lk_10_11 im_Spans_init rfl rfl lm_Spans_init np_Spans_init ⟨Nat.le_of_ble_eq_true rfl, Nat.le_of_ble_eq_true rfl⟩ (fun _ => Nat.le_of_ble_eq_true rfl) (am_Ew.end (am_Ew.mono t (fun h3 t => ?_)))
  refine am_blk_ok (c := 10) (ini := true) (by decide) rfl (fun _ => rfl) bk_Windows_init_27_2 _ 31 _ _ _ bk_Windows_init_27_2_ok rfl ?_
  show (am_tg h3 a0 = (10, 4) ∧ am_EI m_Windows_init (kc + 2 + 1) (ks + 48 + 4) 31 [.ref a0] [.ref a0] (am_sp h3 a0 1 (some (am_sz h1))) Q)
  obtain ⟨o4, t⟩ := t
  refine ⟨o4, ?_⟩
  refine am_new (kc := (kc + 2)) (ks := (ks + 48)) (ci := 8) dc_Windows_init_31 (by decide) cl_10_7 in_8 ii_8 ?_
  refine am_blk_ok (c := 10) (ini := true) (by decide) rfl (fun _ => rfl) bk_Windows_init_34_2 _ 37 _ _ _ bk_Windows_init_34_2_ok rfl ?_
  show am_EI m_Windows_init (kc + 2) (ks + 48) 37 [.ref a0] [.int 24, .ref (am_sz h3), .ref (am_sz h3), .ref a0] (am_nw (am_sp h3 a0 1 (some (am_sz h1))) 8 4) Q
  refine am_callI (M2 := m_Spans_init) (a := am_sz h3) (kc := kc) (ks := ks) (k2c := 2) (k2s := 48) (as := [.ref (am_sz h3), .ref a0]) [.int 24] dc_Windows_init_37 lk_10_11 im_Spans_init rfl rfl lm_Spans_init np_Spans_init ⟨Nat.le_of_ble_eq_true rfl, Nat.le_of_ble_eq_true rfl⟩ (fun _ => Nat.le_of_ble_eq_true rfl) (am_Ew.end (am_Ew.mono t (fun h5 t => ?_)))
  refine am_blk_ok (c := 10) (ini := true) (by decide) rfl (fun _ => rfl) bk_Windows_init_40_4 _ 48 _ _ _ bk_Windows_init_40_4_ok rfl ?_
  show (am_tg h5 a0 = (10, 4) ∧ (am_tg h5 a0 = (10, 4) ∧ (am_b01 0 ∧ am_EI m_Windows_init kc ks 48 [.ref a0] [] (am_si (am_sp h5 a0 2 (some (am_sz h3))) a0 3 0) Q)))
  obtain ⟨o6, t⟩ := t
  refine ⟨o6, o6, (Or.inl rfl), ?_⟩
  exact am_vret dc_Windows_init_48 rfl t
set_option maxRecDepth 20000 in
theorem ev_Windows_init (a0 : Nat) (h : am_H) (Q : am_H → Prop) (t : (am_Ew m_Spans_init 2 48 [.ref (am_sz h), .int 24] (am_nw h 8 4) (fun h1 => (am_tg h1 a0 = (10, 4) ∧ (am_Ew m_Spans_init 2 48 [.ref (am_sz h1), .int 24] (am_nw (am_sp h1 a0 0 (some (am_sz h))) 8 4) (fun h3 => (am_tg h3 a0 = (10, 4) ∧ (am_Ew m_Spans_init 2 48 [.ref (am_sz h3), .int 24] (am_nw (am_sp h3 a0 1 (some (am_sz h1))) 8 4) (fun h5 => (am_tg h5 a0 = (10, 4) ∧ Q (am_si (am_sp h5 a0 2 (some (am_sz h3))) a0 3 0))))))))))) : am_Ew m_Windows_init (0 + 2 + 1 + 2 + 1 + 2 + 1) (0 + 48 + 4 + 48 + 4 + 48 + 4) [.ref a0] h Q :=
  am_Ev.of (by decide +kernel) (Nat.le_of_ble_eq_true rfl) (by simp only [List.mem_cons, List.not_mem_nil, or_false]; intro v hv; rcases hv with rfl; all_goals first | exact trivial) (sg_Windows_init_0 (kc := 0) (ks := 0) a0 h (am_qw Q) t)
