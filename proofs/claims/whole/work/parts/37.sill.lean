def bk_Sill_findFault_0_3 : List am_E := [(0, .aload_n 0, 1, 0, 0), (1, .getfield 9, 3, 2804, 0), (4, .iconst 3, 1, 0, 3)]
theorem bk_Sill_findFault_0_3_ok : bk_Sill_findFault_0_3.all (am_ok 7 false m_Sill_findFault.2.1) = true := by decide +kernel
def bk_Sill_findFault_33_2 : List am_E := [(33, .aload_n 0, 1, 0, 0), (34, .getfield 13, 3, 2808, 0)]
theorem bk_Sill_findFault_33_2_ok : bk_Sill_findFault_33_2.all (am_ok 7 false m_Sill_findFault.2.1) = true := by decide +kernel
def bk_Sill_findFault_8_2 : List am_E := [(8, .aload_n 0, 1, 0, 0), (9, .getfield 13, 3, 2808, 0)]
theorem bk_Sill_findFault_8_2_ok : bk_Sill_findFault_8_2.all (am_ok 7 false m_Sill_findFault.2.1) = true := by decide +kernel
def bk_Sill_findFault_15_3 : List am_E := [(15, .aload_n 0, 1, 0, 0), (16, .getfield 13, 3, 2808, 0), (19, .sipush 9999, 3, 0, 9999)]
theorem bk_Sill_findFault_15_3_ok : bk_Sill_findFault_15_3.all (am_ok 7 false m_Sill_findFault.2.1) = true := by decide +kernel
def bk_Sill_findFault_25_2 : List am_E := [(25, .iconst 1, 1, 0, 1), (26, .goto 14, 3, 0, 14)]
theorem bk_Sill_findFault_25_2_ok : bk_Sill_findFault_25_2.all (am_ok 7 false m_Sill_findFault.2.1) = true := by decide +kernel
def bk_Sill_findFault_29_2 : List am_E := [(29, .iconst 0, 1, 0, 0), (30, .goto 10, 3, 0, 10)]
theorem bk_Sill_findFault_29_2_ok : bk_Sill_findFault_29_2.all (am_ok 7 false m_Sill_findFault.2.1) = true := by decide +kernel
def bk_Sill_findFault_40_2 : List am_E := [(40, .istore_n 1, 1, 0, 0), (41, .aload_n 0, 1, 0, 0)]
theorem bk_Sill_findFault_40_2_ok : bk_Sill_findFault_40_2.all (am_ok 7 false m_Sill_findFault.2.1) = true := by decide +kernel
def bk_Sill_findFault_48_3 : List am_E := [(48, .aload_n 0, 1, 0, 0), (49, .getfield 16, 3, 2812, 0), (52, .sipush 600, 3, 0, 600)]
theorem bk_Sill_findFault_48_3_ok : bk_Sill_findFault_48_3.all (am_ok 7 false m_Sill_findFault.2.1) = true := by decide +kernel
def bk_Sill_findFault_58_2 : List am_E := [(58, .iconst 0, 1, 0, 0), (59, .istore_n 1, 1, 0, 0)]
theorem bk_Sill_findFault_58_2_ok : bk_Sill_findFault_58_2.all (am_ok 7 false m_Sill_findFault.2.1) = true := by decide +kernel
def bk_Sill_findFault_60_3 : List am_E := [(60, .aload_n 0, 1, 0, 0), (61, .getfield 9, 3, 2804, 0), (64, .iconst 1, 1, 0, 1)]
theorem bk_Sill_findFault_60_3_ok : bk_Sill_findFault_60_3.all (am_ok 7 false m_Sill_findFault.2.1) = true := by decide +kernel
def bk_Sill_findFault_68_3 : List am_E := [(68, .aload_n 0, 1, 0, 0), (69, .getfield 19, 3, 2816, 0), (72, .sipush 600, 3, 0, 600)]
theorem bk_Sill_findFault_68_3_ok : bk_Sill_findFault_68_3.all (am_ok 7 false m_Sill_findFault.2.1) = true := by decide +kernel
def bk_Sill_findFault_78_2 : List am_E := [(78, .iconst 0, 1, 0, 0), (79, .istore_n 1, 1, 0, 0)]
theorem bk_Sill_findFault_78_2_ok : bk_Sill_findFault_78_2.all (am_ok 7 false m_Sill_findFault.2.1) = true := by decide +kernel
def bk_Sill_findFault_80_1 : List am_E := [(80, .iload_n 1, 1, 0, 0)]
theorem bk_Sill_findFault_80_1_ok : bk_Sill_findFault_80_1.all (am_ok 7 false m_Sill_findFault.2.1) = true := by decide +kernel
def bk_Sill_findFault_88_1 : List am_E := [(88, .bipush 8, 2, 0, 8)]
theorem bk_Sill_findFault_88_1_ok : bk_Sill_findFault_88_1.all (am_ok 7 false m_Sill_findFault.2.1) = true := by decide +kernel
def bk_Sill_findFault_84_2 : List am_E := [(84, .iconst 0, 1, 0, 0), (85, .goto 5, 3, 0, 5)]
theorem bk_Sill_findFault_84_2_ok : bk_Sill_findFault_84_2.all (am_ok 7 false m_Sill_findFault.2.1) = true := by decide +kernel
theorem dc_Sill_findFault_37 : decode m_Sill_findFault.2.1 37 = .ok (.invokestatic 55, 3) := by decide +kernel
theorem dc_Sill_findFault_22 : decode m_Sill_findFault.2.1 22 = .ok (.if_icmp .gt 7, 3) := by decide +kernel
theorem dc_Sill_findFault_12 : decode m_Sill_findFault.2.1 12 = .ok (.ifCond .lt 17, 3) := by decide +kernel
theorem dc_Sill_findFault_5 : decode m_Sill_findFault.2.1 5 = .ok (.if_icmp .ne 28, 3) := by decide +kernel
theorem dc_Sill_findFault_42 : decode m_Sill_findFault.2.1 42 = .ok (.invokevirtual 48, 3) := by decide +kernel
theorem dc_Sill_findFault_55 : decode m_Sill_findFault.2.1 55 = .ok (.if_icmp .le 5, 3) := by decide +kernel
theorem dc_Sill_findFault_45 : decode m_Sill_findFault.2.1 45 = .ok (.ifCond .eq 15, 3) := by decide +kernel
theorem dc_Sill_findFault_75 : decode m_Sill_findFault.2.1 75 = .ok (.if_icmp .le 5, 3) := by decide +kernel
theorem dc_Sill_findFault_65 : decode m_Sill_findFault.2.1 65 = .ok (.if_icmp .ne 15, 3) := by decide +kernel
theorem dc_Sill_findFault_81 : decode m_Sill_findFault.2.1 81 = .ok (.ifCond .eq 7, 3) := by decide +kernel
theorem dc_Sill_findFault_90 : decode m_Sill_findFault.2.1 90 = .ok (.ireturn, 1) := by decide +kernel
set_option maxRecDepth 20000 in
theorem sg_Sill_findFault_0 {kc ks : Nat} (a0 : Nat) (h : am_H) (Q : Option Value → am_H → Prop) (t : (am_tg h a0 = (7, 5) ∧ ((¬ (am_I h a0 1) = 3 → (am_Ei m_Port_isHeight 0 0 [.int (am_I h a0 2)] h (fun r4 h3 => am_EI m_Sill_findFault kc ks 40 [.ref a0, .float 0] [.int r4] h3 Q))) ∧ ((am_I h a0 1) = 3 → (((am_I h a0 2) < 0 → am_EI m_Sill_findFault kc ks 29 [.ref a0, .float 0] [] h Q) ∧ (¬ (am_I h a0 2) < 0 → ((9999 < (am_I h a0 2) → am_EI m_Sill_findFault kc ks 29 [.ref a0, .float 0] [] h Q) ∧ (¬ 9999 < (am_I h a0 2) → am_EI m_Sill_findFault kc ks 40 [.ref a0, .float 0] [.int 1] h Q)))))))) : am_EI m_Sill_findFault kc ks 0 [.ref a0, .float 0] [] h Q := by
  refine am_blk_ok (c := 7) (ini := false) (by decide) rfl (fun q => by cases q) bk_Sill_findFault_0_3 _ 5 _ _ _ bk_Sill_findFault_0_3_ok rfl ?_
  show (am_tg h a0 = (7, 5) ∧ am_EI m_Sill_findFault kc ks 5 [.ref a0, .float 0] [.int 3, .int (am_I h a0 1)] h Q)
  obtain ⟨o1, t⟩ := t
  refine ⟨o1, ?_⟩
  refine am_ic_ne (tgt := 33) dc_Sill_findFault_5 (by decide) (fun c2 => ?_) (fun c2 => ?_)
  · replace t := t.1 c2
    refine am_blk_ok (c := 7) (ini := false) (by decide) rfl (fun q => by cases q) bk_Sill_findFault_33_2 _ 37 _ _ _ bk_Sill_findFault_33_2_ok rfl ?_
    show (am_tg h a0 = (7, 5) ∧ am_EI m_Sill_findFault kc ks 37 [.ref a0, .float 0] [.int (am_I h a0 2)] h Q)
    refine ⟨o1, ?_⟩
    refine am_callS (M2 := m_Port_isHeight) (kc := kc) (ks := ks) (k2c := 0) (k2s := 0) (as := []) [.int (am_I h a0 2)] dc_Sill_findFault_37 lk_7_55 st_Port_isHeight lm_Port_isHeight np_Port_isHeight ⟨Nat.le_of_ble_eq_true rfl, Nat.le_of_ble_eq_true rfl⟩ (fun _ => Nat.le_of_ble_eq_true rfl) (am_Ei.end (am_Ei.mono t (fun r4 h3 t => ?_)))
    exact t
  · replace t := t.2 c2
    refine am_blk_ok (c := 7) (ini := false) (by decide) rfl (fun q => by cases q) bk_Sill_findFault_8_2 _ 12 _ _ _ bk_Sill_findFault_8_2_ok rfl ?_
    show (am_tg h a0 = (7, 5) ∧ am_EI m_Sill_findFault kc ks 12 [.ref a0, .float 0] [.int (am_I h a0 2)] h Q)
    refine ⟨o1, ?_⟩
    refine am_if_lt (tgt := 29) dc_Sill_findFault_12 (by decide) (fun c5 => ?_) (fun c5 => ?_)
    · replace t := t.1 c5
      exact t
    · replace t := t.2 c5
      refine am_blk_ok (c := 7) (ini := false) (by decide) rfl (fun q => by cases q) bk_Sill_findFault_15_3 _ 22 _ _ _ bk_Sill_findFault_15_3_ok rfl ?_
      show (am_tg h a0 = (7, 5) ∧ am_EI m_Sill_findFault kc ks 22 [.ref a0, .float 0] [.int 9999, .int (am_I h a0 2)] h Q)
      refine ⟨o1, ?_⟩
      refine am_ic_gt (tgt := 29) dc_Sill_findFault_22 (by decide) (fun c6 => ?_) (fun c6 => ?_)
      · replace t := t.1 c6
        exact t
      · replace t := t.2 c6
        refine am_blk_ok (c := 7) (ini := false) (by decide) rfl (fun q => by cases q) bk_Sill_findFault_25_2 _ 40 _ _ _ bk_Sill_findFault_25_2_ok rfl ?_
        show am_EI m_Sill_findFault kc ks 40 [.ref a0, .float 0] [.int 1] h Q
        exact t
set_option maxRecDepth 20000 in
theorem ev_Sill_findFault (a0 : Nat) (h : am_H) (Q : Int32 → am_H → Prop) (t : (am_tg h a0 = (7, 5) ∧ ((¬ (am_I h a0 1) = 3 → (am_Ei m_Port_isHeight 0 0 [.int (am_I h a0 2)] h (fun r4 h3 => am_EI m_Sill_findFault 0 0 40 [.ref a0, .float 0] [.int r4] h3 (am_qi Q)))) ∧ ((am_I h a0 1) = 3 → (((am_I h a0 2) < 0 → am_EI m_Sill_findFault 0 0 29 [.ref a0, .float 0] [] h (am_qi Q)) ∧ (¬ (am_I h a0 2) < 0 → ((9999 < (am_I h a0 2) → am_EI m_Sill_findFault 0 0 29 [.ref a0, .float 0] [] h (am_qi Q)) ∧ (¬ 9999 < (am_I h a0 2) → am_EI m_Sill_findFault 0 0 40 [.ref a0, .float 0] [.int 1] h (am_qi Q))))))))) : am_Ei m_Sill_findFault 0 0 [.ref a0] h Q :=
  am_Ev.of (by decide +kernel) (Nat.le_of_ble_eq_true rfl) (by simp only [List.mem_cons, List.not_mem_nil, or_false]; intro v hv; rcases hv with rfl; all_goals first | exact trivial) (sg_Sill_findFault_0 (kc := 0) (ks := 0) a0 h (am_qi Q) t)
set_option maxRecDepth 20000 in
theorem sg_Sill_findFault_29 {kc ks : Nat} (a0 : Nat) (h : am_H) (Q : Option Value → am_H → Prop) (t : am_EI m_Sill_findFault kc ks 40 [.ref a0, .float 0] [.int 0] h Q) : am_EI m_Sill_findFault kc ks 29 [.ref a0, .float 0] [] h Q := by
  refine am_blk_ok (c := 7) (ini := false) (by decide) rfl (fun q => by cases q) bk_Sill_findFault_29_2 _ 40 _ _ _ bk_Sill_findFault_29_2_ok rfl ?_
  show am_EI m_Sill_findFault kc ks 40 [.ref a0, .float 0] [.int 0] h Q
  exact t
set_option maxRecDepth 20000 in
theorem sg_Sill_findFault_40 {kc ks : Nat} (a0 : Nat) (y0 : Int32) (h : am_H) (Q : Option Value → am_H → Prop) (t : (am_tg h a0 = (7, 5) ∧ (am_Ei m_Sill_hasTwoNumbers 0 0 [.ref a0] h (fun r3 h2 => ((r3 = 0 → am_EI m_Sill_findFault kc ks 60 [.ref a0, .int y0] [] h2 Q) ∧ (¬ r3 = 0 → (am_tg h2 a0 = (7, 5) ∧ (((am_I h2 a0 3) ≤ 600 → am_EI m_Sill_findFault kc ks 60 [.ref a0, .int y0] [] h2 Q) ∧ (¬ (am_I h2 a0 3) ≤ 600 → am_EI m_Sill_findFault kc ks 60 [.ref a0, .int 0] [] h2 Q))))))))) : am_EI m_Sill_findFault kc ks 40 [.ref a0, .float 0] [.int y0] h Q := by
  refine am_blk_ok (c := 7) (ini := false) (by decide) rfl (fun q => by cases q) bk_Sill_findFault_40_2 _ 42 _ _ _ bk_Sill_findFault_40_2_ok rfl ?_
  show am_EI m_Sill_findFault kc ks 42 [.ref a0, .int y0] [.ref a0] h Q
  obtain ⟨o1, t⟩ := t
  refine am_callV (M2 := m_Sill_hasTwoNumbers) (ci := 7) (a := a0) (kc := kc) (ks := ks) (k2c := 0) (k2s := 0) (as := []) [] dc_Sill_findFault_42 lk_7_48 im_Sill_hasTwoNumbers se_Sill_hasTwoNumbers lm_Sill_hasTwoNumbers np_Sill_hasTwoNumbers ⟨Nat.le_of_ble_eq_true rfl, Nat.le_of_ble_eq_true rfl⟩ (fun _ => Nat.le_of_ble_eq_true rfl) (by decide) rfl o1 (am_Ei.end (am_Ei.mono t (fun r3 h2 t => ?_)))
  refine am_if_eq (tgt := 60) dc_Sill_findFault_45 (by decide) (fun c4 => ?_) (fun c4 => ?_)
  · replace t := t.1 c4
    exact t
  · replace t := t.2 c4
    refine am_blk_ok (c := 7) (ini := false) (by decide) rfl (fun q => by cases q) bk_Sill_findFault_48_3 _ 55 _ _ _ bk_Sill_findFault_48_3_ok rfl ?_
    show (am_tg h2 a0 = (7, 5) ∧ am_EI m_Sill_findFault kc ks 55 [.ref a0, .int y0] [.int 600, .int (am_I h2 a0 3)] h2 Q)
    obtain ⟨o5, t⟩ := t
    refine ⟨o5, ?_⟩
    refine am_ic_le (tgt := 60) dc_Sill_findFault_55 (by decide) (fun c6 => ?_) (fun c6 => ?_)
    · replace t := t.1 c6
      exact t
    · replace t := t.2 c6
      refine am_blk_ok (c := 7) (ini := false) (by decide) rfl (fun q => by cases q) bk_Sill_findFault_58_2 _ 60 _ _ _ bk_Sill_findFault_58_2_ok rfl ?_
      show am_EI m_Sill_findFault kc ks 60 [.ref a0, .int 0] [] h2 Q
      exact t
set_option maxRecDepth 20000 in
theorem sg_Sill_findFault_60 {kc ks : Nat} (a0 : Nat) (x1 : Int32) (h : am_H) (Q : Option Value → am_H → Prop) (t : (am_tg h a0 = (7, 5) ∧ ((¬ (am_I h a0 1) = 1 → am_EI m_Sill_findFault kc ks 80 [.ref a0, .int x1] [] h Q) ∧ ((am_I h a0 1) = 1 → (((am_I h a0 4) ≤ 600 → am_EI m_Sill_findFault kc ks 80 [.ref a0, .int x1] [] h Q) ∧ (¬ (am_I h a0 4) ≤ 600 → am_EI m_Sill_findFault kc ks 80 [.ref a0, .int 0] [] h Q)))))) : am_EI m_Sill_findFault kc ks 60 [.ref a0, .int x1] [] h Q := by
  refine am_blk_ok (c := 7) (ini := false) (by decide) rfl (fun q => by cases q) bk_Sill_findFault_60_3 _ 65 _ _ _ bk_Sill_findFault_60_3_ok rfl ?_
  show (am_tg h a0 = (7, 5) ∧ am_EI m_Sill_findFault kc ks 65 [.ref a0, .int x1] [.int 1, .int (am_I h a0 1)] h Q)
  obtain ⟨o1, t⟩ := t
  refine ⟨o1, ?_⟩
  refine am_ic_ne (tgt := 80) dc_Sill_findFault_65 (by decide) (fun c2 => ?_) (fun c2 => ?_)
  · replace t := t.1 c2
    exact t
  · replace t := t.2 c2
    refine am_blk_ok (c := 7) (ini := false) (by decide) rfl (fun q => by cases q) bk_Sill_findFault_68_3 _ 75 _ _ _ bk_Sill_findFault_68_3_ok rfl ?_
    show (am_tg h a0 = (7, 5) ∧ am_EI m_Sill_findFault kc ks 75 [.ref a0, .int x1] [.int 600, .int (am_I h a0 4)] h Q)
    refine ⟨o1, ?_⟩
    refine am_ic_le (tgt := 80) dc_Sill_findFault_75 (by decide) (fun c3 => ?_) (fun c3 => ?_)
    · replace t := t.1 c3
      exact t
    · replace t := t.2 c3
      refine am_blk_ok (c := 7) (ini := false) (by decide) rfl (fun q => by cases q) bk_Sill_findFault_78_2 _ 80 _ _ _ bk_Sill_findFault_78_2_ok rfl ?_
      show am_EI m_Sill_findFault kc ks 80 [.ref a0, .int 0] [] h Q
      exact t
set_option maxRecDepth 20000 in
theorem sg_Sill_findFault_80 {kc ks : Nat} (a0 : Nat) (x1 : Int32) (h : am_H) (Q : Option Value → am_H → Prop) (t : ((x1 = 0 → am_EI m_Sill_findFault kc ks 90 [.ref a0, .int x1] [.int 8] h Q) ∧ (¬ x1 = 0 → am_EI m_Sill_findFault kc ks 90 [.ref a0, .int x1] [.int 0] h Q))) : am_EI m_Sill_findFault kc ks 80 [.ref a0, .int x1] [] h Q := by
  refine am_blk_ok (c := 7) (ini := false) (by decide) rfl (fun q => by cases q) bk_Sill_findFault_80_1 _ 81 _ _ _ bk_Sill_findFault_80_1_ok rfl ?_
  show am_EI m_Sill_findFault kc ks 81 [.ref a0, .int x1] [.int x1] h Q
  refine am_if_eq (tgt := 88) dc_Sill_findFault_81 (by decide) (fun c1 => ?_) (fun c1 => ?_)
  · replace t := t.1 c1
    refine am_blk_ok (c := 7) (ini := false) (by decide) rfl (fun q => by cases q) bk_Sill_findFault_88_1 _ 90 _ _ _ bk_Sill_findFault_88_1_ok rfl ?_
    show am_EI m_Sill_findFault kc ks 90 [.ref a0, .int x1] [.int 8] h Q
    exact t
  · replace t := t.2 c1
    refine am_blk_ok (c := 7) (ini := false) (by decide) rfl (fun q => by cases q) bk_Sill_findFault_84_2 _ 90 _ _ _ bk_Sill_findFault_84_2_ok rfl ?_
    show am_EI m_Sill_findFault kc ks 90 [.ref a0, .int x1] [.int 0] h Q
    exact t
set_option maxRecDepth 20000 in
theorem sg_Sill_findFault_90 {kc ks : Nat} (a0 : Nat) (x1 y0 : Int32) (h : am_H) (Q : Option Value → am_H → Prop) (t : Q (some (.int y0)) h) : am_EI m_Sill_findFault kc ks 90 [.ref a0, .int x1] [.int y0] h Q := by
  exact am_iret dc_Sill_findFault_90 rfl t
def bk_Sill_hasTwoNumbers_0_3 : List am_E := [(0, .aload_n 0, 1, 0, 0), (1, .getfield 9, 3, 2804, 0), (4, .iconst 1, 1, 0, 1)]
theorem bk_Sill_hasTwoNumbers_0_3_ok : bk_Sill_hasTwoNumbers_0_3.all (am_ok 7 false m_Sill_hasTwoNumbers.2.1) = true := by decide +kernel
def bk_Sill_hasTwoNumbers_16_2 : List am_E := [(16, .iconst 1, 1, 0, 1), (17, .goto 4, 3, 0, 4)]
theorem bk_Sill_hasTwoNumbers_16_2_ok : bk_Sill_hasTwoNumbers_16_2.all (am_ok 7 false m_Sill_hasTwoNumbers.2.1) = true := by decide +kernel
def bk_Sill_hasTwoNumbers_8_3 : List am_E := [(8, .aload_n 0, 1, 0, 0), (9, .getfield 9, 3, 2804, 0), (12, .iconst 2, 1, 0, 2)]
theorem bk_Sill_hasTwoNumbers_8_3_ok : bk_Sill_hasTwoNumbers_8_3.all (am_ok 7 false m_Sill_hasTwoNumbers.2.1) = true := by decide +kernel
def bk_Sill_hasTwoNumbers_20_1 : List am_E := [(20, .iconst 0, 1, 0, 0)]
theorem bk_Sill_hasTwoNumbers_20_1_ok : bk_Sill_hasTwoNumbers_20_1.all (am_ok 7 false m_Sill_hasTwoNumbers.2.1) = true := by decide +kernel
theorem dc_Sill_hasTwoNumbers_21 : decode m_Sill_hasTwoNumbers.2.1 21 = .ok (.ireturn, 1) := by decide +kernel
theorem dc_Sill_hasTwoNumbers_13 : decode m_Sill_hasTwoNumbers.2.1 13 = .ok (.if_icmp .ne 7, 3) := by decide +kernel
theorem dc_Sill_hasTwoNumbers_5 : decode m_Sill_hasTwoNumbers.2.1 5 = .ok (.if_icmp .eq 11, 3) := by decide +kernel
set_option maxRecDepth 20000 in
theorem sg_Sill_hasTwoNumbers_0 {kc ks : Nat} (a0 : Nat) (h : am_H) (Q : Option Value → am_H → Prop) (t : (am_tg h a0 = (7, 5) ∧ (((am_I h a0 1) = 1 → Q (some (.int 1)) h) ∧ (¬ (am_I h a0 1) = 1 → ((¬ (am_I h a0 1) = 2 → Q (some (.int 0)) h) ∧ ((am_I h a0 1) = 2 → Q (some (.int 1)) h)))))) : am_EI m_Sill_hasTwoNumbers kc ks 0 [.ref a0] [] h Q := by
  refine am_blk_ok (c := 7) (ini := false) (by decide) rfl (fun q => by cases q) bk_Sill_hasTwoNumbers_0_3 _ 5 _ _ _ bk_Sill_hasTwoNumbers_0_3_ok rfl ?_
  show (am_tg h a0 = (7, 5) ∧ am_EI m_Sill_hasTwoNumbers kc ks 5 [.ref a0] [.int 1, .int (am_I h a0 1)] h Q)
  obtain ⟨o1, t⟩ := t
  refine ⟨o1, ?_⟩
  refine am_ic_eq (tgt := 16) dc_Sill_hasTwoNumbers_5 (by decide) (fun c2 => ?_) (fun c2 => ?_)
  · replace t := t.1 c2
    refine am_blk_ok (c := 7) (ini := false) (by decide) rfl (fun q => by cases q) bk_Sill_hasTwoNumbers_16_2 _ 21 _ _ _ bk_Sill_hasTwoNumbers_16_2_ok rfl ?_
    show am_EI m_Sill_hasTwoNumbers kc ks 21 [.ref a0] [.int 1] h Q
    exact am_zret dc_Sill_hasTwoNumbers_21 rfl (Or.inr rfl) t
  · replace t := t.2 c2
    refine am_blk_ok (c := 7) (ini := false) (by decide) rfl (fun q => by cases q) bk_Sill_hasTwoNumbers_8_3 _ 13 _ _ _ bk_Sill_hasTwoNumbers_8_3_ok rfl ?_
    show (am_tg h a0 = (7, 5) ∧ am_EI m_Sill_hasTwoNumbers kc ks 13 [.ref a0] [.int 2, .int (am_I h a0 1)] h Q)
    refine ⟨o1, ?_⟩
    refine am_ic_ne (tgt := 20) dc_Sill_hasTwoNumbers_13 (by decide) (fun c3 => ?_) (fun c3 => ?_)
    · replace t := t.1 c3
      refine am_blk_ok (c := 7) (ini := false) (by decide) rfl (fun q => by cases q) bk_Sill_hasTwoNumbers_20_1 _ 21 _ _ _ bk_Sill_hasTwoNumbers_20_1_ok rfl ?_
      show am_EI m_Sill_hasTwoNumbers kc ks 21 [.ref a0] [.int 0] h Q
      exact am_zret dc_Sill_hasTwoNumbers_21 rfl (Or.inl rfl) t
    · replace t := t.2 c3
      refine am_blk_ok (c := 7) (ini := false) (by decide) rfl (fun q => by cases q) bk_Sill_hasTwoNumbers_16_2 _ 21 _ _ _ bk_Sill_hasTwoNumbers_16_2_ok rfl ?_
      show am_EI m_Sill_hasTwoNumbers kc ks 21 [.ref a0] [.int 1] h Q
      exact am_zret dc_Sill_hasTwoNumbers_21 rfl (Or.inr rfl) t
set_option maxRecDepth 20000 in
theorem ev_Sill_hasTwoNumbers (a0 : Nat) (h : am_H) (Q : Int32 → am_H → Prop) (t : (am_tg h a0 = (7, 5) ∧ (((am_I h a0 1) = 1 → Q 1 h) ∧ (¬ (am_I h a0 1) = 1 → ((¬ (am_I h a0 1) = 2 → Q 0 h) ∧ ((am_I h a0 1) = 2 → Q 1 h)))))) : am_Ei m_Sill_hasTwoNumbers 0 0 [.ref a0] h Q :=
  am_Ev.of (by decide +kernel) (Nat.le_of_ble_eq_true rfl) (by simp only [List.mem_cons, List.not_mem_nil, or_false]; intro v hv; rcases hv with rfl; all_goals first | exact trivial) (sg_Sill_hasTwoNumbers_0 (kc := 0) (ks := 0) a0 h (am_qi Q) t)
def bk_Sill_home_0_2 : List am_E := [(0, .aload_n 0, 1, 0, 0), (1, .getfield 22, 3, 2801, 0)]
theorem bk_Sill_home_0_2_ok : bk_Sill_home_0_2.all (am_ok 7 false m_Sill_home.2.1) = true := by decide +kernel
theorem dc_Sill_home_4 : decode m_Sill_home.2.1 4 = .ok (.areturn, 1) := by decide +kernel
set_option maxRecDepth 20000 in
theorem sg_Sill_home_0 {kc ks : Nat} (a0 : Nat) (h : am_H) (Q : Option Value → am_H → Prop) (t : (am_tg h a0 = (7, 5) ∧ (∃ b1, am_P h a0 0 = some b1 ∧ Q (some (.ref b1)) h))) : am_EI m_Sill_home kc ks 0 [.ref a0] [] h Q := by
  refine am_blk_ok (c := 7) (ini := false) (by decide) rfl (fun q => by cases q) bk_Sill_home_0_2 _ 4 _ _ _ bk_Sill_home_0_2_ok rfl ?_
  show (am_tg h a0 = (7, 5) ∧ (∃ b1, am_P h a0 0 = some b1 ∧ am_EI m_Sill_home kc ks 4 [.ref a0] [.ref b1] h Q))
  obtain ⟨o2, b1, q3, t⟩ := t
  refine ⟨o2, b1, q3, ?_⟩
  exact am_aret (o := some b1) dc_Sill_home_4 rfl rfl t
set_option maxRecDepth 20000 in
theorem ev_Sill_home (a0 : Nat) (h : am_H) (Q : Option Nat → am_H → Prop) (t : (am_tg h a0 = (7, 5) ∧ (∃ b1, am_P h a0 0 = some b1 ∧ Q (some b1) h))) : am_Er m_Sill_home 0 0 [.ref a0] h Q :=
  am_Ev.of (by decide +kernel) (Nat.le_of_ble_eq_true rfl) (by simp only [List.mem_cons, List.not_mem_nil, or_false]; intro v hv; rcases hv with rfl; all_goals first | exact trivial) (sg_Sill_home_0 (kc := 0) (ks := 0) a0 h (am_qr Q) t)
def bk_Sill_init_0_1 : List am_E := [(0, .aload_n 0, 1, 0, 0)]
theorem bk_Sill_init_0_1_ok : bk_Sill_init_0_1.all (am_ok 7 true m_Sill_init.2.1) = true := by decide +kernel
def bk_Sill_init_4_15 : List am_E := [(4, .aload_n 0, 1, 0, 0), (5, .iconst 0, 1, 0, 0), (6, .putfield 9, 3, 2804, 0), (9, .aload_n 0, 1, 0, 0), (10, .iconst 0, 1, 0, 0), (11, .putfield 13, 3, 2808, 0), (14, .aload_n 0, 1, 0, 0), (15, .iconst 0, 1, 0, 0), (16, .putfield 16, 3, 2812, 0), (19, .aload_n 0, 1, 0, 0), (20, .iconst 0, 1, 0, 0), (21, .putfield 19, 3, 2816, 0), (24, .aload_n 0, 1, 0, 0), (25, .aload_n 1, 1, 0, 0), (26, .putfield 22, 3, 2801, 0)]
theorem bk_Sill_init_4_15_ok : bk_Sill_init_4_15.all (am_ok 7 true m_Sill_init.2.1) = true := by decide +kernel
theorem dc_Sill_init_29 : decode m_Sill_init.2.1 29 = .ok (.return_, 1) := by decide +kernel
theorem dc_Sill_init_1 : decode m_Sill_init.2.1 1 = .ok (.invokespecial 1, 3) := by decide +kernel
set_option maxRecDepth 20000 in
theorem sg_Sill_init_0 {kc ks : Nat} (a0 a1 : Nat) (h : am_H) (Q : Option Value → am_H → Prop) (t : (am_tg h a0 = (7, 5) ∧ Q none (am_sp (am_si (am_si (am_si (am_si h a0 1 0) a0 2 0) a0 3 0) a0 4 0) a0 0 (some a1)))) : am_EI m_Sill_init kc ks 0 [.ref a0, .ref a1] [] h Q := by
  refine am_blk_ok (c := 7) (ini := true) (by decide) rfl (fun _ => rfl) bk_Sill_init_0_1 _ 1 _ _ _ bk_Sill_init_0_1_ok rfl ?_
  show am_EI m_Sill_init kc ks 1 [.ref a0, .ref a1] [.ref a0] h Q
  refine am_oinit (a := a0) dc_Sill_init_1 lk_7_1 oi_2 oi_3 (by decide) (by decide) ?_
  refine am_blk_ok (c := 7) (ini := true) (by decide) rfl (fun _ => rfl) bk_Sill_init_4_15 _ 29 _ _ _ bk_Sill_init_4_15_ok rfl ?_
  show (am_tg h a0 = (7, 5) ∧ (am_tg h a0 = (7, 5) ∧ (am_tg h a0 = (7, 5) ∧ (am_tg h a0 = (7, 5) ∧ (am_tg h a0 = (7, 5) ∧ am_EI m_Sill_init kc ks 29 [.ref a0, .ref a1] [] (am_sp (am_si (am_si (am_si (am_si h a0 1 0) a0 2 0) a0 3 0) a0 4 0) a0 0 (some a1)) Q)))))
  obtain ⟨o1, t⟩ := t
  refine ⟨o1, o1, o1, o1, o1, ?_⟩
  exact am_vret dc_Sill_init_29 rfl t
set_option maxRecDepth 20000 in
theorem ev_Sill_init (a0 a1 : Nat) (h : am_H) (Q : am_H → Prop) (t : (am_tg h a0 = (7, 5) ∧ Q (am_sp (am_si (am_si (am_si (am_si h a0 1 0) a0 2 0) a0 3 0) a0 4 0) a0 0 (some a1)))) : am_Ew m_Sill_init 0 0 [.ref a0, .ref a1] h Q :=
  am_Ev.of (by decide +kernel) (Nat.le_of_ble_eq_true rfl) (by simp only [List.mem_cons, List.not_mem_nil, or_false]; intro v hv; rcases hv with rfl | rfl; all_goals first | exact trivial) (sg_Sill_init_0 (kc := 0) (ks := 0) a0 a1 h (am_qw Q) t)
def bk_Sill_kind_0_2 : List am_E := [(0, .aload_n 0, 1, 0, 0), (1, .getfield 9, 3, 2804, 0)]
theorem bk_Sill_kind_0_2_ok : bk_Sill_kind_0_2.all (am_ok 7 false m_Sill_kind.2.1) = true := by decide +kernel
theorem dc_Sill_kind_4 : decode m_Sill_kind.2.1 4 = .ok (.ireturn, 1) := by decide +kernel
set_option maxRecDepth 20000 in
theorem sg_Sill_kind_0 {kc ks : Nat} (a0 : Nat) (h : am_H) (Q : Option Value → am_H → Prop) (t : (am_tg h a0 = (7, 5) ∧ Q (some (.int (am_I h a0 1))) h)) : am_EI m_Sill_kind kc ks 0 [.ref a0] [] h Q := by
  refine am_blk_ok (c := 7) (ini := false) (by decide) rfl (fun q => by cases q) bk_Sill_kind_0_2 _ 4 _ _ _ bk_Sill_kind_0_2_ok rfl ?_
  show (am_tg h a0 = (7, 5) ∧ am_EI m_Sill_kind kc ks 4 [.ref a0] [.int (am_I h a0 1)] h Q)
  obtain ⟨o1, t⟩ := t
  refine ⟨o1, ?_⟩
  exact am_iret dc_Sill_kind_4 rfl t
set_option maxRecDepth 20000 in
theorem ev_Sill_kind (a0 : Nat) (h : am_H) (Q : Int32 → am_H → Prop) (t : (am_tg h a0 = (7, 5) ∧ Q (am_I h a0 1) h)) : am_Ei m_Sill_kind 0 0 [.ref a0] h Q :=
  am_Ev.of (by decide +kernel) (Nat.le_of_ble_eq_true rfl) (by simp only [List.mem_cons, List.not_mem_nil, or_false]; intro v hv; rcases hv with rfl; all_goals first | exact trivial) (sg_Sill_kind_0 (kc := 0) (ks := 0) a0 h (am_qi Q) t)
def bk_Sill_level_0_2 : List am_E := [(0, .aload_n 0, 1, 0, 0), (1, .getfield 13, 3, 2808, 0)]
theorem bk_Sill_level_0_2_ok : bk_Sill_level_0_2.all (am_ok 7 false m_Sill_level.2.1) = true := by decide +kernel
theorem dc_Sill_level_4 : decode m_Sill_level.2.1 4 = .ok (.ireturn, 1) := by decide +kernel
set_option maxRecDepth 20000 in
theorem sg_Sill_level_0 {kc ks : Nat} (a0 : Nat) (h : am_H) (Q : Option Value → am_H → Prop) (t : (am_tg h a0 = (7, 5) ∧ Q (some (.int (am_I h a0 2))) h)) : am_EI m_Sill_level kc ks 0 [.ref a0] [] h Q := by
  refine am_blk_ok (c := 7) (ini := false) (by decide) rfl (fun q => by cases q) bk_Sill_level_0_2 _ 4 _ _ _ bk_Sill_level_0_2_ok rfl ?_
  show (am_tg h a0 = (7, 5) ∧ am_EI m_Sill_level kc ks 4 [.ref a0] [.int (am_I h a0 2)] h Q)
  obtain ⟨o1, t⟩ := t
  refine ⟨o1, ?_⟩
  exact am_iret dc_Sill_level_4 rfl t
set_option maxRecDepth 20000 in
theorem ev_Sill_level (a0 : Nat) (h : am_H) (Q : Int32 → am_H → Prop) (t : (am_tg h a0 = (7, 5) ∧ Q (am_I h a0 2) h)) : am_Ei m_Sill_level 0 0 [.ref a0] h Q :=
  am_Ev.of (by decide +kernel) (Nat.le_of_ble_eq_true rfl) (by simp only [List.mem_cons, List.not_mem_nil, or_false]; intro v hv; rcases hv with rfl; all_goals first | exact trivial) (sg_Sill_level_0 (kc := 0) (ks := 0) a0 h (am_qi Q) t)
def bk_Sill_one_0_2 : List am_E := [(0, .aload_n 0, 1, 0, 0), (1, .getfield 16, 3, 2812, 0)]
theorem bk_Sill_one_0_2_ok : bk_Sill_one_0_2.all (am_ok 7 false m_Sill_one.2.1) = true := by decide +kernel
theorem dc_Sill_one_4 : decode m_Sill_one.2.1 4 = .ok (.ireturn, 1) := by decide +kernel
set_option maxRecDepth 20000 in
theorem sg_Sill_one_0 {kc ks : Nat} (a0 : Nat) (h : am_H) (Q : Option Value → am_H → Prop) (t : (am_tg h a0 = (7, 5) ∧ Q (some (.int (am_I h a0 3))) h)) : am_EI m_Sill_one kc ks 0 [.ref a0] [] h Q := by
  refine am_blk_ok (c := 7) (ini := false) (by decide) rfl (fun q => by cases q) bk_Sill_one_0_2 _ 4 _ _ _ bk_Sill_one_0_2_ok rfl ?_
  show (am_tg h a0 = (7, 5) ∧ am_EI m_Sill_one kc ks 4 [.ref a0] [.int (am_I h a0 3)] h Q)
  obtain ⟨o1, t⟩ := t
  refine ⟨o1, ?_⟩
  exact am_iret dc_Sill_one_4 rfl t
set_option maxRecDepth 20000 in
theorem ev_Sill_one (a0 : Nat) (h : am_H) (Q : Int32 → am_H → Prop) (t : (am_tg h a0 = (7, 5) ∧ Q (am_I h a0 3) h)) : am_Ei m_Sill_one 0 0 [.ref a0] h Q :=
  am_Ev.of (by decide +kernel) (Nat.le_of_ble_eq_true rfl) (by simp only [List.mem_cons, List.not_mem_nil, or_false]; intro v hv; rcases hv with rfl; all_goals first | exact trivial) (sg_Sill_one_0 (kc := 0) (ks := 0) a0 h (am_qi Q) t)
def bk_Sill_readFrom_0_2 : List am_E := [(0, .aload_n 1, 1, 0, 0), (1, .ldc 26, 2, 3, 0)]
theorem bk_Sill_readFrom_0_2_ok : bk_Sill_readFrom_0_2.all (am_ok 7 false m_Sill_readFrom.2.1) = true := by decide +kernel
def bk_Sill_readFrom_17_2 : List am_E := [(17, .aload_n 1, 1, 0, 0), (18, .ldc 34, 2, 4, 0)]
theorem bk_Sill_readFrom_17_2_ok : bk_Sill_readFrom_17_2.all (am_ok 7 false m_Sill_readFrom.2.1) = true := by decide +kernel
def bk_Sill_readFrom_34_2 : List am_E := [(34, .aload_n 1, 1, 0, 0), (35, .ldc 36, 2, 5, 0)]
theorem bk_Sill_readFrom_34_2_ok : bk_Sill_readFrom_34_2.all (am_ok 7 false m_Sill_readFrom.2.1) = true := by decide +kernel
def bk_Sill_readFrom_51_2 : List am_E := [(51, .aload_n 1, 1, 0, 0), (52, .ldc 38, 2, 6, 0)]
theorem bk_Sill_readFrom_51_2_ok : bk_Sill_readFrom_51_2.all (am_ok 7 false m_Sill_readFrom.2.1) = true := by decide +kernel
def bk_Sill_readFrom_57_5 : List am_E := [(57, .aload_n 0, 1, 0, 0), (58, .iconst 3, 1, 0, 3), (59, .putfield 9, 3, 2804, 0), (62, .aload_n 0, 1, 0, 0), (63, .aload_n 1, 1, 0, 0)]
theorem bk_Sill_readFrom_57_5_ok : bk_Sill_readFrom_57_5.all (am_ok 7 false m_Sill_readFrom.2.1) = true := by decide +kernel
def bk_Sill_readFrom_67_2 : List am_E := [(67, .putfield 13, 3, 2808, 0), (70, .aload_n 0, 1, 0, 0)]
theorem bk_Sill_readFrom_67_2_ok : bk_Sill_readFrom_67_2.all (am_ok 7 false m_Sill_readFrom.2.1) = true := by decide +kernel
def bk_Sill_readFrom_77_2 : List am_E := [(77, .aload_n 0, 1, 0, 0), (78, .aload_n 1, 1, 0, 0)]
theorem bk_Sill_readFrom_77_2_ok : bk_Sill_readFrom_77_2.all (am_ok 7 false m_Sill_readFrom.2.1) = true := by decide +kernel
def bk_Sill_readFrom_82_3 : List am_E := [(82, .putfield 16, 3, 2812, 0), (85, .aload_n 0, 1, 0, 0), (86, .aload_n 1, 1, 0, 0)]
theorem bk_Sill_readFrom_82_3_ok : bk_Sill_readFrom_82_3.all (am_ok 7 false m_Sill_readFrom.2.1) = true := by decide +kernel
def bk_Sill_readFrom_90_1 : List am_E := [(90, .putfield 19, 3, 2816, 0)]
theorem bk_Sill_readFrom_90_1_ok : bk_Sill_readFrom_90_1.all (am_ok 7 false m_Sill_readFrom.2.1) = true := by decide +kernel
def bk_Sill_readFrom_43_6 : List am_E := [(43, .aload_n 0, 1, 0, 0), (44, .iconst 2, 1, 0, 2), (45, .putfield 9, 3, 2804, 0), (48, .goto 14, 3, 0, 14), (62, .aload_n 0, 1, 0, 0), (63, .aload_n 1, 1, 0, 0)]
theorem bk_Sill_readFrom_43_6_ok : bk_Sill_readFrom_43_6.all (am_ok 7 false m_Sill_readFrom.2.1) = true := by decide +kernel
def bk_Sill_readFrom_26_6 : List am_E := [(26, .aload_n 0, 1, 0, 0), (27, .iconst 1, 1, 0, 1), (28, .putfield 9, 3, 2804, 0), (31, .goto 31, 3, 0, 31), (62, .aload_n 0, 1, 0, 0), (63, .aload_n 1, 1, 0, 0)]
theorem bk_Sill_readFrom_26_6_ok : bk_Sill_readFrom_26_6.all (am_ok 7 false m_Sill_readFrom.2.1) = true := by decide +kernel
def bk_Sill_readFrom_9_6 : List am_E := [(9, .aload_n 0, 1, 0, 0), (10, .iconst 0, 1, 0, 0), (11, .putfield 9, 3, 2804, 0), (14, .goto 48, 3, 0, 48), (62, .aload_n 0, 1, 0, 0), (63, .aload_n 1, 1, 0, 0)]
theorem bk_Sill_readFrom_9_6_ok : bk_Sill_readFrom_9_6.all (am_ok 7 false m_Sill_readFrom.2.1) = true := by decide +kernel
theorem dc_Sill_readFrom_3 : decode m_Sill_readFrom.2.1 3 = .ok (.invokevirtual 28, 3) := by decide +kernel
theorem dc_Sill_readFrom_20 : decode m_Sill_readFrom.2.1 20 = .ok (.invokevirtual 28, 3) := by decide +kernel
theorem dc_Sill_readFrom_37 : decode m_Sill_readFrom.2.1 37 = .ok (.invokevirtual 28, 3) := by decide +kernel
theorem dc_Sill_readFrom_54 : decode m_Sill_readFrom.2.1 54 = .ok (.invokevirtual 40, 3) := by decide +kernel
theorem dc_Sill_readFrom_64 : decode m_Sill_readFrom.2.1 64 = .ok (.invokevirtual 44, 3) := by decide +kernel
theorem dc_Sill_readFrom_71 : decode m_Sill_readFrom.2.1 71 = .ok (.invokevirtual 48, 3) := by decide +kernel
theorem dc_Sill_readFrom_93 : decode m_Sill_readFrom.2.1 93 = .ok (.return_, 1) := by decide +kernel
theorem dc_Sill_readFrom_79 : decode m_Sill_readFrom.2.1 79 = .ok (.invokevirtual 52, 3) := by decide +kernel
theorem dc_Sill_readFrom_87 : decode m_Sill_readFrom.2.1 87 = .ok (.invokevirtual 52, 3) := by decide +kernel
theorem dc_Sill_readFrom_74 : decode m_Sill_readFrom.2.1 74 = .ok (.ifCond .eq 19, 3) := by decide +kernel
theorem dc_Sill_readFrom_40 : decode m_Sill_readFrom.2.1 40 = .ok (.ifCond .eq 11, 3) := by decide +kernel
theorem dc_Sill_readFrom_23 : decode m_Sill_readFrom.2.1 23 = .ok (.ifCond .eq 11, 3) := by decide +kernel
theorem dc_Sill_readFrom_6 : decode m_Sill_readFrom.2.1 6 = .ok (.ifCond .eq 11, 3) := by decide +kernel
set_option maxRecDepth 20000 in
theorem sg_Sill_readFrom_0 {kc ks : Nat} (a0 a1 : Nat) (h : am_H) (Q : Option Value → am_H → Prop) (t : (am_tg h a1 = (9, 4) ∧ (am_Ei m_Tape_takeWord 0 0 [.ref a1, .retAddr 2] h (fun r3 h2 => ((r3 = 0 → (am_tg h2 a1 = (9, 4) ∧ (am_Ei m_Tape_takeWord 0 0 [.ref a1, .retAddr 3] h2 (fun r7 h6 => ((r7 = 0 → (am_tg h6 a1 = (9, 4) ∧ (am_Ei m_Tape_takeWord 0 0 [.ref a1, .retAddr 4] h6 (fun r11 h10 => ((r11 = 0 → (am_tg h10 a1 = (9, 4) ∧ (am_Ew m_Tape_wantWord 0 0 [.ref a1, .retAddr 5] h10 (fun h14 => (am_tg h14 a0 = (7, 5) ∧ (am_tg h14 a1 = (9, 4) ∧ (am_Ei m_Tape_wantSize 0 0 [.ref a1] (am_si h14 a0 1 3) (fun r18 h17 => (am_tg h17 a0 = (7, 5) ∧ (am_Ei m_Sill_hasTwoNumbers 0 0 [.ref a0] (am_si h17 a0 2 r18) (fun r21 h20 => ((r21 = 0 → Q none h20) ∧ (¬ r21 = 0 → (am_tg h20 a1 = (9, 4) ∧ (am_Ei m_Tape_wantNumber 0 0 [.ref a1] h20 (fun r25 h24 => (am_tg h24 a0 = (7, 5) ∧ (am_tg h24 a1 = (9, 4) ∧ (am_Ei m_Tape_wantNumber 0 0 [.ref a1] (am_si h24 a0 3 r25) (fun r29 h28 => (am_tg h28 a0 = (7, 5) ∧ Q none (am_si h28 a0 4 r29)))))))))))))))))))))) ∧ (¬ r11 = 0 → (am_tg h10 a0 = (7, 5) ∧ (am_tg h10 a1 = (9, 4) ∧ (am_Ei m_Tape_wantSize 0 0 [.ref a1] (am_si h10 a0 1 2) (fun r34 h33 => (am_tg h33 a0 = (7, 5) ∧ (am_Ei m_Sill_hasTwoNumbers 0 0 [.ref a0] (am_si h33 a0 2 r34) (fun r37 h36 => ((r37 = 0 → Q none h36) ∧ (¬ r37 = 0 → (am_tg h36 a1 = (9, 4) ∧ (am_Ei m_Tape_wantNumber 0 0 [.ref a1] h36 (fun r41 h40 => (am_tg h40 a0 = (7, 5) ∧ (am_tg h40 a1 = (9, 4) ∧ (am_Ei m_Tape_wantNumber 0 0 [.ref a1] (am_si h40 a0 3 r41) (fun r45 h44 => (am_tg h44 a0 = (7, 5) ∧ Q none (am_si h44 a0 4 r45)))))))))))))))))))))))) ∧ (¬ r7 = 0 → (am_tg h6 a0 = (7, 5) ∧ (am_tg h6 a1 = (9, 4) ∧ (am_Ei m_Tape_wantSize 0 0 [.ref a1] (am_si h6 a0 1 1) (fun r50 h49 => (am_tg h49 a0 = (7, 5) ∧ (am_Ei m_Sill_hasTwoNumbers 0 0 [.ref a0] (am_si h49 a0 2 r50) (fun r53 h52 => ((r53 = 0 → Q none h52) ∧ (¬ r53 = 0 → (am_tg h52 a1 = (9, 4) ∧ (am_Ei m_Tape_wantNumber 0 0 [.ref a1] h52 (fun r57 h56 => (am_tg h56 a0 = (7, 5) ∧ (am_tg h56 a1 = (9, 4) ∧ (am_Ei m_Tape_wantNumber 0 0 [.ref a1] (am_si h56 a0 3 r57) (fun r61 h60 => (am_tg h60 a0 = (7, 5) ∧ Q none (am_si h60 a0 4 r61)))))))))))))))))))))))) ∧ (¬ r3 = 0 → (am_tg h2 a0 = (7, 5) ∧ (am_tg h2 a1 = (9, 4) ∧ (am_Ei m_Tape_wantSize 0 0 [.ref a1] (am_si h2 a0 1 0) (fun r66 h65 => (am_tg h65 a0 = (7, 5) ∧ (am_Ei m_Sill_hasTwoNumbers 0 0 [.ref a0] (am_si h65 a0 2 r66) (fun r69 h68 => ((r69 = 0 → Q none h68) ∧ (¬ r69 = 0 → (am_tg h68 a1 = (9, 4) ∧ (am_Ei m_Tape_wantNumber 0 0 [.ref a1] h68 (fun r73 h72 => (am_tg h72 a0 = (7, 5) ∧ (am_tg h72 a1 = (9, 4) ∧ (am_Ei m_Tape_wantNumber 0 0 [.ref a1] (am_si h72 a0 3 r73) (fun r77 h76 => (am_tg h76 a0 = (7, 5) ∧ Q none (am_si h76 a0 4 r77)))))))))))))))))))))))) : am_EI m_Sill_readFrom kc ks 0 [.ref a0, .ref a1] [] h Q := by
  refine am_blk_ok (c := 7) (ini := false) (by decide) rfl (fun q => by cases q) bk_Sill_readFrom_0_2 _ 3 _ _ _ bk_Sill_readFrom_0_2_ok rfl ?_
  show am_EI m_Sill_readFrom kc ks 3 [.ref a0, .ref a1] [.retAddr 2, .ref a1] h Q
  obtain ⟨o1, t⟩ := t
  refine am_callV (M2 := m_Tape_takeWord) (ci := 9) (a := a1) (kc := kc) (ks := ks) (k2c := 0) (k2s := 0) (as := []) [.retAddr 2] dc_Sill_readFrom_3 lk_7_28 im_Tape_takeWord se_Tape_takeWord lm_Tape_takeWord np_Tape_takeWord ⟨Nat.le_of_ble_eq_true rfl, Nat.le_of_ble_eq_true rfl⟩ (fun _ => Nat.le_of_ble_eq_true rfl) (by decide) rfl o1 (am_Ei.end (am_Ei.mono t (fun r3 h2 t => ?_)))
  refine am_if_eq (tgt := 17) dc_Sill_readFrom_6 (by decide) (fun c4 => ?_) (fun c4 => ?_)
  · replace t := t.1 c4
    refine am_blk_ok (c := 7) (ini := false) (by decide) rfl (fun q => by cases q) bk_Sill_readFrom_17_2 _ 20 _ _ _ bk_Sill_readFrom_17_2_ok rfl ?_
    show am_EI m_Sill_readFrom kc ks 20 [.ref a0, .ref a1] [.retAddr 3, .ref a1] h2 Q
    obtain ⟨o5, t⟩ := t
    refine am_callV (M2 := m_Tape_takeWord) (ci := 9) (a := a1) (kc := kc) (ks := ks) (k2c := 0) (k2s := 0) (as := []) [.retAddr 3] dc_Sill_readFrom_20 lk_7_28 im_Tape_takeWord se_Tape_takeWord lm_Tape_takeWord np_Tape_takeWord ⟨Nat.le_of_ble_eq_true rfl, Nat.le_of_ble_eq_true rfl⟩ (fun _ => Nat.le_of_ble_eq_true rfl) (by decide) rfl o5 (am_Ei.end (am_Ei.mono t (fun r7 h6 t => ?_)))
    refine am_if_eq (tgt := 34) dc_Sill_readFrom_23 (by decide) (fun c8 => ?_) (fun c8 => ?_)
    · replace t := t.1 c8
      refine am_blk_ok (c := 7) (ini := false) (by decide) rfl (fun q => by cases q) bk_Sill_readFrom_34_2 _ 37 _ _ _ bk_Sill_readFrom_34_2_ok rfl ?_
      show am_EI m_Sill_readFrom kc ks 37 [.ref a0, .ref a1] [.retAddr 4, .ref a1] h6 Q
      obtain ⟨o9, t⟩ := t
      refine am_callV (M2 := m_Tape_takeWord) (ci := 9) (a := a1) (kc := kc) (ks := ks) (k2c := 0) (k2s := 0) (as := []) [.retAddr 4] dc_Sill_readFrom_37 lk_7_28 im_Tape_takeWord se_Tape_takeWord lm_Tape_takeWord np_Tape_takeWord ⟨Nat.le_of_ble_eq_true rfl, Nat.le_of_ble_eq_true rfl⟩ (fun _ => Nat.le_of_ble_eq_true rfl) (by decide) rfl o9 (am_Ei.end (am_Ei.mono t (fun r11 h10 t => ?_)))
      refine am_if_eq (tgt := 51) dc_Sill_readFrom_40 (by decide) (fun c12 => ?_) (fun c12 => ?_)
      · replace t := t.1 c12
        refine am_blk_ok (c := 7) (ini := false) (by decide) rfl (fun q => by cases q) bk_Sill_readFrom_51_2 _ 54 _ _ _ bk_Sill_readFrom_51_2_ok rfl ?_
        show am_EI m_Sill_readFrom kc ks 54 [.ref a0, .ref a1] [.retAddr 5, .ref a1] h10 Q
        obtain ⟨o13, t⟩ := t
        refine am_callV (M2 := m_Tape_wantWord) (ci := 9) (a := a1) (kc := kc) (ks := ks) (k2c := 0) (k2s := 0) (as := []) [.retAddr 5] dc_Sill_readFrom_54 lk_7_40 im_Tape_wantWord se_Tape_wantWord lm_Tape_wantWord np_Tape_wantWord ⟨Nat.le_of_ble_eq_true rfl, Nat.le_of_ble_eq_true rfl⟩ (fun _ => Nat.le_of_ble_eq_true rfl) (by decide) rfl o13 (am_Ew.end (am_Ew.mono t (fun h14 t => ?_)))
        refine am_blk_ok (c := 7) (ini := false) (by decide) rfl (fun q => by cases q) bk_Sill_readFrom_57_5 _ 64 _ _ _ bk_Sill_readFrom_57_5_ok rfl ?_
        show (am_tg h14 a0 = (7, 5) ∧ am_EI m_Sill_readFrom kc ks 64 [.ref a0, .ref a1] [.ref a1, .ref a0] (am_si h14 a0 1 3) Q)
        obtain ⟨o15, t⟩ := t
        refine ⟨o15, ?_⟩
        obtain ⟨o16, t⟩ := t
        refine am_callV (M2 := m_Tape_wantSize) (ci := 9) (a := a1) (kc := kc) (ks := ks) (k2c := 0) (k2s := 0) (as := [.ref a0]) [] dc_Sill_readFrom_64 lk_7_44 im_Tape_wantSize se_Tape_wantSize lm_Tape_wantSize np_Tape_wantSize ⟨Nat.le_of_ble_eq_true rfl, Nat.le_of_ble_eq_true rfl⟩ (fun _ => Nat.le_of_ble_eq_true rfl) (by decide) rfl o16 (am_Ei.end (am_Ei.mono t (fun r18 h17 t => ?_)))
        refine am_blk_ok (c := 7) (ini := false) (by decide) rfl (fun q => by cases q) bk_Sill_readFrom_67_2 _ 71 _ _ _ bk_Sill_readFrom_67_2_ok rfl ?_
        show (am_tg h17 a0 = (7, 5) ∧ am_EI m_Sill_readFrom kc ks 71 [.ref a0, .ref a1] [.ref a0] (am_si h17 a0 2 r18) Q)
        obtain ⟨o19, t⟩ := t
        refine ⟨o19, ?_⟩
        refine am_callV (M2 := m_Sill_hasTwoNumbers) (ci := 7) (a := a0) (kc := kc) (ks := ks) (k2c := 0) (k2s := 0) (as := []) [] dc_Sill_readFrom_71 lk_7_48 im_Sill_hasTwoNumbers se_Sill_hasTwoNumbers lm_Sill_hasTwoNumbers np_Sill_hasTwoNumbers ⟨Nat.le_of_ble_eq_true rfl, Nat.le_of_ble_eq_true rfl⟩ (fun _ => Nat.le_of_ble_eq_true rfl) (by decide) rfl o19 (am_Ei.end (am_Ei.mono t (fun r21 h20 t => ?_)))
        refine am_if_eq (tgt := 93) dc_Sill_readFrom_74 (by decide) (fun c22 => ?_) (fun c22 => ?_)
        · replace t := t.1 c22
          exact am_vret dc_Sill_readFrom_93 rfl t
        · replace t := t.2 c22
          refine am_blk_ok (c := 7) (ini := false) (by decide) rfl (fun q => by cases q) bk_Sill_readFrom_77_2 _ 79 _ _ _ bk_Sill_readFrom_77_2_ok rfl ?_
          show am_EI m_Sill_readFrom kc ks 79 [.ref a0, .ref a1] [.ref a1, .ref a0] h20 Q
          obtain ⟨o23, t⟩ := t
          refine am_callV (M2 := m_Tape_wantNumber) (ci := 9) (a := a1) (kc := kc) (ks := ks) (k2c := 0) (k2s := 0) (as := [.ref a0]) [] dc_Sill_readFrom_79 lk_7_52 im_Tape_wantNumber se_Tape_wantNumber lm_Tape_wantNumber np_Tape_wantNumber ⟨Nat.le_of_ble_eq_true rfl, Nat.le_of_ble_eq_true rfl⟩ (fun _ => Nat.le_of_ble_eq_true rfl) (by decide) rfl o23 (am_Ei.end (am_Ei.mono t (fun r25 h24 t => ?_)))
          refine am_blk_ok (c := 7) (ini := false) (by decide) rfl (fun q => by cases q) bk_Sill_readFrom_82_3 _ 87 _ _ _ bk_Sill_readFrom_82_3_ok rfl ?_
          show (am_tg h24 a0 = (7, 5) ∧ am_EI m_Sill_readFrom kc ks 87 [.ref a0, .ref a1] [.ref a1, .ref a0] (am_si h24 a0 3 r25) Q)
          obtain ⟨o26, t⟩ := t
          refine ⟨o26, ?_⟩
          obtain ⟨o27, t⟩ := t
          refine am_callV (M2 := m_Tape_wantNumber) (ci := 9) (a := a1) (kc := kc) (ks := ks) (k2c := 0) (k2s := 0) (as := [.ref a0]) [] dc_Sill_readFrom_87 lk_7_52 im_Tape_wantNumber se_Tape_wantNumber lm_Tape_wantNumber np_Tape_wantNumber ⟨Nat.le_of_ble_eq_true rfl, Nat.le_of_ble_eq_true rfl⟩ (fun _ => Nat.le_of_ble_eq_true rfl) (by decide) rfl o27 (am_Ei.end (am_Ei.mono t (fun r29 h28 t => ?_)))
          refine am_blk_ok (c := 7) (ini := false) (by decide) rfl (fun q => by cases q) bk_Sill_readFrom_90_1 _ 93 _ _ _ bk_Sill_readFrom_90_1_ok rfl ?_
          show (am_tg h28 a0 = (7, 5) ∧ am_EI m_Sill_readFrom kc ks 93 [.ref a0, .ref a1] [] (am_si h28 a0 4 r29) Q)
          obtain ⟨o30, t⟩ := t
          refine ⟨o30, ?_⟩
          exact am_vret dc_Sill_readFrom_93 rfl t
      · replace t := t.2 c12
        refine am_blk_ok (c := 7) (ini := false) (by decide) rfl (fun q => by cases q) bk_Sill_readFrom_43_6 _ 64 _ _ _ bk_Sill_readFrom_43_6_ok rfl ?_
        show (am_tg h10 a0 = (7, 5) ∧ am_EI m_Sill_readFrom kc ks 64 [.ref a0, .ref a1] [.ref a1, .ref a0] (am_si h10 a0 1 2) Q)
        obtain ⟨o31, t⟩ := t
        refine ⟨o31, ?_⟩
        obtain ⟨o32, t⟩ := t
        refine am_callV (M2 := m_Tape_wantSize) (ci := 9) (a := a1) (kc := kc) (ks := ks) (k2c := 0) (k2s := 0) (as := [.ref a0]) [] dc_Sill_readFrom_64 lk_7_44 im_Tape_wantSize se_Tape_wantSize lm_Tape_wantSize np_Tape_wantSize ⟨Nat.le_of_ble_eq_true rfl, Nat.le_of_ble_eq_true rfl⟩ (fun _ => Nat.le_of_ble_eq_true rfl) (by decide) rfl o32 (am_Ei.end (am_Ei.mono t (fun r34 h33 t => ?_)))
        refine am_blk_ok (c := 7) (ini := false) (by decide) rfl (fun q => by cases q) bk_Sill_readFrom_67_2 _ 71 _ _ _ bk_Sill_readFrom_67_2_ok rfl ?_
        show (am_tg h33 a0 = (7, 5) ∧ am_EI m_Sill_readFrom kc ks 71 [.ref a0, .ref a1] [.ref a0] (am_si h33 a0 2 r34) Q)
        obtain ⟨o35, t⟩ := t
        refine ⟨o35, ?_⟩
        refine am_callV (M2 := m_Sill_hasTwoNumbers) (ci := 7) (a := a0) (kc := kc) (ks := ks) (k2c := 0) (k2s := 0) (as := []) [] dc_Sill_readFrom_71 lk_7_48 im_Sill_hasTwoNumbers se_Sill_hasTwoNumbers lm_Sill_hasTwoNumbers np_Sill_hasTwoNumbers ⟨Nat.le_of_ble_eq_true rfl, Nat.le_of_ble_eq_true rfl⟩ (fun _ => Nat.le_of_ble_eq_true rfl) (by decide) rfl o35 (am_Ei.end (am_Ei.mono t (fun r37 h36 t => ?_)))
        refine am_if_eq (tgt := 93) dc_Sill_readFrom_74 (by decide) (fun c38 => ?_) (fun c38 => ?_)
        · replace t := t.1 c38
          exact am_vret dc_Sill_readFrom_93 rfl t
        · replace t := t.2 c38
          refine am_blk_ok (c := 7) (ini := false) (by decide) rfl (fun q => by cases q) bk_Sill_readFrom_77_2 _ 79 _ _ _ bk_Sill_readFrom_77_2_ok rfl ?_
          show am_EI m_Sill_readFrom kc ks 79 [.ref a0, .ref a1] [.ref a1, .ref a0] h36 Q
          obtain ⟨o39, t⟩ := t
          refine am_callV (M2 := m_Tape_wantNumber) (ci := 9) (a := a1) (kc := kc) (ks := ks) (k2c := 0) (k2s := 0) (as := [.ref a0]) [] dc_Sill_readFrom_79 lk_7_52 im_Tape_wantNumber se_Tape_wantNumber lm_Tape_wantNumber np_Tape_wantNumber ⟨Nat.le_of_ble_eq_true rfl, Nat.le_of_ble_eq_true rfl⟩ (fun _ => Nat.le_of_ble_eq_true rfl) (by decide) rfl o39 (am_Ei.end (am_Ei.mono t (fun r41 h40 t => ?_)))
          refine am_blk_ok (c := 7) (ini := false) (by decide) rfl (fun q => by cases q) bk_Sill_readFrom_82_3 _ 87 _ _ _ bk_Sill_readFrom_82_3_ok rfl ?_
          show (am_tg h40 a0 = (7, 5) ∧ am_EI m_Sill_readFrom kc ks 87 [.ref a0, .ref a1] [.ref a1, .ref a0] (am_si h40 a0 3 r41) Q)
          obtain ⟨o42, t⟩ := t
          refine ⟨o42, ?_⟩
          obtain ⟨o43, t⟩ := t
          refine am_callV (M2 := m_Tape_wantNumber) (ci := 9) (a := a1) (kc := kc) (ks := ks) (k2c := 0) (k2s := 0) (as := [.ref a0]) [] dc_Sill_readFrom_87 lk_7_52 im_Tape_wantNumber se_Tape_wantNumber lm_Tape_wantNumber np_Tape_wantNumber ⟨Nat.le_of_ble_eq_true rfl, Nat.le_of_ble_eq_true rfl⟩ (fun _ => Nat.le_of_ble_eq_true rfl) (by decide) rfl o43 (am_Ei.end (am_Ei.mono t (fun r45 h44 t => ?_)))
          refine am_blk_ok (c := 7) (ini := false) (by decide) rfl (fun q => by cases q) bk_Sill_readFrom_90_1 _ 93 _ _ _ bk_Sill_readFrom_90_1_ok rfl ?_
          show (am_tg h44 a0 = (7, 5) ∧ am_EI m_Sill_readFrom kc ks 93 [.ref a0, .ref a1] [] (am_si h44 a0 4 r45) Q)
          obtain ⟨o46, t⟩ := t
          refine ⟨o46, ?_⟩
          exact am_vret dc_Sill_readFrom_93 rfl t
    · replace t := t.2 c8
      refine am_blk_ok (c := 7) (ini := false) (by decide) rfl (fun q => by cases q) bk_Sill_readFrom_26_6 _ 64 _ _ _ bk_Sill_readFrom_26_6_ok rfl ?_
      show (am_tg h6 a0 = (7, 5) ∧ am_EI m_Sill_readFrom kc ks 64 [.ref a0, .ref a1] [.ref a1, .ref a0] (am_si h6 a0 1 1) Q)
      obtain ⟨o47, t⟩ := t
      refine ⟨o47, ?_⟩
      obtain ⟨o48, t⟩ := t
      refine am_callV (M2 := m_Tape_wantSize) (ci := 9) (a := a1) (kc := kc) (ks := ks) (k2c := 0) (k2s := 0) (as := [.ref a0]) [] dc_Sill_readFrom_64 lk_7_44 im_Tape_wantSize se_Tape_wantSize lm_Tape_wantSize np_Tape_wantSize ⟨Nat.le_of_ble_eq_true rfl, Nat.le_of_ble_eq_true rfl⟩ (fun _ => Nat.le_of_ble_eq_true rfl) (by decide) rfl o48 (am_Ei.end (am_Ei.mono t (fun r50 h49 t => ?_)))
      refine am_blk_ok (c := 7) (ini := false) (by decide) rfl (fun q => by cases q) bk_Sill_readFrom_67_2 _ 71 _ _ _ bk_Sill_readFrom_67_2_ok rfl ?_
      show (am_tg h49 a0 = (7, 5) ∧ am_EI m_Sill_readFrom kc ks 71 [.ref a0, .ref a1] [.ref a0] (am_si h49 a0 2 r50) Q)
      obtain ⟨o51, t⟩ := t
      refine ⟨o51, ?_⟩
      refine am_callV (M2 := m_Sill_hasTwoNumbers) (ci := 7) (a := a0) (kc := kc) (ks := ks) (k2c := 0) (k2s := 0) (as := []) [] dc_Sill_readFrom_71 lk_7_48 im_Sill_hasTwoNumbers se_Sill_hasTwoNumbers lm_Sill_hasTwoNumbers np_Sill_hasTwoNumbers ⟨Nat.le_of_ble_eq_true rfl, Nat.le_of_ble_eq_true rfl⟩ (fun _ => Nat.le_of_ble_eq_true rfl) (by decide) rfl o51 (am_Ei.end (am_Ei.mono t (fun r53 h52 t => ?_)))
      refine am_if_eq (tgt := 93) dc_Sill_readFrom_74 (by decide) (fun c54 => ?_) (fun c54 => ?_)
      · replace t := t.1 c54
        exact am_vret dc_Sill_readFrom_93 rfl t
      · replace t := t.2 c54
        refine am_blk_ok (c := 7) (ini := false) (by decide) rfl (fun q => by cases q) bk_Sill_readFrom_77_2 _ 79 _ _ _ bk_Sill_readFrom_77_2_ok rfl ?_
        show am_EI m_Sill_readFrom kc ks 79 [.ref a0, .ref a1] [.ref a1, .ref a0] h52 Q
        obtain ⟨o55, t⟩ := t
        refine am_callV (M2 := m_Tape_wantNumber) (ci := 9) (a := a1) (kc := kc) (ks := ks) (k2c := 0) (k2s := 0) (as := [.ref a0]) [] dc_Sill_readFrom_79 lk_7_52 im_Tape_wantNumber se_Tape_wantNumber lm_Tape_wantNumber np_Tape_wantNumber ⟨Nat.le_of_ble_eq_true rfl, Nat.le_of_ble_eq_true rfl⟩ (fun _ => Nat.le_of_ble_eq_true rfl) (by decide) rfl o55 (am_Ei.end (am_Ei.mono t (fun r57 h56 t => ?_)))
        refine am_blk_ok (c := 7) (ini := false) (by decide) rfl (fun q => by cases q) bk_Sill_readFrom_82_3 _ 87 _ _ _ bk_Sill_readFrom_82_3_ok rfl ?_
        show (am_tg h56 a0 = (7, 5) ∧ am_EI m_Sill_readFrom kc ks 87 [.ref a0, .ref a1] [.ref a1, .ref a0] (am_si h56 a0 3 r57) Q)
        obtain ⟨o58, t⟩ := t
        refine ⟨o58, ?_⟩
        obtain ⟨o59, t⟩ := t
        refine am_callV (M2 := m_Tape_wantNumber) (ci := 9) (a := a1) (kc := kc) (ks := ks) (k2c := 0) (k2s := 0) (as := [.ref a0]) [] dc_Sill_readFrom_87 lk_7_52 im_Tape_wantNumber se_Tape_wantNumber lm_Tape_wantNumber np_Tape_wantNumber ⟨Nat.le_of_ble_eq_true rfl, Nat.le_of_ble_eq_true rfl⟩ (fun _ => Nat.le_of_ble_eq_true rfl) (by decide) rfl o59 (am_Ei.end (am_Ei.mono t (fun r61 h60 t => ?_)))
        refine am_blk_ok (c := 7) (ini := false) (by decide) rfl (fun q => by cases q) bk_Sill_readFrom_90_1 _ 93 _ _ _ bk_Sill_readFrom_90_1_ok rfl ?_
        show (am_tg h60 a0 = (7, 5) ∧ am_EI m_Sill_readFrom kc ks 93 [.ref a0, .ref a1] [] (am_si h60 a0 4 r61) Q)
        obtain ⟨o62, t⟩ := t
        refine ⟨o62, ?_⟩
        exact am_vret dc_Sill_readFrom_93 rfl t
  · replace t := t.2 c4
    refine am_blk_ok (c := 7) (ini := false) (by decide) rfl (fun q => by cases q) bk_Sill_readFrom_9_6 _ 64 _ _ _ bk_Sill_readFrom_9_6_ok rfl ?_
    show (am_tg h2 a0 = (7, 5) ∧ am_EI m_Sill_readFrom kc ks 64 [.ref a0, .ref a1] [.ref a1, .ref a0] (am_si h2 a0 1 0) Q)
    obtain ⟨o63, t⟩ := t
    refine ⟨o63, ?_⟩
    obtain ⟨o64, t⟩ := t
    refine am_callV (M2 := m_Tape_wantSize) (ci := 9) (a := a1) (kc := kc) (ks := ks) (k2c := 0) (k2s := 0) (as := [.ref a0]) [] dc_Sill_readFrom_64 lk_7_44 im_Tape_wantSize se_Tape_wantSize lm_Tape_wantSize np_Tape_wantSize ⟨Nat.le_of_ble_eq_true rfl, Nat.le_of_ble_eq_true rfl⟩ (fun _ => Nat.le_of_ble_eq_true rfl) (by decide) rfl o64 (am_Ei.end (am_Ei.mono t (fun r66 h65 t => ?_)))
    refine am_blk_ok (c := 7) (ini := false) (by decide) rfl (fun q => by cases q) bk_Sill_readFrom_67_2 _ 71 _ _ _ bk_Sill_readFrom_67_2_ok rfl ?_
    show (am_tg h65 a0 = (7, 5) ∧ am_EI m_Sill_readFrom kc ks 71 [.ref a0, .ref a1] [.ref a0] (am_si h65 a0 2 r66) Q)
    obtain ⟨o67, t⟩ := t
    refine ⟨o67, ?_⟩
    refine am_callV (M2 := m_Sill_hasTwoNumbers) (ci := 7) (a := a0) (kc := kc) (ks := ks) (k2c := 0) (k2s := 0) (as := []) [] dc_Sill_readFrom_71 lk_7_48 im_Sill_hasTwoNumbers se_Sill_hasTwoNumbers lm_Sill_hasTwoNumbers np_Sill_hasTwoNumbers ⟨Nat.le_of_ble_eq_true rfl, Nat.le_of_ble_eq_true rfl⟩ (fun _ => Nat.le_of_ble_eq_true rfl) (by decide) rfl o67 (am_Ei.end (am_Ei.mono t (fun r69 h68 t => ?_)))
    refine am_if_eq (tgt := 93) dc_Sill_readFrom_74 (by decide) (fun c70 => ?_) (fun c70 => ?_)
    · replace t := t.1 c70
      exact am_vret dc_Sill_readFrom_93 rfl t
    · replace t := t.2 c70
      refine am_blk_ok (c := 7) (ini := false) (by decide) rfl (fun q => by cases q) bk_Sill_readFrom_77_2 _ 79 _ _ _ bk_Sill_readFrom_77_2_ok rfl ?_
      show am_EI m_Sill_readFrom kc ks 79 [.ref a0, .ref a1] [.ref a1, .ref a0] h68 Q
      obtain ⟨o71, t⟩ := t
      refine am_callV (M2 := m_Tape_wantNumber) (ci := 9) (a := a1) (kc := kc) (ks := ks) (k2c := 0) (k2s := 0) (as := [.ref a0]) [] dc_Sill_readFrom_79 lk_7_52 im_Tape_wantNumber se_Tape_wantNumber lm_Tape_wantNumber np_Tape_wantNumber ⟨Nat.le_of_ble_eq_true rfl, Nat.le_of_ble_eq_true rfl⟩ (fun _ => Nat.le_of_ble_eq_true rfl) (by decide) rfl o71 (am_Ei.end (am_Ei.mono t (fun r73 h72 t => ?_)))
      refine am_blk_ok (c := 7) (ini := false) (by decide) rfl (fun q => by cases q) bk_Sill_readFrom_82_3 _ 87 _ _ _ bk_Sill_readFrom_82_3_ok rfl ?_
      show (am_tg h72 a0 = (7, 5) ∧ am_EI m_Sill_readFrom kc ks 87 [.ref a0, .ref a1] [.ref a1, .ref a0] (am_si h72 a0 3 r73) Q)
      obtain ⟨o74, t⟩ := t
      refine ⟨o74, ?_⟩
      obtain ⟨o75, t⟩ := t
      refine am_callV (M2 := m_Tape_wantNumber) (ci := 9) (a := a1) (kc := kc) (ks := ks) (k2c := 0) (k2s := 0) (as := [.ref a0]) [] dc_Sill_readFrom_87 lk_7_52 im_Tape_wantNumber se_Tape_wantNumber lm_Tape_wantNumber np_Tape_wantNumber ⟨Nat.le_of_ble_eq_true rfl, Nat.le_of_ble_eq_true rfl⟩ (fun _ => Nat.le_of_ble_eq_true rfl) (by decide) rfl o75 (am_Ei.end (am_Ei.mono t (fun r77 h76 t => ?_)))
      refine am_blk_ok (c := 7) (ini := false) (by decide) rfl (fun q => by cases q) bk_Sill_readFrom_90_1 _ 93 _ _ _ bk_Sill_readFrom_90_1_ok rfl ?_
      show (am_tg h76 a0 = (7, 5) ∧ am_EI m_Sill_readFrom kc ks 93 [.ref a0, .ref a1] [] (am_si h76 a0 4 r77) Q)
      obtain ⟨o78, t⟩ := t
      refine ⟨o78, ?_⟩
      exact am_vret dc_Sill_readFrom_93 rfl t
set_option maxRecDepth 20000 in
theorem ev_Sill_readFrom (a0 a1 : Nat) (h : am_H) (Q : am_H → Prop) (t : (am_tg h a1 = (9, 4) ∧ (am_Ei m_Tape_takeWord 0 0 [.ref a1, .retAddr 2] h (fun r3 h2 => ((r3 = 0 → (am_tg h2 a1 = (9, 4) ∧ (am_Ei m_Tape_takeWord 0 0 [.ref a1, .retAddr 3] h2 (fun r7 h6 => ((r7 = 0 → (am_tg h6 a1 = (9, 4) ∧ (am_Ei m_Tape_takeWord 0 0 [.ref a1, .retAddr 4] h6 (fun r11 h10 => ((r11 = 0 → (am_tg h10 a1 = (9, 4) ∧ (am_Ew m_Tape_wantWord 0 0 [.ref a1, .retAddr 5] h10 (fun h14 => (am_tg h14 a0 = (7, 5) ∧ (am_tg h14 a1 = (9, 4) ∧ (am_Ei m_Tape_wantSize 0 0 [.ref a1] (am_si h14 a0 1 3) (fun r18 h17 => (am_tg h17 a0 = (7, 5) ∧ (am_Ei m_Sill_hasTwoNumbers 0 0 [.ref a0] (am_si h17 a0 2 r18) (fun r21 h20 => ((r21 = 0 → Q h20) ∧ (¬ r21 = 0 → (am_tg h20 a1 = (9, 4) ∧ (am_Ei m_Tape_wantNumber 0 0 [.ref a1] h20 (fun r25 h24 => (am_tg h24 a0 = (7, 5) ∧ (am_tg h24 a1 = (9, 4) ∧ (am_Ei m_Tape_wantNumber 0 0 [.ref a1] (am_si h24 a0 3 r25) (fun r29 h28 => (am_tg h28 a0 = (7, 5) ∧ Q (am_si h28 a0 4 r29)))))))))))))))))))))) ∧ (¬ r11 = 0 → (am_tg h10 a0 = (7, 5) ∧ (am_tg h10 a1 = (9, 4) ∧ (am_Ei m_Tape_wantSize 0 0 [.ref a1] (am_si h10 a0 1 2) (fun r34 h33 => (am_tg h33 a0 = (7, 5) ∧ (am_Ei m_Sill_hasTwoNumbers 0 0 [.ref a0] (am_si h33 a0 2 r34) (fun r37 h36 => ((r37 = 0 → Q h36) ∧ (¬ r37 = 0 → (am_tg h36 a1 = (9, 4) ∧ (am_Ei m_Tape_wantNumber 0 0 [.ref a1] h36 (fun r41 h40 => (am_tg h40 a0 = (7, 5) ∧ (am_tg h40 a1 = (9, 4) ∧ (am_Ei m_Tape_wantNumber 0 0 [.ref a1] (am_si h40 a0 3 r41) (fun r45 h44 => (am_tg h44 a0 = (7, 5) ∧ Q (am_si h44 a0 4 r45)))))))))))))))))))))))) ∧ (¬ r7 = 0 → (am_tg h6 a0 = (7, 5) ∧ (am_tg h6 a1 = (9, 4) ∧ (am_Ei m_Tape_wantSize 0 0 [.ref a1] (am_si h6 a0 1 1) (fun r50 h49 => (am_tg h49 a0 = (7, 5) ∧ (am_Ei m_Sill_hasTwoNumbers 0 0 [.ref a0] (am_si h49 a0 2 r50) (fun r53 h52 => ((r53 = 0 → Q h52) ∧ (¬ r53 = 0 → (am_tg h52 a1 = (9, 4) ∧ (am_Ei m_Tape_wantNumber 0 0 [.ref a1] h52 (fun r57 h56 => (am_tg h56 a0 = (7, 5) ∧ (am_tg h56 a1 = (9, 4) ∧ (am_Ei m_Tape_wantNumber 0 0 [.ref a1] (am_si h56 a0 3 r57) (fun r61 h60 => (am_tg h60 a0 = (7, 5) ∧ Q (am_si h60 a0 4 r61)))))))))))))))))))))))) ∧ (¬ r3 = 0 → (am_tg h2 a0 = (7, 5) ∧ (am_tg h2 a1 = (9, 4) ∧ (am_Ei m_Tape_wantSize 0 0 [.ref a1] (am_si h2 a0 1 0) (fun r66 h65 => (am_tg h65 a0 = (7, 5) ∧ (am_Ei m_Sill_hasTwoNumbers 0 0 [.ref a0] (am_si h65 a0 2 r66) (fun r69 h68 => ((r69 = 0 → Q h68) ∧ (¬ r69 = 0 → (am_tg h68 a1 = (9, 4) ∧ (am_Ei m_Tape_wantNumber 0 0 [.ref a1] h68 (fun r73 h72 => (am_tg h72 a0 = (7, 5) ∧ (am_tg h72 a1 = (9, 4) ∧ (am_Ei m_Tape_wantNumber 0 0 [.ref a1] (am_si h72 a0 3 r73) (fun r77 h76 => (am_tg h76 a0 = (7, 5) ∧ Q (am_si h76 a0 4 r77)))))))))))))))))))))))) : am_Ew m_Sill_readFrom 0 0 [.ref a0, .ref a1] h Q :=
  am_Ev.of (by decide +kernel) (Nat.le_of_ble_eq_true rfl) (by simp only [List.mem_cons, List.not_mem_nil, or_false]; intro v hv; rcases hv with rfl | rfl; all_goals first | exact trivial) (sg_Sill_readFrom_0 (kc := 0) (ks := 0) a0 a1 h (am_qw Q) t)
def bk_Sill_two_0_2 : List am_E := [(0, .aload_n 0, 1, 0, 0), (1, .getfield 19, 3, 2816, 0)]
theorem bk_Sill_two_0_2_ok : bk_Sill_two_0_2.all (am_ok 7 false m_Sill_two.2.1) = true := by decide +kernel
theorem dc_Sill_two_4 : decode m_Sill_two.2.1 4 = .ok (.ireturn, 1) := by decide +kernel
set_option maxRecDepth 20000 in
theorem sg_Sill_two_0 {kc ks : Nat} (a0 : Nat) (h : am_H) (Q : Option Value → am_H → Prop) (t : (am_tg h a0 = (7, 5) ∧ Q (some (.int (am_I h a0 4))) h)) : am_EI m_Sill_two kc ks 0 [.ref a0] [] h Q := by
  refine am_blk_ok (c := 7) (ini := false) (by decide) rfl (fun q => by cases q) bk_Sill_two_0_2 _ 4 _ _ _ bk_Sill_two_0_2_ok rfl ?_
  show (am_tg h a0 = (7, 5) ∧ am_EI m_Sill_two kc ks 4 [.ref a0] [.int (am_I h a0 4)] h Q)
  obtain ⟨o1, t⟩ := t
  refine ⟨o1, ?_⟩
  exact am_iret dc_Sill_two_4 rfl t
set_option maxRecDepth 20000 in
theorem ev_Sill_two (a0 : Nat) (h : am_H) (Q : Int32 → am_H → Prop) (t : (am_tg h a0 = (7, 5) ∧ Q (am_I h a0 4) h)) : am_Ei m_Sill_two 0 0 [.ref a0] h Q :=
  am_Ev.of (by decide +kernel) (Nat.le_of_ble_eq_true rfl) (by simp only [List.mem_cons, List.not_mem_nil, or_false]; intro v hv; rcases hv with rfl; all_goals first | exact trivial) (sg_Sill_two_0 (kc := 0) (ks := 0) a0 h (am_qi Q) t)
