def bk_Page_writePortN_0_4 : List am_E := [(0, .aload_n 0, 1, 0, 0), (1, .iconst 0, 1, 0, 0), (2, .putfield 13, 3, 4, 0), (5, .aload_n 1, 1, 0, 0)]
theorem bk_Page_writePortN_0_4_ok : bk_Page_writePortN_0_4.all (am_ok 0 false m_Page_writePort.2.1) = true := by decide +kernel
theorem dc_Page_writePortN_6 : decode m_Page_writePort.2.1 6 = .ok (.ifnonnull 4, 3) := by decide +kernel
theorem dc_Page_writePortN_9 : decode m_Page_writePort.2.1 9 = .ok (.return_, 1) := by decide +kernel
set_option maxRecDepth 20000 in
theorem sg_Page_writePortN_0 {kc ks : Nat} (a0 : Nat) (h : am_H) (Q : Option Value → am_H → Prop) (t : (am_tg h a0 = (0, 2) ∧ Q none (am_si h a0 1 0))) : am_EI m_Page_writePort kc ks 0 [.ref a0, .null, .float 0] [] h Q := by
  refine am_blk_ok (c := 0) (ini := false) (by decide) rfl (fun q => by cases q) bk_Page_writePortN_0_4 _ 6 _ _ _ bk_Page_writePortN_0_4_ok rfl ?_
  show (am_tg h a0 = (0, 2) ∧ am_EI m_Page_writePort kc ks 6 [.ref a0, .null, .float 0] [.null] (am_si h a0 1 0) Q)
  obtain ⟨o1, t⟩ := t
  refine ⟨o1, ?_⟩
  refine am_ifnonnullN dc_Page_writePortN_6 ?_
  exact am_vret dc_Page_writePortN_9 rfl t
set_option maxRecDepth 20000 in
theorem ev_Page_writePortN (a0 : Nat) (h : am_H) (Q : am_H → Prop) (t : (am_tg h a0 = (0, 2) ∧ Q (am_si h a0 1 0))) : am_Ew m_Page_writePort 0 0 [.ref a0, .null] h Q :=
  am_Ev.of (by decide +kernel) (Nat.le_of_ble_eq_true rfl) (by simp only [List.mem_cons, List.not_mem_nil, or_false]; intro v hv; rcases hv with rfl | rfl; all_goals first | exact trivial) (sg_Page_writePortN_0 (kc := 0) (ks := 0) a0 h (am_qw Q) t)
def bk_Page_writeSillN_0_4 : List am_E := [(0, .aload_n 0, 1, 0, 0), (1, .iconst 0, 1, 0, 0), (2, .putfield 13, 3, 4, 0), (5, .aload_n 1, 1, 0, 0)]
theorem bk_Page_writeSillN_0_4_ok : bk_Page_writeSillN_0_4.all (am_ok 0 false m_Page_writeSill.2.1) = true := by decide +kernel
theorem dc_Page_writeSillN_6 : decode m_Page_writeSill.2.1 6 = .ok (.ifnonnull 4, 3) := by decide +kernel
theorem dc_Page_writeSillN_9 : decode m_Page_writeSill.2.1 9 = .ok (.return_, 1) := by decide +kernel
set_option maxRecDepth 20000 in
theorem sg_Page_writeSillN_0 {kc ks : Nat} (a0 : Nat) (h : am_H) (Q : Option Value → am_H → Prop) (t : (am_tg h a0 = (0, 2) ∧ Q none (am_si h a0 1 0))) : am_EI m_Page_writeSill kc ks 0 [.ref a0, .null] [] h Q := by
  refine am_blk_ok (c := 0) (ini := false) (by decide) rfl (fun q => by cases q) bk_Page_writeSillN_0_4 _ 6 _ _ _ bk_Page_writeSillN_0_4_ok rfl ?_
  show (am_tg h a0 = (0, 2) ∧ am_EI m_Page_writeSill kc ks 6 [.ref a0, .null] [.null] (am_si h a0 1 0) Q)
  obtain ⟨o1, t⟩ := t
  refine ⟨o1, ?_⟩
  refine am_ifnonnullN dc_Page_writeSillN_6 ?_
  exact am_vret dc_Page_writeSillN_9 rfl t
set_option maxRecDepth 20000 in
theorem ev_Page_writeSillN (a0 : Nat) (h : am_H) (Q : am_H → Prop) (t : (am_tg h a0 = (0, 2) ∧ Q (am_si h a0 1 0))) : am_Ew m_Page_writeSill 0 0 [.ref a0, .null] h Q :=
  am_Ev.of (by decide +kernel) (Nat.le_of_ble_eq_true rfl) (by simp only [List.mem_cons, List.not_mem_nil, or_false]; intro v hv; rcases hv with rfl | rfl; all_goals first | exact trivial) (sg_Page_writeSillN_0 (kc := 0) (ks := 0) a0 h (am_qw Q) t)
def bk_Page_writeShipN_0_4 : List am_E := [(0, .aload_n 0, 1, 0, 0), (1, .iconst 0, 1, 0, 0), (2, .putfield 13, 3, 4, 0), (5, .aload_n 1, 1, 0, 0)]
theorem bk_Page_writeShipN_0_4_ok : bk_Page_writeShipN_0_4.all (am_ok 0 false m_Page_writeShip.2.1) = true := by decide +kernel
theorem dc_Page_writeShipN_6 : decode m_Page_writeShip.2.1 6 = .ok (.ifnonnull 4, 3) := by decide +kernel
theorem dc_Page_writeShipN_9 : decode m_Page_writeShip.2.1 9 = .ok (.return_, 1) := by decide +kernel
set_option maxRecDepth 20000 in
theorem sg_Page_writeShipN_0 {kc ks : Nat} (a0 : Nat) (h : am_H) (Q : Option Value → am_H → Prop) (t : (am_tg h a0 = (0, 2) ∧ Q none (am_si h a0 1 0))) : am_EI m_Page_writeShip kc ks 0 [.ref a0, .null] [] h Q := by
  refine am_blk_ok (c := 0) (ini := false) (by decide) rfl (fun q => by cases q) bk_Page_writeShipN_0_4 _ 6 _ _ _ bk_Page_writeShipN_0_4_ok rfl ?_
  show (am_tg h a0 = (0, 2) ∧ am_EI m_Page_writeShip kc ks 6 [.ref a0, .null] [.null] (am_si h a0 1 0) Q)
  obtain ⟨o1, t⟩ := t
  refine ⟨o1, ?_⟩
  refine am_ifnonnullN dc_Page_writeShipN_6 ?_
  exact am_vret dc_Page_writeShipN_9 rfl t
set_option maxRecDepth 20000 in
theorem ev_Page_writeShipN (a0 : Nat) (h : am_H) (Q : am_H → Prop) (t : (am_tg h a0 = (0, 2) ∧ Q (am_si h a0 1 0))) : am_Ew m_Page_writeShip 0 0 [.ref a0, .null] h Q :=
  am_Ev.of (by decide +kernel) (Nat.le_of_ble_eq_true rfl) (by simp only [List.mem_cons, List.not_mem_nil, or_false]; intro v hv; rcases hv with rfl | rfl; all_goals first | exact trivial) (sg_Page_writeShipN_0 (kc := 0) (ks := 0) a0 h (am_qw Q) t)
def bk_Page_writeRouteN_0_4 : List am_E := [(0, .aload_n 0, 1, 0, 0), (1, .iconst 0, 1, 0, 0), (2, .putfield 13, 3, 4, 0), (5, .aload_n 1, 1, 0, 0)]
theorem bk_Page_writeRouteN_0_4_ok : bk_Page_writeRouteN_0_4.all (am_ok 0 false m_Page_writeRoute.2.1) = true := by decide +kernel
theorem dc_Page_writeRouteN_6 : decode m_Page_writeRoute.2.1 6 = .ok (.ifnonnull 4, 3) := by decide +kernel
theorem dc_Page_writeRouteN_9 : decode m_Page_writeRoute.2.1 9 = .ok (.return_, 1) := by decide +kernel
set_option maxRecDepth 20000 in
theorem sg_Page_writeRouteN_0 {kc ks : Nat} (a0 : Nat) (h : am_H) (Q : Option Value → am_H → Prop) (t : (am_tg h a0 = (0, 2) ∧ Q none (am_si h a0 1 0))) : am_EI m_Page_writeRoute kc ks 0 [.ref a0, .null, .float 0] [] h Q := by
  refine am_blk_ok (c := 0) (ini := false) (by decide) rfl (fun q => by cases q) bk_Page_writeRouteN_0_4 _ 6 _ _ _ bk_Page_writeRouteN_0_4_ok rfl ?_
  show (am_tg h a0 = (0, 2) ∧ am_EI m_Page_writeRoute kc ks 6 [.ref a0, .null, .float 0] [.null] (am_si h a0 1 0) Q)
  obtain ⟨o1, t⟩ := t
  refine ⟨o1, ?_⟩
  refine am_ifnonnullN dc_Page_writeRouteN_6 ?_
  exact am_vret dc_Page_writeRouteN_9 rfl t
set_option maxRecDepth 20000 in
theorem ev_Page_writeRouteN (a0 : Nat) (h : am_H) (Q : am_H → Prop) (t : (am_tg h a0 = (0, 2) ∧ Q (am_si h a0 1 0))) : am_Ew m_Page_writeRoute 0 0 [.ref a0, .null] h Q :=
  am_Ev.of (by decide +kernel) (Nat.le_of_ble_eq_true rfl) (by simp only [List.mem_cons, List.not_mem_nil, or_false]; intro v hv; rcases hv with rfl | rfl; all_goals first | exact trivial) (sg_Page_writeRouteN_0 (kc := 0) (ks := 0) a0 h (am_qw Q) t)
