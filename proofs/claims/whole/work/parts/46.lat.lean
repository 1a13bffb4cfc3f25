def bk_Lat_charAt_0_3 : List am_E := [(0, .iload_n 1, 1, 0, 0), (1, .aload_n 0, 1, 0, 0), (2, .arraylength, 1, 0, 0)]
theorem bk_Lat_charAt_0_3_ok : bk_Lat_charAt_0_3.all (am_ok 16 false m_Lat_charAt.2.1) = true := by decide +kernel
def bk_Lat_charAt_6_6 : List am_E := [(6, .aload_n 0, 1, 0, 0), (7, .iload_n 1, 1, 0, 0), (8, .baload, 1, 0, 0), (9, .sipush 255, 3, 0, 255), (12, .iand, 1, 0, 0), (13, .i2c, 1, 0, 0)]
theorem bk_Lat_charAt_6_6_ok : bk_Lat_charAt_6_6.all (am_ok 16 false m_Lat_charAt.2.1) = true := by decide +kernel
theorem dc_Lat_charAt_3 : decode m_Lat_charAt.2.1 3 = .ok (.invokestatic 9, 3) := by decide +kernel
theorem dc_Lat_charAt_14 : decode m_Lat_charAt.2.1 14 = .ok (.ireturn, 1) := by decide +kernel
set_option maxRecDepth 20000 in
theorem sg_Lat_charAt_0 {kc ks : Nat} (j0 : Nat) (x1 : Int32) (h : am_H) (Q : Option Value → am_H → Prop) (t : (am_isC j0 = true ∧ ((j0 = 200 ∨ j0 = 201 ∨ (100 ≤ j0 ∧ j0 < 130)) ∧ (am_Ew m_Str_checkIndex 0 0 [.int x1, .int (Int32.ofNat (am_cb j0).length)] h (fun h3 => (am_isC j0 = true ∧ ((100 ≤ j0 ∧ j0 < 130) ∧ (vp_in x1 (am_cb j0).length ∧ (narrow .char (.int (((((am_cb j0).getD x1.toNatClampNeg 0) &&& 255).toUInt32 % 65536).toInt32)) = .int (((((am_cb j0).getD x1.toNatClampNeg 0) &&& 255).toUInt32 % 65536).toInt32) ∧ Q (some (.int (((((am_cb j0).getD x1.toNatClampNeg 0) &&& 255).toUInt32 % 65536).toInt32))) h3))))))))) : am_EI m_Lat_charAt kc ks 0 [.retAddr j0, .int x1] [] h Q := by
  refine am_blk_ok (c := 16) (ini := false) (by decide) rfl (fun q => by cases q) bk_Lat_charAt_0_3 _ 3 _ _ _ bk_Lat_charAt_0_3_ok rfl ?_
  show (am_isC j0 = true ∧ ((j0 = 200 ∨ j0 = 201 ∨ (100 ≤ j0 ∧ j0 < 130)) ∧ am_EI m_Lat_charAt kc ks 3 [.retAddr j0, .int x1] [.int (Int32.ofNat (am_cb j0).length), .int x1] h Q))
  obtain ⟨o1, o2, t⟩ := t
  refine ⟨o1, o2, ?_⟩
  refine am_callS (M2 := m_Str_checkIndex) (kc := kc) (ks := ks) (k2c := 0) (k2s := 0) (as := []) [.int x1, .int (Int32.ofNat (am_cb j0).length)] dc_Lat_charAt_3 lk_16_9 st_Str_checkIndex lm_Str_checkIndex np_Str_checkIndex ⟨Nat.le_of_ble_eq_true rfl, Nat.le_of_ble_eq_true rfl⟩ (fun _ => Nat.le_of_ble_eq_true rfl) (am_Ew.end (am_Ew.mono t (fun h3 t => ?_)))
  refine am_blk_ok (c := 16) (ini := false) (by decide) rfl (fun q => by cases q) bk_Lat_charAt_6_6 _ 14 _ _ _ bk_Lat_charAt_6_6_ok rfl ?_
  show (am_isC j0 = true ∧ ((100 ≤ j0 ∧ j0 < 130) ∧ (vp_in x1 (am_cb j0).length ∧ am_EI m_Lat_charAt kc ks 14 [.retAddr j0, .int x1] [.int (((((am_cb j0).getD x1.toNatClampNeg 0) &&& 255).toUInt32 % 65536).toInt32)] h3 Q)))
  obtain ⟨o4, o5, o6, t⟩ := t
  refine ⟨o4, o5, o6, ?_⟩
  exact am_nret dc_Lat_charAt_14 rfl t.1 t.2
set_option maxRecDepth 20000 in
theorem ev_Lat_charAt (j0 : Nat) (x1 : Int32) (h : am_H) (Q : Int32 → am_H → Prop) (hc_j0 : am_arg (.retAddr j0)) (t : (am_isC j0 = true ∧ ((j0 = 200 ∨ j0 = 201 ∨ (100 ≤ j0 ∧ j0 < 130)) ∧ (am_Ew m_Str_checkIndex 0 0 [.int x1, .int (Int32.ofNat (am_cb j0).length)] h (fun h3 => (am_isC j0 = true ∧ ((100 ≤ j0 ∧ j0 < 130) ∧ (vp_in x1 (am_cb j0).length ∧ (narrow .char (.int (((((am_cb j0).getD x1.toNatClampNeg 0) &&& 255).toUInt32 % 65536).toInt32)) = .int (((((am_cb j0).getD x1.toNatClampNeg 0) &&& 255).toUInt32 % 65536).toInt32) ∧ Q (((((am_cb j0).getD x1.toNatClampNeg 0) &&& 255).toUInt32 % 65536).toInt32) h3))))))))) : am_Ei m_Lat_charAt 0 0 [.retAddr j0, .int x1] h Q :=
  am_Ev.of (by decide +kernel) (Nat.le_of_ble_eq_true rfl) (by simp only [List.mem_cons, List.not_mem_nil, or_false]; intro v hv; rcases hv with rfl | rfl; all_goals first | exact trivial | exact hc_j0) (sg_Lat_charAt_0 (kc := 0) (ks := 0) j0 x1 h (am_qi Q) t)
