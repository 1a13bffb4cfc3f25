/-! the law's cases -/
theorem ok_feed : lw_okC 172 5 13 17 = true := by decide +kernel
theorem lc_feed {X : lw_X} {kc ks i : Nat} {h : am_H} {b L : Nat} {xs : Nat → Int32} {st : St} (C : lw_C X m_Law) (S : lw_S X b L xs) (hi : i + 5 < L) (hL : L ≤ 3072) (mm : mnA h st) (rr : rfA h st) (next : ∀ h' st', mnA h' st' → rfA h' st' → lw_E X m_Law kc ks 1185 (lw_al i) [] h') : lw_E X m_Law (kc + 6) (ks + 53) 172 (lw_al i) [] h := by
  have hz : 146 ≤ am_sz h := mm.2.2.2.2.2.2.2.2.2.1
  refine lw_E.room (kc := kc + 0) (ks := ks + 0) (by omega) (by omega) (lw_case (n := 5) C S hi hL (by decide) ok_feed ⟨lk_13_13, im_Main_feed, se_Main_feed, lm_Main_feed, np_Main_feed, ⟨Nat.le_of_ble_eq_true rfl, Nat.le_of_ble_eq_true rfl⟩, rfl⟩ ⟨lk_13_17, im_Ref_feed, se_Ref_feed, lm_Ref_feed, np_Ref_feed, ⟨Nat.le_of_ble_eq_true rfl, Nat.le_of_ble_eq_true rfl⟩, rfl⟩ mm.1.1 ?_)
  show am_Ei m_Main_feed 0 0 [.ref 0, .int (xs (i + 1 + 0)), .int (xs (i + 1 + 1)), .int (xs (i + 1 + 2)), .int (xs (i + 1 + 3)), .int (xs (i + 1 + 4))] h (fun r h1 => am_tg h1 87 = (12, 56) ∧ am_Ei m_Ref_feed 0 0 [.ref 87, .int (xs (i + 1 + 0)), .int (xs (i + 1 + 1)), .int (xs (i + 1 + 2)), .int (xs (i + 1 + 3)), .int (xs (i + 1 + 4))] h1 (fun r2 h2 => r = r2 ∧ lw_E X m_Law kc ks 1185 (lw_al i) [] h2))
  exact s_Main_feed mm (fun h1 f1 m1 => ⟨(rr.fc f1 hz).1.1, rf_feed (rr.fc f1 hz) (fun h2 f2 r2 => ⟨rfl, next h2 _ (m1.ref f2 (by omega) (by omega)) r2⟩)⟩)
theorem ok_end : lw_okC 235 1 18 22 = true := by decide +kernel
theorem lc_end {X : lw_X} {kc ks i : Nat} {h : am_H} {b L : Nat} {xs : Nat → Int32} {st : St} (C : lw_C X m_Law) (S : lw_S X b L xs) (hi : i + 5 < L) (hL : L ≤ 3072) (mm : mnA h st) (rr : rfA h st) (next : ∀ h' st', mnA h' st' → rfA h' st' → lw_E X m_Law kc ks 1185 (lw_al i) [] h') : lw_E X m_Law (kc + 6) (ks + 53) 235 (lw_al i) [] h := by
  have hz : 146 ≤ am_sz h := mm.2.2.2.2.2.2.2.2.2.1
  refine lw_E.room (kc := kc + 0) (ks := ks + 0) (by omega) (by omega) (lw_case (n := 1) C S hi hL (by decide) ok_end ⟨lk_13_18, im_Main_end, se_Main_end, lm_Main_end, np_Main_end, ⟨Nat.le_of_ble_eq_true rfl, Nat.le_of_ble_eq_true rfl⟩, rfl⟩ ⟨lk_13_22, im_Ref_end, se_Ref_end, lm_Ref_end, np_Ref_end, ⟨Nat.le_of_ble_eq_true rfl, Nat.le_of_ble_eq_true rfl⟩, rfl⟩ mm.1.1 ?_)
  show am_Ei m_Main_end 0 0 [.ref 0, .int (xs (i + 1 + 0))] h (fun r h1 => am_tg h1 87 = (12, 56) ∧ am_Ei m_Ref_end 0 0 [.ref 87, .int (xs (i + 1 + 0))] h1 (fun r2 h2 => r = r2 ∧ lw_E X m_Law kc ks 1185 (lw_al i) [] h2))
  obtain ⟨y0, e0, b0⟩ := ji_ex (xs (i + 1 + 0))
  rw [e0]
  exact s_Main_end mm b0 (fun h1 f1 m1 => ⟨(rr.fc f1 hz).1.1, rf_end (rr.fc f1 hz) b0 (fun h2 f2 r2 => ⟨rfl, next h2 _ (m1.ref f2 (by omega) (by omega)) r2⟩)⟩)
theorem ok_port : lw_okC 258 0 23 27 = true := by decide +kernel
theorem lc_port {X : lw_X} {kc ks i : Nat} {h : am_H} {b L : Nat} {xs : Nat → Int32} {st : St} (C : lw_C X m_Law) (S : lw_S X b L xs) (hi : i + 5 < L) (hL : L ≤ 3072) (mm : mnA h st) (rr : rfA h st) (next : ∀ h' st', mnA h' st' → rfA h' st' → lw_E X m_Law kc ks 1185 (lw_al i) [] h') : lw_E X m_Law (kc + 6) (ks + 53) 258 (lw_al i) [] h := by
  have hz : 146 ≤ am_sz h := mm.2.2.2.2.2.2.2.2.2.1
  refine lw_E.room (kc := kc + 4) (ks := ks + 53) (by omega) (by omega) (lw_case (n := 0) C S hi hL (by decide) ok_port ⟨lk_13_23, im_Main_port, se_Main_port, lm_Main_port, np_Main_port, ⟨Nat.le_of_ble_eq_true rfl, Nat.le_of_ble_eq_true rfl⟩, rfl⟩ ⟨lk_13_27, im_Ref_port, se_Ref_port, lm_Ref_port, np_Ref_port, ⟨Nat.le_of_ble_eq_true rfl, Nat.le_of_ble_eq_true rfl⟩, rfl⟩ mm.1.1 ?_)
  show am_Ei m_Main_port 4 53 [.ref 0] h (fun r h1 => am_tg h1 87 = (12, 56) ∧ am_Ei m_Ref_port 0 0 [.ref 87] h1 (fun r2 h2 => r = r2 ∧ lw_E X m_Law kc ks 1185 (lw_al i) [] h2))
  exact s_Main_port mm (fun h1 f1 m1 => ⟨(rr.fc f1 hz).1.1, rf_port (rr.fc f1 hz) (fun h2 f2 r2 => ⟨rfl, next h2 _ (m1.ref f2 (by omega) (by omega)) r2⟩)⟩)
theorem ok_longer : lw_okC 271 1 28 31 = true := by decide +kernel
theorem lc_longer {X : lw_X} {kc ks i : Nat} {h : am_H} {b L : Nat} {xs : Nat → Int32} {st : St} (C : lw_C X m_Law) (S : lw_S X b L xs) (hi : i + 5 < L) (hL : L ≤ 3072) (mm : mnA h st) (rr : rfA h st) (next : ∀ h' st', mnA h' st' → rfA h' st' → lw_E X m_Law kc ks 1185 (lw_al i) [] h') : lw_E X m_Law (kc + 6) (ks + 53) 271 (lw_al i) [] h := by
  have hz : 146 ≤ am_sz h := mm.2.2.2.2.2.2.2.2.2.1
  refine lw_E.room (kc := kc + 4) (ks := ks + 53) (by omega) (by omega) (lw_case (n := 1) C S hi hL (by decide) ok_longer ⟨lk_13_28, im_Main_longer, se_Main_longer, lm_Main_longer, np_Main_longer, ⟨Nat.le_of_ble_eq_true rfl, Nat.le_of_ble_eq_true rfl⟩, rfl⟩ ⟨lk_13_31, im_Ref_longer, se_Ref_longer, lm_Ref_longer, np_Ref_longer, ⟨Nat.le_of_ble_eq_true rfl, Nat.le_of_ble_eq_true rfl⟩, rfl⟩ mm.1.1 ?_)
  show am_Ei m_Main_longer 4 53 [.ref 0, .int (xs (i + 1 + 0))] h (fun r h1 => am_tg h1 87 = (12, 56) ∧ am_Ei m_Ref_longer 0 0 [.ref 87, .int (xs (i + 1 + 0))] h1 (fun r2 h2 => r = r2 ∧ lw_E X m_Law kc ks 1185 (lw_al i) [] h2))
  obtain ⟨y0, e0, b0⟩ := ji_ex (xs (i + 1 + 0))
  rw [e0]
  exact s_Main_longer mm b0 (fun h1 f1 m1 => ⟨(rr.fc f1 hz).1.1, rf_longer (rr.fc f1 hz) b0 (fun h2 f2 r2 => ⟨rfl, next h2 _ (m1.ref f2 (by omega) (by omega)) r2⟩)⟩)
theorem ok_second : lw_okC 294 1 32 35 = true := by decide +kernel
theorem lc_second {X : lw_X} {kc ks i : Nat} {h : am_H} {b L : Nat} {xs : Nat → Int32} {st : St} (C : lw_C X m_Law) (S : lw_S X b L xs) (hi : i + 5 < L) (hL : L ≤ 3072) (mm : mnA h st) (rr : rfA h st) (next : ∀ h' st', mnA h' st' → rfA h' st' → lw_E X m_Law kc ks 1185 (lw_al i) [] h') : lw_E X m_Law (kc + 6) (ks + 53) 294 (lw_al i) [] h := by
  have hz : 146 ≤ am_sz h := mm.2.2.2.2.2.2.2.2.2.1
  refine lw_E.room (kc := kc + 4) (ks := ks + 53) (by omega) (by omega) (lw_case (n := 1) C S hi hL (by decide) ok_second ⟨lk_13_32, im_Main_second, se_Main_second, lm_Main_second, np_Main_second, ⟨Nat.le_of_ble_eq_true rfl, Nat.le_of_ble_eq_true rfl⟩, rfl⟩ ⟨lk_13_35, im_Ref_second, se_Ref_second, lm_Ref_second, np_Ref_second, ⟨Nat.le_of_ble_eq_true rfl, Nat.le_of_ble_eq_true rfl⟩, rfl⟩ mm.1.1 ?_)
  show am_Ei m_Main_second 4 53 [.ref 0, .int (xs (i + 1 + 0))] h (fun r h1 => am_tg h1 87 = (12, 56) ∧ am_Ei m_Ref_second 0 0 [.ref 87, .int (xs (i + 1 + 0))] h1 (fun r2 h2 => r = r2 ∧ lw_E X m_Law kc ks 1185 (lw_al i) [] h2))
  obtain ⟨y0, e0, b0⟩ := ji_ex (xs (i + 1 + 0))
  rw [e0]
  exact s_Main_second mm b0 (fun h1 f1 m1 => ⟨(rr.fc f1 hz).1.1, rf_second (rr.fc f1 hz) b0 (fun h2 f2 r2 => ⟨rfl, next h2 _ (m1.ref f2 (by omega) (by omega)) r2⟩)⟩)
theorem ok_sill : lw_okC 317 1 36 39 = true := by decide +kernel
theorem lc_sill {X : lw_X} {kc ks i : Nat} {h : am_H} {b L : Nat} {xs : Nat → Int32} {st : St} (C : lw_C X m_Law) (S : lw_S X b L xs) (hi : i + 5 < L) (hL : L ≤ 3072) (mm : mnA h st) (rr : rfA h st) (next : ∀ h' st', mnA h' st' → rfA h' st' → lw_E X m_Law kc ks 1185 (lw_al i) [] h') : lw_E X m_Law (kc + 6) (ks + 53) 317 (lw_al i) [] h := by
  have hz : 146 ≤ am_sz h := mm.2.2.2.2.2.2.2.2.2.1
  refine lw_E.room (kc := kc + 1) (ks := ks + 5) (by omega) (by omega) (lw_case (n := 1) C S hi hL (by decide) ok_sill ⟨lk_13_36, im_Main_sill, se_Main_sill, lm_Main_sill, np_Main_sill, ⟨Nat.le_of_ble_eq_true rfl, Nat.le_of_ble_eq_true rfl⟩, rfl⟩ ⟨lk_13_39, im_Ref_sill, se_Ref_sill, lm_Ref_sill, np_Ref_sill, ⟨Nat.le_of_ble_eq_true rfl, Nat.le_of_ble_eq_true rfl⟩, rfl⟩ mm.1.1 ?_)
  show am_Ei m_Main_sill 1 5 [.ref 0, .int (xs (i + 1 + 0))] h (fun r h1 => am_tg h1 87 = (12, 56) ∧ am_Ei m_Ref_sill 0 0 [.ref 87, .int (xs (i + 1 + 0))] h1 (fun r2 h2 => r = r2 ∧ lw_E X m_Law kc ks 1185 (lw_al i) [] h2))
  obtain ⟨y0, e0, b0⟩ := ji_ex (xs (i + 1 + 0))
  rw [e0]
  exact s_Main_sill mm b0 (fun h1 f1 m1 => ⟨(rr.fc f1 hz).1.1, rf_sill (rr.fc f1 hz) b0 (fun h2 f2 r2 => ⟨rfl, next h2 _ (m1.ref f2 (by omega) (by omega)) r2⟩)⟩)
theorem ok_ship : lw_okC 340 0 40 43 = true := by decide +kernel
theorem lc_ship {X : lw_X} {kc ks i : Nat} {h : am_H} {b L : Nat} {xs : Nat → Int32} {st : St} (C : lw_C X m_Law) (S : lw_S X b L xs) (hi : i + 5 < L) (hL : L ≤ 3072) (mm : mnA h st) (rr : rfA h st) (next : ∀ h' st', mnA h' st' → rfA h' st' → lw_E X m_Law kc ks 1185 (lw_al i) [] h') : lw_E X m_Law (kc + 6) (ks + 53) 340 (lw_al i) [] h := by
  have hz : 146 ≤ am_sz h := mm.2.2.2.2.2.2.2.2.2.1
  refine lw_E.room (kc := kc + 1) (ks := ks + 3) (by omega) (by omega) (lw_case (n := 0) C S hi hL (by decide) ok_ship ⟨lk_13_40, im_Main_ship, se_Main_ship, lm_Main_ship, np_Main_ship, ⟨Nat.le_of_ble_eq_true rfl, Nat.le_of_ble_eq_true rfl⟩, rfl⟩ ⟨lk_13_43, im_Ref_ship, se_Ref_ship, lm_Ref_ship, np_Ref_ship, ⟨Nat.le_of_ble_eq_true rfl, Nat.le_of_ble_eq_true rfl⟩, rfl⟩ mm.1.1 ?_)
  show am_Ei m_Main_ship 1 3 [.ref 0] h (fun r h1 => am_tg h1 87 = (12, 56) ∧ am_Ei m_Ref_ship 0 0 [.ref 87] h1 (fun r2 h2 => r = r2 ∧ lw_E X m_Law kc ks 1185 (lw_al i) [] h2))
  exact s_Main_ship mm (fun h1 f1 m1 => ⟨(rr.fc f1 hz).1.1, rf_ship (rr.fc f1 hz) (fun h2 f2 r2 => ⟨rfl, next h2 _ (m1.ref f2 (by omega) (by omega)) r2⟩)⟩)
theorem ok_route : lw_okC 353 0 44 47 = true := by decide +kernel
theorem lc_route {X : lw_X} {kc ks i : Nat} {h : am_H} {b L : Nat} {xs : Nat → Int32} {st : St} (C : lw_C X m_Law) (S : lw_S X b L xs) (hi : i + 5 < L) (hL : L ≤ 3072) (mm : mnA h st) (rr : rfA h st) (next : ∀ h' st', mnA h' st' → rfA h' st' → lw_E X m_Law kc ks 1185 (lw_al i) [] h') : lw_E X m_Law (kc + 6) (ks + 53) 353 (lw_al i) [] h := by
  have hz : 146 ≤ am_sz h := mm.2.2.2.2.2.2.2.2.2.1
  refine lw_E.room (kc := kc + 6) (ks := ks + 47) (by omega) (by omega) (lw_case (n := 0) C S hi hL (by decide) ok_route ⟨lk_13_44, im_Main_route, se_Main_route, lm_Main_route, np_Main_route, ⟨Nat.le_of_ble_eq_true rfl, Nat.le_of_ble_eq_true rfl⟩, rfl⟩ ⟨lk_13_47, im_Ref_route, se_Ref_route, lm_Ref_route, np_Ref_route, ⟨Nat.le_of_ble_eq_true rfl, Nat.le_of_ble_eq_true rfl⟩, rfl⟩ mm.1.1 ?_)
  show am_Ei m_Main_route 6 47 [.ref 0] h (fun r h1 => am_tg h1 87 = (12, 56) ∧ am_Ei m_Ref_route 0 0 [.ref 87] h1 (fun r2 h2 => r = r2 ∧ lw_E X m_Law kc ks 1185 (lw_al i) [] h2))
  exact s_Main_route mm (fun h1 f1 m1 => ⟨(rr.fc f1 hz).1.1, rf_route (rr.fc f1 hz) (fun h2 f2 r2 => ⟨rfl, next h2 _ (m1.ref f2 (by omega) (by omega)) r2⟩)⟩)
theorem ok_place : lw_okC 366 0 48 51 = true := by decide +kernel
theorem lc_place {X : lw_X} {kc ks i : Nat} {h : am_H} {b L : Nat} {xs : Nat → Int32} {st : St} (C : lw_C X m_Law) (S : lw_S X b L xs) (hi : i + 5 < L) (hL : L ≤ 3072) (mm : mnA h st) (rr : rfA h st) (next : ∀ h' st', mnA h' st' → rfA h' st' → lw_E X m_Law kc ks 1185 (lw_al i) [] h') : lw_E X m_Law (kc + 6) (ks + 53) 366 (lw_al i) [] h := by
  have hz : 146 ≤ am_sz h := mm.2.2.2.2.2.2.2.2.2.1
  refine lw_E.room (kc := kc + 0) (ks := ks + 0) (by omega) (by omega) (lw_case (n := 0) C S hi hL (by decide) ok_place ⟨lk_13_48, im_Main_place, se_Main_place, lm_Main_place, np_Main_place, ⟨Nat.le_of_ble_eq_true rfl, Nat.le_of_ble_eq_true rfl⟩, rfl⟩ ⟨lk_13_51, im_Ref_place, se_Ref_place, lm_Ref_place, np_Ref_place, ⟨Nat.le_of_ble_eq_true rfl, Nat.le_of_ble_eq_true rfl⟩, rfl⟩ mm.1.1 ?_)
  show am_Ei m_Main_place 0 0 [.ref 0] h (fun r h1 => am_tg h1 87 = (12, 56) ∧ am_Ei m_Ref_place 0 0 [.ref 87] h1 (fun r2 h2 => r = r2 ∧ lw_E X m_Law kc ks 1185 (lw_al i) [] h2))
  exact s_Main_place mm ⟨rr.1.1, rf_place rr ⟨rfl, next h st mm rr⟩⟩
theorem ok_fault : lw_okC 379 0 52 55 = true := by decide +kernel
theorem lc_fault {X : lw_X} {kc ks i : Nat} {h : am_H} {b L : Nat} {xs : Nat → Int32} {st : St} (C : lw_C X m_Law) (S : lw_S X b L xs) (hi : i + 5 < L) (hL : L ≤ 3072) (mm : mnA h st) (rr : rfA h st) (next : ∀ h' st', mnA h' st' → rfA h' st' → lw_E X m_Law kc ks 1185 (lw_al i) [] h') : lw_E X m_Law (kc + 6) (ks + 53) 379 (lw_al i) [] h := by
  have hz : 146 ≤ am_sz h := mm.2.2.2.2.2.2.2.2.2.1
  refine lw_E.room (kc := kc + 0) (ks := ks + 0) (by omega) (by omega) (lw_case (n := 0) C S hi hL (by decide) ok_fault ⟨lk_13_52, im_Main_fault, se_Main_fault, lm_Main_fault, np_Main_fault, ⟨Nat.le_of_ble_eq_true rfl, Nat.le_of_ble_eq_true rfl⟩, rfl⟩ ⟨lk_13_55, im_Ref_fault, se_Ref_fault, lm_Ref_fault, np_Ref_fault, ⟨Nat.le_of_ble_eq_true rfl, Nat.le_of_ble_eq_true rfl⟩, rfl⟩ mm.1.1 ?_)
  show am_Ei m_Main_fault 0 0 [.ref 0] h (fun r h1 => am_tg h1 87 = (12, 56) ∧ am_Ei m_Ref_fault 0 0 [.ref 87] h1 (fun r2 h2 => r = r2 ∧ lw_E X m_Law kc ks 1185 (lw_al i) [] h2))
  exact s_Main_fault mm ⟨rr.1.1, rf_fault rr ⟨rfl, next h st mm rr⟩⟩
theorem ok_count : lw_okC 392 1 56 59 = true := by decide +kernel
theorem lc_count {X : lw_X} {kc ks i : Nat} {h : am_H} {b L : Nat} {xs : Nat → Int32} {st : St} (C : lw_C X m_Law) (S : lw_S X b L xs) (hi : i + 5 < L) (hL : L ≤ 3072) (mm : mnA h st) (rr : rfA h st) (next : ∀ h' st', mnA h' st' → rfA h' st' → lw_E X m_Law kc ks 1185 (lw_al i) [] h') : lw_E X m_Law (kc + 6) (ks + 53) 392 (lw_al i) [] h := by
  have hz : 146 ≤ am_sz h := mm.2.2.2.2.2.2.2.2.2.1
  refine lw_E.room (kc := kc + 0) (ks := ks + 0) (by omega) (by omega) (lw_case (n := 1) C S hi hL (by decide) ok_count ⟨lk_13_56, im_Main_count, se_Main_count, lm_Main_count, np_Main_count, ⟨Nat.le_of_ble_eq_true rfl, Nat.le_of_ble_eq_true rfl⟩, rfl⟩ ⟨lk_13_59, im_Ref_count, se_Ref_count, lm_Ref_count, np_Ref_count, ⟨Nat.le_of_ble_eq_true rfl, Nat.le_of_ble_eq_true rfl⟩, rfl⟩ mm.1.1 ?_)
  show am_Ei m_Main_count 0 0 [.ref 0, .int (xs (i + 1 + 0))] h (fun r h1 => am_tg h1 87 = (12, 56) ∧ am_Ei m_Ref_count 0 0 [.ref 87, .int (xs (i + 1 + 0))] h1 (fun r2 h2 => r = r2 ∧ lw_E X m_Law kc ks 1185 (lw_al i) [] h2))
  obtain ⟨y0, e0, b0⟩ := ji_ex (xs (i + 1 + 0))
  rw [e0]
  exact s_Main_count mm b0 (fun h1 f1 m1 => ⟨(rr.fc f1 hz).1.1, rf_count (rr.fc f1 hz) b0 (fun h2 f2 r2 => ⟨rfl, next h2 _ (m1.ref f2 (by omega) (by omega)) r2⟩)⟩)
theorem ok_turns : lw_okC 415 1 60 63 = true := by decide +kernel
theorem lc_turns {X : lw_X} {kc ks i : Nat} {h : am_H} {b L : Nat} {xs : Nat → Int32} {st : St} (C : lw_C X m_Law) (S : lw_S X b L xs) (hi : i + 5 < L) (hL : L ≤ 3072) (mm : mnA h st) (rr : rfA h st) (next : ∀ h' st', mnA h' st' → rfA h' st' → lw_E X m_Law kc ks 1185 (lw_al i) [] h') : lw_E X m_Law (kc + 6) (ks + 53) 415 (lw_al i) [] h := by
  have hz : 146 ≤ am_sz h := mm.2.2.2.2.2.2.2.2.2.1
  refine lw_E.room (kc := kc + 0) (ks := ks + 0) (by omega) (by omega) (lw_case (n := 1) C S hi hL (by decide) ok_turns ⟨lk_13_60, im_Main_turns, se_Main_turns, lm_Main_turns, np_Main_turns, ⟨Nat.le_of_ble_eq_true rfl, Nat.le_of_ble_eq_true rfl⟩, rfl⟩ ⟨lk_13_63, im_Ref_turns, se_Ref_turns, lm_Ref_turns, np_Ref_turns, ⟨Nat.le_of_ble_eq_true rfl, Nat.le_of_ble_eq_true rfl⟩, rfl⟩ mm.1.1 ?_)
  show am_Ei m_Main_turns 0 0 [.ref 0, .int (xs (i + 1 + 0))] h (fun r h1 => am_tg h1 87 = (12, 56) ∧ am_Ei m_Ref_turns 0 0 [.ref 87, .int (xs (i + 1 + 0))] h1 (fun r2 h2 => r = r2 ∧ lw_E X m_Law kc ks 1185 (lw_al i) [] h2))
  obtain ⟨y0, e0, b0⟩ := ji_ex (xs (i + 1 + 0))
  rw [e0]
  exact s_Main_turns mm b0 (fun h1 f1 m1 => ⟨(rr.fc f1 hz).1.1, rf_turns (rr.fc f1 hz) b0 (fun h2 f2 r2 => ⟨rfl, next h2 _ (m1.ref f2 (by omega) (by omega)) r2⟩)⟩)
theorem ok_turn : lw_okC 438 3 64 68 = true := by decide +kernel
theorem lc_turn {X : lw_X} {kc ks i : Nat} {h : am_H} {b L : Nat} {xs : Nat → Int32} {st : St} (C : lw_C X m_Law) (S : lw_S X b L xs) (hi : i + 5 < L) (hL : L ≤ 3072) (mm : mnA h st) (rr : rfA h st) (next : ∀ h' st', mnA h' st' → rfA h' st' → lw_E X m_Law kc ks 1185 (lw_al i) [] h') : lw_E X m_Law (kc + 6) (ks + 53) 438 (lw_al i) [] h := by
  have hz : 146 ≤ am_sz h := mm.2.2.2.2.2.2.2.2.2.1
  refine lw_E.room (kc := kc + 0) (ks := ks + 0) (by omega) (by omega) (lw_case (n := 3) C S hi hL (by decide) ok_turn ⟨lk_13_64, im_Main_turn, se_Main_turn, lm_Main_turn, np_Main_turn, ⟨Nat.le_of_ble_eq_true rfl, Nat.le_of_ble_eq_true rfl⟩, rfl⟩ ⟨lk_13_68, im_Ref_turn, se_Ref_turn, lm_Ref_turn, np_Ref_turn, ⟨Nat.le_of_ble_eq_true rfl, Nat.le_of_ble_eq_true rfl⟩, rfl⟩ mm.1.1 ?_)
  show am_Ei m_Main_turn 0 0 [.ref 0, .int (xs (i + 1 + 0)), .int (xs (i + 1 + 1)), .int (xs (i + 1 + 2))] h (fun r h1 => am_tg h1 87 = (12, 56) ∧ am_Ei m_Ref_turn 0 0 [.ref 87, .int (xs (i + 1 + 0)), .int (xs (i + 1 + 1)), .int (xs (i + 1 + 2))] h1 (fun r2 h2 => r = r2 ∧ lw_E X m_Law kc ks 1185 (lw_al i) [] h2))
  obtain ⟨y0, e0, b0⟩ := ji_ex (xs (i + 1 + 0))
  obtain ⟨y1, e1, b1⟩ := ji_ex (xs (i + 1 + 1))
  obtain ⟨y2, e2, b2⟩ := ji_ex (xs (i + 1 + 2))
  rw [e0, e1, e2]
  exact s_Main_turn mm b0 b1 b2 (fun h1 f1 m1 => ⟨(rr.fc f1 hz).1.1, rf_turn (rr.fc f1 hz) b0 b1 b2 (fun h2 f2 r2 => ⟨rfl, next h2 _ (m1.ref f2 (by omega) (by omega)) r2⟩)⟩)
theorem ok_water : lw_okC 481 2 69 73 = true := by decide +kernel
theorem lc_water {X : lw_X} {kc ks i : Nat} {h : am_H} {b L : Nat} {xs : Nat → Int32} {st : St} (C : lw_C X m_Law) (S : lw_S X b L xs) (hi : i + 5 < L) (hL : L ≤ 3072) (mm : mnA h st) (rr : rfA h st) (next : ∀ h' st', mnA h' st' → rfA h' st' → lw_E X m_Law kc ks 1185 (lw_al i) [] h') : lw_E X m_Law (kc + 6) (ks + 53) 481 (lw_al i) [] h := by
  have hz : 146 ≤ am_sz h := mm.2.2.2.2.2.2.2.2.2.1
  refine lw_E.room (kc := kc + 0) (ks := ks + 0) (by omega) (by omega) (lw_case (n := 2) C S hi hL (by decide) ok_water ⟨lk_13_69, im_Main_water, se_Main_water, lm_Main_water, np_Main_water, ⟨Nat.le_of_ble_eq_true rfl, Nat.le_of_ble_eq_true rfl⟩, rfl⟩ ⟨lk_13_73, im_Ref_water, se_Ref_water, lm_Ref_water, np_Ref_water, ⟨Nat.le_of_ble_eq_true rfl, Nat.le_of_ble_eq_true rfl⟩, rfl⟩ mm.1.1 ?_)
  show am_Ei m_Main_water 0 0 [.ref 0, .int (xs (i + 1 + 0)), .int (xs (i + 1 + 1))] h (fun r h1 => am_tg h1 87 = (12, 56) ∧ am_Ei m_Ref_water 0 0 [.ref 87, .int (xs (i + 1 + 0)), .int (xs (i + 1 + 1))] h1 (fun r2 h2 => r = r2 ∧ lw_E X m_Law kc ks 1185 (lw_al i) [] h2))
  obtain ⟨y0, e0, b0⟩ := ji_ex (xs (i + 1 + 0))
  obtain ⟨y1, e1, b1⟩ := ji_ex (xs (i + 1 + 1))
  rw [e0, e1]
  exact s_Main_water mm b0 b1 (fun h1 f1 m1 => ⟨(rr.fc f1 hz).1.1, rf_water (rr.fc f1 hz) b0 b1 (fun h2 f2 r2 => ⟨rfl, next h2 _ (m1.ref f2 (by omega) (by omega)) r2⟩)⟩)
theorem ok_above : lw_okC 514 3 74 77 = true := by decide +kernel
theorem lc_above {X : lw_X} {kc ks i : Nat} {h : am_H} {b L : Nat} {xs : Nat → Int32} {st : St} (C : lw_C X m_Law) (S : lw_S X b L xs) (hi : i + 5 < L) (hL : L ≤ 3072) (mm : mnA h st) (rr : rfA h st) (next : ∀ h' st', mnA h' st' → rfA h' st' → lw_E X m_Law kc ks 1185 (lw_al i) [] h') : lw_E X m_Law (kc + 6) (ks + 53) 514 (lw_al i) [] h := by
  have hz : 146 ≤ am_sz h := mm.2.2.2.2.2.2.2.2.2.1
  refine lw_E.room (kc := kc + 0) (ks := ks + 0) (by omega) (by omega) (lw_case (n := 3) C S hi hL (by decide) ok_above ⟨lk_13_74, im_Main_above, se_Main_above, lm_Main_above, np_Main_above, ⟨Nat.le_of_ble_eq_true rfl, Nat.le_of_ble_eq_true rfl⟩, rfl⟩ ⟨lk_13_77, im_Ref_above, se_Ref_above, lm_Ref_above, np_Ref_above, ⟨Nat.le_of_ble_eq_true rfl, Nat.le_of_ble_eq_true rfl⟩, rfl⟩ mm.1.1 ?_)
  show am_Ei m_Main_above 0 0 [.ref 0, .int (xs (i + 1 + 0)), .int (xs (i + 1 + 1)), .int (xs (i + 1 + 2))] h (fun r h1 => am_tg h1 87 = (12, 56) ∧ am_Ei m_Ref_above 0 0 [.ref 87, .int (xs (i + 1 + 0)), .int (xs (i + 1 + 1)), .int (xs (i + 1 + 2))] h1 (fun r2 h2 => r = r2 ∧ lw_E X m_Law kc ks 1185 (lw_al i) [] h2))
  obtain ⟨y0, e0, b0⟩ := ji_ex (xs (i + 1 + 0))
  obtain ⟨y1, e1, b1⟩ := ji_ex (xs (i + 1 + 1))
  obtain ⟨y2, e2, b2⟩ := ji_ex (xs (i + 1 + 2))
  rw [e0, e1, e2]
  exact s_Main_above mm b0 b1 b2 (fun h1 f1 m1 => ⟨(rr.fc f1 hz).1.1, rf_above (rr.fc f1 hz) b0 b1 b2 (fun h2 f2 r2 => ⟨rfl, next h2 _ (m1.ref f2 (by omega) (by omega)) r2⟩)⟩)
theorem ok_rise : lw_okC 557 3 78 81 = true := by decide +kernel
theorem lc_rise {X : lw_X} {kc ks i : Nat} {h : am_H} {b L : Nat} {xs : Nat → Int32} {st : St} (C : lw_C X m_Law) (S : lw_S X b L xs) (hi : i + 5 < L) (hL : L ≤ 3072) (mm : mnA h st) (rr : rfA h st) (next : ∀ h' st', mnA h' st' → rfA h' st' → lw_E X m_Law kc ks 1185 (lw_al i) [] h') : lw_E X m_Law (kc + 6) (ks + 53) 557 (lw_al i) [] h := by
  have hz : 146 ≤ am_sz h := mm.2.2.2.2.2.2.2.2.2.1
  refine lw_E.room (kc := kc + 0) (ks := ks + 0) (by omega) (by omega) (lw_case (n := 3) C S hi hL (by decide) ok_rise ⟨lk_13_78, im_Main_rise, se_Main_rise, lm_Main_rise, np_Main_rise, ⟨Nat.le_of_ble_eq_true rfl, Nat.le_of_ble_eq_true rfl⟩, rfl⟩ ⟨lk_13_81, im_Ref_rise, se_Ref_rise, lm_Ref_rise, np_Ref_rise, ⟨Nat.le_of_ble_eq_true rfl, Nat.le_of_ble_eq_true rfl⟩, rfl⟩ mm.1.1 ?_)
  show am_Ei m_Main_rise 0 0 [.ref 0, .int (xs (i + 1 + 0)), .int (xs (i + 1 + 1)), .int (xs (i + 1 + 2))] h (fun r h1 => am_tg h1 87 = (12, 56) ∧ am_Ei m_Ref_rise 0 0 [.ref 87, .int (xs (i + 1 + 0)), .int (xs (i + 1 + 1)), .int (xs (i + 1 + 2))] h1 (fun r2 h2 => r = r2 ∧ lw_E X m_Law kc ks 1185 (lw_al i) [] h2))
  obtain ⟨y0, e0, b0⟩ := ji_ex (xs (i + 1 + 0))
  obtain ⟨y1, e1, b1⟩ := ji_ex (xs (i + 1 + 1))
  obtain ⟨y2, e2, b2⟩ := ji_ex (xs (i + 1 + 2))
  rw [e0, e1, e2]
  exact s_Main_rise mm b0 b1 b2 (fun h1 f1 m1 => ⟨(rr.fc f1 hz).1.1, rf_rise (rr.fc f1 hz) b0 b1 b2 (fun h2 f2 r2 => ⟨rfl, next h2 _ (m1.ref f2 (by omega) (by omega)) r2⟩)⟩)
theorem ok_ebb : lw_okC 600 3 82 85 = true := by decide +kernel
theorem lc_ebb {X : lw_X} {kc ks i : Nat} {h : am_H} {b L : Nat} {xs : Nat → Int32} {st : St} (C : lw_C X m_Law) (S : lw_S X b L xs) (hi : i + 5 < L) (hL : L ≤ 3072) (mm : mnA h st) (rr : rfA h st) (next : ∀ h' st', mnA h' st' → rfA h' st' → lw_E X m_Law kc ks 1185 (lw_al i) [] h') : lw_E X m_Law (kc + 6) (ks + 53) 600 (lw_al i) [] h := by
  have hz : 146 ≤ am_sz h := mm.2.2.2.2.2.2.2.2.2.1
  refine lw_E.room (kc := kc + 0) (ks := ks + 0) (by omega) (by omega) (lw_case (n := 3) C S hi hL (by decide) ok_ebb ⟨lk_13_82, im_Main_ebb, se_Main_ebb, lm_Main_ebb, np_Main_ebb, ⟨Nat.le_of_ble_eq_true rfl, Nat.le_of_ble_eq_true rfl⟩, rfl⟩ ⟨lk_13_85, im_Ref_ebb, se_Ref_ebb, lm_Ref_ebb, np_Ref_ebb, ⟨Nat.le_of_ble_eq_true rfl, Nat.le_of_ble_eq_true rfl⟩, rfl⟩ mm.1.1 ?_)
  show am_Ei m_Main_ebb 0 0 [.ref 0, .int (xs (i + 1 + 0)), .int (xs (i + 1 + 1)), .int (xs (i + 1 + 2))] h (fun r h1 => am_tg h1 87 = (12, 56) ∧ am_Ei m_Ref_ebb 0 0 [.ref 87, .int (xs (i + 1 + 0)), .int (xs (i + 1 + 1)), .int (xs (i + 1 + 2))] h1 (fun r2 h2 => r = r2 ∧ lw_E X m_Law kc ks 1185 (lw_al i) [] h2))
  obtain ⟨y0, e0, b0⟩ := ji_ex (xs (i + 1 + 0))
  obtain ⟨y1, e1, b1⟩ := ji_ex (xs (i + 1 + 1))
  obtain ⟨y2, e2, b2⟩ := ji_ex (xs (i + 1 + 2))
  rw [e0, e1, e2]
  exact s_Main_ebb mm b0 b1 b2 (fun h1 f1 m1 => ⟨(rr.fc f1 hz).1.1, rf_ebb (rr.fc f1 hz) b0 b1 b2 (fun h2 f2 r2 => ⟨rfl, next h2 _ (m1.ref f2 (by omega) (by omega)) r2⟩)⟩)
theorem ok_hours : lw_okC 643 2 86 89 = true := by decide +kernel
theorem lc_hours {X : lw_X} {kc ks i : Nat} {h : am_H} {b L : Nat} {xs : Nat → Int32} {st : St} (C : lw_C X m_Law) (S : lw_S X b L xs) (hi : i + 5 < L) (hL : L ≤ 3072) (mm : mnA h st) (rr : rfA h st) (next : ∀ h' st', mnA h' st' → rfA h' st' → lw_E X m_Law kc ks 1185 (lw_al i) [] h') : lw_E X m_Law (kc + 6) (ks + 53) 643 (lw_al i) [] h := by
  have hz : 146 ≤ am_sz h := mm.2.2.2.2.2.2.2.2.2.1
  refine lw_E.room (kc := kc + 0) (ks := ks + 0) (by omega) (by omega) (lw_case (n := 2) C S hi hL (by decide) ok_hours ⟨lk_13_86, im_Main_hours, se_Main_hours, lm_Main_hours, np_Main_hours, ⟨Nat.le_of_ble_eq_true rfl, Nat.le_of_ble_eq_true rfl⟩, rfl⟩ ⟨lk_13_89, im_Ref_hours, se_Ref_hours, lm_Ref_hours, np_Ref_hours, ⟨Nat.le_of_ble_eq_true rfl, Nat.le_of_ble_eq_true rfl⟩, rfl⟩ mm.1.1 ?_)
  show am_Ei m_Main_hours 0 0 [.ref 0, .int (xs (i + 1 + 0)), .int (xs (i + 1 + 1))] h (fun r h1 => am_tg h1 87 = (12, 56) ∧ am_Ei m_Ref_hours 0 0 [.ref 87, .int (xs (i + 1 + 0)), .int (xs (i + 1 + 1))] h1 (fun r2 h2 => r = r2 ∧ lw_E X m_Law kc ks 1185 (lw_al i) [] h2))
  obtain ⟨y0, e0, b0⟩ := ji_ex (xs (i + 1 + 0))
  obtain ⟨y1, e1, b1⟩ := ji_ex (xs (i + 1 + 1))
  rw [e0, e1]
  exact s_Main_hours mm b0 b1 (fun h1 f1 m1 => ⟨(rr.fc f1 hz).1.1, rf_hours (rr.fc f1 hz) b0 b1 (fun h2 f2 r2 => ⟨rfl, next h2 _ (m1.ref f2 (by omega) (by omega)) r2⟩)⟩)
theorem ok_hour : lw_okC 676 4 90 94 = true := by decide +kernel
theorem lc_hour {X : lw_X} {kc ks i : Nat} {h : am_H} {b L : Nat} {xs : Nat → Int32} {st : St} (C : lw_C X m_Law) (S : lw_S X b L xs) (hi : i + 5 < L) (hL : L ≤ 3072) (mm : mnA h st) (rr : rfA h st) (next : ∀ h' st', mnA h' st' → rfA h' st' → lw_E X m_Law kc ks 1185 (lw_al i) [] h') : lw_E X m_Law (kc + 6) (ks + 53) 676 (lw_al i) [] h := by
  have hz : 146 ≤ am_sz h := mm.2.2.2.2.2.2.2.2.2.1
  refine lw_E.room (kc := kc + 0) (ks := ks + 0) (by omega) (by omega) (lw_case (n := 4) C S hi hL (by decide) ok_hour ⟨lk_13_90, im_Main_hour, se_Main_hour, lm_Main_hour, np_Main_hour, ⟨Nat.le_of_ble_eq_true rfl, Nat.le_of_ble_eq_true rfl⟩, rfl⟩ ⟨lk_13_94, im_Ref_hour, se_Ref_hour, lm_Ref_hour, np_Ref_hour, ⟨Nat.le_of_ble_eq_true rfl, Nat.le_of_ble_eq_true rfl⟩, rfl⟩ mm.1.1 ?_)
  show am_Ei m_Main_hour 0 0 [.ref 0, .int (xs (i + 1 + 0)), .int (xs (i + 1 + 1)), .int (xs (i + 1 + 2)), .int (xs (i + 1 + 3))] h (fun r h1 => am_tg h1 87 = (12, 56) ∧ am_Ei m_Ref_hour 0 0 [.ref 87, .int (xs (i + 1 + 0)), .int (xs (i + 1 + 1)), .int (xs (i + 1 + 2)), .int (xs (i + 1 + 3))] h1 (fun r2 h2 => r = r2 ∧ lw_E X m_Law kc ks 1185 (lw_al i) [] h2))
  obtain ⟨y0, e0, b0⟩ := ji_ex (xs (i + 1 + 0))
  obtain ⟨y1, e1, b1⟩ := ji_ex (xs (i + 1 + 1))
  obtain ⟨y2, e2, b2⟩ := ji_ex (xs (i + 1 + 2))
  obtain ⟨y3, e3, b3⟩ := ji_ex (xs (i + 1 + 3))
  rw [e0, e1, e2, e3]
  exact s_Main_hour mm b0 b1 b2 b3 (fun h1 f1 m1 => ⟨(rr.fc f1 hz).1.1, rf_hour (rr.fc f1 hz) b0 b1 b2 b3 (fun h2 f2 r2 => ⟨rfl, next h2 _ (m1.ref f2 (by omega) (by omega)) r2⟩)⟩)
theorem ok_minutes : lw_okC 729 2 95 98 = true := by decide +kernel
theorem lc_minutes {X : lw_X} {kc ks i : Nat} {h : am_H} {b L : Nat} {xs : Nat → Int32} {st : St} (C : lw_C X m_Law) (S : lw_S X b L xs) (hi : i + 5 < L) (hL : L ≤ 3072) (mm : mnA h st) (rr : rfA h st) (next : ∀ h' st', mnA h' st' → rfA h' st' → lw_E X m_Law kc ks 1185 (lw_al i) [] h') : lw_E X m_Law (kc + 6) (ks + 53) 729 (lw_al i) [] h := by
  have hz : 146 ≤ am_sz h := mm.2.2.2.2.2.2.2.2.2.1
  refine lw_E.room (kc := kc + 0) (ks := ks + 0) (by omega) (by omega) (lw_case (n := 2) C S hi hL (by decide) ok_minutes ⟨lk_13_95, im_Main_minutes, se_Main_minutes, lm_Main_minutes, np_Main_minutes, ⟨Nat.le_of_ble_eq_true rfl, Nat.le_of_ble_eq_true rfl⟩, rfl⟩ ⟨lk_13_98, im_Ref_minutes, se_Ref_minutes, lm_Ref_minutes, np_Ref_minutes, ⟨Nat.le_of_ble_eq_true rfl, Nat.le_of_ble_eq_true rfl⟩, rfl⟩ mm.1.1 ?_)
  show am_Ei m_Main_minutes 0 0 [.ref 0, .int (xs (i + 1 + 0)), .int (xs (i + 1 + 1))] h (fun r h1 => am_tg h1 87 = (12, 56) ∧ am_Ei m_Ref_minutes 0 0 [.ref 87, .int (xs (i + 1 + 0)), .int (xs (i + 1 + 1))] h1 (fun r2 h2 => r = r2 ∧ lw_E X m_Law kc ks 1185 (lw_al i) [] h2))
  obtain ⟨y0, e0, b0⟩ := ji_ex (xs (i + 1 + 0))
  obtain ⟨y1, e1, b1⟩ := ji_ex (xs (i + 1 + 1))
  rw [e0, e1]
  exact s_Main_minutes mm b0 b1 (fun h1 f1 m1 => ⟨(rr.fc f1 hz).1.1, rf_minutes (rr.fc f1 hz) b0 b1 (fun h2 f2 r2 => ⟨rfl, next h2 _ (m1.ref f2 (by omega) (by omega)) r2⟩)⟩)
theorem ok_good : lw_okC 762 3 99 102 = true := by decide +kernel
theorem lc_good {X : lw_X} {kc ks i : Nat} {h : am_H} {b L : Nat} {xs : Nat → Int32} {st : St} (C : lw_C X m_Law) (S : lw_S X b L xs) (hi : i + 5 < L) (hL : L ≤ 3072) (mm : mnA h st) (rr : rfA h st) (next : ∀ h' st', mnA h' st' → rfA h' st' → lw_E X m_Law kc ks 1185 (lw_al i) [] h') : lw_E X m_Law (kc + 6) (ks + 53) 762 (lw_al i) [] h := by
  have hz : 146 ≤ am_sz h := mm.2.2.2.2.2.2.2.2.2.1
  refine lw_E.room (kc := kc + 0) (ks := ks + 0) (by omega) (by omega) (lw_case (n := 3) C S hi hL (by decide) ok_good ⟨lk_13_99, im_Main_good, se_Main_good, lm_Main_good, np_Main_good, ⟨Nat.le_of_ble_eq_true rfl, Nat.le_of_ble_eq_true rfl⟩, rfl⟩ ⟨lk_13_102, im_Ref_good, se_Ref_good, lm_Ref_good, np_Ref_good, ⟨Nat.le_of_ble_eq_true rfl, Nat.le_of_ble_eq_true rfl⟩, rfl⟩ mm.1.1 ?_)
  show am_Ei m_Main_good 0 0 [.ref 0, .int (xs (i + 1 + 0)), .int (xs (i + 1 + 1)), .int (xs (i + 1 + 2))] h (fun r h1 => am_tg h1 87 = (12, 56) ∧ am_Ei m_Ref_good 0 0 [.ref 87, .int (xs (i + 1 + 0)), .int (xs (i + 1 + 1)), .int (xs (i + 1 + 2))] h1 (fun r2 h2 => r = r2 ∧ lw_E X m_Law kc ks 1185 (lw_al i) [] h2))
  obtain ⟨y0, e0, b0⟩ := ji_ex (xs (i + 1 + 0))
  obtain ⟨y1, e1, b1⟩ := ji_ex (xs (i + 1 + 1))
  obtain ⟨y2, e2, b2⟩ := ji_ex (xs (i + 1 + 2))
  rw [e0, e1, e2]
  exact s_Main_good mm b0 b1 b2 (fun h1 f1 m1 => ⟨(rr.fc f1 hz).1.1, rf_good (rr.fc f1 hz) b0 b1 b2 (fun h2 f2 r2 => ⟨rfl, next h2 _ (m1.ref f2 (by omega) (by omega)) r2⟩)⟩)
theorem ok_note : lw_okC 805 3 103 106 = true := by decide +kernel
theorem lc_note {X : lw_X} {kc ks i : Nat} {h : am_H} {b L : Nat} {xs : Nat → Int32} {st : St} (C : lw_C X m_Law) (S : lw_S X b L xs) (hi : i + 5 < L) (hL : L ≤ 3072) (mm : mnA h st) (rr : rfA h st) (next : ∀ h' st', mnA h' st' → rfA h' st' → lw_E X m_Law kc ks 1185 (lw_al i) [] h') : lw_E X m_Law (kc + 6) (ks + 53) 805 (lw_al i) [] h := by
  have hz : 146 ≤ am_sz h := mm.2.2.2.2.2.2.2.2.2.1
  refine lw_E.room (kc := kc + 0) (ks := ks + 0) (by omega) (by omega) (lw_case (n := 3) C S hi hL (by decide) ok_note ⟨lk_13_103, im_Main_note, se_Main_note, lm_Main_note, np_Main_note, ⟨Nat.le_of_ble_eq_true rfl, Nat.le_of_ble_eq_true rfl⟩, rfl⟩ ⟨lk_13_106, im_Ref_note, se_Ref_note, lm_Ref_note, np_Ref_note, ⟨Nat.le_of_ble_eq_true rfl, Nat.le_of_ble_eq_true rfl⟩, rfl⟩ mm.1.1 ?_)
  show am_Ei m_Main_note 0 0 [.ref 0, .int (xs (i + 1 + 0)), .int (xs (i + 1 + 1)), .int (xs (i + 1 + 2))] h (fun r h1 => am_tg h1 87 = (12, 56) ∧ am_Ei m_Ref_note 0 0 [.ref 87, .int (xs (i + 1 + 0)), .int (xs (i + 1 + 1)), .int (xs (i + 1 + 2))] h1 (fun r2 h2 => r = r2 ∧ lw_E X m_Law kc ks 1185 (lw_al i) [] h2))
  obtain ⟨y0, e0, b0⟩ := ji_ex (xs (i + 1 + 0))
  obtain ⟨y1, e1, b1⟩ := ji_ex (xs (i + 1 + 1))
  obtain ⟨y2, e2, b2⟩ := ji_ex (xs (i + 1 + 2))
  rw [e0, e1, e2]
  exact s_Main_note mm b0 b1 b2 (fun h1 f1 m1 => ⟨(rr.fc f1 hz).1.1, rf_note (rr.fc f1 hz) b0 b1 b2 (fun h2 f2 r2 => ⟨rfl, next h2 _ (m1.ref f2 (by omega) (by omega)) r2⟩)⟩)
theorem ok_stops : lw_okC 848 1 107 110 = true := by decide +kernel
theorem lc_stops {X : lw_X} {kc ks i : Nat} {h : am_H} {b L : Nat} {xs : Nat → Int32} {st : St} (C : lw_C X m_Law) (S : lw_S X b L xs) (hi : i + 5 < L) (hL : L ≤ 3072) (mm : mnA h st) (rr : rfA h st) (next : ∀ h' st', mnA h' st' → rfA h' st' → lw_E X m_Law kc ks 1185 (lw_al i) [] h') : lw_E X m_Law (kc + 6) (ks + 53) 848 (lw_al i) [] h := by
  have hz : 146 ≤ am_sz h := mm.2.2.2.2.2.2.2.2.2.1
  refine lw_E.room (kc := kc + 0) (ks := ks + 0) (by omega) (by omega) (lw_case (n := 1) C S hi hL (by decide) ok_stops ⟨lk_13_107, im_Main_stops, se_Main_stops, lm_Main_stops, np_Main_stops, ⟨Nat.le_of_ble_eq_true rfl, Nat.le_of_ble_eq_true rfl⟩, rfl⟩ ⟨lk_13_110, im_Ref_stops, se_Ref_stops, lm_Ref_stops, np_Ref_stops, ⟨Nat.le_of_ble_eq_true rfl, Nat.le_of_ble_eq_true rfl⟩, rfl⟩ mm.1.1 ?_)
  show am_Ei m_Main_stops 0 0 [.ref 0, .int (xs (i + 1 + 0))] h (fun r h1 => am_tg h1 87 = (12, 56) ∧ am_Ei m_Ref_stops 0 0 [.ref 87, .int (xs (i + 1 + 0))] h1 (fun r2 h2 => r = r2 ∧ lw_E X m_Law kc ks 1185 (lw_al i) [] h2))
  obtain ⟨y0, e0, b0⟩ := ji_ex (xs (i + 1 + 0))
  rw [e0]
  exact s_Main_stops mm b0 (fun h1 f1 m1 => ⟨(rr.fc f1 hz).1.1, rf_stops (rr.fc f1 hz) b0 (fun h2 f2 r2 => ⟨rfl, next h2 _ (m1.ref f2 (by omega) (by omega)) r2⟩)⟩)
theorem ok_leg : lw_okC 871 3 111 114 = true := by decide +kernel
theorem lc_leg {X : lw_X} {kc ks i : Nat} {h : am_H} {b L : Nat} {xs : Nat → Int32} {st : St} (C : lw_C X m_Law) (S : lw_S X b L xs) (hi : i + 5 < L) (hL : L ≤ 3072) (mm : mnA h st) (rr : rfA h st) (next : ∀ h' st', mnA h' st' → rfA h' st' → lw_E X m_Law kc ks 1185 (lw_al i) [] h') : lw_E X m_Law (kc + 6) (ks + 53) 871 (lw_al i) [] h := by
  have hz : 146 ≤ am_sz h := mm.2.2.2.2.2.2.2.2.2.1
  refine lw_E.room (kc := kc + 0) (ks := ks + 0) (by omega) (by omega) (lw_case (n := 3) C S hi hL (by decide) ok_leg ⟨lk_13_111, im_Main_leg, se_Main_leg, lm_Main_leg, np_Main_leg, ⟨Nat.le_of_ble_eq_true rfl, Nat.le_of_ble_eq_true rfl⟩, rfl⟩ ⟨lk_13_114, im_Ref_leg, se_Ref_leg, lm_Ref_leg, np_Ref_leg, ⟨Nat.le_of_ble_eq_true rfl, Nat.le_of_ble_eq_true rfl⟩, rfl⟩ mm.1.1 ?_)
  show am_Ei m_Main_leg 0 0 [.ref 0, .int (xs (i + 1 + 0)), .int (xs (i + 1 + 1)), .int (xs (i + 1 + 2))] h (fun r h1 => am_tg h1 87 = (12, 56) ∧ am_Ei m_Ref_leg 0 0 [.ref 87, .int (xs (i + 1 + 0)), .int (xs (i + 1 + 1)), .int (xs (i + 1 + 2))] h1 (fun r2 h2 => r = r2 ∧ lw_E X m_Law kc ks 1185 (lw_al i) [] h2))
  obtain ⟨y0, e0, b0⟩ := ji_ex (xs (i + 1 + 0))
  obtain ⟨y1, e1, b1⟩ := ji_ex (xs (i + 1 + 1))
  obtain ⟨y2, e2, b2⟩ := ji_ex (xs (i + 1 + 2))
  rw [e0, e1, e2]
  exact s_Main_leg mm b0 b1 b2 (fun h1 f1 m1 => ⟨(rr.fc f1 hz).1.1, rf_leg (rr.fc f1 hz) b0 b1 b2 (fun h2 f2 r2 => ⟨rfl, next h2 _ (m1.ref f2 (by omega) (by omega)) r2⟩)⟩)
theorem ok_arrive : lw_okC 914 3 115 118 = true := by decide +kernel
theorem lc_arrive {X : lw_X} {kc ks i : Nat} {h : am_H} {b L : Nat} {xs : Nat → Int32} {st : St} (C : lw_C X m_Law) (S : lw_S X b L xs) (hi : i + 5 < L) (hL : L ≤ 3072) (mm : mnA h st) (rr : rfA h st) (next : ∀ h' st', mnA h' st' → rfA h' st' → lw_E X m_Law kc ks 1185 (lw_al i) [] h') : lw_E X m_Law (kc + 6) (ks + 53) 914 (lw_al i) [] h := by
  have hz : 146 ≤ am_sz h := mm.2.2.2.2.2.2.2.2.2.1
  refine lw_E.room (kc := kc + 0) (ks := ks + 0) (by omega) (by omega) (lw_case (n := 3) C S hi hL (by decide) ok_arrive ⟨lk_13_115, im_Main_arrive, se_Main_arrive, lm_Main_arrive, np_Main_arrive, ⟨Nat.le_of_ble_eq_true rfl, Nat.le_of_ble_eq_true rfl⟩, rfl⟩ ⟨lk_13_118, im_Ref_arrive, se_Ref_arrive, lm_Ref_arrive, np_Ref_arrive, ⟨Nat.le_of_ble_eq_true rfl, Nat.le_of_ble_eq_true rfl⟩, rfl⟩ mm.1.1 ?_)
  show am_Ei m_Main_arrive 0 0 [.ref 0, .int (xs (i + 1 + 0)), .int (xs (i + 1 + 1)), .int (xs (i + 1 + 2))] h (fun r h1 => am_tg h1 87 = (12, 56) ∧ am_Ei m_Ref_arrive 0 0 [.ref 87, .int (xs (i + 1 + 0)), .int (xs (i + 1 + 1)), .int (xs (i + 1 + 2))] h1 (fun r2 h2 => r = r2 ∧ lw_E X m_Law kc ks 1185 (lw_al i) [] h2))
  obtain ⟨y0, e0, b0⟩ := ji_ex (xs (i + 1 + 0))
  obtain ⟨y1, e1, b1⟩ := ji_ex (xs (i + 1 + 1))
  obtain ⟨y2, e2, b2⟩ := ji_ex (xs (i + 1 + 2))
  rw [e0, e1, e2]
  exact s_Main_arrive mm b0 b1 b2 (fun h1 f1 m1 => ⟨(rr.fc f1 hz).1.1, rf_arrive (rr.fc f1 hz) b0 b1 b2 (fun h2 f2 r2 => ⟨rfl, next h2 _ (m1.ref f2 (by omega) (by omega)) r2⟩)⟩)
theorem ok_pass : lw_okC 957 4 119 122 = true := by decide +kernel
theorem lc_pass {X : lw_X} {kc ks i : Nat} {h : am_H} {b L : Nat} {xs : Nat → Int32} {st : St} (C : lw_C X m_Law) (S : lw_S X b L xs) (hi : i + 5 < L) (hL : L ≤ 3072) (mm : mnA h st) (rr : rfA h st) (next : ∀ h' st', mnA h' st' → rfA h' st' → lw_E X m_Law kc ks 1185 (lw_al i) [] h') : lw_E X m_Law (kc + 6) (ks + 53) 957 (lw_al i) [] h := by
  have hz : 146 ≤ am_sz h := mm.2.2.2.2.2.2.2.2.2.1
  refine lw_E.room (kc := kc + 0) (ks := ks + 0) (by omega) (by omega) (lw_case (n := 4) C S hi hL (by decide) ok_pass ⟨lk_13_119, im_Main_pass, se_Main_pass, lm_Main_pass, np_Main_pass, ⟨Nat.le_of_ble_eq_true rfl, Nat.le_of_ble_eq_true rfl⟩, rfl⟩ ⟨lk_13_122, im_Ref_pass, se_Ref_pass, lm_Ref_pass, np_Ref_pass, ⟨Nat.le_of_ble_eq_true rfl, Nat.le_of_ble_eq_true rfl⟩, rfl⟩ mm.1.1 ?_)
  show am_Ei m_Main_pass 0 0 [.ref 0, .int (xs (i + 1 + 0)), .int (xs (i + 1 + 1)), .int (xs (i + 1 + 2)), .int (xs (i + 1 + 3))] h (fun r h1 => am_tg h1 87 = (12, 56) ∧ am_Ei m_Ref_pass 0 0 [.ref 87, .int (xs (i + 1 + 0)), .int (xs (i + 1 + 1)), .int (xs (i + 1 + 2)), .int (xs (i + 1 + 3))] h1 (fun r2 h2 => r = r2 ∧ lw_E X m_Law kc ks 1185 (lw_al i) [] h2))
  obtain ⟨y0, e0, b0⟩ := ji_ex (xs (i + 1 + 0))
  obtain ⟨y1, e1, b1⟩ := ji_ex (xs (i + 1 + 1))
  obtain ⟨y2, e2, b2⟩ := ji_ex (xs (i + 1 + 2))
  obtain ⟨y3, e3, b3⟩ := ji_ex (xs (i + 1 + 3))
  rw [e0, e1, e2, e3]
  exact s_Main_pass mm b0 b1 b2 b3 (fun h1 f1 m1 => ⟨(rr.fc f1 hz).1.1, rf_pass (rr.fc f1 hz) b0 b1 b2 b3 (fun h2 f2 r2 => ⟨rfl, next h2 _ (m1.ref f2 (by omega) (by omega)) r2⟩)⟩)
theorem ok_waits : lw_okC 1010 3 123 126 = true := by decide +kernel
theorem lc_waits {X : lw_X} {kc ks i : Nat} {h : am_H} {b L : Nat} {xs : Nat → Int32} {st : St} (C : lw_C X m_Law) (S : lw_S X b L xs) (hi : i + 5 < L) (hL : L ≤ 3072) (mm : mnA h st) (rr : rfA h st) (next : ∀ h' st', mnA h' st' → rfA h' st' → lw_E X m_Law kc ks 1185 (lw_al i) [] h') : lw_E X m_Law (kc + 6) (ks + 53) 1010 (lw_al i) [] h := by
  have hz : 146 ≤ am_sz h := mm.2.2.2.2.2.2.2.2.2.1
  refine lw_E.room (kc := kc + 0) (ks := ks + 0) (by omega) (by omega) (lw_case (n := 3) C S hi hL (by decide) ok_waits ⟨lk_13_123, im_Main_waits, se_Main_waits, lm_Main_waits, np_Main_waits, ⟨Nat.le_of_ble_eq_true rfl, Nat.le_of_ble_eq_true rfl⟩, rfl⟩ ⟨lk_13_126, im_Ref_waits, se_Ref_waits, lm_Ref_waits, np_Ref_waits, ⟨Nat.le_of_ble_eq_true rfl, Nat.le_of_ble_eq_true rfl⟩, rfl⟩ mm.1.1 ?_)
  show am_Ei m_Main_waits 0 0 [.ref 0, .int (xs (i + 1 + 0)), .int (xs (i + 1 + 1)), .int (xs (i + 1 + 2))] h (fun r h1 => am_tg h1 87 = (12, 56) ∧ am_Ei m_Ref_waits 0 0 [.ref 87, .int (xs (i + 1 + 0)), .int (xs (i + 1 + 1)), .int (xs (i + 1 + 2))] h1 (fun r2 h2 => r = r2 ∧ lw_E X m_Law kc ks 1185 (lw_al i) [] h2))
  obtain ⟨y0, e0, b0⟩ := ji_ex (xs (i + 1 + 0))
  obtain ⟨y1, e1, b1⟩ := ji_ex (xs (i + 1 + 1))
  obtain ⟨y2, e2, b2⟩ := ji_ex (xs (i + 1 + 2))
  rw [e0, e1, e2]
  exact s_Main_waits mm b0 b1 b2 (fun h1 f1 m1 => ⟨(rr.fc f1 hz).1.1, rf_waits (rr.fc f1 hz) b0 b1 b2 (fun h2 f2 r2 => ⟨rfl, next h2 _ (m1.ref f2 (by omega) (by omega)) r2⟩)⟩)
theorem ok_start : lw_okC 1053 3 127 130 = true := by decide +kernel
theorem lc_start {X : lw_X} {kc ks i : Nat} {h : am_H} {b L : Nat} {xs : Nat → Int32} {st : St} (C : lw_C X m_Law) (S : lw_S X b L xs) (hi : i + 5 < L) (hL : L ≤ 3072) (mm : mnA h st) (rr : rfA h st) (next : ∀ h' st', mnA h' st' → rfA h' st' → lw_E X m_Law kc ks 1185 (lw_al i) [] h') : lw_E X m_Law (kc + 6) (ks + 53) 1053 (lw_al i) [] h := by
  have hz : 146 ≤ am_sz h := mm.2.2.2.2.2.2.2.2.2.1
  refine lw_E.room (kc := kc + 0) (ks := ks + 0) (by omega) (by omega) (lw_case (n := 3) C S hi hL (by decide) ok_start ⟨lk_13_127, im_Main_start, se_Main_start, lm_Main_start, np_Main_start, ⟨Nat.le_of_ble_eq_true rfl, Nat.le_of_ble_eq_true rfl⟩, rfl⟩ ⟨lk_13_130, im_Ref_start, se_Ref_start, lm_Ref_start, np_Ref_start, ⟨Nat.le_of_ble_eq_true rfl, Nat.le_of_ble_eq_true rfl⟩, rfl⟩ mm.1.1 ?_)
  show am_Ei m_Main_start 0 0 [.ref 0, .int (xs (i + 1 + 0)), .int (xs (i + 1 + 1)), .int (xs (i + 1 + 2))] h (fun r h1 => am_tg h1 87 = (12, 56) ∧ am_Ei m_Ref_start 0 0 [.ref 87, .int (xs (i + 1 + 0)), .int (xs (i + 1 + 1)), .int (xs (i + 1 + 2))] h1 (fun r2 h2 => r = r2 ∧ lw_E X m_Law kc ks 1185 (lw_al i) [] h2))
  obtain ⟨y0, e0, b0⟩ := ji_ex (xs (i + 1 + 0))
  obtain ⟨y1, e1, b1⟩ := ji_ex (xs (i + 1 + 1))
  obtain ⟨y2, e2, b2⟩ := ji_ex (xs (i + 1 + 2))
  rw [e0, e1, e2]
  exact s_Main_start mm b0 b1 b2 (fun h1 f1 m1 => ⟨(rr.fc f1 hz).1.1, rf_start (rr.fc f1 hz) b0 b1 b2 (fun h2 f2 r2 => ⟨rfl, next h2 _ (m1.ref f2 (by omega) (by omega)) r2⟩)⟩)
theorem ok_letter : lw_okC 1096 3 131 134 = true := by decide +kernel
theorem lc_letter {X : lw_X} {kc ks i : Nat} {h : am_H} {b L : Nat} {xs : Nat → Int32} {st : St} (C : lw_C X m_Law) (S : lw_S X b L xs) (hi : i + 5 < L) (hL : L ≤ 3072) (mm : mnA h st) (rr : rfA h st) (next : ∀ h' st', mnA h' st' → rfA h' st' → lw_E X m_Law kc ks 1185 (lw_al i) [] h') : lw_E X m_Law (kc + 6) (ks + 53) 1096 (lw_al i) [] h := by
  have hz : 146 ≤ am_sz h := mm.2.2.2.2.2.2.2.2.2.1
  refine lw_E.room (kc := kc + 0) (ks := ks + 0) (by omega) (by omega) (lw_case (n := 3) C S hi hL (by decide) ok_letter ⟨lk_13_131, im_Main_letter, se_Main_letter, lm_Main_letter, np_Main_letter, ⟨Nat.le_of_ble_eq_true rfl, Nat.le_of_ble_eq_true rfl⟩, rfl⟩ ⟨lk_13_134, im_Ref_letter, se_Ref_letter, lm_Ref_letter, np_Ref_letter, ⟨Nat.le_of_ble_eq_true rfl, Nat.le_of_ble_eq_true rfl⟩, rfl⟩ mm.1.1 ?_)
  show am_Ei m_Main_letter 0 0 [.ref 0, .int (xs (i + 1 + 0)), .int (xs (i + 1 + 1)), .int (xs (i + 1 + 2))] h (fun r h1 => am_tg h1 87 = (12, 56) ∧ am_Ei m_Ref_letter 0 0 [.ref 87, .int (xs (i + 1 + 0)), .int (xs (i + 1 + 1)), .int (xs (i + 1 + 2))] h1 (fun r2 h2 => r = r2 ∧ lw_E X m_Law kc ks 1185 (lw_al i) [] h2))
  obtain ⟨y0, e0, b0⟩ := ji_ex (xs (i + 1 + 0))
  obtain ⟨y1, e1, b1⟩ := ji_ex (xs (i + 1 + 1))
  obtain ⟨y2, e2, b2⟩ := ji_ex (xs (i + 1 + 2))
  rw [e0, e1, e2]
  exact s_Main_letter mm b0 b1 b2 (fun h1 f1 m1 => ⟨(rr.fc f1 hz).1.1, rf_letter (rr.fc f1 hz) b0 b1 b2 (fun h2 f2 r2 => ⟨rfl, next h2 _ (m1.ref f2 (by omega) (by omega)) r2⟩)⟩)
theorem ok_same : lw_okC 1139 2 135 138 = true := by decide +kernel
theorem lc_same {X : lw_X} {kc ks i : Nat} {h : am_H} {b L : Nat} {xs : Nat → Int32} {st : St} (C : lw_C X m_Law) (S : lw_S X b L xs) (hi : i + 5 < L) (hL : L ≤ 3072) (mm : mnA h st) (rr : rfA h st) (next : ∀ h' st', mnA h' st' → rfA h' st' → lw_E X m_Law kc ks 1185 (lw_al i) [] h') : lw_E X m_Law (kc + 6) (ks + 53) 1139 (lw_al i) [] h := by
  have hz : 146 ≤ am_sz h := mm.2.2.2.2.2.2.2.2.2.1
  refine lw_E.room (kc := kc + 0) (ks := ks + 0) (by omega) (by omega) (lw_case (n := 2) C S hi hL (by decide) ok_same ⟨lk_13_135, im_Main_same, se_Main_same, lm_Main_same, np_Main_same, ⟨Nat.le_of_ble_eq_true rfl, Nat.le_of_ble_eq_true rfl⟩, rfl⟩ ⟨lk_13_138, im_Ref_same, se_Ref_same, lm_Ref_same, np_Ref_same, ⟨Nat.le_of_ble_eq_true rfl, Nat.le_of_ble_eq_true rfl⟩, rfl⟩ mm.1.1 ?_)
  show am_Ei m_Main_same 0 0 [.ref 0, .int (xs (i + 1 + 0)), .int (xs (i + 1 + 1))] h (fun r h1 => am_tg h1 87 = (12, 56) ∧ am_Ei m_Ref_same 0 0 [.ref 87, .int (xs (i + 1 + 0)), .int (xs (i + 1 + 1))] h1 (fun r2 h2 => r = r2 ∧ lw_E X m_Law kc ks 1185 (lw_al i) [] h2))
  obtain ⟨y0, e0, b0⟩ := ji_ex (xs (i + 1 + 0))
  obtain ⟨y1, e1, b1⟩ := ji_ex (xs (i + 1 + 1))
  rw [e0, e1]
  exact s_Main_same mm b0 b1 (fun h1 f1 m1 => ⟨(rr.fc f1 hz).1.1, rf_same (rr.fc f1 hz) b0 b1 (fun h2 f2 r2 => ⟨rfl, next h2 _ (m1.ref f2 (by omega) (by omega)) r2⟩)⟩)
theorem ok_status : lw_okC 1172 0 139 142 = true := by decide +kernel
theorem lc_status {X : lw_X} {kc ks i : Nat} {h : am_H} {b L : Nat} {xs : Nat → Int32} {st : St} (C : lw_C X m_Law) (S : lw_S X b L xs) (hi : i + 5 < L) (hL : L ≤ 3072) (mm : mnA h st) (rr : rfA h st) (next : ∀ h' st', mnA h' st' → rfA h' st' → lw_E X m_Law kc ks 1185 (lw_al i) [] h') : lw_E X m_Law (kc + 6) (ks + 53) 1172 (lw_al i) [] h := by
  have hz : 146 ≤ am_sz h := mm.2.2.2.2.2.2.2.2.2.1
  refine lw_E.room (kc := kc + 0) (ks := ks + 0) (by omega) (by omega) (lw_case (n := 0) C S hi hL (by decide) ok_status ⟨lk_13_139, im_Main_status, se_Main_status, lm_Main_status, np_Main_status, ⟨Nat.le_of_ble_eq_true rfl, Nat.le_of_ble_eq_true rfl⟩, rfl⟩ ⟨lk_13_142, im_Ref_status, se_Ref_status, lm_Ref_status, np_Ref_status, ⟨Nat.le_of_ble_eq_true rfl, Nat.le_of_ble_eq_true rfl⟩, rfl⟩ mm.1.1 ?_)
  show am_Ei m_Main_status 0 0 [.ref 0] h (fun r h1 => am_tg h1 87 = (12, 56) ∧ am_Ei m_Ref_status 0 0 [.ref 87] h1 (fun r2 h2 => r = r2 ∧ lw_E X m_Law kc ks 1185 (lw_al i) [] h2))
  exact s_Main_status mm ⟨rr.1.1, rf_status rr ⟨rfl, next h st mm rr⟩⟩
