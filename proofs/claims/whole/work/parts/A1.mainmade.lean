/-! the class's constructor -/
theorem mk_Main {h : am_H} {Q : am_H → Prop} (hz : am_sz h = 0) (k : ∀ h', am_sz h' = 87 → mnF h' → mnX h' → tpT h' 1 [] → (∀ j, am_I h' 0 j = if j = 16 then -9999 else 0) → Q h') : am_Ew m_Main_init 86 3896 [.ref 0] (am_nw h 11 18) Q := by
  refine am_Ev.of (by decide +kernel) (Nat.le_of_ble_eq_true rfl) (fun v hv => by rw [List.mem_singleton] at hv; rw [hv]; exact trivial) (sg_Main_init_0 (kc := 84) (ks := 3772) 0 (am_nw h 11 18) (am_qw Q) ?_)
  obtain ⟨h0, hh0⟩ : ∃ h0, h0 = am_nw h 11 18 := ⟨_, rfl⟩
  have z0 : am_sz h0 = 1 := by rw [hh0, am_sz_nw, hz]
  have t0 : am_tg h0 0 = (11, 18) := by rw [hh0, am_tg_nw, hz, if_pos rfl]
  have i0 : am_I h0 0 = fun _ => 0 := by rw [hh0, am_I_nw, hz, if_pos rfl]
  rw [← hh0]
  clear hh0 hz
  -- the tape
  refine mk_Tape (h := h0) (fun h1 z1 e1 s1 => ?_)
  rw [z0] at z1 e1 s1 ⊢
  have a1 := e1 0 (by omega) (by omega)
  refine ⟨a1.1.trans t0, ?_⟩
  have w1 : am_sz (am_sp h1 0 0 (some 1)) = 3 := by rw [am_sz_sp, z1]
  have p1 : am_P (am_sp h1 0 0 (some 1)) 0 = va_up (am_P h1 0) 0 (some 1) := am_P_sps
  have t1 : am_tg (am_sp h1 0 0 (some 1)) 0 = (11, 18) := a1.1.trans t0
  have i1 : am_I (am_sp h1 0 0 (some 1)) 0 = fun _ => 0 := a1.2.1.trans i0
  have s1' : tpT (am_sp h1 0 0 (some 1)) 1 [] := s1.es (es.sp (by omega))
  generalize am_sp h1 0 0 (some 1) = g1 at w1 p1 t1 i1 s1' ⊢
  -- the draft
  refine sg_Main_init_15 (kc := 74) (ks := 3558) 0 g1 _ (mk_Draft (h := g1) (fun h2 z2 e2 d2 q2 => ?_))
  rw [w1] at z2 e2 d2 q2 ⊢
  have a2 := e2 0 (by omega) (by omega)
  refine ⟨a2.1.trans t1, ?_⟩
  have w2 : am_sz (am_sp h2 0 1 (some 3)) = 13 := by rw [am_sz_sp, z2]
  have p2 : am_P (am_sp h2 0 1 (some 3)) 0 = va_up (am_P g1 0) 1 (some 3) := by rw [am_P_sps, a2.2.2]
  have t2 : am_tg (am_sp h2 0 1 (some 3)) 0 = (11, 18) := a2.1.trans t1
  have i2 : am_I (am_sp h2 0 1 (some 3)) 0 = fun _ => 0 := a2.2.1.trans i1
  have s2 : tpT (am_sp h2 0 1 (some 3)) 1 [] := s1'.es ((e2.sub (by omega) (by omega)).tr (es.sp (by omega)))
  have d2' : dfA (am_sp h2 0 1 (some 3)) 3 [] := d2.es (es.sp (by omega))
  have q2' : ptA (am_sp h2 0 1 (some 3)) 9 40 [] := ptA.es (a := 9) q2 (es.sp (by omega))
  generalize am_sp h2 0 1 (some 3) = g2 at w2 p2 t2 i2 s2 d2' q2' ⊢
  -- the route's draft
  refine sg_Main_init_26 (kc := 68) (ks := 3391) 0 g2 _ (mk_Route (N := 32) (h := g2) (by omega) (fun h3 z3 e3 r3 => ?_))
  rw [w2] at z3 e3 r3 ⊢
  have a3 := e3 0 (by omega) (by omega)
  refine ⟨a3.1.trans t2, ?_⟩
  have w3 : am_sz (am_sp h3 0 2 (some 13)) = 19 := by rw [am_sz_sp, z3]
  have p3 : am_P (am_sp h3 0 2 (some 13)) 0 = va_up (am_P g2 0) 2 (some 13) := by rw [am_P_sps, a3.2.2]
  have t3 : am_tg (am_sp h3 0 2 (some 13)) 0 = (11, 18) := a3.1.trans t2
  have i3 : am_I (am_sp h3 0 2 (some 13)) 0 = fun _ => 0 := a3.2.1.trans i2
  have x3 : es g2 (am_sp h3 0 2 (some 13)) 1 13 := (e3.sub (by omega) (by omega)).tr (es.sp (by omega))
  have r3' : rtA (am_sp h3 0 2 (some 13)) 13 32 [] := r3.es (es.sp (by omega))
  generalize am_sp h3 0 2 (some 13) = g3 at w3 p3 t3 i3 x3 r3' ⊢
  -- the rows
  obtain ⟨w4, u4, t4, v4, p4, i4, -, f4⟩ := nwsp (h := g3) (a := 0) (kd := 32) (n := 8) (k := 3) (by omega)
  refine sg_Main_init_39 (kc := 67) (ks := 3383) 0 g3 _ ⟨u4.trans t3, ?_⟩
  rw [w3] at w4 t4 v4 p4 i4 f4 ⊢
  generalize am_sp (am_nw g3 32 8) 0 3 (some 19) = g4 at w4 t4 v4 p4 i4 f4 ⊢
  obtain ⟨w5, u5, t5, v5, p5, i5, -, f5⟩ := nwsp (h := g4) (a := 0) (kd := 37) (n := 12) (k := 4) (by omega)
  refine sg_Main_init_48 (kc := 66) (ks := 3371) 0 g4 _ ⟨u5.trans (t4.trans t3), ?_⟩
  rw [w4] at w5 t5 v5 p5 i5 f5 ⊢
  generalize am_sp (am_nw g4 37 12) 0 4 (some (19 + 1)) = g5 at w5 t5 v5 p5 i5 f5 ⊢
  obtain ⟨w6, u6, t6, v6, p6, i6, -, f6⟩ := nwsp (h := g5) (a := 0) (kd := 36) (n := 6) (k := 5) (by omega)
  refine sg_Main_init_57 (kc := 65) (ks := 3365) 0 g5 _ ⟨u6.trans (t5.trans (t4.trans t3)), ?_⟩
  rw [w5] at w6 t6 v6 p6 i6 f6 ⊢
  generalize am_sp (am_nw g5 36 6) 0 5 (some (19 + 1 + 1)) = g6 at w6 t6 v6 p6 i6 f6 ⊢
  obtain ⟨w7, u7, t7, v7, p7, i7, -, f7⟩ := nwsp (h := g6) (a := 0) (kd := 34) (n := 8) (k := 6) (by omega)
  refine sg_Main_init_66 (kc := 64) (ks := 3357) 0 g6 _ ⟨u7.trans (t6.trans (t5.trans (t4.trans t3))), ?_⟩
  rw [w6] at w7 t7 v7 p7 i7 f7 ⊢
  generalize am_sp (am_nw g6 34 8) 0 6 (some (19 + 1 + 1 + 1)) = g7 at w7 t7 v7 p7 i7 f7 ⊢
  have T7 : am_tg g7 0 = (11, 18) := t7.trans (t6.trans (t5.trans (t4.trans t3)))
  have I7 : am_I g7 0 = fun _ => 0 := i7.trans (i6.trans (i5.trans (i4.trans i3)))
  have X7 : es g3 g7 1 19 := (((f4.sub (by omega) (by omega)).tr (f5.sub (by omega) (by omega))).tr (f6.sub (by omega) (by omega))).tr (f7.sub (by omega) (by omega))
  have V4 : am_tg g7 19 = (32, 8) := by rw [(f7 19 (by omega) (by omega)).1, (f6 19 (by omega) (by omega)).1, (f5 19 (by omega) (by omega)).1]; exact v4
  have V5 : am_tg g7 20 = (37, 12) := by rw [(f7 20 (by omega) (by omega)).1, (f6 20 (by omega) (by omega)).1]; exact v5
  have V6 : am_tg g7 21 = (36, 6) := by rw [(f7 21 (by omega) (by omega)).1]; exact v6
  have V7 : am_tg g7 22 = (34, 8) := v7
  have P7 : am_P g7 0 = va_up (va_up (va_up (va_up (am_P g3 0) 3 (some 19)) 4 (some 20)) 5 (some 21)) 6 (some 22) := by rw [p7, p6, p5, p4]
  have W7 : am_sz g7 = 23 := w7
  clear w4 u4 t4 v4 p4 i4 f4 w5 u5 t5 v5 p5 i5 f5 w6 u6 t6 v6 p6 i6 f6 w7 u7 t7 v7 p7 i7 f7
  -- the windows
  refine sg_Main_init_75 (kc := 54) (ks := 3197) 0 g7 _ (mk_Windows (h := g7) (fun h8 z8 e8 s8 => ?_))
  rw [W7] at z8 e8 s8 ⊢
  have a8 := e8 0 (by omega) (by omega)
  refine ⟨a8.1.trans T7, ?_⟩
  have w8 : am_sz (am_sp h8 0 7 (some 23)) = 33 := by rw [am_sz_sp, z8]
  have p8 : am_P (am_sp h8 0 7 (some 23)) 0 = va_up (am_P g7 0) 7 (some 23) := by rw [am_P_sps, a8.2.2]
  have t8 : am_tg (am_sp h8 0 7 (some 23)) 0 = (11, 18) := a8.1.trans T7
  have i8 : am_I (am_sp h8 0 7 (some 23)) 0 = fun _ => 0 := a8.2.1.trans I7
  have x8 : es g7 (am_sp h8 0 7 (some 23)) 1 23 := (e8.sub (by omega) (by omega)).tr (es.sp (by omega))
  have s8' : wnA (am_sp h8 0 7 (some 23)) 23 := s8.es (es.sp (by omega))
  generalize am_sp h8 0 7 (some 23) = g8 at w8 p8 t8 i8 x8 s8' ⊢
  -- the stretches
  refine sg_Main_init_86 (kc := 51) (ks := 3145) 0 g8 _ (mk_Spans (N := 24) (h := g8) (by omega) (fun h9 z9 e9 s9 => ?_))
  rw [w8] at z9 e9 s9 ⊢
  have a9 := e9 0 (by omega) (by omega)
  refine ⟨a9.1.trans t8, ?_⟩
  have w9 : am_sz (am_sp h9 0 8 (some 33)) = 36 := by rw [am_sz_sp, z9]
  have p9 : am_P (am_sp h9 0 8 (some 33)) 0 = va_up (am_P g8 0) 8 (some 33) := by rw [am_P_sps, a9.2.2]
  have t9 : am_tg (am_sp h9 0 8 (some 33)) 0 = (11, 18) := a9.1.trans t8
  have i9 : am_I (am_sp h9 0 8 (some 33)) 0 = fun _ => 0 := a9.2.1.trans i8
  have x9 : es g8 (am_sp h9 0 8 (some 33)) 1 33 := (e9.sub (by omega) (by omega)).tr (es.sp (by omega))
  have s9' : spX (am_sp h9 0 8 (some 33)) 33 24 := ⟨[], s9.es (es.sp (by omega))⟩
  generalize am_sp h9 0 8 (some 33) = g9 at w9 p9 t9 i9 x9 s9' ⊢
  -- the planner
  refine sg_Main_init_99 (kc := 2) (ks := 258) 0 g9 _ (mk_Planner (h := g9) (fun h10 z10 e10 s10 => ?_))
  rw [w9] at z10 e10 s10 ⊢
  have a10 := e10 0 (by omega) (by omega)
  refine ⟨a10.1.trans t9, ?_⟩
  have w10 : am_sz (am_sp h10 0 9 (some 36)) = 85 := by rw [am_sz_sp, z10]
  have p10 : am_P (am_sp h10 0 9 (some 36)) 0 = va_up (am_P g9 0) 9 (some 36) := by rw [am_P_sps, a10.2.2]
  have t10 : am_tg (am_sp h10 0 9 (some 36)) 0 = (11, 18) := a10.1.trans t9
  have i10 : am_I (am_sp h10 0 9 (some 36)) 0 = fun _ => 0 := a10.2.1.trans i9
  have x10 : es g9 (am_sp h10 0 9 (some 36)) 1 36 := (e10.sub (by omega) (by omega)).tr (es.sp (by omega))
  have s10' : plX (am_sp h10 0 9 (some 36)) 36 := s10.es (es.sp (by omega))
  generalize am_sp h10 0 9 (some 36) = g10 at w10 p10 t10 i10 x10 s10' ⊢
  -- the page
  refine sg_Main_init_110 (kc := 0) (ks := 0) 0 g10 _ (mk_Page (h := g10) (fun h11 z11 e11 s11 => ?_))
  rw [w10] at z11 e11 s11 ⊢
  have a11 := e11 0 (by omega) (by omega)
  refine ⟨a11.1.trans t10, ?_⟩
  have w11 : am_sz (am_sp h11 0 10 (some 85)) = 87 := by rw [am_sz_sp, z11]
  have p11 : am_P (am_sp h11 0 10 (some 85)) 0 = va_up (am_P g10 0) 10 (some 85) := by rw [am_P_sps, a11.2.2]
  have t11 : am_tg (am_sp h11 0 10 (some 85)) 0 = (11, 18) := a11.1.trans t10
  have i11 : am_I (am_sp h11 0 10 (some 85)) 0 = fun _ => 0 := a11.2.1.trans i10
  have x11 : es g10 (am_sp h11 0 10 (some 85)) 1 85 := (e11.sub (by omega) (by omega)).tr (es.sp (by omega))
  have s11' : pgA (am_sp h11 0 10 (some 85)) 85 [] := s11.es (es.sp (by omega))
  generalize am_sp h11 0 10 (some 85) = g11 at w11 p11 t11 i11 x11 s11' ⊢
  refine sg_Main_init_121 0 g11 _ ⟨t11, sg_Main_init_126 0 _ _ ⟨t11, sg_Main_init_131 0 _ _ ⟨t11, sg_Main_init_136 0 _ _ ⟨t11, sg_Main_init_141 0 _ _ ⟨t11, sg_Main_init_146 0 _ _ ⟨t11, sg_Main_init_153 0 _ _ ⟨t11, sg_Main_init_158 0 _ _ ?_⟩⟩⟩⟩⟩⟩⟩
  have xF : es g11 (am_si (am_si (am_si (am_si (am_si (am_si (am_si g11 0 11 0) 0 12 0) 0 13 0) 0 14 0) 0 15 0) 0 16 (-9999)) 0 17 0) 1 87 := ((((((es.si (by omega)).tr (es.si (by omega))).tr (es.si (by omega))).tr (es.si (by omega))).tr (es.si (by omega))).tr (es.si (by omega))).tr (es.si (by omega))
  have iF : am_I (am_si (am_si (am_si (am_si (am_si (am_si (am_si g11 0 11 0) 0 12 0) 0 13 0) 0 14 0) 0 15 0) 0 16 (-9999)) 0 17 0) 0 = va_up (va_up (va_up (va_up (va_up (va_up (va_up (fun _ => 0) 11 0) 12 0) 13 0) 14 0) 15 0) 16 (-9999)) 17 0 := by
    rw [am_I_sis, am_I_sis, am_I_sis, am_I_sis, am_I_sis, am_I_sis, am_I_sis, i11]
  have wF : am_sz (am_si (am_si (am_si (am_si (am_si (am_si (am_si g11 0 11 0) 0 12 0) 0 13 0) 0 14 0) 0 15 0) 0 16 (-9999)) 0 17 0) = 87 := w11
  have tF : am_tg (am_si (am_si (am_si (am_si (am_si (am_si (am_si g11 0 11 0) 0 12 0) 0 13 0) 0 14 0) 0 15 0) 0 16 (-9999)) 0 17 0) 0 = (11, 18) := t11
  have pF : am_P (am_si (am_si (am_si (am_si (am_si (am_si (am_si g11 0 11 0) 0 12 0) 0 13 0) 0 14 0) 0 15 0) 0 16 (-9999)) 0 17 0) 0 = va_up (va_up (va_up (va_up (va_up (va_up (va_up (va_up (va_up (va_up (va_up (am_P h1 0) 0 (some 1)) 1 (some 3)) 2 (some 13)) 3 (some 19)) 4 (some 20)) 5 (some 21)) 6 (some 22)) 7 (some 23)) 8 (some 33)) 9 (some 36)) 10 (some 85) := by
    rw [am_P_si, am_P_si, am_P_si, am_P_si, am_P_si, am_P_si, am_P_si, p11, p10, p9, p8, P7, p3, p2, p1]
  generalize am_si (am_si (am_si (am_si (am_si (am_si (am_si g11 0 11 0) 0 12 0) 0 13 0) 0 14 0) 0 15 0) 0 16 (-9999)) 0 17 0 = g at xF iF wF tF pF ⊢
  have y10 : es g10 g 1 85 := x11.tr (xF.sub (by omega) (by omega))
  have y9 : es g9 g 1 36 := x10.tr (y10.sub (by omega) (by omega))
  have y8 : es g8 g 1 33 := x9.tr (y9.sub (by omega) (by omega))
  have y7 : es g7 g 1 23 := x8.tr (y8.sub (by omega) (by omega))
  have y3 : es g3 g 1 19 := X7.tr (y7.sub (by omega) (by omega))
  have y2 : es g2 g 1 13 := x3.tr (y3.sub (by omega) (by omega))
  refine k g wF ⟨tF, ?_, ?_, ?_, ?_, ?_, ?_, ?_, ?_, ?_, ?_, ?_, ?_, ?_, ?_, ?_⟩ ⟨⟨[], d2'.es (y2.sub (by omega) (by omega))⟩, ⟨[], q2'.es (y2.sub (by omega) (by omega))⟩, ⟨[], r3'.es (y3.sub (by omega) (by omega))⟩, s8'.es (y8.sub (by omega) (by omega)), s9'.es (y9.sub (by omega) (by omega)), s10'.es (y10.sub (by omega) (by omega)), ⟨[], s11'.es (xF.sub (by omega) (by omega))⟩⟩ (s2.es (y2.sub (by omega) (by omega))) (fun j => ?_)
  iterate 11 (first | (rw [pF]; rfl) | skip)
  all_goals first | (rw [(y7 19 (by omega) (by omega)).1]; exact V4) | (rw [(y7 20 (by omega) (by omega)).1]; exact V5) | (rw [(y7 21 (by omega) (by omega)).1]; exact V6) | (rw [(y7 22 (by omega) (by omega)).1]; exact V7) | (rw [pF]; rfl) | skip
  rw [iF]
  by_cases c : j = 16
  · rw [c]
    rfl
  · rw [if_neg c]
    unfold va_up
    repeat' split
    all_goals first | rfl | contradiction
