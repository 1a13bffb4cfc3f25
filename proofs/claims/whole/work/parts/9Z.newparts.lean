/-! new parts of the class -/
theorem mk_Tape {h : am_H} {Q : am_H → Prop} (k : ∀ h', am_sz h' = am_sz h + 2 → es h h' 0 (am_sz h) → tpT h' (am_sz h) [] → Q h') : am_Ew m_Tape_init 1 120 [.ref (am_sz h)] (am_nw h 9 4) Q := by
  refine ev_Tape_init (am_sz h) (am_nw h 9 4) Q ⟨by simp [am_tg_nw, am_sz_nw, zz1, zy1], ?_⟩
  refine k _ rfl (fun b _ hb => ?_) ⟨?_, ?_, ?_, ?_, by simp, fun i b hb => by simp at hb⟩
  · have n0 : b ≠ am_sz h := by omega
    have n1 : b ≠ am_sz h + 1 := by omega
    simp [am_tg_nw, am_tg_si, am_tg_sp, am_sz_nw, am_sz_si, am_sz_sp, am_I_nw, am_I_sp, am_I_si, am_P_nw, am_P_si, am_P_sp, n0, n1]
  · simp [am_tg_nw, am_tg_si, am_tg_sp, am_sz_nw, zz1, zy1]
  · simp [am_tg_nw, am_tg_si, am_tg_sp, am_sz_nw, zz1, zy1]
  · simp [am_P_nw, am_P_si, am_P_sp, am_sz_nw, va_up, zz1, zy1]
  · simp [am_I_nw, am_I_si, am_I_sp, am_sz_nw, va_up, zz1, zy1]
    rfl
theorem mk_Page {h : am_H} {Q : am_H → Prop} (k : ∀ h', am_sz h' = am_sz h + 2 → es h h' 0 (am_sz h) → pgA h' (am_sz h) [] → Q h') : am_Ew m_Page_init 1 256 [.ref (am_sz h)] (am_nw h 0 2) Q := by
  refine ev_Page_init (am_sz h) (am_nw h 0 2) Q ⟨by simp [am_tg_nw, am_sz_nw, zz1, zy1], ?_⟩
  refine k _ rfl (fun b _ hb => ?_) ⟨?_, ?_, ?_, ?_, by simp, fun i b hb => by simp at hb⟩
  · have n0 : b ≠ am_sz h := by omega
    have n1 : b ≠ am_sz h + 1 := by omega
    simp [am_tg_nw, am_tg_si, am_tg_sp, am_sz_nw, am_sz_si, am_sz_sp, am_I_nw, am_I_sp, am_I_si, am_P_nw, am_P_si, am_P_sp, n0, n1]
  · simp [am_tg_nw, am_tg_si, am_tg_sp, am_sz_nw, zz1, zy1]
  · simp [am_tg_nw, am_tg_si, am_tg_sp, am_sz_nw, zz1, zy1]
  · simp [am_P_nw, am_P_si, am_P_sp, am_sz_nw, va_up, zz1, zy1]
  · simp [am_I_nw, am_I_si, am_I_sp, am_sz_nw, va_up, zz1, zy1]
    rfl
theorem mk_Windows {h : am_H} {Q : am_H → Prop} (k : ∀ h', am_sz h' = am_sz h + 10 → es h h' 0 (am_sz h) → wnA h' (am_sz h) → Q h') : am_Ew m_Windows_init 9 156 [.ref (am_sz h)] (am_nw h 10 4) Q := by
  refine ev_Windows_init (am_sz h) (am_nw h 10 4) Q ?_
  refine mk_Spans (N := 24) (h := am_nw h 10 4) (by omega) (fun h1 z1 e1 s1 => ?_)
  rw [am_sz_nw] at z1 e1 s1
  have a1 := e1 (am_sz h) (by omega) (by omega)
  have t0 : am_tg (am_nw h 10 4) (am_sz h) = (10, 4) := by rw [am_tg_nw, if_pos rfl]
  refine ⟨a1.1.trans t0, mk_Spans (N := 24) (h := am_sp h1 (am_sz h) 0 (some (am_sz (am_nw h 10 4)))) (by omega) (fun h3 z3 e3 s3 => ?_)⟩
  rw [am_sz_sp] at z3 e3 s3
  rw [z1] at z3 e3 s3
  have a3 := e3 (am_sz h) (by omega) (by omega)
  refine ⟨a3.1.trans (a1.1.trans t0), mk_Spans (N := 24) (h := am_sp h3 (am_sz h) 1 (some (am_sz h1))) (by omega) (fun h5 z5 e5 s5 => ?_)⟩
  rw [am_sz_sp] at z5 e5 s5
  rw [z3] at z5 e5 s5
  have a5 := e5 (am_sz h) (by omega) (by omega)
  refine ⟨a5.1.trans (a3.1.trans (a1.1.trans t0)), ?_⟩
  have pF : am_P (am_si (am_sp h5 (am_sz h) 2 (some (am_sz h3))) (am_sz h) 3 0) (am_sz h) = va_up (va_up (va_up (am_P h1 (am_sz h)) 0 (some (am_sz h + 1))) 1 (some (am_sz h + 1 + 3))) 2 (some (am_sz h + 1 + 3 + 3)) := by
    rw [am_P_si, am_P_sps, a5.2.2, am_P_sps, a3.2.2, am_P_sps, z1, z3, am_sz_nw]
  refine k _ (by rw [am_sz_si, am_sz_sp, z5]) ?_ ⟨⟨a5.1.trans (a3.1.trans (a1.1.trans t0)), by rw [pF]; rfl, by rw [pF]; rfl, by rw [pF]; rfl⟩, ⟨[], s1.es ?_⟩, ⟨[], s3.es ?_⟩, ⟨[], s5.es ?_⟩⟩
  · exact ((((((es.nw (Nat.le_refl _)).tr (e1.sub (by omega) (by omega))).tr (es.sp (by omega))).tr (e3.sub (by omega) (by omega))).tr (es.sp (by omega))).tr (e5.sub (by omega) (by omega))).tr ((es.sp (by omega)).tr (es.si (by omega)))
  · exact ((((es.sp (by omega)).tr (e3.sub (by omega) (by omega))).tr (es.sp (by omega))).tr (e5.sub (by omega) (by omega))).tr ((es.sp (by omega)).tr (es.si (by omega)))
  · exact ((es.sp (by omega)).tr (e5.sub (by omega) (by omega))).tr ((es.sp (by omega)).tr (es.si (by omega)))
  · exact (es.sp (by omega)).tr (es.si (by omega))
set_option maxRecDepth 20000 in
theorem sg_Planner_init_88x {kc ks : Nat} (a0 : Nat) (x1 : Int32) (h : am_H) (Q : Option Value → am_H → Prop) (hx : 8 ≤ x1) (t : Q none h) : am_EI m_Planner_init kc ks 88 [.ref a0, .int x1] [] h Q := by
  refine am_blk_ok (c := 1) (ini := true) (by decide) rfl (fun _ => rfl) bk_Planner_init_88_2 _ 91 _ _ _ bk_Planner_init_88_2_ok rfl ?_
  show am_EI m_Planner_init kc ks 91 [.ref a0, .int x1] [.int 8, .int x1] h Q
  exact am_ic_ge (tgt := 116) dc_Planner_init_91 (by decide) (fun c1 => am_vret dc_Planner_init_116 rfl t) (fun c1 => absurd hx c1)
theorem mk_Planner {h : am_H} {Q : am_H → Prop} (k : ∀ h', am_sz h' = am_sz h + 49 → es h h' 0 (am_sz h) → plX h' (am_sz h) → Q h') : am_Ew m_Planner_init 48 2880 [.ref (am_sz h)] (am_nw h 1 7) Q := by
  -- the sets of the stops
  have loop : ∀ (n i : Nat) (hb hi : am_H), i + n = 8 → am_sz hi = am_sz h + 25 + 3 * i → es hb hi 0 (am_sz h + 23) → es hb hi (am_sz h + 24) (am_sz h + 25) → am_tg hi (am_sz h + 23) = (38, 8) → (∀ j, j < i → am_P hi (am_sz h + 23) j = some (am_sz h + 25 + 3 * j)) → (∀ j, j < i → spX hi (am_sz h + 25 + 3 * j) 128) → am_tg hb (am_sz h) = (1, 7) → am_P hb (am_sz h) 5 = some (am_sz h + 23) → (∀ h', am_sz h' = am_sz h + 49 → es hb h' 0 (am_sz h + 23) → es hb h' (am_sz h + 24) (am_sz h + 25) → am_tg h' (am_sz h + 23) = (38, 8) → (∀ j, j < 8 → am_P h' (am_sz h + 23) j = some (am_sz h + 25 + 3 * j)) → (∀ j, j < 8 → spX h' (am_sz h + 25 + 3 * j) 128) → Q h') → am_EI m_Planner_init (3 * n) (260 * n) 88 [.ref (am_sz h), .int (ji (i : Int))] [] hi (am_qw Q) := by
    intro n
    induction n with
    | zero =>
      intro i hb hi hn hz e1 e2 t1 p1 s1 tb pb kk
      obtain rfl : i = 8 := by omega
      exact sg_Planner_init_88x (am_sz h) _ hi _ (by decide) (kk hi (by omega) e1 e2 t1 p1 s1)
    | succ n ih =>
      intro i hb hi hn hz e1 e2 t1 p1 s1 tb pb kk
      rw [show 3 * (n + 1) = 3 * n + 2 + 1 by omega, show 260 * (n + 1) = 260 * n + 256 + 4 by omega]
      have a1 := e1 (am_sz h) (by omega) (by omega)
      refine sg_Planner_init_88 (am_sz h) _ hi _ ?_
      rw [jk8, ji_le]
      refine ⟨fun q => absurd q (by omega), fun _ => ⟨a1.1.trans tb, am_sz h + 23, by rw [a1.2.2]; exact pb, mk_Spans (N := 128) (by omega) (fun h2 z2 e3 s3 => ?_)⟩⟩
      have b3 := e3 (am_sz h + 23) (by omega) (by omega)
      have b4 := e3 (am_sz h) (by omega) (by omega)
      refine ⟨by rw [s3.1], by rw [b3.1, t1], by rw [b3.1, t1, ji_in]; omega, ?_⟩
      rw [jk1, ji_add, ji_tn, Int.toNat_natCast, hz]
      refine ih (i + 1) hb _ (by omega) (by rw [am_sz_sp]; omega) ?_ ?_ ?_ (fun j hj => ?_) (fun j hj => ?_) tb pb kk
      · exact (e1.tr (e3.sub (by omega) (by omega))).tr (es.sp (by omega))
      · exact (e2.tr (e3.sub (by omega) (by omega))).tr (es.sp (by omega))
      · rw [am_tg_sp, b3.1]
        exact t1
      · rw [am_P_sps]
        by_cases c : j = i
        · rw [c, va_up_at]
        · rw [va_up_no _ _ c, b3.2.2]
          exact p1 j (by omega)
      · by_cases c : j = i
        · rw [c]
          rw [hz] at s3
          exact ⟨[], s3.es (es.sp (by omega))⟩
        · exact (s1 j (by omega)).es ((e3.sub (by omega) (by omega)).tr (es.sp (by omega)))
  refine am_Ev.of (by decide +kernel) (Nat.le_of_ble_eq_true rfl) (fun v hv => by rw [List.mem_singleton] at hv; rw [hv]; exact trivial) (sg_Planner_init_0 (kc := 24) (ks := 2080) (am_sz h) (am_nw h 1 7) (am_qw Q) ?_)
  refine mk_Windows (h := am_nw h 1 7) (fun h1 z1 e1 s1 => ?_)
  rw [am_sz_nw] at z1 e1 s1
  have a1 := e1 (am_sz h) (by omega) (by omega)
  have t0 : am_tg (am_nw h 1 7) (am_sz h) = (1, 7) := by rw [am_tg_nw, if_pos rfl]
  have t1 := a1.1.trans t0
  refine ⟨t1, mk_Spans (N := 24) (h := am_sp h1 (am_sz h) 0 (some (am_sz (am_nw h 1 7)))) (by omega) (fun h3 z3 e3 s3 => ?_)⟩
  rw [am_sz_sp] at z3 e3 s3
  rw [z1] at z3 e3 s3
  have a3 := e3 (am_sz h) (by omega) (by omega)
  have t3 := a3.1.trans t1
  refine ⟨t3, mk_Spans (N := 24) (h := am_sp h3 (am_sz h) 1 (some (am_sz h1))) (by omega) (fun h5 z5 e5 s5 => ?_)⟩
  rw [am_sz_sp] at z5 e5 s5
  rw [z3] at z5 e5 s5
  have a5 := e5 (am_sz h) (by omega) (by omega)
  have t5 := a5.1.trans t3
  refine ⟨t5, mk_Spans (N := 128) (h := am_sp h5 (am_sz h) 2 (some (am_sz h3))) (by omega) (fun h7 z7 e7 s7 => ?_)⟩
  rw [am_sz_sp] at z7 e7 s7
  rw [z5] at z7 e7 s7
  have a7 := e7 (am_sz h) (by omega) (by omega)
  have t7 := a7.1.trans t5
  refine ⟨t7, mk_Spans (N := 128) (h := am_sp h7 (am_sz h) 3 (some (am_sz h5))) (by omega) (fun h9 z9 e9 s9 => ?_)⟩
  rw [am_sz_sp] at z9 e9 s9
  rw [z7] at z9 e9 s9
  have a9 := e9 (am_sz h) (by omega) (by omega)
  have t9 := a9.1.trans t7
  have zA : am_sz (am_nw (am_sp h9 (am_sz h) 4 (some (am_sz h7))) 38 8) = am_sz h + 24 := by
    rw [am_sz_nw, am_sz_sp, z9]
  have eA : es h9 (am_nw (am_sp h9 (am_sz h) 4 (some (am_sz h7))) 38 8) (am_sz h + 1) (am_sz h + 23) := (es.sp (by omega)).tr (es.nw (by rw [am_sz_sp, z9]; omega))
  have pA : am_P (am_nw (am_sp h9 (am_sz h) 4 (some (am_sz h7))) 38 8) (am_sz h) = va_up (am_P h9 (am_sz h)) 4 (some (am_sz h + 20)) := by
    rw [am_P_nw, if_neg (by rw [am_sz_sp, z9]; omega), am_P_sps, z7]
  have tA : am_tg (am_nw (am_sp h9 (am_sz h) 4 (some (am_sz h7))) 38 8) (am_sz h) = (1, 7) := by
    rw [am_tg_nw, if_neg (by rw [am_sz_sp, z9]; omega), am_tg_sp]
    exact t9
  have tA2 : am_tg (am_nw (am_sp h9 (am_sz h) 4 (some (am_sz h7))) 38 8) (am_sz h + 23) = (38, 8) := by
    rw [am_tg_nw, if_pos (by rw [am_sz_sp, z9])]
  have eA0 : es h9 (am_nw (am_sp h9 (am_sz h) 4 (some (am_sz h7))) 38 8) 0 (am_sz h) := (es.sp (by omega)).tr (es.nw (by rw [am_sz_sp, z9]; omega))
  refine ⟨t9, tA, ?_⟩
  generalize am_nw (am_sp h9 (am_sz h) 4 (some (am_sz h7))) 38 8 = hA at zA eA pA tA tA2 eA0 ⊢
  have zB : am_sz (am_nw (am_sp hA (am_sz h) 5 (some (am_sz h9))) 20 8) = am_sz h + 25 := by rw [am_sz_nw, am_sz_sp, zA]
  have eB : es hA (am_nw (am_sp hA (am_sz h) 5 (some (am_sz h9))) 20 8) (am_sz h + 1) (am_sz h + 24) := (es.sp (by omega)).tr (es.nw (by rw [am_sz_sp, zA]; omega))
  have eB0 : es hA (am_nw (am_sp hA (am_sz h) 5 (some (am_sz h9))) 20 8) 0 (am_sz h) := (es.sp (by omega)).tr (es.nw (by rw [am_sz_sp, zA]; omega))
  have pB : am_P (am_nw (am_sp hA (am_sz h) 5 (some (am_sz h9))) 20 8) (am_sz h) = va_up (am_P hA (am_sz h)) 5 (some (am_sz h + 23)) := by
    rw [am_P_nw, if_neg (by rw [am_sz_sp, zA]; omega), am_P_sps, z9]
  have tB : am_tg (am_nw (am_sp hA (am_sz h) 5 (some (am_sz h9))) 20 8) (am_sz h) = (1, 7) := by
    rw [am_tg_nw, if_neg (by rw [am_sz_sp, zA]; omega), am_tg_sp]
    exact tA
  have tB2 : am_tg (am_nw (am_sp hA (am_sz h) 5 (some (am_sz h9))) 20 8) (am_sz h + 24) = (20, 8) := by
    rw [am_tg_nw, if_pos (by rw [am_sz_sp, zA])]
  refine ⟨tB, ?_⟩
  generalize am_nw (am_sp hA (am_sz h) 5 (some (am_sz h9))) 20 8 = hB at zB eB pB tB tB2 eB0 ⊢
  rw [zA]
  have pC : am_P (am_sp hB (am_sz h) 6 (some (am_sz h + 24))) (am_sz h) = va_up (va_up (va_up (va_up (va_up (va_up (va_up (am_P h1 (am_sz h)) 0 (some (am_sz h + 1))) 1 (some (am_sz h + 11))) 2 (some (am_sz h + 14))) 3 (some (am_sz h + 17))) 4 (some (am_sz h + 20))) 5 (some (am_sz h + 23))) 6 (some (am_sz h + 24)) := by
    rw [am_P_sps, pB, pA, a9.2.2, am_P_sps, a7.2.2, am_P_sps, a5.2.2, am_P_sps, a3.2.2, am_P_sps, z1, z3, z5, am_sz_nw]
  have low : es h (am_sp hB (am_sz h) 6 (some (am_sz h + 24))) 0 (am_sz h) := (((((((((((((es.nw (Nat.le_refl _)).tr (e1.sub (by omega) (by omega))).tr (es.sp (by omega))).tr (e3.sub (by omega) (by omega))).tr (es.sp (by omega))).tr (e5.sub (by omega) (by omega))).tr (es.sp (by omega))).tr (e7.sub (by omega) (by omega))).tr (es.sp (by omega))).tr (e9.sub (by omega) (by omega))).tr eA0).tr eB0)).tr (es.sp (by omega))
  have eT : es h9 (am_sp hB (am_sz h) 6 (some (am_sz h + 24))) (am_sz h + 1) (am_sz h + 23) := (eA.tr (eB.sub (by omega) (by omega))).tr (es.sp (by omega))
  have e79 : es h7 (am_sp hB (am_sz h) 6 (some (am_sz h + 24))) (am_sz h + 1) (am_sz h + 20) := ((es.sp (by omega)).tr (e9.sub (by omega) (by omega))).tr (eT.sub (by omega) (by omega))
  have e59 : es h5 (am_sp hB (am_sz h) 6 (some (am_sz h + 24))) (am_sz h + 1) (am_sz h + 17) := ((es.sp (by omega)).tr (e7.sub (by omega) (by omega))).tr (e79.sub (by omega) (by omega))
  have e39 : es h3 (am_sp hB (am_sz h) 6 (some (am_sz h + 24))) (am_sz h + 1) (am_sz h + 14) := ((es.sp (by omega)).tr (e5.sub (by omega) (by omega))).tr (e59.sub (by omega) (by omega))
  have e19 : es h1 (am_sp hB (am_sz h) 6 (some (am_sz h + 24))) (am_sz h + 1) (am_sz h + 11) := ((es.sp (by omega)).tr (e3.sub (by omega) (by omega))).tr (e39.sub (by omega) (by omega))
  refine loop 8 0 (am_sp hB (am_sz h) 6 (some (am_sz h + 24))) _ rfl (by rw [am_sz_sp, zB]) es.rf es.rf ?_ (fun j hj => absurd hj (by omega)) (fun j hj => absurd hj (by omega)) tB (by rw [pC]; rfl) (fun h' z' f1 f2 tt pp ss => ?_)
  · rw [am_tg_sp, (eB (am_sz h + 23) (by omega) (by omega)).1]
    exact tA2
  · have c0 := f1 (am_sz h) (by omega) (by omega)
    have c24 := f2 (am_sz h + 24) (by omega) (by omega)
    refine k h' z' (low.tr (f1.sub (by omega) (by omega))) ⟨⟨c0.1.trans tB, ?_, ?_, ?_, ?_, ?_, ?_, ?_, tt, c24.1.trans tB2, pp⟩, s1.es (e19.tr (f1.sub (by omega) (by omega))), ⟨[], s3.es ((e39.sub (by omega) (by omega)).tr (f1.sub (by omega) (by omega)))⟩, ⟨[], s5.es ((e59.sub (by omega) (by omega)).tr (f1.sub (by omega) (by omega)))⟩, ⟨[], s7.es ((e79.sub (by omega) (by omega)).tr (f1.sub (by omega) (by omega)))⟩, ⟨[], s9.es ((eT.sub (by omega) (by omega)).tr (f1.sub (by omega) (by omega)))⟩, ss⟩
    all_goals rw [c0.2.2, pC]; rfl
