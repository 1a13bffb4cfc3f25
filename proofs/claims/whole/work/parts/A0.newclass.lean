/-! a new object of the class -/
theorem mk_Shift {h : am_H} {Q : am_H → Prop} (k : ∀ h', am_sz h' = am_sz h + 1 → es h h' 0 (am_sz h) → am_tg h' (am_sz h) = (5, 5) → Q h') : am_Ew m_Shift_init 0 0 [.ref (am_sz h)] (am_nw h 5 5) Q := by
  have t0 : am_tg (am_nw h 5 5) (am_sz h) = (5, 5) := by rw [am_tg_nw, if_pos rfl]
  exact ev_Shift_init (am_sz h) (am_nw h 5 5) Q ⟨t0, k _ rfl ((es.nw (Nat.le_refl _)).tr ((((((es.si (by omega)).tr (es.si (by omega))).tr (es.si (by omega))).tr (es.si (by omega))).tr (es.si (by omega))))) t0⟩
/-- a row is made, and a field of the object a says where it is -/
theorem nwsp {h : am_H} {a kd n k : Nat} (ha : a < am_sz h) : am_sz (am_sp (am_nw h kd n) a k (some (am_sz h))) = am_sz h + 1 ∧ am_tg (am_nw h kd n) a = am_tg h a ∧ am_tg (am_sp (am_nw h kd n) a k (some (am_sz h))) a = am_tg h a ∧ am_tg (am_sp (am_nw h kd n) a k (some (am_sz h))) (am_sz h) = (kd, n) ∧ am_P (am_sp (am_nw h kd n) a k (some (am_sz h))) a = va_up (am_P h a) k (some (am_sz h)) ∧ am_I (am_sp (am_nw h kd n) a k (some (am_sz h))) a = am_I h a ∧ es h (am_sp (am_nw h kd n) a k (some (am_sz h))) 0 a ∧ es h (am_sp (am_nw h kd n) a k (some (am_sz h))) (a + 1) (am_sz h) := by
  have t : am_tg (am_nw h kd n) a = am_tg h a := by rw [am_tg_nw, if_neg (by omega)]
  refine ⟨rfl, t, t, ?_, ?_, ?_, ?_, ?_⟩
  · rw [am_tg_sp, am_tg_nw, if_pos rfl]
  · rw [am_P_sps, am_P_nw, if_neg (by omega)]
  · rw [am_I_sp, am_I_nw, if_neg (by omega)]
  · exact (es.nw (by omega)).tr (es.sp (by omega))
  · exact (es.nw (Nat.le_refl _)).tr (es.sp (by omega))
theorem mk_Draft {h : am_H} {Q : am_H → Prop} (k : ∀ h', am_sz h' = am_sz h + 10 → es h h' 0 (am_sz h) → dfA h' (am_sz h) [] → ptA h' (am_sz h + 6) 40 [] → Q h') : am_Ew m_Draft_init 9 207 [.ref (am_sz h)] (am_nw h 3 7) Q := by
  refine ev_Draft_init (am_sz h) (am_nw h 3 7) Q ?_
  obtain ⟨h0, hh0⟩ : ∃ h0, h0 = am_nw h 3 7 := ⟨_, rfl⟩
  have z0 : am_sz h0 = am_sz h + 1 := by rw [hh0]; rfl
  have t0 : am_tg h0 (am_sz h) = (3, 7) := by rw [hh0, am_tg_nw, if_pos rfl]
  have e0 : es h h0 0 (am_sz h) := by rw [hh0]; exact es.nw (Nat.le_refl _)
  rw [← hh0]
  clear hh0
  obtain ⟨z1, u1, t1, v1, p1, i1, e1, f1⟩ := nwsp (h := h0) (a := am_sz h) (kd := 21) (n := 24) (k := 0) (by omega)
  have y1 : am_sz (am_nw h0 21 24) = am_sz h0 + 1 := rfl
  refine ⟨u1.trans t0, ?_⟩
  rw [y1]
  generalize am_sp (am_nw h0 21 24) (am_sz h) 0 (some (am_sz h0)) = h1 at z1 t1 v1 p1 i1 e1 f1 ⊢
  obtain ⟨z2, u2, t2, v2, p2, i2, e2, f2⟩ := nwsp (h := h1) (a := am_sz h) (kd := 20) (n := 24) (k := 1) (by omega)
  have y2 : am_sz (am_nw h1 20 24) = am_sz h1 + 1 := rfl
  rw [z1] at z2 t2 v2 p2 i2 e2 f2 y2
  refine ⟨u2.trans (t1.trans t0), ?_⟩
  rw [y2]
  generalize am_sp (am_nw h1 20 24) (am_sz h) 1 (some (am_sz h0 + 1)) = h2 at z2 t2 v2 p2 i2 e2 f2 ⊢
  obtain ⟨z3, u3, t3, v3, p3, i3, e3, f3⟩ := nwsp (h := h2) (a := am_sz h) (kd := 20) (n := 24) (k := 2) (by omega)
  have y3 : am_sz (am_nw h2 20 24) = am_sz h2 + 1 := rfl
  rw [z2] at z3 t3 v3 p3 i3 e3 f3 y3
  refine ⟨u3.trans (t2.trans (t1.trans t0)), ?_⟩
  rw [y3]
  generalize am_sp (am_nw h2 20 24) (am_sz h) 2 (some (am_sz h0 + 1 + 1)) = h3 at z3 t3 v3 p3 i3 e3 f3 ⊢
  have zz : am_sz (am_si h3 (am_sz h) 3 0) = am_sz h + 4 := by rw [am_sz_si, z3, z0]
  have s1 := mk_Shift (h := am_si h3 (am_sz h) 3 0) (Q := fun h4 => (am_tg h4 (am_sz h) = (3, 7) ∧ (am_Ew m_Shift_init 0 0 [.ref (am_sz h4)] (am_nw (am_sp h4 (am_sz h) 4 (some (am_sz h0 + 1 + 1 + 1))) 5 5) (fun h6 => (am_tg h6 (am_sz h) = (3, 7) ∧ (am_Ew m_Port_init 3 120 [.ref (am_sz h6), .int 40] (am_nw (am_sp h6 (am_sz h) 5 (some (am_sz h4))) 2 5) (fun h8 => (am_tg h8 (am_sz h) = (3, 7) ∧ Q (am_sp h8 (am_sz h) 6 (some (am_sz h6))))))))))) (fun h4 z4 e4 t4 => ?_)
  · rw [zz, show am_sz h + 4 = am_sz h0 + 1 + 1 + 1 by omega] at s1
    exact s1
  rw [zz] at z4 e4 t4
  have a4 := e4 (am_sz h) (by omega) (by omega)
  have tt : am_tg h3 (am_sz h) = (3, 7) := t3.trans (t2.trans (t1.trans t0))
  refine ⟨a4.1.trans tt, mk_Shift (h := am_sp h4 (am_sz h) 4 (some (am_sz h0 + 1 + 1 + 1))) (fun h6 z6 e6 t6 => ?_)⟩
  rw [am_sz_sp] at z6 e6 t6
  rw [z4] at z6 e6 t6
  have a6 := e6 (am_sz h) (by omega) (by omega)
  refine ⟨a6.1.trans (a4.1.trans tt), mk_Port (N := 40) (h := am_sp h6 (am_sz h) 5 (some (am_sz h4))) (by omega) (fun h8 z8 e8 s8 => ?_)⟩
  rw [am_sz_sp] at z8 e8 s8
  rw [z6] at z8 e8 s8
  have a8 := e8 (am_sz h) (by omega) (by omega)
  refine ⟨a8.1.trans (a6.1.trans (a4.1.trans tt)), ?_⟩
  have pF : am_P (am_sp h8 (am_sz h) 6 (some (am_sz h6))) (am_sz h) = va_up (va_up (va_up (va_up (va_up (va_up (am_P h0 (am_sz h)) 0 (some (am_sz h + 1))) 1 (some (am_sz h + 2))) 2 (some (am_sz h + 3))) 4 (some (am_sz h + 4))) 5 (some (am_sz h + 5))) 6 (some (am_sz h + 6)) := by
    rw [am_P_sps, a8.2.2, am_P_sps, a6.2.2, am_P_sps, a4.2.2, am_P_si, p3, p2, p1, z6, z4, z0]
  have iF : am_I (am_sp h8 (am_sz h) 6 (some (am_sz h6))) (am_sz h) 3 = 0 := by
    rw [am_I_sp, a8.2.1, am_I_sp, a6.2.1, am_I_sp, a4.2.1, am_I_sis, va_up_at]
  have eF : es h3 (am_sp h8 (am_sz h) 6 (some (am_sz h6))) (am_sz h + 1) (am_sz h + 4) := ((((((es.si (by omega)).tr (e4.sub (by omega) (by omega))).tr (es.sp (by omega))).tr (e6.sub (by omega) (by omega))).tr (es.sp (by omega))).tr (e8.sub (by omega) (by omega))).tr (es.sp (by omega))
  have eL : es h3 (am_sp h8 (am_sz h) 6 (some (am_sz h6))) 0 (am_sz h) := ((((((es.si (by omega)).tr (e4.sub (by omega) (by omega))).tr (es.sp (by omega))).tr (e6.sub (by omega) (by omega))).tr (es.sp (by omega))).tr (e8.sub (by omega) (by omega))).tr (es.sp (by omega))
  have e46 : es h4 (am_sp h8 (am_sz h) 6 (some (am_sz h6))) (am_sz h + 4) (am_sz h + 5) := ((((es.sp (by omega)).tr (e6.sub (by omega) (by omega))).tr (es.sp (by omega))).tr (e8.sub (by omega) (by omega))).tr (es.sp (by omega))
  have e68 : es h6 (am_sp h8 (am_sz h) 6 (some (am_sz h6))) (am_sz h + 5) (am_sz h + 6) := ((es.sp (by omega)).tr (e8.sub (by omega) (by omega))).tr (es.sp (by omega))
  rw [z0] at v1 v2 v3 f2 f3
  refine k _ (by rw [am_sz_sp, z8]) ((((e0.tr e1).tr e2).tr e3).tr eL) ⟨⟨a8.1.trans (a6.1.trans (a4.1.trans tt)), by rw [pF]; rfl, by rw [pF]; rfl, by rw [pF]; rfl, by rw [pF]; rfl, by rw [pF]; rfl, by rw [pF]; rfl, ?_, ?_, ?_, ?_, ?_⟩, iF, by simp, fun i q hq => by simp at hq⟩ (s8.es (es.sp (by omega)))
  · rw [(eF (am_sz h + 1) (by omega) (by omega)).1, (f3 (am_sz h + 1) (by omega) (by omega)).1, (f2 (am_sz h + 1) (by omega) (by omega)).1]
    exact v1
  · rw [(eF (am_sz h + 2) (by omega) (by omega)).1, (f3 (am_sz h + 2) (by omega) (by omega)).1]
    exact v2
  · rw [(eF (am_sz h + 3) (by omega) (by omega)).1]
    exact v3
  · rw [(e46 (am_sz h + 4) (by omega) (by omega)).1]
    exact t4
  · rw [(e68 (am_sz h + 5) (by omega) (by omega)).1]
    exact t6
