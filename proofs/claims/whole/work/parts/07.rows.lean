theorem am_iald {M : am_M} {kc ks pc : Nat} {al as : List Value} {h : am_H} {Q : Option Value → am_H → Prop} {i : Int32} {a n : Nat} (hd : decode M.2.1 pc = .ok (.iaload, 1)) (ht : am_tg h a = (20, n)) (hin : vp_in i n) (kk : am_EI M kc ks (pc + 1) al (.int (am_I h a i.toNatClampNeg) :: as) h Q) : am_EI M kc ks pc al (.int i :: .ref a :: as) h Q := by
  intro K p l e R s m args below meth c H locs cells slots ls bc bs QF C hE hc hs hH hS hl
  have hlt := am_live hH ht (by omega)
  exact va_iald C.1 C.2.1 C.2.2.2.2.2.2.1.1 hH.2.1 a 0 (by rw [am_ws_at hlt, am_ce_int ht (by omega) (by omega)]) rfl hin hd (kk C hE hc hs hH hS hl)
theorem am_zald {M : am_M} {kc ks pc : Nat} {al as : List Value} {h : am_H} {Q : Option Value → am_H → Prop} {i : Int32} {a n : Nat} (hd : decode M.2.1 pc = .ok (.baload, 1)) (ht : am_tg h a = (21, n)) (hin : vp_in i n) (kk : am_EI M kc ks (pc + 1) al (.int (am_I h a i.toNatClampNeg) :: as) h Q) : am_EI M kc ks pc al (.int i :: .ref a :: as) h Q := by
  intro K p l e R s m args below meth c H locs cells slots ls bc bs QF C hE hc hs hH hS hl
  have hlt := am_live hH ht (by omega)
  exact va_zald C.1 C.2.1 C.2.2.2.2.2.2.1.1 hH.2.1 a 1 (by rw [am_ws_at hlt, am_ce_int ht (by omega) (by omega)]) rfl hin hd (kk C hE hc hs hH hS hl)
theorem am_bald {M : am_M} {kc ks pc : Nat} {al as : List Value} {h : am_H} {Q : Option Value → am_H → Prop} {i : Int32} {a n : Nat} (hd : decode M.2.1 pc = .ok (.baload, 1)) (ht : am_tg h a = (22, n)) (hin : vp_in i n) (kk : am_EI M kc ks (pc + 1) al (.int (am_I h a i.toNatClampNeg) :: as) h Q) : am_EI M kc ks pc al (.int i :: .ref a :: as) h Q := by
  intro K p l e R s m args below meth c H locs cells slots ls bc bs QF C hE hc hs hH hS hl
  have hlt := am_live hH ht (by omega)
  exact va_bald C.1 C.2.1 C.2.2.2.2.2.2.1.1 hH.2.1 a 2 (by rw [am_ws_at hlt, am_ce_int ht (by omega) (by omega)]) rfl hin hd (kk C hE hc hs hH hS hl)
theorem am_cald {M : am_M} {kc ks pc : Nat} {al as : List Value} {h : am_H} {Q : Option Value → am_H → Prop} {i : Int32} {a n : Nat} (hd : decode M.2.1 pc = .ok (.caload, 1)) (ht : am_tg h a = (23, n)) (hin : vp_in i n) (kk : am_EI M kc ks (pc + 1) al (.int (am_I h a i.toNatClampNeg) :: as) h Q) : am_EI M kc ks pc al (.int i :: .ref a :: as) h Q := by
  intro K p l e R s m args below meth c H locs cells slots ls bc bs QF C hE hc hs hH hS hl
  have hlt := am_live hH ht (by omega)
  exact va_cald C.1 C.2.1 C.2.2.2.2.2.2.1.1 hH.2.1 a 3 (by rw [am_ws_at hlt, am_ce_int ht (by omega) (by omega)]) rfl hin hd (kk C hE hc hs hH hS hl)
theorem am_iast {M : am_M} {kc ks pc : Nat} {al as : List Value} {h : am_H} {Q : Option Value → am_H → Prop} {i y : Int32} {a n : Nat} (hd : decode M.2.1 pc = .ok (.iastore, 1)) (ht : am_tg h a = (20, n)) (hin : vp_in i n) (kk : am_EI M kc ks (pc + 1) al as (am_si h a i.toNatClampNeg y) Q) : am_EI M kc ks pc al (.int y :: .int i :: .ref a :: as) h Q := by
  intro K p l e R s m args below meth c H locs cells slots ls bc bs QF C hE hc hs hH hS hl
  have hlt := am_live hH ht (by omega)
  have ha := am_ws_at (K := K) hlt
  rw [am_ce_int ht (by omega) (by omega)] at ha
  refine W.iast C.1 C.2.1 (hH.2.1 a _ ha) ((C.2.2.2.2.2.2.1.1.2 0 _ rfl).1 n (fun j => .int (am_I h a j))) (fun q => by cases q) (by show ¬ (i < 0 ∨ (arrV _ _ _).slots.size ≤ _); rw [arrV_size]; exact hin) rfl rfl hd fun H1 e z oq => ?_
  refine kk C hE hc hs (hH.put hlt rfl (fun _ => rfl) (fun i e => am_I_sin e) (fun _ _ => rfl) z oq ?_) (hS.put z oq (Nat.le_add_right _ _)) hl
  rw [am_ce_int (h := am_si h a i.toNatClampNeg y) (a := a) ht (by omega) (by omega), am_I_sis]
  show H1[K.1 + a]? = some (vp_cell _ _)
  rw [e, vp_cell_i, vp_cell_i, arrV_store]
  congr 2
  funext q
  by_cases hq : q = i.toNatClampNeg
  · subst hq
    simp [updV, va_up]
  · simp [updV, va_up, hq]
theorem am_zast {M : am_M} {kc ks pc : Nat} {al as : List Value} {h : am_H} {Q : Option Value → am_H → Prop} {i y : Int32} {a n : Nat} (hd : decode M.2.1 pc = .ok (.bastore, 1)) (ht : am_tg h a = (21, n)) (hin : vp_in i n) (hy : narrow .boolean (.int y) = .int y) (kk : am_EI M kc ks (pc + 1) al as (am_si h a i.toNatClampNeg y) Q) : am_EI M kc ks pc al (.int y :: .int i :: .ref a :: as) h Q := by
  intro K p l e R s m args below meth c H locs cells slots ls bc bs QF C hE hc hs hH hS hl
  have hlt := am_live hH ht (by omega)
  have ha := am_ws_at (K := K) hlt
  rw [am_ce_int ht (by omega) (by omega)] at ha
  refine W.zast C.1 C.2.1 (hH.2.1 a _ ha) ((C.2.2.2.2.2.2.1.1.2 1 _ rfl).1 n (fun j => .int (am_I h a j))) (fun q => by cases q) (by show ¬ (i < 0 ∨ (arrV _ _ _).slots.size ≤ _); rw [arrV_size]; exact hin) rfl rfl hd fun H1 e z oq => ?_
  refine kk C hE hc hs (hH.put hlt rfl (fun _ => rfl) (fun i e => am_I_sin e) (fun _ _ => rfl) z oq ?_) (hS.put z oq (Nat.le_add_right _ _)) hl
  rw [am_ce_int (h := am_si h a i.toNatClampNeg y) (a := a) ht (by omega) (by omega), am_I_sis]
  show H1[K.1 + a]? = some (vp_cell _ _)
  rw [e, hy, vp_cell_i, vp_cell_i, arrV_store]
  congr 2
  funext q
  by_cases hq : q = i.toNatClampNeg
  · subst hq
    simp [updV, va_up]
  · simp [updV, va_up, hq]
theorem am_bast {M : am_M} {kc ks pc : Nat} {al as : List Value} {h : am_H} {Q : Option Value → am_H → Prop} {i y : Int32} {a n : Nat} (hd : decode M.2.1 pc = .ok (.bastore, 1)) (ht : am_tg h a = (22, n)) (hin : vp_in i n) (hy : narrow .byte (.int y) = .int y) (kk : am_EI M kc ks (pc + 1) al as (am_si h a i.toNatClampNeg y) Q) : am_EI M kc ks pc al (.int y :: .int i :: .ref a :: as) h Q := by
  intro K p l e R s m args below meth c H locs cells slots ls bc bs QF C hE hc hs hH hS hl
  have hlt := am_live hH ht (by omega)
  have ha := am_ws_at (K := K) hlt
  rw [am_ce_int ht (by omega) (by omega)] at ha
  refine W.bast C.1 C.2.1 (hH.2.1 a _ ha) ((C.2.2.2.2.2.2.1.1.2 2 _ rfl).1 n (fun j => .int (am_I h a j))) (fun q => by cases q) (by show ¬ (i < 0 ∨ (arrV _ _ _).slots.size ≤ _); rw [arrV_size]; exact hin) rfl rfl hd fun H1 e z oq => ?_
  refine kk C hE hc hs (hH.put hlt rfl (fun _ => rfl) (fun i e => am_I_sin e) (fun _ _ => rfl) z oq ?_) (hS.put z oq (Nat.le_add_right _ _)) hl
  rw [am_ce_int (h := am_si h a i.toNatClampNeg y) (a := a) ht (by omega) (by omega), am_I_sis]
  show H1[K.1 + a]? = some (vp_cell _ _)
  rw [e, hy, vp_cell_i, vp_cell_i, arrV_store]
  congr 2
  funext q
  by_cases hq : q = i.toNatClampNeg
  · subst hq
    simp [updV, va_up]
  · simp [updV, va_up, hq]
theorem am_cast {M : am_M} {kc ks pc : Nat} {al as : List Value} {h : am_H} {Q : Option Value → am_H → Prop} {i y : Int32} {a n : Nat} (hd : decode M.2.1 pc = .ok (.castore, 1)) (ht : am_tg h a = (23, n)) (hin : vp_in i n) (hy : narrow .char (.int y) = .int y) (kk : am_EI M kc ks (pc + 1) al as (am_si h a i.toNatClampNeg y) Q) : am_EI M kc ks pc al (.int y :: .int i :: .ref a :: as) h Q := by
  intro K p l e R s m args below meth c H locs cells slots ls bc bs QF C hE hc hs hH hS hl
  have hlt := am_live hH ht (by omega)
  have ha := am_ws_at (K := K) hlt
  rw [am_ce_int ht (by omega) (by omega)] at ha
  refine W.cast C.1 C.2.1 (hH.2.1 a _ ha) ((C.2.2.2.2.2.2.1.1.2 3 _ rfl).1 n (fun j => .int (am_I h a j))) (fun q => by cases q) (by show ¬ (i < 0 ∨ (arrV _ _ _).slots.size ≤ _); rw [arrV_size]; exact hin) rfl rfl hd fun H1 e z oq => ?_
  refine kk C hE hc hs (hH.put hlt rfl (fun _ => rfl) (fun i e => am_I_sin e) (fun _ _ => rfl) z oq ?_) (hS.put z oq (Nat.le_add_right _ _)) hl
  rw [am_ce_int (h := am_si h a i.toNatClampNeg y) (a := a) ht (by omega) (by omega), am_I_sis]
  show H1[K.1 + a]? = some (vp_cell _ _)
  rw [e, hy, vp_cell_i, vp_cell_i, arrV_store]
  congr 2
  funext q
  by_cases hq : q = i.toNatClampNeg
  · subst hq
    simp [updV, va_up]
  · simp [updV, va_up, hq]
theorem am_tys_at {K : am_K} {U : State} (hK : va_K K.2.1 vwCl (am_tys K) U) {k : Nat} (hk : k ∈ am_ks) : ArrOfT U (K.2.2.1 k) (am_tyK k) ∧ va_RA U (K.2.2.1 k) (am_tyK k) := by
  have hm : (K.2.2.1 k, am_tyK k) ∈ am_tys K := List.mem_map.mpr ⟨k, hk, rfl⟩
  obtain ⟨i, hi⟩ := List.getElem?_of_mem hm
  exact hK.2 i _ hi
theorem am_aald {M : am_M} {kc ks pc : Nat} {al as : List Value} {h : am_H} {Q : Option Value → am_H → Prop} {i : Int32} {a n k : Nat} (hd : decode M.2.1 pc = .ok (.aaload, 1)) (ht : am_tg h a = (k, n)) (hk : k ∈ am_ks) (h30 : 30 ≤ k) (hin : vp_in i n) (kk : am_EI M kc ks (pc + 1) al (am_rv (am_P h a i.toNatClampNeg) :: as) h Q) : am_EI M kc ks pc al (.int i :: .ref a :: as) h Q := by
  intro K p l e R s m args below meth c H locs cells slots ls bc bs QF C hE hc hs hH hS hl
  have hlt := am_live hH ht (by rintro rfl; exact absurd hk (by decide))
  have ha := am_ws_at (K := K) hlt
  rw [am_ce_ref ht h30] at ha
  have k2 := kk C hE hc hs hH hS hl
  have e : (am_rv (am_P h a i.toNatClampNeg) :: as).map (am_cv K) = va_rf ((am_P h a i.toNatClampNeg).map (K.1 + ·)) :: as.map (am_cv K) := by
    rw [List.map_cons]
    congr 1
    cases am_P h a i.toNatClampNeg <;> rfl
  rw [e] at k2
  have hltn : i.toNatClampNeg < n := Nat.not_le.mp fun q => hin (Or.inr q)
  refine W.aald (v := va_rf ((am_P h a i.toNatClampNeg).map (K.1 + ·))) (ty := am_tyK k) C.1 C.2.1 (hH.2.1 a _ ha) ((am_tys_at C.2.2.2.2.2.2.1.1 hk).1 n _) ?_ (fun q => by cases q) (by show ¬ (i < 0 ∨ (arrV _ _ _).slots.size ≤ _); rw [arrV_size]; exact hin) (by show (arrV _ _ _).slots[_]? = _; rw [arrV_read _ _ hltn]) rfl rfl hd k2
  simp only [am_ks, List.mem_cons, List.not_mem_nil, or_false] at hk
  rcases hk with rfl | rfl | rfl | rfl | rfl | rfl | rfl | rfl | rfl | rfl <;> first | rfl | (exfalso; omega)
/-- an object is put into a row of its class -/
theorem am_aast {M : am_M} {kc ks pc : Nat} {al as : List Value} {h : am_H} {Q : Option Value → am_H → Prop} {i : Int32} {a n b cb nb : Nat} (hd : decode M.2.1 pc = .ok (.aastore, 1)) (ht : am_tg h a = (30 + cb, n)) (hb : am_tg h b = (cb, nb)) (hcb : cb = 2 ∨ cb = 4 ∨ cb = 6 ∨ cb = 7 ∨ cb = 8) (hin : vp_in i n) (kk : am_EI M kc ks (pc + 1) al as (am_sp h a i.toNatClampNeg (some b)) Q) : am_EI M kc ks pc al (.ref b :: .int i :: .ref a :: as) h Q := by
  intro K p l e R s m args below meth c H locs cells slots ls bc bs QF C hE hc hs hH hS hl
  have hc13 : cb < 13 := by omega
  have hks : 30 + cb ∈ am_ks := by rcases hcb with rfl | rfl | rfl | rfl | rfl <;> decide
  have hty : am_tyK (30 + cb) = .object (am_cR cb) := by rcases hcb with rfl | rfl | rfl | rfl | rfl <;> rfl
  have hlt := am_live hH ht (by omega)
  have hltb := am_live hH hb (by omega)
  have ha := am_ws_at (K := K) hlt
  rw [am_ce_ref ht (by omega)] at ha
  have hbb := am_ws_at (K := K) hltb
  rw [am_ce_obj hb hc13] at hbb
  have hcl := am_cl_ok cb hc13
  obtain ⟨r', hr', cellV, g1, g2, g3, -⟩ := hH.2.1 b _ hbb
  have hcls := (C.2.2.2.2.2.2.1.1.1 cb _ hcl).2
  have hra := (am_tys_at C.2.2.2.2.2.2.1.1 hks).2
  rw [hty] at hra
  obtain ⟨kA, comp, k1, k2, k3, -⟩ := hra
  have hcomp : comp = K.2.1.1 cb := Option.some.inj (k3.symm.trans hcls.1)
  subst hcomp
  have hasg := va_assign hcls
  obtain ⟨kC, hkC, -⟩ := hcls.2
  have h0 : ¬ i < 0 := fun q => hin (Or.inl q)
  have hltn : i.toNatClampNeg < n := Nat.not_le.mp fun q => hin (Or.inr q)
  refine W.aast C.1 C.2.1 (hH.2.1 a _ ha) (fun q h => by cases h) (fun h => by cases h) k1 k2 rfl hkC ⟨h0, by show _ < (arrV _ _ _).slots.size; rw [arrV_size]; exact hltn⟩ g1 (fun q h => by rw [g3] at h; cases h) (by rw [g2]; exact hkC) (by rw [g2]; exact hasg) rfl rfl hd fun H1 e z oq => ?_
  refine kk C hE hc hs (hH.put hlt rfl (fun _ => rfl) (fun _ _ => rfl) (fun i e => am_P_spn e) z oq ?_) (hS.put z oq (Nat.le_add_right _ _)) hl
  rw [am_ce_ref (h := am_sp h a i.toNatClampNeg (some b)) (a := a) ht (by omega), am_P_sps]
  show H1[K.1 + a]? = some (vp_cell _ _)
  rw [e, vp_cell_q, vp_cell_q, arrV_store]
  congr 2
  funext q
  by_cases hq : q = i.toNatClampNeg
  · subst hq
    simp [updV, va_up, va_rf]
  · simp [updV, va_up, hq]
/-! constants -/
/-- the contents of a constant row: the bytes of a text (100 ..), the twelfths (200, 201) -/
def am_cb (c : Nat) : List Int32 := if c = 200 then am_OV else if c = 201 then am_NX else ((am_SL[c - 100]?).map (fun q => q.2.2.2)).getD []
theorem am_bald_C {M : am_M} {kc ks pc : Nat} {al as : List Value} {h : am_H} {Q : Option Value → am_H → Prop} {i : Int32} {j : Nat} (hd : decode M.2.1 pc = .ok (.baload, 1)) (hj : j < 30) (hin : vp_in i (am_cb (100 + j)).length) (kk : am_EI M kc ks (pc + 1) al (.int ((am_cb (100 + j)).getD i.toNatClampNeg 0) :: as) h Q) : am_EI M kc ks pc al (.int i :: .retAddr (100 + j) :: as) h Q := by
  intro K p l e R s m args below meth c H locs cells slots ls bc bs QF C hE hc hs hH hS hl
  have hj2 : j < am_SL.length := by rw [am_SL_len]; exact hj
  have hq : am_SL[j]? = some am_SL[j] := List.getElem?_eq_getElem hj2
  have eb : am_cb (100 + j) = (am_SL[j]).2.2.2 := by
    have h1 : ¬ 100 + j = 200 := by omega
    have h2 : ¬ 100 + j = 201 := by omega
    have h3 : 100 + j - 100 = j := by omega
    unfold am_cb
    rw [if_neg h1, if_neg h2, h3, hq]
    rfl
  obtain ⟨a, v, e1, e2, -, -, -, -, e7⟩ := C.2.2.2.2.2.2.1.2.2.2.1 j _ hq
  rw [← eb] at e7
  show W _ _ _ _ _ _ _ _ _ _ _ _ _ _ _ (F0 m pc ls (.int i :: K.2.2.2 (100 + j) :: as.map (am_cv K)))
  rw [e2]
  exact va_tb C.1 C.2.1 e7 hS hin rfl hd (kk C hE hc hs hH hS hl)
theorem am_iald_C {M : am_M} {kc ks pc : Nat} {al as : List Value} {h : am_H} {Q : Option Value → am_H → Prop} {i : Int32} {c : Nat} (hd : decode M.2.1 pc = .ok (.iaload, 1)) (hj : c = 200 ∨ c = 201) (hin : vp_in i (am_cb c).length) (kk : am_EI M kc ks (pc + 1) al (.int ((am_cb c).getD i.toNatClampNeg 0) :: as) h Q) : am_EI M kc ks pc al (.int i :: .retAddr c :: as) h Q := by
  intro K p l e R s m args below meth c' H locs cells slots ls bc bs QF C hE hc hs hH hS hl
  show W _ _ _ _ _ _ _ _ _ _ _ _ _ _ _ (F0 m pc ls (.int i :: K.2.2.2 c :: as.map (am_cv K)))
  rcases hj with rfl | rfl
  · obtain ⟨a, e1, -, e3⟩ := C.2.2.2.2.2.2.1.2.2.2.2.1
    rw [e1]
    exact va_ti C.1 C.2.1 e3 hS hin rfl hd (kk C hE hc hs hH hS hl)
  · obtain ⟨a, e1, -, e3⟩ := C.2.2.2.2.2.2.1.2.2.2.2.2.1
    rw [e1]
    exact va_ti C.1 C.2.1 e3 hS hin rfl hd (kk C hE hc hs hH hS hl)
theorem am_alen_C {M : am_M} {kc ks pc : Nat} {al as : List Value} {h : am_H} {Q : Option Value → am_H → Prop} {c : Nat} (hd : decode M.2.1 pc = .ok (.arraylength, 1)) (hj : c = 200 ∨ c = 201 ∨ (100 ≤ c ∧ c < 130)) (kk : am_EI M kc ks (pc + 1) al (.int (Int32.ofNat (am_cb c).length) :: as) h Q) : am_EI M kc ks pc al (.retAddr c :: as) h Q := by
  intro K p l e R s m args below meth c' H locs cells slots ls bc bs QF C hE hc hs hH hS hl
  show W _ _ _ _ _ _ _ _ _ _ _ _ _ _ _ (F0 m pc ls (K.2.2.2 c :: as.map (am_cv K)))
  rcases hj with rfl | rfl | ⟨h1, h2⟩
  · obtain ⟨a, e1, -, e3⟩ := C.2.2.2.2.2.2.1.2.2.2.2.1
    rw [e1]
    exact va_tlen C.1 C.2.1 e3 hS rfl hd (kk C hE hc hs hH hS hl)
  · obtain ⟨a, e1, -, e3⟩ := C.2.2.2.2.2.2.1.2.2.2.2.2.1
    rw [e1]
    exact va_tlen C.1 C.2.1 e3 hS rfl hd (kk C hE hc hs hH hS hl)
  · obtain ⟨j, rfl⟩ : ∃ j, c = 100 + j := ⟨c - 100, by omega⟩
    have hj : j < am_SL.length := by rw [am_SL_len]; omega
    have hq : am_SL[j]? = some am_SL[j] := List.getElem?_eq_getElem hj
    have eb : am_cb (100 + j) = (am_SL[j]).2.2.2 := by
      have h1 : ¬ 100 + j = 200 := by omega
      have h2 : ¬ 100 + j = 201 := by omega
      have h3 : 100 + j - 100 = j := by omega
      unfold am_cb
      rw [if_neg h1, if_neg h2, h3, hq]
      rfl
    obtain ⟨a, v, e1, e2, -, -, -, -, e7⟩ := C.2.2.2.2.2.2.1.2.2.2.1 j _ hq
    rw [← eb] at e7
    rw [e2]
    exact va_tlen C.1 C.2.1 e7 hS rfl hd (kk C hE hc hs hH hS hl)
theorem am_getV_C {M : am_M} {kc ks pc : Nat} {al as : List Value} {h : am_H} {Q : Option Value → am_H → Prop} {idx j : Nat} (hd : decode M.2.1 pc = .ok (.getfield idx, 3)) (hw : Cond.fieldLink M.1.cls idx "java/lang/String" "value" "[B" ∈ am_tbl) (hj : j < 30) (kk : am_EI M kc ks (pc + 3) al (.retAddr (100 + j) :: as) h Q) : am_EI M kc ks pc al (.retAddr j :: as) h Q := by
  intro K p l e R s m args below meth c H locs cells slots ls bc bs QF C hE hc hs hH hS hl
  have hq : am_SL[j]? = some am_SL[j] := List.getElem?_eq_getElem (by rw [am_SL_len]; exact hj)
  obtain ⟨a, v, e1, e2, -, -, e5, -⟩ := C.2.2.2.2.2.2.1.2.2.2.1 j _ hq
  have k2 := kk C hE hc hs hH hS hl
  rw [am_cvc e2] at k2
  rw [am_cvc e1]
  exact vk_getf C.1 C.2.1 e5 hS C.2.2.2.1 (C.2.2.2.2.1 _ hw) (fun _ h => h) hd k2
theorem am_getC_C {M : am_M} {kc ks pc : Nat} {al as : List Value} {h : am_H} {Q : Option Value → am_H → Prop} {idx j : Nat} (hd : decode M.2.1 pc = .ok (.getfield idx, 3)) (hw : Cond.fieldLink M.1.cls idx "java/lang/String" "coder" "B" ∈ am_tbl) (hj : j < 30) (kk : am_EI M kc ks (pc + 3) al (.int 0 :: as) h Q) : am_EI M kc ks pc al (.retAddr j :: as) h Q := by
  intro K p l e R s m args below meth c H locs cells slots ls bc bs QF C hE hc hs hH hS hl
  have hq : am_SL[j]? = some am_SL[j] := List.getElem?_eq_getElem (by rw [am_SL_len]; exact hj)
  obtain ⟨a, v, e1, e2, -, -, -, e6, -⟩ := C.2.2.2.2.2.2.1.2.2.2.1 j _ hq
  rw [am_cvc e1]
  exact vk_getf C.1 C.2.1 e6 hS C.2.2.2.1 (C.2.2.2.2.1 _ hw) (fun _ h => h) hd (kk C hE hc hs hH hS hl)
theorem am_gets1 {M : am_M} {kc ks pc : Nat} {al as : List Value} {h : am_H} {Q : Option Value → am_H → Prop} {idx : Nat} (hd : decode M.2.1 pc = .ok (.getstatic idx, 3)) (hw : Cond.fieldLink M.1.cls idx "java/lang/String" "COMPACT_STRINGS" "Z" ∈ am_tbl) (kk : am_EI M kc ks (pc + 3) al (.int 1 :: as) h Q) : am_EI M kc ks pc al as h Q := by
  intro K p l e R s m args below meth c H locs cells slots ls bc bs QF C hE hc hs hH hS hl
  exact va_gets C.1 C.2.1 C.2.2.2.2.2.2.1.2.2.2.2.2.2.1 hS C.2.2.2.1 (C.2.2.2.2.1 _ hw) (fun _ h => h) hd (kk C hE hc hs hH hS hl)
theorem am_getsF {M : am_M} {kc ks pc : Nat} {al as : List Value} {h : am_H} {Q : Option Value → am_H → Prop} {idx : Nat} (hd : decode M.2.1 pc = .ok (.getstatic idx, 3)) (hw : Cond.fieldLink M.1.cls idx "jdk/internal/util/Preconditions" "SIOOBE_FORMATTER" "Ljava/util/function/BiFunction;" ∈ am_tbl) (kk : am_EI M kc ks (pc + 3) al (.retAddr 300 :: as) h Q) : am_EI M kc ks pc al as h Q := by
  intro K p l e R s m args below meth c H locs cells slots ls bc bs QF C hE hc hs hH hS hl
  exact va_gets C.1 C.2.1 C.2.2.2.2.2.2.1.2.2.2.2.2.2.2.1 hS C.2.2.2.1 (C.2.2.2.2.1 _ hw) (fun _ h => h) hd (kk C hE hc hs hH hS hl)
theorem am_getsO {M : am_M} {kc ks pc : Nat} {al as : List Value} {h : am_H} {Q : Option Value → am_H → Prop} {idx : Nat} (hd : decode M.2.1 pc = .ok (.getstatic idx, 3)) (hw : Cond.fieldLink M.1.cls idx RX2 "TWELFTHS_OVER" "[I" ∈ am_tbl) (kk : am_EI M kc ks (pc + 3) al (.retAddr 200 :: as) h Q) : am_EI M kc ks pc al as h Q := by
  intro K p l e R s m args below meth c H locs cells slots ls bc bs QF C hE hc hs hH hS hl
  obtain ⟨a, e1, e2, -⟩ := C.2.2.2.2.2.2.1.2.2.2.2.1
  have k2 := kk C hE hc hs hH hS hl
  rw [am_cvc e1] at k2
  exact va_gets C.1 C.2.1 e2 hS C.2.2.2.1 (C.2.2.2.2.1 _ hw) (fun _ h => h) hd k2
theorem am_getsN {M : am_M} {kc ks pc : Nat} {al as : List Value} {h : am_H} {Q : Option Value → am_H → Prop} {idx : Nat} (hd : decode M.2.1 pc = .ok (.getstatic idx, 3)) (hw : Cond.fieldLink M.1.cls idx RX2 "TWELFTHS_NEXT" "[I" ∈ am_tbl) (kk : am_EI M kc ks (pc + 3) al (.retAddr 201 :: as) h Q) : am_EI M kc ks pc al as h Q := by
  intro K p l e R s m args below meth c H locs cells slots ls bc bs QF C hE hc hs hH hS hl
  obtain ⟨a, e1, e2, -⟩ := C.2.2.2.2.2.2.1.2.2.2.2.2.1
  have k2 := kk C hE hc hs hH hS hl
  rw [am_cvc e1] at k2
  exact va_gets C.1 C.2.1 e2 hS C.2.2.2.1 (C.2.2.2.2.1 _ hw) (fun _ h => h) hd k2
