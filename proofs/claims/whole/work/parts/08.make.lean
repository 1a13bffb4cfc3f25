/-! cells are made -/
theorem am_df : ∀ c, c < 13 → ∀ j, j < am_cN c → defaultValue (am_fy c j) = if am_ir (am_fy c j) = true then .null else .int 0 := by decide +kernel
theorem am_Hr.new {K : am_K} {h : am_H} {H H1 : Heap} {kd n : Nat} (hH : am_Hr K h H) (z : H1.size = K.1 + am_sz h + 1) (o1 : ∀ q : Nat, q < K.1 + am_sz h → H1[q]? = H[q]?) (he : va_at K.2.1 vwCl (K.1 + am_sz h, am_ce K (am_nw h kd n) (am_sz h)) H1) : am_Hr K (am_nw h kd n) H1 := by
  refine ⟨by rw [z, am_sz_nw]; omega, ?_, fun a ha => ?_⟩
  · rw [am_ws_nw]
    refine (hH.2.1.kept (fun k q hk => o1 q.1 ?_)).app (fun k q hk => ?_)
    · have := (hH.2.1 k q hk).lt
      rw [hH.1] at this
      exact this
    · have h0 : k < 1 := (List.getElem?_eq_some_iff.mp hk).1
      rw [show k = 0 by omega] at hk
      cases hk
      exact he
  · rw [am_sz_nw] at ha
    rw [am_tg_nw, if_neg (by omega)]
    exact hH.2.2 a (by omega)
theorem am_Sn {K : am_K} {s : State} {h : am_H} {H H1 : Heap} {locs : List Loc} (hH : am_Hr K h H) (hS : va_S (am_A K) s.heap H locs) (z : H1.size = K.1 + am_sz h + 1) (o1 : ∀ q : Nat, q < K.1 + am_sz h → H1[q]? = H[q]?) : va_S (am_A K) s.heap H1 locs := by
  have h1 := hS.1
  rw [hH.1] at h1
  exact ⟨by omega, fun x h2 h3 => (o1 x (by omega)).trans (hS.2.1 x h2 h3), hS.2.2⟩
theorem am_new {M : am_M} {kc ks pc : Nat} {al as : List Value} {h : am_H} {Q : Option Value → am_H → Prop} {idx ci : Nat} (hd : decode M.2.1 pc = .ok (.new idx, 3)) (hci : ci < 13) (w1 : Cond.classLink M.1.cls idx (am_cR ci) ∈ am_tbl) (w2 : Cond.instantiable (am_cR ci) (am_cN ci) ∈ am_tbl) (w3 : Cond.initialized (am_cR ci) ∈ am_tbl) (kk : am_EI M kc ks (pc + 3) al (.ref (am_sz h) :: as) (am_nw h ci (am_cN ci)) Q) : am_EI M (kc + 1) (ks + am_cN ci) pc al as h Q := by
  intro K p l e R s m args below meth c H locs cells slots ls bc bs QF C hE hc hs hH hS hl
  have hKn := C.2.2.2.2.2.2.1.1.1 ci _ (am_cl_ok ci hci)
  have b1 := C.2.2.2.2.2.2.2.2.2.1
  have b2 := C.2.2.2.2.2.2.2.2.2.2.1
  refine W.newcK C.1 C.2.1 C.2.2.2.1 (C.2.2.2.2.1 _ w1) (C.2.2.2.2.1 _ w2) (C.2.2.2.2.1 _ w3) rfl hd (by omega) (by omega) hKn.2.1 hH.1 fun H1 kC hkC e1 z1 o1 => ?_
  refine kk C hE (by omega) (by omega) (hH.new z1 o1 ?_) (am_Sn hH hS z1 o1) hl
  have ht : am_tg (am_nw h ci (am_cN ci)) (am_sz h) = (ci, am_cN ci) := by rw [am_tg_nw, if_pos rfl]
  rw [am_ce_obj ht hci]
  refine ⟨_, am_cl_ok ci hci, (u_born (am_fy ci) C.2.2.2.2.1 (am_cl_tb hci) hKn hkC e1 (am_cl_ty ci hci)).to (fun j hj => ?_)⟩
  have hj' : j < am_cN ci := hj
  rw [am_df ci hci j hj']
  simp only [vp_V, List.getD_eq_getElem?_getD, List.getElem?_map, List.getElem?_range hj', Option.map_some, Option.getD_some]
  unfold am_fv
  rw [ht, am_P_nw, am_I_nw, if_pos rfl, if_pos rfl]
  by_cases e : am_ir (am_fy ci j) = true
  · simp [e, va_rf]
  · simp [e]
theorem am_newa {M : am_M} {kc ks pc : Nat} {al as : List Value} {h : am_H} {Q : Option Value → am_H → Prop} {at' : ArrayType} {n : Int32} {N kd : Nat} (hd : decode M.2.1 pc = .ok (.newarray at', 2)) (hkd : (kd = 20 ∧ at' = .int) ∨ (kd = 21 ∧ at' = .boolean) ∨ (kd = 22 ∧ at' = .byte) ∨ (kd = 23 ∧ at' = .char)) (w : Cond.arrayClass (newarray.typeOf at') ∈ am_tbl) (hn : ¬ n < 0) (hN : n.toNatClampNeg = N) (hb : N ≤ 100000) (kk : am_EI M kc ks (pc + 2) al (.ref (am_sz h) :: as) (am_nw h kd N) Q) : am_EI M (kc + 1) (ks + N) pc al (.int n :: as) h Q := by
  intro K p l e R s m args below meth c H locs cells slots ls bc bs QF C hE hc hs hH hS hl
  have b1 := C.2.2.2.2.2.2.2.2.2.1
  have b2 := C.2.2.2.2.2.2.2.2.2.2.1
  have hks : kd ∈ am_ks := by rcases hkd with ⟨rfl, -⟩ | ⟨rfl, -⟩ | ⟨rfl, -⟩ | ⟨rfl, -⟩ <;> decide
  have hbytes : N * componentBytes (newarray.typeOf at') ≤ 536870912 := by
    rcases hkd with ⟨-, rfl⟩ | ⟨-, rfl⟩ | ⟨-, rfl⟩ | ⟨-, rfl⟩ <;> simp [newarray.typeOf, componentBytes] <;> omega
  refine va_newaK C.1 C.2.1 (C.2.2.2.2.1 _ w) rfl hd rfl hn hN hbytes (by omega) (by omega) hH.1 fun H1 cA e1 z1 o1 _ hf => ?_
  have hcA : cA = K.2.2.1 kd := by
    have hra := (am_tys_at C.2.2.2.2.2.2.1.1 hks).2
    rcases hkd with ⟨rfl, rfl⟩ | ⟨rfl, rfl⟩ | ⟨rfl, rfl⟩ | ⟨rfl, rfl⟩ <;> exact Option.some.inj (hf.symm.trans hra)
  subst hcA
  refine kk C hE (by omega) (by omega) (hH.new z1 o1 ?_) (am_Sn hH hS z1 o1) hl
  have ht : am_tg (am_nw h kd N) (am_sz h) = (kd, N) := by rw [am_tg_nw, if_pos rfl]
  have h30 : 13 ≤ kd ∧ kd < 30 := by rcases hkd with ⟨rfl, -⟩ | ⟨rfl, -⟩ | ⟨rfl, -⟩ | ⟨rfl, -⟩ <;> decide
  rw [am_ce_int ht h30.1 h30.2, am_I_nw, if_pos rfl]
  show H1[K.1 + am_sz h]? = some (vp_cell _ _)
  rw [e1, vp_cell_i]
  rcases hkd with ⟨-, rfl⟩ | ⟨-, rfl⟩ | ⟨-, rfl⟩ | ⟨-, rfl⟩ <;> rfl
theorem am_anew {M : am_M} {kc ks pc : Nat} {al as : List Value} {h : am_H} {Q : Option Value → am_H → Prop} {idx cb N : Nat} {n : Int32} (hd : decode M.2.1 pc = .ok (.anewarray idx, 3)) (hcb : cb = 2 ∨ cb = 4 ∨ cb = 6 ∨ cb = 7 ∨ cb = 8) (w : Cond.classLink M.1.cls idx (am_cR cb) ∈ am_tbl) (hn : ¬ n < 0) (hN : n.toNatClampNeg = N) (hb : N ≤ 100000) (kk : am_EI M kc ks (pc + 3) al (.ref (am_sz h) :: as) (am_nw h (30 + cb) N) Q) : am_EI M (kc + 1) (ks + N) pc al (.int n :: as) h Q := by
  intro K p l e R s m args below meth c H locs cells slots ls bc bs QF C hE hc hs hH hS hl
  have b1 := C.2.2.2.2.2.2.2.2.2.1
  have b2 := C.2.2.2.2.2.2.2.2.2.2.1
  subst hN
  have hks : 30 + cb ∈ am_ks := by rcases hcb with rfl | rfl | rfl | rfl | rfl <;> decide
  have hty : am_tyK (30 + cb) = .object (am_cR cb) := by rcases hcb with rfl | rfl | rfl | rfl | rfl <;> rfl
  have hov : am_cR cb ∈ am_AOL := by rcases hcb with rfl | rfl | rfl | rfl | rfl <;> decide
  refine W.anew C.1 C.2.1 C.2.2.2.1 (C.2.2.2.2.1 _ w) (va_AO.use (C.2.2.2.2.2.2.1.2.2.1.1 _ hov)) rfl hd rfl hn (by omega) (by omega) (by omega) fun cA kA comp f1 f2 f3 f4 => ?_
  have hcA : cA = K.2.2.1 (30 + cb) := by
    have hra := (am_tys_at C.2.2.2.2.2.2.1.1 hks).2
    rw [hty] at hra
    obtain ⟨_, _, -, -, -, h4⟩ := hra
    exact Option.some.inj (f1.symm.trans h4)
  subst hcA
  generalize hH1 : H.push ({ cls := K.2.2.1 (30 + cb), slots := Array.replicate n.toNatClampNeg .null, vm := .none } : Cell) = H1
  have z0 : H1.size = H.size + 1 := by rw [← hH1, Array.size_push]
  have e0 : H1[H.size]? = some (arrV (K.2.2.1 (30 + cb)) n.toNatClampNeg (fun _ => .null)) := by rw [← hH1, Array.getElem?_push_size, ← arrV_new]
  have o0 : ∀ q : Nat, q < H.size → H1[q]? = H[q]? := fun q hq => by rw [← hH1, Array.getElem?_push, if_neg (Nat.ne_of_lt hq)]
  rw [hH.1] at z0 e0 o0
  have k2 := kk C hE (cells := cells + 1) (slots := slots + n.toNatClampNeg) (by omega) (by omega) (hH.new (n := n.toNatClampNeg) (kd := 30 + cb) z0 o0 (by
    have ht : am_tg (am_nw h (30 + cb) n.toNatClampNeg) (am_sz h) = (30 + cb, n.toNatClampNeg) := by rw [am_tg_nw, if_pos rfl]
    rw [am_ce_ref ht (by omega), am_P_nw, if_pos rfl]
    show H1[K.1 + am_sz h]? = some (vp_cell _ _)
    rw [e0, vp_cell_q]
    rfl)) (am_Sn hH hS z0 o0) hl
  have es : Value.ref H.size = am_cv K (.ref (am_sz h)) := by rw [hH.1]; rfl
  rw [es]
  exact k2
theorem am_oinit {M : am_M} {kc ks pc : Nat} {al : List Value} {h : am_H} {Q : Option Value → am_H → Prop} {idx a : Nat} (hd : decode M.2.1 pc = .ok (.invokespecial idx, 3)) (w1 : Cond.methodLink M.1.cls idx Lib.objectInit ∈ am_tbl) (w2 : Cond.instanceMethod Lib.objectInit ∈ am_tbl) (w3 : Cond.code Lib.objectInit ⟨#[0xb1]⟩ 1 none ∈ am_tbl) (h1 : 1 ≤ M.2.2.2.2.1) (h2 : 20 ≤ M.2.2.2.2.2) (kk : am_EI M kc ks (pc + 3) al [] h Q) : am_EI M kc ks pc al [.ref a] h Q := by
  intro K p l e R s m args below meth c H locs cells slots ls bc bs QF C hE hc hs hH hS hl
  have b1 := C.2.2.2.2.2.2.2.1
  have b2 := C.2.2.2.2.2.2.2.2.1
  exact W.objInit C.1 C.2.1 C.2.2.2.1 (C.2.2.2.2.1 _ w1) (C.2.2.2.2.1 _ w2) (C.2.2.2.2.1 _ w3) (g := F0 m pc ls [.ref (K.1 + a)]) rfl (by rw [C.2.2.1]; exact hl.2.1.1) rfl hd (by omega) (by show _ + 0 + 12 ≤ _; simp [JFrame.monitorRoom]; omega) (kk C hE hc hs hH hS hl)
/-! a method returns -/
theorem am_vret {M : am_M} {kc ks pc : Nat} {al : List Value} {h : am_H} {Q : Option Value → am_H → Prop} (hd : decode M.2.1 pc = .ok (.return_, 1)) (hr : M.2.2.2.1 = none) (hq : Q none h) : am_EI M kc ks pc al [] h Q := by
  intro K p l e R s m args below meth c H locs cells slots ls bc bs QF C hE hc hs hH hS hl
  exact hE none h H locs cells slots pc ls ⟨hd, hr⟩ hq hH hS (by omega) (by omega)
theorem am_nret {M : am_M} {kc ks pc : Nat} {al : List Value} {h : am_H} {Q : Option Value → am_H → Prop} {x : Int32} {ty : FieldType} (hd : decode M.2.1 pc = .ok (.ireturn, 1)) (hr : M.2.2.2.1 = some ty) (hn : narrow ty (.int x) = .int x) (hq : Q (some (.int x)) h) : am_EI M kc ks pc al [.int x] h Q := by
  intro K p l e R s m args below meth c H locs cells slots ls bc bs QF C hE hc hs hH hS hl
  exact hE (some (.int x)) h H locs cells slots pc ls ⟨hd, ty, hr, hn⟩ hq hH hS (by omega) (by omega)
theorem am_iret {M : am_M} {kc ks pc : Nat} {al : List Value} {h : am_H} {Q : Option Value → am_H → Prop} {x : Int32} (hd : decode M.2.1 pc = .ok (.ireturn, 1)) (hr : M.2.2.2.1 = some .int) (hq : Q (some (.int x)) h) : am_EI M kc ks pc al [.int x] h Q := am_nret hd hr rfl hq
theorem am_zret {M : am_M} {kc ks pc : Nat} {al : List Value} {h : am_H} {Q : Option Value → am_H → Prop} {x : Int32} (hd : decode M.2.1 pc = .ok (.ireturn, 1)) (hr : M.2.2.2.1 = some .boolean) (hx : am_b01 x) (hq : Q (some (.int x)) h) : am_EI M kc ks pc al [.int x] h Q := am_nret hd hr (am_b01_nf hx).1 hq
theorem am_aret {M : am_M} {kc ks pc : Nat} {al : List Value} {h : am_H} {Q : Option Value → am_H → Prop} {o : Option Nat} {ty : FieldType} (hd : decode M.2.1 pc = .ok (.areturn, 1)) (hr : M.2.2.2.1 = some ty) (hi : am_ir ty = true) (hq : Q (some (am_rv o)) h) : am_EI M kc ks pc al [am_rv o] h Q := by
  intro K p l e R s m args below meth c H locs cells slots ls bc bs QF C hE hc hs hH hS hl
  cases o with
  | none => exact hE (some .null) h H locs cells slots pc ls ⟨hd, ⟨ty, hr, hi⟩, Or.inl rfl⟩ hq hH hS (by omega) (by omega)
  | some b => exact hE (some (.ref b)) h H locs cells slots pc ls ⟨hd, ⟨ty, hr, hi⟩, Or.inr ⟨_, rfl⟩⟩ hq hH hS (by omega) (by omega)
theorem am_aretC {M : am_M} {kc ks pc : Nat} {al : List Value} {h : am_H} {Q : Option Value → am_H → Prop} {j : Nat} {ty : FieldType} (hd : decode M.2.1 pc = .ok (.areturn, 1)) (hr : M.2.2.2.1 = some ty) (hi : am_ir ty = true) (hj : am_isC j = true) (hq : Q (some (.retAddr j)) h) : am_EI M kc ks pc al [.retAddr j] h Q := by
  intro K p l e R s m args below meth c H locs cells slots ls bc bs QF C hE hc hs hH hS hl
  obtain ⟨a, e1⟩ := am_isC_ref C.2.2.2.2.2.2.1 hj
  exact hE (some (.retAddr j)) h H locs cells slots pc ls ⟨hd, ⟨ty, hr, hi⟩, Or.inr ⟨a, e1⟩⟩ hq hH hS (by omega) (by omega)
