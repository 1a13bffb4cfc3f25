/-! a call -/
def am_CO (M M2 : am_M) : Prop := M2.2.2.2.2.1 + 1 ≤ M.2.2.2.2.1 ∧ 8 + (M2.2.2.1 + 11) + M2.2.2.2.2.2 ≤ M.2.2.2.2.2
/-- what the tables say of a method -/
def am_LM (M2 : am_M) : Prop := Cond.code M2.1 M2.2.1 M2.2.2.1 M2.2.2.2.1 ∈ am_tbl ∧ Cond.initialized M2.1.cls ∈ am_tbl ∧ (M2.1.cls ≠ "java/lang/invoke/MethodHandle" ∧ M2.1.cls ≠ "java/lang/invoke/VarHandle") ∧ plainFor M2.1 = true
def am_np (M2 : am_M) (n : Nat) : Prop := (parseMethodDescriptor M2.1.desc).map (fun d => d.parameters.length) = some n
theorem am_goodM {M2 : am_M} (h : am_LM M2) : GoodIn am_tbl (am_wsM M2) := by
  intro w hw
  rcases List.mem_cons.mp hw with rfl | hw
  · exact ⟨h.1, am_tbl_gd h.1⟩
  · exact ⟨hw, am_tbl_gd hw⟩
theorem am_Pc_blind (K : am_K) (args : List Value) (h : am_H) : FrameBlind (am_Pc K args h) := by
  intro a U g mk q
  obtain ⟨q1, q2, q3⟩ := q
  exact ⟨q1, q2, am_St.same (u := U) rfl q3⟩
theorem am_Pc_pre {K : am_K} {args : List Value} {h : am_H} {s : State} {H : Heap} {locs : List Loc} (hSt : am_St K s s.heap) (hH : am_Hr K h H) (hS : va_S (am_A K) s.heap H locs) : ∀ U : State, U.heap = H → s.WarmedH U.vm → am_Pc K args h (args.map (am_cv K)).toArray U := by
  intro U hU hW
  subst hU
  exact ⟨rfl, hH, (hSt.warm hW).kept (fun a h1 h2 => hS.2.1 a h1 h2)⟩
/-- behind the call -/
theorem am_back {M : am_M} {kc ks k2c k2s pc : Nat} {al as : List Value} {h : am_H} {Q : Option Value → am_H → Prop} {K : am_K} {p : Program} {l : Launch} {e : Env} {R : Room} {s : State} {m : MethodId} {args : Array Value} {below : List Frame} {meth : Method} {c : Code} {H : Heap} {locs : List Loc} {cells slots : Nat} {ls : Array Slot} {bc bs : Nat} {QF : State → Prop} {st0 : List Value} {a2 : Array Value}
    (C : am_Cx K M p R s m args meth c bc bs) (hE : am_En K M p l e R s m args below meth c bc bs QF Q) (hc : cells + (kc + k2c) ≤ bc) (hs : slots + (ks + k2s) ≤ bs) (hH : am_Hr K h H) (hS : va_S (am_A K) s.heap H locs) (hl : am_lr K al M.2.2.1 ls)
    (hr : va_Run p l e R s m args below meth c H locs cells slots k2c k2s (F0 m pc ls st0) (as.map (am_cv K)) (am_Qc K (fun v h' => am_EI M kc ks (pc + 3) al (v.toList ++ as) h' Q) a2) (am_A K)) :
    W p l e R s m args below meth c H locs cells slots QF (F0 m pc ls st0) := by
  intro T hT X
  obtain ⟨v, st₀, t, T', L, h0, X', hL, e1, e2, ⟨v', h', hv, hq, hHr, hz, hk⟩, st⟩ := hr T hT X
  cases hv
  rw [h0] at hz hk
  rw [← e1] at hHr hz hk
  have hS' : va_S (am_A K) s.heap T'.heap (locs ++ L) := ⟨Nat.le_trans hS.1 hz, fun q h1 h2 => by rw [hk q (Nat.lt_of_lt_of_le h1 hS.1) h2]; exact hS.2.1 q h1 h2, fun q hq => by
    rcases List.mem_append.mp hq with h | h
    · exact hS.2.2 q h
    · exact hL q h⟩
  obtain ⟨t2, a1, b1⟩ := hq C hE (cells := cells + k2c) (slots := slots + k2s) (by omega) (by omega) hHr hS' hl T' rfl X'
  refine ⟨t2, st t2 ?_, b1⟩
  have e : (v'.toList ++ as).map (am_cv K) = (v'.map (am_cv K)).toList ++ as.map (am_cv K) := by cases v' <;> rfl
  rw [e] at a1
  exact a1
theorem am_rest {K : am_K} {m : MethodId} {pc : Nat} {ls : Array Slot} {st0 as : List Value} (h : ((as.map (am_cv K)).map fun v => v.category).sum ≤ 8) : 2 * (F0 m pc ls st0).monitorRoom + ((as.map (am_cv K)).map fun v => v.category).sum ≤ 8 := lv_room (m := m) (pc := pc) (ls := ls) (rest := st0) h
/-- the stack below the arguments is short and holds no double words -/
def am_short (as : List Value) : Prop := ∀ K : am_K, ((as.map (am_cv K)).map fun v => v.category).sum ≤ 8
theorem am_stk {K : am_K} {As as : List Value} {w : Value} : (As.reverse ++ w :: as).map (am_cv K) = (As.map (am_cv K)).reverse ++ am_cv K w :: as.map (am_cv K) := by
  rw [List.map_append, List.map_reverse, List.map_cons]
theorem am_callV {M : am_M} {kc ks pc : Nat} {al as : List Value} {h : am_H} {Q : Option Value → am_H → Prop} {M2 : am_M} {idx k2c k2s ci a n : Nat} (As : List Value) (hd : decode M.2.1 pc = .ok (.invokevirtual idx, 3)) (w1 : Cond.methodLink M.1.cls idx M2.1 ∈ am_tbl) (w2 : Cond.instanceMethod M2.1 ∈ am_tbl) (w3 : Cond.selects M2.1.cls M2.1 M2.1 ∈ am_tbl) (hm : am_LM M2) (hnp : am_np M2 As.length) (hco : am_CO M M2) (hsh : am_short as) (hci : ci < 13) (hcl : am_cR ci = M2.1.cls) (ht : am_tg h a = (ci, n))
    (k : am_Ev M2 k2c k2s (.ref a :: As) h (fun v h' => am_EI M kc ks (pc + 3) al (v.toList ++ as) h' Q)) : am_EI M (kc + k2c) (ks + k2s) pc al (As.reverse ++ .ref a :: as) h Q := by
  intro K p l e R s m args below meth c H locs cells slots ls bc bs QF C hE hc hs hH hS hl
  have b1 := C.2.2.2.2.2.2.2.1
  have b2 := C.2.2.2.2.2.2.2.2.1
  have b3 := C.2.2.2.2.2.2.2.2.2.1
  have b4 := C.2.2.2.2.2.2.2.2.2.2.1
  have hlt := am_live hH ht (by omega)
  have he := am_ws_at (K := K) hlt
  rw [am_ce_obj ht hci] at he
  have hcv := va_recv C.2.2.2.2.2.2.1.1 hH.2.1 (am_cl_ok ci hci) he
  have hcv2 : ∃ cell : Cell, H[K.1 + a]? = some cell ∧ cell.vm.isStatics = false ∧ s.vm.findClass M2.1.cls = some cell.cls := by rw [← hcl]; exact hcv
  have hG : GoodIn am_tbl (wsV M.1.cls idx M2.1.cls M2.1 (am_wsM M2)) := by
    intro w hw
    rcases List.mem_append.mp hw with hw | hw
    · simp only [List.mem_cons, List.not_mem_nil, or_false] at hw
      rcases hw with rfl | rfl | rfl | rfl
      · exact ⟨w1, am_tbl_gd w1⟩
      · exact ⟨w2, am_tbl_gd w2⟩
      · exact ⟨w3, am_tbl_gd w3⟩
      · exact ⟨hm.2.1, am_tbl_gd hm.2.1⟩
    · exact am_goodM hm w hw
  have cw : CallW R s args M.1.cls M2.1.cls idx M2.1 M2.2.1 M2.2.2.1 M2.2.2.2.1 (am_wsM M2) (am_rm M2 k2c k2s) k2c k2s As.length := cwV As.length C.2.2.2.2.1 hG rfl rfl rfl ⟨rfl, hm.2.2.1.1, hm.2.2.1.2, hnp⟩ ⟨Nat.le_trans hco.1 b1, Nat.le_trans hco.2 b2⟩
  rw [am_stk]
  exact am_back C hE hc hs hH hS hl (va_runV (As := As.map (am_cv K)) ⟨C.1, C.2.1, C.2.2.1, C.2.2.2.1, C.2.2.2.2.1⟩ (k l K) cw ⟨am_Pc_blind _ _ _, hcv2, am_Pc_pre C.2.2.2.2.2.2.1 hH hS⟩ rfl (by rw [List.length_map]) hl.2.1.1 rfl (am_rest (hsh K)) hd ⟨by omega, by omega⟩)
theorem am_callVC {M : am_M} {kc ks pc : Nat} {al as : List Value} {h : am_H} {Q : Option Value → am_H → Prop} {M2 : am_M} {idx k2c k2s j : Nat} (As : List Value) (hd : decode M.2.1 pc = .ok (.invokevirtual idx, 3)) (w1 : Cond.methodLink M.1.cls idx M2.1 ∈ am_tbl) (w2 : Cond.instanceMethod M2.1 ∈ am_tbl) (w3 : Cond.selects M2.1.cls M2.1 M2.1 ∈ am_tbl) (hm : am_LM M2) (hnp : am_np M2 As.length) (hco : am_CO M M2) (hsh : am_short as) (hcl : M2.1.cls = "java/lang/String") (hj : j < 30)
    (k : am_Ev M2 k2c k2s (.retAddr j :: As) h (fun v h' => am_EI M kc ks (pc + 3) al (v.toList ++ as) h' Q)) : am_EI M (kc + k2c) (ks + k2s) pc al (As.reverse ++ .retAddr j :: as) h Q := by
  intro K p l e R s m args below meth c H locs cells slots ls bc bs QF C hE hc hs hH hS hl
  have b1 := C.2.2.2.2.2.2.2.1
  have b2 := C.2.2.2.2.2.2.2.2.1
  have b3 := C.2.2.2.2.2.2.2.2.2.1
  have b4 := C.2.2.2.2.2.2.2.2.2.2.1
  have hj2 : j < am_SL.length := by rw [am_SL_len]; exact hj
  obtain ⟨a, v, e1, e2, -, e4, -⟩ := C.2.2.2.2.2.2.1.2.2.2.1 j _ (List.getElem?_eq_getElem hj2)
  have e4 := e4.kept (fun q h1 h2 => hS.2.1 q h1 h2)
  have hcv2 : ∃ cell : Cell, H[a]? = some cell ∧ cell.vm.isStatics = false ∧ s.vm.findClass M2.1.cls = some cell.cls := by
    obtain ⟨cell, c1, c2, c3, -⟩ := e4
    exact ⟨cell, c1, c2, by rw [hcl]; exact c3⟩
  have hG : GoodIn am_tbl (wsV M.1.cls idx M2.1.cls M2.1 (am_wsM M2)) := by
    intro w hw
    rcases List.mem_append.mp hw with hw | hw
    · simp only [List.mem_cons, List.not_mem_nil, or_false] at hw
      rcases hw with rfl | rfl | rfl | rfl
      · exact ⟨w1, am_tbl_gd w1⟩
      · exact ⟨w2, am_tbl_gd w2⟩
      · exact ⟨w3, am_tbl_gd w3⟩
      · exact ⟨hm.2.1, am_tbl_gd hm.2.1⟩
    · exact am_goodM hm w hw
  have cw : CallW R s args M.1.cls M2.1.cls idx M2.1 M2.2.1 M2.2.2.1 M2.2.2.2.1 (am_wsM M2) (am_rm M2 k2c k2s) k2c k2s As.length := cwV As.length C.2.2.2.2.1 hG rfl rfl rfl ⟨rfl, hm.2.2.1.1, hm.2.2.1.2, hnp⟩ ⟨Nat.le_trans hco.1 b1, Nat.le_trans hco.2 b2⟩
  have ea : am_cv K (.retAddr j) = .ref a := e1
  have hpre : ∀ U : State, U.heap = H → s.WarmedH U.vm → am_Pc K (.retAddr j :: As) h (Value.ref a :: As.map (am_cv K)).toArray U := by
    have := am_Pc_pre (args := .retAddr j :: As) C.2.2.2.2.2.2.1 hH hS
    rw [List.map_cons, ea] at this
    exact this
  rw [am_stk, ea]
  exact am_back C hE hc hs hH hS hl (va_runV (As := As.map (am_cv K)) ⟨C.1, C.2.1, C.2.2.1, C.2.2.2.1, C.2.2.2.2.1⟩ (k l K) cw ⟨am_Pc_blind _ _ _, hcv2, hpre⟩ rfl (by rw [List.length_map]) hl.2.1.1 rfl (am_rest (hsh K)) hd ⟨by omega, by omega⟩)
theorem am_callS {M : am_M} {kc ks pc : Nat} {al as : List Value} {h : am_H} {Q : Option Value → am_H → Prop} {M2 : am_M} {idx k2c k2s : Nat} (As : List Value) (hd : decode M.2.1 pc = .ok (.invokestatic idx, 3)) (w1 : Cond.methodLink M.1.cls idx M2.1 ∈ am_tbl) (w2 : Cond.static M2.1 ∈ am_tbl) (hm : am_LM M2) (hnp : am_np M2 As.length) (hco : am_CO M M2) (hsh : am_short as)
    (k : am_Ev M2 k2c k2s As h (fun v h' => am_EI M kc ks (pc + 3) al (v.toList ++ as) h' Q)) : am_EI M (kc + k2c) (ks + k2s) pc al (As.reverse ++ as) h Q := by
  intro K p l e R s m args below meth c H locs cells slots ls bc bs QF C hE hc hs hH hS hl
  have b1 := C.2.2.2.2.2.2.2.1
  have b2 := C.2.2.2.2.2.2.2.2.1
  have b3 := C.2.2.2.2.2.2.2.2.2.1
  have b4 := C.2.2.2.2.2.2.2.2.2.2.1
  have hG : GoodIn am_tbl (va_wsS M.1.cls idx M2.1 (am_wsM M2)) := by
    intro w hw
    rcases List.mem_append.mp hw with hw | hw
    · simp only [List.mem_cons, List.not_mem_nil, or_false] at hw
      rcases hw with rfl | rfl | rfl
      · exact ⟨w1, am_tbl_gd w1⟩
      · exact ⟨w2, am_tbl_gd w2⟩
      · exact ⟨hm.2.1, am_tbl_gd hm.2.1⟩
    · exact am_goodM hm w hw
  have cw := va_cwS (R := R) (s := s) (args := args) (own := M.1.cls) (index := idx) (y := M2.1) (bytes := M2.2.1) (maxL := M2.2.2.1) (ret := M2.2.2.2.1) (rm := am_rm M2 k2c k2s) As.length C.2.2.2.2.1 hG rfl rfl rfl ⟨hm.2.2.1.1, hm.2.2.1.2, hnp⟩ ⟨Nat.le_trans hco.1 b1, Nat.le_trans hco.2 b2⟩
  rw [List.map_append, List.map_reverse]
  exact am_back C hE hc hs hH hS hl (va_runS (As := As.map (am_cv K)) ⟨C.1, C.2.1, C.2.2.1, C.2.2.2.1, C.2.2.2.2.1⟩ (k l K) cw ⟨am_Pc_blind _ _ _, am_Pc_pre C.2.2.2.2.2.2.1 hH hS⟩ rfl (by rw [List.length_map]) hl.2.1.1 rfl (am_rest (hsh K)) hd ⟨by omega, by omega⟩)
theorem am_callI {M : am_M} {kc ks pc : Nat} {al as : List Value} {h : am_H} {Q : Option Value → am_H → Prop} {M2 : am_M} {idx k2c k2s a : Nat} (As : List Value) (hd : decode M.2.1 pc = .ok (.invokespecial idx, 3)) (w1 : Cond.methodLink M.1.cls idx M2.1 ∈ am_tbl) (w2 : Cond.instanceMethod M2.1 ∈ am_tbl) (hy : M2.1.name = "<init>") (hrn : M2.2.2.2.1 = none) (hm : am_LM M2) (hnp : am_np M2 As.length) (hco : am_CO M M2) (hsh : am_short as)
    (k : am_Ev M2 k2c k2s (.ref a :: As) h (fun v h' => am_EI M kc ks (pc + 3) al (v.toList ++ as) h' Q)) : am_EI M (kc + k2c) (ks + k2s) pc al (As.reverse ++ .ref a :: as) h Q := by
  intro K p l e R s m args below meth c H locs cells slots ls bc bs QF C hE hc hs hH hS hl
  have b1 := C.2.2.2.2.2.2.2.1
  have b2 := C.2.2.2.2.2.2.2.2.1
  have b3 := C.2.2.2.2.2.2.2.2.2.1
  have b4 := C.2.2.2.2.2.2.2.2.2.2.1
  have cw := cwI (R := R) (s := s) (args := args) (own := M.1.cls) (index := idx) (y := M2.1) (bytes := M2.2.1) (maxL := M2.2.2.1) (rm := am_rm M2 k2c k2s) As.length C.2.2.2.2.1 (am_goodM hm) (ws' := am_tbl) (by unfold am_wsM; rw [hrn]) rfl rfl (C.2.2.2.2.1 _ hm.2.1) (C.2.2.2.2.1 _ w1) (C.2.2.2.2.1 _ w2) hy ⟨hm.2.2.1.1, hm.2.2.1.2, hnp⟩ ⟨Nat.le_trans hco.1 b1, Nat.le_trans hco.2 b2⟩
  rw [am_stk]
  exact am_back C hE hc hs hH hS hl (va_runI (As := As.map (am_cv K)) ⟨C.1, C.2.1, C.2.2.1, C.2.2.2.1, C.2.2.2.2.1⟩ (k l K) cw ⟨am_Pc_blind _ _ _, am_Pc_pre (args := .ref a :: As) C.2.2.2.2.2.2.1 hH hS⟩ rfl (by rw [List.length_map]) hl.2.1.1 rfl (am_rest (hsh K)) hd ⟨by omega, by omega⟩)
theorem am_callIN {M : am_M} {kc ks pc : Nat} {al as : List Value} {h : am_H} {Q : Option Value → am_H → Prop} {M2 : am_M} {idx k2c k2s a : Nat} {host : String} (As : List Value) (hd : decode M.2.1 pc = .ok (.invokespecial idx, 3)) (w1 : (M.1.cls, idx, M2.1, host) ∈ am_NL) (w2 : Cond.instanceMethod M2.1 ∈ am_tbl) (hy : M2.1.name = "<init>") (hrn : M2.2.2.2.1 = none) (hm : am_LM M2) (hnp : am_np M2 As.length) (hco : am_CO M M2) (hsh : am_short as)
    (k : am_Ev M2 k2c k2s (.ref a :: As) h (fun v h' => am_EI M kc ks (pc + 3) al (v.toList ++ as) h' Q)) : am_EI M (kc + k2c) (ks + k2s) pc al (As.reverse ++ .ref a :: as) h Q := by
  intro K p l e R s m args below meth c H locs cells slots ls bc bs QF C hE hc hs hH hS hl
  have b1 := C.2.2.2.2.2.2.2.1
  have b2 := C.2.2.2.2.2.2.2.2.1
  have b3 := C.2.2.2.2.2.2.2.2.2.1
  have b4 := C.2.2.2.2.2.2.2.2.2.2.1
  have cw := va_cnB (R := R) (s := s) (args := args) (own := M.1.cls) (host := host) (index := idx) (y := M2.1) (bytes := M2.2.1) (maxL := M2.2.2.1) (ret := none) (rm := am_rm M2 k2c k2s) As.length C.2.2.2.2.1 (am_goodM hm) (ws' := am_tbl) (by unfold am_wsM; rw [hrn]) rfl rfl (C.2.2.2.2.2.2.1.2.1 _ w1) (C.2.2.2.2.1 _ hm.2.1) ⟨hm.2.2.1.1, hm.2.2.1.2, hnp⟩ ⟨Nat.le_trans hco.1 b1, Nat.le_trans hco.2 b2⟩
  rw [am_stk]
  exact am_back C hE hc hs hH hS hl (va_runIN (As := As.map (am_cv K)) ⟨C.1, C.2.1, C.2.2.1, C.2.2.2.1, C.2.2.2.2.1⟩ (k l K) ⟨cw, hy, C.2.2.2.2.1 _ w2⟩ ⟨am_Pc_blind _ _ _, am_Pc_pre (args := .ref a :: As) C.2.2.2.2.2.2.1 hH hS⟩ rfl (by rw [List.length_map]) hl.2.1.1 rfl (am_rest (hsh K)) hd ⟨by omega, by omega⟩)
/-! a method's body -/
def am_arg (v : Value) : Prop := match v with
  | .int _ => True
  | .ref _ => True
  | .null => True
  | .retAddr c => am_isC c = true ∨ c = 300
  | _ => False
theorem am_arg_cat {K : am_K} {U : State} {H : Heap} (hS : am_St K U H) {v : Value} (hv : am_arg v) : (am_cv K v).category = 1 := by
  cases v with
  | retAddr c =>
    show (K.2.2.2 c).category = 1
    rcases hv with hv | rfl
    · obtain ⟨a, e⟩ := am_isC_ref hS hv
      rw [e]; rfl
    · rcases hS.2.2.2.2.2.2.2.2 with e | ⟨a, e⟩ <;> rw [e] <;> rfl
  | int x => rfl
  | ref x => rfl
  | null => rfl
  | long x => exact hv.elim
  | float x => exact hv.elim
  | double x => exact hv.elim
theorem am_args_in : ∀ (vs : List Value) (k i : Nat) (v : Value), (∀ w ∈ vs, w.category = 1) → vs[i]? = some v → (k + i, v) ∈ lv_args k vs
  | [], _, i, v, _, h => by simp at h
  | w :: vs, k, 0, v, hc, h => by
    simp at h
    subst h
    exact List.mem_cons_self
  | w :: vs, k, i + 1, v, hc, h => by
    have h1 : w.category = 1 := hc w List.mem_cons_self
    have h2 := am_args_in vs (k + 1) i v (fun z hz => hc z (List.mem_cons_of_mem _ hz)) (by simpa using h)
    refine List.mem_cons_of_mem _ ?_
    rw [if_neg (by omega), show k + (i + 1) = k + 1 + i by omega]
    exact h2
theorem am_sl_len : ∀ vs : List Value, (∀ w ∈ vs, w.category = 1) → (lg_sl vs).length = vs.length
  | [], _ => rfl
  | w :: vs, hc => by
    have h1 : w.category = 1 := hc w List.mem_cons_self
    have h2 := am_sl_len vs (fun z hz => hc z (List.mem_cons_of_mem _ hz))
    unfold lg_sl at h2 ⊢
    rw [List.flatMap_cons, if_neg (by omega), List.length_append, h2]
    simp
    omega
theorem am_Ev.of {M : am_M} {kc ks : Nat} {args : List Value} {h : am_H} {Q : Option Value → am_H → Prop} (hy : plainFor M.1 = true) (hn : args.length ≤ M.2.2.1) (ha : ∀ v ∈ args, am_arg v) (k : am_EI M kc ks 0 (args ++ List.replicate (M.2.2.1 - args.length) (.float 0)) [] h Q) : am_Ev M kc ks args h Q := by
  intro l K
  refine va_MetF (cc := M.2.1) (maxL := M.2.2.1) (ret := M.2.2.2.1) (ws' := am_tbl) hy rfl ?_
  intro p e s m args' below meth c s₁ B hml hv
  obtain ⟨rfl, hH, hSt⟩ := hv
  have hts := atoms_spec (ws := am_wsM M) B.pre
  have hcat : ∀ w ∈ args.map (am_cv K), w.category = 1 := by
    intro w hw
    obtain ⟨v, hv, rfl⟩ := List.mem_map.mp hw
    exact am_arg_cat hSt (ha v hv)
  have hlen := am_sl_len _ hcat
  rw [List.length_map] at hlen
  have hl := lv_entry (args.map (am_cv K)) (n := M.2.2.1) (by rw [hlen]; exact hn)
  rw [lg_entry_eq]
  generalize (lg_sl (args.map (am_cv K)) ++ List.replicate (M.2.2.1 - (lg_sl (args.map (am_cv K))).length) Slot.unset).toArray = ls at hl ⊢
  have key : ∀ q ∈ am_lp K (args ++ List.replicate (M.2.2.1 - args.length) (.float 0)), q ∈ lv_args 0 (args.map (am_cv K)) := by
    rintro ⟨i, w⟩ hq
    obtain ⟨v, hv, hf, rfl⟩ := am_lp_in.mp hq
    by_cases hi : i < args.length
    · rw [List.getElem?_append_left hi] at hv
      have h2 := am_args_in (args.map (am_cv K)) 0 i (am_cv K v) hcat (by rw [List.getElem?_map, hv]; rfl)
      rwa [Nat.zero_add] at h2
    · rw [List.getElem?_append_right (by omega)] at hv
      have := List.eq_of_mem_replicate (List.mem_of_getElem? hv)
      exact absurd this (hf 0)
  have hlr : am_lr K (args ++ List.replicate (M.2.2.1 - args.length) (.float 0)) M.2.2.1 ls := by
    refine ⟨by simp; omega, ⟨hl.1, hl.2.1, fun q hq => hl.2.2 q (key q hq)⟩, fun q hq => ?_⟩
    obtain ⟨i, w⟩ := q
    obtain ⟨v, hv, hf, rfl⟩ := am_lp_in.mp hq
    rcases List.mem_append.mp (List.mem_of_getElem? hv) with h1 | h1
    · exact am_arg_cat hSt (ha v h1)
    · exact absurd (List.eq_of_mem_replicate h1) (hf 0)
  refine k (K := K) (bc := kc) (bs := ks) (cells := 0) (slots := 0) ⟨B.exec, B.bytes, hml, findClass_of_methodNamed B.named, fun w hw => hts w (List.mem_cons_of_mem _ hw), (name_of_methodNamed B.named B.method).1, hSt, Nat.le_refl _, Nat.le_refl _, Nat.le_refl _, Nat.le_refl _, by rw [hH.1]; omega⟩ ?_ (by omega) (by omega) hH va_S.rf hlr
  have hlocks := B.notSynchronized
  intro v h' H locs cells slots pc ls hm hq hHr hS hc hs
  refine W.widen hc hs ?_
  match v, hm with
  | none, hm => exact W.vret B.exec B.bytes (B.returns.trans hm.2) (fun t ht hW => ⟨none, h', rfl, hq, by rw [ht]; exact hHr, hS.F ht⟩) hS.2.2 hm.1 hlocks
  | some (.int x), hm =>
    obtain ⟨hd, ty, hr, hnr⟩ := hm
    exact W.zret B.exec B.bytes (B.returns.trans hr) hnr (fun t ht hW => ⟨some (.int x), h', rfl, hq, by rw [ht]; exact hHr, hS.F ht⟩) hS.2.2 hd hlocks
  | some .null, hm =>
    obtain ⟨hd, ⟨ty, hr, hi⟩, hv⟩ := hm
    refine W.aret B.exec B.bytes (B.returns.trans hr) ?_ hv (fun t ht hW => ⟨some .null, h', rfl, hq, by rw [ht]; exact hHr, hS.F ht⟩) hS.2.2 hd hlocks
    cases ty <;> first | exact Or.inl ⟨_, rfl⟩ | exact Or.inr ⟨_, rfl⟩ | cases hi
  | some (.ref x), hm =>
    obtain ⟨hd, ⟨ty, hr, hi⟩, hv⟩ := hm
    refine W.aret B.exec B.bytes (B.returns.trans hr) ?_ hv (fun t ht hW => ⟨some (.ref x), h', rfl, hq, by rw [ht]; exact hHr, hS.F ht⟩) hS.2.2 hd hlocks
    cases ty <;> first | exact Or.inl ⟨_, rfl⟩ | exact Or.inr ⟨_, rfl⟩ | cases hi
  | some (.retAddr x), hm =>
    obtain ⟨hd, ⟨ty, hr, hi⟩, hv⟩ := hm
    refine W.aret B.exec B.bytes (B.returns.trans hr) ?_ hv (fun t ht hW => ⟨some (.retAddr x), h', rfl, hq, by rw [ht]; exact hHr, hS.F ht⟩) hS.2.2 hd hlocks
    cases ty <;> first | exact Or.inl ⟨_, rfl⟩ | exact Or.inr ⟨_, rfl⟩ | cases hi
  | some (.long x), hm => rcases hm.2.2 with h | ⟨a, h⟩ <;> cases h
  | some (.float x), hm => rcases hm.2.2 with h | ⟨a, h⟩ <;> cases h
  | some (.double x), hm => rcases hm.2.2 with h | ⟨a, h⟩ <;> cases h
