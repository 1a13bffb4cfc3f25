/-! ONE INSTRUCTION, A ROW: am_EI at pc out of am_EI behind it -/
theorem am_iconst {M : am_M} {kc ks pc : Nat} {al as : List Value} {h : am_H} {Q : Option Value → am_H → Prop} {n : Int} {v : Int32} (hd : decode M.2.1 pc = .ok (.iconst n, 1)) (hv : Int32.ofInt n = v) (k : am_EI M kc ks (pc + 1) al (.int v :: as) h Q) : am_EI M kc ks pc al as h Q := by
  intro K p l e R s m args below meth c H locs cells slots ls bc bs QF C hE hc hs hH hS hl
  exact lv_iconst C.1 C.2.1 hd hv (k C hE hc hs hH hS hl)
theorem am_bipush {M : am_M} {kc ks pc : Nat} {al as : List Value} {h : am_H} {Q : Option Value → am_H → Prop} {n : Int} {v : Int32} (hd : decode M.2.1 pc = .ok (.bipush n, 2)) (hv : (Int8.ofInt n).toInt32 = v) (k : am_EI M kc ks (pc + 2) al (.int v :: as) h Q) : am_EI M kc ks pc al as h Q := by
  intro K p l e R s m args below meth c H locs cells slots ls bc bs QF C hE hc hs hH hS hl
  exact lv_bipush C.1 C.2.1 hd hv (k C hE hc hs hH hS hl)
theorem am_sipush {M : am_M} {kc ks pc : Nat} {al as : List Value} {h : am_H} {Q : Option Value → am_H → Prop} {n : Int} {v : Int32} (hd : decode M.2.1 pc = .ok (.sipush n, 3)) (hv : (Int16.ofInt n).toInt32 = v) (k : am_EI M kc ks (pc + 3) al (.int v :: as) h Q) : am_EI M kc ks pc al as h Q := by
  intro K p l e R s m args below meth c H locs cells slots ls bc bs QF C hE hc hs hH hS hl
  exact lv_sipush C.1 C.2.1 hd hv (k C hE hc hs hH hS hl)
theorem am_ldc {M : am_M} {kc ks pc : Nat} {al as : List Value} {h : am_H} {Q : Option Value → am_H → Prop} {idx : Nat} {v : Int32} (hd : decode M.2.1 pc = .ok (.ldc idx, 2)) (hw : Cond.constant M.1.cls idx v ∈ am_tbl) (k : am_EI M kc ks (pc + 2) al (.int v :: as) h Q) : am_EI M kc ks pc al as h Q := by
  intro K p l e R s m args below meth c H locs cells slots ls bc bs QF C hE hc hs hH hS hl
  exact lv_ldc C.1 C.2.1 C.2.2.2.1 (C.2.2.2.2.1 _ hw) hd (k C hE hc hs hH hS hl)
theorem am_ldcw {M : am_M} {kc ks pc : Nat} {al as : List Value} {h : am_H} {Q : Option Value → am_H → Prop} {idx : Nat} {v : Int32} (hd : decode M.2.1 pc = .ok (.ldc_w idx, 3)) (hw : Cond.constant M.1.cls idx v ∈ am_tbl) (k : am_EI M kc ks (pc + 3) al (.int v :: as) h Q) : am_EI M kc ks pc al as h Q := by
  intro K p l e R s m args below meth c H locs cells slots ls bc bs QF C hE hc hs hH hS hl
  exact lv_ldcw C.1 C.2.1 C.2.2.2.1 (C.2.2.2.2.1 _ hw) hd (k C hE hc hs hH hS hl)
theorem am_ldcS {M : am_M} {kc ks pc : Nat} {al as : List Value} {h : am_H} {Q : Option Value → am_H → Prop} {idx j : Nat} {tx : String} {bs : List Int32} (hd : decode M.2.1 pc = .ok (.ldc idx, 2)) (hj : am_SL[j]? = some (M.1.cls, idx, tx, bs)) (k : am_EI M kc ks (pc + 2) al (.retAddr j :: as) h Q) : am_EI M kc ks pc al as h Q := by
  intro K p l e R s m args below meth c H locs cells slots ls bc bs QF C hE hc hs hH hS hl
  obtain ⟨a, v, e1, e2, e3, -⟩ := C.2.2.2.2.2.2.1.2.2.2.1 j _ hj
  have kk := k C hE hc hs hH hS hl
  have e : (Value.retAddr j :: as).map (am_cv K) = .ref a :: as.map (am_cv K) := by
    rw [List.map_cons]
    exact congrArg (· :: _) e1
  rw [e] at kk
  exact va_ldcS C.1 C.2.1 C.2.2.2.1 e3 hd kk
theorem am_null {M : am_M} {kc ks pc : Nat} {al as : List Value} {h : am_H} {Q : Option Value → am_H → Prop} (hd : decode M.2.1 pc = .ok (.aconst_null, 1)) (k : am_EI M kc ks (pc + 1) al (.null :: as) h Q) : am_EI M kc ks pc al as h Q := by
  intro K p l e R s m args below meth c H locs cells slots ls bc bs QF C hE hc hs hH hS hl
  exact lv_null C.1 C.2.1 hd (k C hE hc hs hH hS hl)
theorem am_iload_n {M : am_M} {kc ks pc : Nat} {al as : List Value} {h : am_H} {Q : Option Value → am_H → Prop} {n : Fin 4} {y : Int32} (hd : decode M.2.1 pc = .ok (.iload_n n, 1)) (hy : al[(n : Nat)]? = some (.int y)) (k : am_EI M kc ks (pc + 1) al (.int y :: as) h Q) : am_EI M kc ks pc al as h Q := by
  intro K p l e R s m args below meth c H locs cells slots ls bc bs QF C hE hc hs hH hS hl
  exact lv_iload_n C.1 C.2.1 hd rfl (hl.at hy (fun _ q => by cases q)) (k C hE hc hs hH hS hl)
theorem am_iload {M : am_M} {kc ks pc : Nat} {al as : List Value} {h : am_H} {Q : Option Value → am_H → Prop} {n : Nat} {y : Int32} (hd : decode M.2.1 pc = .ok (.iload n, 2)) (hy : al[n]? = some (.int y)) (k : am_EI M kc ks (pc + 2) al (.int y :: as) h Q) : am_EI M kc ks pc al as h Q := by
  intro K p l e R s m args below meth c H locs cells slots ls bc bs QF C hE hc hs hH hS hl
  exact lv_iload C.1 C.2.1 hd (hl.at hy (fun _ q => by cases q)) (k C hE hc hs hH hS hl)
theorem am_aload_n {M : am_M} {kc ks pc : Nat} {al as : List Value} {h : am_H} {Q : Option Value → am_H → Prop} {n : Fin 4} {y : Nat} (hd : decode M.2.1 pc = .ok (.aload_n n, 1)) (hy : al[(n : Nat)]? = some (.ref y)) (k : am_EI M kc ks (pc + 1) al (.ref y :: as) h Q) : am_EI M kc ks pc al as h Q := by
  intro K p l e R s m args below meth c H locs cells slots ls bc bs QF C hE hc hs hH hS hl
  exact lv_aload_n C.1 C.2.1 hd rfl (hl.at hy (fun _ q => by cases q)) (k C hE hc hs hH hS hl)
theorem am_aload {M : am_M} {kc ks pc : Nat} {al as : List Value} {h : am_H} {Q : Option Value → am_H → Prop} {n : Nat} {y : Nat} (hd : decode M.2.1 pc = .ok (.aload n, 2)) (hy : al[n]? = some (.ref y)) (k : am_EI M kc ks (pc + 2) al (.ref y :: as) h Q) : am_EI M kc ks pc al as h Q := by
  intro K p l e R s m args below meth c H locs cells slots ls bc bs QF C hE hc hs hH hS hl
  exact lv_aload C.1 C.2.1 hd (hl.at hy (fun _ q => by cases q)) (k C hE hc hs hH hS hl)
theorem am_aload_nN {M : am_M} {kc ks pc : Nat} {al as : List Value} {h : am_H} {Q : Option Value → am_H → Prop} {n : Fin 4} (hd : decode M.2.1 pc = .ok (.aload_n n, 1)) (hy : al[(n : Nat)]? = some .null) (k : am_EI M kc ks (pc + 1) al (.null :: as) h Q) : am_EI M kc ks pc al as h Q := by
  intro K p l e R s m args below meth c H locs cells slots ls bc bs QF C hE hc hs hH hS hl
  exact lv_aload_nN C.1 C.2.1 hd rfl (hl.at hy (fun _ q => by cases q)) (k C hE hc hs hH hS hl)
theorem am_aloadN {M : am_M} {kc ks pc : Nat} {al as : List Value} {h : am_H} {Q : Option Value → am_H → Prop} {n : Nat} (hd : decode M.2.1 pc = .ok (.aload n, 2)) (hy : al[n]? = some .null) (k : am_EI M kc ks (pc + 2) al (.null :: as) h Q) : am_EI M kc ks pc al as h Q := by
  intro K p l e R s m args below meth c H locs cells slots ls bc bs QF C hE hc hs hH hS hl
  exact lv_aloadN C.1 C.2.1 hd (hl.at hy (fun _ q => by cases q)) (k C hE hc hs hH hS hl)
/-- the constants that are cells -/
def am_isC (c : Nat) : Bool := decide (c < 30) || (decide (100 ≤ c) && decide (c < 130)) || decide (c = 200) || decide (c = 201)
theorem am_SL_len : am_SL.length = 30 := by decide
theorem am_isC_ref {K : am_K} {U : State} {H : Heap} (hS : am_St K U H) {c : Nat} (hc : am_isC c = true) : ∃ a, K.2.2.2 c = .ref a := by
  simp only [am_isC, Bool.or_eq_true, Bool.and_eq_true, decide_eq_true_eq] at hc
  rcases hc with ((hc | ⟨h1, h2⟩) | hc) | hc
  · obtain ⟨a, v, e1, -⟩ := hS.2.2.2.1 c _ (List.getElem?_eq_getElem (by rw [am_SL_len]; exact hc))
    exact ⟨a, e1⟩
  · have e : c = 100 + (c - 100) := by omega
    obtain ⟨a, v, -, e2, -⟩ := hS.2.2.2.1 (c - 100) _ (List.getElem?_eq_getElem (by rw [am_SL_len]; omega))
    rw [← e] at e2
    exact ⟨v, e2⟩
  · obtain ⟨a, e1, -⟩ := hS.2.2.2.2.1
    exact ⟨a, by rw [hc]; exact e1⟩
  · obtain ⟨a, e1, -⟩ := hS.2.2.2.2.2.1
    exact ⟨a, by rw [hc]; exact e1⟩
theorem am_cvc {K : am_K} {as : List Value} {c a : Nat} (e : K.2.2.2 c = .ref a) : (Value.retAddr c :: as).map (am_cv K) = .ref a :: as.map (am_cv K) := by
  rw [List.map_cons]
  exact congrArg (· :: _) e
theorem am_aload_nC {M : am_M} {kc ks pc : Nat} {al as : List Value} {h : am_H} {Q : Option Value → am_H → Prop} {n : Fin 4} {y : Nat} (hd : decode M.2.1 pc = .ok (.aload_n n, 1)) (hy : al[(n : Nat)]? = some (.retAddr y)) (hi : am_isC y = true) (k : am_EI M kc ks (pc + 1) al (.retAddr y :: as) h Q) : am_EI M kc ks pc al as h Q := by
  intro K p l e R s m args below meth c H locs cells slots ls bc bs QF C hE hc hs hH hS hl
  obtain ⟨a, e1⟩ := am_isC_ref C.2.2.2.2.2.2.1 hi
  have kk := k C hE hc hs hH hS hl
  rw [am_cvc e1] at kk
  refine lv_aload_n C.1 C.2.1 hd rfl ?_ kk
  rw [hl.at hy (fun _ q => by cases q)]
  exact congrArg (fun w => some (Slot.val w)) e1
theorem am_istore_n {M : am_M} {kc ks pc : Nat} {al as : List Value} {h : am_H} {Q : Option Value → am_H → Prop} {n : Fin 4} {y : Int32} (hd : decode M.2.1 pc = .ok (.istore_n n, 1)) (hn : (n : Nat) < al.length) (k : am_EI M kc ks (pc + 1) (al.set n (.int y)) as h Q) : am_EI M kc ks pc al (.int y :: as) h Q := by
  intro K p l e R s m args below meth c H locs cells slots ls bc bs QF C hE hc hs hH hS hl
  exact lv_istore_n C.1 C.2.1 hd rfl hl.2.1 (by rw [← hl.1]; exact hn) rfl (fun ls' hl' => k C hE hc hs hH hS (hl.set (v := .int y) hl' rfl))
theorem am_istore {M : am_M} {kc ks pc : Nat} {al as : List Value} {h : am_H} {Q : Option Value → am_H → Prop} {n : Nat} {y : Int32} (hd : decode M.2.1 pc = .ok (.istore n, 2)) (hn : n < al.length) (k : am_EI M kc ks (pc + 2) (al.set n (.int y)) as h Q) : am_EI M kc ks pc al (.int y :: as) h Q := by
  intro K p l e R s m args below meth c H locs cells slots ls bc bs QF C hE hc hs hH hS hl
  exact lv_istore C.1 C.2.1 hd hl.2.1 (by rw [← hl.1]; exact hn) rfl (fun ls' hl' => k C hE hc hs hH hS (hl.set (v := .int y) hl' rfl))
theorem am_astore_n {M : am_M} {kc ks pc : Nat} {al as : List Value} {h : am_H} {Q : Option Value → am_H → Prop} {n : Fin 4} {y : Nat} (hd : decode M.2.1 pc = .ok (.astore_n n, 1)) (hn : (n : Nat) < al.length) (k : am_EI M kc ks (pc + 1) (al.set n (.ref y)) as h Q) : am_EI M kc ks pc al (.ref y :: as) h Q := by
  intro K p l e R s m args below meth c H locs cells slots ls bc bs QF C hE hc hs hH hS hl
  exact lv_astore_n C.1 C.2.1 hd rfl hl.2.1 (by rw [← hl.1]; exact hn) rfl (fun ls' hl' => k C hE hc hs hH hS (hl.set (v := .ref y) hl' rfl))
theorem am_astore {M : am_M} {kc ks pc : Nat} {al as : List Value} {h : am_H} {Q : Option Value → am_H → Prop} {n : Nat} {y : Nat} (hd : decode M.2.1 pc = .ok (.astore n, 2)) (hn : n < al.length) (k : am_EI M kc ks (pc + 2) (al.set n (.ref y)) as h Q) : am_EI M kc ks pc al (.ref y :: as) h Q := by
  intro K p l e R s m args below meth c H locs cells slots ls bc bs QF C hE hc hs hH hS hl
  exact lv_astore C.1 C.2.1 hd hl.2.1 (by rw [← hl.1]; exact hn) rfl (fun ls' hl' => k C hE hc hs hH hS (hl.set (v := .ref y) hl' rfl))
theorem am_astore_nN {M : am_M} {kc ks pc : Nat} {al as : List Value} {h : am_H} {Q : Option Value → am_H → Prop} {n : Fin 4} (hd : decode M.2.1 pc = .ok (.astore_n n, 1)) (hn : (n : Nat) < al.length) (k : am_EI M kc ks (pc + 1) (al.set n .null) as h Q) : am_EI M kc ks pc al (.null :: as) h Q := by
  intro K p l e R s m args below meth c H locs cells slots ls bc bs QF C hE hc hs hH hS hl
  exact lv_astore_nN C.1 C.2.1 hd rfl hl.2.1 (by rw [← hl.1]; exact hn) rfl (fun ls' hl' => k C hE hc hs hH hS (hl.set (v := .null) hl' rfl))
theorem am_astoreN {M : am_M} {kc ks pc : Nat} {al as : List Value} {h : am_H} {Q : Option Value → am_H → Prop} {n : Nat} (hd : decode M.2.1 pc = .ok (.astore n, 2)) (hn : n < al.length) (k : am_EI M kc ks (pc + 2) (al.set n .null) as h Q) : am_EI M kc ks pc al (.null :: as) h Q := by
  intro K p l e R s m args below meth c H locs cells slots ls bc bs QF C hE hc hs hH hS hl
  exact lv_astoreN C.1 C.2.1 hd hl.2.1 (by rw [← hl.1]; exact hn) rfl (fun ls' hl' => k C hE hc hs hH hS (hl.set (v := .null) hl' rfl))
theorem am_iinc {M : am_M} {kc ks pc : Nat} {al as : List Value} {h : am_H} {Q : Option Value → am_H → Prop} {n : Nat} {z : Int} {y v : Int32} (hd : decode M.2.1 pc = .ok (.iinc n z, 3)) (hy : al[n]? = some (.int y)) (hv : Int32.ofInt z = v) (k : am_EI M kc ks (pc + 3) (al.set n (.int (y + v))) as h Q) : am_EI M kc ks pc al as h Q := by
  intro K p l e R s m args below meth c H locs cells slots ls bc bs QF C hE hc hs hH hS hl
  have hm : (n, Value.int y) ∈ am_lp K al := am_lp_in.mpr ⟨.int y, hy, fun _ q => (by cases q), rfl⟩
  obtain ⟨i, hi⟩ := List.getElem?_of_mem hm
  exact lv_iinc C.1 C.2.1 hd hl.2.1 hi (by rw [hv]) (by rw [← hl.1]; exact (List.getElem?_eq_some_iff.mp hy).1) rfl (fun ls' hl' => k C hE hc hs hH hS (hl.set (v := .int (y + v)) hl' rfl))
theorem am_iadd {M : am_M} {kc ks pc : Nat} {al as : List Value} {h : am_H} {Q : Option Value → am_H → Prop} {x y : Int32} (hd : decode M.2.1 pc = .ok (.iadd, 1)) (k : am_EI M kc ks (pc + 1) al (.int (x + y) :: as) h Q) : am_EI M kc ks pc al (.int y :: .int x :: as) h Q := by
  intro K p l e R s m args below meth c H locs cells slots ls bc bs QF C hE hc hs hH hS hl
  exact lv_iadd C.1 C.2.1 hd (k C hE hc hs hH hS hl)
theorem am_isub {M : am_M} {kc ks pc : Nat} {al as : List Value} {h : am_H} {Q : Option Value → am_H → Prop} {x y : Int32} (hd : decode M.2.1 pc = .ok (.isub, 1)) (k : am_EI M kc ks (pc + 1) al (.int (x - y) :: as) h Q) : am_EI M kc ks pc al (.int y :: .int x :: as) h Q := by
  intro K p l e R s m args below meth c H locs cells slots ls bc bs QF C hE hc hs hH hS hl
  exact lv_isub C.1 C.2.1 hd (k C hE hc hs hH hS hl)
theorem am_imul {M : am_M} {kc ks pc : Nat} {al as : List Value} {h : am_H} {Q : Option Value → am_H → Prop} {x y : Int32} (hd : decode M.2.1 pc = .ok (.imul, 1)) (k : am_EI M kc ks (pc + 1) al (.int (x * y) :: as) h Q) : am_EI M kc ks pc al (.int y :: .int x :: as) h Q := by
  intro K p l e R s m args below meth c H locs cells slots ls bc bs QF C hE hc hs hH hS hl
  exact lv_imul C.1 C.2.1 hd (k C hE hc hs hH hS hl)
theorem am_iand {M : am_M} {kc ks pc : Nat} {al as : List Value} {h : am_H} {Q : Option Value → am_H → Prop} {x y : Int32} (hd : decode M.2.1 pc = .ok (.iand, 1)) (k : am_EI M kc ks (pc + 1) al (.int (x &&& y) :: as) h Q) : am_EI M kc ks pc al (.int y :: .int x :: as) h Q := by
  intro K p l e R s m args below meth c H locs cells slots ls bc bs QF C hE hc hs hH hS hl
  exact lv_iand C.1 C.2.1 hd (k C hE hc hs hH hS hl)
theorem am_ixor {M : am_M} {kc ks pc : Nat} {al as : List Value} {h : am_H} {Q : Option Value → am_H → Prop} {x y : Int32} (hd : decode M.2.1 pc = .ok (.ixor, 1)) (k : am_EI M kc ks (pc + 1) al (.int (x ^^^ y) :: as) h Q) : am_EI M kc ks pc al (.int y :: .int x :: as) h Q := by
  intro K p l e R s m args below meth c H locs cells slots ls bc bs QF C hE hc hs hH hS hl
  exact lv_ixor C.1 C.2.1 hd (k C hE hc hs hH hS hl)
theorem am_idiv {M : am_M} {kc ks pc : Nat} {al as : List Value} {h : am_H} {Q : Option Value → am_H → Prop} {x y : Int32} (hd : decode M.2.1 pc = .ok (.idiv, 1)) (hy : ¬ y = 0) (k : am_EI M kc ks (pc + 1) al (.int (x / y) :: as) h Q) : am_EI M kc ks pc al (.int y :: .int x :: as) h Q := by
  intro K p l e R s m args below meth c H locs cells slots ls bc bs QF C hE hc hs hH hS hl
  exact lv_idiv C.1 C.2.1 hd hy (k C hE hc hs hH hS hl)
theorem am_irem {M : am_M} {kc ks pc : Nat} {al as : List Value} {h : am_H} {Q : Option Value → am_H → Prop} {x y : Int32} (hd : decode M.2.1 pc = .ok (.irem, 1)) (hy : ¬ y = 0) (k : am_EI M kc ks (pc + 1) al (.int (x % y) :: as) h Q) : am_EI M kc ks pc al (.int y :: .int x :: as) h Q := by
  intro K p l e R s m args below meth c H locs cells slots ls bc bs QF C hE hc hs hH hS hl
  have kk := k C hE hc hs hH hS hl
  rw [← irem_eq_mod] at kk
  exact lv_irem C.1 C.2.1 hd hy kk
theorem am_ineg {M : am_M} {kc ks pc : Nat} {al as : List Value} {h : am_H} {Q : Option Value → am_H → Prop} {x : Int32} (hd : decode M.2.1 pc = .ok (.ineg, 1)) (k : am_EI M kc ks (pc + 1) al (.int (-x) :: as) h Q) : am_EI M kc ks pc al (.int x :: as) h Q := by
  intro K p l e R s m args below meth c H locs cells slots ls bc bs QF C hE hc hs hH hS hl
  exact lv_ineg C.1 C.2.1 hd (k C hE hc hs hH hS hl)
theorem am_ishr {M : am_M} {kc ks pc : Nat} {al as : List Value} {h : am_H} {Q : Option Value → am_H → Prop} {x y : Int32} (hd : decode M.2.1 pc = .ok (.ishr, 1)) (k : am_EI M kc ks (pc + 1) al (.int (x >>> (y &&& 31)) :: as) h Q) : am_EI M kc ks pc al (.int y :: .int x :: as) h Q := by
  intro K p l e R s m args below meth c H locs cells slots ls bc bs QF C hE hc hs hH hS hl
  exact lv_ishr C.1 C.2.1 hd (k C hE hc hs hH hS hl)
theorem am_iushr {M : am_M} {kc ks pc : Nat} {al as : List Value} {h : am_H} {Q : Option Value → am_H → Prop} {x y : Int32} (hd : decode M.2.1 pc = .ok (.iushr, 1)) (k : am_EI M kc ks (pc + 1) al (.int (x.toUInt32 >>> (y.toUInt32 &&& Int32.toUInt32 31)).toInt32 :: as) h Q) : am_EI M kc ks pc al (.int y :: .int x :: as) h Q := by
  intro K p l e R s m args below meth c H locs cells slots ls bc bs QF C hE hc hs hH hS hl
  exact lv_iushr C.1 C.2.1 hd rfl (k C hE hc hs hH hS hl)
theorem am_i2b {M : am_M} {kc ks pc : Nat} {al as : List Value} {h : am_H} {Q : Option Value → am_H → Prop} {x : Int32} (hd : decode M.2.1 pc = .ok (.i2b, 1)) (k : am_EI M kc ks (pc + 1) al (.int x.toInt8.toInt32 :: as) h Q) : am_EI M kc ks pc al (.int x :: as) h Q := by
  intro K p l e R s m args below meth c H locs cells slots ls bc bs QF C hE hc hs hH hS hl
  exact lv_i2b C.1 C.2.1 hd rfl (k C hE hc hs hH hS hl)
theorem am_i2c {M : am_M} {kc ks pc : Nat} {al as : List Value} {h : am_H} {Q : Option Value → am_H → Prop} {x : Int32} (hd : decode M.2.1 pc = .ok (.i2c, 1)) (k : am_EI M kc ks (pc + 1) al (.int (x.toUInt32 % 65536).toInt32 :: as) h Q) : am_EI M kc ks pc al (.int x :: as) h Q := by
  intro K p l e R s m args below meth c H locs cells slots ls bc bs QF C hE hc hs hH hS hl
  exact lv_i2c C.1 C.2.1 hd rfl (k C hE hc hs hH hS hl)
theorem am_dup {M : am_M} {kc ks pc : Nat} {al as : List Value} {h : am_H} {Q : Option Value → am_H → Prop} {v : Value} (hd : decode M.2.1 pc = .ok (.dup, 1)) (hv : (∃ y, v = .int y) ∨ ∃ a, v = .ref a) (k : am_EI M kc ks (pc + 1) al (v :: v :: as) h Q) : am_EI M kc ks pc al (v :: as) h Q := by
  intro K p l e R s m args below meth c H locs cells slots ls bc bs QF C hE hc hs hH hS hl
  refine lv_dup C.1 C.2.1 hd ?_ (k C hE hc hs hH hS hl)
  rcases hv with ⟨y, rfl⟩ | ⟨a, rfl⟩ <;> rfl
theorem am_pop {M : am_M} {kc ks pc : Nat} {al as : List Value} {h : am_H} {Q : Option Value → am_H → Prop} {y : Int32} (hd : decode M.2.1 pc = .ok (.pop, 1)) (k : am_EI M kc ks (pc + 1) al as h Q) : am_EI M kc ks pc al (.int y :: as) h Q := by
  intro K p l e R s m args below meth c H locs cells slots ls bc bs QF C hE hc hs hH hS hl
  exact lv_pop C.1 C.2.1 hd rfl (k C hE hc hs hH hS hl)
theorem am_goto {M : am_M} {kc ks pc : Nat} {al as : List Value} {h : am_H} {Q : Option Value → am_H → Prop} {off : Int} {tgt : Nat} (hd : decode M.2.1 pc = .ok (.goto off, 3)) (ht : (pc : Int) + off = (tgt : Int)) (k : am_EI M kc ks tgt al as h Q) : am_EI M kc ks pc al as h Q := by
  intro K p l e R s m args below meth c H locs cells slots ls bc bs QF C hE hc hs hH hS hl
  exact lv_goto C.1 C.2.1 hd ht (k C hE hc hs hH hS hl)
