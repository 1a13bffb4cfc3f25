/-! ONE WALK: the machine, the start, the heap's base and the end are fixed -/
abbrev lw_X : Type := am_K × Program × Launch × Env × Room × State × MethodId × Array Value × List Frame × Method × Code × Nat × Nat × (State → Prop)
def lw_E (X : lw_X) (M : am_M) (kc ks pc : Nat) (al as : List Value) (h : am_H) : Prop := match X with
  | (K, p, l, e, R, s, m, args, below, meth, c, bc, bs, QF) => ∀ ⦃H : Heap⦄ ⦃locs : List Loc⦄ ⦃cells slots : Nat⦄ ⦃ls : Array Slot⦄, cells + kc ≤ bc → slots + ks ≤ bs → am_Hr K h H → va_S (am_A K) s.heap H locs → am_lr K al M.2.2.1 ls → W p l e R s m args below meth c H locs cells slots QF (F0 m pc ls (as.map (am_cv K)))
def lw_C (X : lw_X) (M : am_M) : Prop := match X with
  | (K, p, _, _, R, s, m, args, _, meth, c, bc, bs, _) => am_Cx K M p R s m args meth c bc bs
theorem lw_E.room {X : lw_X} {M : am_M} {kc ks kc' ks' pc : Nat} {al as : List Value} {h : am_H} (h1 : kc ≤ kc') (h2 : ks ≤ ks') (k : lw_E X M kc ks pc al as h) : lw_E X M kc' ks' pc al as h := by
  obtain ⟨K, p, l, e, R, s, m, args, below, meth, c, bc, bs, QF⟩ := X
  intro H locs cells slots ls hc hs hH hS hl
  exact k (by omega) (by omega) hH hS hl
theorem lw_back {M : am_M} {kc ks k2c k2s pc : Nat} {al as : List Value} {h : am_H} {K : am_K} {p : Program} {l : Launch} {e : Env} {R : Room} {s : State} {m : MethodId} {args : Array Value} {below : List Frame} {meth : Method} {c : Code} {H : Heap} {locs : List Loc} {cells slots : Nat} {ls : Array Slot} {bc bs : Nat} {QF : State → Prop} {st0 : List Value} {a2 : Array Value}
    (hc : cells + (kc + k2c) ≤ bc) (hs : slots + (ks + k2s) ≤ bs) (hH : am_Hr K h H) (hS : va_S (am_A K) s.heap H locs) (hl : am_lr K al M.2.2.1 ls)
    (hr : va_Run p l e R s m args below meth c H locs cells slots k2c k2s (F0 m pc ls st0) (as.map (am_cv K)) (am_Qc K (fun v h' => lw_E (K, p, l, e, R, s, m, args, below, meth, c, bc, bs, QF) M kc ks (pc + 3) al (v.toList ++ as) h') a2) (am_A K)) :
    W p l e R s m args below meth c H locs cells slots QF (F0 m pc ls st0) := by
  intro T hT X
  obtain ⟨v, st₀, t, T', L, h0, X', hL, e1, e2, ⟨v', h', hv, hq, hHr, hz, hk⟩, st⟩ := hr T hT X
  cases hv
  rw [h0] at hz hk
  rw [← e1] at hHr hz hk
  have hS' : va_S (am_A K) s.heap T'.heap (locs ++ L) := ⟨Nat.le_trans hS.1 hz, fun q h1 h2 => by rw [hk q (Nat.lt_of_lt_of_le h1 hS.1) h2]; exact hS.2.1 q h1 h2, fun q hq => by
    rcases List.mem_append.mp hq with h | h
    · exact hS.2.2 q h
    · exact hL q h⟩
  obtain ⟨t2, a1, b1⟩ := hq (cells := cells + k2c) (slots := slots + k2s) (by omega) (by omega) hHr hS' hl T' rfl X'
  refine ⟨t2, st t2 ?_, b1⟩
  have e : (v'.toList ++ as).map (am_cv K) = (v'.map (am_cv K)).toList ++ as.map (am_cv K) := by cases v' <;> rfl
  rw [e] at a1
  exact a1
theorem lw_iconst {X : lw_X} {M : am_M} {kc ks pc : Nat} {al as : List Value} {h : am_H} {n : Int} {v : Int32} (C : lw_C X M) (hd : decode M.2.1 pc = .ok (.iconst n, 1)) (hv : Int32.ofInt n = v) (k : lw_E X M kc ks (pc + 1) al (.int v :: as) h) : lw_E X M kc ks pc al as h := by
  obtain ⟨K, p, l, e, R, s, m, args, below, meth, c, bc, bs, QF⟩ := X
  have C : am_Cx K M p R s m args meth c bc bs := C
  intro H locs cells slots ls hc hs hH hS hl
  exact lv_iconst C.1 C.2.1 hd hv (k hc hs hH hS hl)
theorem lw_bipush {X : lw_X} {M : am_M} {kc ks pc : Nat} {al as : List Value} {h : am_H} {n : Int} {v : Int32} (C : lw_C X M) (hd : decode M.2.1 pc = .ok (.bipush n, 2)) (hv : (Int8.ofInt n).toInt32 = v) (k : lw_E X M kc ks (pc + 2) al (.int v :: as) h) : lw_E X M kc ks pc al as h := by
  obtain ⟨K, p, l, e, R, s, m, args, below, meth, c, bc, bs, QF⟩ := X
  have C : am_Cx K M p R s m args meth c bc bs := C
  intro H locs cells slots ls hc hs hH hS hl
  exact lv_bipush C.1 C.2.1 hd hv (k hc hs hH hS hl)
theorem lw_iload_n {X : lw_X} {M : am_M} {kc ks pc : Nat} {al as : List Value} {h : am_H} {n : Fin 4} {y : Int32} (C : lw_C X M) (hd : decode M.2.1 pc = .ok (.iload_n n, 1)) (hy : al[(n : Nat)]? = some (.int y)) (k : lw_E X M kc ks (pc + 1) al (.int y :: as) h) : lw_E X M kc ks pc al as h := by
  obtain ⟨K, p, l, e, R, s, m, args, below, meth, c, bc, bs, QF⟩ := X
  have C : am_Cx K M p R s m args meth c bc bs := C
  intro H locs cells slots ls hc hs hH hS hl
  exact lv_iload_n C.1 C.2.1 hd rfl (hl.at hy (fun _ q => by cases q)) (k hc hs hH hS hl)
theorem lw_aload_n {X : lw_X} {M : am_M} {kc ks pc : Nat} {al as : List Value} {h : am_H} {n : Fin 4} {y : Nat} (C : lw_C X M) (hd : decode M.2.1 pc = .ok (.aload_n n, 1)) (hy : al[(n : Nat)]? = some (.ref y)) (k : lw_E X M kc ks (pc + 1) al (.ref y :: as) h) : lw_E X M kc ks pc al as h := by
  obtain ⟨K, p, l, e, R, s, m, args, below, meth, c, bc, bs, QF⟩ := X
  have C : am_Cx K M p R s m args meth c bc bs := C
  intro H locs cells slots ls hc hs hH hS hl
  exact lv_aload_n C.1 C.2.1 hd rfl (hl.at hy (fun _ q => by cases q)) (k hc hs hH hS hl)
theorem lw_istore_n {X : lw_X} {M : am_M} {kc ks pc : Nat} {al as : List Value} {h : am_H} {n : Fin 4} {y : Int32} (C : lw_C X M) (hd : decode M.2.1 pc = .ok (.istore_n n, 1)) (hn : (n : Nat) < al.length) (k : lw_E X M kc ks (pc + 1) (al.set n (.int y)) as h) : lw_E X M kc ks pc al (.int y :: as) h := by
  obtain ⟨K, p, l, e, R, s, m, args, below, meth, c, bc, bs, QF⟩ := X
  have C : am_Cx K M p R s m args meth c bc bs := C
  intro H locs cells slots ls hc hs hH hS hl
  exact lv_istore_n C.1 C.2.1 hd rfl hl.2.1 (by rw [← hl.1]; exact hn) rfl (fun ls' hl' => k hc hs hH hS (hl.set (v := .int y) hl' rfl))
theorem lw_astore_n {X : lw_X} {M : am_M} {kc ks pc : Nat} {al as : List Value} {h : am_H} {n : Fin 4} {y : Nat} (C : lw_C X M) (hd : decode M.2.1 pc = .ok (.astore_n n, 1)) (hn : (n : Nat) < al.length) (k : lw_E X M kc ks (pc + 1) (al.set n (.ref y)) as h) : lw_E X M kc ks pc al (.ref y :: as) h := by
  obtain ⟨K, p, l, e, R, s, m, args, below, meth, c, bc, bs, QF⟩ := X
  have C : am_Cx K M p R s m args meth c bc bs := C
  intro H locs cells slots ls hc hs hH hS hl
  exact lv_astore_n C.1 C.2.1 hd rfl hl.2.1 (by rw [← hl.1]; exact hn) rfl (fun ls' hl' => k hc hs hH hS (hl.set (v := .ref y) hl' rfl))
theorem lw_iinc {X : lw_X} {M : am_M} {kc ks pc : Nat} {al as : List Value} {h : am_H} {n : Nat} {z : Int} {y v : Int32} (C : lw_C X M) (hd : decode M.2.1 pc = .ok (.iinc n z, 3)) (hy : al[n]? = some (.int y)) (hv : Int32.ofInt z = v) (k : lw_E X M kc ks (pc + 3) (al.set n (.int (y + v))) as h) : lw_E X M kc ks pc al as h := by
  obtain ⟨K, p, l, e, R, s, m, args, below, meth, c, bc, bs, QF⟩ := X
  have C : am_Cx K M p R s m args meth c bc bs := C
  intro H locs cells slots ls hc hs hH hS hl
  have hm : (n, Value.int y) ∈ am_lp K al := am_lp_in.mpr ⟨.int y, hy, fun _ q => (by cases q), rfl⟩
  obtain ⟨i, hi⟩ := List.getElem?_of_mem hm
  exact lv_iinc C.1 C.2.1 hd hl.2.1 hi (by rw [hv]) (by rw [← hl.1]; exact (List.getElem?_eq_some_iff.mp hy).1) rfl (fun ls' hl' => k hc hs hH hS (hl.set (v := .int (y + v)) hl' rfl))
theorem lw_iadd {X : lw_X} {M : am_M} {kc ks pc : Nat} {al as : List Value} {h : am_H} {x y : Int32} (C : lw_C X M) (hd : decode M.2.1 pc = .ok (.iadd, 1)) (k : lw_E X M kc ks (pc + 1) al (.int (x + y) :: as) h) : lw_E X M kc ks pc al (.int y :: .int x :: as) h := by
  obtain ⟨K, p, l, e, R, s, m, args, below, meth, c, bc, bs, QF⟩ := X
  have C : am_Cx K M p R s m args meth c bc bs := C
  intro H locs cells slots ls hc hs hH hS hl
  exact lv_iadd C.1 C.2.1 hd (k hc hs hH hS hl)
theorem lw_isub {X : lw_X} {M : am_M} {kc ks pc : Nat} {al as : List Value} {h : am_H} {x y : Int32} (C : lw_C X M) (hd : decode M.2.1 pc = .ok (.isub, 1)) (k : lw_E X M kc ks (pc + 1) al (.int (x - y) :: as) h) : lw_E X M kc ks pc al (.int y :: .int x :: as) h := by
  obtain ⟨K, p, l, e, R, s, m, args, below, meth, c, bc, bs, QF⟩ := X
  have C : am_Cx K M p R s m args meth c bc bs := C
  intro H locs cells slots ls hc hs hH hS hl
  exact lv_isub C.1 C.2.1 hd (k hc hs hH hS hl)
theorem lw_iand {X : lw_X} {M : am_M} {kc ks pc : Nat} {al as : List Value} {h : am_H} {x y : Int32} (C : lw_C X M) (hd : decode M.2.1 pc = .ok (.iand, 1)) (k : lw_E X M kc ks (pc + 1) al (.int (x &&& y) :: as) h) : lw_E X M kc ks pc al (.int y :: .int x :: as) h := by
  obtain ⟨K, p, l, e, R, s, m, args, below, meth, c, bc, bs, QF⟩ := X
  have C : am_Cx K M p R s m args meth c bc bs := C
  intro H locs cells slots ls hc hs hH hS hl
  exact lv_iand C.1 C.2.1 hd (k hc hs hH hS hl)
theorem lw_dup {X : lw_X} {M : am_M} {kc ks pc : Nat} {al as : List Value} {h : am_H} {v : Value} (C : lw_C X M) (hd : decode M.2.1 pc = .ok (.dup, 1)) (hv : (∃ y, v = .int y) ∨ ∃ a, v = .ref a) (k : lw_E X M kc ks (pc + 1) al (v :: v :: as) h) : lw_E X M kc ks pc al (v :: as) h := by
  obtain ⟨K, p, l, e, R, s, m, args, below, meth, c, bc, bs, QF⟩ := X
  have C : am_Cx K M p R s m args meth c bc bs := C
  intro H locs cells slots ls hc hs hH hS hl
  refine lv_dup C.1 C.2.1 hd ?_ (k hc hs hH hS hl)
  rcases hv with ⟨y, rfl⟩ | ⟨a, rfl⟩ <;> rfl
theorem lw_goto {X : lw_X} {M : am_M} {kc ks pc : Nat} {al as : List Value} {h : am_H} {off : Int} {tgt : Nat} (C : lw_C X M) (hd : decode M.2.1 pc = .ok (.goto off, 3)) (ht : (pc : Int) + off = (tgt : Int)) (k : lw_E X M kc ks tgt al as h) : lw_E X M kc ks pc al as h := by
  obtain ⟨K, p, l, e, R, s, m, args, below, meth, c, bc, bs, QF⟩ := X
  have C : am_Cx K M p R s m args meth c bc bs := C
  intro H locs cells slots ls hc hs hH hS hl
  exact lv_goto C.1 C.2.1 hd ht (k hc hs hH hS hl)
theorem lw_ic_gt {X : lw_X} {M : am_M} {kc ks pc : Nat} {al as : List Value} {h : am_H} {x y : Int32} {off : Int} {tgt : Nat} (C : lw_C X M) (hd : decode M.2.1 pc = .ok (.if_icmp .gt off, 3)) (ht : (pc : Int) + off = (tgt : Int)) (kt : y < x → lw_E X M kc ks tgt al as h) (kf : ¬ y < x → lw_E X M kc ks (pc + 3) al as h) : lw_E X M kc ks pc al (.int y :: .int x :: as) h := by
  obtain ⟨K, p, l, e, R, s, m, args, below, meth, c, bc, bs, QF⟩ := X
  have C : am_Cx K M p R s m args meth c bc bs := C
  intro H locs cells slots ls hc hs hH hS hl
  exact lv_icmp_gt C.1 C.2.1 hd ht (fun q => kt q hc hs hH hS hl) (fun q => kf q hc hs hH hS hl)
theorem lw_ic_eq {X : lw_X} {M : am_M} {kc ks pc : Nat} {al as : List Value} {h : am_H} {x y : Int32} {off : Int} {tgt : Nat} (C : lw_C X M) (hd : decode M.2.1 pc = .ok (.if_icmp .eq off, 3)) (ht : (pc : Int) + off = (tgt : Int)) (kt : x = y → lw_E X M kc ks tgt al as h) (kf : ¬ x = y → lw_E X M kc ks (pc + 3) al as h) : lw_E X M kc ks pc al (.int y :: .int x :: as) h := by
  obtain ⟨K, p, l, e, R, s, m, args, below, meth, c, bc, bs, QF⟩ := X
  have C : am_Cx K M p R s m args meth c bc bs := C
  intro H locs cells slots ls hc hs hH hS hl
  exact lv_icmp_eq C.1 C.2.1 hd ht (fun q => kt q hc hs hH hS hl) (fun q => kf q hc hs hH hS hl)
theorem lw_tabIn {X : lw_X} {M : am_M} {kc ks pc : Nat} {al as : List Value} {h : am_H} {dflt lo hi off : Int} {offs : Array Int} {len tgt : Nat} {x : Int32} (C : lw_C X M) (hd : decode M.2.1 pc = .ok (.tableswitch dflt lo hi offs, len)) (h1 : ¬ x.toInt < lo) (h2 : ¬ hi < x.toInt) (ho : offs[(x.toInt - lo).toNat]? = some off) (ht : (pc : Int) + off = (tgt : Int)) (k : lw_E X M kc ks tgt al as h) : lw_E X M kc ks pc al (.int x :: as) h := by
  obtain ⟨K, p, l, e, R, s, m, args, below, meth, c, bc, bs, QF⟩ := X
  have C : am_Cx K M p R s m args meth c bc bs := C
  intro H locs cells slots ls hc hs hH hS hl
  exact lv_tableIn C.1 C.2.1 hd h1 h2 ho ht (k hc hs hH hS hl)
theorem lw_tabOut {X : lw_X} {M : am_M} {kc ks pc : Nat} {al as : List Value} {h : am_H} {dflt lo hi : Int} {offs : Array Int} {len tgt : Nat} {x : Int32} (C : lw_C X M) (hd : decode M.2.1 pc = .ok (.tableswitch dflt lo hi offs, len)) (h1 : x.toInt < lo ∨ hi < x.toInt) (ht : (pc : Int) + dflt = (tgt : Int)) (k : lw_E X M kc ks tgt al as h) : lw_E X M kc ks pc al (.int x :: as) h := by
  obtain ⟨K, p, l, e, R, s, m, args, below, meth, c, bc, bs, QF⟩ := X
  have C : am_Cx K M p R s m args meth c bc bs := C
  intro H locs cells slots ls hc hs hH hS hl
  exact lv_tableOut C.1 C.2.1 hd h1 ht (k hc hs hH hS hl)
theorem lw_new {X : lw_X} {M : am_M} {kc ks pc : Nat} {al as : List Value} {h : am_H} {idx ci : Nat} (C : lw_C X M) (hd : decode M.2.1 pc = .ok (.new idx, 3)) (hci : ci < 13) (w1 : Cond.classLink M.1.cls idx (am_cR ci) ∈ am_tbl) (w2 : Cond.instantiable (am_cR ci) (am_cN ci) ∈ am_tbl) (w3 : Cond.initialized (am_cR ci) ∈ am_tbl) (kk : lw_E X M kc ks (pc + 3) al (.ref (am_sz h) :: as) (am_nw h ci (am_cN ci))) : lw_E X M (kc + 1) (ks + am_cN ci) pc al as h := by
  obtain ⟨K, p, l, e, R, s, m, args, below, meth, c, bc, bs, QF⟩ := X
  have C : am_Cx K M p R s m args meth c bc bs := C
  intro H locs cells slots ls hc hs hH hS hl
  have hKn := C.2.2.2.2.2.2.1.1.1 ci _ (am_cl_ok ci hci)
  have b1 := C.2.2.2.2.2.2.2.2.2.1
  have b2 := C.2.2.2.2.2.2.2.2.2.2.1
  refine W.newcK C.1 C.2.1 C.2.2.2.1 (C.2.2.2.2.1 _ w1) (C.2.2.2.2.1 _ w2) (C.2.2.2.2.1 _ w3) rfl hd (by omega) (by omega) hKn.2.1 hH.1 fun H1 kC hkC e1 z1 o1 => ?_
  refine kk (by omega) (by omega) (hH.new z1 o1 ?_) (am_Sn hH hS z1 o1) hl
  have ht : am_tg (am_nw h ci (am_cN ci)) (am_sz h) = (ci, am_cN ci) := by rw [am_tg_nw, if_pos rfl]
  rw [am_ce_obj ht hci]
  refine ⟨_, am_cl_ok ci hci, (u_born (am_fy ci) C.2.2.2.2.1 (am_cl_tb hci) hKn hkC e1 (am_cl_ty ci hci)).to (fun j hj => ?_)⟩
  have hj' : j < am_cN ci := hj
  rw [am_df ci hci j hj']
  simp only [vp_V, List.getD_eq_getElem?_getD, List.getElem?_map, List.getElem?_range hj', Option.map_some, Option.getD_some]
  unfold am_fv
  rw [ht, am_P_nw, am_I_nw, if_pos rfl, if_pos rfl]
  by_cases e : am_ir (am_fy ci j) = true
  · simp [e, va_rf]
  · simp [e]
theorem lw_callI {X : lw_X} {M : am_M} {kc ks pc : Nat} {al as : List Value} {h : am_H} {M2 : am_M} {idx k2c k2s a : Nat} (C : lw_C X M) (As : List Value) (hd : decode M.2.1 pc = .ok (.invokespecial idx, 3)) (w1 : Cond.methodLink M.1.cls idx M2.1 ∈ am_tbl) (w2 : Cond.instanceMethod M2.1 ∈ am_tbl) (hy : M2.1.name = "<init>") (hrn : M2.2.2.2.1 = none) (hm : am_LM M2) (hnp : am_np M2 As.length) (hco : am_CO M M2) (hsh : am_short as)
    (k : am_Ev M2 k2c k2s (.ref a :: As) h (fun v h' => lw_E X M kc ks (pc + 3) al (v.toList ++ as) h')) : lw_E X M (kc + k2c) (ks + k2s) pc al (As.reverse ++ .ref a :: as) h := by
  obtain ⟨K, p, l, e, R, s, m, args, below, meth, c, bc, bs, QF⟩ := X
  have C : am_Cx K M p R s m args meth c bc bs := C
  intro H locs cells slots ls hc hs hH hS hl
  have b1 := C.2.2.2.2.2.2.2.1
  have b2 := C.2.2.2.2.2.2.2.2.1
  have b3 := C.2.2.2.2.2.2.2.2.2.1
  have b4 := C.2.2.2.2.2.2.2.2.2.2.1
  have cw := cwI (R := R) (s := s) (args := args) (own := M.1.cls) (index := idx) (y := M2.1) (bytes := M2.2.1) (maxL := M2.2.2.1) (rm := am_rm M2 k2c k2s) As.length C.2.2.2.2.1 (am_goodM hm) (ws' := am_tbl) (by unfold am_wsM; rw [hrn]) rfl rfl (C.2.2.2.2.1 _ hm.2.1) (C.2.2.2.2.1 _ w1) (C.2.2.2.2.1 _ w2) hy ⟨hm.2.2.1.1, hm.2.2.1.2, hnp⟩ ⟨Nat.le_trans hco.1 b1, Nat.le_trans hco.2 b2⟩
  rw [am_stk]
  exact lw_back hc hs hH hS hl (va_runI (As := As.map (am_cv K)) ⟨C.1, C.2.1, C.2.2.1, C.2.2.2.1, C.2.2.2.2.1⟩ (k l K) cw ⟨am_Pc_blind _ _ _, am_Pc_pre (args := .ref a :: As) C.2.2.2.2.2.2.1 hH hS⟩ rfl (by rw [List.length_map]) hl.2.1.1 rfl (am_rest (hsh K)) hd ⟨by omega, by omega⟩)
theorem lw_callV {X : lw_X} {M : am_M} {kc ks pc : Nat} {al as : List Value} {h : am_H} {M2 : am_M} {idx k2c k2s ci a n : Nat} (C : lw_C X M) (As : List Value) (hd : decode M.2.1 pc = .ok (.invokevirtual idx, 3)) (w1 : Cond.methodLink M.1.cls idx M2.1 ∈ am_tbl) (w2 : Cond.instanceMethod M2.1 ∈ am_tbl) (w3 : Cond.selects M2.1.cls M2.1 M2.1 ∈ am_tbl) (hm : am_LM M2) (hnp : am_np M2 As.length) (hco : am_CO M M2) (hsh : am_short as) (hci : ci < 13) (hcl : am_cR ci = M2.1.cls) (ht : am_tg h a = (ci, n))
    (k : am_Ev M2 k2c k2s (.ref a :: As) h (fun v h' => lw_E X M kc ks (pc + 3) al (v.toList ++ as) h')) : lw_E X M (kc + k2c) (ks + k2s) pc al (As.reverse ++ .ref a :: as) h := by
  obtain ⟨K, p, l, e, R, s, m, args, below, meth, c, bc, bs, QF⟩ := X
  have C : am_Cx K M p R s m args meth c bc bs := C
  intro H locs cells slots ls hc hs hH hS hl
  have b1 := C.2.2.2.2.2.2.2.1
  have b2 := C.2.2.2.2.2.2.2.2.1
  have b3 := C.2.2.2.2.2.2.2.2.2.1
  have b4 := C.2.2.2.2.2.2.2.2.2.2.1
  have hlt := am_live hH ht (by omega)
  have he := am_ws_at (K := K) hlt
  rw [am_ce_obj ht hci] at he
  have hcv := va_recv C.2.2.2.2.2.2.1.1 hH.2.1 (am_cl_ok ci hci) he
  have hcv2 : ∃ cell : Cell, H[K.1 + a]? = some cell ∧ cell.vm.isStatics = false ∧ s.vm.findClass M2.1.cls = some cell.cls := by rw [← hcl]; exact hcv
  have hG : GoodIn am_tbl (wsV M.1.cls idx M2.1.cls M2.1 (am_wsM M2)) := by
    intro w hw
    rcases List.mem_append.mp hw with hw | hw
    · simp only [List.mem_cons, List.not_mem_nil, or_false] at hw
      rcases hw with rfl | rfl | rfl | rfl
      · exact ⟨w1, am_tbl_gd w1⟩
      · exact ⟨w2, am_tbl_gd w2⟩
      · exact ⟨w3, am_tbl_gd w3⟩
      · exact ⟨hm.2.1, am_tbl_gd hm.2.1⟩
    · exact am_goodM hm w hw
  have cw : CallW R s args M.1.cls M2.1.cls idx M2.1 M2.2.1 M2.2.2.1 M2.2.2.2.1 (am_wsM M2) (am_rm M2 k2c k2s) k2c k2s As.length := cwV As.length C.2.2.2.2.1 hG rfl rfl rfl ⟨rfl, hm.2.2.1.1, hm.2.2.1.2, hnp⟩ ⟨Nat.le_trans hco.1 b1, Nat.le_trans hco.2 b2⟩
  rw [am_stk]
  exact lw_back hc hs hH hS hl (va_runV (As := As.map (am_cv K)) ⟨C.1, C.2.1, C.2.2.1, C.2.2.2.1, C.2.2.2.2.1⟩ (k l K) cw ⟨am_Pc_blind _ _ _, hcv2, am_Pc_pre C.2.2.2.2.2.2.1 hH hS⟩ rfl (by rw [List.length_map]) hl.2.1.1 rfl (am_rest (hsh K)) hd ⟨by omega, by omega⟩)
