theorem am_if_eq {M : am_M} {kc ks pc : Nat} {al as : List Value} {h : am_H} {Q : Option Value → am_H → Prop} {x : Int32} {off : Int} {tgt : Nat} (hd : decode M.2.1 pc = .ok (.ifCond .eq off, 3)) (ht : (pc : Int) + off = (tgt : Int)) (kt : x = 0 → am_EI M kc ks tgt al as h Q) (kf : ¬ x = 0 → am_EI M kc ks (pc + 3) al as h Q) : am_EI M kc ks pc al (.int x :: as) h Q := by
  intro K p l e R s m args below meth c H locs cells slots ls bc bs QF C hE hc hs hH hS hl
  exact lv_if_eq C.1 C.2.1 hd ht (fun q => kt q C hE hc hs hH hS hl) (fun q => kf q C hE hc hs hH hS hl)
theorem am_if_ne {M : am_M} {kc ks pc : Nat} {al as : List Value} {h : am_H} {Q : Option Value → am_H → Prop} {x : Int32} {off : Int} {tgt : Nat} (hd : decode M.2.1 pc = .ok (.ifCond .ne off, 3)) (ht : (pc : Int) + off = (tgt : Int)) (kt : ¬ x = 0 → am_EI M kc ks tgt al as h Q) (kf : x = 0 → am_EI M kc ks (pc + 3) al as h Q) : am_EI M kc ks pc al (.int x :: as) h Q := by
  intro K p l e R s m args below meth c H locs cells slots ls bc bs QF C hE hc hs hH hS hl
  exact lv_if_ne C.1 C.2.1 hd ht (fun q => kt q C hE hc hs hH hS hl) (fun q => kf q C hE hc hs hH hS hl)
theorem am_if_lt {M : am_M} {kc ks pc : Nat} {al as : List Value} {h : am_H} {Q : Option Value → am_H → Prop} {x : Int32} {off : Int} {tgt : Nat} (hd : decode M.2.1 pc = .ok (.ifCond .lt off, 3)) (ht : (pc : Int) + off = (tgt : Int)) (kt : x < 0 → am_EI M kc ks tgt al as h Q) (kf : ¬ x < 0 → am_EI M kc ks (pc + 3) al as h Q) : am_EI M kc ks pc al (.int x :: as) h Q := by
  intro K p l e R s m args below meth c H locs cells slots ls bc bs QF C hE hc hs hH hS hl
  exact lv_if_lt C.1 C.2.1 hd ht (fun q => kt q C hE hc hs hH hS hl) (fun q => kf q C hE hc hs hH hS hl)
theorem am_if_ge {M : am_M} {kc ks pc : Nat} {al as : List Value} {h : am_H} {Q : Option Value → am_H → Prop} {x : Int32} {off : Int} {tgt : Nat} (hd : decode M.2.1 pc = .ok (.ifCond .ge off, 3)) (ht : (pc : Int) + off = (tgt : Int)) (kt : 0 ≤ x → am_EI M kc ks tgt al as h Q) (kf : ¬ 0 ≤ x → am_EI M kc ks (pc + 3) al as h Q) : am_EI M kc ks pc al (.int x :: as) h Q := by
  intro K p l e R s m args below meth c H locs cells slots ls bc bs QF C hE hc hs hH hS hl
  exact lv_if_ge C.1 C.2.1 hd ht (fun q => kt q C hE hc hs hH hS hl) (fun q => kf q C hE hc hs hH hS hl)
theorem am_if_gt {M : am_M} {kc ks pc : Nat} {al as : List Value} {h : am_H} {Q : Option Value → am_H → Prop} {x : Int32} {off : Int} {tgt : Nat} (hd : decode M.2.1 pc = .ok (.ifCond .gt off, 3)) (ht : (pc : Int) + off = (tgt : Int)) (kt : 0 < x → am_EI M kc ks tgt al as h Q) (kf : ¬ 0 < x → am_EI M kc ks (pc + 3) al as h Q) : am_EI M kc ks pc al (.int x :: as) h Q := by
  intro K p l e R s m args below meth c H locs cells slots ls bc bs QF C hE hc hs hH hS hl
  exact lv_if_gt C.1 C.2.1 hd ht (fun q => kt q C hE hc hs hH hS hl) (fun q => kf q C hE hc hs hH hS hl)
theorem am_if_le {M : am_M} {kc ks pc : Nat} {al as : List Value} {h : am_H} {Q : Option Value → am_H → Prop} {x : Int32} {off : Int} {tgt : Nat} (hd : decode M.2.1 pc = .ok (.ifCond .le off, 3)) (ht : (pc : Int) + off = (tgt : Int)) (kt : x ≤ 0 → am_EI M kc ks tgt al as h Q) (kf : ¬ x ≤ 0 → am_EI M kc ks (pc + 3) al as h Q) : am_EI M kc ks pc al (.int x :: as) h Q := by
  intro K p l e R s m args below meth c H locs cells slots ls bc bs QF C hE hc hs hH hS hl
  exact lv_if_le C.1 C.2.1 hd ht (fun q => kt q C hE hc hs hH hS hl) (fun q => kf q C hE hc hs hH hS hl)
theorem am_ic_eq {M : am_M} {kc ks pc : Nat} {al as : List Value} {h : am_H} {Q : Option Value → am_H → Prop} {x y : Int32} {off : Int} {tgt : Nat} (hd : decode M.2.1 pc = .ok (.if_icmp .eq off, 3)) (ht : (pc : Int) + off = (tgt : Int)) (kt : x = y → am_EI M kc ks tgt al as h Q) (kf : ¬ x = y → am_EI M kc ks (pc + 3) al as h Q) : am_EI M kc ks pc al (.int y :: .int x :: as) h Q := by
  intro K p l e R s m args below meth c H locs cells slots ls bc bs QF C hE hc hs hH hS hl
  exact lv_icmp_eq C.1 C.2.1 hd ht (fun q => kt q C hE hc hs hH hS hl) (fun q => kf q C hE hc hs hH hS hl)
theorem am_ic_ne {M : am_M} {kc ks pc : Nat} {al as : List Value} {h : am_H} {Q : Option Value → am_H → Prop} {x y : Int32} {off : Int} {tgt : Nat} (hd : decode M.2.1 pc = .ok (.if_icmp .ne off, 3)) (ht : (pc : Int) + off = (tgt : Int)) (kt : ¬ x = y → am_EI M kc ks tgt al as h Q) (kf : x = y → am_EI M kc ks (pc + 3) al as h Q) : am_EI M kc ks pc al (.int y :: .int x :: as) h Q := by
  intro K p l e R s m args below meth c H locs cells slots ls bc bs QF C hE hc hs hH hS hl
  exact lv_icmp_ne C.1 C.2.1 hd ht (fun q => kt q C hE hc hs hH hS hl) (fun q => kf q C hE hc hs hH hS hl)
theorem am_ic_lt {M : am_M} {kc ks pc : Nat} {al as : List Value} {h : am_H} {Q : Option Value → am_H → Prop} {x y : Int32} {off : Int} {tgt : Nat} (hd : decode M.2.1 pc = .ok (.if_icmp .lt off, 3)) (ht : (pc : Int) + off = (tgt : Int)) (kt : x < y → am_EI M kc ks tgt al as h Q) (kf : ¬ x < y → am_EI M kc ks (pc + 3) al as h Q) : am_EI M kc ks pc al (.int y :: .int x :: as) h Q := by
  intro K p l e R s m args below meth c H locs cells slots ls bc bs QF C hE hc hs hH hS hl
  exact lv_icmp_lt C.1 C.2.1 hd ht (fun q => kt q C hE hc hs hH hS hl) (fun q => kf q C hE hc hs hH hS hl)
theorem am_ic_ge {M : am_M} {kc ks pc : Nat} {al as : List Value} {h : am_H} {Q : Option Value → am_H → Prop} {x y : Int32} {off : Int} {tgt : Nat} (hd : decode M.2.1 pc = .ok (.if_icmp .ge off, 3)) (ht : (pc : Int) + off = (tgt : Int)) (kt : y ≤ x → am_EI M kc ks tgt al as h Q) (kf : ¬ y ≤ x → am_EI M kc ks (pc + 3) al as h Q) : am_EI M kc ks pc al (.int y :: .int x :: as) h Q := by
  intro K p l e R s m args below meth c H locs cells slots ls bc bs QF C hE hc hs hH hS hl
  exact lv_icmp_ge C.1 C.2.1 hd ht (fun q => kt q C hE hc hs hH hS hl) (fun q => kf q C hE hc hs hH hS hl)
theorem am_ic_gt {M : am_M} {kc ks pc : Nat} {al as : List Value} {h : am_H} {Q : Option Value → am_H → Prop} {x y : Int32} {off : Int} {tgt : Nat} (hd : decode M.2.1 pc = .ok (.if_icmp .gt off, 3)) (ht : (pc : Int) + off = (tgt : Int)) (kt : y < x → am_EI M kc ks tgt al as h Q) (kf : ¬ y < x → am_EI M kc ks (pc + 3) al as h Q) : am_EI M kc ks pc al (.int y :: .int x :: as) h Q := by
  intro K p l e R s m args below meth c H locs cells slots ls bc bs QF C hE hc hs hH hS hl
  exact lv_icmp_gt C.1 C.2.1 hd ht (fun q => kt q C hE hc hs hH hS hl) (fun q => kf q C hE hc hs hH hS hl)
theorem am_ic_le {M : am_M} {kc ks pc : Nat} {al as : List Value} {h : am_H} {Q : Option Value → am_H → Prop} {x y : Int32} {off : Int} {tgt : Nat} (hd : decode M.2.1 pc = .ok (.if_icmp .le off, 3)) (ht : (pc : Int) + off = (tgt : Int)) (kt : x ≤ y → am_EI M kc ks tgt al as h Q) (kf : ¬ x ≤ y → am_EI M kc ks (pc + 3) al as h Q) : am_EI M kc ks pc al (.int y :: .int x :: as) h Q := by
  intro K p l e R s m args below meth c H locs cells slots ls bc bs QF C hE hc hs hH hS hl
  exact lv_icmp_le C.1 C.2.1 hd ht (fun q => kt q C hE hc hs hH hS hl) (fun q => kf q C hE hc hs hH hS hl)
theorem am_ifnull {M : am_M} {kc ks pc : Nat} {al as : List Value} {h : am_H} {Q : Option Value → am_H → Prop} {a : Nat} {off : Int} (hd : decode M.2.1 pc = .ok (.ifnull off, 3)) (k : am_EI M kc ks (pc + 3) al as h Q) : am_EI M kc ks pc al (.ref a :: as) h Q := by
  intro K p l e R s m args below meth c H locs cells slots ls bc bs QF C hE hc hs hH hS hl
  exact lv_ifnull C.1 C.2.1 hd (k C hE hc hs hH hS hl)
theorem am_ifnullN {M : am_M} {kc ks pc : Nat} {al as : List Value} {h : am_H} {Q : Option Value → am_H → Prop} {off : Int} {tgt : Nat} (hd : decode M.2.1 pc = .ok (.ifnull off, 3)) (ht : (pc : Int) + off = (tgt : Int)) (k : am_EI M kc ks tgt al as h Q) : am_EI M kc ks pc al (.null :: as) h Q := by
  intro K p l e R s m args below meth c H locs cells slots ls bc bs QF C hE hc hs hH hS hl
  exact lv_ifnullN C.1 C.2.1 hd ht (k C hE hc hs hH hS hl)
theorem am_ifnonnull {M : am_M} {kc ks pc : Nat} {al as : List Value} {h : am_H} {Q : Option Value → am_H → Prop} {a : Nat} {off : Int} {tgt : Nat} (hd : decode M.2.1 pc = .ok (.ifnonnull off, 3)) (ht : (pc : Int) + off = (tgt : Int)) (k : am_EI M kc ks tgt al as h Q) : am_EI M kc ks pc al (.ref a :: as) h Q := by
  intro K p l e R s m args below meth c H locs cells slots ls bc bs QF C hE hc hs hH hS hl
  exact lv_ifnonnull C.1 C.2.1 hd ht (k C hE hc hs hH hS hl)
theorem am_ifnonnullN {M : am_M} {kc ks pc : Nat} {al as : List Value} {h : am_H} {Q : Option Value → am_H → Prop} {off : Int} (hd : decode M.2.1 pc = .ok (.ifnonnull off, 3)) (k : am_EI M kc ks (pc + 3) al as h Q) : am_EI M kc ks pc al (.null :: as) h Q := by
  intro K p l e R s m args below meth c H locs cells slots ls bc bs QF C hE hc hs hH hS hl
  exact lv_ifnonnullN C.1 C.2.1 hd (k C hE hc hs hH hS hl)
theorem am_tabIn {M : am_M} {kc ks pc : Nat} {al as : List Value} {h : am_H} {Q : Option Value → am_H → Prop} {dflt lo hi off : Int} {offs : Array Int} {len tgt : Nat} {x : Int32} (hd : decode M.2.1 pc = .ok (.tableswitch dflt lo hi offs, len)) (h1 : ¬ x.toInt < lo) (h2 : ¬ hi < x.toInt) (ho : offs[(x.toInt - lo).toNat]? = some off) (ht : (pc : Int) + off = (tgt : Int)) (k : am_EI M kc ks tgt al as h Q) : am_EI M kc ks pc al (.int x :: as) h Q := by
  intro K p l e R s m args below meth c H locs cells slots ls bc bs QF C hE hc hs hH hS hl
  exact lv_tableIn C.1 C.2.1 hd h1 h2 ho ht (k C hE hc hs hH hS hl)
theorem am_tabOut {M : am_M} {kc ks pc : Nat} {al as : List Value} {h : am_H} {Q : Option Value → am_H → Prop} {dflt lo hi : Int} {offs : Array Int} {len tgt : Nat} {x : Int32} (hd : decode M.2.1 pc = .ok (.tableswitch dflt lo hi offs, len)) (h1 : x.toInt < lo ∨ hi < x.toInt) (ht : (pc : Int) + dflt = (tgt : Int)) (k : am_EI M kc ks tgt al as h Q) : am_EI M kc ks pc al (.int x :: as) h Q := by
  intro K p l e R s m args below meth c H locs cells slots ls bc bs QF C hE hc hs hH hS hl
  exact lv_tableOut C.1 C.2.1 hd h1 ht (k C hE hc hs hH hS hl)
theorem am_lookup {M : am_M} {kc ks pc : Nat} {al as : List Value} {h : am_H} {Q : Option Value → am_H → Prop} {dflt off : Int} {ps : Array (Int × Int)} {len tgt : Nat} {x : Int32} (hd : decode M.2.1 pc = .ok (.lookupswitch dflt ps, len)) (hp : (ps.toList.zip (ps.toList.drop 1)).all (fun (a, next) => a.1 < next.1) = true) (ho : Op.lookupswitch.offset ps.toList dflt x.toInt = off) (ht : (pc : Int) + off = (tgt : Int)) (k : am_EI M kc ks tgt al as h Q) : am_EI M kc ks pc al (.int x :: as) h Q := by
  intro K p l e R s m args below meth c H locs cells slots ls bc bs QF C hE hc hs hH hS hl
  exact lv_lookup C.1 C.2.1 hd hp ho ht (k C hE hc hs hH hS hl)
/-! fields -/
theorem am_Hr.put {K : am_K} {h h' : am_H} {H H1 : Heap} {a : Nat} (hH : am_Hr K h H) (hlt : a < am_sz h) (hs : am_sz h' = am_sz h) (ht : ∀ i, am_tg h' i = am_tg h i) (hI : ∀ i, i ≠ a → am_I h' i = am_I h i) (hP : ∀ i, i ≠ a → am_P h' i = am_P h i) (z : H1.size = H.size) (oq : ∀ q : Nat, q ≠ K.1 + a → H1[q]? = H[q]?) (he : va_at K.2.1 vwCl (K.1 + a, am_ce K h' a) H1) : am_Hr K h' H1 := by
  refine ⟨by rw [z, hs]; exact hH.1, ?_, fun i hi => by rw [ht i]; exact hH.2.2 i (by omega)⟩
  rw [am_ws_set hs ht hI hP]
  exact hH.2.1.set (am_ws_D K h) (am_ws_at hlt) he oq
theorem am_getI {M : am_M} {kc ks pc : Nat} {al as : List Value} {h : am_H} {Q : Option Value → am_H → Prop} {idx ci k a : Nat} (hd : decode M.2.1 pc = .ok (.getfield idx, 3)) (hw : Cond.fieldLink M.1.cls idx (am_cT ci k).1 (am_cT ci k).2.1 (am_cT ci k).2.2.1 ∈ am_tbl) (hci : ci < 13) (hk : k < am_cN ci) (hr : am_ir (am_fy ci k) = false) (ht : am_tg h a = (ci, am_cN ci)) (kk : am_EI M kc ks (pc + 3) al (.int (am_I h a k) :: as) h Q) : am_EI M kc ks pc al (.ref a :: as) h Q := by
  intro K p l e R s m args below meth c H locs cells slots ls bc bs QF C hE hc hs hH hS hl
  have hlt := am_live hH ht (by omega)
  refine va_get C.1 C.2.1 (Ts := am_tbl) C.2.2.2.2.1 (am_cl_tb hci) C.2.2.2.1 C.2.2.2.2.2.2.1.1 hH.2.1 a (by rw [am_ws_at hlt, am_ce_obj ht hci]) (am_cl_ok ci hci) k hk (C.2.2.2.2.1 _ hw) (fun _ h => h) (v := .int (am_I h a k)) ?_ hd (kk C hE hc hs hH hS hl)
  simp [hk, am_fv, ht, hr]
theorem am_getP {M : am_M} {kc ks pc : Nat} {al as : List Value} {h : am_H} {Q : Option Value → am_H → Prop} {idx ci k a : Nat} (hd : decode M.2.1 pc = .ok (.getfield idx, 3)) (hw : Cond.fieldLink M.1.cls idx (am_cT ci k).1 (am_cT ci k).2.1 (am_cT ci k).2.2.1 ∈ am_tbl) (hci : ci < 13) (hk : k < am_cN ci) (hr : am_ir (am_fy ci k) = true) (ht : am_tg h a = (ci, am_cN ci)) (kk : am_EI M kc ks (pc + 3) al (am_rv (am_P h a k) :: as) h Q) : am_EI M kc ks pc al (.ref a :: as) h Q := by
  intro K p l e R s m args below meth c H locs cells slots ls bc bs QF C hE hc hs hH hS hl
  have hlt := am_live hH ht (by omega)
  have k2 := kk C hE hc hs hH hS hl
  have e : (am_rv (am_P h a k) :: as).map (am_cv K) = va_rf ((am_P h a k).map (K.1 + ·)) :: as.map (am_cv K) := by
    rw [List.map_cons]
    congr 1
    cases am_P h a k <;> rfl
  rw [e] at k2
  refine va_get C.1 C.2.1 (Ts := am_tbl) C.2.2.2.2.1 (am_cl_tb hci) C.2.2.2.1 C.2.2.2.2.2.2.1.1 hH.2.1 a (by rw [am_ws_at hlt, am_ce_obj ht hci]) (am_cl_ok ci hci) k hk (C.2.2.2.2.1 _ hw) (fun _ h => h) (v := va_rf ((am_P h a k).map (K.1 + ·))) ?_ hd k2
  simp [hk, am_fv, ht, hr]
/-- a field is written: the final ones by a constructor of the class itself -/
theorem am_put {M : am_M} {kc ks pc : Nat} {al as : List Value} {h : am_H} {Q : Option Value → am_H → Prop} {idx ci k a : Nat} {v : Value} {h' : am_H} (hd : decode M.2.1 pc = .ok (.putfield idx, 3)) (hw : Cond.fieldLink M.1.cls idx (am_cT ci k).1 (am_cT ci k).2.1 (am_cT ci k).2.2.1 ∈ am_tbl) (hci : ci < 13) (hk : k < am_cN ci) (hfin : (am_cT ci k).2.2.2 = false ∨ ((am_cT ci k).2.2.2 = true ∧ M.1.name = "<init>" ∧ (am_cT ci k).1 = M.1.cls))
    (ht : am_tg h a = (ci, am_cN ci)) (hs' : am_sz h' = am_sz h) (ht' : ∀ i, am_tg h' i = am_tg h i) (hI' : ∀ i, i ≠ a → am_I h' i = am_I h i) (hP' : ∀ i, i ≠ a → am_P h' i = am_P h i)
    (hfv : ∀ (K : am_K) (j : Nat), am_fv K h' a j = if j = k then am_cv K v else am_fv K h a j) (hnf : ∀ K : am_K, narrow (am_fy ci k) (am_cv K v) = am_cv K v ∧ fits (am_fy ci k) (am_cv K v) = true)
    (kk : am_EI M kc ks (pc + 3) al as h' Q) : am_EI M kc ks pc al (v :: .ref a :: as) h Q := by
  intro K p l e R s m args below meth c H locs cells slots ls bc bs QF C hE hc hs hH hS hl
  have hlt := am_live hH ht (by omega)
  have he := am_ws_at (K := K) hlt
  rw [am_ce_obj ht hci] at he
  have hcl := am_cl_ok ci hci
  have hap := va_apart (own := M.1.cls) C.2.2.2.2.1 (am_cl_tb hci) (am_fy ci) (am_cl_ty ci hci) (am_cl_nm ci hci) C.2.2.2.2.2.2.1.1 hcl
  obtain ⟨r, h1, cell, q1, q2, q3, q4⟩ := hH.2.1 a _ he
  have hrr : r = (am_cR ci, am_cT ci, am_cN ci) := Option.some.inj (h1.symm.trans hcl)
  subst hrr
  obtain ⟨hS2, hfc, kC, hkC, hkind⟩ := C.2.2.2.2.2.2.1.1.1 ci _ hcl
  obtain ⟨cf, kf, fi, f, hi, hsl⟩ := hS2 k hk
  have hlay := C.2.2.2.2.1 _ (am_cl_tb hci _ (u_in_lay hk))
  have hty := am_cl_ty ci hci k hk
  have hst := (u_facts hfc hkC (u_lays C.2.2.2.2.1 (am_cl_tb hci) hk) hi).1
  have done : ∀ H' : Heap, H'[K.1 + a]? = some (cell.setSlot f.slot (am_cv K v)) → H'.size = H.size → (∀ q, q ≠ K.1 + a → H'[q]? = H[q]?) → W p l e R s m args below meth c H' (locs ++ [⟨K.1 + a, f.slot⟩]) cells slots QF (F0 m (pc + 3) ls (as.map (am_cv K))) := by
    intro H' e1 e2 e3
    rw [hsl] at e1
    refine kk C hE hc hs (hH.put hlt hs' ht' hI' hP' e2 e3 ?_) (hS.put e2 e3 (Nat.le_add_right _ _)) hl
    rw [am_ce_obj ((ht' a).trans ht) hci]
    refine ⟨_, hcl, t_OB.to (V := updV (vp_V ((List.range (am_cN ci)).map (am_fv K h a))) k (am_cv K v)) ⟨_, e1, q2, q3, t_set q4 hap hk _⟩ (fun j hj => ?_)⟩
    have hj' : j < am_cN ci := hj
    simp only [updV, vp_V, List.getD_eq_getElem?_getD, List.getElem?_map, List.getElem?_range hj', Option.map_some, Option.getD_some]
    rw [hfv K j]
  obtain ⟨hn1, hn2⟩ := hnf K
  rcases hfin with hfin | ⟨hfin, hini, hdecl⟩
  · unfold u_lay at hlay
    rw [if_neg (by rw [hfin]; decide)] at hlay
    have h6 := u_store hfc hkC hkind hlay hi hty hn1 hn2
    exact W.putK C.1 C.2.1 (f := f) ⟨C.2.2.2.1, C.2.2.2.2.1 _ hw, ⟨_, _, _, hi⟩, hst⟩ (by rw [q2]; exact h6) q1 q3 (by rw [hsl]; exact k2_hasslot (q4 k hk)) rfl rfl hd done
  · unfold u_lay at hlay
    rw [if_pos hfin] at hlay
    have hcf : m.cls = cf := by
      obtain ⟨_, _, c', _, _, _, -, -, hf', -, -, -, hown2, -⟩ := Cond.laysFinal_spec hlay
      have e1 : c' = cf := by have := hi.symm.trans hf'; simp at this; exact this.1.symm
      rw [hdecl] at hown2
      rw [← e1]; exact Option.some.inj (C.2.2.2.1.symm.trans hown2)
    have h6 := u_fits hfc hkC hkind (Or.inr hlay) hi hty hn1 hn2
    exact W.putFinK C.1 C.2.1 C.2.2.2.1 (C.2.2.2.2.1 _ hw) hi hst hcf (C.2.2.2.2.2.1.trans hini) (by rw [q2]; exact h6) q1 q3 (by rw [hsl]; exact k2_hasslot (q4 k hk)) rfl rfl hd done
theorem am_b01_nf {y : Int32} (hy : am_b01 y) : narrow .boolean (.int y) = .int y ∧ fits .boolean (.int y) = true := by
  rcases hy with rfl | rfl <;> decide
theorem am_putI {M : am_M} {kc ks pc : Nat} {al as : List Value} {h : am_H} {Q : Option Value → am_H → Prop} {idx ci k a : Nat} {y : Int32} (hd : decode M.2.1 pc = .ok (.putfield idx, 3)) (hw : Cond.fieldLink M.1.cls idx (am_cT ci k).1 (am_cT ci k).2.1 (am_cT ci k).2.2.1 ∈ am_tbl) (hci : ci < 13) (hk : k < am_cN ci) (hfin : (am_cT ci k).2.2.2 = false ∨ ((am_cT ci k).2.2.2 = true ∧ M.1.name = "<init>" ∧ (am_cT ci k).1 = M.1.cls))
    (hty : am_fy ci k = .int ∨ (am_fy ci k = .boolean ∧ am_b01 y)) (ht : am_tg h a = (ci, am_cN ci)) (kk : am_EI M kc ks (pc + 3) al as (am_si h a k y) Q) : am_EI M kc ks pc al (.int y :: .ref a :: as) h Q := by
  have hir : am_ir (am_fy ci k) = false := by rcases hty with e | ⟨e, -⟩ <;> rw [e] <;> rfl
  refine am_put (h' := am_si h a k y) hd hw hci hk hfin ht rfl (fun _ => rfl) (fun i e => am_I_sin e) (fun _ _ => rfl) (fun K j => ?_) (fun K => ?_) kk
  · unfold am_fv
    rw [am_tg_si, am_P_si, am_I_sis, ht]
    by_cases e : j = k
    · subst e
      simp [hir, va_up, am_cv]
    · simp [e, va_up]
  · show narrow _ (.int y) = .int y ∧ fits _ (.int y) = true
    rcases hty with e | ⟨e, e2⟩
    · rw [e]; exact ⟨rfl, rfl⟩
    · rw [e]; exact am_b01_nf e2
theorem am_putP {M : am_M} {kc ks pc : Nat} {al as : List Value} {h : am_H} {Q : Option Value → am_H → Prop} {idx ci k a : Nat} {v : Option Nat} (hd : decode M.2.1 pc = .ok (.putfield idx, 3)) (hw : Cond.fieldLink M.1.cls idx (am_cT ci k).1 (am_cT ci k).2.1 (am_cT ci k).2.2.1 ∈ am_tbl) (hci : ci < 13) (hk : k < am_cN ci) (hfin : (am_cT ci k).2.2.2 = false ∨ ((am_cT ci k).2.2.2 = true ∧ M.1.name = "<init>" ∧ (am_cT ci k).1 = M.1.cls))
    (hir : am_ir (am_fy ci k) = true) (ht : am_tg h a = (ci, am_cN ci)) (kk : am_EI M kc ks (pc + 3) al as (am_sp h a k v) Q) : am_EI M kc ks pc al (am_rv v :: .ref a :: as) h Q := by
  refine am_put (h' := am_sp h a k v) hd hw hci hk hfin ht rfl (fun _ => rfl) (fun _ _ => rfl) (fun i e => am_P_spn e) (fun K j => ?_) (fun K => ?_) kk
  · unfold am_fv
    rw [am_tg_sp, am_I_sp, am_P_sps, ht]
    by_cases e : j = k
    · subst e
      cases v <;> simp [hir, va_up, am_cv, am_rv, va_rf]
    · simp [e, va_up]
  · cases hf : am_fy ci k with
    | object C => cases v <;> exact ⟨rfl, rfl⟩
    | array C => cases v <;> exact ⟨rfl, rfl⟩
    | _ => rw [hf] at hir; cases hir
