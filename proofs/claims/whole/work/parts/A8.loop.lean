/-! the law's loop and its beginning -/
theorem dl_0 : decode code 0 = .ok (.new 7, 3) := by decide +kernel
theorem dl_3 : decode code 3 = .ok (.dup, 1) := by decide +kernel
theorem dl_4 : decode code 4 = .ok (.invokespecial 9, 3) := by decide +kernel
theorem dl_7 : decode code 7 = .ok (.astore_n 1, 1) := by decide +kernel
theorem dl_8 : decode code 8 = .ok (.new 10, 3) := by decide +kernel
theorem dl_11 : decode code 11 = .ok (.dup, 1) := by decide +kernel
theorem dl_12 : decode code 12 = .ok (.invokespecial 12, 3) := by decide +kernel
theorem dl_15 : decode code 15 = .ok (.astore_n 2, 1) := by decide +kernel
theorem dl_16 : decode code 16 = .ok (.iconst 0, 1) := by decide +kernel
theorem dl_17 : decode code 17 = .ok (.istore_n 3, 1) := by decide +kernel
theorem dl_18 : decode code 18 = .ok (.iload_n 3, 1) := by decide +kernel
theorem dl_19 : decode code 19 = .ok (.aload_n 0, 1) := by decide +kernel
theorem dl_20 : decode code 20 = .ok (.arraylength, 1) := by decide +kernel
theorem dl_21 : decode code 21 = .ok (.bipush 6, 2) := by decide +kernel
theorem dl_23 : decode code 23 = .ok (.isub, 1) := by decide +kernel
theorem dl_24 : decode code 24 = .ok (.if_icmp .gt 1167, 3) := by decide +kernel
theorem dl_27 : decode code 27 = .ok (.aload_n 0, 1) := by decide +kernel
theorem dl_28 : decode code 28 = .ok (.iload_n 3, 1) := by decide +kernel
theorem dl_29 : decode code 29 = .ok (.iaload, 1) := by decide +kernel
theorem dl_30 : decode code 30 = .ok (.bipush 31, 2) := by decide +kernel
theorem dl_32 : decode code 32 = .ok (.iand, 1) := by decide +kernel
theorem dl_1185 : decode code 1185 = .ok (.iinc 3 6, 3) := by decide +kernel
theorem dl_1188 : decode code 1188 = .ok (.goto (-1170), 3) := by decide +kernel
theorem dl_1191 : decode code 1191 = .ok (.iconst 1, 1) := by decide +kernel
theorem dl_1192 : decode code 1192 = .ok (.ireturn, 1) := by decide +kernel
def lw_tg : List Nat := [172, 235, 258, 271, 294, 317, 340, 353, 366, 379, 392, 415, 438, 481, 514, 557, 600, 643, 676, 729, 762, 805, 848, 871, 914, 957, 1010, 1053, 1096, 1139, 1172]
theorem dl_33 : decode code 33 = .ok (.tableswitch 1152 0 30 (lw_tg.map (fun t : Nat => (t : Int) - 33)).toArray, 139) := by decide +kernel
theorem and31 (v : Int32) : ∃ n : Nat, n ≤ 31 ∧ v &&& 31 = ji (n : Int) := by
  refine ⟨(v.toBitVec &&& 31#32).toNat, ?_, ?_⟩
  · rw [BitVec.toNat_and]
    exact Nat.and_le_right
  · apply Int32.toBitVec_inj.mp
    rw [Int32.toBitVec_and]
    show v.toBitVec &&& 31#32 = BitVec.ofInt 32 (((v.toBitVec &&& 31#32).toNat : Nat) : Int)
    rw [BitVec.ofInt_natCast, BitVec.ofNat_toNat, BitVec.setWidth_eq]
theorem lw_switch {X : lw_X} {kc ks n : Nat} {al as : List Value} {h : am_H} (C : lw_C X m_Law) (hn : n ≤ 31) (cases : ∀ t ∈ lw_tg, lw_E X m_Law kc ks t al as h) (out : lw_E X m_Law kc ks 1185 al as h) : lw_E X m_Law kc ks 33 al (.int (ji (n : Int)) :: as) h := by
  have ti : (ji (n : Int)).toInt = (n : Int) := ji_toInt (by omega) (by omega)
  have ll : lw_tg.length = 31 := rfl
  by_cases c : n < 31
  · obtain ⟨t, ht⟩ : ∃ t, lw_tg[n]? = some t := ⟨_, List.getElem?_eq_getElem (by omega)⟩
    refine lw_tabIn (off := (t : Int) - 33) (tgt := t) C dl_33 (by rw [ti]; omega) (by rw [ti]; omega) ?_ (by omega) (cases t (List.mem_of_getElem? ht))
    rw [ti, show ((n : Int) - 0).toNat = n by omega, List.getElem?_toArray, List.getElem?_map, ht]
    rfl
  · exact lw_tabOut (tgt := 1185) C dl_33 (Or.inr (by rw [ti]; omega)) (by decide) out
theorem lw_loop {X : lw_X} {b L : Nat} {xs : Nat → Int32} (C : lw_C X m_Law) (S : lw_S X b L xs) (hL : L ≤ 3072) (fin : ∀ (al : List Value) (h : am_H), lw_E X m_Law 0 0 1192 al [.int 1] h) : ∀ (n j : Nat) (st : St) (h : am_H), L < 6 * (j + n + 1) → 6 * j ≤ 4000 → mnA h st → rfA h st → lw_E X m_Law (6 * n) (53 * n) 18 (lw_al (6 * j)) [] h := by
  have eL : Int32.ofNat L = ji (L : Int) := Int32.ofInt_eq_ofNat.symm
  have hd : ∀ (kc ks j : Nat) (h : am_H), 6 * j ≤ 4000 → (6 * j + 5 < L → lw_E X m_Law kc ks 27 (lw_al (6 * j)) [] h) → lw_E X m_Law kc ks 18 (lw_al (6 * j)) [] h := by
    intro kc ks j h hj k
    refine lw_iload_n C dl_18 rfl (lw_aload_s C S dl_19 rfl (lw_slen C S dl_20 (lw_bipush (v := 6) C dl_21 rfl (lw_isub C dl_23 ?_))))
    rw [eL, jk6, ji_sub]
    refine lw_ic_gt (tgt := 1191) C dl_24 (by decide) (fun q => ?_) (fun q => ?_)
    · exact lw_iconst (v := 1) C dl_1191 rfl (lw_E.room (Nat.zero_le _) (Nat.zero_le _) (fin _ _))
    · rw [ji_lt] at q
      exact k (by omega)
  intro n
  induction n with
  | zero =>
    intro j st h hj h4 mm rr
    exact hd _ _ j h h4 (fun q => absurd q (by omega))
  | succ n ih =>
    intro j st h hj h4 mm rr
    refine lw_E.room (kc := 6 * n + 6) (ks := 53 * n + 53) (by omega) (by omega) (hd _ _ j h h4 (fun q => ?_))
    have next : ∀ h' st', mnA h' st' → rfA h' st' → lw_E X m_Law (6 * n) (53 * n) 1185 (lw_al (6 * j)) [] h' := by
      intro h' st' m' r'
      refine lw_iinc (v := 6) C dl_1185 (y := ji ((6 * j : Nat) : Int)) rfl rfl (lw_goto (tgt := 18) C dl_1188 (by decide) ?_)
      have e : (lw_al (6 * j)).set 3 (.int (ji ((6 * j : Nat) : Int) + 6)) = lw_al (6 * (j + 1)) := by
        rw [jk6, ji_add, show ((6 * j : Nat) : Int) + 6 = ((6 * (j + 1) : Nat) : Int) by omega]
        rfl
      rw [e]
      exact ih (j + 1) st' h' (by omega) (by omega) m' r'
    refine lw_aload_s C S dl_27 rfl (lw_iload_n (y := ji ((6 * j : Nat) : Int)) C dl_28 rfl (lw_sld C S dl_29 (by rw [ji_in]; omega) (lw_bipush (v := 31) C dl_30 rfl (lw_iand C dl_32 ?_))))
    obtain ⟨v, hv, ev⟩ := and31 (xs (ji ((6 * j : Nat) : Int)).toNatClampNeg)
    rw [ev]
    refine lw_switch C hv ?_ (lw_E.room (by omega) (by omega) (next h st mm rr))
    exact List.forall_mem_cons.mpr ⟨lc_feed C S q hL mm rr next, List.forall_mem_cons.mpr ⟨lc_end C S q hL mm rr next, List.forall_mem_cons.mpr ⟨lc_port C S q hL mm rr next, List.forall_mem_cons.mpr ⟨lc_longer C S q hL mm rr next, List.forall_mem_cons.mpr ⟨lc_second C S q hL mm rr next, List.forall_mem_cons.mpr ⟨lc_sill C S q hL mm rr next, List.forall_mem_cons.mpr ⟨lc_ship C S q hL mm rr next, List.forall_mem_cons.mpr ⟨lc_route C S q hL mm rr next, List.forall_mem_cons.mpr ⟨lc_place C S q hL mm rr next, List.forall_mem_cons.mpr ⟨lc_fault C S q hL mm rr next, List.forall_mem_cons.mpr ⟨lc_count C S q hL mm rr next, List.forall_mem_cons.mpr ⟨lc_turns C S q hL mm rr next, List.forall_mem_cons.mpr ⟨lc_turn C S q hL mm rr next, List.forall_mem_cons.mpr ⟨lc_water C S q hL mm rr next, List.forall_mem_cons.mpr ⟨lc_above C S q hL mm rr next, List.forall_mem_cons.mpr ⟨lc_rise C S q hL mm rr next, List.forall_mem_cons.mpr ⟨lc_ebb C S q hL mm rr next, List.forall_mem_cons.mpr ⟨lc_hours C S q hL mm rr next, List.forall_mem_cons.mpr ⟨lc_hour C S q hL mm rr next, List.forall_mem_cons.mpr ⟨lc_minutes C S q hL mm rr next, List.forall_mem_cons.mpr ⟨lc_good C S q hL mm rr next, List.forall_mem_cons.mpr ⟨lc_note C S q hL mm rr next, List.forall_mem_cons.mpr ⟨lc_stops C S q hL mm rr next, List.forall_mem_cons.mpr ⟨lc_leg C S q hL mm rr next, List.forall_mem_cons.mpr ⟨lc_arrive C S q hL mm rr next, List.forall_mem_cons.mpr ⟨lc_pass C S q hL mm rr next, List.forall_mem_cons.mpr ⟨lc_waits C S q hL mm rr next, List.forall_mem_cons.mpr ⟨lc_start C S q hL mm rr next, List.forall_mem_cons.mpr ⟨lc_letter C S q hL mm rr next, List.forall_mem_cons.mpr ⟨lc_same C S q hL mm rr next, List.forall_mem_cons.mpr ⟨lc_status C S q hL mm rr next, fun _ hn => absurd hn List.not_mem_nil⟩⟩⟩⟩⟩⟩⟩⟩⟩⟩⟩⟩⟩⟩⟩⟩⟩⟩⟩⟩⟩⟩⟩⟩⟩⟩⟩⟩⟩⟩⟩
/-- the empty heap -/
def am_h0 : am_H := (0, fun _ => (99, 0), fun _ _ => 0, fun _ _ => none)
theorem mn_new {h h' : am_H} (z : am_sz h' = 146) (e : es h h' 0 87) (f : mnF h) (x : mnX h) (t : tpT h 1 []) (i : ∀ j, am_I h 0 j = if j = 16 then -9999 else 0) : mnA h' st0 := by
  have i' : ∀ j, am_I h' 0 j = if j = 16 then -9999 else 0 := fun j => by rw [(e 0 (by omega) (by omega)).2.1]; exact i j
  refine ⟨f.es (e.sub (by omega) (by omega)) (e.sub (by omega) (by omega)), x.es (e.sub (by omega) (by omega)) (e.sub (by omega) (by omega)), t.es (e.sub (by omega) (by omega)), ⟨⟨by rw [i']; rfl, by decide⟩, ⟨by rw [i']; rfl, by decide⟩, ⟨by rw [i']; rfl, by decide⟩, ⟨by rw [i']; rfl, by decide⟩⟩, fun j P hP => by simp [st0] at hP, fun j P hP => by simp [st0] at hP, fun j P hP => by simp [st0] at hP, fun j P hP => by simp [st0] at hP, ⟨by rw [i']; rfl, by rw [i']; rfl, by rw [i']; rfl⟩, by omega, Nat.le_refl _⟩
theorem lw_body {X : lw_X} {b L : Nat} {xs : Nat → Int32} (C : lw_C X m_Law) (S : lw_S X b L xs) (hL : L ≤ 3072) (fin : ∀ (al : List Value) (h : am_H), lw_E X m_Law 0 0 1192 al [.int 1] h) : lw_E X m_Law 600000 7302250 0 [.retAddr 400, .float 0, .float 0, .float 0] [] am_h0 := by
  have main : ∀ A B : Nat, 6 * 512 ≤ A → 53 * 512 ≤ B → lw_E X m_Law (A + 58 + 1 + 86 + 1) (B + 347436 + 56 + 3896 + 18) 0 [.retAddr 400, .float 0, .float 0, .float 0] [] am_h0 := ?_
  · exact lw_E.room (by omega) (by omega) (main (6 * 512) (53 * 512) (Nat.le_refl _) (Nat.le_refl _))
  intro A B hA hB
  refine lw_new (ci := 11) (kc := A + 58 + 1 + 86) (ks := B + 347436 + 56 + 3896) C dl_0 (by decide) cl_13_7 in_11 ii_11 ?_
  refine lw_dup C dl_3 (Or.inr ⟨_, rfl⟩) ?_
  refine lw_callI (M2 := m_Main_init) (a := 0) (kc := A + 58 + 1) (ks := B + 347436 + 56) (k2c := 86) (k2s := 3896) (as := [.ref 0]) C [] dl_4 lk_13_9 im_Main_init rfl rfl lm_Main_init np_Main_init ⟨Nat.le_of_ble_eq_true rfl, Nat.le_of_ble_eq_true rfl⟩ (am_short_1 (Or.inr (Or.inl ⟨_, rfl⟩)) (by simp) (fun w hw => absurd hw List.not_mem_nil)) (am_Ev.mono (fun v h1 q => ?_) (mk_Main (h := am_h0) (Q := fun h1 => am_sz h1 = 87 ∧ mnF h1 ∧ mnX h1 ∧ tpT h1 1 [] ∧ ∀ j, am_I h1 0 j = if j = 16 then -9999 else 0) rfl (fun h1 z1 f1 x1 t1 i1 => ⟨z1, f1, x1, t1, i1⟩)))
  obtain ⟨rfl, z1, f1, x1, t1, i1⟩ := am_qw_cases q
  show lw_E X m_Law (A + 58 + 1) (B + 347436 + 56) 7 [.retAddr 400, .float 0, .float 0, .float 0] [.ref 0] h1
  refine lw_astore_n C dl_7 (by decide) ?_
  refine lw_new (ci := 12) (kc := A + 58) (ks := B + 347436) C dl_8 (by decide) cl_13_10 in_12 ii_12 ?_
  rw [z1]
  refine lw_dup C dl_11 (Or.inr ⟨_, rfl⟩) ?_
  refine lw_callI (M2 := m_Ref_init) (a := 87) (kc := A) (ks := B) (k2c := 58) (k2s := 347436) (as := [.ref 87]) C [] dl_12 lk_13_12 im_Ref_init rfl rfl lm_Ref_init np_Ref_init ⟨Nat.le_of_ble_eq_true rfl, Nat.le_of_ble_eq_true rfl⟩ (am_short_1 (Or.inr (Or.inl ⟨_, rfl⟩)) (by simp) (fun w hw => absurd hw List.not_mem_nil)) (am_Ev.mono (fun v h2 q => ?_) (mk_Ref (h := h1) (Q := fun h2 => am_sz h2 = 146 ∧ es h1 h2 0 87 ∧ rfA h2 st0) z1 (fun h2 z2 e2 r2 => ⟨z2, e2, r2⟩)))
  obtain ⟨rfl, z2, e2, r2⟩ := am_qw_cases q
  show lw_E X m_Law A B 15 [.retAddr 400, .ref 0, .float 0, .float 0] [.ref 87] h2
  refine lw_astore_n C dl_15 (by decide) (lw_iconst (v := 0) C dl_16 rfl (lw_istore_n C dl_17 (by decide) ?_))
  exact lw_E.room hA hB (lw_loop C S hL fin 512 0 st0 h2 (by omega) (by omega) (mn_new z2 e2 f1 x1 t1 i1) r2)
