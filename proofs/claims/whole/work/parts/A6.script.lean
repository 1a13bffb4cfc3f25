/-! the law: its script, its calls -/
def m_Law : am_M := (x, code, 4, ret, 15, 554)
def lw_S (X : lw_X) (b L : Nat) (xs : Nat → Int32) : Prop := match X with
  | (K, _, _, _, _, s, _, _, _, _, _, _, _, _) => K.2.2.2 400 = .ref b ∧ va_X b L xs s s.heap ∧ b < s.heap.size ∧ ¬ am_A K b
theorem lw_aload_s {X : lw_X} {M : am_M} {kc ks pc : Nat} {al as : List Value} {h : am_H} {b L : Nat} {xs : Nat → Int32} {n : Fin 4} (C : lw_C X M) (S : lw_S X b L xs) (hd : decode M.2.1 pc = .ok (.aload_n n, 1)) (hy : al[(n : Nat)]? = some (.retAddr 400)) (k : lw_E X M kc ks (pc + 1) al (.retAddr 400 :: as) h) : lw_E X M kc ks pc al as h := by
  obtain ⟨K, p, l, e, R, s, m, args, below, meth, c, bc, bs, QF⟩ := X
  have C : am_Cx K M p R s m args meth c bc bs := C
  obtain ⟨e1, -⟩ := S
  intro H locs cells slots ls hc hs hH hS hl
  have kk := k hc hs hH hS hl
  rw [am_cvc e1] at kk
  refine lv_aload_n C.1 C.2.1 hd rfl ?_ kk
  rw [hl.at hy (fun _ q => by cases q)]
  exact congrArg (fun w => some (Slot.val w)) e1
theorem lw_sld {X : lw_X} {M : am_M} {kc ks pc : Nat} {al as : List Value} {h : am_H} {b L : Nat} {xs : Nat → Int32} {i : Int32} (C : lw_C X M) (S : lw_S X b L xs) (hd : decode M.2.1 pc = .ok (.iaload, 1)) (hin : vp_in i L) (k : lw_E X M kc ks (pc + 1) al (.int (xs i.toNatClampNeg) :: as) h) : lw_E X M kc ks pc al (.int i :: .retAddr 400 :: as) h := by
  obtain ⟨K, p, l, e, R, s, m, args, below, meth, c, bc, bs, QF⟩ := X
  have C : am_Cx K M p R s m args meth c bc bs := C
  obtain ⟨e1, e2, e3, e4⟩ := S
  intro H locs cells slots ls hc hs hH hS hl
  have kk := k hc hs hH hS hl
  have es : (Value.int i :: Value.retAddr 400 :: as).map (am_cv K) = .int i :: .ref b :: as.map (am_cv K) := by
    rw [List.map_cons, am_cvc e1]
    rfl
  rw [es]
  exact va_sld C.1 C.2.1 e2 e3 e4 hS hin hd kk
theorem lw_slen {X : lw_X} {M : am_M} {kc ks pc : Nat} {al as : List Value} {h : am_H} {b L : Nat} {xs : Nat → Int32} (C : lw_C X M) (S : lw_S X b L xs) (hd : decode M.2.1 pc = .ok (.arraylength, 1)) (k : lw_E X M kc ks (pc + 1) al (.int (Int32.ofNat L) :: as) h) : lw_E X M kc ks pc al (.retAddr 400 :: as) h := by
  obtain ⟨K, p, l, e, R, s, m, args, below, meth, c, bc, bs, QF⟩ := X
  have C : am_Cx K M p R s m args meth c bc bs := C
  obtain ⟨e1, e2, e3, e4⟩ := S
  intro H locs cells slots ls hc hs hH hS hl
  have kk := k hc hs hH hS hl
  rw [am_cvc e1]
  exact va_slen C.1 C.2.1 e2 e3 e4 hS hd kk
def lw_al (i : Nat) : List Value := [.retAddr 400, .ref 0, .ref 87, .int (ji (i : Int))]
theorem lw_arg1 {X : lw_X} {kc ks pc i k : Nat} {as : List Value} {h : am_H} {b L : Nat} {xs : Nat → Int32} (C : lw_C X m_Law) (S : lw_S X b L xs) (h0 : decode code pc = .ok (.aload_n 0, 1)) (h1 : decode code (pc + 1) = .ok (.iload_n 3, 1)) (h2 : decode code (pc + 2) = .ok (.iconst ((k : Int) + 1), 1)) (h3 : decode code (pc + 3) = .ok (.iadd, 1)) (h4 : decode code (pc + 4) = .ok (.iaload, 1)) (hi : i + 1 + k < L) (hL : L ≤ 3072) (kk : lw_E X m_Law kc ks (pc + 5) (lw_al i) (.int (xs (i + 1 + k)) :: as) h) : lw_E X m_Law kc ks pc (lw_al i) as h := by
  refine lw_aload_s C S h0 rfl (lw_iload_n C h1 rfl (lw_iconst (v := ji ((k : Int) + 1)) C h2 rfl (lw_iadd C h3 ?_)))
  rw [ji_add]
  refine lw_sld C S h4 (by rw [ji_in]; omega) ?_
  rw [ji_tn, show ((i : Int) + ((k : Int) + 1)).toNat = i + 1 + k by omega]
  exact kk
def lw_ck (pc k : Nat) : Bool := decide (decode code (pc + 5 * k) = .ok (.aload_n 0, 1)) && decide (decode code (pc + 5 * k + 1) = .ok (.iload_n 3, 1)) && decide (decode code (pc + 5 * k + 2) = .ok (.iconst ((k : Int) + 1), 1)) && decide (decode code (pc + 5 * k + 3) = .ok (.iadd, 1)) && decide (decode code (pc + 5 * k + 4) = .ok (.iaload, 1))
def lw_okA (pc n : Nat) : Bool := (List.range n).all (lw_ck pc)
def lw_vs (xs : Nat → Int32) (i n : Nat) : List Value := (List.range n).map (fun k => .int (xs (i + 1 + k)))
theorem lw_push {X : lw_X} {kc ks pc i : Nat} {h : am_H} {b L : Nat} {xs : Nat → Int32} (C : lw_C X m_Law) (S : lw_S X b L xs) (hi : i + 5 < L) (hL : L ≤ 3072) : ∀ (n : Nat) (as : List Value), n ≤ 5 → lw_okA pc n = true → lw_E X m_Law kc ks (pc + 5 * n) (lw_al i) ((lw_vs xs i n).reverse ++ as) h → lw_E X m_Law kc ks pc (lw_al i) as h
  | 0, as, _, _, k => k
  | n + 1, as, hn, ok, k => by
    unfold lw_okA at ok
    rw [List.range_succ, List.all_append, Bool.and_eq_true] at ok
    have ck : lw_ck pc n = true := by
      have := ok.2
      rw [List.all_cons, Bool.and_eq_true] at this
      exact this.1
    unfold lw_ck at ck
    simp only [Bool.and_eq_true, decide_eq_true_eq] at ck
    obtain ⟨⟨⟨⟨c0, c1⟩, c2⟩, c3⟩, c4⟩ := ck
    refine lw_push C S hi hL n as (by omega) ok.1 (lw_arg1 C S c0 c1 c2 c3 c4 (by omega) hL ?_)
    have e : (lw_vs xs i (n + 1)).reverse ++ as = .int (xs (i + 1 + n)) :: ((lw_vs xs i n).reverse ++ as) := by
      unfold lw_vs
      rw [List.range_succ, List.map_append, List.reverse_append]
      rfl
    rw [e] at k
    exact k
def lw_okC (pc n a b : Nat) : Bool := decide (decode code pc = .ok (.aload_n 1, 1)) && lw_okA (pc + 1) n && decide (decode code (pc + 1 + 5 * n) = .ok (.invokevirtual a, 3)) && decide (decode code (pc + 1 + 5 * n + 3) = .ok (.aload_n 2, 1)) && lw_okA (pc + 1 + 5 * n + 3 + 1) n && decide (decode code (pc + 1 + 5 * n + 3 + 1 + 5 * n) = .ok (.invokevirtual b, 3)) && decide (decode code (pc + 1 + 5 * n + 3 + 1 + 5 * n + 3) = .ok (.if_icmp .eq (1185 - ((pc + 1 + 5 * n + 3 + 1 + 5 * n + 3 : Nat) : Int)), 3))
/-- what the tables say of a method that the law calls -/
def lw_L (M2 : am_M) (idx n ci : Nat) : Prop := Cond.methodLink "SillHoursLaw" idx M2.1 ∈ am_tbl ∧ Cond.instanceMethod M2.1 ∈ am_tbl ∧ Cond.selects M2.1.cls M2.1 M2.1 ∈ am_tbl ∧ am_LM M2 ∧ am_np M2 n ∧ am_CO m_Law M2 ∧ am_cR ci = M2.1.cls
theorem lw_vs_len (xs : Nat → Int32) (i n : Nat) : (lw_vs xs i n).length = n := by
  unfold lw_vs
  rw [List.length_map, List.length_range]
theorem lw_case {X : lw_X} {kc ks k1 s1 pc n a b2 i : Nat} {h : am_H} {b L : Nat} {xs : Nat → Int32} {Mc Mr : am_M} (C : lw_C X m_Law) (S : lw_S X b L xs) (hi : i + 5 < L) (hL : L ≤ 3072) (hn : n ≤ 5) (ok : lw_okC pc n a b2 = true) (lc : lw_L Mc a n 11) (lr : lw_L Mr b2 n 12) (t0 : am_tg h 0 = (11, 18)) (call : am_Ei Mc k1 s1 (.ref 0 :: lw_vs xs i n) h (fun r h1 => am_tg h1 87 = (12, 56) ∧ am_Ei Mr 0 0 (.ref 87 :: lw_vs xs i n) h1 (fun r2 h2 => r = r2 ∧ lw_E X m_Law kc ks 1185 (lw_al i) [] h2))) : lw_E X m_Law (kc + k1) (ks + s1) pc (lw_al i) [] h := by
  unfold lw_okC at ok
  simp only [Bool.and_eq_true, decide_eq_true_eq] at ok
  obtain ⟨⟨⟨⟨⟨⟨o1, o2⟩, o3⟩, o4⟩, o5⟩, o6⟩, o7⟩ := ok
  obtain ⟨c1, c2, c3, c4, c5, c6, c7⟩ := lc
  obtain ⟨d1, d2, d3, d4, d5, d6, d7⟩ := lr
  have ln := lw_vs_len xs i n
  refine lw_aload_n C o1 rfl (lw_push C S hi hL n _ hn o2 ?_)
  refine lw_callV (M2 := Mc) (a := 0) (as := []) C (lw_vs xs i n) o3 c1 c2 c3 c4 (by rw [ln]; exact c5) c6 am_short_nil (by decide) c7 t0 (am_Ev.mono (fun v h1 q => ?_) call)
  obtain ⟨r, rfl, t1, call2⟩ := am_qi_cases q
  show lw_E X m_Law kc ks (pc + 1 + 5 * n + 3) (lw_al i) [.int r] h1
  refine lw_aload_n C o4 rfl (lw_push C S hi hL n _ hn o5 ?_)
  refine lw_callV (M2 := Mr) (kc := kc) (ks := ks) (k2c := 0) (k2s := 0) (a := 87) (as := [.int r]) C (lw_vs xs i n) o6 d1 d2 d3 d4 (by rw [ln]; exact d5) d6 (am_short_1 (Or.inl ⟨_, rfl⟩) (by simp) (fun w hw => absurd hw List.not_mem_nil)) (by decide) d7 t1 (am_Ev.mono (fun v h2 q => ?_) call2)
  obtain ⟨r2, rfl, er, fin⟩ := am_qi_cases q
  show lw_E X m_Law kc ks (pc + 1 + 5 * n + 3 + 1 + 5 * n + 3) (lw_al i) [.int r2, .int r] h2
  exact lw_ic_eq (tgt := 1185) C o7 (by omega) (fun _ => fin) (fun q => absurd er q)
