/-! the reference: shifts -/
theorem wd_0 {T : List Int} {p : Nat} : spl T p (wb 0) = decide (wdI T p = 0) := by
  rw [wdI_c]
  cases spl T p (wb 0)
  · refine (decide_eq_false ?_).symm
    simp only [Bool.false_eq_true, if_false]
    repeat' split
    all_goals omega
  · rfl
theorem wm_0 {T : List Int} {p : Nat} {w : List Int} {c : Int} (h : wm T p (c :: w) = true) : bt T (p : Int) = c := by
  have h : (decide (bt T (p : Int) = c) && wm T (p + 1) w) = true := h
  rw [Bool.and_eq_true, decide_eq_true_iff] at h
  exact h.1
theorem wd_1 {T : List Int} {p : Nat} : spl T p (wb 1) = decide (wdI T p = 1) := by
  rw [wdI_c]
  cases h0 : spl T p (wb 0)
  · cases spl T p (wb 1)
    · refine (decide_eq_false ?_).symm
      simp only [Bool.false_eq_true, if_false]
      repeat' split
      all_goals omega
    · rfl
  · cases h1 : spl T p (wb 1)
    · rfl
    · exfalso
      unfold spl at h0 h1
      rw [Bool.and_eq_true] at h0 h1
      have e0 : wb 0 = [104, 119] := by decide
      have e1 : wb 1 = [108, 119] := by decide
      rw [e0] at h0
      rw [e1] at h1
      have a := wm_0 h0.2
      have b := wm_0 h1.2
      omega
theorem wW_0 {T : List Int} {s : Nat × Bool} (hb : ∀ (i : Nat) (b : Int), T[i]? = some b → 0 ≤ b ∧ b < 256) : wW T (wb 0) s = if (s.2 && decide (wdI T s.1 = 0)) = true then (sk T (s.1 + nl T s.1), true) else (s.1, false) := by
  have d := dW_spl (s := s) hb (wb_let (j := 0) (by omega))
  have e := wd_0 (T := T) (p := s.1)
  unfold wW
  rw [d, ← e]
  cases z : (s.2 && spl T s.1 (wb 0))
  · rfl
  · rw [Bool.and_eq_true] at z
    rw [if_pos rfl, if_pos rfl, spl_nl z.2, z.1]
theorem wW_1 {T : List Int} {s : Nat × Bool} (hb : ∀ (i : Nat) (b : Int), T[i]? = some b → 0 ≤ b ∧ b < 256) : wW T (wb 1) s = if (s.2 && decide (wdI T s.1 = 1)) = true then (sk T (s.1 + nl T s.1), true) else (s.1, false) := by
  have d := dW_spl (s := s) hb (wb_let (j := 1) (by omega))
  have e := wd_1 (T := T) (p := s.1)
  unfold wW
  rw [d, ← e]
  cases z : (s.2 && spl T s.1 (wb 1))
  · rfl
  · rw [Bool.and_eq_true] at z
    rw [if_pos rfl, if_pos rfl, spl_nl z.2, z.1]
/-- a word that must be -/
theorem rf_word {h : am_H} {T : List Int} {s e : Nat × Bool} {j : Int} {Q : am_H → Prop} (t : tkA h T s) (hj : 0 ≤ j) (he : e = if (s.2 && decide (wdI T s.1 = j)) = true then (sk T (s.1 + nl T s.1), true) else (s.1, false)) (k : ∀ h', kw h h' 41 46 → tkA h' T e → Q h') : am_Ew m_Ref_must 0 0 [.ref 87, .int (bi (decide (wdI T s.1 = j)))] h (fun h2 => (am_tg h2 87 = (12, 56) ∧ (am_Ei m_Ref_take 0 0 [.ref 87, .int 2] h2 (fun _ h4 => Q h4)))) := by
  refine s_Ref_must t (fun h2 f2 t2 => ⟨t2.1.1, s_Ref_takeW t2 (fun c h3 f3 t3 => ?_) (fun c h3 f3 t3 => ?_)⟩)
  · have c' : ((s.2 && decide (wdI T s.1 = j)) && decide (0 ≤ wdI T s.1)) = false := c
    rw [if_neg (fun z => by
      rw [z, Bool.true_and] at c'
      rw [Bool.and_eq_true, decide_eq_true_iff] at z
      rw [decide_eq_true (by omega)] at c'
      cases c')] at he
    exact k h3 (f2.tr f3) (by rw [he]; exact t3)
  · have c' : ((s.2 && decide (wdI T s.1 = j)) && decide (0 ≤ wdI T s.1)) = true := c
    rw [Bool.and_eq_true] at c'
    rw [if_pos c'.1] at he
    exact k h3 (f2.tr f3) (by rw [he]; exact t3)
def sfA (h : am_H) (o : Nat) (S : Sh) : Prop := am_I h 141 o = ji S.1 ∧ am_I h 141 (o + 1) = ji S.2.1 ∧ am_I h 141 (o + 2) = ji S.2.2.1 ∧ am_I h 141 (o + 3) = ji S.2.2.2.1 ∧ am_I h 141 (o + 4) = ji S.2.2.2.2 ∧ b4d S.1 ∧ b4d S.2.1 ∧ b4d S.2.2.1 ∧ b4d S.2.2.2.1 ∧ b4d S.2.2.2.2
theorem s_Ref_readShift {h : am_H} {T : List Int} {s : Nat × Bool} {o : Nat} {Q : am_H → Prop} (ho : o ≤ 5) (t : tkA h T s) (k : ∀ h', kt h h' → sfA h' o (vSh T s) → (∀ j, j < o → am_I h' 141 j = am_I h 141 j) → tkA h' T (aSh T s) → Q h') : am_Ew m_Ref_readShift 0 0 [.ref 87, .int (ji (o : Int))] h Q := by
  have t0 : (ji (o : Int)).toNatClampNeg = o := by rw [ji_tn, Int.toNat_natCast]
  have tt : ∀ d : Nat, d ≤ 4 → (ji ((o : Int) + (d : Int))).toNatClampNeg = o + d := fun d hd => by rw [ji_tn]; omega
  have t1 : (ji (o : Int) + 1).toNatClampNeg = o + 1 := by rw [jk1, ji_add]; exact tt 1 (by omega)
  have t2 : (ji (o : Int) + 2).toNatClampNeg = o + 2 := by rw [jk2, ji_add]; exact tt 2 (by omega)
  have t3 : (ji (o : Int) + 3).toNatClampNeg = o + 3 := by rw [jk3, ji_add]; exact tt 3 (by omega)
  have t4 : (ji (o : Int) + 4).toNatClampNeg = o + 4 := by rw [jk4, ji_add]; exact tt 4 (by omega)
  have v1 : vp_in (ji (o : Int) + 1) 10 := by rw [jk1, ji_add, ji_in]; omega
  have v2 : vp_in (ji (o : Int) + 2) 10 := by rw [jk2, ji_add, ji_in]; omega
  have v3 : vp_in (ji (o : Int) + 3) 10 := by rw [jk3, ji_add, ji_in]; omega
  have v4 : vp_in (ji (o : Int) + 4) 10 := by rw [jk4, ji_add, ji_in]; omega
  refine ev_Ref_readShift 87 (ji (o : Int)) h Q ⟨t.1.1, 141, t.1.p51, ?_⟩
  rw [t0, t1, t2, t3, t4]
  refine s_Ref_step t (fun h1 f1 x1 b1 => ⟨by rw [x1.1.t51], by rw [x1.1.t51, ji_in]; omega, x1.1.1, 141, x1.1.p51, ?_⟩)
  refine s_Ref_size (x1.row (b := 141) (k := o) (by omega) (by omega)) (fun h2 f2 x2 b2 => ⟨by rw [x2.1.t51], by rw [x2.1.t51]; exact v1, x2.1.1, 141, x2.1.p51, ?_⟩)
  refine s_Ref_step (x2.row (b := 141) (k := o + 1) (by omega) (by omega)) (fun h3 f3 x3 b3 => ⟨by rw [x3.1.t51], by rw [x3.1.t51]; exact v2, x3.1.1, 141, x3.1.p51, ?_⟩)
  refine s_Ref_size (x3.row (b := 141) (k := o + 2) (by omega) (by omega)) (fun h4 f4 x4 b4 => ⟨by rw [x4.1.t51], by rw [x4.1.t51]; exact v3, x4.1.1, 141, x4.1.p51, ?_⟩)
  refine s_Ref_step (x4.row (b := 141) (k := o + 3) (by omega) (by omega)) (fun h5 f5 x5 b5 => ⟨by rw [x5.1.t51], by rw [x5.1.t51]; exact v4, ?_⟩)
  have F : kt h (am_si h5 141 (o + 4) (ji (vT T (aS T (aT T (aS T (aT T s))))))) := ((((((((kt.of f1).tr (kt.row (by omega))).tr (kt.of f2)).tr (kt.row (by omega))).tr (kt.of f3)).tr (kt.row (by omega))).tr (kt.of f4)).tr (kt.row (by omega))).tr ((kt.of f5).tr (kt.row (by omega)))
  have r : am_I (am_si h5 141 (o + 4) (ji (vT T (aS T (aT T (aS T (aT T s))))))) 141 = va_up (va_up (va_up (va_up (va_up (am_I h 141) o (ji (vT T s))) (o + 1) (ji (vS T (aT T s)))) (o + 2) (ji (vT T (aS T (aT T s))))) (o + 3) (ji (vS T (aT T (aS T (aT T s)))))) (o + 4) (ji (vT T (aS T (aT T (aS T (aT T s)))))) := by
    rw [am_I_sis, f5.2.2.2.1 141 (by omega), am_I_sis, f4.2.2.2.1 141 (by omega), am_I_sis, f3.2.2.2.1 141 (by omega), am_I_sis, f2.2.2.2.1 141 (by omega), am_I_sis, f1.2.2.2.1 141 (by omega)]
  refine k _ F ⟨?_, ?_, ?_, ?_, ?_, b1, b2, b3, b4, b5⟩ (fun j hj => ?_) (x5.row (by omega) (by omega))
  · rw [r, va_up_no _ _ (by omega), va_up_no _ _ (by omega), va_up_no _ _ (by omega), va_up_no _ _ (by omega), va_up_at]
    rfl
  · rw [r, va_up_no _ _ (by omega), va_up_no _ _ (by omega), va_up_no _ _ (by omega), va_up_at]
    rfl
  · rw [r, va_up_no _ _ (by omega), va_up_no _ _ (by omega), va_up_at]
    rfl
  · rw [r, va_up_no _ _ (by omega), va_up_at]
    rfl
  · rw [r, va_up_at]
    rfl
  · rw [r, va_up_no _ _ (by omega), va_up_no _ _ (by omega), va_up_no _ _ (by omega), va_up_no _ _ (by omega), va_up_no _ _ (by omega)]
theorem s_Ref_isRightShift {h : am_H} {o : Nat} {S : Sh} {Q : Int32 → am_H → Prop} (m : rfF h) (ho : o ≤ 5) (s : sfA h o S) (k1 : shO S → Q 1 h) (k0 : ¬ shO S → Q 0 h) : am_Ei m_Ref_isRightShift 0 0 [.ref 87, .int (ji (o : Int))] h Q := by
  obtain ⟨s0, s1, s2, s3, s4, b0, b1, b2, b3, b4⟩ := s
  unfold b4d at b0 b1 b2 b3 b4
  have t0 : (ji (o : Int)).toNatClampNeg = o := by rw [ji_tn, Int.toNat_natCast]
  have tt : ∀ d : Nat, d ≤ 4 → (ji ((o : Int) + (d : Int))).toNatClampNeg = o + d := fun d hd => by rw [ji_tn]; omega
  have t1 : (ji (o : Int) + 1).toNatClampNeg = o + 1 := by rw [jk1, ji_add]; exact tt 1 (by omega)
  have t2 : (ji (o : Int) + 2).toNatClampNeg = o + 2 := by rw [jk2, ji_add]; exact tt 2 (by omega)
  have t3 : (ji (o : Int) + 3).toNatClampNeg = o + 3 := by rw [jk3, ji_add]; exact tt 3 (by omega)
  have t4 : (ji (o : Int) + 4).toNatClampNeg = o + 4 := by rw [jk4, ji_add]; exact tt 4 (by omega)
  have v1 : vp_in (ji (o : Int) + 1) 10 := by rw [jk1, ji_add, ji_in]; omega
  have v2 : vp_in (ji (o : Int) + 2) 10 := by rw [jk2, ji_add, ji_in]; omega
  have v3 : vp_in (ji (o : Int) + 3) 10 := by rw [jk3, ji_add, ji_in]; omega
  have v4 : vp_in (ji (o : Int) + 4) 10 := by rw [jk4, ji_add, ji_in]; omega
  have n131 : ∀ x2, ¬ shO S → am_EI m_Ref_isRightShift 0 0 131 [.ref 87, .int (ji (o : Int)), .int x2] [] h (am_qi Q) := fun x2 c => sg_Ref_isRightShift_131 87 _ _ h _ (sg_Ref_isRightShift_132 87 _ _ _ h _ ⟨b01_0, k0 c⟩)
  have n63 : ¬ shO S → am_EI m_Ref_isRightShift 0 0 63 [.ref 87, .int (ji (o : Int)), .float 0] [] h (am_qi Q) := fun c => sg_Ref_isRightShift_63 87 _ h _ (sg_Ref_isRightShift_64 87 _ _ h _ ⟨fun _ => n131 _ c, fun q => absurd rfl q⟩)
  refine ev_Ref_isRightShift 87 (ji (o : Int)) h Q ⟨m.1, 141, m.p51, by rw [m.t51], by rw [m.t51]; exact v1, ?_⟩
  rw [t1, t3, s1, jm500, jk1500]
  refine s_Ref_isIn (by omega) (by omega) (by omega) (fun c1 => ⟨fun q => absurd q (by decide), fun _ => ⟨m.1, 141, m.p51, by rw [m.t51], by rw [m.t51]; exact v3, ?_⟩⟩) (fun c1 => ⟨fun _ => n63 (fun z => c1 z.1), fun q => absurd rfl q⟩)
  rw [s3]
  refine s_Ref_isIn (by omega) (by omega) (by omega) (fun c2 => ⟨fun q => absurd q (by decide), fun _ => ⟨m.1, 141, m.p51, by rw [m.t51], by rw [m.t51]; exact v1, by rw [m.t51]; exact v3, ?_⟩⟩) (fun c2 => ⟨fun _ => n63 (fun z => c2 z.2.1), fun q => absurd rfl q⟩)
  rw [s1, s3, ji_eq]
  refine ⟨fun c3 => n63 (fun z => z.2.2.1 c3), fun c3 => sg_Ref_isRightShift_64 87 _ _ h _ ⟨fun q => absurd q (by decide), fun _ => ⟨m.1, 141, m.p51, by rw [m.t51], by rw [m.t51, ji_in]; omega, ?_⟩⟩⟩
  rw [t0, t2, t4, s0, jm300, jk300]
  refine s_Ref_isIn (by omega) (by omega) (by omega) (fun c4 => ⟨fun q => absurd q (by decide), fun _ => ⟨m.1, 141, m.p51, by rw [m.t51], by rw [m.t51]; exact v2, ?_⟩⟩) (fun c4 => ⟨fun _ => n131 _ (fun z => c4 z.2.2.2.1), fun q => absurd rfl q⟩)
  rw [s2]
  refine s_Ref_isIn (by omega) (by omega) (by omega) (fun c5 => ⟨fun q => absurd q (by decide), fun _ => ⟨m.1, 141, m.p51, by rw [m.t51], by rw [m.t51]; exact v4, ?_⟩⟩) (fun c5 => ⟨fun _ => n131 _ (fun z => c5 z.2.2.2.2.1), fun q => absurd rfl q⟩)
  rw [s4]
  exact s_Ref_isIn (by omega) (by omega) (by omega) (fun c6 => ⟨fun q => absurd q (by decide), fun _ => sg_Ref_isRightShift_132 87 _ _ _ h _ ⟨b01_1, k1 ⟨c1, c2, c3, c4, c5, c6⟩⟩⟩) (fun c6 => ⟨fun _ => n131 _ (fun z => c6 z.2.2.2.2.2), fun q => absurd rfl q⟩)
theorem s_Ref_areTurns {h : am_H} {E : List Tn} {Q : Int32 → am_H → Prop} (m : rfF h) (te : tmA h E) (hE : 0 < E.length ∧ E.length ≤ 130) (hb : ∀ q ∈ E, (-1000000 ≤ q.2.1 ∧ q.2.1 ≤ 1000000) ∧ (-10000000 ≤ q.2.2 ∧ q.2.2 ≤ 10000000)) (k1 : okT E → Q 1 h) (k0 : ¬ okT E → Q 0 h) : am_Ei m_Ref_areTurns 0 0 [.ref 87] h Q := by
  obtain ⟨p0, hp0⟩ : ∃ p, E[0]? = some p := ⟨_, List.getElem?_eq_getElem hE.1⟩
  have b0 := (hb p0 (List.mem_of_getElem? hp0)).1
  have okL : (∀ i, i < E.length → okI E i) ↔ okT E := ⟨fun a i q hq => a i (List.getElem?_eq_some_iff.mp hq).1 q hq, fun a i _ => a i⟩
  have loop : ∀ (n i : Nat) (v : Bool), i + n = E.length → (v = true ↔ ((0 ≤ p0.2.1 ∧ p0.2.1 ≤ 1439) ∧ ∀ j, j < i → okI E j)) → am_EI m_Ref_areTurns 0 0 16 [.ref 87, .int (bi v), .int (ji (i : Int))] [] h (am_qi Q) := by
    intro n
    induction n with
    | zero =>
      intro i v hi hv
      refine sg_Ref_areTurns_16 87 _ _ h _ ⟨m.1, ?_⟩
      rw [te.1, ji_le]
      refine ⟨fun _ => ⟨bi_01 v, ?_⟩, fun c => absurd (by omega) c⟩
      rw [show i = E.length by omega, okL] at hv
      cases e : v
      · refine k0 (fun z => ?_)
        have b : v = true := hv.mpr ⟨?_, z⟩
        · rw [e] at b
          cases b
        · have := (z 0 p0 hp0).2.1 rfl
          omega
      · exact k1 (hv.mp e).2
    | succ n ih =>
      intro i v hi hv
      obtain ⟨q, hq⟩ : ∃ q, E[i]? = some q := ⟨_, List.getElem?_eq_getElem (by omega)⟩
      obtain ⟨v1, v2, v3⟩ := te.2 i q hq
      have bq := hb q (List.mem_of_getElem? hq)
      have tn : (ji (i : Int)).toNatClampNeg = i := by rw [ji_tn, Int.toNat_natCast]
      have f141 : ∀ v' : Bool, (v' = true ↔ ((0 ≤ p0.2.1 ∧ p0.2.1 ≤ 1439) ∧ ∀ j, j < i + 1 → okI E j)) → am_EI m_Ref_areTurns 0 0 141 [.ref 87, .int (bi v'), .int (ji (i : Int))] [] h (am_qi Q) := by
        intro v' hv'
        refine sg_Ref_areTurns_141 87 _ _ h _ ?_
        rw [jk1, ji_add]
        exact ih (i + 1) v' (by omega) hv'
      have spl : ∀ {X : Prop}, (X ∧ ∀ j, j < i + 1 → okI E j) ↔ ((X ∧ ∀ j, j < i → okI E j) ∧ okI E i) := fun {X} => ⟨fun a => ⟨⟨a.1, fun j hj => a.2 j (by omega)⟩, a.2 i (by omega)⟩, fun a => ⟨a.1.1, fun j hj => (Nat.lt_or_eq_of_le (Nat.le_of_lt_succ hj)).elim (fun c => a.1.2 j c) (fun c => c ▸ a.2)⟩⟩
      have no141 : ¬ (v = true ∧ okI E i) → am_EI m_Ref_areTurns 0 0 141 [.ref 87, .int 0, .int (ji (i : Int))] [] h (am_qi Q) := fun z => f141 false ⟨fun a => (by cases a), fun a => absurd (by rw [spl, ← hv] at a; exact a) z⟩
      have yes141 : v = true → okI E i → am_EI m_Ref_areTurns 0 0 141 [.ref 87, .int 1, .int (ji (i : Int))] [] h (am_qi Q) := fun z z2 => f141 true ⟨fun _ => spl.mpr ⟨hv.mp z, z2⟩, fun _ => rfl⟩
      have no139 : ∀ x1, ¬ (v = true ∧ okI E i) → am_EI m_Ref_areTurns 0 0 139 [.ref 87, .int x1, .int (ji (i : Int))] [] h (am_qi Q) := fun x1 z => sg_Ref_areTurns_139 87 _ _ h _ (sg_Ref_areTurns_140 87 _ _ _ h _ (no141 z))
      have no51 : ∀ x1, ¬ (v = true ∧ okI E i) → am_EI m_Ref_areTurns 0 0 51 [.ref 87, .int x1, .int (ji (i : Int))] [.int 0] h (am_qi Q) := by
        intro x1 z
        exact sg_Ref_areTurns_51 87 _ _ _ h _ ⟨fun _ => ⟨fun _ => no139 _ z, fun c => absurd rfl c⟩, fun _ => no141 z⟩
      have yes51 : ∀ x1, v = true → (-500 ≤ q.2.2 ∧ q.2.2 ≤ 1500) → am_EI m_Ref_areTurns 0 0 51 [.ref 87, .int x1, .int (ji (i : Int))] [.int 1] h (am_qi Q) := by
        intro x1 vt hh
        refine sg_Ref_areTurns_51 87 _ _ _ h _ ?_
        rw [show (ji (i : Int) = 0) ↔ i = 0 by rw [jk0, ji_eq]; omega]
        refine ⟨fun c => ⟨fun y => absurd y (by decide), fun _ => ⟨m.1, 137, m.p47, by rw [m.t47], by rw [m.t47, ji_in]; omega, ?_⟩⟩, fun c => yes141 vt ?_⟩
        · obtain ⟨p, hp⟩ : ∃ p, E[i - 1]? = some p := ⟨_, List.getElem?_eq_getElem (by omega)⟩
          obtain ⟨u1, u2, u3⟩ := te.2 (i - 1) p hp
          have bp := hb p (List.mem_of_getElem? hp)
          have e1 : ji (i : Int) - 1 = ji ((i - 1 : Nat) : Int) := by
            rw [jk1, ji_sub]
            exact congrArg ji (by omega)
          have tp : (ji ((i - 1 : Nat) : Int)).toNatClampNeg = i - 1 := by rw [ji_tn, Int.toNat_natCast]
          have okq : okI E i ↔ ((if q.1 = true then p.2.2 < q.2.2 else q.2.2 < p.2.2) ∧ 60 ≤ q.2.1 - p.2.1 ∧ q.2.1 - p.2.1 ≤ 800) := ⟨fun a => (a q hq).2.2 (i - 1) p (by omega) hp, fun a q' hq' => by
            rw [hq] at hq'
            cases hq'
            refine ⟨hh, fun z => absurd z c, fun j p' hj hp' => ?_⟩
            rw [show j = i - 1 by omega, hp] at hp'
            cases hp'
            exact a⟩
          have f109 : (if q.1 = true then p.2.2 < q.2.2 else q.2.2 < p.2.2) → am_EI m_Ref_areTurns 0 0 109 [.ref 87, .int 1, .int (ji (i : Int))] [] h (am_qi Q) := by
            intro o
            refine sg_Ref_areTurns_109 87 _ _ h _ ⟨m.1, 140, m.p50, by rw [m.t50], by rw [m.t50, ji_in]; omega, by rw [m.t50, e1, ji_in]; omega, ?_⟩
            rw [e1, tp, tn, v1, u1, ji_sub, jk60, jk800]
            refine s_Ref_isIn (by omega) (by omega) (by omega) (fun z => ⟨fun y => absurd y (by decide), fun _ => sg_Ref_areTurns_140 87 _ _ _ h _ (yes141 vt (okq.mpr ⟨o, z⟩))⟩) (fun z => ⟨fun _ => no139 _ (fun y => z (okq.mp y.2).2), fun y => absurd rfl y⟩)
          rw [e1, tp, tn, v3, bi_0]
          refine ⟨fun y0 => ⟨139, m.p49, by rw [m.t49], by rw [m.t49, ji_in]; omega, by rw [m.t49, ji_in]; omega, ?_⟩, fun y0 => ⟨139, m.p49, by rw [m.t49], by rw [m.t49, ji_in]; omega, by rw [m.t49, ji_in]; omega, ?_⟩⟩
          · rw [v2, u2, ji_le]
            rw [y0, if_neg (by decide)] at okq f109
            exact ⟨fun z => no139 _ (fun y => by have := (okq.mp y.2).1; omega), fun z => f109 (by omega)⟩
          · have y1 : q.1 = true := by cases z1 : q.1; exact absurd z1 y0; rfl
            rw [v2, u2, ji_le]
            rw [y1, if_pos rfl] at okq f109
            exact ⟨fun z => no139 _ (fun y => by have := (okq.mp y.2).1; omega), fun z => f109 (by omega)⟩
        · intro q' hq'
          rw [hq] at hq'
          cases hq'
          refine ⟨hh, fun _ => ?_, fun j p' hj _ => absurd hj (by omega)⟩
          have a := (hv.mp vt).1
          rw [c, hp0] at hq
          cases hq
          omega
      refine sg_Ref_areTurns_16 87 _ _ h _ ⟨m.1, ?_⟩
      rw [te.1, ji_le, bi_0]
      refine ⟨fun c => absurd c (by omega), fun _ => ⟨fun c => sg_Ref_areTurns_50 87 _ _ h _ (no51 _ (fun z => by rw [c] at z; cases z.1)), fun c => ⟨139, m.p49, by rw [m.t49], by rw [m.t49, ji_in]; omega, ?_⟩⟩⟩
      have vt : v = true := by cases z : v; exact absurd z c; rfl
      rw [tn, v2, jm500, jk1500]
      refine s_Ref_isIn (by omega) (by omega) (by omega) (fun z => ⟨fun y => absurd y (by decide), fun _ => yes51 _ vt z⟩) (fun z => ⟨fun _ => sg_Ref_areTurns_50 87 _ _ h _ (no51 _ (fun y => z (y.2 q hq).1)), fun y => absurd rfl y⟩)
  refine ev_Ref_areTurns 87 h Q ⟨m.1, 140, m.p50, by rw [m.t50], by rw [m.t50, jk0, ji_in]; omega, ?_⟩
  have z0 : (0 : Int32).toNatClampNeg = 0 := rfl
  rw [z0, (te.2 0 p0 hp0).1, jk0, show (1439 : Int32) = ji 1439 from rfl]
  refine s_Ref_isIn (by omega) (by omega) (by omega) (fun c => loop E.length 0 true (by omega) ⟨fun _ => ⟨c, fun j hj => absurd hj (by omega)⟩, fun _ => rfl⟩) (fun c => loop E.length 0 false (by omega) ⟨fun z => (by cases z), fun z => absurd z.1 c⟩)
