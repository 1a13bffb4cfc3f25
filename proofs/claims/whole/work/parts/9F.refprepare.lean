/-! the reference: what is prepared for a route -/
theorem rfA.stop {h : am_H} {s : St} {R : List RtStop} {i : Nat} {q : RtStop} (m : rfA h s) (hq : R[i]? = some q) (hb : stB q) (hl : q.2.1 < s.2.2.1.length) : ∃ L : Nat × Sl, Lf s R i = L.2 ∧ Pf s R i = pOf s L ∧ slO L.2 ∧ slB L.2 ∧ rlA h q.2.1.toNat L ∧ gW (pOf s L) ∧ rpA h L.1 (pOf s L) ∧ L.1 < 8 ∧ q.2.1.toNat < 12 := by
  obtain ⟨c1, c2, c3⟩ := m.2.2.2.1
  have b := hb.2.1
  obtain ⟨L, hL⟩ : ∃ L, s.2.2.1[q.2.1.toNat]? = some L := ⟨_, List.getElem?_eq_getElem (by omega)⟩
  obtain ⟨o, lb, lp, rl⟩ := c3 _ L hL
  obtain ⟨g, rp, h8⟩ := m.port lp
  refine ⟨L, ?_, ?_, o, lb, rl, g, rp, h8, by omega⟩
  · unfold Lf
    simp only [hq, hL]
  · obtain ⟨P, hP⟩ : ∃ P, s.2.1[L.1]? = some P := ⟨_, List.getElem?_eq_getElem lp⟩
    unfold Pf pOf
    simp only [hq, hL, hP]
    rfl
def flP (W : Wy) (i : Nat) (u : Int) : Prop := W.2.1 i = 2 ∧ W.2.2.1 i u
/-- the marks of a route -/
def prA (h : am_H) (n : Nat) (W : Wy) (E : Int) : Prop := rfF h ∧ am_I h 87 31 = ji E ∧ (0 < E ∧ E ≤ 13440) ∧ ∀ i, i < n → mkR h (108 + i) E (W.2.2.2 i) ∧ mkR h (117 + i) E (flP W i) ∧ (∀ u, W.2.2.2 i u → 0 ≤ u ∧ u < E) ∧ (∀ u, W.2.2.1 i u → 0 ≤ u ∧ u < E)
theorem s_Ref_prepare {h : am_H} {s : St} {r k : Nat} {R : List RtStop} {S : Sp} {Q : am_H → Prop} (m : rfA h s) (x : rrA h r R) (hr : r < 8) (hR : 0 < R.length ∧ R.length ≤ 8) (hs : ∀ q ∈ R, stB q ∧ q.2.1 < s.2.2.1.length ∧ (-500 ≤ q.2.2.2 ∧ q.2.2.2 ≤ 1500)) (rh : rhA h k S) (hk : k < 6) (os : spO S) (sb : spB S)
    (K : ∀ h' E, rk h h' → prA h' R.length (wyO s R S) E → Q h') : am_Ew m_Ref_prepare 0 0 [.ref 87, .int (ji r), .int (ji k)] h Q := by
  have ekr : (ji (r : Int)).toNatClampNeg = r := by rw [ji_tn, Int.toNat_natCast]
  have ekk : (ji (k : Int)).toNatClampNeg = k := by rw [ji_tn, Int.toNat_natCast]
  have lastB : ∀ i, i < R.length → gW (Pf s R i) := fun i hi => by
    obtain ⟨q, hq⟩ : ∃ q, R[i]? = some q := ⟨_, List.getElem?_eq_getElem hi⟩
    have b := hs q (List.mem_of_getElem? hq)
    obtain ⟨L, -, e2, -, -, -, g, -⟩ := m.stop hq b.1 b.2.1
    rw [e2]
    exact g
  -- the second loop, with the end E
  have loop2 : ∀ E : Int, (0 < E ∧ E ≤ 13440) → (∀ j, j < R.length → ptM (Pf s R j) (((Pf s R j).length : Int) - 1) + 1 ≤ E) → ∀ (n i : Nat) (h1 : am_H), i + n = R.length → rk h h1 → am_I h1 87 31 = ji E → (∀ j, j < i → mkR h1 (108 + j) E ((wyO s R S).2.2.2 j) ∧ mkR h1 (117 + j) E (flP (wyO s R S) j)) → am_EI m_Ref_prepare 0 0 58 [.ref 87, .int (ji r), .int (ji k), .int (ji i), .float 0, .float 0, .float 0] [] h1 (am_qw Q) := by
    intro E hE hEl n
    induction n with
    | zero =>
      intro i h1 hi f1 i31 inv
      obtain rfl : i = R.length := by omega
      have m1 := m.1.rk f1
      refine sg_Ref_prepare_58 87 _ _ _ h1 _ ⟨m1.1, 101, m1.p21, by rw [m1.t21], by rw [m1.t21, ji_in]; omega, ?_⟩
      rw [ekr, (x.rk f1).1, ji_le]
      refine ⟨fun _ => K h1 E f1 ⟨m1, i31, hE, fun i hi => ⟨(inv i hi).1, (inv i hi).2, fun u hu => ?_, fun u hu => ?_⟩⟩, fun c => absurd (by omega) c⟩
      · obtain ⟨q, hq⟩ : ∃ q, R[i]? = some q := ⟨_, List.getElem?_eq_getElem hi⟩
        have b := hs q (List.mem_of_getElem? hq)
        obtain ⟨L, e1, e2, o, lb, rl, g, rp, h8, h12⟩ := m.stop hq b.1 b.2.1
        have el := hEl i hi
        have hu : gd (Pf s R i) (Lf s R i) S u := hu
        rw [e1] at hu
        obtain ⟨sd, y, -, on⟩ := gd_on lb.2.2.1.1 hu
        have gp := lastB i hi
        have := (on_in gp on).2
        have := gp.first
        omega
      · have gp := lastB i hi
        have el := hEl i hi
        have hu : onP 0 (Pf s R i) _ u := hu
        have := (on_in gp hu).2
        have := gp.first
        omega
    | succ n ih =>
      intro i h1 hi f1 i31 inv
      have m1 := m.rk f1
      have x1 := x.rk f1
      obtain ⟨q, hq⟩ : ∃ q, R[i]? = some q := ⟨_, List.getElem?_eq_getElem (by omega)⟩
      have b := hs q (List.mem_of_getElem? hq)
      obtain ⟨L, e1, e2, o, lb, rl, g, rp, h8, h12⟩ := m1.stop hq b.1 b.2.1
      have el := hEl i (by omega)
      rw [e2] at el
      have bq := b.1.2.1
      have eki : (ji (i : Int)).toNatClampNeg = i := by rw [ji_tn, Int.toNat_natCast]
      have ek : (ji ((r : Int) * 8 + (i : Int))).toNatClampNeg = r * 8 + i := by
        rw [ji_tn]
        omega
      have ekq : (ji q.2.1).toNatClampNeg = q.2.1.toNat := ji_tn
      obtain ⟨⟨pr1, tr1⟩, ⟨pr2, tr2⟩, -⟩ := m1.1.2.2 i (by omega)
      refine sg_Ref_prepare_58 87 _ _ _ h1 _ ⟨m1.1.1, 101, m1.1.p21, by rw [m1.1.t21], by rw [m1.1.t21, ji_in]; omega, ?_⟩
      rw [ekr, x1.1, ji_le, jk8, ji_mul, ji_add, ek, eki]
      refine ⟨fun c => absurd c (by omega), fun _ => ⟨93, m1.1.p11, 102, m1.1.p22, by rw [m1.1.t22], by rw [m1.1.t22, ji_in]; omega, by rw [m1.1.t11], ?_⟩⟩
      rw [(x1.2 i q hq).1, ekq, rl.1]
      refine ⟨by rw [m1.1.t11, ji_in]; omega, 107, m1.1.p34, by rw [m1.1.t34], by rw [m1.1.t34, ji_in]; omega, 108 + i, pr1, ?_⟩
      have rl' : rlA h1 q.2.1.toNat L := rl
      have eqn : ji q.2.1 = ji ((q.2.1.toNat : Nat) : Int) := by rw [show ((q.2.1.toNat : Nat) : Int) = q.2.1 by omega]
      rw [eqn]
      refine s_Ref_findGood3 m1.1 rl' h12 o lb (rh.rk f1) hk os sb rp g h8 (by omega) tr1 i31 ⟨el, by omega⟩ (fun h2 f2 i29 i30 mk => ?_)
      have r2 := f2.rk (by omega : 106 ≤ 108 + i ∧ 108 + i < 146)
      have F2 := f1.tr r2
      have gdE : (wyO s R S).2.2.2 i = gd (pOf s L) L.2 S := by
        show gd (Pf s R i) (Lf s R i) S = _
        rw [e1, e2]
      have kdE : (wyO s R S).2.1 i = q.2.2.1 := rtG_at hq
      have dpE : (wyO s R S).2.2.1 i = onP 0 (pOf s L) (q.2.2.2 + S.1) := by
        show onP 0 (Pf s R i) (rtG (fun q => q.2.2.2) R i + S.1) = _
        rw [rtG_at hq, e2]
      -- the floats
      have loop3 : ∀ (n2 c : Nat) (h3 : am_H), (c : Int) + n2 = E → rk h2 h3 → (∀ b, b ≠ 87 → b ≠ 117 + i → am_I h3 b = am_I h2 b) → am_I h3 87 31 = ji E → (∀ u : Nat, u < c → am_I h3 (117 + i) u = cbi (flP (wyO s R S) i u)) → am_EI m_Ref_prepare 0 0 111 [.ref 87, .int (ji r), .int (ji k), .int (ji i), .int (ji ((r : Int) * 8 + (i : Int))), .int (ji L.1), .int (ji c)] [] h3 (am_qw Q) := by
        intro n2
        induction n2 with
        | zero =>
          intro c h3 hc f3 oth j31 inv3
          have m3 := m1.rk (r2.tr f3)
          refine sg_Ref_prepare_111 87 _ _ _ _ _ _ h3 _ ⟨m3.1.1, ?_⟩
          rw [j31, ji_le, jk1, ji_add]
          refine ⟨fun _ => ih (i + 1) h3 (by omega) (F2.tr f3) j31 (fun j hj => ?_), fun c => absurd (by omega) c⟩
          by_cases cj : j = i
          · subst cj
            refine ⟨fun u hu => ?_, fun u hu => inv3 u (by omega)⟩
            rw [oth (108 + j) (by omega) (by omega), mk u hu, gdE]
          · obtain ⟨a1, a2⟩ := inv j (by omega)
            refine ⟨fun u hu => ?_, fun u hu => ?_⟩
            · rw [oth (108 + j) (by omega) (by omega), f2.2.2.2.1 (108 + j) (by omega) (by omega)]
              exact a1 u hu
            · rw [oth (117 + j) (by omega) (by omega), f2.2.2.2.1 (117 + j) (by omega) (by omega)]
              exact a2 u hu
        | succ n2 ih3 =>
          intro c h3 hc f3 oth j31 inv3
          have F3 := r2.tr f3
          have m3 := m1.rk F3
          have x3 := x1.rk F3
          have rp3 := rp.rk F3
          have ekc : (ji (c : Int)).toNatClampNeg = c := by rw [ji_tn, Int.toNat_natCast]
          have bq3 := b.1.2.2.1
          have e2' : (ji q.2.2.1 = 2) ↔ q.2.2.1 = 2 := by rw [jk2, ji_eq]
          have st : ∀ (h4 : am_H) (v : Int32), kw h3 h4 26 28 → v = cbi (flP (wyO s R S) i c) → (am_tg h4 (117 + i)).1 = 21 ∧ vp_in (ji (c : Int)) (am_tg h4 (117 + i)).2 ∧ am_EI m_Ref_prepare 0 0 111 [.ref 87, .int (ji r), .int (ji k), .int (ji i), .int (ji ((r : Int) * 8 + (i : Int))), .int (ji L.1), .int (ji c + 1)] [] (am_si h4 (117 + i) (ji (c : Int)).toNatClampNeg v) (am_qw Q) := by
            intro h4 v f4 hv
            have t4 : am_tg h4 (117 + i) = (21, 13500) := by rw [f4.2.1, F3.2.1]; exact tr2
            refine ⟨by rw [t4], by rw [t4, ji_in]; omega, ?_⟩
            rw [ekc, jk1, ji_add]
            refine ih3 (c + 1) _ (by omega) ((f3.tr (f4.rk (by omega))).tr (rk.row (by omega))) (fun b b1 b2 => ?_) ?_ (fun u hu => ?_)
            · rw [am_I_sin b2, f4.2.2.2.1 b b1]
              exact oth b b1 b2
            · rw [am_I_sin (by omega), f4.2.2.2.2 31 (by omega)]
              exact j31
            · rw [am_I_sis]
              by_cases cu : u = c
              · subst cu
                rw [va_up_at]
                exact hv
              · rw [va_up_no _ _ cu, f4.2.2.2.1 (117 + i) (by omega)]
                exact inv3 u (by omega)
          refine sg_Ref_prepare_111 87 _ _ _ _ _ _ h3 _ ⟨m3.1.1, ?_⟩
          rw [j31, ji_le]
          refine ⟨fun c => absurd c (by omega), fun _ => ⟨116, m3.1.p35, by rw [m3.1.t35], by rw [m3.1.t35, ji_in]; omega, 117 + i, by rw [eki]; exact (m3.1.2.2 i (by omega)).2.1.1, 103, m3.1.p23, by rw [m3.1.t23], by rw [m3.1.t23, ji_in]; omega, ?_⟩⟩
          rw [ek, (x3.2 i q hq).2.1, e2']
          have fi2 : flP (wyO s R S) i c ↔ q.2.2.1 = 2 ∧ onP 0 (pOf s L) (q.2.2.2 + S.1) c := by
            unfold flP
            rw [kdE, dpE]
          refine ⟨fun c2 => st h3 0 kw.rf (cbi_0 (fun z => c2 (fi2.mp z).1)).symm, fun c2 => s_Ref_isMinute m3.1 rp3 g h8 (by omega) (fun inn => ⟨fun z => absurd z (by decide), fun _ => ⟨m3.1.1, 104, m3.1.p24, by rw [m3.1.t24], by rw [m3.1.t24, ji_in]; omega, 98, m3.1.p17, by rw [m3.1.t17], by rw [m3.1.t17, ji_in]; omega, ?_⟩⟩) (fun inn => ⟨fun _ => st h3 0 kw.rf (cbi_0 (fun z => inn (on_in g (fi2.mp z).2))).symm, fun z => absurd rfl z⟩)⟩
          rw [(x3.2 i q hq).2.2.1, ekk, ((rh.rk f1).rk F3).1, ji_add]
          have lv := b.2.2
          have os1 := os.1
          exact s_Ref_isAt m3.1 rp3 g h8 inn (by omega) (fun on h4 f4 => ⟨fun z => absurd z (by decide), fun _ => st h4 1 f4 (cbi_1 (fi2.mpr ⟨c2, on⟩)).symm⟩) (fun on h4 f4 => ⟨fun _ => st h4 0 f4 (cbi_0 (fun z => on (fi2.mp z).2)).symm, fun z => absurd rfl z⟩)
      rw [jk0]
      exact loop3 E.toNat 0 h2 (by omega) rk.rf (fun b _ _ => rfl) (by rw [f2.2.2.2.2 31 (by omega)]; exact i31) (fun u hu => absurd hu (by omega))
  have loop1 : ∀ (n i : Nat) (h1 : am_H) (E : Int), i + n = R.length → kw h h1 31 32 → am_I h1 87 31 = ji E → (0 ≤ E ∧ E ≤ 13440) → (0 < i → 0 < E) → (∀ j, j < i → ptM (Pf s R j) (((Pf s R j).length : Int) - 1) + 1 ≤ E) → am_EI m_Ref_prepare 0 0 7 [.ref 87, .int (ji r), .int (ji k), .int (ji i), .float 0, .float 0, .float 0] [] h1 (am_qw Q) := by
    intro n
    induction n with
    | zero =>
      intro i h1 E hi f1 i31 hE h0 hl
      obtain rfl : i = R.length := by omega
      have m1 := m.1.kw f1
      refine sg_Ref_prepare_7 87 _ _ _ h1 _ ⟨m1.1, 101, m1.p21, by rw [m1.t21], by rw [m1.t21, ji_in]; omega, ?_⟩
      rw [ekr, (x.rk (f1.rk (by omega))).1, ji_le, jk0]
      exact ⟨fun _ => loop2 E ⟨h0 hR.1, hE.2⟩ hl R.length 0 h1 (by omega) (f1.rk (by omega)) i31 (fun j hj => absurd hj (by omega)), fun c => absurd (by omega) c⟩
    | succ n ih =>
      intro i h1 E hi f1 i31 hE h0 hl
      have k1 := f1.rk (by omega : 26 ≤ 31)
      have m1 := m.rk k1
      have x1 := x.rk k1
      obtain ⟨q, hq⟩ : ∃ q, R[i]? = some q := ⟨_, List.getElem?_eq_getElem (by omega)⟩
      have b := hs q (List.mem_of_getElem? hq)
      obtain ⟨L, e1, e2, o, lb, rl, g, rp, h8, h12⟩ := m1.stop hq b.1 b.2.1
      have bq := b.1.2.1
      have la := g.last
      have ek : (ji ((r : Int) * 8 + (i : Int))).toNatClampNeg = r * 8 + i := by
        rw [ji_tn]
        omega
      have ekq : (ji q.2.1).toNatClampNeg = q.2.1.toNat := ji_tn
      refine sg_Ref_prepare_7 87 _ _ _ h1 _ ⟨m1.1.1, 101, m1.1.p21, by rw [m1.1.t21], by rw [m1.1.t21, ji_in]; omega, ?_⟩
      rw [ekr, x1.1, ji_le, jk8, ji_mul, ji_add, ek, jk1, ji_add]
      refine ⟨fun c => absurd c (by omega), fun _ => ⟨93, m1.1.p11, 102, m1.1.p22, by rw [m1.1.t22], by rw [m1.1.t22, ji_in]; omega, by rw [m1.1.t11], ?_⟩⟩
      rw [(x1.2 i q hq).1, ekq, rl.1]
      refine ⟨by rw [m1.1.t11, ji_in]; omega, s_Ref_lastOf m1.1 rp g h8 ?_⟩
      rw [i31, ji_add]
      refine s_Math_max (by omega) (by omega) ⟨m1.1.1, ?_⟩
      have f2 : kw h1 (am_si h1 87 31 (ji (if E < ptM (pOf s L) (((pOf s L).length : Int) - 1) + 1 then ptM (pOf s L) (((pOf s L).length : Int) - 1) + 1 else E))) 31 32 := kw.si (by omega)
      refine ih (i + 1) _ _ (by omega) (f1.tr f2) (by rw [am_I_sis, va_up_at]) (by split <;> omega) (fun _ => by split <;> omega) (fun j hj => ?_)
      by_cases cj : j = i
      · subst cj
        rw [e2]
        split <;> omega
      · have := hl j (by omega)
        split <;> omega
  refine ev_Ref_prepare 87 (ji r) (ji k) h Q ⟨m.1.1, ?_⟩
  have f1 : kw h (am_si h 87 31 0) 31 32 := kw.si (by omega)
  rw [show (Value.int (0 : Int32)) = Value.int (ji ((0 : Nat) : Int)) from rfl]
  exact loop1 R.length 0 _ 0 (by omega) f1 (by rw [am_I_sis, va_up_at]; rfl) (by omega) (fun q => absurd q (by omega)) (fun j hj => absurd hj (by omega))
