/-! the reference: plans -/
theorem s_Ref_legOf {h : am_H} {r k i : Nat} {R : List RtStop} {S : Sp} {Q : Int32 → am_H → Prop} (m : rfF h) (x : rrA h r R) (hr : r < 8) (hR : R.length ≤ 8) (z0 : ∀ q, R[0]? = some q → q.1 = 0) (hs : ∀ q ∈ R, stB q) (rh : rhA h k S) (hk : k < 6) (os : spO S) (hi : i < R.length) (K : Q (ji (lgF R S i)) h) : am_Ei m_Ref_legOf 0 0 [.ref 87, .int (ji r), .int (ji k), .int (ji i)] h Q := by
  obtain ⟨q, hq⟩ : ∃ q, R[i]? = some q := ⟨_, List.getElem?_eq_getElem hi⟩
  have b := (hs q (List.mem_of_getElem? hq)).1
  have hS := os.2
  have eg : lgF R S i = (q.1 * S.2.2 + 9) / 10 := by
    show lgM S (rtG (fun q => q.1) R i) = _
    rw [rtG_at hq]
    rfl
  have ekx : (ji (r : Int) * 8 + ji (i : Int)).toNatClampNeg = r * 8 + i := by
    rw [jk8, ji_mul, ji_add, ji_tn]
    omega
  have ekk : (ji (k : Int)).toNatClampNeg = k := by rw [ji_tn, Int.toNat_natCast]
  have mb : 0 ≤ q.1 * S.2.2 ∧ q.1 * S.2.2 ≤ 9999 * 60 := ⟨Int.mul_nonneg b.1 (by omega), by
    have a1 : q.1 * S.2.2 ≤ 9999 * S.2.2 := Int.mul_le_mul_of_nonneg_right b.2 (by omega)
    omega⟩
  refine ev_Ref_legOf 87 (ji r) (ji k) (ji i) h Q ⟨fun _ => ⟨m.1, 105, m.p25, by rw [m.t25], by rw [m.t25, jk8, ji_mul, ji_add, ji_in]; omega, 100, m.p19, by rw [m.t19], by rw [m.t19, ji_in]; omega, ?_⟩, fun c => ?_⟩
  · rw [ekx, ekk, (x.2 i q hq).2.2.2, rh.2.2, ji_mul, jk9, ji_add, jk10, ji_div, ← eg]
    exact K
  · rw [jk0, ji_eq] at c
    have e0 : i = 0 := by omega
    subst e0
    rw [eg, z0 q hq, Int.zero_mul] at K
    exact K
def cwP (kd : Int) (dp : Int → Prop) (a b : Int) : Prop := a = b ∨ (kd = 0 ∧ a ≤ b) ∨ (kd = 2 ∧ a ≤ b ∧ ∀ u, a ≤ u → u ≤ b → dp u)
theorem s_Ref_canWait {h : am_H} {r i n : Nat} {W : Wy} {E a b : Int} {Q : Int32 → am_H → Prop} (hr : r < 8) (hn : n ≤ 8) (p : prA h n W E) (hi : i < n) (hk : 0 ≤ W.2.1 i ∧ W.2.1 i ≤ 2) (ek : am_I h 103 (r * 8 + i) = ji (W.2.1 i)) (ha : 0 ≤ a ∧ a < 200000) (hb : 0 ≤ b ∧ b < E)
    (K1 : cwP (W.2.1 i) (W.2.2.1 i) a b → Q 1 h) (K0 : ¬ cwP (W.2.1 i) (W.2.2.1 i) a b → Q 0 h) : am_Ei m_Ref_canWait 0 0 [.ref 87, .int (ji r), .int (ji i), .int (ji a), .int (ji b)] h Q := by
  obtain ⟨m, i31, hE, mks⟩ := id p
  obtain ⟨mg, mf, bg, bd⟩ := mks i hi
  obtain ⟨-, ⟨pr2, tr2⟩, -⟩ := m.2.2 i (by omega)
  have eki : (ji (i : Int)).toNatClampNeg = i := by rw [ji_tn, Int.toNat_natCast]
  have ekx : (ji (r : Int) * 8 + ji (i : Int)).toNatClampNeg = r * 8 + i := by
    rw [jk8, ji_mul, ji_add, ji_tn]
    omega
  have loop : W.2.1 i = 2 → a < b → ∀ (n2 t : Nat), (t : Int) + n2 = b + 1 → a ≤ t → am_EI m_Ref_canWait 0 0 60 [.ref 87, .int (ji r), .int (ji i), .int (ji a), .int (ji b), .int (ji (W.2.1 i)), .int (cbi (∀ u, a ≤ u → u < t → W.2.2.1 i u)), .int (ji t)] [] h (am_qi Q) := by
    intro e2 hab n2
    induction n2 with
    | zero =>
      intro t ht hat
      refine sg_Ref_canWait_60 87 _ _ _ _ _ _ _ h _ ?_
      rw [ji_lt]
      refine ⟨fun _ => ⟨cbi_b, ?_⟩, fun c => absurd (by omega) c⟩
      by_cases c : ∀ u, a ≤ u → u < t → W.2.2.1 i u
      · rw [cbi_1 c]
        exact K1 (Or.inr (Or.inr ⟨e2, by omega, fun u u1 u2 => c u u1 (by omega)⟩))
      · rw [cbi_0 c]
        refine K0 (fun z => c ?_)
        rcases z with z | ⟨z, -⟩ | ⟨-, -, z⟩
        · omega
        · omega
        · exact fun u u1 u2 => z u u1 (by omega)
    | succ n2 ih =>
      intro t ht hat
      have ekt : (ji (t : Int)).toNatClampNeg = t := by rw [ji_tn, Int.toNat_natCast]
      refine sg_Ref_canWait_60 87 _ _ _ _ _ _ _ h _ ?_
      rw [ji_lt]
      refine ⟨fun c => absurd c (by omega), fun _ => ⟨fun c => ⟨cbi_b, ?_⟩, fun c => ⟨m.1, 116, m.p35, by rw [m.t35], by rw [m.t35, ji_in]; omega, 117 + i, by rw [eki]; exact pr2, by rw [tr2], by rw [tr2, ji_in]; omega, ?_⟩⟩⟩
      · rw [c]
        rw [cbi_z] at c
        refine K0 (fun z => c ?_)
        rcases z with z | ⟨z, -⟩ | ⟨-, -, z⟩
        · omega
        · omega
        · exact fun u u1 u2 => z u u1 (by omega)
      · rw [cbi_z] at c
        have c := Classical.byContradiction c
        rw [ekt, mf t (by omega), jk1, ji_add]
        have e : cbi (flP W i t) = cbi (∀ u, a ≤ u → u < ((t + 1 : Nat) : Int) → W.2.2.1 i u) := cbi_cg ⟨fun z u u1 u2 => by
          by_cases cu : u = t
          · rw [cu]; exact z.2
          · exact c u u1 (by omega), fun z => ⟨e2, z t (by omega) (by omega)⟩⟩
        rw [e]
        exact ih (t + 1) (by omega) (by omega)
  refine ev_Ref_canWait 87 (ji r) (ji i) (ji a) (ji b) h Q ⟨m.1, 103, m.p23, by rw [m.t23], by rw [m.t23, jk8, ji_mul, ji_add, ji_in]; omega, ?_⟩
  have k0 : (ji (W.2.1 i) = 0) ↔ W.2.1 i = 0 := by rw [jk0, ji_eq]
  have k1 : (ji (W.2.1 i) = 1) ↔ W.2.1 i = 1 := by rw [jk1, ji_eq]
  rw [ekx, ek, k0, k1, ji_eq, ji_lt, show ((0 ≤ ji a) ↔ (ji 0 ≤ ji a)) from Iff.rfl, ji_le]
  refine ⟨fun c => ⟨fun c2 => by omega, fun _ => K1 (Or.inl c)⟩, fun c => ⟨fun n0 => ⟨fun e1 => K0 ?_, fun n1 => ⟨fun c2 => K0 ?_, fun c2 => ⟨fun _ => ?_, fun c3 => absurd ha.1 c3⟩⟩⟩, fun e0 => ⟨fun c2 => K0 ?_, fun c2 => K1 (Or.inr (Or.inl ⟨e0, by omega⟩))⟩⟩⟩
  · rintro (z | ⟨z, -⟩ | ⟨z, -⟩) <;> omega
  · rintro (z | ⟨-, z⟩ | ⟨-, z, -⟩) <;> omega
  · obtain ⟨t, rfl⟩ := Int.eq_ofNat_of_zero_le ha.1
    have := loop (by omega) (by omega) (b + 1 - t).toNat t (by omega) (by omega)
    rw [cbi_1 (fun u u1 u2 => absurd u1 (by omega))] at this
    exact this
  · rintro (z | ⟨-, z⟩ | ⟨-, z, -⟩) <;> omega
/-- who arrives last can wait -/
theorem cw_last {W : Wy} {t0 : Int} {j : Nat} {p g : Int} (h : rcP W t0 (j + 1) p) (hk : 0 ≤ W.2.1 (j + 1) ∧ W.2.1 (j + 1) ≤ 2) (h1 : rcP W t0 j g) (h2 : g ≤ p - W.1 (j + 1)) (h3 : ∀ u, rcP W t0 j u → u ≤ p - W.1 (j + 1) → u ≤ g) : cwP (W.2.1 (j + 1)) (W.2.2.1 (j + 1)) (g + W.1 (j + 1)) p := by
  have op := h.1
  have same : arP W t0 (j + 1) p → g + W.1 (j + 1) = p := fun a => by
    have := h3 _ (arP_succ.mp a) (by omega)
    omega
  unfold opL at op
  obtain e | e | e : W.2.1 (j + 1) = 0 ∨ W.2.1 (j + 1) = 1 ∨ W.2.1 (j + 1) = 2 := by omega
  · exact Or.inr (Or.inl ⟨e, by omega⟩)
  · rw [if_pos e] at op
    exact Or.inl (same op)
  · rw [if_neg (by omega), if_neg (by omega)] at op
    rcases op with op | ⟨s, s1, s2, s3⟩
    · exact Or.inl (same op)
    · have := h3 _ (arP_succ.mp s1) (by omega)
      exact Or.inr (Or.inr ⟨e, by omega, fun u u1 u2 => s3 u (by omega) u2⟩)
theorem s_Ref_plan {h : am_H} {s : St} {r k : Nat} {R : List RtStop} {S : Sp} {t0 : Int} {Q : Int32 → am_H → Prop} (m : rfA h s) (x : rrA h r R) (hr : r < 8) (hR : 0 < R.length ∧ R.length ≤ 8 ∧ ∀ q, R[0]? = some q → q.1 = 0) (hs : ∀ q ∈ R, stB q ∧ q.2.1 < s.2.2.1.length ∧ (-500 ≤ q.2.2.2 ∧ q.2.2.2 ≤ 1500)) (rh : rhA h k S) (hk : k < 6) (os : spO S) (sb : spB S) (ht : 0 ≤ t0 ∧ t0 ≤ 99999)
    (K1 : ∀ h' ps, rk h h' → psR (wyO s R S) t0 R.length ps → (∀ i, i < R.length → am_I h' 134 i = ji (ps i) ∧ 0 ≤ ps i ∧ ps i ≤ 13439) → Q 1 h')
    (K0 : ∀ h', rk h h' → (∀ u, ¬ rcP (wyO s R S) t0 (R.length - 1) u) → Q 0 h') : am_Ei m_Ref_plan 0 0 [.ref 87, .int (ji r), .int (ji k), .int (ji t0)] h Q := by
  have ekr : (ji (r : Int)).toNatClampNeg = r := by rw [ji_tn, Int.toNat_natCast]
  have hsB : ∀ q ∈ R, stB q := fun q hq => (hs q hq).1
  have hR8 := hR.2.1
  have kdB : ∀ i, i < R.length → ∃ q, R[i]? = some q ∧ (wyO s R S).2.1 i = q.2.2.1 ∧ (0 ≤ q.2.2.1 ∧ q.2.2.1 ≤ 2) := fun i hi => by
    obtain ⟨q, hq⟩ : ∃ q, R[i]? = some q := ⟨_, List.getElem?_eq_getElem hi⟩
    exact ⟨q, hq, rtG_at hq, (hsB q (List.mem_of_getElem? hq)).2.2.1⟩
  have hlg : ∀ i, i < R.length → 0 ≤ lgF R S i ∧ lgF R S i ≤ 60000 := fun i hi => by
    obtain ⟨q, hq⟩ : ∃ q, R[i]? = some q := ⟨_, List.getElem?_eq_getElem hi⟩
    have b := (hsB q (List.mem_of_getElem? hq)).1
    show 0 ≤ lgM S (rtG (fun q => q.1) R i) ∧ lgM S (rtG (fun q => q.1) R i) ≤ 60000
    rw [rtG_at hq]
    exact lgM_bd (by have := os.2; omega) b
  refine ev_Ref_plan 87 (ji r) (ji k) (ji t0) h Q ⟨m.1.1, 101, m.1.p21, by rw [m.1.t21], by rw [m.1.t21, ji_in]; omega, ?_⟩
  rw [ekr, x.1]
  refine s_Ref_prepare m x hr ⟨hR.1, hR.2.1⟩ hs rh hk os sb (fun h1 E f1 p1 => ?_)
  obtain ⟨-, -, hE, pks⟩ := id p1
  have rb : ∀ i u, i < R.length → rcP (wyO s R S) t0 i u → 0 ≤ u ∧ u < E := fun i u hi hu => (pks i hi).2.2.1 u hu.2
  -- the passes, backward
  have back : ∀ (i : Nat) (h2 : am_H) (ps : Nat → Int) (x5 : Int32), i < R.length → rk h h2 → prA h2 R.length (wyO s R S) E → (∀ j, j < R.length → mkR h2 (126 + j) E (rcP (wyO s R S) t0 j)) → (∀ j, i ≤ j → j < R.length → am_I h2 134 j = ji (ps j)) → psM (wyO s R S) t0 R.length i ps → am_EI m_Ref_plan 0 0 107 [.ref 87, .int (ji r), .int (ji k), .int (ji t0), .int (ji R.length), .int x5, .int (ji i), .float 0, .float 0] [] h2 (am_qi Q) := by
    intro i
    induction i with
    | zero =>
      intro h2 ps x5 hi f2 p2 mks rows hp
      refine sg_Ref_plan_107 87 _ _ _ _ _ _ h2 _ ?_
      rw [show ((ji ((0 : Nat) : Int) ≤ 0) ↔ (ji ((0 : Nat) : Int) ≤ ji 0)) from Iff.rfl, ji_le]
      refine ⟨fun _ => K1 h2 ps f2 ⟨hp.1 hi, fun j hj => hp.2 j (by omega) hj⟩ (fun j hj => ⟨rows j (by omega) hj, ?_⟩), fun c => absurd (by omega) c⟩
      have := rb j _ hj (psM_rc hp (by omega) hj)
      omega
    | succ i ih =>
      intro h2 ps x5 hi f2 p2 mks rows hp
      obtain ⟨m2, -, -, -⟩ := id p2
      have hp1 := psM_rc hp (i := i + 1) (by omega) hi
      have b1 := rb _ _ hi hp1
      have lg := hlg (i + 1) hi
      have W1 : (wyO s R S).1 (i + 1) = lgF R S (i + 1) := rfl
      -- the greatest pass ahead
      obtain ⟨sx, s1, s2⟩ := opL_ex hp1.1
      have s3 := arP_succ.mp s1
      rw [W1] at s3
      obtain ⟨l, lo, lm⟩ := sp_ex' (A := fun u => rcP (wyO s R S) t0 i u) (fun u hu => by have := rb i u (by omega) hu; omega)
      obtain ⟨g1, g2, g3, g4⟩ := spT_in (t := ps (i + 1) - lgF R S (i + 1)) (lo := 0) (hi := 13439) lo (fun u hu => by have := rb i u (by omega) ((lm u).mp hu); omega) ⟨_, (lm _).mpr s3, by omega⟩
      have gr := (lm _).mp g1
      have gb := rb i _ (by omega) gr
      obtain ⟨q, hq, ekd, bk⟩ := kdB (i + 1) hi
      have cw := cw_last hp1 (by rw [ekd]; exact bk) gr (by rw [W1]; exact g2) (fun u u1 u2 => g3 u (by rw [W1] at u2; exact u2) ((lm u).mpr u1))
      rw [W1] at cw
      have ekk1 : (ji ((i + 1 : Nat) : Int)).toNatClampNeg = i + 1 := by rw [ji_tn, Int.toNat_natCast]
      have e1 : ji ((i + 1 : Nat) : Int) - 1 = ji (i : Int) := by rw [jk1, ji_sub, show ((i + 1 : Nat) : Int) - 1 = (i : Int) by omega]
      have em : ji ((i + 1 : Nat) : Int) + (-1) = ji (i : Int) := by rw [jm1, ji_add, show ((i + 1 : Nat) : Int) + -1 = (i : Int) by omega]
      have eki : (ji (i : Int)).toNatClampNeg = i := by rw [ji_tn, Int.toNat_natCast]
      obtain ⟨-, -, ⟨pr3, tr3⟩⟩ := m2.2.2 i (by omega)
      have x2 := x.rk f2
      have down : ∀ (n c : Nat), (c : Int) = spT l (ps (i + 1) - lgF R S (i + 1)) + n → (c : Int) ≤ ps (i + 1) - lgF R S (i + 1) → am_EI m_Ref_plan 0 0 134 [.ref 87, .int (ji r), .int (ji k), .int (ji t0), .int (ji R.length), .int x5, .int (ji ((i + 1 : Nat) : Int)), .int (ji (lgF R S (i + 1))), .int (ji c)] [] h2 (am_qi Q) := by
        intro n
        induction n with
        | zero =>
          intro c hc hle
          have ekc : (ji (c : Int)).toNatClampNeg = c := by rw [ji_tn, Int.toNat_natCast]
          have ceq : (c : Int) = spT l (ps (i + 1) - lgF R S (i + 1)) := by omega
          refine sg_Ref_plan_134 87 _ _ _ _ _ _ _ _ h2 _ ⟨m2.1, 125, m2.p36, by rw [m2.t36], by rw [m2.t36, e1, ji_in]; omega, 126 + i, by rw [e1, eki]; exact pr3, by rw [tr3], by rw [tr3, ji_in]; omega, ?_⟩
          rw [ekc, mks i (by omega) c (by omega), cbi_z]
          refine ⟨fun z => absurd (by rw [ceq]; exact gr) z, fun _ => ⟨134, m2.p37, by rw [m2.t37], by rw [m2.t37, ji_in]; omega, ?_⟩⟩
          rw [ekk1, rows (i + 1) (by omega) hi, ji_add]
          refine s_Ref_canWait hr hR8 p2 hi (by rw [ekd]; exact bk) (by rw [ekd]; exact (x2.2 (i + 1) q hq).2.1) (by omega) b1 (fun _ => ⟨fun _ => ⟨m2.1, 134, m2.p37, by rw [m2.t37], by rw [m2.t37, e1, ji_in]; omega, ?_⟩, fun z => absurd z (by decide)⟩) (fun z => absurd (by rw [ceq]; exact cw) z)
          rw [e1, em, eki]
          have f3 : mw h2 (am_si h2 134 i (ji (c : Int))) 134 := mw.si
          have hcv : psM (wyO s R S) t0 R.length i (va_up ps i (c : Int)) := by
            refine ⟨fun _ => ?_, fun j j1 j2 => ?_⟩
            · rw [va_up_no _ _ (by omega)]
              exact hp.1 (by omega)
            · by_cases cj : j = i
              · subst cj
                rw [va_up_at, va_up_no _ _ (by omega), W1]
                refine ⟨by rw [ceq]; exact gr, by omega, fun u u1 u2 => ?_⟩
                have := g3 u u2 ((lm u).mpr u1)
                omega
              · rw [va_up_no _ _ cj, va_up_no _ _ (by omega)]
                exact hp.2 j (by omega) j2
          refine ih _ (va_up ps i (c : Int)) x5 (by omega) (f2.tr (f3.rk (by omega))) (p2.mw f3 (by omega) hR8) (fun j hj u hu => ?_) (fun j j1 j2 => ?_) hcv
          · rw [f3.2.2.2 (126 + j) (by omega)]
            exact mks j hj u hu
          · rw [am_I_sis]
            by_cases cj : j = i
            · subst cj
              rw [va_up_at, va_up_at]
            · rw [va_up_no _ _ cj, va_up_no _ _ cj]
              exact rows j (by omega) j2
        | succ n ihd =>
          intro c hc hle
          have ekc : (ji (c : Int)).toNatClampNeg = c := by rw [ji_tn, Int.toNat_natCast]
          refine sg_Ref_plan_134 87 _ _ _ _ _ _ _ _ h2 _ ⟨m2.1, 125, m2.p36, by rw [m2.t36], by rw [m2.t36, e1, ji_in]; omega, 126 + i, by rw [e1, eki]; exact pr3, by rw [tr3], by rw [tr3, ji_in]; omega, ?_⟩
          rw [ekc, mks i (by omega) c (by omega), cbi_z]
          have no : ¬ rcP (wyO s R S) t0 i (c : Int) := fun z => by
            have := g3 _ hle ((lm _).mpr z)
            omega
          refine ⟨fun _ => ?_, fun z => absurd no z⟩
          rw [jm1, ji_add, show (c : Int) + -1 = ((c - 1 : Nat) : Int) by omega]
          exact ihd (c - 1) (by omega) (by omega)
      refine sg_Ref_plan_107 87 _ _ _ _ _ _ h2 _ ?_
      rw [show ((ji ((i + 1 : Nat) : Int) ≤ 0) ↔ (ji ((i + 1 : Nat) : Int) ≤ ji 0)) from Iff.rfl, ji_le]
      refine ⟨fun c => absurd c (by omega), fun _ => ⟨m2.1, s_Ref_legOf m2 x2 hr hR8 hR.2.2 hsB (rh.rk f2) hk os hi ⟨m2.1, 134, m2.p37, by rw [m2.t37], by rw [m2.t37, ji_in]; omega, ?_⟩⟩⟩
      rw [ekk1, rows (i + 1) (by omega) hi, ji_sub]
      obtain ⟨c, hc⟩ := Int.eq_ofNat_of_zero_le (show 0 ≤ ps (i + 1) - lgF R S (i + 1) by omega)
      rw [hc]
      exact down (ps (i + 1) - lgF R S (i + 1) - spT l (ps (i + 1) - lgF R S (i + 1))).toNat c (by omega) (by omega)
  -- the last stop
  have find : ∀ (n c : Nat) (h2 : am_H), (c : Int) + n = E → rk h h2 → prA h2 R.length (wyO s R S) E → (∀ j, j < R.length → mkR h2 (126 + j) E (rcP (wyO s R S) t0 j)) → (∀ u, u < (c : Int) → ¬ rcP (wyO s R S) t0 (R.length - 1) u) → am_EI m_Ref_plan 0 0 49 [.ref 87, .int (ji r), .int (ji k), .int (ji t0), .int (ji R.length), .int (ji c), .float 0, .float 0, .float 0] [] h2 (am_qi Q) := by
    intro n
    induction n with
    | zero =>
      intro c h2 hc f2 p2 mks no
      refine sg_Ref_plan_49 87 _ _ _ _ _ h2 _ ⟨p2.1.1, ?_⟩
      rw [p2.2.1, ji_le, ji_eq]
      refine ⟨fun _ => ⟨fun z => absurd (by omega) z, fun _ => K0 h2 f2 (fun u hu => no u (by have := rb _ u (by omega) hu; omega) hu)⟩, fun z => absurd (by omega) z⟩
    | succ n ih =>
      intro c h2 hc f2 p2 mks no
      obtain ⟨m2, -, -, -⟩ := id p2
      have ekc : (ji (c : Int)).toNatClampNeg = c := by rw [ji_tn, Int.toNat_natCast]
      have e1 : ji (R.length : Int) - 1 = ji ((R.length - 1 : Nat) : Int) := by rw [jk1, ji_sub, show (R.length : Int) - 1 = ((R.length - 1 : Nat) : Int) by omega]
      have ekn : (ji ((R.length - 1 : Nat) : Int)).toNatClampNeg = R.length - 1 := by rw [ji_tn, Int.toNat_natCast]
      obtain ⟨-, -, ⟨pr3, tr3⟩⟩ := m2.2.2 (R.length - 1) (by omega)
      refine sg_Ref_plan_49 87 _ _ _ _ _ h2 _ ⟨m2.1, ?_⟩
      rw [p2.2.1, ji_le, ji_eq, e1]
      refine ⟨fun z => absurd z (by omega), fun _ => ⟨125, m2.p36, by rw [m2.t36], by rw [m2.t36, ji_in]; omega, 126 + (R.length - 1), by rw [ekn]; exact pr3, by rw [tr3], by rw [tr3, ji_in]; omega, ?_⟩⟩
      rw [ekc, mks (R.length - 1) (by omega) c (by omega), cbi_z]
      refine ⟨fun z => ⟨fun _ => ⟨134, m2.p37, by rw [m2.t37], by rw [m2.t37, ji_in]; omega, ?_⟩, fun z => absurd z (by omega)⟩, fun z => ?_⟩
      · have z := Classical.byContradiction z
        rw [ekn]
        have f3 : mw h2 (am_si h2 134 (R.length - 1) (ji (c : Int))) 134 := mw.si
        refine back (R.length - 1) _ (fun _ => (c : Int)) _ (by omega) (f2.tr (f3.rk (by omega))) (p2.mw f3 (by omega) hR8) (fun j hj u hu => ?_) (fun j j1 j2 => ?_) ⟨fun _ => ⟨z, fun u hu => ?_⟩, fun j j1 j2 => by omega⟩
        · rw [f3.2.2.2 (126 + j) (by omega)]
          exact mks j hj u hu
        · rw [am_I_sis, show j = R.length - 1 by omega, va_up_at]
        · by_cases cu : u < (c : Int)
          · exact absurd hu (no u cu)
          · show (c : Int) ≤ u
            omega
      · rw [jk1, ji_add]
        refine ih (c + 1) h2 (by omega) f2 p2 mks (fun u hu => ?_)
        by_cases cu : u = c
        · rw [cu]; exact z
        · exact no u (by omega)
  -- the stops, forward
  have fwd : ∀ (n i : Nat) (h2 : am_H), i + n = R.length → rk h h2 → prA h2 R.length (wyO s R S) E → (∀ j, j < i → mkR h2 (126 + j) E (rcP (wyO s R S) t0 j)) → am_EI m_Ref_plan 0 0 17 [.ref 87, .int (ji r), .int (ji k), .int (ji t0), .int (ji R.length), .int (ji i), .float 0, .float 0, .float 0] [] h2 (am_qi Q) := by
    intro n
    induction n with
    | zero =>
      intro i h2 hi f2 p2 mks
      refine sg_Ref_plan_17 87 _ _ _ _ _ h2 _ ?_
      rw [ji_le, jk0]
      exact ⟨fun _ => find E.toNat 0 h2 (by omega) f2 p2 (fun j hj => mks j (by omega)) (fun u hu hr => by have := rb _ u (by omega) hr; omega), fun c => absurd (by omega) c⟩
    | succ n ih =>
      intro i h2 hi f2 p2 mks
      obtain ⟨m2, -, -, -⟩ := id p2
      have x2 := x.rk f2
      obtain ⟨q, hq, ekd, bk⟩ := kdB i (by omega)
      have lg := hlg i (by omega)
      refine sg_Ref_plan_17 87 _ _ _ _ _ h2 _ ?_
      rw [ji_le]
      refine ⟨fun c => absurd c (by omega), fun _ => ⟨m2.1, s_Ref_legOf m2 x2 hr hR8 hR.2.2 hsB (rh.rk f2) hk os (by omega) ⟨m2.1, ?_⟩⟩⟩
      refine s_Ref_goOn (A := arP (wyO s R S) t0 i) x2 hr hR8 p2 (by omega) (by rw [ekd]; exact bk) (by rw [ekd]; exact (x2.2 i q hq).2.1) lg ht (fun e u => by subst e; exact Iff.rfl) (fun j e => ⟨rcP (wyO s R S) t0 j, mks j (by omega), fun u hu => rb j u (by omega) hu, fun u => by subst e; exact arP_succ⟩) (fun h3 f3 mk => ?_)
      rw [jk1, ji_add]
      refine ih (i + 1) h3 (by omega) (f2.tr (f3.rk (by omega))) (p2.mw f3 (by omega) hR8) (fun j hj => ?_)
      by_cases cj : j = i
      · subst cj
        exact mk
      · intro u hu
        rw [f3.2.2.2 (126 + j) (by omega)]
        exact mks j (by omega) u hu
  rw [jk0]
  exact fwd R.length 0 h1 (by omega) f1 p1 (fun j hj => absurd hj (by omega))
