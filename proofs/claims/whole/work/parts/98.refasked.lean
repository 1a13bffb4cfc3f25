/-! the reference: what is asked, the plain ones -/
theorem hV_ex {P : List Tn} {t : Int} (ht : ptIn P t) : ∃ A B, hV P t A B := by
  obtain ⟨j, p, hat⟩ := at1_ex ht
  by_cases c : t = p.2.1
  · exact ⟨_, _, j, p, hat, Or.inl ⟨c, rfl, rfl⟩⟩
  · cases e : P[j + 1]? with
    | some q => exact ⟨_, _, j, p, hat, Or.inr ⟨q, e, by have := hat.2.1; omega, rfl, rfl⟩⟩
    | none =>
      exfalso
      have e1 := List.getElem?_eq_none_iff.mp e
      have e3 := (List.getElem?_eq_some_iff.mp hat.1).1
      have e2 : ptM P ((P.length : Int) - 1) = p.2.1 := by
        rw [show (P.length : Int) - 1 = (j : Int) by omega]
        exact ptM_at hat.1
      have := ht.2.2
      have := hat.2.1
      omega
theorem ptW_le {P : List Tn} (w : ptW P) {i j : Nat} {p q : Tn} (hij : i ≤ j) (hp : P[i]? = some p) (hq : P[j]? = some q) : p.2.1 ≤ q.2.1 := by
  by_cases c : i = j
  · subst c
    rw [hp] at hq
    cases hq
    omega
  · have := ptW_mono w (by omega : i < j) hp hq
    omega
theorem on_in {side x t : Int} {P : List Tn} (g : gW P) (h : onP side P x t) : ptIn P t := by
  have h0 := g.1.1
  obtain ⟨t0, ht0⟩ : ∃ q, P[0]? = some q := ⟨_, List.getElem?_eq_getElem h0⟩
  obtain ⟨tl, htl⟩ : ∃ q, P[P.length - 1]? = some q := ⟨_, List.getElem?_eq_getElem (by omega)⟩
  have e0 : ptM P 0 = t0.2.1 := ptM_at (i := 0) ht0
  have el : ptM P ((P.length : Int) - 1) = tl.2.1 := by
    rw [show (P.length : Int) - 1 = ((P.length - 1 : Nat) : Int) by omega]
    exact ptM_at htl
  obtain ⟨j, p, hp, ⟨q, hq, y1, y2, -⟩ | ⟨hn, y2, -⟩⟩ := h
  · have a := ptW_le g.1 (Nat.zero_le j) ht0 hp
    have hj := (List.getElem?_eq_some_iff.mp hq).1
    have b := ptW_le g.1 (by omega : j + 1 ≤ P.length - 1) hq htl
    exact ⟨h0, by omega, by omega⟩
  · have a := ptW_le g.1 (Nat.zero_le j) ht0 hp
    have hj := (List.getElem?_eq_some_iff.mp hp).1
    have b := ptW_le g.1 (by omega : j ≤ P.length - 1) hp htl
    exact ⟨h0, by omega, by omega⟩
theorem on_01 {x t : Int} {P : List Tn} (g : gW P) (ht : ptIn P t) : onP 1 P x t ↔ ¬ onP 0 P x t := by
  obtain ⟨A, B, v⟩ := hV_ex ht
  rw [hV_on g ht v, hV_on g ht v, sd_0]
  unfold sdOn
  rw [if_neg (by decide), if_pos rfl, decide_eq_true_iff]
  omega
theorem rf_stops {h : am_H} {s : St} {n : Int} {Q : Int32 → am_H → Prop} (m : rfA h s) (hn : -2147483648 ≤ n ∧ n < 2147483648) (k : ∀ h', fi h h' 87 146 → rfA h' (p_stops s n).2 → Q (ji (p_stops s n).1) h') : am_Ei m_Ref_stops 0 0 [.ref 87, .int (ji n)] h Q := by
  refine ev_Ref_stops 87 (ji n) h Q ⟨m.1.1, s_Ref_isRoute m hn (fun R e hl hR r n0 n8 => ⟨fun q => absurd q (by decide), fun _ => ⟨m.1.1, 101, m.1.p21, by rw [m.1.t21], by rw [m.1.t21, ji_in]; omega, ?_⟩⟩) (fun e => ⟨fun _ => ⟨m.1.1, ?_⟩, fun q => absurd rfl q⟩)⟩
  · rw [ji_tn, r.1]
    exact rf_an (by unfold p_stops; rw [e]) m fi.rf k
  · rw [jk1]
    exact rf_no (by unfold p_stops; rw [e]) m fi.rf k
theorem rf_turns {h : am_H} {s : St} {n : Int} {Q : Int32 → am_H → Prop} (m : rfA h s) (hn : -2147483648 ≤ n ∧ n < 2147483648) (k : ∀ h', fi h h' 87 146 → rfA h' (p_turns s n).2 → Q (ji (p_turns s n).1) h') : am_Ei m_Ref_turns 0 0 [.ref 87, .int (ji n)] h Q := by
  refine ev_Ref_turns 87 (ji n) h Q ⟨m.1.1, s_Ref_isPort m hn (fun P e g r n0 n8 => ⟨fun q => absurd q (by decide), fun _ => ⟨m.1.1, 89, m.1.p6, by rw [m.1.t6], by rw [m.1.t6, ji_in]; omega, ?_⟩⟩) (fun e => ⟨fun _ => ⟨m.1.1, ?_⟩, fun q => absurd rfl q⟩)⟩
  · rw [ji_tn, r.1]
    exact rf_an (by unfold p_turns; rw [e]) m fi.rf k
  · rw [jk1]
    exact rf_no (by unfold p_turns; rw [e]) m fi.rf k
theorem rf_count {h : am_H} {s : St} {w : Int} {Q : Int32 → am_H → Prop} (m : rfA h s) (hw : -2147483648 ≤ w ∧ w < 2147483648) (k : ∀ h', fi h h' 87 146 → rfA h' (p_count s w).2 → Q (ji (p_count s w).1) h') : am_Ei m_Ref_count 0 0 [.ref 87, .int (ji w)] h Q := by
  obtain ⟨m1, m2, m3, m4, m5, m6, m7⟩ := id m
  refine ev_Ref_count 87 (ji w) h Q ?_
  rw [m2.1, m3.1, m4.1, m5.1, m6.1, jk0, jk1, jk2, jk3, jk4, ji_eq, ji_eq, ji_eq, ji_eq, ji_eq]
  exact ⟨fun e => ⟨m1.1, rf_an (cif_pos e) m fi.rf k⟩, fun e => ⟨m1.1, rf_an ((cif_neg (by omega)).trans (cif_pos e)) m fi.rf k⟩, fun e => ⟨m1.1, rf_an ((cif_neg (by omega)).trans ((cif_neg (by omega)).trans (cif_pos e))) m fi.rf k⟩, fun e => ⟨m1.1, rf_an ((cif_neg (by omega)).trans ((cif_neg (by omega)).trans ((cif_neg (by omega)).trans (cif_pos e)))) m fi.rf k⟩, fun e => ⟨m1.1, rf_an ((cif_neg (by omega)).trans ((cif_neg (by omega)).trans ((cif_neg (by omega)).trans ((cif_neg (by omega)).trans (cif_pos e))))) m fi.rf k⟩, fun n0 n1 n2 n3 n4 => ⟨m1.1, rf_no ((cif_neg n0).trans ((cif_neg n1).trans ((cif_neg n2).trans ((cif_neg n3).trans (cif_neg n4))))) m fi.rf k⟩⟩
theorem rf_turn {h : am_H} {s : St} {n i w : Int} {Q : Int32 → am_H → Prop} (m : rfA h s) (hn : -2147483648 ≤ n ∧ n < 2147483648) (hi : -2147483648 ≤ i ∧ i < 2147483648) (hw : -2147483648 ≤ w ∧ w < 2147483648) (k : ∀ h', fi h h' 87 146 → rfA h' (p_turn s n i w).2 → Q (ji (p_turn s n i w).1) h') : am_Ei m_Ref_turn 0 0 [.ref 87, .int (ji n), .int (ji i), .int (ji w)] h Q := by
  refine ev_Ref_turn 87 (ji n) (ji i) (ji w) h Q ⟨m.1.1, s_Ref_isPort m hn (fun P e g r n0 n8 => ⟨fun q => absurd q (by decide), fun _ => ⟨m.1.1, 89, m.1.p6, by rw [m.1.t6], by rw [m.1.t6, ji_in]; omega, ?_⟩⟩) (fun e => ⟨fun _ => ⟨m.1.1, ?_⟩, fun q => absurd rfl q⟩)⟩
  · have h16 := g.2.1
    have h0 := g.1.1
    rw [ji_tn, r.1, jk0, jk1, ji_sub]
    refine s_Ref_isIn hi (by omega) (by omega) (fun c => ⟨fun _ => ?_, fun q => absurd q (by decide)⟩) (fun c => ⟨fun q => absurd rfl q, fun _ => ⟨m.1.1, rf_no (by unfold p_turn; rw [e]; exact cif_neg (by omega)) m fi.rf k⟩⟩)
    obtain ⟨j, rfl⟩ := Int.eq_ofNat_of_zero_le c.1
    obtain ⟨p, rfl⟩ := Int.eq_ofNat_of_zero_le n0
    obtain ⟨t, ht⟩ : ∃ t, P[j]? = some t := ⟨_, List.getElem?_eq_getElem (by omega)⟩
    have rt := r.2 j t ht
    rw [Int.toNat_natCast] at rt
    have ek : (ji ((p : Int) * 16 + (j : Int))).toNatClampNeg = p * 16 + j := by
      rw [ji_tn]
      omega
    have er : p_turn s (p : Int) (j : Int) w = (cif (w = 0) (ans s (ptM P (j : Int))) (cif (w = 1) (ans s (ptG P (j : Int))) (cif (w = 2) (ans s (cif (ptH P (j : Int) = true) 1 0)) (rfs s 3)))) := by
      unfold p_turn
      rw [e]
      exact cif_pos (by omega)
    rw [ptM_at ht, ptG_at ht, ptH_at ht] at er
    rw [jk2, jk3, ji_eq, ji_eq, ji_eq, jk16, ji_mul, ji_add, ek]
    refine ⟨fun w0 => ⟨fun w1 => ⟨fun w2 => ⟨m.1.1, rf_no (er.trans ((cif_neg w0).trans ((cif_neg w1).trans (cif_neg w2)))) m fi.rf k⟩, fun w2 => ⟨m.1.1, 92, m.1.p9, by rw [m.1.t9], by rw [m.1.t9, ji_in]; omega, ?_⟩⟩, fun w1 => ⟨m.1.1, 91, m.1.p8, by rw [m.1.t8], by rw [m.1.t8, ji_in]; omega, ?_⟩⟩, fun w0 => ⟨m.1.1, 90, m.1.p7, by rw [m.1.t7], by rw [m.1.t7, ji_in]; omega, ?_⟩⟩
    · have er2 := er.trans ((cif_neg w0).trans ((cif_neg w1).trans (cif_pos w2)))
      rw [rt.2.2, bi_j]
      refine ⟨fun c => rf_an (er2.trans (by rw [cif_neg (by rw [c]; decide)])) m fi.rf k, fun c => rf_an (er2.trans (by rw [cif_pos (by cases e2 : t.1; exact absurd e2 c; rfl)])) m fi.rf k⟩
    · rw [rt.2.1]
      exact rf_an (er.trans ((cif_neg w0).trans (cif_pos w1))) m fi.rf k
    · rw [rt.1]
      exact rf_an (er.trans (cif_pos w0)) m fi.rf k
  · rw [jk1]
    exact rf_no (by unfold p_turn; rw [e]) m fi.rf k
theorem hV_wH {P : List Tn} {t A B : Int} (g : gW P) (v : hV P t A B) (ht : ptIn P t) : wH P t = A.fdiv B := by
  obtain ⟨j, p, hat, ⟨e1, e2, e3⟩ | ⟨q, hq, hlt, e2, e3⟩⟩ := v
  · rw [e2, e3, Int.fdiv_one]
    cases e : P[j + 1]? with
    | none => exact wH_eq g.1 ⟨j, p, hat, Or.inl ⟨e, rfl⟩⟩
    | some q =>
      have tw := (g.1.2.1 j p q hat.1 e).1
      refine wH_eq g.1 ⟨j, p, hat, Or.inr ⟨q, e, ?_⟩⟩
      rw [e1, exc_at, Int.sub_zero, Int.mul_fdiv_cancel _ (by omega)]
  · rw [e2, e3]
    exact wH_eq g.1 ⟨j, p, hat, Or.inr ⟨q, hq, rfl⟩⟩
theorem fdiv_le {A B x : Int} (hB : 0 < B) : x ≤ A.fdiv B ↔ x * B ≤ A := by
  rw [Int.fdiv_eq_ediv_of_nonneg _ (Int.le_of_lt hB)]
  exact Int.le_ediv_iff_mul_le hB
theorem rf_water {h : am_H} {s : St} {n t : Int} {Q : Int32 → am_H → Prop} (m : rfA h s) (hn : -2147483648 ≤ n ∧ n < 2147483648) (ht : -2147483648 ≤ t ∧ t < 2147483648) (k : ∀ h', fi h h' 87 146 → rfA h' (p_water s n t).2 → Q (ji (p_water s n t).1) h') : am_Ei m_Ref_water 0 0 [.ref 87, .int (ji n), .int (ji t)] h Q := by
  refine ev_Ref_water 87 (ji n) (ji t) h Q ?_
  rw [jk1]
  refine ⟨m.1.1, s_Ref_isPort m hn (fun P e g r n0 n8 => ⟨fun q => absurd q (by decide), fun _ => ⟨m.1.1, ?_⟩⟩) (fun e => ⟨fun _ => ⟨m.1.1, rf_no (by unfold p_water; rw [e]) m fi.rf k⟩, fun q => absurd rfl q⟩)⟩
  obtain ⟨p, rfl⟩ := Int.eq_ofNat_of_zero_le n0
  rw [Int.toNat_natCast] at r
  refine s_Ref_isMinute m.1 r g (by omega) ht (fun c => ⟨fun _ => ⟨m.1.1, s_Ref_heightAt m.1 r g (by omega) c (fun h1 A B f1 eA eB v => ?_)⟩, fun q => absurd q (by decide)⟩) (fun c => ⟨fun q => absurd rfl q, fun _ => ⟨m.1.1, rf_no (by unfold p_water; rw [e]; exact cif_neg c) m fi.rf k⟩⟩)
  have m1 := m.rk (f1.rk (by omega))
  have hb := hV_bd g v
  rw [eA, eB]
  refine ⟨m1.1.1, s_Math_floorDiv (by omega) (by omega) ⟨m1.1.1, rf_an ?_ m1 (f1.rk (by omega)).fi k⟩⟩
  unfold p_water
  rw [e]
  refine (cif_pos c).trans ?_
  rw [hV_wH g v c]
theorem rf_above {h : am_H} {s : St} {n t x : Int} {Q : Int32 → am_H → Prop} (m : rfA h s) (hn : -2147483648 ≤ n ∧ n < 2147483648) (ht : -2147483648 ≤ t ∧ t < 2147483648) (hx : -2147483648 ≤ x ∧ x < 2147483648) (k : ∀ h', fi h h' 87 146 → rfA h' (p_above s n t x).2 → Q (ji (p_above s n t x).1) h') : am_Ei m_Ref_above 0 0 [.ref 87, .int (ji n), .int (ji t), .int (ji x)] h Q := by
  refine ev_Ref_above 87 (ji n) (ji t) (ji x) h Q ?_
  rw [jm9999, jk9999, jk1, jk3]
  refine ⟨m.1.1, s_Ref_isPort m hn (fun P e g r n0 n8 => ⟨fun q => absurd q (by decide), fun _ => ⟨m.1.1, ?_⟩⟩) (fun e => ⟨fun _ => ⟨m.1.1, rf_no (by unfold p_above; rw [e]) m fi.rf k⟩, fun q => absurd rfl q⟩)⟩
  obtain ⟨p, rfl⟩ := Int.eq_ofNat_of_zero_le n0
  rw [Int.toNat_natCast] at r
  refine s_Ref_isMinute m.1 r g (by omega) ht (fun c => ⟨fun _ => ?_, fun q => absurd q (by decide)⟩) (fun c => ⟨fun q => absurd rfl q, fun _ => ⟨m.1.1, rf_no (by unfold p_above; rw [e]; exact cif_neg c) m fi.rf k⟩⟩)
  refine s_Ref_isIn hx (by omega) (by omega) (fun c2 => ⟨fun _ => ⟨m.1.1, ?_⟩, fun q => absurd q (by decide)⟩) (fun c2 => ⟨fun q => absurd rfl q, fun _ => ⟨m.1.1, rf_no (by unfold p_above; rw [e]; exact (cif_pos c).trans (cif_neg c2)) m fi.rf k⟩⟩)
  have er : p_above s (p : Int) t x = ans s (cif (x ≤ wH P t) 1 0) := by
    unfold p_above
    rw [e]
    exact (cif_pos c).trans (cif_pos c2)
  have iff : onP 0 P x t ↔ x ≤ wH P t := by
    obtain ⟨A, B, v⟩ := hV_ex c
    have hb := hV_bd g v
    rw [hV_on g c v, sd_0, hV_wH g v c, fdiv_le (by omega)]
    omega
  refine s_Ref_isAt m.1 r g (by omega) c (by omega) (fun on h1 f1 => ⟨fun q => absurd q (by decide), fun _ => ⟨(m.1.kw f1).1, ?_⟩⟩) (fun on h1 f1 => ⟨fun _ => ⟨(m.1.kw f1).1, ?_⟩, fun q => absurd rfl q⟩)
  · exact rf_an (er.trans (by rw [cif_pos (iff.mp on)])) (m.rk (f1.rk (by omega))) (f1.rk (by omega)).fi k
  · rw [jk0]
    exact rf_an (er.trans (by rw [cif_neg (fun q => on (iff.mpr q))])) (m.rk (f1.rk (by omega))) (f1.rk (by omega)).fi k
theorem rf_first {h : am_H} {s : St} {n x t : Int} {hi : Bool} {Q : Int32 → am_H → Prop} (m : rfA h s) (hn : -2147483648 ≤ n ∧ n < 2147483648) (hx : -2147483648 ≤ x ∧ x < 2147483648) (ht : -2147483648 ≤ t ∧ t < 2147483648) (k : ∀ h', fi h h' 87 146 → rfA h' (p_first s (if hi then 0 else 1) n x t).2 → Q (ji (p_first s (if hi then 0 else 1) n x t).1) h') : am_Ei m_Ref_first 0 0 [.ref 87, .int (ji n), .int (ji x), .int (ji t), .int (bi hi)] h Q := by
  refine ev_Ref_first 87 (ji n) (ji x) (ji t) (bi hi) h Q ?_
  rw [jm9999, jk9999, jk1, jk3]
  refine ⟨m.1.1, s_Ref_isPort m hn (fun P e g r n0 n8 => ⟨fun _ => ?_, fun q => absurd q (by decide)⟩) (fun e => ⟨fun q => absurd rfl q, fun _ => ⟨m.1.1, rf_no (by unfold p_first; rw [e]) m fi.rf k⟩⟩)⟩
  obtain ⟨p, rfl⟩ := Int.eq_ofNat_of_zero_le n0
  rw [Int.toNat_natCast] at r
  have fb := g.first
  have lb := g.last
  refine s_Ref_isIn hx (by omega) (by omega) (fun c2 => ⟨fun _ => ⟨m.1.1, ?_⟩, fun q => absurd q (by decide)⟩) (fun c2 => ⟨fun q => absurd rfl q, fun _ => ⟨m.1.1, rf_no (by unfold p_first; rw [e]; exact cif_neg c2) m fi.rf k⟩⟩)
  have er : p_first s (if hi then 0 else 1) (p : Int) x t = ans s (lst (fun u => t ≤ u ∧ onP (if hi then 0 else 1) P x u)) := by
    unfold p_first
    rw [e]
    exact cif_pos c2
  have loop : ∀ (n : Nat) (u : Int) (h1 : am_H), kw h h1 26 28 → t ≤ u → ptM P 0 ≤ u → (u + n = ptM P ((P.length : Int) - 1) + 1 ∨ (n = 0 ∧ ptM P ((P.length : Int) - 1) + 1 ≤ u)) → u < 2147483648 → (∀ v, t ≤ v → v < u → ¬ onP (if hi then 0 else 1) P x v) → am_EI m_Ref_first 0 0 44 [.ref 87, .int (ji (p : Int)), .int (ji x), .int (ji t), .int (bi hi), .int (ji u)] [] h1 (am_qi Q) := by
    intro n
    induction n with
    | zero =>
      intro u h1 f1 tu fu hu u2 no
      have m1 := m.rk (f1.rk (by omega))
      refine sg_Ref_first_44 87 _ _ _ _ _ h1 _ ⟨m1.1.1, s_Ref_lastOf m1.1 (r.kw f1) g (by omega) ?_⟩
      rw [ji_lt, jm1]
      refine ⟨fun c => ⟨m1.1.1, rf_an (er.trans ?_) m1 (f1.rk (by omega)).fi k⟩, fun c => absurd (by omega) c⟩
      rw [lst_no]
      rintro v ⟨v1, v2⟩
      have := on_in g v2
      have := this.2.2
      exact no v v1 (by omega) v2
    | succ n ih =>
      intro u h1 f1 tu fu hu u2 no
      have m1 := m.rk (f1.rk (by omega))
      have inn : ptIn P u := ⟨g.1.1, fu, by omega⟩
      refine sg_Ref_first_44 87 _ _ _ _ _ h1 _ ⟨m1.1.1, s_Ref_lastOf m1.1 (r.kw f1) g (by omega) ?_⟩
      rw [ji_lt]
      refine ⟨fun c => absurd c (by omega), fun _ => ⟨m1.1.1, ?_⟩⟩
      have o1 := on_01 (x := x) g inn
      have found : ∀ h2, kw h1 h2 26 28 → onP (if hi then 0 else 1) P x u → am_tg h2 87 = (12, 56) ∧ am_Ei m_Ref_fine 0 0 [.ref 87, .int (ji u)] h2 (fun r14 h13 => am_qi Q (some (.int r14)) h13) := by
        intro h2 f2 on
        have m2 := m1.rk (f2.rk (by omega))
        refine ⟨m2.1.1, rf_an (er.trans ?_) m2 ((f1.tr f2).rk (by omega)).fi k⟩
        rw [lst_min (v := u) ⟨tu, on⟩ (fun v hv => ?_)]
        by_cases c : u ≤ v
        · exact c
        · exact absurd hv.2 (no v hv.1 (by omega))
      have more : ∀ h2, kw h1 h2 26 28 → ¬ onP (if hi then 0 else 1) P x u → am_EI m_Ref_first 0 0 44 [.ref 87, .int (ji (p : Int)), .int (ji x), .int (ji t), .int (bi hi), .int (ji u + 1)] [] h2 (am_qi Q) := by
        intro h2 f2 on
        rw [jk1, ji_add]
        refine ih (u + 1) h2 (f1.tr f2) (by omega) (by omega) (by omega) (by omega) (fun v v1 v2 => ?_)
        by_cases c : v = u
        · rw [c]
          exact on
        · exact no v v1 (by omega)
      refine s_Ref_isAt m1.1 (r.kw f1) g (by omega) inn (by omega) (fun on h2 f2 => ?_) (fun on h2 f2 => ?_)
      · cases hi
        · exact ⟨fun _ => more h2 f2 (fun q => (o1.mp q) on), fun q => absurd q (by decide)⟩
        · exact ⟨fun q => absurd rfl q, fun _ => found h2 f2 on⟩
      · cases hi
        · exact ⟨fun q => absurd rfl q, fun _ => found h2 f2 (o1.mpr on)⟩
        · exact ⟨fun _ => more h2 f2 on, fun q => absurd q (by decide)⟩
  refine s_Ref_firstOf m.1 r g (by omega) (s_Math_max ht (by omega) ?_)
  refine loop (ptM P ((P.length : Int) - 1) + 1 - (if t < ptM P 0 then ptM P 0 else t)).toNat _ h kw.rf ?_ ?_ ?_ ?_ (fun v v1 v2 on => ?_)
  · split <;> omega
  · split <;> omega
  · split <;> omega
  · split <;> omega
  · have := (on_in g on).2.1
    split at v2 <;> omega
theorem rf_rise {h : am_H} {s : St} {n x t : Int} {Q : Int32 → am_H → Prop} (m : rfA h s) (hn : -2147483648 ≤ n ∧ n < 2147483648) (hx : -2147483648 ≤ x ∧ x < 2147483648) (ht : -2147483648 ≤ t ∧ t < 2147483648) (k : ∀ h', fi h h' 87 146 → rfA h' (p_first s 0 n x t).2 → Q (ji (p_first s 0 n x t).1) h') : am_Ei m_Ref_rise 0 0 [.ref 87, .int (ji n), .int (ji x), .int (ji t)] h Q :=
  ev_Ref_rise 87 (ji n) (ji x) (ji t) h Q ⟨m.1.1, rf_first (hi := true) m hn hx ht k⟩
theorem rf_ebb {h : am_H} {s : St} {n x t : Int} {Q : Int32 → am_H → Prop} (m : rfA h s) (hn : -2147483648 ≤ n ∧ n < 2147483648) (hx : -2147483648 ≤ x ∧ x < 2147483648) (ht : -2147483648 ≤ t ∧ t < 2147483648) (k : ∀ h', fi h h' 87 146 → rfA h' (p_first s 1 n x t).2 → Q (ji (p_first s 1 n x t).1) h') : am_Ei m_Ref_ebb 0 0 [.ref 87, .int (ji n), .int (ji x), .int (ji t)] h Q :=
  ev_Ref_ebb 87 (ji n) (ji x) (ji t) h Q ⟨m.1.1, rf_first (hi := false) m hn hx ht k⟩
theorem rf_status {h : am_H} {s : St} {Q : Int32 → am_H → Prop} (m : rfA h s) (k : Q (ji s.2.2.2.2.2.1) h) : am_Ei m_Ref_status 0 0 [.ref 87] h Q := by
  refine ev_Ref_status 87 h Q ⟨m.1.1, ?_⟩
  rw [m.2.2.2.2.2.2.1]
  exact k
theorem rf_place {h : am_H} {s : St} {Q : Int32 → am_H → Prop} (m : rfA h s) (k : Q (ji s.2.2.2.2.2.2.1) h) : am_Ei m_Ref_place 0 0 [.ref 87] h Q := by
  refine ev_Ref_place 87 h Q ⟨m.1.1, ?_⟩
  rw [m.2.2.2.2.2.2.2.1]
  exact k
theorem rf_fault {h : am_H} {s : St} {Q : Int32 → am_H → Prop} (m : rfA h s) (k : Q (ji s.2.2.2.2.2.2.2) h) : am_Ei m_Ref_fault 0 0 [.ref 87] h Q := by
  refine ev_Ref_fault 87 h Q ⟨m.1.1, ?_⟩
  rw [m.2.2.2.2.2.2.2.2]
  exact k
