/-! the reference: what is asked of routes -/
theorem s_Ref_latest {h : am_H} {s : St} {r k : Nat} {R : List RtStop} {S : Sp} {t0 : Int} {Q : Int32 → am_H → Prop} (m : rfA h s) (x : rrA h r R) (hr : r < 8) (hR : 0 < R.length ∧ R.length ≤ 8 ∧ ∀ q, R[0]? = some q → q.1 = 0) (hs : ∀ q ∈ R, stB q ∧ q.2.1 < s.2.2.1.length ∧ (-500 ≤ q.2.2.2 ∧ q.2.2.2 ≤ 1500)) (rh : rhA h k S) (hk : k < 6) (os : spO S) (sb : spB S) (ht : 0 ≤ t0 ∧ t0 ≤ 99999)
    (K : ∀ h', rk h h' → Q (ji (grt (bkP (wyO s R S) t0 R.length (R.length - 1)))) h') : am_Ei m_Ref_latest 0 0 [.ref 87, .int (ji r), .int (ji k), .int (ji t0)] h Q := by
  have ekr : (ji (r : Int)).toNatClampNeg = r := by rw [ji_tn, Int.toNat_natCast]
  have hsB : ∀ q ∈ R, stB q := fun q hq => (hs q hq).1
  have hR8 := hR.2.1
  have hR0 := hR.1
  have e1 : ji (R.length : Int) - 1 = ji ((R.length - 1 : Nat) : Int) := by rw [jk1, ji_sub, show (R.length : Int) - 1 = ((R.length - 1 : Nat) : Int) by omega]
  have ekn : (ji ((R.length - 1 : Nat) : Int)).toNatClampNeg = R.length - 1 := by rw [ji_tn, Int.toNat_natCast]
  refine ev_Ref_latest 87 (ji r) (ji k) (ji t0) h Q ⟨m.1.1, 101, m.1.p21, by rw [m.1.t21], by rw [m.1.t21, ji_in]; omega, ?_⟩
  rw [ekr, x.1]
  refine s_Ref_prepare m x hr ⟨hR.1, hR.2.1⟩ hs rh hk os sb (fun h1 E f1 p1 => ?_)
  obtain ⟨-, -, hE, pks⟩ := id p1
  have bb : ∀ j u, j < R.length → bkP (wyO s R S) t0 R.length j u → 0 ≤ u ∧ u < E := fun j u hj hu => (pks (R.length - 1 - j) (by omega)).2.2.1 u hu.2
  -- the best
  have best : ∀ (n c : Nat) (v : Int) (h2 : am_H), (c : Int) + n = E → rk h h2 → prA h2 R.length (wyO s R S) E → mkR h2 126 E (bkP (wyO s R S) t0 R.length (R.length - 1)) → ((v = -1 ∧ ∀ u, u < (c : Int) → ¬ bkP (wyO s R S) t0 R.length (R.length - 1) u) ∨ (bkP (wyO s R S) t0 R.length (R.length - 1) v ∧ ∀ u, u < (c : Int) → bkP (wyO s R S) t0 R.length (R.length - 1) u → u ≤ v)) → am_EI m_Ref_latest 0 0 108 [.ref 87, .int (ji r), .int (ji k), .int (ji t0), .int (ji R.length), .int (ji v), .int (ji c)] [] h2 (am_qi Q) := by
    intro n
    induction n with
    | zero =>
      intro c v h2 hc f2 p2 mk hv
      refine sg_Ref_latest_108 87 _ _ _ _ _ _ h2 _ ⟨p2.1.1, ?_⟩
      rw [p2.2.1, ji_le]
      refine ⟨fun _ => ?_, fun z => absurd (by omega) z⟩
      have := K h2 f2
      rcases hv with ⟨rfl, hv⟩ | ⟨v1, v2⟩
      · rw [grt_no (fun u hu => hv u (by have := bb _ u (by omega) hu; omega) hu)] at this
        exact this
      · rw [grt_max v1 (fun u hu => v2 u (by have := bb _ u (by omega) hu; omega) hu)] at this
        exact this
    | succ n ih =>
      intro c v h2 hc f2 p2 mk hv
      obtain ⟨m2, -, -, -⟩ := id p2
      obtain ⟨-, -, ⟨pr3, tr3⟩⟩ := m2.2.2 0 (by omega)
      have ekc : (ji (c : Int)).toNatClampNeg = c := by rw [ji_tn, Int.toNat_natCast]
      refine sg_Ref_latest_108 87 _ _ _ _ _ _ h2 _ ⟨m2.1, ?_⟩
      rw [p2.2.1, ji_le]
      refine ⟨fun z => absurd z (by omega), fun _ => ⟨125, m2.p36, by rw [m2.t36], by rw [m2.t36, jk0, ji_in]; omega, 126, pr3, by rw [tr3], by rw [tr3, ji_in]; omega, ?_⟩⟩
      rw [ekc, mk c (by omega), cbi_z, jk1, ji_add]
      refine ⟨fun z => ih (c + 1) v h2 (by omega) f2 p2 mk ?_, fun z => ih (c + 1) c h2 (by omega) f2 p2 mk (Or.inr ⟨Classical.byContradiction z, fun u u1 _ => by omega⟩)⟩
      rcases hv with ⟨rfl, hv⟩ | ⟨v1, v2⟩
      · refine Or.inl ⟨rfl, fun u hu => ?_⟩
        by_cases cu : u = c
        · rw [cu]; exact z
        · exact hv u (by omega)
      · refine Or.inr ⟨v1, fun u hu hb => ?_⟩
        by_cases cu : u = c
        · rw [cu] at hb; exact absurd hb z
        · exact v2 u (by omega) hb
  -- the stops, backward
  have bwd : ∀ (i : Nat) (h2 : am_H), i < R.length → rk h h2 → prA h2 R.length (wyO s R S) E → mkR h2 (126 + i) E (bkP (wyO s R S) t0 R.length (R.length - 1 - i)) → am_EI m_Ref_latest 0 0 76 [.ref 87, .int (ji r), .int (ji k), .int (ji t0), .int (ji R.length), .int (ji i), .float 0] [] h2 (am_qi Q) := by
    intro i
    induction i with
    | zero =>
      intro h2 hi f2 p2 mk
      refine sg_Ref_latest_76 87 _ _ _ _ _ h2 _ ?_
      rw [show ((ji ((0 : Nat) : Int) ≤ 0) ↔ (ji ((0 : Nat) : Int) ≤ ji 0)) from Iff.rfl, ji_le, jm1, jk0]
      exact ⟨fun _ => best E.toNat 0 (-1) h2 (by omega) f2 p2 mk (Or.inl ⟨rfl, fun u hu hb => by have := bb _ u (by omega) hb; omega⟩), fun z => absurd (by omega) z⟩
    | succ i ih =>
      intro h2 hi f2 p2 mk
      obtain ⟨m2, -, -, -⟩ := id p2
      have x2 := x.rk f2
      obtain ⟨q, hq⟩ : ∃ q, R[i + 1]? = some q := ⟨_, List.getElem?_eq_getElem hi⟩
      have bq := hsB q (List.mem_of_getElem? hq)
      have ekd : (wyO s R S).2.1 (i + 1) = q.2.2.1 := rtG_at hq
      have lg : 0 ≤ lgF R S (i + 1) ∧ lgF R S (i + 1) ≤ 60000 := by
        show 0 ≤ lgM S (rtG (fun q => q.1) R ((i + 1 : Nat) : Int)) ∧ lgM S (rtG (fun q => q.1) R ((i + 1 : Nat) : Int)) ≤ 60000
        rw [rtG_at hq]
        exact lgM_bd (by have := os.2; omega) bq.1
      refine sg_Ref_latest_76 87 _ _ _ _ _ h2 _ ?_
      rw [show ((ji ((i + 1 : Nat) : Int) ≤ 0) ↔ (ji ((i + 1 : Nat) : Int) ≤ ji 0)) from Iff.rfl, ji_le]
      refine ⟨fun z => absurd z (by omega), fun _ => ⟨m2.1, s_Ref_legOf m2 x2 hr hR8 hR.2.2 hsB (rh.rk f2) hk os hi ⟨m2.1, ?_⟩⟩⟩
      refine s_Ref_comeBack hr hR8 p2 hi (by rw [ekd]; exact bq.2.2.1) (by rw [ekd]; exact (x2.2 (i + 1) q hq).2.1) lg mk (fun u hu => bb _ u (by omega) hu) (fun h3 f3 mk3 => ?_)
      rw [jm1, ji_add, show ((i + 1 : Nat) : Int) + -1 = (i : Int) by omega]
      refine ih h3 (by omega) (f2.tr (f3.rk (by omega))) (p2.mw f3 (by omega) hR8) (fun u hu => ?_)
      rw [mk3 u hu]
      refine cbi_cg ?_
      show _ ↔ opB (wyO s R S) t0 R.length (R.length - 1 - i) u ∧ (wyO s R S).2.2.2 (R.length - 1 - (R.length - 1 - i)) u
      rw [show R.length - 1 - i = (R.length - 1 - (i + 1)) + 1 by omega]
      show _ ↔ opE ((wyO s R S).2.1 (R.length - 1 - (R.length - 1 - (i + 1)))) ((wyO s R S).2.2.1 (R.length - 1 - (R.length - 1 - (i + 1)))) (fun v => bkP (wyO s R S) t0 R.length (R.length - 1 - (i + 1)) v) (u + (wyO s R S).1 (R.length - 1 - (R.length - 1 - (i + 1)))) ∧ _
      rw [show R.length - 1 - (R.length - 1 - (i + 1)) = i + 1 by omega, show R.length - 1 - (R.length - 1 - (i + 1) + 1) = i by omega]
      exact Iff.rfl
  have first : ∀ (n c : Nat) (h2 : am_H), (c : Int) + n = E → rk h h2 → prA h2 R.length (wyO s R S) E → (∀ u : Nat, u < c → am_I h2 (126 + (R.length - 1)) u = cbi (bkP (wyO s R S) t0 R.length 0 u)) → am_EI m_Ref_latest 0 0 17 [.ref 87, .int (ji r), .int (ji k), .int (ji t0), .int (ji R.length), .int (ji c), .float 0] [] h2 (am_qi Q) := by
    intro n
    induction n with
    | zero =>
      intro c h2 hc f2 p2 inv
      refine sg_Ref_latest_17 87 _ _ _ _ _ h2 _ ⟨p2.1.1, ?_⟩
      rw [p2.2.1, ji_le, e1]
      refine ⟨fun _ => bwd (R.length - 1) h2 (by omega) f2 p2 (fun u hu => ?_), fun z => absurd (by omega) z⟩
      rw [show R.length - 1 - (R.length - 1) = 0 by omega]
      exact inv u (by omega)
    | succ n ih =>
      intro c h2 hc f2 p2 inv
      obtain ⟨m2, -, -, mks2⟩ := id p2
      obtain ⟨⟨pr1, tr1⟩, -, ⟨pr3, tr3⟩⟩ := m2.2.2 (R.length - 1) (by omega)
      have mg := (mks2 (R.length - 1) (by omega)).1 c (by omega)
      have ekc : (ji (c : Int)).toNatClampNeg = c := by rw [ji_tn, Int.toNat_natCast]
      have bi0 : bkP (wyO s R S) t0 R.length 0 c ↔ ((0 ≤ (c : Int) ∧ (c : Int) ≤ t0) ∧ (wyO s R S).2.2.2 (R.length - 1) c) := by
        unfold bkP
        rw [Nat.sub_zero]
        exact Iff.rfl
      have st : ∀ v : Int32, v = cbi (bkP (wyO s R S) t0 R.length 0 c) → (am_tg h2 (126 + (R.length - 1))).1 = 21 ∧ vp_in (ji (c : Int)) (am_tg h2 (126 + (R.length - 1))).2 ∧ am_EI m_Ref_latest 0 0 17 [.ref 87, .int (ji r), .int (ji k), .int (ji t0), .int (ji R.length), .int (ji c + 1), .float 0] [] (am_si h2 (126 + (R.length - 1)) (ji (c : Int)).toNatClampNeg v) (am_qi Q) := by
        intro v hv
        refine ⟨by rw [tr3], by rw [tr3, ji_in]; omega, ?_⟩
        rw [ekc, jk1, ji_add]
        have f3 : mw h2 (am_si h2 (126 + (R.length - 1)) c v) (126 + (R.length - 1)) := mw.si
        refine ih (c + 1) _ (by omega) (f2.tr (f3.rk (by omega))) (p2.mw f3 (by omega) hR8) (fun u hu => ?_)
        rw [am_I_sis]
        by_cases cu : u = c
        · subst cu
          rw [va_up_at]
          exact hv
        · rw [va_up_no _ _ cu]
          exact inv u (by omega)
      refine sg_Ref_latest_17 87 _ _ _ _ _ h2 _ ⟨m2.1, ?_⟩
      rw [p2.2.1, ji_le, e1]
      refine ⟨fun z => absurd z (by omega), fun _ => ⟨125, m2.p36, by rw [m2.t36], by rw [m2.t36, ji_in]; omega, 126 + (R.length - 1), by rw [ekn]; exact pr3, 107, m2.p34, by rw [m2.t34], by rw [m2.t34, ji_in]; omega, 108 + (R.length - 1), by rw [ekn]; exact pr1, by rw [tr1], by rw [tr1, ji_in]; omega, ?_⟩⟩
      have cz : am_I h2 (108 + (R.length - 1)) (ji (c : Int)).toNatClampNeg = 0 ↔ ¬ (wyO s R S).2.2.2 (R.length - 1) c := by rw [ekc, mg, cbi_z]
      rw [cz, ji_lt]
      exact ⟨fun z => st 0 (cbi_0 (fun q => z (bi0.mp q).2)).symm, fun z => ⟨fun z2 => st 0 (cbi_0 (fun q => by have := (bi0.mp q).1; omega)).symm, fun z2 => st 1 (cbi_1 (bi0.mpr ⟨by omega, Classical.byContradiction z⟩)).symm⟩⟩
  rw [jk0]
  exact first E.toNat 0 h1 (by omega) f1 p1 (fun u hu => absurd hu (by omega))
theorem s_Ref_routeWhy {h : am_H} {s : St} {n b t : Int} {Q : Int32 → am_H → Prop} (m : rfA h s) (hn : -2147483648 ≤ n ∧ n < 2147483648) (hb : -2147483648 ≤ b ∧ b < 2147483648) (ht : -2147483648 ≤ t ∧ t < 2147483648)
    (K1 : (gt s.2.2.2.2.1 n = none ∨ gt s.2.2.2.1 b = none) → Q 1 h)
    (K3 : ∀ R S, gt s.2.2.2.2.1 n = some R → gt s.2.2.2.1 b = some S → ¬ (0 ≤ t ∧ t ≤ 99999) → Q 3 h)
    (K0 : ∀ R S, gt s.2.2.2.2.1 n = some R → gt s.2.2.2.1 b = some S → (0 < R.length ∧ R.length ≤ 8 ∧ ∀ q, R[0]? = some q → q.1 = 0) → (∀ q ∈ R, stB q ∧ q.2.1 < s.2.2.1.length ∧ (-500 ≤ q.2.2.2 ∧ q.2.2.2 ≤ 1500)) → rrA h n.toNat R → 0 ≤ n → n < 8 → spO S → spB S → rhA h b.toNat S → 0 ≤ b → b < 6 → (0 ≤ t ∧ t ≤ 99999) → Q 0 h) : am_Ei m_Ref_routeWhy 0 0 [.ref 87, .int (ji n), .int (ji b), .int (ji t)] h Q := by
  refine ev_Ref_routeWhy 87 (ji n) (ji b) (ji t) h Q ⟨m.1.1, s_Ref_isRoute m hn (fun R e hl hR x n0 n8 => ⟨fun q => absurd q (by decide), fun _ => ⟨m.1.1, s_Ref_isShip m hb (fun S e2 os sb rh k0 k6 => ⟨fun _ => ?_, fun q => absurd q (by decide)⟩) (fun e2 => ⟨fun q => absurd rfl q, fun _ => K1 (Or.inr e2)⟩)⟩⟩) (fun e => ⟨fun _ => K1 (Or.inl e), fun q => absurd rfl q⟩)⟩
  rw [show (Value.int (0 : Int32)) = Value.int (ji 0) from rfl, jk99999]
  exact s_Ref_isIn ht (by omega) (by omega) (fun c => ⟨fun q => absurd q (by decide), fun _ => K0 R S e e2 hl hR x n0 n8 os sb rh k0 k6 c⟩) (fun c => ⟨fun _ => K3 R S e e2 c, fun q => absurd rfl q⟩)
theorem rf_leg {h : am_H} {s : St} {n b i : Int} {Q : Int32 → am_H → Prop} (m : rfA h s) (hn : -2147483648 ≤ n ∧ n < 2147483648) (hb : -2147483648 ≤ b ∧ b < 2147483648) (hi : -2147483648 ≤ i ∧ i < 2147483648) (k : ∀ h', fi h h' 87 146 → rfA h' (p_leg s n b i).2 → Q (ji (p_leg s n b i).1) h') : am_Ei m_Ref_leg 0 0 [.ref 87, .int (ji n), .int (ji b), .int (ji i)] h Q := by
  refine ev_Ref_leg 87 (ji n) (ji b) (ji i) h Q ⟨m.1.1, s_Ref_isRoute m hn (fun R e hl hR x n0 n8 => ⟨fun q => absurd q (by decide), fun _ => ⟨m.1.1, s_Ref_isShip m hb (fun S e2 os sb rh k0 k6 => ⟨fun q => absurd q (by decide), fun _ => ⟨m.1.1, 101, m.1.p21, by rw [m.1.t21], by rw [m.1.t21, ji_in]; omega, ?_⟩⟩) (fun e2 => ⟨fun _ => ⟨m.1.1, ?_⟩, fun q => absurd rfl q⟩)⟩⟩) (fun e => ⟨fun _ => ⟨m.1.1, ?_⟩, fun q => absurd rfl q⟩)⟩
  · rw [ji_tn, x.1, show (Value.int (0 : Int32)) = Value.int (ji 0) from rfl, jk1, ji_sub]
    have hl2 := hl.2.1
    refine s_Ref_isIn hi (by omega) (by omega) (fun c => ⟨fun _ => ⟨m.1.1, ?_⟩, fun q => absurd q (by decide)⟩) (fun c => ⟨fun q => absurd rfl q, fun _ => ⟨m.1.1, rf_no ((p_rt_some e e2).trans (cif_neg (by omega))) m fi.rf k⟩⟩)
    obtain ⟨j, rfl⟩ := Int.eq_ofNat_of_zero_le c.1
    obtain ⟨r, rfl⟩ := Int.eq_ofNat_of_zero_le n0
    obtain ⟨kk, rfl⟩ := Int.eq_ofNat_of_zero_le k0
    rw [Int.toNat_natCast] at x rh
    exact s_Ref_legOf m.1 x (by omega) hl2 hl.2.2 (fun q hq => (hR q hq).1) rh (by omega) os (by omega) ⟨m.1.1, rf_an ((p_rt_some e e2).trans (cif_pos (by omega))) m fi.rf k⟩
  · rw [jk1]
    exact rf_no (p_rt_no (Or.inr e2)) m fi.rf k
  · rw [jk1]
    exact rf_no (p_rt_no (Or.inl e)) m fi.rf k
theorem rf_arrive {h : am_H} {s : St} {n b t : Int} {Q : Int32 → am_H → Prop} (m : rfA h s) (hn : -2147483648 ≤ n ∧ n < 2147483648) (hb : -2147483648 ≤ b ∧ b < 2147483648) (ht : -2147483648 ≤ t ∧ t < 2147483648) (k : ∀ h', fi h h' 87 146 → rfA h' (p_arrive s n b t).2 → Q (ji (p_arrive s n b t).1) h') : am_Ei m_Ref_arrive 0 0 [.ref 87, .int (ji n), .int (ji b), .int (ji t)] h Q := by
  refine ev_Ref_arrive 87 (ji n) (ji b) (ji t) h Q ⟨m.1.1, s_Ref_routeWhy m hn hb ht (fun c => ⟨fun q => absurd q (by decide), fun _ => ⟨m.1.1, ?_⟩⟩) (fun R S e e2 c => ⟨fun q => absurd q (by decide), fun _ => ⟨m.1.1, ?_⟩⟩) (fun R S e e2 hl hR x n0 n8 os sb rh k0 k6 c => ⟨fun _ => ⟨m.1.1, ?_⟩, fun q => absurd (by decide) q⟩)⟩
  · rw [jk1]
    exact rf_no (p_rt_no c) m fi.rf k
  · rw [jk3]
    exact rf_no ((p_rt_some e e2).trans (cif_neg c)) m fi.rf k
  · obtain ⟨r, rfl⟩ := Int.eq_ofNat_of_zero_le n0
    obtain ⟨kk, rfl⟩ := Int.eq_ofNat_of_zero_le k0
    rw [Int.toNat_natCast] at x rh
    have hl1 := hl.1
    have hl2 := hl.2.1
    refine s_Ref_plan m x (by omega) hl hR rh (by omega) os sb c (fun h1 ps f1 hp hr => ⟨fun q => absurd q (by decide), fun _ => ?_⟩) (fun h1 f1 no => ⟨fun _ => ?_, fun q => absurd rfl q⟩)
    · have m1 := m.rk f1
      refine ⟨m1.1.1, 134, m1.1.p37, 101, m1.1.p21, by rw [m1.1.t21], by rw [m1.1.t21, ji_in]; omega, by rw [m1.1.t37], ?_⟩
      have ekr : (ji (r : Int)).toNatClampNeg = r := by rw [ji_tn, Int.toNat_natCast]
      rw [ekr, (x.rk f1).1, jk1, ji_sub]
      refine ⟨by rw [m1.1.t37, ji_in]; omega, ?_⟩
      rw [ji_tn, show ((R.length : Int) - 1).toNat = R.length - 1 by omega, (hr (R.length - 1) (by omega)).1]
      refine rf_an ((p_rt_some e e2).trans ((cif_pos c).trans ?_)) m1 f1.fi k
      rw [psG_eq (g := fun ps => ps (R.length - 1)) hp (fun a b hab => hab _ (by omega))]
    · have m1 := m.rk f1
      rw [jm1]
      refine ⟨m1.1.1, rf_an ((p_rt_some e e2).trans ((cif_pos c).trans ?_)) m1 f1.fi k⟩
      rw [psG_no no]
theorem rf_pass {h : am_H} {s : St} {n b t i : Int} {Q : Int32 → am_H → Prop} (m : rfA h s) (hn : -2147483648 ≤ n ∧ n < 2147483648) (hb : -2147483648 ≤ b ∧ b < 2147483648) (ht : -2147483648 ≤ t ∧ t < 2147483648) (hi : -2147483648 ≤ i ∧ i < 2147483648) (k : ∀ h', fi h h' 87 146 → rfA h' (p_pass s n b t i).2 → Q (ji (p_pass s n b t i).1) h') : am_Ei m_Ref_pass 0 0 [.ref 87, .int (ji n), .int (ji b), .int (ji t), .int (ji i)] h Q := by
  refine ev_Ref_pass 87 (ji n) (ji b) (ji t) (ji i) h Q ⟨m.1.1, s_Ref_isRoute m hn (fun R e hl hR x n0 n8 => ⟨fun q => absurd q (by decide), fun _ => ⟨m.1.1, 101, m.1.p21, by rw [m.1.t21], by rw [m.1.t21, ji_in]; omega, ?_⟩⟩) (fun e => ⟨fun _ => ⟨m.1.1, s_Ref_routeWhy m hn hb ht (fun c => ⟨fun q => absurd q (by decide), fun _ => ⟨m.1.1, ?_⟩⟩) (fun R S e' e2 c => by rw [e] at e'; cases e') (fun R S e' e2 hl hR x n0 n8 os sb rh k0 k6 c => by rw [e] at e'; cases e')⟩, fun q => absurd rfl q⟩)⟩
  · have hl1 := hl.1
    have hl2 := hl.2.1
    rw [ji_tn, x.1, show (Value.int (0 : Int32)) = Value.int (ji 0) from rfl, show (Value.int (ji (R.length : Int) - 1)) = Value.int (ji ((R.length : Int) - 1)) by rw [jk1, ji_sub]]
    refine s_Ref_isIn hi (by omega) (by omega) (fun ci => ⟨fun _ => ⟨m.1.1, s_Ref_routeWhy m hn hb ht (fun c => ⟨fun q => absurd q (by decide), fun _ => ⟨m.1.1, ?_⟩⟩) (fun R' S e' e2 c => ⟨fun q => absurd q (by decide), fun _ => ⟨m.1.1, ?_⟩⟩) (fun R' S e' e2 hl hR x n0 n8 os sb rh k0 k6 c => ⟨fun _ => ⟨m.1.1, ?_⟩, fun q => absurd (by decide) q⟩)⟩, fun q => absurd q (by decide)⟩) (fun ci => ⟨fun q => absurd rfl q, fun _ => ⟨m.1.1, ?_⟩⟩)
    · rw [jk1]
      exact rf_no (p_rt_no c) m fi.rf k
    · rw [e] at e'
      cases e'
      rw [jk3]
      exact rf_no ((p_rt_some e e2).trans ((cif_pos (by omega)).trans (cif_neg c))) m fi.rf k
    · rw [e] at e'
      cases e'
      obtain ⟨r, rfl⟩ := Int.eq_ofNat_of_zero_le n0
      obtain ⟨kk, rfl⟩ := Int.eq_ofNat_of_zero_le k0
      obtain ⟨j, rfl⟩ := Int.eq_ofNat_of_zero_le ci.1
      rw [Int.toNat_natCast] at x rh
      refine s_Ref_plan m x (by omega) hl hR rh (by omega) os sb c (fun h1 ps f1 hp hr => ⟨fun q => absurd q (by decide), fun _ => ?_⟩) (fun h1 f1 no => ⟨fun _ => ?_, fun q => absurd rfl q⟩)
      · have m1 := m.rk f1
        refine ⟨m1.1.1, 134, m1.1.p37, by rw [m1.1.t37], by rw [m1.1.t37, ji_in]; omega, ?_⟩
        rw [ji_tn, Int.toNat_natCast, (hr j (by omega)).1]
        refine rf_an ((p_rt_some e e2).trans ((cif_pos (by omega)).trans ((cif_pos c).trans ?_))) m1 f1.fi k
        rw [Int.toNat_natCast, psG_eq (g := fun ps => ps j) hp (fun a b hab => hab _ (by omega))]
      · have m1 := m.rk f1
        rw [jm1]
        refine ⟨m1.1.1, rf_an ((p_rt_some e e2).trans ((cif_pos (by omega)).trans ((cif_pos c).trans ?_))) m1 f1.fi k⟩
        rw [psG_no no]
    · rw [jk1]
      refine rf_no (X := p_pass s n b t i) ?_ m fi.rf k
      unfold p_pass p_rt
      rw [e]
      cases gt s.2.2.2.1 b with
      | none => rfl
      | some S => exact cif_neg (by omega)
  · rw [jk1]
    exact rf_no (p_rt_no (Or.inl e)) m fi.rf k
theorem rf_start {h : am_H} {s : St} {n b t : Int} {Q : Int32 → am_H → Prop} (m : rfA h s) (hn : -2147483648 ≤ n ∧ n < 2147483648) (hb : -2147483648 ≤ b ∧ b < 2147483648) (ht : -2147483648 ≤ t ∧ t < 2147483648) (k : ∀ h', fi h h' 87 146 → rfA h' (p_start s n b t).2 → Q (ji (p_start s n b t).1) h') : am_Ei m_Ref_start 0 0 [.ref 87, .int (ji n), .int (ji b), .int (ji t)] h Q := by
  refine ev_Ref_start 87 (ji n) (ji b) (ji t) h Q ⟨m.1.1, s_Ref_routeWhy m hn hb ht (fun c => ⟨fun q => absurd q (by decide), fun _ => ⟨m.1.1, ?_⟩⟩) (fun R S e e2 c => ⟨fun q => absurd q (by decide), fun _ => ⟨m.1.1, ?_⟩⟩) (fun R S e e2 hl hR x n0 n8 os sb rh k0 k6 c => ⟨fun _ => ⟨m.1.1, ?_⟩, fun q => absurd (by decide) q⟩)⟩
  · rw [jk1]
    exact rf_no (p_rt_no c) m fi.rf k
  · rw [jk3]
    exact rf_no ((p_rt_some e e2).trans (cif_neg c)) m fi.rf k
  · obtain ⟨r, rfl⟩ := Int.eq_ofNat_of_zero_le n0
    obtain ⟨kk, rfl⟩ := Int.eq_ofNat_of_zero_le k0
    rw [Int.toNat_natCast] at x rh
    refine s_Ref_latest m x (by omega) hl hR rh (by omega) os sb c (fun h1 f1 => ⟨(m.1.rk f1).1, ?_⟩)
    exact rf_an ((p_rt_some e e2).trans (cif_pos c)) (m.rk f1) f1.fi k
theorem rf_waits {h : am_H} {s : St} {n b t : Int} {Q : Int32 → am_H → Prop} (m : rfA h s) (hn : -2147483648 ≤ n ∧ n < 2147483648) (hb : -2147483648 ≤ b ∧ b < 2147483648) (ht : -2147483648 ≤ t ∧ t < 2147483648) (k : ∀ h', fi h h' 87 146 → rfA h' (p_waits s n b t).2 → Q (ji (p_waits s n b t).1) h') : am_Ei m_Ref_waits 0 0 [.ref 87, .int (ji n), .int (ji b), .int (ji t)] h Q := by
  refine ev_Ref_waits 87 (ji n) (ji b) (ji t) h Q ⟨m.1.1, s_Ref_routeWhy m hn hb ht (fun c => ⟨fun q => absurd q (by decide), fun _ => ⟨m.1.1, ?_⟩⟩) (fun R S e e2 c => ⟨fun q => absurd q (by decide), fun _ => ⟨m.1.1, ?_⟩⟩) (fun R S e e2 hl hR x n0 n8 os sb rh k0 k6 c => ⟨fun _ => ⟨m.1.1, ?_⟩, fun q => absurd (by decide) q⟩)⟩
  · rw [jk1]
    exact rf_no (p_rt_no c) m fi.rf k
  · rw [jk3]
    exact rf_no ((p_rt_some e e2).trans (cif_neg c)) m fi.rf k
  · obtain ⟨r, rfl⟩ := Int.eq_ofNat_of_zero_le n0
    obtain ⟨kk, rfl⟩ := Int.eq_ofNat_of_zero_le k0
    rw [Int.toNat_natCast] at x rh
    have hl1 := hl.1
    have hl2 := hl.2.1
    refine s_Ref_plan m x (by omega) hl hR rh (by omega) os sb c (fun h1 ps f1 hp hr => ⟨fun _ => ?_, fun q => absurd q (by decide)⟩) (fun h1 f1 no => ⟨fun q => absurd rfl q, fun _ => ?_⟩)
    · have m1 := m.rk f1
      have x1 := x.rk f1
      have ekr : (ji (r : Int)).toNatClampNeg = r := by rw [ji_tn, Int.toNat_natCast]
      have er := (p_rt_some (f := fun R S => cif (0 ≤ t ∧ t ≤ 99999) (ans s (psG (wyO s R S) t R.length (fun ps => ps (R.length - 1) - t - wyS (lgF R S) (R.length - 1)))) (rfs s 3)) e e2).trans (cif_pos c)
      rw [psG_eq (g := fun ps => ps (R.length - 1) - t - wyS (lgF R S) (R.length - 1)) hp (fun a b hab => by show a _ - t - _ = b _ - t - _; rw [hab _ (by omega)])] at er
      have loop : ∀ (nn i : Nat) (x4 : Int32), i + nn = R.length → 0 < i → am_EI m_Ref_waits 0 0 50 [.ref 87, .int (ji r), .int (ji kk), .int (ji t), .int x4, .int (ji (ps (i - 1) - t - wyS (lgF R S) (i - 1))), .int (ji i)] [] h1 (am_qi Q) := by
        intro nn
        induction nn with
        | zero =>
          intro i x4 hi h0
          obtain rfl : i = R.length := by omega
          refine sg_Ref_waits_50 87 _ _ _ _ _ _ h1 _ ⟨m1.1.1, 101, m1.1.p21, by rw [m1.1.t21], by rw [m1.1.t21, ji_in]; omega, ?_⟩
          rw [ekr, x1.1, ji_le]
          exact ⟨fun _ => rf_an er m1 f1.fi k, fun z => absurd (by omega) z⟩
        | succ nn ih =>
          intro i x4 hi h0
          have ekc : (ji (i : Int)).toNatClampNeg = i := by rw [ji_tn, Int.toNat_natCast]
          have e1 : ji (i : Int) - 1 = ji ((i - 1 : Nat) : Int) := by rw [jk1, ji_sub, show (i : Int) - 1 = ((i - 1 : Nat) : Int) by omega]
          have ekp : (ji ((i - 1 : Nat) : Int)).toNatClampNeg = i - 1 := by rw [ji_tn, Int.toNat_natCast]
          refine sg_Ref_waits_50 87 _ _ _ _ _ _ h1 _ ⟨m1.1.1, 101, m1.1.p21, by rw [m1.1.t21], by rw [m1.1.t21, ji_in]; omega, ?_⟩
          rw [ekr, x1.1, ji_le]
          refine ⟨fun z => absurd z (by omega), fun _ => ⟨134, m1.1.p37, by rw [m1.1.t37], by rw [m1.1.t37, ji_in]; omega, by rw [m1.1.t37, e1, ji_in]; omega, s_Ref_legOf m1.1 x1 (by omega) hl2 hl.2.2 (fun q hq => (hR q hq).1) (rh.rk f1) (by omega) os (by omega) ?_⟩⟩
          rw [ekc, e1, ekp, (hr i (by omega)).1, (hr (i - 1) (by omega)).1, ji_sub, ji_sub, ji_add, jk1, ji_add]
          have := ih (i + 1) x4 (by omega) (by omega)
          rw [show i + 1 - 1 = i by omega, show wyS (lgF R S) i = wyS (lgF R S) (i - 1) + lgF R S i from ?_] at this
          · rw [show ps (i - 1) - t - wyS (lgF R S) (i - 1) + (ps i - ps (i - 1) - lgF R S i) = ps i - t - (wyS (lgF R S) (i - 1) + lgF R S i) by omega]
            exact this
          · obtain ⟨j, rfl⟩ : ∃ j, i = j + 1 := ⟨i - 1, by omega⟩
            rfl
      refine ⟨m1.1.1, 134, m1.1.p37, by rw [m1.1.t37], by rw [m1.1.t37, jk0, ji_in]; omega, ?_⟩
      have ez : ((0 : Int32)).toNatClampNeg = 0 := by decide
      rw [ez, (hr 0 (by omega)).1, ji_sub, jk1]
      have := loop (R.length - 1) 1 0 (by omega) (by omega)
      rw [show ps (1 - 1) - t - wyS (lgF R S) (1 - 1) = ps 0 - t by show ps 0 - t - 0 = _; omega] at this
      exact this
    · have m1 := m.rk f1
      rw [jm1]
      refine ⟨m1.1.1, rf_an ((p_rt_some e e2).trans ((cif_pos c).trans ?_)) m1 f1.fi k⟩
      rw [psG_no no]
