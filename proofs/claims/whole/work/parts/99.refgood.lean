/-! the reference: good minutes -/
noncomputable def cbi (p : Prop) : Int32 := cif p 1 0
theorem cbi_1 {p : Prop} (h : p) : cbi p = 1 := cif_pos h
theorem cbi_0 {p : Prop} (h : ¬ p) : cbi p = 0 := cif_neg h
theorem cbi_z {p : Prop} : cbi p = 0 ↔ ¬ p := by
  by_cases c : p
  · rw [cbi_1 c]
    exact ⟨fun q => absurd q (by decide), fun q => absurd c q⟩
  · rw [cbi_0 c]
    exact ⟨fun _ => c, fun _ => rfl⟩
theorem cbi_b {p : Prop} : am_b01 (cbi p) := by
  by_cases c : p
  · rw [cbi_1 c]; exact b01_1
  · rw [cbi_0 c]; exact b01_0
theorem cbi_cg {p q : Prop} (h : p ↔ q) : cbi p = cbi q := by
  rw [propext h]
/-- a row of marks -/
def mkR (h : am_H) (b : Nat) (E : Int) (A : Int → Prop) : Prop := ∀ u : Nat, (u : Int) < E → am_I h b u = cbi (A u)
def gk (h h' : am_H) (b : Nat) : Prop := am_sz h' = am_sz h ∧ am_tg h' = am_tg h ∧ am_P h' = am_P h ∧ (∀ c, c ≠ 87 → c ≠ b → am_I h' c = am_I h c) ∧ ∀ k, (k < 26 ∨ 31 ≤ k) → am_I h' 87 k = am_I h 87 k
theorem gk.rf {h : am_H} {b : Nat} : gk h h b := ⟨rfl, rfl, rfl, fun _ _ _ => rfl, fun _ _ => rfl⟩
theorem gk.tr {h h1 h2 : am_H} {b : Nat} (x : gk h h1 b) (y : gk h1 h2 b) : gk h h2 b := by
  obtain ⟨a1, a2, a3, a4, a5⟩ := x
  obtain ⟨b1, b2, b3, b4, b5⟩ := y
  exact ⟨b1.trans a1, b2.trans a2, b3.trans a3, fun c p q => (b4 c p q).trans (a4 c p q), fun k hk => (b5 k hk).trans (a5 k hk)⟩
theorem gk.kw {h h' : am_H} {b lo hi : Nat} (f : kw h h' lo hi) (hl : 26 ≤ lo) (hh : hi ≤ 31) : gk h h' b := ⟨f.1, f.2.1, f.2.2.1, fun c p _ => f.2.2.2.1 c p, fun k hk => f.2.2.2.2 k (by omega)⟩
theorem gk.row {h : am_H} {b k : Nat} {v : Int32} (hb : b ≠ 87) : gk h (am_si h b k v) b := ⟨rfl, rfl, rfl, fun c p q => by rw [am_I_sin q], fun j _ => by rw [am_I_sin (Ne.symm hb)]⟩
theorem gk.rk {h h' : am_H} {b : Nat} (f : gk h h' b) (hb : 106 ≤ b ∧ b < 146) : rk h h' := ⟨f.1, f.2.1, f.2.2.1, fun c hc => f.2.2.2.1 c (by omega) (by omega), fun k hk => f.2.2.2.2 k (by omega)⟩
theorem rlA.rk {h h' : am_H} {i : Nat} {L : Nat × Sl} (r : rlA h i L) (f : rk h h') : rlA h' i L := by
  unfold rlA
  rw [f.2.2.2.1 93 (by omega), f.2.2.2.1 94 (by omega), f.2.2.2.1 95 (by omega), f.2.2.2.1 96 (by omega), f.2.2.2.1 97 (by omega)]
  exact r
theorem rhA.rk {h h' : am_H} {i : Nat} {S : Sp} (r : rhA h i S) (f : rk h h') : rhA h' i S := by
  unfold rhA
  rw [f.2.2.2.1 98 (by omega), f.2.2.2.1 99 (by omega), f.2.2.2.1 100 (by omega)]
  exact r
/-- a run of w minutes that ends ahead of c -/
def run (P : List Tn) (x c w : Int) : Prop := 0 ≤ w ∧ w ≤ c - ptM P 0 ∧ (∀ u, c - w ≤ u → u < c → onP 0 P x u) ∧ (w < c - ptM P 0 → ¬ onP 0 P x (c - w - 1))
theorem run_gd {P : List Tn} {x c w o : Int} (g : gW P) (r : run P x c w) (ho : 0 ≤ o) : o < w ↔ ∀ u, c - 1 - o ≤ u → u ≤ c - 1 → onP 0 P x u := by
  obtain ⟨r1, r2, r3, r4⟩ := r
  constructor
  · intro h u u1 u2
    exact r3 u (by omega) (by omega)
  · intro h
    by_cases q : o < w
    · exact q
    · exfalso
      have on := h (c - w - 1) (by omega) (by omega)
      by_cases e : w < c - ptM P 0
      · exact r4 e on
      · have := (on_in g on).2.1
        omega
theorem s_Ref_findGood3 {h : am_H} {b i k : Nat} {E : Int} {L : Nat × Sl} {S : Sp} {P : List Tn} {Q : am_H → Prop} (m : rfF h) (rl : rlA h i L) (hi : i < 12) (o : slO L.2) (lb : slB L.2) (rh : rhA h k S) (hk : k < 6) (os : spO S) (sb : spB S) (r : rpA h L.1 P) (g : gW P) (hp : L.1 < 8) (hb : 106 ≤ b ∧ b < 134) (tb : am_tg h b = (21, 13500)) (eE : am_I h 87 31 = ji E) (hE : ptM P ((P.length : Int) - 1) + 1 ≤ E ∧ E ≤ 13500)
    (K : ∀ h', gk h h' b → am_I h' 87 29 = ji (ptM P 0) → am_I h' 87 30 = ji (ptM P ((P.length : Int) - 1)) → mkR h' b E (gd P L.2 S) → Q h') : am_Ew m_Ref_findGood3 0 0 [.ref 87, .int (ji i), .int (ji k), .ref b] h Q := by
  have fb := g.first
  have la := g.last
  have fl : ptM P 0 ≤ ptM P ((P.length : Int) - 1) := by
    have h0 := g.1.1
    obtain ⟨t0, ht0⟩ : ∃ q, P[0]? = some q := ⟨_, List.getElem?_eq_getElem h0⟩
    obtain ⟨tl, htl⟩ : ∃ q, P[P.length - 1]? = some q := ⟨_, List.getElem?_eq_getElem (by omega)⟩
    rw [show ptM P 0 = t0.2.1 from ptM_at (i := 0) ht0, show (P.length : Int) - 1 = ((P.length - 1 : Nat) : Int) by omega, ptM_at htl]
    exact ptW_le g.1 (Nat.zero_le _) ht0 htl
  have eki : (ji (i : Int)).toNatClampNeg = i := by rw [ji_tn, Int.toNat_natCast]
  have ekk : (ji (k : Int)).toNatClampNeg = k := by rw [ji_tn, Int.toNat_natCast]
  obtain ⟨lb1, lb2, lb3, lb4⟩ := lb
  obtain ⟨sb1, sb2, sb3⟩ := sb
  have gdin : ∀ u, gd P L.2 S u → ptIn P u := fun u hu => by
    obtain ⟨sd, x, -, on⟩ := gd_on lb3.1 hu
    exact on_in g on
  have loop2 : ∀ (n t : Nat) (w : Int) (h1 : am_H), gk h h1 b → am_I h1 87 29 = ji (ptM P 0) → am_I h1 87 30 = ji (ptM P ((P.length : Int) - 1)) → (t : Int) + n = ptM P ((P.length : Int) - 1) + 1 → ptM P 0 ≤ t → (∀ u : Nat, (u : Int) < E → am_I h1 b u = cbi (u < t ∧ gd P L.2 S u)) → (L.2.1 = 2 → run P L.2.2.1 t w) → (0 ≤ w ∧ w ≤ t) → am_EI m_Ref_findGood3 0 0 68 [.ref 87, .int (ji i), .int (ji k), .ref b, .int (ji L.1), .int (ji L.2.2.1), .int (ji w), .int (ji t)] [] h1 (am_qw Q) := by
    intro n
    induction n with
    | zero =>
      intro t w h1 f1 i29 i30 ht ft inv hr hw
      have m1 := m.rk (f1.rk (by omega))
      refine sg_Ref_findGood3_68 87 b _ _ _ _ _ _ h1 _ ⟨m1.1, ?_⟩
      rw [i30, ji_lt]
      refine ⟨fun _ => K h1 f1 i29 i30 (fun u hu => ?_), fun c => absurd (by omega) c⟩
      rw [inv u hu]
      refine cbi_cg ⟨fun q => q.2, fun q => ⟨?_, q⟩⟩
      have := (gdin _ q).2.2
      omega
    | succ n ih =>
      intro t w h1 f1 i29 i30 ht ft inv hr hw
      have r1 := f1.rk (by omega : 106 ≤ b ∧ b < 146)
      have m1 := m.rk r1
      have rl1 := rl.rk r1
      have rh1 := rh.rk r1
      have rp1 := r.rk r1
      have inn : ptIn P t := ⟨g.1.1, ft, by omega⟩
      have ekt : (ji (t : Int)).toNatClampNeg = t := by rw [ji_tn, Int.toNat_natCast]
      have tb2 : ∀ {h2}, kw h1 h2 26 28 → am_tg h2 b = (21, 13500) := fun f2 => by rw [f2.2.1, f1.2.1]; exact tb
      have st : ∀ (h2 : am_H) (v x6 : Int32) (w' : Int), kw h1 h2 26 28 → v = cbi (gd P L.2 S t) → x6 = ji w' → (L.2.1 = 2 → run P L.2.2.1 ((t : Int) + 1) w') → (0 ≤ w' ∧ w' ≤ t + 1) → (am_tg h2 b).1 = 21 ∧ vp_in (ji (t : Int)) (am_tg h2 b).2 ∧ am_EI m_Ref_findGood3 0 0 68 [.ref 87, .int (ji i), .int (ji k), .ref b, .int (ji L.1), .int (ji L.2.2.1), .int x6, .int (ji t + 1)] [] (am_si h2 b (ji (t : Int)).toNatClampNeg v) (am_qw Q) := by
        intro h2 v x6 w' f2 hv hx6 hr' hw'
        refine ⟨by rw [tb2 f2], by rw [tb2 f2, ji_in]; omega, ?_⟩
        rw [ekt, jk1, ji_add, hx6]
        have f3 : gk h (am_si h2 b t v) b := (f1.tr (gk.kw f2 (by omega) (by omega))).tr (gk.row (by omega))
        refine ih (t + 1) w' _ f3 ?_ ?_ (by omega) (by omega) (fun u hu => ?_) hr' (by omega)
        · rw [am_I_sin (by omega), f2.2.2.2.2 29 (by omega)]
          exact i29
        · rw [am_I_sin (by omega), f2.2.2.2.2 30 (by omega)]
          exact i30
        · rw [am_I_sis]
          by_cases cu : u = t
          · subst cu
            rw [va_up_at, hv]
            exact cbi_cg ⟨fun q => ⟨by omega, q⟩, fun q => q.2⟩
          · rw [va_up_no _ _ cu, f2.2.2.2.1 b (by omega), inv u hu]
            exact cbi_cg ⟨fun q => ⟨by omega, q.2⟩, fun q => ⟨by omega, q.2⟩⟩
      have e0 : (ji L.2.1 = 0) ↔ L.2.1 = 0 := by rw [jk0, ji_eq]
      have e1 : (ji L.2.1 = 1) ↔ L.2.1 = 1 := by rw [jk1, ji_eq]
      have e2 : (ji L.2.1 = 2) ↔ L.2.1 = 2 := by rw [jk2, ji_eq]
      have os1 := os.1
      refine sg_Ref_findGood3_68 87 b _ _ _ _ _ _ h1 _ ⟨m1.1, ?_⟩
      rw [i30, ji_lt]
      refine ⟨fun c => absurd c (by omega), fun _ => ⟨94, m1.p12, by rw [m1.t12], by rw [m1.t12, ji_in]; omega, ?_⟩⟩
      rw [eki, rl1.2.1, e0, e1, e2]
      refine ⟨fun c0 => ⟨98, m1.p17, by rw [m1.t17], by rw [m1.t17, ji_in]; omega, ?_⟩, fun c1 => ⟨98, m1.p17, by rw [m1.t17], by rw [m1.t17, ji_in]; omega, ?_⟩, fun c2 => ?_, fun n0 n1 n2 => ⟨99, m1.p18, by rw [m1.t18], by rw [m1.t18, ji_in]; omega, ?_⟩⟩
      · have o1 := o.2.1 (by omega)
        rw [ekk, rh1.1, ji_add]
        have gi : gd P L.2 S t ↔ onP 0 P (L.2.2.1 + S.1) t := by
          unfold gd
          rw [if_pos c0]
        refine s_Ref_isAt m1 rp1 g hp inn (by omega) (fun on h2 f2 => ?_) (fun on h2 f2 => ?_)
        · have := st h2 1 (ji w) w f2 (cbi_1 (gi.mpr on)).symm rfl (fun q => absurd q (by omega)) (by omega)
          exact ⟨this.1, this.2.1, b01_1, this.2.2⟩
        · have := st h2 0 (ji w) w f2 (cbi_0 (fun q => on (gi.mp q))).symm rfl (fun q => absurd q (by omega)) (by omega)
          exact ⟨this.1, this.2.1, b01_0, this.2.2⟩
      · have o1 := o.2.1 (by omega)
        rw [ekk, rh1.1, ji_add]
        have gi : gd P L.2 S t ↔ onP 0 P (L.2.2.1 + S.1) t ∧ nearH P L.2.2.2.1 L.2.2.2.2 t := by
          unfold gd
          rw [if_neg (by omega), if_pos c1]
        refine s_Ref_isAt m1 rp1 g hp inn (by omega) (fun on h2 f2 => ⟨fun q => absurd q (by decide), fun _ => ?_⟩) (fun on h2 f2 => ⟨fun _ => ?_, fun q => absurd rfl q⟩)
        · have m2 := m1.kw f2
          have rl2 := rl1.rk (f2.rk (by omega))
          refine ⟨m2.1, 96, m2.p14, by rw [m2.t14], by rw [m2.t14, ji_in]; omega, 97, m2.p15, by rw [m2.t15], by rw [m2.t15, ji_in]; omega, ?_⟩
          rw [rl2.2.2.2.1, rl2.2.2.2.2]
          refine s_Ref_isNearHigh m2 (rp1.kw f2) g hp (by omega) (by omega) (by omega) (fun c => ⟨fun q => absurd q (by decide), fun _ => ?_⟩) (fun c => ⟨fun _ => ?_, fun q => absurd rfl q⟩)
          · exact st h2 1 (ji w) w f2 (cbi_1 (gi.mpr ⟨on, c⟩)).symm rfl (fun q => absurd q (by omega)) (by omega)
          · exact st h2 0 (ji w) w f2 (cbi_0 (fun q => c (gi.mp q).2)).symm rfl (fun q => absurd q (by omega)) (by omega)
        · exact st h2 0 (ji w) w f2 (cbi_0 (fun q => on (gi.mp q).1)).symm rfl (fun q => absurd q (by omega)) (by omega)
      · have o1 := o.2.1 (by omega)
        have rn := hr c2
        have gi : gd P L.2 S t ↔ S.1 ≤ L.2.2.2.2 ∧ ∀ u, (t : Int) - L.2.2.2.1 ≤ u → u ≤ t → onP 0 P L.2.2.1 u := by
          unfold gd
          rw [if_neg (by omega), if_neg (by omega), if_pos c2]
        refine s_Ref_isAt m1 rp1 g hp inn (by omega) (fun on h2 f2 => ⟨fun q => absurd q (by decide), fun _ => ?_⟩) (fun on h2 f2 => ⟨fun _ => ?_, fun q => absurd rfl q⟩)
        · have m2 := m1.kw f2
          have rl2 := rl1.rk (f2.rk (by omega))
          have rh2 := rh1.rk (f2.rk (by omega))
          have rn2 : run P L.2.2.1 ((t : Int) + 1) (w + 1) := by
            obtain ⟨a1, a2, a3, a4⟩ := rn
            refine ⟨by omega, by omega, fun u u1 u2 => ?_, fun q => ?_⟩
            · by_cases cu : u = t
              · rw [cu]; exact on
              · exact a3 u (by omega) (by omega)
            · rw [show (t : Int) + 1 - (w + 1) - 1 = t - w - 1 by omega]
              exact a4 (by omega)
          have rg := run_gd (o := L.2.2.2.1) g rn2 (by omega)
          rw [show (t : Int) + 1 - 1 = t by omega] at rg
          refine ⟨m2.1, 96, m2.p14, by rw [m2.t14], by rw [m2.t14, ji_in]; omega, ?_⟩
          have e3 : ji w + 1 = ji (w + 1) := by rw [jk1, ji_add]
          rw [rl2.2.2.2.1, e3, ji_le]
          refine ⟨fun c => ?_, fun c => ⟨98, m2.p17, by rw [m2.t17], by rw [m2.t17, ji_in]; omega, 97, m2.p15, by rw [m2.t15], by rw [m2.t15, ji_in]; omega, ?_⟩⟩
          · exact st h2 0 _ (w + 1) f2 (cbi_0 (fun q => by have := rg.mpr (gi.mp q).2; omega)).symm rfl (fun _ => rn2) (by omega)
          · rw [ekk, rh2.1, rl2.2.2.2.2, ji_lt]
            refine ⟨fun c3 => ?_, fun c3 => ?_⟩
            · exact st h2 0 _ (w + 1) f2 (cbi_0 (fun q => by have := (gi.mp q).1; omega)).symm rfl (fun _ => rn2) (by omega)
            · exact st h2 1 _ (w + 1) f2 (cbi_1 (gi.mpr ⟨by omega, rg.mp (by omega)⟩)).symm rfl (fun _ => rn2) (by omega)
        · have m2 := m1.kw f2
          have rl2 := rl1.rk (f2.rk (by omega))
          refine ⟨m2.1, 96, m2.p14, by rw [m2.t14], by rw [m2.t14, ji_in]; omega, ?_⟩
          have e3 : (0 ≤ ji L.2.2.2.1) ↔ 0 ≤ L.2.2.2.1 := by rw [jk0, ji_le]
          rw [rl2.2.2.2.1, e3]
          refine ⟨fun c => ?_, fun c => absurd lb3.1 c⟩
          refine st h2 0 0 0 f2 (cbi_0 (fun q => on ((gi.mp q).2 t (by omega) (by omega)))).symm rfl (fun _ => ⟨by omega, by omega, fun u u1 u2 => absurd u1 (by omega), fun _ => ?_⟩) (by omega)
          rw [show (t : Int) + 1 - 0 - 1 = t by omega]
          exact on
      · have o1 := o.1 (by omega)
        rw [ekk, rh1.2.1, ji_sub]
        have gi : gd P L.2 S t ↔ onP 2 P (L.2.2.1 - S.2.1) t := by
          unfold gd
          rw [if_neg n0, if_neg n1, if_neg n2]
        refine s_Ref_isUnder m1 rp1 g hp inn (by omega) (fun on h2 f2 => ?_) (fun on h2 f2 => ?_)
        · have := st h2 1 (ji w) w f2 (cbi_1 (gi.mpr on)).symm rfl (fun q => absurd q (by omega)) (by omega)
          exact ⟨this.1, this.2.1, b01_1, this.2.2⟩
        · have := st h2 0 (ji w) w f2 (cbi_0 (fun q => on (gi.mp q))).symm rfl (fun q => absurd q (by omega)) (by omega)
          exact ⟨this.1, this.2.1, b01_0, this.2.2⟩
  have loop1 : ∀ (n t : Nat) (h1 : am_H), gk h h1 b → am_I h1 87 29 = ji (ptM P 0) → am_I h1 87 30 = ji (ptM P ((P.length : Int) - 1)) → am_I h1 87 31 = ji E → (t : Int) + n = E → (∀ u : Nat, u < t → am_I h1 b u = 0) → am_EI m_Ref_findGood3 0 0 39 [.ref 87, .int (ji i), .int (ji k), .ref b, .int (ji L.1), .int (ji L.2.2.1), .int (ji t), .float 0] [] h1 (am_qw Q) := by
    intro n
    induction n with
    | zero =>
      intro t h1 f1 i29 i30 i31 ht inv
      have m1 := m.rk (f1.rk (by omega))
      refine sg_Ref_findGood3_39 87 b _ _ _ _ _ h1 _ ⟨m1.1, ?_⟩
      rw [i31, ji_le, i29]
      refine ⟨fun _ => ?_, fun c => absurd (by omega) c⟩
      obtain ⟨f, hf⟩ := Int.eq_ofNat_of_zero_le fb.1
      rw [hf]
      rw [jk0]
      refine loop2 (ptM P ((P.length : Int) - 1) + 1 - ptM P 0).toNat f 0 h1 f1 i29 i30 (by omega) (by omega) (fun u hu => ?_) (fun _ => ⟨by omega, by omega, fun u u1 u2 => absurd u1 (by omega), fun q => absurd q (by omega)⟩) (by omega)
      rw [inv u (by omega)]
      refine (cbi_0 (fun q => ?_)).symm
      have := (gdin _ q.2).2.1
      omega
    | succ n ih =>
      intro t h1 f1 i29 i30 i31 ht inv
      have m1 := m.rk (f1.rk (by omega))
      have ekt : (ji (t : Int)).toNatClampNeg = t := by rw [ji_tn, Int.toNat_natCast]
      refine sg_Ref_findGood3_39 87 b _ _ _ _ _ h1 _ ⟨m1.1, ?_⟩
      rw [i31, ji_le]
      refine ⟨fun c => absurd c (by omega), fun _ => ⟨by rw [f1.2.1, tb], by rw [f1.2.1, tb, ji_in]; omega, ?_⟩⟩
      rw [ekt, jk1, ji_add]
      refine ih (t + 1) _ (f1.tr (gk.row (by omega))) (by rw [am_I_sin (by omega)]; exact i29) (by rw [am_I_sin (by omega)]; exact i30) (by rw [am_I_sin (by omega)]; exact i31) (by omega) (fun u hu => ?_)
      rw [am_I_sis]
      by_cases cu : u = t
      · subst cu
        rw [va_up_at]
      · rw [va_up_no _ _ cu]
        exact inv u (by omega)
  refine ev_Ref_findGood3 87 b (ji i) (ji k) h Q ⟨m.1, 93, m.p11, by rw [m.t11], by rw [m.t11, ji_in]; omega, 95, m.p13, by rw [m.t13], by rw [m.t13, ji_in]; omega, ?_⟩
  rw [eki, rl.1, rl.2.2.1]
  refine s_Ref_firstOf m r g hp ⟨m.1, ?_⟩
  have f1 : kw h (am_si h 87 29 (ji (ptM P 0))) 29 31 := kw.si (by omega)
  refine s_Ref_lastOf (m.kw f1) (r.kw f1) g hp ⟨(m.kw f1).1, ?_⟩
  have f2 : kw (am_si h 87 29 (ji (ptM P 0))) (am_si (am_si h 87 29 (ji (ptM P 0))) 87 30 (ji (ptM P ((P.length : Int) - 1)))) 29 31 := kw.si (by omega)
  rw [jk0]
  refine loop1 E.toNat 0 _ (gk.kw (f1.tr f2) (by omega) (by omega)) ?_ ?_ ?_ (by omega) (fun u hu => absurd hu (by omega))
  · rw [am_I_sis, va_up_no _ _ (by decide), am_I_sis, va_up_at]
  · rw [am_I_sis, va_up_at]
  · rw [am_I_sis, va_up_no _ _ (by decide), am_I_sis, va_up_no _ _ (by decide)]
    exact eE
