/-! sills and ships are told -/
def stL (s : St) (L : Nat × Sl) : St := (s.1, s.2.1, s.2.2.1 ++ [L], s.2.2.2.1, s.2.2.2.2.1, s.2.2.2.2.2.1, s.2.2.2.2.2.2.1, s.2.2.2.2.2.2.2)
def stH (s : St) (S : Sp) : St := (s.1, s.2.1, s.2.2.1, s.2.2.2.1 ++ [S], s.2.2.2.2.1, s.2.2.2.2.2.1, s.2.2.2.2.2.2.1, s.2.2.2.2.2.2.2)
def stRt (s : St) (R : List RtStop) : St := (s.1, s.2.1, s.2.2.1, s.2.2.2.1, s.2.2.2.2.1 ++ [R], s.2.2.2.2.2.1, s.2.2.2.2.2.2.1, s.2.2.2.2.2.2.2)
theorem mnB.addL {h : am_H} {s : St} {z x : Nat} {c : Nat} {L : Nat × Sl} (m : mnB h s z) (sl : slA h x c L.2) (o : slO L.2) (pp : am_P h 19 L.1 = some c) (hp : L.1 < s.2.1.length) (hx : x + 1 ≤ z) (h1 : 146 ≤ x) (hl : s.2.2.1.length < 12) : mnB (am_si (am_sp h 20 s.2.2.1.length (some x)) 0 12 (ji (s.2.2.1.length + 1))) (stL s L) z := by
  have e : ∀ lo hi, (0 < lo) → (hi ≤ 20 ∨ 20 < lo) → es h (am_si (am_sp h 20 s.2.2.1.length (some x)) 0 12 (ji (s.2.2.1.length + 1))) lo hi := fun lo hi a b => (es.sp (by omega)).tr (es.si (by omega))
  obtain ⟨mF, mX, mT, mC, mP, mL, mH, mR, mS, mZ⟩ := m
  have pc : am_P (am_si (am_sp h 20 s.2.2.1.length (some x)) 0 12 (ji (s.2.2.1.length + 1))) 20 = va_up (am_P h 20) s.2.2.1.length (some x) := by rw [am_P_si, am_P_sps]
  have pn : ∀ b, b ≠ 20 → am_P (am_si (am_sp h 20 s.2.2.1.length (some x)) 0 12 (ji (s.2.2.1.length + 1))) b = am_P h b := fun b hb => by rw [am_P_si, am_P_spn hb]
  have i0 : am_I (am_si (am_sp h 20 s.2.2.1.length (some x)) 0 12 (ji (s.2.2.1.length + 1))) 0 = va_up (am_I h 0) 12 (ji (s.2.2.1.length + 1)) := by rw [am_I_sis, am_I_sp]
  refine ⟨?_, mX.es (e _ _ (by omega) (by omega)) (e _ _ (by omega) (by omega)), mT.es (e _ _ (by omega) (by omega)), ?_, ?_, ?_, ?_, ?_, ?_, mZ⟩
  · unfold mnF
    rw [pn 0 (by omega)]
    exact mF
  · unfold mnC
    rw [i0]
    rw [va_up_no _ _ (by decide), va_up_at, va_up_no _ _ (by decide), va_up_no _ _ (by decide)]
    exact ⟨mC.1, ⟨by simp [stL], by simp [stL]; omega⟩, mC.2.2.1, mC.2.2.2⟩
  · intro i P hP
    obtain ⟨g, c, a1, a2, a3, a4⟩ := mP i P hP
    exact ⟨g, c, by rw [pn 19 (by omega)]; exact a1, a2.es (e _ _ (by omega) (by omega)), a3, a4⟩
  · intro i L' hL
    rcases get_snoc hL with hL | ⟨rfl, rfl⟩
    · have hi := (List.getElem?_eq_some_iff.mp hL).1
      obtain ⟨g, g2, x', c', a1, a2, a3, a4, a5⟩ := mL i L' hL
      exact ⟨g, g2, x', c', by rw [pc, va_up_no _ _ (by omega)]; exact a1, by rw [pn 19 (by omega)]; exact a2, a3.es (e _ _ (by omega) (by omega)), a4, a5⟩
    · exact ⟨o, hp, x, c, by rw [pc, va_up_at], by rw [pn 19 (by omega)]; exact pp, sl.es (e _ _ (by omega) (by omega)), h1, hx⟩
  · intro i S hS
    obtain ⟨g, x, a1, a2, a3, a4⟩ := mH i S hS
    exact ⟨g, x, by rw [pn 21 (by omega)]; exact a1, a2.es (e _ _ (by omega) (by omega)), a3, a4⟩
  · intro i R hR
    obtain ⟨g, b, a1, a2, a3, a4, a5⟩ := mR i R hR
    refine ⟨g, b, by rw [pn 22 (by omega)]; exact a1, a2.es (e _ _ (by omega) (by omega)), a3, a4, fun j q hq => ?_⟩
    obtain ⟨b1, b2, b3⟩ := a5 j q hq
    have q0 := (a2.row hq).2.2.2.2.2.1
    refine ⟨by simp [stL]; omega, b2, ?_⟩
    rw [pn (b + 1) (by omega), pc, va_up_no _ _ (by omega)]
    exact b3
  · unfold mnS
    rw [i0, va_up_no _ _ (by decide), va_up_no _ _ (by decide), va_up_no _ _ (by decide)]
    exact mS
theorem mnB.addH {h : am_H} {s : St} {z x : Nat} {S : Sp} (m : mnB h s z) (sh : hpA h x S) (o : spO S) (hx : x + 1 ≤ z) (h1 : 146 ≤ x) (hl : s.2.2.2.1.length < 6) : mnB (am_si (am_sp h 21 s.2.2.2.1.length (some x)) 0 13 (ji (s.2.2.2.1.length + 1))) (stH s S) z := by
  have e : ∀ lo hi, (0 < lo) → (hi ≤ 21 ∨ 21 < lo) → es h (am_si (am_sp h 21 s.2.2.2.1.length (some x)) 0 13 (ji (s.2.2.2.1.length + 1))) lo hi := fun lo hi a b => (es.sp (by omega)).tr (es.si (by omega))
  obtain ⟨mF, mX, mT, mC, mP, mL, mH, mR, mS, mZ⟩ := m
  have pc : am_P (am_si (am_sp h 21 s.2.2.2.1.length (some x)) 0 13 (ji (s.2.2.2.1.length + 1))) 21 = va_up (am_P h 21) s.2.2.2.1.length (some x) := by rw [am_P_si, am_P_sps]
  have pn : ∀ b, b ≠ 21 → am_P (am_si (am_sp h 21 s.2.2.2.1.length (some x)) 0 13 (ji (s.2.2.2.1.length + 1))) b = am_P h b := fun b hb => by rw [am_P_si, am_P_spn hb]
  have i0 : am_I (am_si (am_sp h 21 s.2.2.2.1.length (some x)) 0 13 (ji (s.2.2.2.1.length + 1))) 0 = va_up (am_I h 0) 13 (ji (s.2.2.2.1.length + 1)) := by rw [am_I_sis, am_I_sp]
  refine ⟨?_, mX.es (e _ _ (by omega) (by omega)) (e _ _ (by omega) (by omega)), mT.es (e _ _ (by omega) (by omega)), ?_, ?_, ?_, ?_, ?_, ?_, mZ⟩
  · unfold mnF
    rw [pn 0 (by omega)]
    exact mF
  · unfold mnC
    rw [i0]
    rw [va_up_no _ _ (by decide), va_up_no _ _ (by decide), va_up_at, va_up_no _ _ (by decide)]
    exact ⟨mC.1, mC.2.1, ⟨by simp [stH], by simp [stH]; omega⟩, mC.2.2.2⟩
  · intro i P hP
    obtain ⟨g, c, a1, a2, a3, a4⟩ := mP i P hP
    exact ⟨g, c, by rw [pn 19 (by omega)]; exact a1, a2.es (e _ _ (by omega) (by omega)), a3, a4⟩
  · intro i L hL
    obtain ⟨g, g2, x, c, a1, a2, a3, a4, a5⟩ := mL i L hL
    exact ⟨g, g2, x, c, by rw [pn 20 (by omega)]; exact a1, by rw [pn 19 (by omega)]; exact a2, a3.es (e _ _ (by omega) (by omega)), a4, a5⟩
  · intro i S' hS
    rcases get_snoc hS with hS | ⟨rfl, rfl⟩
    · have hi := (List.getElem?_eq_some_iff.mp hS).1
      obtain ⟨g, x', a1, a2, a3, a4⟩ := mH i S' hS
      exact ⟨g, x', by rw [pc, va_up_no _ _ (by omega)]; exact a1, a2.es (e _ _ (by omega) (by omega)), a3, a4⟩
    · exact ⟨o, x, by rw [pc, va_up_at], sh.es (e _ _ (by omega) (by omega)), h1, hx⟩
  · intro i R hR
    obtain ⟨g, b, a1, a2, a3, a4, a5⟩ := mR i R hR
    refine ⟨g, b, by rw [pn 22 (by omega)]; exact a1, a2.es (e _ _ (by omega) (by omega)), a3, a4, ?_⟩
    rw [pn (b + 1) (by omega), pn 20 (by omega)]
    exact a5
  · unfold mnS
    rw [i0, va_up_no _ _ (by decide), va_up_no _ _ (by decide), va_up_no _ _ (by decide)]
    exact mS
theorem mnB.addR {h : am_H} {s : St} {z x : Nat} {R : List RtStop} (m : mnB h s z) (rt : rtA h x 8 R) (h0 : 0 < R.length) (ha : ∀ (j : Nat) (q : RtStop), R[j]? = some q → q.2.1 < s.2.2.1.length ∧ (-500 ≤ q.2.2.2 ∧ q.2.2.2 ≤ 1500) ∧ am_P h (x + 1) j = am_P h 20 q.2.1.toNat) (hx : x + 6 ≤ z) (h1 : 146 ≤ x) (hl : s.2.2.2.2.1.length < 8) : mnB (am_si (am_sp h 22 s.2.2.2.2.1.length (some x)) 0 14 (ji (s.2.2.2.2.1.length + 1))) (stRt s R) z := by
  have e : ∀ lo hi, (0 < lo) → (hi ≤ 22 ∨ 22 < lo) → es h (am_si (am_sp h 22 s.2.2.2.2.1.length (some x)) 0 14 (ji (s.2.2.2.2.1.length + 1))) lo hi := fun lo hi a b => (es.sp (by omega)).tr (es.si (by omega))
  obtain ⟨mF, mX, mT, mC, mP, mL, mH, mR, mS, mZ⟩ := m
  have pc : am_P (am_si (am_sp h 22 s.2.2.2.2.1.length (some x)) 0 14 (ji (s.2.2.2.2.1.length + 1))) 22 = va_up (am_P h 22) s.2.2.2.2.1.length (some x) := by rw [am_P_si, am_P_sps]
  have pn : ∀ b, b ≠ 22 → am_P (am_si (am_sp h 22 s.2.2.2.2.1.length (some x)) 0 14 (ji (s.2.2.2.2.1.length + 1))) b = am_P h b := fun b hb => by rw [am_P_si, am_P_spn hb]
  have i0 : am_I (am_si (am_sp h 22 s.2.2.2.2.1.length (some x)) 0 14 (ji (s.2.2.2.2.1.length + 1))) 0 = va_up (am_I h 0) 14 (ji (s.2.2.2.2.1.length + 1)) := by rw [am_I_sis, am_I_sp]
  refine ⟨?_, mX.es (e _ _ (by omega) (by omega)) (e _ _ (by omega) (by omega)), mT.es (e _ _ (by omega) (by omega)), ?_, ?_, ?_, ?_, ?_, ?_, mZ⟩
  · unfold mnF
    rw [pn 0 (by omega)]
    exact mF
  · unfold mnC
    rw [i0]
    rw [va_up_no _ _ (by decide), va_up_no _ _ (by decide), va_up_no _ _ (by decide), va_up_at]
    exact ⟨mC.1, mC.2.1, mC.2.2.1, ⟨by simp [stRt], by simp [stRt]; omega⟩⟩
  · intro i P hP
    obtain ⟨g, c, a1, a2, a3, a4⟩ := mP i P hP
    exact ⟨g, c, by rw [pn 19 (by omega)]; exact a1, a2.es (e _ _ (by omega) (by omega)), a3, a4⟩
  · intro i L hL
    obtain ⟨g, g2, x, c, a1, a2, a3, a4, a5⟩ := mL i L hL
    exact ⟨g, g2, x, c, by rw [pn 20 (by omega)]; exact a1, by rw [pn 19 (by omega)]; exact a2, a3.es (e _ _ (by omega) (by omega)), a4, a5⟩
  · intro i S hS
    obtain ⟨g, x, a1, a2, a3, a4⟩ := mH i S hS
    exact ⟨g, x, by rw [pn 21 (by omega)]; exact a1, a2.es (e _ _ (by omega) (by omega)), a3, a4⟩
  · intro i R' hR
    rcases get_snoc hR with hR | ⟨rfl, rfl⟩
    · have hi := (List.getElem?_eq_some_iff.mp hR).1
      obtain ⟨g, b, a1, a2, a3, a4, a5⟩ := mR i R' hR
      refine ⟨g, b, by rw [pc, va_up_no _ _ (by omega)]; exact a1, a2.es (e _ _ (by omega) (by omega)), a3, a4, ?_⟩
      rw [pn (b + 1) (by omega), pn 20 (by omega)]
      exact a5
    · refine ⟨h0, x, by rw [pc, va_up_at], rt.es (e _ _ (by omega) (by omega)), h1, hx, ?_⟩
      rw [pn (x + 1) (by omega), pn 20 (by omega)]
      exact ha
  · unfold mnS
    rw [i0, va_up_no _ _ (by decide), va_up_no _ _ (by decide), va_up_no _ _ (by decide)]
    exact mS
noncomputable def kpL (s : St) (p : Nat) (L : Sl) : Int × St := cif (slO L) (cif (s.2.2.1.length < 12) ((s.2.2.1.length : Int), stS (stL (stF s 0) (p, L)) 0) (rfs (stF s 0) 9)) (rfs (stF s 8) 4)
noncomputable def p_sill (s : St) (n : Int) : Int × St := match gt s.2.1 n with | some _ => rdP s (slR s.1 (sk s.1 0, true)).2 (fun s' => kpL s' n.toNat (slR s.1 (sk s.1 0, true)).1) | none => unr s
noncomputable def kpH (s : St) (S : Sp) : Int × St := cif (spO S) (cif (s.2.2.2.1.length < 6) ((s.2.2.2.1.length : Int), stS (stH (stF s 0) S) 0) (rfs (stF s 0) 9)) (rfs (stF s 9) 4)
noncomputable def p_ship (s : St) : Int × St := rdP s (spE' s.1 (sk s.1 0, true)) (fun s' => kpH s' (spV s.1 (sk s.1 0, true)))
/-- the tape's reading and a new cell have changed -/
theorem mnB.cell {h h' : am_H} {s : St} {z : Nat} (m : mnB h s z) (f : fr h h' 1 z (z + 1)) (t : tpT h' 1 s.1) : mnB h' s z := by
  have mz := m.2.2.2.2.2.2.2.2.2
  exact mnB.gen m (by rw [f.1]; omega) (f.es (by omega) (by omega)) (f.es (by omega) (by omega)) (f.es (by omega) (by omega)) (m.2.1.es (f.es (by omega) (by omega)) (f.es (by omega) (by omega))) t
theorem sl_fin {h h0 : am_H} {s : St} {x : Nat} {c p : Nat} {L : Sl} {f : Int} {X : Int × St} {Q : Int32 → am_H → Prop} (m : mnB h s x) (f0 : fc h0 h) (hz : am_sz h0 ≤ x) (hz2 : x + 1 ≤ am_sz h) (sl : slA h x c L) (pp : am_P h 19 p = some c) (hp : p < s.2.1.length) (hf : f = 0 ∨ f = 8) (hf0 : f = 0 ↔ slO L) (e : X = kpL s p L) (k : ∀ h', fc h0 h' → mnA h' X.2 → Q (ji X.1) h') : (am_tg h 0 = (11, 18) ∧ ((12 ≤ (am_I h 0 12) → (am_Ei m_Main_judge 0 0 [.ref 0, .int (ji f), .int 0] h (fun r30 h29 => ((r30 = 0 → (am_tg h29 0 = (11, 18) ∧ (∃ b32, am_P h29 0 4 = some b32 ∧ (am_tg h29 x = (7, (am_tg h29 x).2) ∧ ((am_tg h29 b32).1 = 30 + 7 ∧ (vp_in (am_I h29 0 12) (am_tg h29 b32).2 ∧ (am_Ei m_Main_answer 0 0 [.ref 0, .int ((am_I (am_si (am_sp h29 b32 ((am_I h29 0 12).toNatClampNeg) (some x)) 0 12 ((am_I h29 0 12) + 1)) 0 12) - 1)] (am_si (am_sp h29 b32 ((am_I h29 0 12).toNatClampNeg) (some x)) 0 12 ((am_I h29 0 12) + 1)) (fun r39 h38 => Q r39 h38)))))))) ∧ (¬ r30 = 0 → (am_tg h29 0 = (11, 18) ∧ (am_Ei m_Main_refuse 0 0 [.ref 0, .int r30] h29 (fun r42 h41 => Q r42 h41)))))))) ∧ (¬ 12 ≤ (am_I h 0 12) → (am_Ei m_Main_judge 0 0 [.ref 0, .int (ji f), .int 1] h (fun r44 h43 => ((r44 = 0 → (am_tg h43 0 = (11, 18) ∧ (∃ b46, am_P h43 0 4 = some b46 ∧ (am_tg h43 x = (7, (am_tg h43 x).2) ∧ ((am_tg h43 b46).1 = 30 + 7 ∧ (vp_in (am_I h43 0 12) (am_tg h43 b46).2 ∧ (am_Ei m_Main_answer 0 0 [.ref 0, .int ((am_I (am_si (am_sp h43 b46 ((am_I h43 0 12).toNatClampNeg) (some x)) 0 12 ((am_I h43 0 12) + 1)) 0 12) - 1)] (am_si (am_sp h43 b46 ((am_I h43 0 12).toNatClampNeg) (some x)) 0 12 ((am_I h43 0 12) + 1)) (fun r53 h52 => Q r53 h52)))))))) ∧ (¬ r44 = 0 → (am_tg h43 0 = (11, 18) ∧ (am_Ei m_Main_refuse 0 0 [.ref 0, .int r44] h43 (fun r56 h55 => Q r56 h55)))))))))) := by
  have cc := m.2.2.2.1.2.1
  have mz := m.2.2.2.2.2.2.2.2.2
  have no : ∀ (r : Bool) (h1 : am_H), fi h h1 0 1 → mnA h1 (stF s f) → (f = 0 → r = false) → (f = 0 → ¬ s.2.2.1.length < 12) → (ji (if f = 0 then (if r then 0 else 9) else 4) ≠ 0) ∧ (am_Ei m_Main_refuse 0 0 [.ref 0, .int (ji (if f = 0 then (if r then 0 else 9) else 4))] h1 (fun r27 h26 => Q r27 h26)) := by
    intro r h1 f1 m1 hr hb
    by_cases c : f = 0
    · rw [if_pos c, hr c]
      refine ⟨by decide, mn_rf (X := X) ?_ m1 (f0.fi f1 (by omega)) k⟩
      rw [e]
      exact (cif_pos (hf0.mp c)).trans ((cif_neg (hb c)).trans (by rw [c]; rfl))
    · rw [if_neg c]
      refine ⟨by decide, mn_rf (X := X) ?_ m1 (f0.fi f1 (by omega)) k⟩
      rw [e]
      exact (cif_neg (fun q => c (hf0.mpr q))).trans (by rw [show f = 8 by omega])
  rw [cc.1, jk12, ji_le]
  refine ⟨m.1.1, fun c8 => ?_, fun c8 => ?_⟩
  · refine s_Main_judge m (by omega) (r := false) (by decide) (fun h1 f1 m1 => ?_)
    have n := no false h1 f1 m1.A (fun _ => rfl) (fun _ q => by omega)
    exact ⟨fun q => absurd q n.1, fun _ => ⟨m1.1.1, n.2⟩⟩
  · refine s_Main_judge m (by omega) (r := true) (by decide) (fun h1 f1 m1 => ⟨fun q => ?_, fun q => ⟨m1.1.1, ?_⟩⟩)
    · have c : f = 0 := by
        by_cases c : f = 0
        · exact c
        · rw [if_neg c] at q
          exact absurd q (by decide)
      have ek : X = ((s.2.2.1.length : Int), stS (stL (stF s 0) (p, L)) 0) := by
        rw [e]
        exact (cif_pos (hf0.mp c)).trans (cif_pos (by omega))
      rw [c] at m1
      have z1 : am_sz h1 = am_sz h := f1.1
      have c1 := m1.2.2.2.1.2.1
      have tt := m1.1.2.2.2.2.2.2.2.2.2.2.2.2.2.1
      have rp := sl.kept f1 (by omega)
      rw [show am_I h1 0 12 = ji s.2.2.1.length from c1.1, jk1, ji_add, ji_tn, Int.toNat_natCast]
      refine ⟨m1.1.1, 20, m1.1.2.2.2.2.2.1, by rw [rp.1], by rw [tt], by rw [tt, ji_in]; omega, ?_⟩
      rw [am_I_sis, va_up_at, ji_sub, show (s.2.2.1.length : Int) + 1 - 1 = (s.2.2.1.length : Int) by omega]
      have m2 : mnB h1 (stF s 0) (x + 1) := m1.up (by omega) (by omega)
      have m4 : mnB (am_si (am_sp h1 20 s.2.2.1.length (some x)) 0 12 (ji (s.2.2.1.length + 1))) (stL (stF s 0) (p, L)) (x + 1) := m2.addL (L := (p, L)) rp (hf0.mp c) (by rw [f1.2.2.1]; exact pp) hp (by omega) (by omega) (by show s.2.2.1.length < 12; omega)
      rw [ek] at k
      exact mn_ans m4.A (((f0.fi f1 (by omega)).sp (by omega)).si (by omega)) k
    · have c : f ≠ 0 := by
        intro c
        rw [if_pos c] at q
        exact q rfl
      exact (no true h1 f1 m1.A (fun q => absurd q c) (fun q => absurd q c)).2
theorem sh_fin {h h0 : am_H} {s : St} {x : Nat} {S : Sp} {f : Int} {X : Int × St} {Q : Int32 → am_H → Prop} (m : mnB h s x) (f0 : fc h0 h) (hz : am_sz h0 ≤ x) (hz2 : x + 1 ≤ am_sz h) (sh : hpA h x S) (hf : f = 0 ∨ f = 9) (hf0 : f = 0 ↔ spO S) (e : X = kpH s S) (k : ∀ h', fc h0 h' → mnA h' X.2 → Q (ji X.1) h') : (am_tg h 0 = (11, 18) ∧ ((6 ≤ (am_I h 0 13) → (am_Ei m_Main_judge 0 0 [.ref 0, .int (ji f), .int 0] h (fun r22 h21 => ((r22 = 0 → (am_tg h21 0 = (11, 18) ∧ (∃ b24, am_P h21 0 5 = some b24 ∧ (am_tg h21 x = (6, (am_tg h21 x).2) ∧ ((am_tg h21 b24).1 = 30 + 6 ∧ (vp_in (am_I h21 0 13) (am_tg h21 b24).2 ∧ (am_Ei m_Main_answer 0 0 [.ref 0, .int ((am_I (am_si (am_sp h21 b24 ((am_I h21 0 13).toNatClampNeg) (some x)) 0 13 ((am_I h21 0 13) + 1)) 0 13) - 1)] (am_si (am_sp h21 b24 ((am_I h21 0 13).toNatClampNeg) (some x)) 0 13 ((am_I h21 0 13) + 1)) (fun r31 h30 => Q r31 h30)))))))) ∧ (¬ r22 = 0 → (am_tg h21 0 = (11, 18) ∧ (am_Ei m_Main_refuse 0 0 [.ref 0, .int r22] h21 (fun r34 h33 => Q r34 h33)))))))) ∧ (¬ 6 ≤ (am_I h 0 13) → (am_Ei m_Main_judge 0 0 [.ref 0, .int (ji f), .int 1] h (fun r36 h35 => ((r36 = 0 → (am_tg h35 0 = (11, 18) ∧ (∃ b38, am_P h35 0 5 = some b38 ∧ (am_tg h35 x = (6, (am_tg h35 x).2) ∧ ((am_tg h35 b38).1 = 30 + 6 ∧ (vp_in (am_I h35 0 13) (am_tg h35 b38).2 ∧ (am_Ei m_Main_answer 0 0 [.ref 0, .int ((am_I (am_si (am_sp h35 b38 ((am_I h35 0 13).toNatClampNeg) (some x)) 0 13 ((am_I h35 0 13) + 1)) 0 13) - 1)] (am_si (am_sp h35 b38 ((am_I h35 0 13).toNatClampNeg) (some x)) 0 13 ((am_I h35 0 13) + 1)) (fun r45 h44 => Q r45 h44)))))))) ∧ (¬ r36 = 0 → (am_tg h35 0 = (11, 18) ∧ (am_Ei m_Main_refuse 0 0 [.ref 0, .int r36] h35 (fun r48 h47 => Q r48 h47)))))))))) := by
  have cc := m.2.2.2.1.2.2.1
  have mz := m.2.2.2.2.2.2.2.2.2
  have no : ∀ (r : Bool) (h1 : am_H), fi h h1 0 1 → mnA h1 (stF s f) → (f = 0 → r = false) → (f = 0 → ¬ s.2.2.2.1.length < 6) → (ji (if f = 0 then (if r then 0 else 9) else 4) ≠ 0) ∧ (am_Ei m_Main_refuse 0 0 [.ref 0, .int (ji (if f = 0 then (if r then 0 else 9) else 4))] h1 (fun r27 h26 => Q r27 h26)) := by
    intro r h1 f1 m1 hr hb
    by_cases c : f = 0
    · rw [if_pos c, hr c]
      refine ⟨by decide, mn_rf (X := X) ?_ m1 (f0.fi f1 (by omega)) k⟩
      rw [e]
      exact (cif_pos (hf0.mp c)).trans ((cif_neg (hb c)).trans (by rw [c]; rfl))
    · rw [if_neg c]
      refine ⟨by decide, mn_rf (X := X) ?_ m1 (f0.fi f1 (by omega)) k⟩
      rw [e]
      exact (cif_neg (fun q => c (hf0.mpr q))).trans (by rw [show f = 9 by omega])
  rw [cc.1, jk6, ji_le]
  refine ⟨m.1.1, fun c8 => ?_, fun c8 => ?_⟩
  · refine s_Main_judge m (by omega) (r := false) (by decide) (fun h1 f1 m1 => ?_)
    have n := no false h1 f1 m1.A (fun _ => rfl) (fun _ q => by omega)
    exact ⟨fun q => absurd q n.1, fun _ => ⟨m1.1.1, n.2⟩⟩
  · refine s_Main_judge m (by omega) (r := true) (by decide) (fun h1 f1 m1 => ⟨fun q => ?_, fun q => ⟨m1.1.1, ?_⟩⟩)
    · have c : f = 0 := by
        by_cases c : f = 0
        · exact c
        · rw [if_neg c] at q
          exact absurd q (by decide)
      have ek : X = ((s.2.2.2.1.length : Int), stS (stH (stF s 0) S) 0) := by
        rw [e]
        exact (cif_pos (hf0.mp c)).trans (cif_pos (by omega))
      rw [c] at m1
      have z1 : am_sz h1 = am_sz h := f1.1
      have c1 := m1.2.2.2.1.2.2.1
      have tt := m1.1.2.2.2.2.2.2.2.2.2.2.2.2.2.2.1
      have rp := sh.kept f1 (by omega)
      rw [show am_I h1 0 13 = ji s.2.2.2.1.length from c1.1, jk1, ji_add, ji_tn, Int.toNat_natCast]
      refine ⟨m1.1.1, 21, m1.1.2.2.2.2.2.2.1, by rw [rp.1], by rw [tt], by rw [tt, ji_in]; omega, ?_⟩
      rw [am_I_sis, va_up_at, ji_sub, show (s.2.2.2.1.length : Int) + 1 - 1 = (s.2.2.2.1.length : Int) by omega]
      have m2 : mnB h1 (stF s 0) (x + 1) := m1.up (by omega) (by omega)
      have m4 : mnB (am_si (am_sp h1 21 s.2.2.2.1.length (some x)) 0 13 (ji (s.2.2.2.1.length + 1))) (stH (stF s 0) S) (x + 1) := m2.addH rp (hf0.mp c) (by omega) (by omega) (by show s.2.2.2.1.length < 6; omega)
      rw [ek] at k
      exact mn_ans m4.A (((f0.fi f1 (by omega)).sp (by omega)).si (by omega)) k
    · have c : f ≠ 0 := by
        intro c
        rw [if_pos c] at q
        exact q rfl
      exact (no true h1 f1 m1.A (fun q => absurd q c) (fun q => absurd q c)).2
theorem s_Main_sill {h : am_H} {s : St} {n : Int} {Q : Int32 → am_H → Prop} (m : mnA h s) (hn : -2147483648 ≤ n ∧ n < 2147483648) (k : ∀ h', fc h h' → mnA h' (p_sill s n).2 → Q (ji (p_sill s n).1) h') : am_Ei m_Main_sill 1 5 [.ref 0, .int (ji n)] h Q := by
  refine ev_Main_sill 0 (ji n) h Q ⟨m.1.1, s_Main_portAt m hn (fun e => ⟨fun _ => ⟨m.1.1, s_Main_refuseUnread (X := p_sill s n) (by unfold p_sill; rw [e]) m k⟩, fun b q => (by cases q)⟩) (fun P c e g hc pt hb => ⟨fun q => (by cases q), fun b q => ?_⟩)⟩
  obtain rfl := Option.some.inj q
  have mz := m.2.2.2.2.2.2.2.2.2
  obtain ⟨en, en2, -⟩ := gt_some e
  have ep : p_sill s n = rdP s (slR s.1 (sk s.1 0, true)).2 (fun s' => kpL s' n.toNat (slR s.1 (sk s.1 0, true)).1) := by
    unfold p_sill
    rw [e]
  refine mk_Sill (fun h1 z1 e1 sl1 => ?_)
  have m1 : mnB h1 s (am_sz h) := mnB.grow m e1 (by omega)
  refine ⟨m1.1.1, 1, m1.1.2.1, m1.2.2.1.1, s_Tape_rewind m1.2.2.1 (fun h2 f2 t2 => ?_)⟩
  have m2 : mnB h2 s (am_sz h) := m1.tape (f2.wd (by omega) (by omega)) t2.1
  have sl2 := sl1.kept f2 (by omega)
  refine ⟨m2.1.1, 1, m2.1.2.1, sl2.1, s_Sill_readFrom sl2 t2 (by omega) (fun h3 f3 sl3 t3 => ?_)⟩
  have m3 : mnB h3 s (am_sz h) := m2.cell f3 t3.1
  refine ⟨m3.1.1, s_Main_textWasRight m3 t3 (fun h4 f4 m4 => ?_)⟩
  have F4 : fc h h4 := (((fc.es e1 (by omega)).fi f2 (by omega)).fr f3 (by omega) (by omega)).fi f4 (by omega)
  rw [bi_0, jk2]
  refine ⟨fun c1 => ?_, fun c1 => ⟨m4.1.1, mn_rf (X := p_sill s n) (ep.trans (cif_neg (by rw [c1]; decide))) m4.A F4 k⟩⟩
  have hw : rdW s.1 (slR s.1 (sk s.1 0, true)).2 = true := by
    cases e2 : rdW s.1 (slR s.1 (sk s.1 0, true)).2
    · exact absurd e2 c1
    · rfl
  have sl4 := sl3.kept f4 (by omega)
  have z4 : am_sz h4 = am_sz h + 1 := by rw [f4.1, f3.1, f2.1, z1]
  have p19 : am_P h4 19 n.toNat = some c := by
    rw [f4.2.2.1, f3.2.2.1, f2.2.2.1, (e1 19 (by omega) (by omega)).2.2]
    exact hc
  refine ⟨sl4.1, s_Sill_findFault sl4 (fun o => ?_) (fun o => ?_)⟩
  · have := sl_fin (X := p_sill s n) (f := 0) m4 F4 (Nat.le_refl _) (by omega) sl4 p19 (by show n.toNat < s.2.1.length; omega) (Or.inl rfl) ⟨fun _ => o, fun _ => rfl⟩ (ep.trans (cif_pos hw)) k
    exact this
  · have := sl_fin (X := p_sill s n) (f := 8) m4 F4 (Nat.le_refl _) (by omega) sl4 p19 (by show n.toNat < s.2.1.length; omega) (Or.inr rfl) ⟨fun q => absurd q (by decide), fun q => absurd q o⟩ (ep.trans (cif_pos hw)) k
    exact this
theorem s_Main_ship {h : am_H} {s : St} {Q : Int32 → am_H → Prop} (m : mnA h s) (k : ∀ h', fc h h' → mnA h' (p_ship s).2 → Q (ji (p_ship s).1) h') : am_Ei m_Main_ship 1 3 [.ref 0] h Q := by
  have mz := m.2.2.2.2.2.2.2.2.2
  refine ev_Main_ship 0 h Q (mk_Ship (fun h1 z1 e1 sl1 => ?_))
  have m1 : mnB h1 s (am_sz h) := mnB.grow m e1 (by omega)
  refine ⟨m1.1.1, 1, m1.1.2.1, m1.2.2.1.1, s_Tape_rewind m1.2.2.1 (fun h2 f2 t2 => ?_)⟩
  have m2 : mnB h2 s (am_sz h) := m1.tape (f2.wd (by omega) (by omega)) t2.1
  have sl2 : am_tg h2 (am_sz h) = (6, 3) := by rw [f2.2.1]; exact sl1
  refine ⟨m2.1.1, 1, m2.1.2.1, sl2, s_Ship_readFrom sl2 t2 (by omega) (fun h3 f3 sl3 t3 => ?_)⟩
  have m3 : mnB h3 s (am_sz h) := m2.cell f3 t3.1
  refine ⟨m3.1.1, s_Main_textWasRight m3 t3 (fun h4 f4 m4 => ?_)⟩
  have F4 : fc h h4 := (((fc.es e1 (by omega)).fi f2 (by omega)).fr f3 (by omega) (by omega)).fi f4 (by omega)
  rw [bi_0, jk2]
  refine ⟨fun c1 => ?_, fun c1 => ⟨m4.1.1, mn_rf (X := p_ship s) (cif_neg (by rw [c1]; decide)) m4.A F4 k⟩⟩
  have hw : rdW s.1 (spE' s.1 (sk s.1 0, true)) = true := by
    cases e2 : rdW s.1 (spE' s.1 (sk s.1 0, true))
    · exact absurd e2 c1
    · rfl
  have sl4 := sl3.kept f4 (by omega)
  have z4 : am_sz h4 = am_sz h + 1 := by rw [f4.1, f3.1, f2.1, z1]
  refine ⟨sl4.1, s_Ship_findFault sl4 (fun o => ?_) (fun o => ?_)⟩
  · have := sh_fin (X := p_ship s) (f := 0) m4 F4 (Nat.le_refl _) (by omega) sl4 (Or.inl rfl) ⟨fun _ => o, fun _ => rfl⟩ (cif_pos hw) k
    exact this
  · have := sh_fin (X := p_ship s) (f := 9) m4 F4 (Nat.le_refl _) (by omega) sl4 (Or.inr rfl) ⟨fun q => absurd q (by decide), fun q => absurd q o⟩ (cif_pos hw) k
    exact this
