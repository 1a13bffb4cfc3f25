/-! ports are told -/
theorem flw_len : ∀ (D B : List Tn), (flw B D).1 = 0 → (flw B D).2.length = B.length + D.length
  | [], B, _ => by simp [flw]
  | d :: D, B, h => by
    unfold flw at h ⊢
    by_cases c : fN B d.1 d.2.1 d.2.2 = 0
    · rw [if_pos c] at h ⊢
      have := flw_len D _ h
      rw [this]
      simp
      omega
    · rw [if_neg c] at h
      exact absurd h c
theorem fN_bd (P : List Tn) (b : Bool) (tm g : Int) : 0 ≤ fN P b tm g ∧ fN P b tm g ≤ 1000 := by
  unfold fN fH fM
  repeat' split
  all_goals omega
theorem flw_bd : ∀ (D B : List Tn), 0 ≤ (flw B D).1 ∧ (flw B D).1 ≤ 1000
  | [], B => by simp [flw]
  | d :: D, B => by
    unfold flw
    by_cases c : fN B d.1 d.2.1 d.2.2 = 0
    · rw [if_pos c]
      exact flw_bd D _
    · rw [if_neg c]
      exact fN_bd _ _ _ _
theorem rdT_ne (T : List Int) (n : Nat) (s : Nat × Bool) : 0 < (rdT T (n + 1) s).1.length := by
  unfold rdT
  split
  · simp
  · split <;> simp
theorem shT_gW {P : List Tn} {S1 S2 : Sh} (g : gW P) (ok : okT (P.map (shT S1 S2))) : gW (P.map (shT S1 S2)) := by
  have at_ : ∀ (i : Nat) (p : Tn), P[i]? = some p → (P.map (shT S1 S2))[i]? = some (shT S1 S2 p) := fun i p hp => by rw [List.getElem?_map, hp]; rfl
  have un : ∀ (i : Nat) (q : Tn), (P.map (shT S1 S2))[i]? = some q → ∃ p, P[i]? = some p ∧ q = shT S1 S2 p := fun i q hq => by
    rw [List.getElem?_map] at hq
    cases e : P[i]? with
    | none => rw [e] at hq; cases hq
    | some p => rw [e] at hq; exact ⟨p, rfl, (Option.some.inj hq).symm⟩
  have hh : ∀ (i : Nat) (q : Tn), (P.map (shT S1 S2))[i]? = some q → -500 ≤ q.2.2 ∧ q.2.2 ≤ 1500 := fun i q hq => (ok i q hq).1
  refine ⟨⟨by simpa using g.1.1, fun i p q hp hq => ?_, fun p hp => ?_⟩, by simpa using g.2.1, fun i => ?_⟩
  · obtain ⟨p', hp', rfl⟩ := un i p hp
    obtain ⟨q', hq', rfl⟩ := un (i + 1) q hq
    have w := g.1.2.1 i p' q' hp' hq'
    have o := (ok (i + 1) _ hq).2.2 i _ rfl hp
    have w4 := w.2.2.2
    refine ⟨⟨o.2.1, o.2.2⟩, hh i _ hp, hh (i + 1) _ hq, ?_⟩
    have o1 := o.1
    have e1 : (shT S1 S2 q').1 = q'.1 := rfl
    have e2 : (shT S1 S2 p').1 = p'.1 := rfl
    rw [e1] at o1
    rw [e1, e2]
    cases hb : q'.1
    · rw [hb] at o1 w4
      exact ⟨w4.1, o1⟩
    · rw [hb] at o1 w4
      exact ⟨w4.1, o1⟩
  · obtain ⟨i, hi⟩ := List.getElem?_of_mem hp
    exact hh i p hi
  · induction i with
    | zero =>
      intro p hp
      have := (ok 0 p hp).2.1 rfl
      omega
    | succ i ih =>
      intro q hq
      have hl := (List.getElem?_eq_some_iff.mp hq).1
      obtain ⟨p, hp⟩ : ∃ p, (P.map (shT S1 S2))[i]? = some p := ⟨_, List.getElem?_eq_getElem (by omega)⟩
      have a := ih p hp
      have b := (ok (i + 1) q hq).2.2 i p rfl hp
      omega
def stP (s : St) (M : List Tn) : St := (s.1, s.2.1 ++ [M], s.2.2.1, s.2.2.2.1, s.2.2.2.2.1, s.2.2.2.2.2.1, s.2.2.2.2.2.2.1, s.2.2.2.2.2.2.2)
theorem get_snoc {α : Type} {l : List α} {x y : α} {i : Nat} (h : (l ++ [x])[i]? = some y) : l[i]? = some y ∨ (i = l.length ∧ y = x) := by
  rw [List.getElem?_append] at h
  by_cases c : i < l.length
  · rw [if_pos c] at h
    exact Or.inl h
  · rw [if_neg c] at h
    have := (List.getElem?_eq_some_iff.mp h).1
    simp at this
    have e : i = l.length := by omega
    subst e
    simp at h
    exact Or.inr ⟨rfl, h.symm⟩
theorem mnB.addP {h : am_H} {s : St} {z c : Nat} {M : List Tn} (m : mnB h s z) (pt : ptA h c 16 M) (g : gW M) (h1 : 146 ≤ c) (h2 : c + 4 ≤ z) (hl : s.2.1.length < 8) : mnB (am_si (am_sp h 19 s.2.1.length (some c)) 0 11 (ji (s.2.1.length + 1))) (stP s M) z := by
  have e : ∀ lo hi, (0 < lo) → (hi ≤ 19 ∨ 19 < lo) → es h (am_si (am_sp h 19 s.2.1.length (some c)) 0 11 (ji (s.2.1.length + 1))) lo hi := fun lo hi a b => (es.sp (by omega)).tr (es.si (by omega))
  obtain ⟨mF, mX, mT, mC, mP, mL, mH, mR, mS, mZ⟩ := m
  have p19 : am_P (am_si (am_sp h 19 s.2.1.length (some c)) 0 11 (ji (s.2.1.length + 1))) 19 = va_up (am_P h 19) s.2.1.length (some c) := by rw [am_P_si, am_P_sps]
  have pn : ∀ b, b ≠ 19 → am_P (am_si (am_sp h 19 s.2.1.length (some c)) 0 11 (ji (s.2.1.length + 1))) b = am_P h b := fun b hb => by rw [am_P_si, am_P_spn hb]
  have i0 : am_I (am_si (am_sp h 19 s.2.1.length (some c)) 0 11 (ji (s.2.1.length + 1))) 0 = va_up (am_I h 0) 11 (ji (s.2.1.length + 1)) := by rw [am_I_sis, am_I_sp]
  refine ⟨?_, mX.es (e _ _ (by omega) (by omega)) (e _ _ (by omega) (by omega)), mT.es (e _ _ (by omega) (by omega)), ?_, ?_, ?_, ?_, ?_, ?_, mZ⟩
  · unfold mnF
    rw [pn 0 (by omega)]
    exact mF
  · unfold mnC
    rw [i0, va_up_at, va_up_no _ _ (by decide), va_up_no _ _ (by decide), va_up_no _ _ (by decide)]
    refine ⟨⟨?_, ?_⟩, mC.2.1, mC.2.2.1, mC.2.2.2⟩
    · simp [stP]
    · simp [stP]
      omega
  · intro i P hP
    rcases get_snoc hP with hP | ⟨rfl, rfl⟩
    · have hi := (List.getElem?_eq_some_iff.mp hP).1
      obtain ⟨g, c', a1, a2, a3, a4⟩ := mP i P hP
      exact ⟨g, c', by rw [p19, va_up_no _ _ (by omega)]; exact a1, a2.es (e _ _ (by omega) (by omega)), a3, a4⟩
    · exact ⟨g, c, by rw [p19, va_up_at], pt.es (e _ _ (by omega) (by omega)), h1, h2⟩
  · intro i L hL
    obtain ⟨g, g2, x, c', a1, a2, a3, a4, a5⟩ := mL i L hL
    exact ⟨g, by simp [stP]; omega, x, c', by rw [pn 20 (by omega)]; exact a1, by rw [p19, va_up_no _ _ (by omega)]; exact a2, a3.es (e _ _ (by omega) (by omega)), a4, a5⟩
  · intro i S hS
    obtain ⟨g, x, a1, a2, a3, a4⟩ := mH i S hS
    exact ⟨g, x, by rw [pn 21 (by omega)]; exact a1, a2.es (e _ _ (by omega) (by omega)), a3, a4⟩
  · intro i R hR
    obtain ⟨g, b, a1, a2, a3, a4, a5⟩ := mR i R hR
    refine ⟨g, b, by rw [pn 22 (by omega)]; exact a1, a2.es (e _ _ (by omega) (by omega)), a3, a4, ?_⟩
    rw [pn (b + 1) (by omega), pn 20 (by omega)]
    exact a5
  · unfold mnS
    rw [i0, va_up_no _ _ (by decide), va_up_no _ _ (by decide), va_up_no _ _ (by decide)]
    exact mS
noncomputable def kpP (s : St) (f : Int) (M : List Tn) : Int × St := cif (f = 0) (cif (s.2.1.length < 8 ∧ M.length ≤ 16) ((s.2.1.length : Int), stS (stP (stF s 0) M) 0) (rfs (stF s 0) 9)) (rfs (stF s f) 4)
theorem s_Main_keepPort {h h0 : am_H} {s : St} {f : Int} {M : List Tn} {X : Int × St} {Q : Int32 → am_H → Prop} (e : X = kpP s f M) (m : mnA h s) (f0 : fc h0 h) (pm : ptA h 9 40 M) (hf : 0 ≤ f ∧ f ≤ 1000) (hM : f = 0 → M.length ≤ 16 → gW M) (k : ∀ h', fc h0 h' → mnA h' X.2 → Q (ji X.1) h') : am_Ei m_Main_keepPort 4 53 [.ref 0, .int (ji f)] h Q := by
  have pml := pm.len
  have c1 := m.2.2.2.1.1
  -- refused
  have no : ∀ (r : Bool) (h1 : am_H), fi h h1 0 1 → mnA h1 (stF s f) → (f = 0 → r = false) → (f = 0 → ¬ (s.2.1.length < 8 ∧ M.length ≤ 16)) → (ji (if f = 0 then (if r then 0 else 9) else 4) ≠ 0) ∧ (am_Ei m_Main_refuse 0 0 [.ref 0, .int (ji (if f = 0 then (if r then 0 else 9) else 4))] h1 (fun r27 h26 => Q r27 h26)) := by
    intro r h1 f1 m1 hr hb
    by_cases c : f = 0
    · rw [if_pos c, hr c]
      refine ⟨by decide, mn_rf (X := X) ?_ m1 (f0.fi f1 (by omega)) k⟩
      rw [e]
      unfold kpP
      rw [cif_pos c, cif_neg (hb c), c]
      rfl
    · rw [if_neg c]
      refine ⟨by decide, mn_rf (X := X) ?_ m1 (f0.fi f1 (by omega)) k⟩
      rw [e]
      unfold kpP
      rw [cif_neg c]
  have cv : ∀ {h1 : am_H}, fi h h1 0 1 → mnB h1 (stF s f) (am_sz h) → mnA h1 (stF s f) := fun _ m1 => m1.A
  refine ev_Main_keepPort 0 (ji f) h Q ⟨m.1.1, 3, m.1.2.2.1, m.2.1.1.choose_spec.1.1, ev_Draft_made 3 h _ ?_⟩
  have d6 : am_P h 3 6 = some 9 := m.2.1.1.choose_spec.1.2.2.2.2.2.2.1
  refine ⟨m.2.1.1.choose_spec.1.1, 9, d6, fun q => (by cases q), fun b7 q => ?_⟩
  obtain rfl := Option.some.inj q
  rw [c1.1, jk8, jk16, ji_le]
  refine ⟨m.1.1, fun c8 => ?_, fun c8 => ⟨pm.1, s_Port_turnCount pm ?_⟩⟩
  · refine s_Main_judge m hf (r := false) (by simp) (fun h1 f1 m1 => ?_)
    have n := no false h1 f1 (cv f1 m1) (fun _ => rfl) (fun _ q => by omega)
    exact ⟨fun q => absurd q n.1, fun _ => ⟨m1.1.1, n.2⟩⟩
  · rw [ji_lt]
    refine ⟨fun c16 => ⟨m.1.1, ?_⟩, fun c16 => ⟨m.1.1, ?_⟩⟩
    · refine s_Main_judge m hf (r := false) (by simp) (fun h1 f1 m1 => ?_)
      have n := no false h1 f1 (cv f1 m1) (fun _ => rfl) (fun _ q => by omega)
      exact ⟨fun q => absurd q n.1, fun _ => ⟨m1.1.1, n.2⟩⟩
    · refine s_Main_judge m hf (r := true) (by simp) (fun h1 f1 m1 => ⟨fun q => ?_, fun q => ⟨m1.1.1, ?_⟩⟩)
      · -- kept
        have c : f = 0 := by
          by_cases c : f = 0
          · exact c
          · rw [if_neg c] at q
            exact absurd q (by decide)
        have ek : X = ((s.2.1.length : Int), stS (stP (stF s 0) M) 0) := by
          rw [e]
          unfold kpP
          rw [cif_pos c, cif_pos (by omega)]
        rw [c] at m1
        have z1 : am_sz h1 = am_sz h := f1.1
        refine mk_Port (N := 16) (by omega) (fun h2 z2 e2 p2 => ⟨p2.1, ?_⟩)
        have pm2 : ptA h2 9 40 M := (pm.kept f1 (by omega)).es (e2.sub (by omega) (by have := m1.2.2.2.2.2.2.2.2.2; omega))
        have zb := m1.2.2.2.2.2.2.2.2.2
        refine s_Port_copyFrom p2 pm2 (by omega) (by omega) (fun h3 f3 p3 => ?_)
        have m3 : mnB h3 (stF s 0) (am_sz h) := m1.grow ((e2.sub (by omega) (by omega)).tr (f3.es (by omega))) (by rw [f3.1]; omega)
        have m3' := m3.A
        have z3 : am_sz h3 = am_sz h1 + 4 := by rw [f3.1, z2]
        have fc3 : fc h0 h3 := ((f0.fi f1 (by omega)).tr (fc.es e2 (by omega))).fi f3 (by have := f0.1; omega)
        have cc := m3.2.2.2.1.1
        have t19 := m3.1.2.2.2.2.2.2.2.2.2.2.2.2.1
        rw [show am_I h3 0 11 = ji s.2.1.length from cc.1, jk1, ji_add, ji_tn, Int.toNat_natCast]
        refine ⟨m3.1.1, 19, m3.1.2.2.2.2.1, by rw [p3.1], by rw [t19], by rw [t19, ji_in]; omega, ?_⟩
        rw [am_I_sis, va_up_at, ji_sub, show (s.2.1.length : Int) + 1 - 1 = (s.2.1.length : Int) by omega]
        have m4 : mnB (am_si (am_sp h3 19 s.2.1.length (some (am_sz h1))) 0 11 (ji (s.2.1.length + 1))) (stP (stF s 0) M) (am_sz h3) := (show mnB h3 (stF s 0) (am_sz h3) from m3').addP p3 (hM c (by omega)) (by omega) (by omega) (by show s.2.1.length < 8; omega)
        have m5 : mnA (am_si (am_sp h3 19 s.2.1.length (some (am_sz h1))) 0 11 (ji (s.2.1.length + 1))) (stP (stF s 0) M) := m4
        rw [ek] at k
        exact mn_ans m5 ((fc3.sp (by omega)).si (by omega)) k
      · have c : f ≠ 0 := by
          intro c
          rw [if_pos c] at q
          exact q rfl
        exact (no true h1 f1 (cv f1 m1) (fun q => absurd q c) (fun q => absurd q c)).2
