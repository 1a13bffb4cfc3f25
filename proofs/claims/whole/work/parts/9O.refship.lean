/-! the reference: a ship -/
theorem rfA.ship {h : am_H} {s : St} {S : Sp} (m : rfA h s) (o : spO S) (b : spB S) (hl : s.2.2.2.1.length < 6) : rfA (am_si (am_si (am_si (am_si h 98 s.2.2.2.1.length (ji S.1)) 99 s.2.2.2.1.length (ji S.2.1)) 100 s.2.2.2.1.length (ji S.2.2)) 87 16 (ji (s.2.2.2.1.length + 1))) (stH s S) := by
  generalize hH : am_si (am_si (am_si (am_si h 98 s.2.2.2.1.length (ji S.1)) 99 s.2.2.2.1.length (ji S.2.1)) 100 s.2.2.2.1.length (ji S.2.2)) 87 16 (ji (s.2.2.2.1.length + 1)) = H
  have n : ∀ k, k ≠ 16 → am_I H 87 k = am_I h 87 k := fun k hk => by rw [← hH, am_I_sis, va_up_no _ _ hk, am_I_sin (by omega), am_I_sin (by omega), am_I_sin (by omega)]
  have n16 : am_I H 87 16 = ji (s.2.2.2.1.length + 1) := by rw [← hH, am_I_sis, va_up_at]
  have r : ∀ c, c ≠ 87 → c ≠ 98 → c ≠ 99 → c ≠ 100 → am_I H c = am_I h c := fun c h1 h2 h3 h4 => by rw [← hH, am_I_sin h1, am_I_sin h4, am_I_sin h3, am_I_sin h2]
  have r98 : ∀ k, am_I H 98 k = va_up (am_I h 98) s.2.2.2.1.length (ji S.1) k := fun k => by rw [← hH, am_I_sin (by omega), am_I_sin (by omega), am_I_sin (by omega), am_I_sis]
  have r99 : ∀ k, am_I H 99 k = va_up (am_I h 99) s.2.2.2.1.length (ji S.2.1) k := fun k => by rw [← hH, am_I_sin (by omega), am_I_sin (by omega), am_I_sis, am_I_sin (by omega)]
  have r100 : ∀ k, am_I H 100 k = va_up (am_I h 100) s.2.2.2.1.length (ji S.2.2) k := fun k => by rw [← hH, am_I_sin (by omega), am_I_sis, am_I_sin (by omega), am_I_sin (by omega)]
  have e1 : am_tg H = am_tg h := by rw [← hH]; rfl
  have e2 : am_P H = am_P h := by rw [← hH]; rfl
  obtain ⟨m1, m2, m3, m4, m5, m6, m7⟩ := m
  have el : (s.2.2.2.1 ++ [S]).length = s.2.2.2.1.length + 1 := by rw [List.length_append]; rfl
  refine ⟨?_, ?_, ?_, ?_, ⟨?_, ?_, fun i S' hS => ?_⟩, ?_, ?_⟩
  · unfold rfF
    rw [e1, e2]
    exact m1
  · unfold rfT
    rw [n 1 (by omega), r 88 (by omega) (by omega) (by omega) (by omega)]
    exact m2
  · unfold rfP rpA
    rw [n 5 (by omega), r 89 (by omega) (by omega) (by omega) (by omega), r 90 (by omega) (by omega) (by omega) (by omega), r 91 (by omega) (by omega) (by omega) (by omega), r 92 (by omega) (by omega) (by omega) (by omega)]
    exact m3
  · unfold rfL rlA
    rw [n 10 (by omega), r 93 (by omega) (by omega) (by omega) (by omega), r 94 (by omega) (by omega) (by omega) (by omega), r 95 (by omega) (by omega) (by omega) (by omega), r 96 (by omega) (by omega) (by omega) (by omega), r 97 (by omega) (by omega) (by omega) (by omega)]
    exact m4
  · show am_I H 87 16 = ji ((s.2.2.2.1 ++ [S]).length : Int)
    rw [n16, el]
    rfl
  · show (s.2.2.2.1 ++ [S]).length ≤ 6
    omega
  · have hS : (s.2.2.2.1 ++ [S])[i]? = some S' := hS
    unfold rhA
    rw [r98, r99, r100]
    rcases Nat.lt_or_ge i s.2.2.2.1.length with q | q
    · rw [List.getElem?_append_left q] at hS
      rw [va_up_no _ _ (by omega), va_up_no _ _ (by omega), va_up_no _ _ (by omega)]
      exact m5.2.2 i S' hS
    · have hi := (List.getElem?_eq_some_iff.mp hS).1
      have e : i = s.2.2.2.1.length := by omega
      rw [e, List.getElem?_append_right (Nat.le_refl _), Nat.sub_self] at hS
      cases hS
      rw [e, va_up_at, va_up_at, va_up_at]
      exact ⟨o, b, rfl, rfl, rfl⟩
  · unfold rfR rrA
    rw [n 20 (by omega), r 101 (by omega) (by omega) (by omega) (by omega), r 102 (by omega) (by omega) (by omega) (by omega), r 103 (by omega) (by omega) (by omega) (by omega), r 104 (by omega) (by omega) (by omega) (by omega), r 105 (by omega) (by omega) (by omega) (by omega)]
    exact m6
  · unfold rfS
    rw [n 2 (by omega), n 3 (by omega), n 4 (by omega)]
    exact m7
theorem rf_ship {h : am_H} {s : St} {Q : Int32 → am_H → Prop} (m : rfA h s) (k : ∀ h', fi h h' 87 146 → rfA h' (p_ship s).2 → Q (ji (p_ship s).1) h') : am_Ei m_Ref_ship 0 0 [.ref 87] h Q := by
  refine ev_Ref_ship 87 h Q ⟨m.1.1, s_Ref_begins m.1 m.2.1 (fun h1 f1 t1 => ⟨t1.1.1, s_Ref_takeN t1 (fun h2 f2 t2 b2 => ⟨t2.1.1, s_Ref_takeN t2 (fun h3 f3 t3 b3 => ⟨t3.1.1, s_Ref_takeN t3 (fun h4 f4 t4 b4 => ⟨t4.1.1, s_Ref_ends t4 ?_⟩)⟩)⟩)⟩)⟩
  have fk := (((f1.tr f2).tr f3).tr f4).rk (by omega)
  have M := rf_read (e := spE' s.1 (sk s.1 0, true)) (v := bi (rdW s.1 (spE' s.1 (sk s.1 0, true)))) m fk
  have F := fi_read (v := bi (rdW s.1 (spE' s.1 (sk s.1 0, true)))) (w := (if rdW s.1 (spE' s.1 (sk s.1 0, true)) then (-9999 : Int32) else ji ((spE' s.1 (sk s.1 0, true)).1 : Int))) fk
  have ES : aN s.1 (aN s.1 (aN s.1 (sk s.1 0, true))) = spE' s.1 (sk s.1 0, true) := rfl
  rw [ES]
  generalize am_si (am_si (am_si h4 87 45 (bi (rdW s.1 (spE' s.1 (sk s.1 0, true))))) 87 3 (if rdW s.1 (spE' s.1 (sk s.1 0, true)) then (-9999 : Int32) else ji ((spE' s.1 (sk s.1 0, true)).1 : Int))) 87 1 0 = H at M F ⊢
  rw [bi_0]
  refine ⟨fun c => ?_, fun c => ⟨M.1.1, ?_⟩⟩
  rotate_left
  · rw [jk2]
    exact rf_no (X := p_ship s) (cif_neg (by rw [c]; decide)) M F k
  have hw : rdW s.1 (spE' s.1 (sk s.1 0, true)) = true := by cases e1 : rdW s.1 (spE' s.1 (sk s.1 0, true)); exact absurd e1 c; rfl
  obtain ⟨S, hS⟩ : ∃ S, S = spV s.1 (sk s.1 0, true) := ⟨_, rfl⟩
  obtain ⟨s', hs'⟩ : ∃ s', s' = rdS s (spE' s.1 (sk s.1 0, true)) := ⟨_, rfl⟩
  have f0 : stF s' 0 = s' := by rw [hs']; rfl
  have e : p_ship s = kpH s' S := by rw [hs', hS]; exact cif_pos hw
  have v1 : vN s.1 (sk s.1 0, true) = S.1 := by rw [hS]; rfl
  have v2 : vN s.1 (aN s.1 (sk s.1 0, true)) = S.2.1 := by rw [hS]; rfl
  have v3 : vN s.1 (aN s.1 (aN s.1 (sk s.1 0, true))) = S.2.2 := by rw [hS]; rfl
  rw [v1] at b2
  rw [v2] at b3
  rw [v3] at b4
  rw [v1, v2, v3]
  rw [← hs'] at M
  have bad : ¬ spO S → p_ship s = rfs (stF s' 9) 4 := fun o => by rw [e]; exact cif_neg o
  have i16 := M.2.2.2.2.1.1
  have l16 := M.2.2.2.2.1.2.1
  rw [jk1, jk1500, jk60, jk6, jk9]
  refine s_Ref_isIn (by omega) (by omega) (by omega) (fun z => ⟨fun q => absurd q (by decide), fun _ => ?_⟩) (fun z => ⟨fun _ => ⟨M.1.1, s_Ref_faulty (bad (fun o => z o.1)) M F k⟩, fun q => absurd rfl q⟩)
  refine s_Ref_isIn (by omega) (by omega) (by omega) (fun z2 => ⟨fun _ => ⟨M.1.1, ?_⟩, fun q => absurd q (by decide)⟩) (fun z2 => ⟨fun q => absurd rfl q, fun _ => ⟨M.1.1, s_Ref_faulty (bad (fun o => z2 o.2)) M F k⟩⟩)
  have o : spO S := ⟨z, z2⟩
  have e2 : p_ship s = cif (s'.2.2.2.1.length < 6) ((s'.2.2.2.1.length : Int), stS (stH s' S) 0) (rfs s' 9) := by
    rw [e]
    unfold kpH
    rw [cif_pos o, f0]
  rw [i16, ji_eq]
  refine ⟨fun c6 => ?_, fun c6 => rf_no (X := p_ship s) (by rw [e2]; exact cif_neg (by omega)) M F k⟩
  have hl : s'.2.2.2.1.length < 6 := by omega
  rw [cif_pos hl] at e2
  have q1 : ∀ k v, am_I (am_si H 98 k v) 87 16 = ji (s'.2.2.2.1.length : Int) := fun k v => by rw [am_I_sin (by omega)]; exact i16
  have q2 : ∀ k v k2 v2, am_I (am_si (am_si H 98 k v) 99 k2 v2) 87 16 = ji (s'.2.2.2.1.length : Int) := fun k v k2 v2 => by rw [am_I_sin (by omega)]; exact q1 k v
  have q3 : ∀ k v k2 v2 k3 v3, am_I (am_si (am_si (am_si H 98 k v) 99 k2 v2) 100 k3 v3) 87 16 = ji (s'.2.2.2.1.length : Int) := fun k v k2 v2 k3 v3 => by rw [am_I_sin (by omega)]; exact q2 k v k2 v2
  have tn : (ji (s'.2.2.2.1.length : Int)).toNatClampNeg = s'.2.2.2.1.length := by rw [ji_tn, Int.toNat_natCast]
  refine ⟨98, M.1.p17, by rw [M.1.t17], by rw [M.1.t17, ji_in]; omega, 99, M.1.p18, by rw [M.1.t18], by rw [M.1.t18, q1, ji_in]; omega, 100, M.1.p19, by rw [M.1.t19], by rw [M.1.t19, q2, ji_in]; omega, ?_⟩
  rw [q1, tn, q2, tn, q3, ji_add, am_I_sis, va_up_at, ji_sub, show (s'.2.2.2.1.length : Int) + 1 - 1 = (s'.2.2.2.1.length : Int) by omega]
  have M2 := M.ship o ⟨b2, b3, b4⟩ hl
  exact rf_an (X := p_ship s) e2 M2 ((((F.tr (fi.si (by omega) (by omega))).tr (fi.si (by omega) (by omega))).tr (fi.si (by omega) (by omega))).tr (fi.si (by omega) (by omega))) k
