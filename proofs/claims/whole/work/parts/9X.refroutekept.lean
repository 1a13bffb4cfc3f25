/-! the reference: a route is kept -/
def nrF (h h1 : am_H) (r : Nat) : Prop := am_sz h1 = am_sz h ∧ am_tg h1 = am_tg h ∧ am_P h1 = am_P h ∧ (∀ b, (b < 102 ∨ 106 ≤ b) → am_I h1 b = am_I h b) ∧ ∀ b k, k < r * 8 → am_I h1 b k = am_I h b k
def nrR (h1 : am_H) (r : Nat) (R : List RtStop) (n : Nat) : Prop := ∀ (j : Nat) (q : RtStop), j < n → R[j]? = some q → am_I h1 102 (r * 8 + j) = ji q.2.1 ∧ am_I h1 103 (r * 8 + j) = ji q.2.2.1 ∧ am_I h1 104 (r * 8 + j) = ji q.2.2.2 ∧ am_I h1 105 (r * 8 + j) = ji q.1
theorem nr_step {h h1 : am_H} {r i : Nat} {R : List RtStop} {q : RtStop} (f : nrF h h1 r) (rr : nrR h1 r R i) (hq : R[i]? = some q) : nrF h (am_si (am_si (am_si (am_si h1 102 (r * 8 + i) (ji q.2.1)) 103 (r * 8 + i) (ji q.2.2.1)) 104 (r * 8 + i) (ji q.2.2.2)) 105 (r * 8 + i) (ji q.1)) r ∧ nrR (am_si (am_si (am_si (am_si h1 102 (r * 8 + i) (ji q.2.1)) 103 (r * 8 + i) (ji q.2.2.1)) 104 (r * 8 + i) (ji q.2.2.2)) 105 (r * 8 + i) (ji q.1)) r R (i + 1) := by
  generalize hH : am_si (am_si (am_si (am_si h1 102 (r * 8 + i) (ji q.2.1)) 103 (r * 8 + i) (ji q.2.2.1)) 104 (r * 8 + i) (ji q.2.2.2)) 105 (r * 8 + i) (ji q.1) = H
  obtain ⟨f1, f2, f3, f4, f5⟩ := f
  have c2 : am_I H 102 = va_up (am_I h1 102) (r * 8 + i) (ji q.2.1) := by rw [← hH, am_I_sin (by omega), am_I_sin (by omega), am_I_sin (by omega), am_I_sis]
  have c3 : am_I H 103 = va_up (am_I h1 103) (r * 8 + i) (ji q.2.2.1) := by rw [← hH, am_I_sin (by omega), am_I_sin (by omega), am_I_sis, am_I_sin (by omega)]
  have c4 : am_I H 104 = va_up (am_I h1 104) (r * 8 + i) (ji q.2.2.2) := by rw [← hH, am_I_sin (by omega), am_I_sis, am_I_sin (by omega), am_I_sin (by omega)]
  have c5 : am_I H 105 = va_up (am_I h1 105) (r * 8 + i) (ji q.1) := by rw [← hH, am_I_sis, am_I_sin (by omega), am_I_sin (by omega), am_I_sin (by omega)]
  have cn : ∀ b, (b < 102 ∨ 106 ≤ b) → am_I H b = am_I h1 b := fun b hb => by rw [← hH, am_I_sin (by omega), am_I_sin (by omega), am_I_sin (by omega), am_I_sin (by omega)]
  have e0 : am_sz H = am_sz h := by rw [← hH]; exact f1
  have e1 : am_tg H = am_tg h := by rw [← hH]; exact f2
  have e2 : am_P H = am_P h := by rw [← hH]; exact f3
  refine ⟨⟨e0, e1, e2, fun b hb => (cn b hb).trans (f4 b hb), fun b k hk => ?_⟩, fun j q' hj hq' => ?_⟩
  · rw [← f5 b k hk]
    by_cases z : b < 102 ∨ 106 ≤ b
    · rw [cn b z]
    · obtain rfl | rfl | rfl | rfl : b = 102 ∨ b = 103 ∨ b = 104 ∨ b = 105 := by omega
      · rw [c2, va_up_no _ _ (by omega)]
      · rw [c3, va_up_no _ _ (by omega)]
      · rw [c4, va_up_no _ _ (by omega)]
      · rw [c5, va_up_no _ _ (by omega)]
  · rw [c2, c3, c4, c5]
    by_cases c : j = i
    · subst c
      rw [hq] at hq'
      cases hq'
      rw [va_up_at, va_up_at, va_up_at, va_up_at]
      exact ⟨rfl, rfl, rfl, rfl⟩
    · rw [va_up_no _ _ (by omega), va_up_no _ _ (by omega), va_up_no _ _ (by omega), va_up_no _ _ (by omega)]
      exact rr j q' (by omega) hq'
theorem nrF.fi {h h1 : am_H} {p : Nat} (f : nrF h h1 p) : fi h h1 87 146 := ⟨f.1, f.2.1, f.2.2.1, fun b hb => f.2.2.2.1 b (by omega)⟩
theorem rfA.addRoute {h h1 : am_H} {s : St} {R : List RtStop} (m : rfA h s) (f : nrF h h1 s.2.2.2.2.1.length) (r : nrR h1 s.2.2.2.2.1.length R R.length) (g : 0 < R.length ∧ R.length ≤ 8 ∧ ∀ q, R[0]? = some q → q.1 = 0) (g2 : ∀ q ∈ R, stB q ∧ q.2.1 < s.2.2.1.length ∧ (-500 ≤ q.2.2.2 ∧ q.2.2.2 ≤ 1500)) (hl : s.2.2.2.2.1.length < 8) : rfA (am_si (am_si h1 101 s.2.2.2.2.1.length (ji (R.length : Int))) 87 20 (ji ((s.2.2.2.2.1.length : Int) + 1))) (stRt s R) := by
  generalize hH : am_si (am_si h1 101 s.2.2.2.2.1.length (ji (R.length : Int))) 87 20 (ji ((s.2.2.2.2.1.length : Int) + 1)) = H
  obtain ⟨f1, f2, f3, f4, f5⟩ := f
  have n : ∀ k, k ≠ 20 → am_I H 87 k = am_I h 87 k := fun k hk => by rw [← hH, am_I_sis, va_up_no _ _ hk, am_I_sin (by omega), f4 87 (by omega)]
  have n20 : am_I H 87 20 = ji ((s.2.2.2.2.1.length : Int) + 1) := by rw [← hH, am_I_sis, va_up_at]
  have c : ∀ b, b ≠ 87 → b < 101 → am_I H b = am_I h b := fun b h1 h2 => by rw [← hH, am_I_sin h1, am_I_sin (by omega), f4 b (by omega)]
  have c101 : ∀ k, am_I H 101 k = va_up (am_I h 101) s.2.2.2.2.1.length (ji (R.length : Int)) k := fun k => by rw [← hH, am_I_sin (by omega), am_I_sis, f4 101 (by omega)]
  have cr : ∀ b, 102 ≤ b → am_I H b = am_I h1 b := fun b hb => by rw [← hH, am_I_sin (by omega), am_I_sin (by omega)]
  have e1 : am_tg H = am_tg h := by rw [← hH]; exact f2
  have e2 : am_P H = am_P h := by rw [← hH]; exact f3
  obtain ⟨m1, m2, m3, m4, m5, m6, m7⟩ := m
  have el : (s.2.2.2.2.1 ++ [R]).length = s.2.2.2.2.1.length + 1 := by rw [List.length_append]; rfl
  refine ⟨?_, ?_, ?_, ?_, ?_, ⟨?_, ?_, fun i P hP => ?_⟩, ?_⟩
  · unfold rfF
    rw [e1, e2]
    exact m1
  · unfold rfT
    rw [n 1 (by omega), c 88 (by omega) (by omega)]
    exact m2
  · unfold rfP rpA
    rw [n 5 (by omega), c 89 (by omega) (by omega), c 90 (by omega) (by omega), c 91 (by omega) (by omega), c 92 (by omega) (by omega)]
    exact m3
  · unfold rfL rlA
    rw [n 10 (by omega), c 93 (by omega) (by omega), c 94 (by omega) (by omega), c 95 (by omega) (by omega), c 96 (by omega) (by omega), c 97 (by omega) (by omega)]
    exact m4
  · unfold rfH rhA
    rw [n 16 (by omega), c 98 (by omega) (by omega), c 99 (by omega) (by omega), c 100 (by omega) (by omega)]
    exact m5
  · show am_I H 87 20 = ji ((s.2.2.2.2.1 ++ [R]).length : Int)
    rw [n20, el]
    rfl
  · show (s.2.2.2.2.1 ++ [R]).length ≤ 8
    omega
  · have hP : (s.2.2.2.2.1 ++ [R])[i]? = some P := hP
    unfold rrA
    rw [c101, cr 102 (by omega), cr 103 (by omega), cr 104 (by omega), cr 105 (by omega)]
    rcases get_snoc hP with hP | ⟨rfl, rfl⟩
    · have hi := (List.getElem?_eq_some_iff.mp hP).1
      obtain ⟨gP, gQ, rP⟩ := m6.2.2 i P hP
      have pl := gP.2.1
      rw [va_up_no _ _ (by omega)]
      refine ⟨gP, gQ, rP.1, fun j t ht => ?_⟩
      have hj := (List.getElem?_eq_some_iff.mp ht).1
      rw [f5 102 _ (by omega), f5 103 _ (by omega), f5 104 _ (by omega), f5 105 _ (by omega)]
      exact rP.2 j t ht
    · rw [va_up_at]
      exact ⟨g, g2, rfl, fun j t ht => r j t (List.getElem?_eq_some_iff.mp ht).1 ht⟩
  · unfold rfS
    rw [n 2 (by omega), n 3 (by omega), n 4 (by omega)]
    exact m7
theorem rf_keepRoute {h0 h : am_H} {s : St} {R : List RtStop} {X : Int × St} {Q : Int32 → am_H → Prop} (e : X = kpR s R) (fs : stF s 0 = s) (m : rfA h s) (d : rdA h R) (hR : 0 < R.length ∧ R.length ≤ 32) (hR0 : ∀ q, R[0]? = some q → q.1 = 0) (f0 : fi h0 h 87 146) (k : ∀ h', fi h0 h' 87 146 → rfA h' X.2 → Q (ji X.1) h') : am_EI m_Ref_route 0 0 65 [.ref 87, .int 0, .float 0, .float 0] [] h (am_qi Q) := by
  have i20 := m.2.2.2.2.2.1.1
  have l20 := m.2.2.2.2.2.1.2.1
  have l12 := m.2.2.2.1.2.1
  have bad : ¬ rtO s.2.2.1.length R → am_Ei m_Ref_faulty 0 0 [.ref 87, .int 10] h Q := fun o => by
    rw [jk10]
    refine s_Ref_faulty (X := X) ?_ m f0 k
    rw [e]
    exact cif_neg o
  have full : rtO s.2.2.1.length R → ¬ (s.2.2.2.2.1.length < 8 ∧ R.length ≤ 8) → am_Ei m_Ref_no 0 0 [.ref 87, .int 9] h Q := fun o c => by
    rw [jk9]
    refine rf_no (X := X) ?_ m f0 k
    rw [e]
    exact (cif_pos o).trans ((cif_neg c).trans (by rw [fs]))
  have yes : rtO s.2.2.1.length R → s.2.2.2.2.1.length < 8 → R.length ≤ 8 → ∀ (n i : Nat) (h1 : am_H), i + n = R.length → nrF h h1 s.2.2.2.2.1.length → nrR h1 s.2.2.2.2.1.length R i → am_EI m_Ref_route 0 0 149 [.ref 87, .int (ji (s.2.2.2.2.1.length : Int)), .int (ji (i : Int)), .float 0] [] h1 (am_qi Q) := by
    intro o c8 r8 n
    have ek : X = ans (stRt s R) (s.2.2.2.2.1.length : Int) := by
      rw [e]
      exact (cif_pos o).trans ((cif_pos ⟨c8, r8⟩).trans (by rw [fs]; rfl))
    induction n with
    | zero =>
      intro i h1 hi f1 r1
      have m1 : rfF h1 := by unfold rfF; rw [f1.2.1, f1.2.2.1]; exact m.1
      have j46 : am_I h1 87 46 = ji (R.length : Int) := by rw [f1.2.2.2.1 87 (by omega)]; exact d.1
      have j20 : am_I h1 87 20 = ji (s.2.2.2.2.1.length : Int) := by rw [f1.2.2.2.1 87 (by omega)]; exact i20
      refine sg_Ref_route_149 87 _ _ h1 _ ⟨m1.1, ?_⟩
      rw [j46, ji_le]
      refine ⟨fun _ => ⟨101, m1.p21, by rw [m1.t21], by rw [m1.t21, ji_in]; omega, ?_⟩, fun c => absurd (by omega) c⟩
      rw [am_I_sin (by omega : (87 : Nat) ≠ 101), j20, ji_tn, Int.toNat_natCast, jk1, ji_add]
      have m2 := m.addRoute (R := R) f1 (by rw [show R.length = i by omega]; exact r1) ⟨hR.1, r8, hR0⟩ (fun q hq => ?_) c8
      · exact rf_an (X := X) ek m2 ((((f0.tr f1.fi).tr (fi.si (by omega) (by omega)))).tr (fi.si (by omega) (by omega))) k
      · obtain ⟨j, hj⟩ := List.getElem?_of_mem hq
        exact ⟨(d.2 j q hj).2.2.2.2, (o q hq).1, (o q hq).2⟩
    | succ n ih =>
      intro i h1 hi f1 r1
      have m1 : rfF h1 := by unfold rfF; rw [f1.2.1, f1.2.2.1]; exact m.1
      have j46 : am_I h1 87 46 = ji (R.length : Int) := by rw [f1.2.2.2.1 87 (by omega)]; exact d.1
      obtain ⟨q, hq⟩ : ∃ q, R[i]? = some q := ⟨_, List.getElem?_eq_getElem (by omega)⟩
      obtain ⟨v1, v2, v3, v4, -⟩ := d.2 i q hq
      have w1 : am_I h1 142 i = ji q.2.1 := by rw [f1.2.2.2.1 142 (by omega)]; exact v2
      have w2 : ∀ k v, am_I (am_si h1 102 k v) 143 i = ji q.2.2.1 := fun k v => by rw [am_I_sin (by omega), f1.2.2.2.1 143 (by omega)]; exact v3
      have w3 : ∀ k v k2 v2, am_I (am_si (am_si h1 102 k v) 103 k2 v2) 144 i = ji q.2.2.2 := fun k v k2 v2 => by rw [am_I_sin (by omega), am_I_sin (by omega), f1.2.2.2.1 144 (by omega)]; exact v4
      have w4 : ∀ k v k2 v2 k3 v3, am_I (am_si (am_si (am_si h1 102 k v) 103 k2 v2) 104 k3 v3) 145 i = ji q.1 := fun k v k2 v2 k3 v3 => by rw [am_I_sin (by omega), am_I_sin (by omega), am_I_sin (by omega), f1.2.2.2.1 145 (by omega)]; exact v1
      have e2 : ji (s.2.2.2.2.1.length : Int) * 8 + ji (i : Int) = ji ((s.2.2.2.2.1.length * 8 + i : Nat) : Int) := by
        rw [jk8, ji_mul, ji_add]
        exact congrArg ji (by omega)
      have t2 : (ji ((s.2.2.2.2.1.length * 8 + i : Nat) : Int)).toNatClampNeg = s.2.2.2.2.1.length * 8 + i := by rw [ji_tn, Int.toNat_natCast]
      have t3 : (ji (i : Int)).toNatClampNeg = i := by rw [ji_tn, Int.toNat_natCast]
      refine sg_Ref_route_149 87 _ _ h1 _ ⟨m1.1, ?_⟩
      rw [j46, ji_le, e2, t2, t3]
      refine ⟨fun c => absurd c (by omega), fun _ => ⟨102, m1.p22, 142, m1.p52, by rw [m1.t52], by rw [m1.t52, ji_in]; omega, by rw [m1.t22], by rw [m1.t22, ji_in]; omega, 103, m1.p23, 143, m1.p53, by rw [m1.t53], by rw [m1.t53, ji_in]; omega, by rw [m1.t23], by rw [m1.t23, ji_in]; omega, 104, m1.p24, 144, m1.p54, by rw [m1.t54], by rw [m1.t54, ji_in]; omega, by rw [m1.t24], by rw [m1.t24, ji_in]; omega, 105, m1.p25, 145, m1.p55, by rw [m1.t55], by rw [m1.t55, ji_in]; omega, by rw [m1.t25], by rw [m1.t25, ji_in]; omega, ?_⟩⟩
      rw [w1, w2, w3, w4, jk1, ji_add]
      obtain ⟨f2, r2⟩ := nr_step f1 r1 hq
      exact ih (i + 1) _ (by omega) f2 r2
  have loop : ∀ (n i : Nat), i + n = R.length → (∀ (j : Nat) (q : RtStop), j < i → R[j]? = some q → q.2.1 < s.2.2.1.length ∧ (-500 ≤ q.2.2.2 ∧ q.2.2.2 ≤ 1500)) → am_EI m_Ref_route 0 0 65 [.ref 87, .int (ji (i : Int)), .float 0, .float 0] [] h (am_qi Q) := by
    intro n
    induction n with
    | zero =>
      intro i hi ho
      have o : rtO s.2.2.1.length R := fun q hq => by
        obtain ⟨j, hj⟩ := List.getElem?_of_mem hq
        exact ho j q (by have := (List.getElem?_eq_some_iff.mp hj).1; omega) hj
      refine sg_Ref_route_65 87 _ h _ ⟨m.1.1, ?_⟩
      rw [d.1, i20, jk8, ji_le, ji_eq, ji_le]
      exact ⟨fun _ => ⟨fun c => full o (by omega), fun c => ⟨fun c2 => yes o (by omega) (by omega) R.length 0 h (by omega) ⟨rfl, rfl, rfl, fun _ _ => rfl, fun _ _ _ => rfl⟩ (fun j q hj => absurd hj (by omega)), fun c2 => full o (by omega)⟩⟩, fun c => absurd (by omega) c⟩
    | succ n ih =>
      intro i hi ho
      obtain ⟨q, hq⟩ : ∃ q, R[i]? = some q := ⟨_, List.getElem?_eq_getElem (by omega)⟩
      obtain ⟨v1, v2, v3, v4, v5⟩ := d.2 i q hq
      obtain ⟨b1, b2, b3, b4⟩ := v5
      have t3 : (ji (i : Int)).toNatClampNeg = i := by rw [ji_tn, Int.toNat_natCast]
      have hm := List.mem_of_getElem? hq
      refine sg_Ref_route_65 87 _ h _ ⟨m.1.1, ?_⟩
      rw [d.1, ji_le, t3]
      refine ⟨fun c => absurd c (by omega), fun _ => ⟨142, m.1.p52, by rw [m.1.t52], by rw [m.1.t52, ji_in]; omega, ?_⟩⟩
      rw [v2]
      refine s_Ref_isSill m (by omega) (fun L hL _ _ _ _ _ _ => ⟨fun z => absurd z (by decide), fun _ => ⟨m.1.1, 144, m.1.p54, by rw [m.1.t54], by rw [m.1.t54, ji_in]; omega, ?_⟩⟩) (fun hL => ⟨fun _ => ⟨m.1.1, bad (fun o => ?_)⟩, fun z => absurd rfl z⟩)
      · have g := gt_some hL
        rw [v4, jm500, jk1500]
        refine s_Ref_isIn (by omega) (by omega) (by omega) (fun z => ⟨fun _ => ?_, fun y => absurd y (by decide)⟩) (fun z => ⟨fun y => absurd rfl y, fun _ => ⟨m.1.1, bad (fun o => z (o q hm).2)⟩⟩)
        rw [jk1, ji_add]
        refine ih (i + 1) (by omega) (fun j q' hj hq' => ?_)
        by_cases c : j = i
        · rw [c, hq] at hq'
          cases hq'
          exact ⟨by omega, z⟩
        · exact ho j q' (by omega) hq'
      · have g := gt_none hL
        have := (o q hm).1
        omega
  exact loop R.length 0 (by omega) (fun j q hj => absurd hj (by omega))
theorem rdR_len (T : List Int) : ∀ (n : Nat) (m : Int) (s : Nat × Bool), (rdR T n m s).1.length ≤ n
  | 0, m, s => by simp [rdR]
  | n + 1, m, s => by
    unfold rdR
    split
    · simp
    · split
      · have := rdR_len T n (vN T (aM T 47 (stR T m s).2)) (aN T (aM T 47 (stR T m s).2))
        simp
        exact this
      · simp
theorem rf_route {h : am_H} {s : St} {Q : Int32 → am_H → Prop} (m : rfA h s) (k : ∀ h', fi h h' 87 146 → rfA h' (p_route s).2 → Q (ji (p_route s).1) h') : am_Ei m_Ref_route 0 0 [.ref 87] h Q := by
  have z0 : (0 : Int32).toNatClampNeg = 0 := rfl
  refine ev_Ref_route 87 h Q ⟨m.1.1, s_Ref_begins m.1 m.2.1 (fun h1 f1 t1 => ⟨t1.1.1, 145, t1.1.p55, by rw [t1.1.t55], by rw [t1.1.t55, jk0, ji_in]; omega, ?_⟩)⟩
  rw [z0]
  refine rf_stops2 t1 (fun h2 f2 d2 t2 => s_Ref_ends t2 ?_)
  have fk : rk (am_si h 87 4 0) h2 := (f1.rk (by omega)).tr f2.rk
  have eP : p_route s = rdP s (rdR s.1 32 0 (sk s.1 0, true)).2 (fun s' => kpR s' (rdR s.1 32 0 (sk s.1 0, true)).1) := rfl
  have ne : 0 < (rdR s.1 32 0 (sk s.1 0, true)).1.length := rdR_ne s.1 31 0 (sk s.1 0, true)
  have le : (rdR s.1 32 0 (sk s.1 0, true)).1.length ≤ 32 := rdR_len s.1 32 0 (sk s.1 0, true)
  have fst : ∀ q, (rdR s.1 32 0 (sk s.1 0, true)).1[0]? = some q → q.1 = 0 := fun q hq => rdR_0 hq
  generalize rdR s.1 32 0 (sk s.1 0, true) = R at d2 eP ne le fst ⊢
  have M := rf_read (e := R.2) (v := bi (rdW s.1 R.2)) m fk
  have F := fi_read (v := bi (rdW s.1 R.2)) (w := (if rdW s.1 R.2 then (-9999 : Int32) else ji (R.2.1 : Int))) fk
  have d3 : rdA (am_si (am_si (am_si h2 87 45 (bi (rdW s.1 R.2))) 87 3 (if rdW s.1 R.2 then (-9999 : Int32) else ji (R.2.1 : Int))) 87 1 0) R.1 := by
    have z : ∀ b, b ≠ 87 → am_I (am_si (am_si (am_si h2 87 45 (bi (rdW s.1 R.2))) 87 3 (if rdW s.1 R.2 then (-9999 : Int32) else ji (R.2.1 : Int))) 87 1 0) b = am_I h2 b := fun b hb => by rw [am_I_sin hb, am_I_sin hb, am_I_sin hb]
    unfold rdA
    rw [z 142 (by omega), z 143 (by omega), z 144 (by omega), z 145 (by omega), am_I_sis, va_up_no _ _ (by decide), am_I_sis, va_up_no _ _ (by decide), am_I_sis, va_up_no _ _ (by decide)]
    exact d2
  generalize am_si (am_si (am_si h2 87 45 (bi (rdW s.1 R.2))) 87 3 (if rdW s.1 R.2 then (-9999 : Int32) else ji (R.2.1 : Int))) 87 1 0 = H at M F d3 ⊢
  rw [bi_0]
  refine ⟨fun c => ?_, fun c => ⟨M.1.1, ?_⟩⟩
  rotate_left
  · rw [jk2]
    exact rf_no (X := p_route s) (by rw [eP]; exact cif_neg (by rw [c]; decide)) M F k
  have hw : rdW s.1 R.2 = true := by cases e1 : rdW s.1 R.2; exact absurd e1 c; rfl
  exact rf_keepRoute (X := p_route s) (by rw [eP]; exact cif_pos hw) rfl M d3 ⟨ne, le⟩ fst F k
