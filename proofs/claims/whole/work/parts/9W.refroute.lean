/-! the reference: a route is read -/
def rdA (h : am_H) (R : List RtStop) : Prop := am_I h 87 46 = ji (R.length : Int) ∧ ∀ (i : Nat) (q : RtStop), R[i]? = some q → am_I h 145 i = ji q.1 ∧ am_I h 142 i = ji q.2.1 ∧ am_I h 143 i = ji q.2.2.1 ∧ am_I h 144 i = ji q.2.2.2 ∧ stB q
theorem rdA.kw {h h' : am_H} {R : List RtStop} (d : rdA h R) (f : kw h h' 41 46) : rdA h' R := by
  unfold rdA
  rw [f.2.2.2.2 46 (by omega), f.2.2.2.1 145 (by omega), f.2.2.2.1 142 (by omega), f.2.2.2.1 143 (by omega), f.2.2.2.1 144 (by omega)]
  exact d
theorem rdA.snoc {h H : am_H} {R : List RtStop} {q : RtStop} (d : rdA h R) (i46 : am_I H 87 46 = ji ((R.length : Int) + 1)) (r1 : am_I H 145 = am_I h 145) (i1 : am_I h 145 R.length = ji q.1) (r2 : ∀ k, k ≠ R.length → am_I H 142 k = am_I h 142 k) (i2 : am_I H 142 R.length = ji q.2.1) (r3 : ∀ k, k ≠ R.length → am_I H 143 k = am_I h 143 k) (i3 : am_I H 143 R.length = ji q.2.2.1) (r4 : ∀ k, k ≠ R.length → am_I H 144 k = am_I h 144 k) (i4 : am_I H 144 R.length = ji q.2.2.2) (hb : stB q) : rdA H (R ++ [q]) := by
  refine ⟨?_, fun i q' hq => ?_⟩
  · rw [i46, List.length_append]
    rfl
  · rw [r1]
    rcases get_snoc hq with hq | ⟨rfl, rfl⟩
    · have hi := (List.getElem?_eq_some_iff.mp hq).1
      rw [r2 i (by omega), r3 i (by omega), r4 i (by omega)]
      exact d.2 i q' hq
    · exact ⟨i1, i2, i3, i4, hb⟩
theorem s_Ref_readStop {h : am_H} {T : List Int} {s : Nat × Bool} {R : List RtStop} {mi : Int} {Q : am_H → Prop} (t : tkA h T s) (d : rdA h R) (im : am_I h 145 R.length = ji mi) (hm : 0 ≤ mi ∧ mi ≤ 9999) (hn : R.length < 130) (k : ∀ h', kt h h' → rdA h' (R ++ [(stR T mi s).1]) → tkA h' T (stR T mi s).2 → Q h') : am_Ew m_Ref_readStop 0 0 [.ref 87] h Q := by
  unfold stR at k
  have tn : (ji (R.length : Int)).toNatClampNeg = R.length := by rw [ji_tn, Int.toNat_natCast]
  refine ev_Ref_readStop 87 h Q ⟨t.1.1, 142, t.1.p52, s_Ref_takeN t (fun h1 f1 t1 b1 => ?_)⟩
  have d1 := d.kw f1
  have m1 := t1.1
  have im1 : am_I h1 145 R.length = ji mi := by rw [f1.2.2.2.1 145 (by omega)]; exact im
  rw [d.1, tn, am_I_sin (by omega : (87 : Nat) ≠ 142), d1.1, tn]
  refine ⟨by rw [m1.t52], by rw [m1.t52, ji_in]; omega, m1.1, 143, m1.p53, ?_⟩
  rw [am_I_sin (by omega : (87 : Nat) ≠ 143), am_I_sin (by omega : (87 : Nat) ≠ 142), d1.1, tn]
  refine ⟨by rw [m1.t53], by rw [m1.t53, ji_in]; omega, 144, m1.p54, by rw [m1.t54], by rw [m1.t54, ji_in]; omega, ?_⟩
  obtain ⟨h2, hh2⟩ : ∃ h2, h2 = am_si (am_si (am_si h1 142 R.length (ji (vN T s))) 143 R.length 0) 144 R.length 0 := ⟨_, rfl⟩
  rw [← hh2]
  have t2 : tkA h2 T (aN T s) := by rw [hh2]; exact ((t1.row (by omega) (by omega)).row (by omega) (by omega)).row (by omega) (by omega)
  have F2 : kt h h2 := by rw [hh2]; exact (((kt.of f1).tr (kt.row (by omega))).tr (kt.row (by omega))).tr (kt.row (by omega))
  have c142 : am_I h2 142 = va_up (am_I h1 142) R.length (ji (vN T s)) := by rw [hh2, am_I_sin (by omega), am_I_sin (by omega), am_I_sis]
  have c143 : am_I h2 143 = va_up (am_I h1 143) R.length 0 := by rw [hh2, am_I_sin (by omega), am_I_sis, am_I_sin (by omega)]
  have c144 : am_I h2 144 = va_up (am_I h1 144) R.length 0 := by rw [hh2, am_I_sis, am_I_sin (by omega), am_I_sin (by omega)]
  have c145 : am_I h2 145 = am_I h1 145 := by rw [hh2, am_I_sin (by omega), am_I_sin (by omega), am_I_sin (by omega)]
  have c46 : am_I h2 87 46 = ji (R.length : Int) := by rw [hh2, am_I_sin (by omega), am_I_sin (by omega), am_I_sin (by omega)]; exact d1.1
  clear hh2
  rw [jk33]
  refine s_Ref_goes t2 (by decide) (fun h3 f3 t3 => ?_)
  have g46 : am_I h3 87 46 = ji (R.length : Int) := by rw [f3.2.2.2.2 46 (by omega)]; exact c46
  have g142 : am_I h3 142 = va_up (am_I h1 142) R.length (ji (vN T s)) := by rw [f3.2.2.2.1 142 (by omega)]; exact c142
  have g143 : am_I h3 143 = va_up (am_I h1 143) R.length 0 := by rw [f3.2.2.2.1 143 (by omega)]; exact c143
  have g144 : am_I h3 144 = va_up (am_I h1 144) R.length 0 := by rw [f3.2.2.2.1 144 (by omega)]; exact c144
  have g145 : am_I h3 145 = am_I h1 145 := by rw [f3.2.2.2.1 145 (by omega)]; exact c145
  have F3 := F2.tr (kt.of f3)
  have m3 := t3.1
  rw [bi_0]
  refine ⟨fun c => ⟨m3.1, ?_⟩, fun c => ⟨m3.1, 143, m3.p53, by rw [m3.t53], by rw [m3.t53, g46, ji_in]; omega, ?_⟩⟩
  · rw [c, if_neg (by decide)] at k
    have a3 : aM T 33 (aN T s) = aN T s := (aM_t (T := T) (c := 33) (s := aN T s)).2.2.2 c
    rw [a3] at t3
    rw [jk126]
    refine s_Ref_goes t3 (by decide) (fun h4 f4 t4 => ?_)
    have e46 : am_I h4 87 46 = ji (R.length : Int) := by rw [f4.2.2.2.2 46 (by omega)]; exact g46
    have e142 : am_I h4 142 = va_up (am_I h1 142) R.length (ji (vN T s)) := by rw [f4.2.2.2.1 142 (by omega)]; exact g142
    have e143 : am_I h4 143 = va_up (am_I h1 143) R.length 0 := by rw [f4.2.2.2.1 143 (by omega)]; exact g143
    have e144 : am_I h4 144 = va_up (am_I h1 144) R.length 0 := by rw [f4.2.2.2.1 144 (by omega)]; exact g144
    have e145 : am_I h4 145 = am_I h1 145 := by rw [f4.2.2.2.1 145 (by omega)]; exact g145
    have F4 := F3.tr (kt.of f4)
    have m4 := t4.1
    rw [bi_0]
    refine ⟨fun c2 => ⟨m4.1, ?_⟩, fun c2 => ⟨m4.1, 143, m4.p53, by rw [m4.t53], by rw [m4.t53, e46, ji_in]; omega, 144, m4.p54, ?_⟩⟩
    · rw [c2, if_neg (by decide)] at k
      have a4 : aM T 126 (aN T s) = aN T s := (aM_t (T := T) (c := 126) (s := aN T s)).2.2.2 c2
      rw [a4] at t4
      rw [e46, jk1, ji_add]
      refine k _ (F4.tr kt.slot) (d1.snoc (q := (mi, vN T s, 0, 0)) ?_ ?_ im1 (fun j hj => ?_) ?_ (fun j hj => ?_) ?_ (fun j hj => ?_) ?_ ⟨hm, b1, by show (0 : Int) ≤ 0 ∧ (0 : Int) ≤ 2; omega, by show (-9999 : Int) ≤ 0 ∧ (0 : Int) ≤ 9999; omega⟩) t4.slot
      · rw [am_I_sis, va_up_at]
      · rw [am_I_sin (by omega), e145]
      · rw [am_I_sin (by omega), e142, va_up_no _ _ hj]
      · rw [am_I_sin (by omega), e142, va_up_at]
      · rw [am_I_sin (by omega), e143, va_up_no _ _ hj]
      · rw [am_I_sin (by omega), e143, va_up_at]
        rfl
      · rw [am_I_sin (by omega), e144, va_up_no _ _ hj]
      · rw [am_I_sin (by omega), e144, va_up_at]
        rfl
    · have d2 : dM T 126 (aN T s) = true := by cases z : dM T 126 (aN T s); exact absurd z c2; rfl
      rw [d2, if_pos rfl] at k
      rw [e46, tn, am_I_sin (by omega : (87 : Nat) ≠ 143), e46, tn]
      have t4r : tkA (am_si h4 143 R.length 2) T (aM T 126 (aN T s)) := t4.row (by omega) (by omega)
      refine s_Ref_size t4r (fun h5 f5 t5 b5 => ?_)
      have m5 := t5.1
      have i46 : am_I h5 87 46 = ji (R.length : Int) := by rw [f5.2.2.2.2 46 (by omega), am_I_sin (by omega)]; exact e46
      rw [am_I_sin (by omega : (87 : Nat) ≠ 144), i46, jk1, ji_add]
      refine ⟨by rw [m5.t54], by rw [m5.t54, ji_in]; omega, m5.1, ?_⟩
      refine k _ ((((F4.tr (kt.row (by omega))).tr (kt.of f5)).tr (kt.row (by omega))).tr kt.slot) (d1.snoc (q := (mi, vN T s, 2, vS T (aM T 126 (aN T s)))) ?_ ?_ im1 (fun j hj => ?_) ?_ (fun j hj => ?_) ?_ (fun j hj => ?_) ?_ ⟨hm, b1, by show (0 : Int) ≤ 2 ∧ (2 : Int) ≤ 2; omega, b5⟩) ((t5.row (by omega) (by omega)).slot)
      · rw [am_I_sis, va_up_at]
      · rw [am_I_sin (by omega), am_I_sin (by omega), f5.2.2.2.1 145 (by omega), am_I_sin (by omega), e145]
      · rw [am_I_sin (by omega), am_I_sin (by omega), f5.2.2.2.1 142 (by omega), am_I_sin (by omega), e142, va_up_no _ _ hj]
      · rw [am_I_sin (by omega), am_I_sin (by omega), f5.2.2.2.1 142 (by omega), am_I_sin (by omega), e142, va_up_at]
      · rw [am_I_sin (by omega), am_I_sin (by omega), f5.2.2.2.1 143 (by omega), am_I_sis, va_up_no _ _ hj, e143, va_up_no _ _ hj]
      · rw [am_I_sin (by omega), am_I_sin (by omega), f5.2.2.2.1 143 (by omega), am_I_sis, va_up_at]
        rfl
      · rw [am_I_sin (by omega), am_I_sis, va_up_no _ _ hj, f5.2.2.2.1 144 (by omega), am_I_sin (by omega), e144, va_up_no _ _ hj]
      · rw [am_I_sin (by omega), am_I_sis, va_up_at]
  · have d2 : dM T 33 (aN T s) = true := by cases z : dM T 33 (aN T s); exact absurd z c; rfl
    rw [d2, if_pos rfl] at k
    rw [am_I_sin (by omega : (87 : Nat) ≠ 143), g46, tn, jk1, ji_add]
    refine k _ ((F3.tr (kt.row (by omega))).tr kt.slot) (d1.snoc (q := (mi, vN T s, 1, 0)) ?_ ?_ im1 (fun j hj => ?_) ?_ (fun j hj => ?_) ?_ (fun j hj => ?_) ?_ ⟨hm, b1, by show (0 : Int) ≤ 1 ∧ (1 : Int) ≤ 2; omega, by show (-9999 : Int) ≤ 0 ∧ (0 : Int) ≤ 9999; omega⟩) ((t3.row (by omega) (by omega)).slot)
    · rw [am_I_sis, va_up_at]
    · rw [am_I_sin (by omega), am_I_sin (by omega), g145]
    · rw [am_I_sin (by omega), am_I_sin (by omega), g142, va_up_no _ _ hj]
    · rw [am_I_sin (by omega), am_I_sin (by omega), g142, va_up_at]
    · rw [am_I_sin (by omega), am_I_sis, va_up_no _ _ hj, g143, va_up_no _ _ hj]
    · rw [am_I_sin (by omega), am_I_sis, va_up_at]
    · rw [am_I_sin (by omega), am_I_sin (by omega), g144, va_up_no _ _ hj]
    · rw [am_I_sin (by omega), am_I_sin (by omega), g144, va_up_at]
      rfl
theorem aN_aN {T : List Int} {v : Nat × Bool} (h : (aN T (aN T v)).2 = true) : v.2 = true ∧ v.1 + 3 ≤ (aN T (aN T v)).1 := by
  obtain ⟨a1, a2, a3⟩ := aN_t h
  obtain ⟨b1, b2, b3⟩ := aN_t a1
  refine ⟨b1, ?_⟩
  have g1 := sk_ge T ((aN T v).1 + nd T (aN T v).1)
  have g2 := sk_ge T (v.1 + nd T v.1)
  rw [← b3] at g2
  rw [a3]
  have nz : (aN T v).1 ≠ v.1 + nd T v.1 := by
    intro z
    rw [z, nd_nd] at a2
    omega
  omega
theorem stR_t {T : List Int} {m : Int} {s : Nat × Bool} (h : (stR T m s).2.2 = true) : (aN T s).2 = true ∧ (aN T s).1 ≤ (stR T m s).2.1 := by
  unfold stR at h ⊢
  obtain ⟨x1, x2, -, -⟩ := aM_t (T := T) (c := 33) (s := aN T s)
  obtain ⟨y1, y2, -, -⟩ := aM_t (T := T) (c := 126) (s := aN T s)
  cases c : dM T 33 (aN T s)
  · rw [c, if_neg (by decide)] at h
    rw [if_neg (by decide)]
    cases c2 : dM T 126 (aN T s)
    · rw [c2, if_neg (by decide)] at h
      rw [if_neg (by decide)]
      exact ⟨h, Nat.le_refl _⟩
    · rw [c2, if_pos rfl] at h
      rw [if_pos rfl]
      obtain ⟨z1, z2, -, -⟩ := aM_t (T := T) (c := 45) (s := aM T 126 (aN T s))
      obtain ⟨a1, a2, a3⟩ := aN_t (s := aM T 45 (aM T 126 (aN T s))) h
      rw [z1, y1] at a1
      refine ⟨a1, ?_⟩
      show _ ≤ (aN T (aM T 45 (aM T 126 (aN T s)))).1
      rw [a3]
      have := sk_ge T ((aM T 45 (aM T 126 (aN T s))).1 + nd T (aM T 45 (aM T 126 (aN T s))).1)
      omega
  · rw [c, if_pos rfl] at h
    rw [if_pos rfl]
    rw [← x1]
    exact ⟨h, x2⟩
theorem st_adv {T : List Int} {m : Int} {u : Nat × Bool} (c : dM T 47 u = true) (h : (stR T m (aN T (aM T 47 u))).2.2 = true) : u.1 + 4 ≤ (stR T m (aN T (aM T 47 u))).2.1 := by
  obtain ⟨a1, a2⟩ := stR_t h
  obtain ⟨b1, b2⟩ := aN_aN a1
  have x := (aM_t (T := T) (c := 47) (s := u)).2.2.1 c
  omega
theorem rdR_0 {T : List Int} : ∀ {n : Nat} {m : Int} {s : Nat × Bool} {q : RtStop}, (rdR T (n + 1) m s).1[0]? = some q → q.1 = m := by
  intro n m s q hq
  have z : ∀ r : RtStop, r = (stR T m s).1 → r.1 = m := by
    intro r hr
    rw [hr]
    unfold stR
    repeat' split
    all_goals rfl
  unfold rdR at hq
  refine z q ?_
  split at hq
  · exact (Option.some.inj hq).symm
  · split at hq
    · exact (Option.some.inj hq).symm
    · exact (Option.some.inj hq).symm
theorem rdA.row {h : am_H} {R : List RtStop} {v : Int32} (d : rdA h R) : rdA (am_si h 145 R.length v) R := by
  refine ⟨by rw [am_I_sin (by omega)]; exact d.1, fun i q hq => ?_⟩
  have hi := (List.getElem?_eq_some_iff.mp hq).1
  rw [am_I_sis, va_up_no _ _ (by omega), am_I_sin (by omega), am_I_sin (by omega), am_I_sin (by omega)]
  exact d.2 i q hq
/-- the reading of a route: what is behind its end -/
theorem rf_stops2 {h : am_H} {T : List Int} {s : Nat × Bool} {Q : Option Value → am_H → Prop} (t : tkA h T s) (k : ∀ h', kt h h' → rdA h' (rdR T 32 0 s).1 → tkA h' T (rdR T 32 0 s).2 → (am_Ei m_Ref_ends 0 0 [.ref 87] h' (fun r7 h6 => ((¬ r7 = 0 → am_EI m_Ref_route 0 0 65 [.ref 87, .int 0, .float 0, .float 0] [] h6 Q) ∧ (r7 = 0 → (am_tg h6 87 = (12, 56) ∧ (am_Ei m_Ref_no 0 0 [.ref 87, .int 2] h6 (fun r11 h10 => Q (some (.int r11)) h10)))))))) : am_Ew m_Ref_readStop 0 0 [.ref 87] (am_si (am_si h 87 46 0) 145 0 0) (fun h8 => am_EI m_Ref_route 0 0 20 [.ref 87, .float 0, .float 0, .float 0] [] h8 Q) := by
  have tl := t.2.1.2.1
  have loop : ∀ (n : Nat) (mi : Int) (s1 : Nat × Bool) (R1 : List RtStop) (h1 : am_H), R1.length + n = 31 → kt h h1 → rdA h1 (R1 ++ [(stR T mi s1).1]) → tkA h1 T (stR T mi s1).2 → ((stR T mi s1).2.2 = true → T.length < (stR T mi s1).2.1 + 4 * n) → R1 ++ (rdR T (n + 1) mi s1).1 = (rdR T 32 0 s).1 → (rdR T (n + 1) mi s1).2 = (rdR T 32 0 s).2 → am_EI m_Ref_route 0 0 20 [.ref 87, .float 0, .float 0, .float 0] [] h1 Q := by
    intro n
    induction n with
    | zero =>
      intro mi s1 R1 h1 hn f1 d1 t1 b1 r1 r2
      have r1' : R1 ++ [(stR T mi s1).1] = (rdR T 32 0 s).1 := r1
      have r2' : (stR T mi s1).2 = (rdR T 32 0 s).2 := r2
      refine sg_Ref_route_20 87 h1 _ ⟨t1.1.1, ?_⟩
      rw [jk47]
      refine s_Ref_goes t1 (by decide) (fun h2 f2 t2 => ?_)
      have c : dM T 47 (stR T mi s1).2 = false := by
        cases z : dM T 47 (stR T mi s1).2
        · rfl
        · have z2 : (stR T mi s1).2.2 = true := by unfold dM at z; rw [Bool.and_eq_true] at z; exact z.1
          have a := b1 z2
          have b := t1.2.2.2.2.1
          omega
      have a := (aM_t (T := T) (c := 47) (s := (stR T mi s1).2)).2.2.2 c
      rw [a, r2'] at t2
      rw [r1'] at d1
      rw [c]
      exact ⟨fun _ => ⟨t2.1.1, k h2 (f1.tr (kt.of f2)) (d1.kw f2) t2⟩, fun q => absurd rfl q⟩
    | succ n ih =>
      intro mi s1 R1 h1 hn f1 d1 t1 b1 r1 r2
      have ln : (R1 ++ [(stR T mi s1).1]).length = R1.length + 1 := by rw [List.length_append]; rfl
      refine sg_Ref_route_20 87 h1 _ ⟨t1.1.1, ?_⟩
      rw [jk47]
      refine s_Ref_goes t1 (by decide) (fun h2 f2 t2 => ?_)
      have d2 := d1.kw f2
      cases c : dM T 47 (stR T mi s1).2
      · have a := (aM_t (T := T) (c := 47) (s := (stR T mi s1).2)).2.2.2 c
        rw [rdR, if_neg (by omega), c, if_neg (by decide)] at r1 r2
        have r1' : R1 ++ [(stR T mi s1).1] = (rdR T 32 0 s).1 := r1
        have r2' : (stR T mi s1).2 = (rdR T 32 0 s).2 := r2
        rw [a, r2'] at t2
        rw [r1'] at d2
        exact ⟨fun _ => ⟨t2.1.1, k h2 (f1.tr (kt.of f2)) d2 t2⟩, fun q => absurd rfl q⟩
      · have ok : (stR T mi s1).2.2 = true := by unfold dM at c; rw [Bool.and_eq_true] at c; exact c.1
        have b1' := b1 ok
        rw [rdR, if_neg (by omega), c, if_pos rfl] at r1 r2
        refine ⟨fun q => absurd q (by decide), fun _ => ⟨t2.1.1, 145, t2.1.p55, s_Ref_takeN t2 (fun h3 f3 t3 b3 => ?_)⟩⟩
        have d3 := d2.kw f3
        have m3 := t3.1
        rw [d2.1, ji_tn, Int.toNat_natCast]
        refine ⟨by rw [m3.t55], by rw [m3.t55, ji_in]; omega, m3.1, ?_⟩
        refine s_Ref_readStop (mi := vN T (aM T 47 (stR T mi s1).2)) (t3.row (by omega) (by omega)) d3.row (by rw [am_I_sis, va_up_at]) b3 (by omega) (fun h4 f4 d4 t4 => ?_)
        refine ih (vN T (aM T 47 (stR T mi s1).2)) (aN T (aM T 47 (stR T mi s1).2)) (R1 ++ [(stR T mi s1).1]) h4 (by omega) ((((f1.tr (kt.of f2)).tr (kt.of f3)).tr (kt.row (by omega))).tr f4) d4 t4 (fun z => ?_) ?_ r2
        · have := st_adv c z
          omega
        · rw [List.append_assoc]
          exact r1
  have d0 : rdA (am_si (am_si h 87 46 0) 145 0 0) [] := ⟨by rw [am_I_sin (by omega), am_I_sis, va_up_at]; rfl, fun i q hq => by simp at hq⟩
  refine s_Ref_readStop (mi := 0) (R := []) ((t.slot (v := 0)).row (by omega) (by omega)) d0 (by rw [am_I_sis]; exact va_up_at _ _ _) (by omega) (by decide) (fun h1 f1 d1 t1 => ?_)
  refine loop 31 0 s [] h1 rfl ((kt.slot.tr (kt.row (by omega))).tr f1) d1 t1 (fun z => ?_) rfl rfl
  obtain ⟨a1, a2⟩ := stR_t z
  obtain ⟨b1, b2, b3⟩ := aN_t a1
  have := sk_ge T (s.1 + nd T s.1)
  omega
