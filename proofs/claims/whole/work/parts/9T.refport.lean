/-! the reference: a port is made -/
def npF (h h1 : am_H) (p : Nat) : Prop := am_sz h1 = am_sz h ∧ am_tg h1 = am_tg h ∧ am_P h1 = am_P h ∧ (∀ b, b ≠ 90 → b ≠ 91 → b ≠ 92 → am_I h1 b = am_I h b) ∧ ∀ b k, k < p * 16 → am_I h1 b k = am_I h b k
def npR (h1 : am_H) (p : Nat) (M : List Tn) (n : Nat) : Prop := ∀ (j : Nat) (q : Tn), j < n → M[j]? = some q → am_I h1 90 (p * 16 + j) = ji q.2.1 ∧ am_I h1 91 (p * 16 + j) = ji q.2.2 ∧ am_I h1 92 (p * 16 + j) = bi q.1
theorem np_step {h h1 : am_H} {p i : Nat} {M : List Tn} {q : Tn} (f : npF h h1 p) (r : npR h1 p M i) (hq : M[i]? = some q) : npF h (am_si (am_si (am_si h1 90 (p * 16 + i) (ji q.2.1)) 91 (p * 16 + i) (ji q.2.2)) 92 (p * 16 + i) (bi q.1)) p ∧ npR (am_si (am_si (am_si h1 90 (p * 16 + i) (ji q.2.1)) 91 (p * 16 + i) (ji q.2.2)) 92 (p * 16 + i) (bi q.1)) p M (i + 1) := by
  obtain ⟨f1, f2, f3, f4, f5⟩ := f
  refine ⟨⟨f1, f2, f3, fun b h0 h1 h2 => ?_, fun b k hk => ?_⟩, fun j q' hj hq' => ?_⟩
  · rw [am_I_sin h2, am_I_sin h1, am_I_sin h0]
    exact f4 b h0 h1 h2
  · rw [← f5 b k hk]
    by_cases c2 : b = 92
    · subst c2
      rw [am_I_sis, va_up_no _ _ (by omega), am_I_sin (by omega), am_I_sin (by omega)]
    · rw [am_I_sin c2]
      by_cases c1 : b = 91
      · subst c1
        rw [am_I_sis, va_up_no _ _ (by omega), am_I_sin (by omega)]
      · rw [am_I_sin c1]
        by_cases c0 : b = 90
        · subst c0
          rw [am_I_sis, va_up_no _ _ (by omega)]
        · rw [am_I_sin c0]
  · rw [am_I_sin (by omega : (90 : Nat) ≠ 92), am_I_sin (by omega : (90 : Nat) ≠ 91), am_I_sis, am_I_sin (by omega : (91 : Nat) ≠ 92), am_I_sis, am_I_sin (by omega : (91 : Nat) ≠ 90), am_I_sis, am_I_sin (by omega : (92 : Nat) ≠ 91), am_I_sin (by omega : (92 : Nat) ≠ 90)]
    by_cases c : j = i
    · subst c
      rw [hq] at hq'
      cases hq'
      rw [va_up_at, va_up_at, va_up_at]
      exact ⟨rfl, rfl, rfl⟩
    · rw [va_up_no _ _ (by omega), va_up_no _ _ (by omega), va_up_no _ _ (by omega)]
      exact r j q' (by omega) hq'
theorem rfA.addPort {h h1 : am_H} {s : St} {M : List Tn} (m : rfA h s) (f : npF h h1 s.2.1.length) (r : npR h1 s.2.1.length M M.length) (g : gW M) (hl : s.2.1.length < 8) : rfA (am_si (am_si h1 89 s.2.1.length (ji (M.length : Int))) 87 5 (ji ((s.2.1.length : Int) + 1))) (stP s M) := by
  generalize hH : am_si (am_si h1 89 s.2.1.length (ji (M.length : Int))) 87 5 (ji ((s.2.1.length : Int) + 1)) = H
  obtain ⟨f1, f2, f3, f4, f5⟩ := f
  have n : ∀ k, k ≠ 5 → am_I H 87 k = am_I h 87 k := fun k hk => by rw [← hH, am_I_sis, va_up_no _ _ hk, am_I_sin (by omega), f4 87 (by omega) (by omega) (by omega)]
  have n5 : am_I H 87 5 = ji ((s.2.1.length : Int) + 1) := by rw [← hH, am_I_sis, va_up_at]
  have c : ∀ b, b ≠ 87 → (b < 89 ∨ 93 ≤ b) → am_I H b = am_I h b := fun b h1 h2 => by rw [← hH, am_I_sin h1, am_I_sin (by omega), f4 b (by omega) (by omega) (by omega)]
  have c89 : ∀ k, am_I H 89 k = va_up (am_I h 89) s.2.1.length (ji (M.length : Int)) k := fun k => by rw [← hH, am_I_sin (by omega), am_I_sis, f4 89 (by omega) (by omega) (by omega)]
  have cr : ∀ b, b = 90 ∨ b = 91 ∨ b = 92 → am_I H b = am_I h1 b := fun b hb => by rw [← hH, am_I_sin (by omega), am_I_sin (by omega)]
  have e1 : am_tg H = am_tg h := by rw [← hH]; exact f2
  have e2 : am_P H = am_P h := by rw [← hH]; exact f3
  obtain ⟨m1, m2, m3, m4, m5, m6, m7⟩ := m
  have el : (s.2.1 ++ [M]).length = s.2.1.length + 1 := by rw [List.length_append]; rfl
  refine ⟨?_, ?_, ⟨?_, ?_, fun i P hP => ?_⟩, ?_, ?_, ?_, ?_⟩
  · unfold rfF
    rw [e1, e2]
    exact m1
  · unfold rfT
    rw [n 1 (by omega), c 88 (by omega) (by omega)]
    exact m2
  · show am_I H 87 5 = ji ((s.2.1 ++ [M]).length : Int)
    rw [n5, el]
    rfl
  · show (s.2.1 ++ [M]).length ≤ 8
    omega
  · have hP : (s.2.1 ++ [M])[i]? = some P := hP
    unfold rpA
    rw [c89, cr 90 (by omega), cr 91 (by omega), cr 92 (by omega)]
    rcases get_snoc hP with hP | ⟨rfl, rfl⟩
    · have hi := (List.getElem?_eq_some_iff.mp hP).1
      obtain ⟨gP, rP⟩ := m3.2.2 i P hP
      have pl := gP.2.1
      rw [va_up_no _ _ (by omega)]
      refine ⟨gP, rP.1, fun j t ht => ?_⟩
      have hj := (List.getElem?_eq_some_iff.mp ht).1
      rw [f5 90 _ (by omega), f5 91 _ (by omega), f5 92 _ (by omega)]
      exact rP.2 j t ht
    · rw [va_up_at]
      exact ⟨g, rfl, fun j t ht => r j t (List.getElem?_eq_some_iff.mp ht).1 ht⟩
  · have m4' : rfL h s.2.1.length s.2.2.1 := m4
    show rfL H (s.2.1 ++ [M]).length s.2.2.1
    rw [el]
    unfold rfL rlA at m4' ⊢
    rw [n 10 (by omega), c 93 (by omega) (by omega), c 94 (by omega) (by omega), c 95 (by omega) (by omega), c 96 (by omega) (by omega), c 97 (by omega) (by omega)]
    refine ⟨m4'.1, m4'.2.1, fun i L hL => ?_⟩
    obtain ⟨x1, x2, x3, x4⟩ := m4'.2.2 i L hL
    exact ⟨x1, x2, by omega, x4⟩
  · unfold rfH rhA
    rw [n 16 (by omega), c 98 (by omega) (by omega), c 99 (by omega) (by omega), c 100 (by omega) (by omega)]
    exact m5
  · unfold rfR rrA
    rw [n 20 (by omega), c 101 (by omega) (by omega), c 102 (by omega) (by omega), c 103 (by omega) (by omega), c 104 (by omega) (by omega), c 105 (by omega) (by omega)]
    exact m6
  · unfold rfS
    rw [n 2 (by omega), n 3 (by omega), n 4 (by omega)]
    exact m7
theorem npF.fi {h h1 : am_H} {p : Nat} (f : npF h h1 p) : fi h h1 87 146 := ⟨f.1, f.2.1, f.2.2.1, fun b hb => f.2.2.2.1 b (by omega) (by omega) (by omega)⟩
theorem s_Ref_made {h h0 : am_H} {s : St} {B E : List Tn} {x : Int} {X : Int × St} {Q : Int32 → am_H → Prop} (e : X = cif (s.2.1.length < 8 ∧ (B ++ E).length ≤ 16) ((s.2.1.length : Int), stS (stP s (B ++ E)) 0) (rfs s 9)) (m : rfA h s) (te : tmA h E) (hE : E.length ≤ 130) (hB : (B = [] ∧ x = -1) ∨ ∃ p : Nat, x = (p : Int) ∧ s.2.1[p]? = some B) (g : (B ++ E).length ≤ 16 → gW (B ++ E)) (f0 : fi h0 h 87 146) (k : ∀ h', fi h0 h' 87 146 → rfA h' X.2 → Q (ji X.1) h') : am_Ei m_Ref_made 0 0 [.ref 87, .int (ji x)] h Q := by
  have i5 := m.2.2.1.1
  have l8 := m.2.2.1.2.1
  have i46 := te.1
  have no : ¬ (s.2.1.length < 8 ∧ (B ++ E).length ≤ 16) → am_Ei m_Ref_no 0 0 [.ref 87, .int 9] h Q := fun c => by
    rw [jk9]
    exact rf_no (X := X) (by rw [e]; exact cif_neg c) m f0 k
  have el : (B ++ E).length = B.length + E.length := List.length_append
  have yes : s.2.1.length < 8 → (B ++ E).length ≤ 16 → am_EI m_Ref_made 0 0 50 [.ref 87, .int (ji x), .int (ji (B.length : Int)), .int (ji (s.2.1.length : Int)), .int 0] [] h (am_qi Q) := by
    intro c8 c16
    have ek : X = ans (stP s (B ++ E)) (s.2.1.length : Int) := by rw [e]; exact cif_pos ⟨c8, c16⟩
    have loop2 : ∀ (n i : Nat) (h1 : am_H), i + n = E.length → npF h h1 s.2.1.length → npR h1 s.2.1.length (B ++ E) (B.length + i) → am_EI m_Ref_made 0 0 137 [.ref 87, .int (ji x), .int (ji (B.length : Int)), .int (ji (s.2.1.length : Int)), .int (ji (i : Int))] [] h1 (am_qi Q) := by
      intro n
      induction n with
      | zero =>
        intro i h1 hi f1 r1
        have m1 : rfF h1 := by unfold rfF; rw [f1.2.1, f1.2.2.1]; exact m.1
        have j46 : am_I h1 87 46 = ji (E.length : Int) := by rw [f1.2.2.2.1 87 (by omega) (by omega) (by omega)]; exact i46
        have j5 : am_I h1 87 5 = ji (s.2.1.length : Int) := by rw [f1.2.2.2.1 87 (by omega) (by omega) (by omega)]; exact i5
        refine sg_Ref_made_137 87 _ _ _ _ h1 _ ⟨m1.1, ?_⟩
        rw [j46, ji_le]
        refine ⟨fun _ => ⟨89, m1.p6, by rw [m1.t6], by rw [m1.t6, ji_in]; omega, ?_⟩, fun c => absurd (by omega) c⟩
        rw [am_I_sin (by omega : (87 : Nat) ≠ 89), j5, ji_tn, Int.toNat_natCast, ji_add, jk1, ji_add]
        have m2 := m.addPort (M := B ++ E) f1 (by rw [el, show E.length = i by omega]; exact r1) (g c16) c8
        rw [el, show ((B.length + E.length : Nat) : Int) = (B.length : Int) + (E.length : Int) by omega] at m2
        exact rf_an (X := X) ek m2 ((((f0.tr f1.fi).tr (fi.si (by omega) (by omega)))).tr (fi.si (by omega) (by omega))) k
      | succ n ih =>
        intro i h1 hi f1 r1
        have m1 : rfF h1 := by unfold rfF; rw [f1.2.1, f1.2.2.1]; exact m.1
        have j46 : am_I h1 87 46 = ji (E.length : Int) := by rw [f1.2.2.2.1 87 (by omega) (by omega) (by omega)]; exact i46
        obtain ⟨q, hq⟩ : ∃ q, E[i]? = some q := ⟨_, List.getElem?_eq_getElem (by omega)⟩
        obtain ⟨v1, v2, v3⟩ := te.2 i q hq
        have w1 : am_I h1 140 i = ji q.2.1 := by rw [f1.2.2.2.1 140 (by omega) (by omega) (by omega)]; exact v1
        have w2 : ∀ k v, am_I (am_si h1 90 k v) 139 i = ji q.2.2 := fun k v => by rw [am_I_sin (by omega), f1.2.2.2.1 139 (by omega) (by omega) (by omega)]; exact v2
        have w3 : ∀ k v k2 v2, am_I (am_si (am_si h1 90 k v) 91 k2 v2) 137 i = bi q.1 := fun k v k2 v2 => by rw [am_I_sin (by omega), am_I_sin (by omega), f1.2.2.2.1 137 (by omega) (by omega) (by omega)]; exact v3
        have e2 : (ji (s.2.1.length : Int) * 16 + ji (B.length : Int)) + ji (i : Int) = ji ((s.2.1.length * 16 + (B.length + i) : Nat) : Int) := by
          rw [jk16, ji_mul, ji_add, ji_add]
          exact congrArg ji (by omega)
        have t2 : (ji ((s.2.1.length * 16 + (B.length + i) : Nat) : Int)).toNatClampNeg = s.2.1.length * 16 + (B.length + i) := by rw [ji_tn, Int.toNat_natCast]
        have t3 : (ji (i : Int)).toNatClampNeg = i := by rw [ji_tn, Int.toNat_natCast]
        refine sg_Ref_made_137 87 _ _ _ _ h1 _ ⟨m1.1, ?_⟩
        rw [j46, ji_le, e2, t2, t3]
        refine ⟨fun c => absurd c (by omega), fun _ => ⟨90, m1.p7, 140, m1.p50, by rw [m1.t50], by rw [m1.t50, ji_in]; omega, by rw [m1.t7], by rw [m1.t7, ji_in]; omega, 91, m1.p8, 139, m1.p49, by rw [m1.t49], by rw [m1.t49, ji_in]; omega, by rw [m1.t8], by rw [m1.t8, ji_in]; omega, 92, m1.p9, 137, m1.p47, by rw [m1.t47], by rw [m1.t47, ji_in]; omega, by rw [m1.t9], by rw [m1.t9, ji_in]; omega, ?_⟩⟩
        rw [w1, w2, w3, jk1, ji_add]
        have hq' : (B ++ E)[B.length + i]? = some q := by
          rw [List.getElem?_append_right (by omega), show B.length + i - B.length = i by omega]
          exact hq
        obtain ⟨f2, r2⟩ := np_step f1 r1 hq'
        exact ⟨bi_01 _, ih (i + 1) _ (by omega) f2 r2⟩
    have loop1 : ∀ (n i : Nat) (h1 : am_H), i + n = B.length → npF h h1 s.2.1.length → npR h1 s.2.1.length (B ++ E) i → am_EI m_Ref_made 0 0 50 [.ref 87, .int (ji x), .int (ji (B.length : Int)), .int (ji (s.2.1.length : Int)), .int (ji (i : Int))] [] h1 (am_qi Q) := by
      intro n
      induction n with
      | zero =>
        intro i h1 hi f1 r1
        refine sg_Ref_made_50 87 _ _ _ _ h1 _ ?_
        rw [ji_le]
        exact ⟨fun _ => loop2 E.length 0 h1 (by omega) f1 (by rw [show B.length + 0 = i by omega]; exact r1), fun c => absurd (by omega) c⟩
      | succ n ih =>
        intro i h1 hi f1 r1
        have m1 : rfF h1 := by unfold rfF; rw [f1.2.1, f1.2.2.1]; exact m.1
        obtain ⟨p, hx, hp⟩ : ∃ p : Nat, x = (p : Int) ∧ s.2.1[p]? = some B := by
          rcases hB with ⟨z, -⟩ | z
          · rw [z] at hi
            have hi : i + (n + 1) = 0 := hi
            omega
          · exact z
        have pl := (List.getElem?_eq_some_iff.mp hp).1
        obtain ⟨gB, rB⟩ := m.2.2.1.2.2 p B hp
        obtain ⟨q, hq⟩ : ∃ q, B[i]? = some q := ⟨_, List.getElem?_eq_getElem (by omega)⟩
        obtain ⟨v1, v2, v3⟩ := rB.2 i q hq
        have w1 : am_I h1 90 (p * 16 + i) = ji q.2.1 := by rw [f1.2.2.2.2 90 _ (by omega)]; exact v1
        have w2 : ∀ k v, am_I (am_si h1 90 k v) 91 (p * 16 + i) = ji q.2.2 := fun k v => by rw [am_I_sin (by omega), f1.2.2.2.2 91 _ (by omega)]; exact v2
        have w3 : ∀ k v k2 v2, am_I (am_si (am_si h1 90 k v) 91 k2 v2) 92 (p * 16 + i) = bi q.1 := fun k v k2 v2 => by rw [am_I_sin (by omega), am_I_sin (by omega), f1.2.2.2.2 92 _ (by omega)]; exact v3
        have e1 : ji (p : Int) * 16 + ji (i : Int) = ji ((p * 16 + i : Nat) : Int) := by
          rw [jk16, ji_mul, ji_add]
          exact congrArg ji (by omega)
        have e2 : ji (s.2.1.length : Int) * 16 + ji (i : Int) = ji ((s.2.1.length * 16 + i : Nat) : Int) := by
          rw [jk16, ji_mul, ji_add]
          exact congrArg ji (by omega)
        have t1 : (ji ((p * 16 + i : Nat) : Int)).toNatClampNeg = p * 16 + i := by rw [ji_tn, Int.toNat_natCast]
        have t2 : (ji ((s.2.1.length * 16 + i : Nat) : Int)).toNatClampNeg = s.2.1.length * 16 + i := by rw [ji_tn, Int.toNat_natCast]
        rw [hx] at ih ⊢
        refine sg_Ref_made_50 87 _ _ _ _ h1 _ ?_
        rw [ji_le, e1, e2, t1, t2]
        refine ⟨fun c => absurd c (by omega), fun _ => ⟨m1.1, 90, m1.p7, by rw [m1.t7], by rw [m1.t7, ji_in]; omega, by rw [m1.t7, ji_in]; omega, 91, m1.p8, by rw [m1.t8], by rw [m1.t8, ji_in]; omega, by rw [m1.t8, ji_in]; omega, 92, m1.p9, by rw [m1.t9], by rw [m1.t9, ji_in]; omega, by rw [m1.t9, ji_in]; omega, ?_⟩⟩
        rw [w1, w2, w3, jk1, ji_add]
        have hq' : (B ++ E)[i]? = some q := by
          rw [List.getElem?_append_left (by omega)]
          exact hq
        obtain ⟨f2, r2⟩ := np_step f1 r1 hq'
        exact ⟨bi_01 _, ih (i + 1) _ (by omega) f2 r2⟩
    exact loop1 B.length 0 h (by omega) ⟨rfl, rfl, rfl, fun _ _ _ _ => rfl, fun _ _ _ => rfl⟩ (fun j q hj => absurd hj (by omega))
  rcases hB with ⟨rfl, rfl⟩ | ⟨p, rfl, hp⟩
  · refine ev_Ref_made 87 (ji (-1)) h Q ⟨fun c => absurd c (by decide), fun _ => ⟨m.1.1, ?_⟩⟩
    have el : ([] ++ E : List Tn).length = E.length := rfl
    rw [i5, i46, jk8, ji_eq, jk0, ji_add, jk16, ji_le]
    exact ⟨fun c => no (by omega), fun c => ⟨fun c2 => yes (by omega) (by omega), fun c2 => no (by omega)⟩⟩
  · have pl := (List.getElem?_eq_some_iff.mp hp).1
    obtain ⟨gB, rB⟩ := m.2.2.1.2.2 p B hp
    have bl := gB.2.1
    have tn : (ji (p : Int)).toNatClampNeg = p := by rw [ji_tn, Int.toNat_natCast]
    refine ev_Ref_made 87 (ji (p : Int)) h Q ⟨fun _ => ⟨m.1.1, 89, m.1.p6, by rw [m.1.t6], by rw [m.1.t6, ji_in]; omega, ?_⟩, fun c => absurd (by rw [jk0, ji_le]; omega) c⟩
    rw [tn, rB.1, i5, i46, jk8, ji_eq, ji_add, jk16, ji_le]
    exact ⟨fun c => no (by omega), fun c => ⟨fun c2 => yes (by omega) (by omega), fun c2 => no (by omega)⟩⟩
/-- a table behind turns of a port, or behind none -/
theorem rf_tbl {h0 h : am_H} {s : St} {B : List Tn} {D : List Tn} {x : Int} {y : Int} {X : Int × St} {Q : Int32 → am_H → Prop} (e : X = kpP s (flw B D).1 (flw B D).2) (fs : stF s 0 = s) (m : rfA h s) (d : tdA h D) (hD : D.length ≤ 24) (hD0 : 0 < D.length) (hB : (B = [] ∧ x = -1) ∨ ∃ p : Nat, x = (p : Int) ∧ s.2.1[p]? = some B) (hy : (B = [] ∧ y = -1) ∨ ∃ p : Nat, y = (p : Int) * 16 + B.length - 1 ∧ s.2.1[p]? = some B) (f0 : fi h0 h 87 146) (k : ∀ h', fi h0 h' 87 146 → rfA h' X.2 → Q (ji X.1) h') : am_Ei m_Ref_faultOfTurns 0 0 [.ref 87, .int (ji y)] h (fun r h1 => (r ≤ 0 → (am_tg h1 87 = (12, 56) ∧ am_Ei m_Ref_made 0 0 [.ref 87, .int (ji x)] h1 (fun r1 h2 => Q r1 h2))) ∧ (¬ r ≤ 0 → (am_tg h1 87 = (12, 56) ∧ am_Ei m_Ref_faulty 0 0 [.ref 87, .int r] h1 (fun r1 h2 => Q r1 h2)))) := by
  have w : pW B ∧ B.length ≤ 16 := by
    rcases hB with ⟨rfl, -⟩ | ⟨p, -, hp⟩
    · exact ⟨pW_nil, by decide⟩
    · have g := (m.2.2.1.2.2 p B hp).1
      exact ⟨g.pW, g.2.1⟩
  refine s_Ref_faultOfTurns (B := B) m.1 d hD w.2 w.1 ?_ (fun h1 f1 hE => ?_)
  · rcases hy with ⟨rfl, rfl⟩ | ⟨p, rfl, hp⟩
    · exact Or.inl ⟨rfl, rfl⟩
    · obtain ⟨g, r⟩ := m.2.2.1.2.2 p B hp
      have pl := (List.getElem?_eq_some_iff.mp hp).1
      have l8 := m.2.2.1.2.1
      have b0 := g.1.1
      have b1 := g.2.1
      obtain ⟨t, ht⟩ : ∃ t, B[B.length - 1]? = some t := ⟨_, List.getElem?_eq_getElem (by omega)⟩
      obtain ⟨z1, z2, z3⟩ := pt_last (by omega) ht
      obtain ⟨v1, v2, v3⟩ := r.2 _ t ht
      refine Or.inr ⟨fun z => (by rw [z] at b0; exact absurd b0 (by decide)), by omega, by omega, ?_⟩
      rw [z1, z2, z3, show ((p : Int) * 16 + (B.length : Int) - 1).toNat = p * 16 + (B.length - 1) by omega]
      exact ⟨v1, v2, v3⟩
  · have fb := flw_bd D B
    have f1k : rk h h1 := ⟨f1.1, f1.2.1, f1.2.2.1, fun b hb => f1.2.2.2 b (by omega), fun j _ => by rw [f1.2.2.2 87 (by omega)]⟩
    have m1 : rfA h1 s := m.rk f1k
    have F1 : fi h0 h1 87 146 := f0.tr (f1.wd (by omega) (by omega))
    rw [jk0, ji_le]
    refine ⟨fun c => ⟨m1.1.1, ?_⟩, fun c => ⟨m1.1.1, ?_⟩⟩
    · have c0 : (flw B D).1 = 0 := by omega
      obtain ⟨E, eE, lE, te, wE⟩ := hE c0
      refine s_Ref_made (B := B) (E := E) (X := X) ?_ m1 te (by omega) hB (fun c16 => wE.gW ?_ c16) F1 k
      · rw [e, c0, eE]
        unfold kpP
        rw [cif_pos rfl, fs]
      · rw [List.length_append]
        omega
    · refine s_Ref_faulty (X := X) ?_ m1 F1 k
      rw [e]
      unfold kpP
      rw [cif_neg (by omega)]
theorem rf_port {h : am_H} {s : St} {Q : Int32 → am_H → Prop} (m : rfA h s) (k : ∀ h', fi h h' 87 146 → rfA h' (p_port s).2 → Q (ji (p_port s).1) h') : am_Ei m_Ref_port 0 0 [.ref 87] h Q := by
  refine ev_Ref_port 87 h Q ⟨m.1.1, s_Ref_begins m.1 m.2.1 (fun h1 f1 t1 => ⟨t1.1.1, s_Ref_readTable t1 (fun h2 D f2 d2 t2 hD lD => ⟨t2.1.1, s_Ref_ends t2 ?_⟩)⟩)⟩
  have fk : rk (am_si h 87 4 0) h2 := (f1.rk (by omega)).tr f2.rk
  have eP : p_port s = rdP s (rdT s.1 24 (sk s.1 0, true)).2 (fun s' => kpP s' (flw [] (rdT s.1 24 (sk s.1 0, true)).1).1 (flw [] (rdT s.1 24 (sk s.1 0, true)).1).2) := rfl
  have ne : 0 < (rdT s.1 24 (sk s.1 0, true)).1.length := rdT_ne s.1 23 (sk s.1 0, true)
  generalize rdT s.1 24 (sk s.1 0, true) = R at hD eP ne ⊢
  have M := rf_read (e := R.2) (v := bi (rdW s.1 R.2)) m fk
  have F := fi_read (v := bi (rdW s.1 R.2)) (w := (if rdW s.1 R.2 then (-9999 : Int32) else ji (R.2.1 : Int))) fk
  have d3 : tdA (am_si (am_si (am_si h2 87 45 (bi (rdW s.1 R.2))) 87 3 (if rdW s.1 R.2 then (-9999 : Int32) else ji (R.2.1 : Int))) 87 1 0) D := by
    unfold tdA
    rw [am_I_sin (by omega : (137 : Nat) ≠ 87), am_I_sin (by omega : (137 : Nat) ≠ 87), am_I_sin (by omega : (137 : Nat) ≠ 87), am_I_sin (by omega : (138 : Nat) ≠ 87), am_I_sin (by omega : (138 : Nat) ≠ 87), am_I_sin (by omega : (138 : Nat) ≠ 87), am_I_sin (by omega : (139 : Nat) ≠ 87), am_I_sin (by omega : (139 : Nat) ≠ 87), am_I_sin (by omega : (139 : Nat) ≠ 87), am_I_sis, va_up_no _ _ (by decide), am_I_sis, va_up_no _ _ (by decide), am_I_sis, va_up_no _ _ (by decide)]
    exact d2
  generalize am_si (am_si (am_si h2 87 45 (bi (rdW s.1 R.2))) 87 3 (if rdW s.1 R.2 then (-9999 : Int32) else ji (R.2.1 : Int))) 87 1 0 = H at M F d3 ⊢
  rw [bi_0]
  refine ⟨fun c => ⟨M.1.1, ?_⟩, fun c => ⟨M.1.1, ?_⟩⟩
  rotate_left
  · rw [jk2]
    exact rf_no (X := p_port s) (by rw [eP]; exact cif_neg (by rw [c]; decide)) M F k
  have hw : rdW s.1 R.2 = true := by cases e1 : rdW s.1 R.2; exact absurd e1 c; rfl
  have ok : R.2.2 = true := by unfold rdW at hw; rw [Bool.and_eq_true] at hw; exact hw.1
  have eD := hD ok
  rw [← eD] at eP ne
  rw [jm1]
  exact rf_tbl (X := p_port s) (by rw [eP]; exact cif_pos hw) rfl M d3 lD ne (Or.inl ⟨rfl, rfl⟩) (Or.inl ⟨rfl, rfl⟩) F k
theorem rf_longer {h : am_H} {s : St} {n : Int} {Q : Int32 → am_H → Prop} (m : rfA h s) (hn : -2147483648 ≤ n ∧ n < 2147483648) (k : ∀ h', fi h h' 87 146 → rfA h' (p_longer s n).2 → Q (ji (p_longer s n).1) h') : am_Ei m_Ref_longer 0 0 [.ref 87, .int (ji n)] h Q := by
  refine ev_Ref_longer 87 (ji n) h Q ⟨m.1.1, s_Ref_isPort m hn (fun B e g r n0 n8 => ⟨fun _ => ⟨m.1.1, s_Ref_begins m.1 m.2.1 (fun h1 f1 t1 => ⟨t1.1.1, s_Ref_readTable t1 (fun h2 D f2 d2 t2 hD lD => ⟨t2.1.1, s_Ref_ends t2 ?_⟩)⟩)⟩, fun q => absurd q (by decide)⟩) (fun e => ⟨fun q => absurd rfl q, fun _ => ⟨m.1.1, s_Ref_refusedUnread (X := p_longer s n) (by unfold p_longer; rw [e]) m fi.rf k⟩⟩)⟩
  obtain ⟨g0, g1, g2⟩ := gt_some e
  have fk : rk (am_si h 87 4 0) h2 := (f1.rk (by omega)).tr f2.rk
  have eP : p_longer s n = rdP s (rdT s.1 24 (sk s.1 0, true)).2 (fun s' => kpP s' (flw B (rdT s.1 24 (sk s.1 0, true)).1).1 (flw B (rdT s.1 24 (sk s.1 0, true)).1).2) := by
    unfold p_longer
    rw [e]
    rfl
  have ne : 0 < (rdT s.1 24 (sk s.1 0, true)).1.length := rdT_ne s.1 23 (sk s.1 0, true)
  generalize rdT s.1 24 (sk s.1 0, true) = R at hD eP ne ⊢
  have M := rf_read (e := R.2) (v := bi (rdW s.1 R.2)) m fk
  have F := fi_read (v := bi (rdW s.1 R.2)) (w := (if rdW s.1 R.2 then (-9999 : Int32) else ji (R.2.1 : Int))) fk
  have d3 : tdA (am_si (am_si (am_si h2 87 45 (bi (rdW s.1 R.2))) 87 3 (if rdW s.1 R.2 then (-9999 : Int32) else ji (R.2.1 : Int))) 87 1 0) D := by
    unfold tdA
    rw [am_I_sin (by omega : (137 : Nat) ≠ 87), am_I_sin (by omega : (137 : Nat) ≠ 87), am_I_sin (by omega : (137 : Nat) ≠ 87), am_I_sin (by omega : (138 : Nat) ≠ 87), am_I_sin (by omega : (138 : Nat) ≠ 87), am_I_sin (by omega : (138 : Nat) ≠ 87), am_I_sin (by omega : (139 : Nat) ≠ 87), am_I_sin (by omega : (139 : Nat) ≠ 87), am_I_sin (by omega : (139 : Nat) ≠ 87), am_I_sis, va_up_no _ _ (by decide), am_I_sis, va_up_no _ _ (by decide), am_I_sis, va_up_no _ _ (by decide)]
    exact d2
  generalize am_si (am_si (am_si h2 87 45 (bi (rdW s.1 R.2))) 87 3 (if rdW s.1 R.2 then (-9999 : Int32) else ji (R.2.1 : Int))) 87 1 0 = H at M F d3 ⊢
  rw [bi_0]
  refine ⟨fun c => ⟨M.1.1, 89, M.1.p6, by rw [M.1.t6], by rw [M.1.t6, ji_in]; omega, ?_⟩, fun c => ⟨M.1.1, ?_⟩⟩
  rotate_left
  · rw [jk2]
    exact rf_no (X := p_longer s n) (by rw [eP]; exact cif_neg (by rw [c]; decide)) M F k
  have hw : rdW s.1 R.2 = true := by cases e1 : rdW s.1 R.2; exact absurd e1 c; rfl
  have ok : R.2.2 = true := by unfold rdW at hw; rw [Bool.and_eq_true] at hw; exact hw.1
  have eD := hD ok
  rw [← eD] at eP ne
  obtain ⟨gB, rB⟩ := M.2.2.1.2.2 n.toNat B g2
  have bl := gB.2.1
  rw [ji_tn, rB.1, jk16, jk1, ji_mul, ji_add, ji_sub]
  exact rf_tbl (X := p_longer s n) (by rw [eP]; exact cif_pos hw) rfl M d3 lD ne (Or.inr ⟨n.toNat, by omega, g2⟩) (Or.inr ⟨n.toNat, by omega, g2⟩) F k
