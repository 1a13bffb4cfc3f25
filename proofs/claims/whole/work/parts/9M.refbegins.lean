/-! the reference: a text begins and ends -/
theorem rfA.set {h h' : am_H} {s : St} {T : List Int} {a b c : Int} (m : rfA h s) (e1 : am_tg h' = am_tg h) (e2 : am_P h' = am_P h) (r : ∀ b, 89 ≤ b ∧ b < 106 → am_I h' b = am_I h b) (n : ∀ k, 5 ≤ k ∧ k < 26 → am_I h' 87 k = am_I h 87 k) (t : rfT h' T) (i2 : am_I h' 87 2 = ji a) (i3 : am_I h' 87 3 = ji b) (i4 : am_I h' 87 4 = ji c) : rfA h' (T, s.2.1, s.2.2.1, s.2.2.2.1, s.2.2.2.2.1, a, b, c) := by
  obtain ⟨m1, m2, m3, m4, m5, m6, m7⟩ := m
  refine ⟨?_, t, ?_, ?_, ?_, ?_, ⟨i2, i3, i4⟩⟩
  · unfold rfF
    rw [e1, e2]
    exact m1
  · unfold rfP rpA
    rw [n 5 (by omega), r 89 (by omega), r 90 (by omega), r 91 (by omega), r 92 (by omega)]
    exact m3
  · unfold rfL rlA
    rw [n 10 (by omega), r 93 (by omega), r 94 (by omega), r 95 (by omega), r 96 (by omega), r 97 (by omega)]
    exact m4
  · unfold rfH rhA
    rw [n 16 (by omega), r 98 (by omega), r 99 (by omega), r 100 (by omega)]
    exact m5
  · unfold rfR rrA
    rw [n 20 (by omega), r 101 (by omega), r 102 (by omega), r 103 (by omega), r 104 (by omega), r 105 (by omega)]
    exact m6
theorem rfA.flt {h : am_H} {s : St} (m : rfA h s) (v : Int) : rfA (am_si h 87 4 (ji v)) (stF s v) := by
  have n : ∀ k, k ≠ 4 → am_I (am_si h 87 4 (ji v)) 87 k = am_I h 87 k := fun k hk => by rw [am_I_sis, va_up_no _ _ hk]
  have r : ∀ b, b ≠ 87 → am_I (am_si h 87 4 (ji v)) b = am_I h b := fun b hb => by rw [am_I_sin hb]
  refine m.set rfl rfl (fun b hb => r b (by omega)) (fun k hk => n k (by omega)) ?_ ?_ ?_ ?_
  · unfold rfT
    rw [n 1 (by omega), r 88 (by omega)]
    exact m.2.1
  · rw [n 2 (by omega)]
    exact m.2.2.2.2.2.2.1
  · rw [n 3 (by omega)]
    exact m.2.2.2.2.2.2.2.1
  · rw [am_I_sis, va_up_at]
theorem rfA.tap {h : am_H} {s : St} {n : Nat} (m : rfA h s) (hn : n ≤ s.1.length) : rfA (am_si h 87 1 (ji n)) (stT s (s.1.take n)) := by
  have nn : ∀ k, k ≠ 1 → am_I (am_si h 87 1 (ji n)) 87 k = am_I h 87 k := fun k hk => by rw [am_I_sis, va_up_no _ _ hk]
  have r : ∀ b, b ≠ 87 → am_I (am_si h 87 1 (ji n)) b = am_I h b := fun b hb => by rw [am_I_sin hb]
  have hl : (s.1.take n).length = n := by rw [List.length_take]; omega
  refine m.set rfl rfl (fun b hb => r b (by omega)) (fun k hk => nn k (by omega)) ⟨?_, ?_, fun i b hb => ?_⟩ ?_ ?_ ?_
  · rw [am_I_sis, va_up_at, hl]
  · have := m.2.1.2.1
    omega
  · rw [r 88 (by omega)]
    refine m.2.1.2.2 i b ?_
    have hi := (List.getElem?_eq_some_iff.mp hb).1
    rw [List.getElem?_take_of_lt (by omega)] at hb
    exact hb
  · rw [nn 2 (by omega)]
    exact m.2.2.2.2.2.2.1
  · rw [nn 3 (by omega)]
    exact m.2.2.2.2.2.2.2.1
  · rw [nn 4 (by omega)]
    exact m.2.2.2.2.2.2.2.2
theorem s_Ref_begins {h : am_H} {T : List Int} {Q : am_H → Prop} (m : rfF h) (t : rfT h T) (k : ∀ h', kw (am_si h 87 4 0) h' 41 46 → tkA h' T (sk T 0, true) → Q h') : am_Ew m_Ref_begins 0 0 [.ref 87] h Q := by
  have F : kw (am_si h 87 4 0) (am_si (am_si (am_si h 87 41 0) 87 45 1) 87 4 0) 41 46 := by
    refine ⟨rfl, rfl, rfl, fun b hb => ?_, fun j hj => ?_⟩
    · rw [am_I_sin hb, am_I_sin hb, am_I_sin hb, am_I_sin hb]
    · by_cases q : j = 4
      · subst q
        rw [am_I_sis, va_up_at, am_I_sis, va_up_at]
      · rw [am_I_sis, va_up_no _ _ q, am_I_sis, va_up_no _ _ (by omega), am_I_sis, va_up_no _ _ (by omega), am_I_sis, va_up_no _ _ q]
  have t0 : rfT (am_si h 87 4 0) T := by
    unfold rfT
    rw [am_I_sis, va_up_no _ _ (by decide), am_I_sin (by omega)]
    exact t
  refine ev_Ref_begins 87 h Q ⟨m.1, s_Ref_next (e := 0) (b := true) (rfF.kw (h := am_si h 87 4 0) m F) (t0.kw F (by omega)) ?_ (Nat.zero_le _) ?_ (fun h' f' t' => k h' (F.tr (f'.wd (by omega) (by omega))) t')⟩
  · rw [am_I_sis, va_up_no _ _ (by decide), am_I_sis, va_up_no _ _ (by decide), am_I_sis, va_up_at]
    rfl
  · rw [am_I_sis, va_up_no _ _ (by decide), am_I_sis, va_up_at]
    rfl
theorem s_Ref_ends {h : am_H} {T : List Int} {s : Nat × Bool} {Q : Int32 → am_H → Prop} (t : tkA h T s) (k : Q (bi (rdW T s)) (am_si (am_si (am_si h 87 45 (bi (rdW T s))) 87 3 (if rdW T s then (-9999 : Int32) else ji (s.1 : Int))) 87 1 0)) : am_Ei m_Ref_ends 0 0 [.ref 87] h Q := by
  obtain ⟨m, tt, i42, i45, hp, h32, tok, val, e, i43, i44, i41, he, ht, hv, tv⟩ := id t
  have st : ji tok = ji 0 ↔ s.1 = T.length := by rw [ji_eq]; exact tv.stop
  have hA : ∀ v, am_I (am_si h 87 45 v) 87 45 = v := fun v => by rw [am_I_sis, va_up_at]
  have hC : ∀ v, am_I (am_si h 87 45 v) 87 42 = ji (s.1 : Int) := fun v => by rw [am_I_sis, va_up_no _ _ (by decide)]; exact i42
  have hB : ∀ v w, am_I (am_si (am_si (am_si h 87 45 v) 87 3 w) 87 1 0) 87 45 = v := fun v w => by rw [am_I_sis, va_up_no _ _ (by decide), am_I_sis, va_up_no _ _ (by decide), am_I_sis, va_up_at]
  refine ev_Ref_ends 87 h Q ⟨m.1, ?_⟩
  rw [hC 0, hC 1, hA 0, hA 1, hB 0 (ji (s.1 : Int)), hB 0 (-9999), hB 1 (ji (s.1 : Int)), hB 1 (-9999), i45, i43, bi_0, jk0]
  have no : rdW T s = false → am_b01 (ji 0) ∧ Q (ji 0) (am_si (am_si (am_si h 87 45 (ji 0)) 87 3 (ji (s.1 : Int))) 87 1 (ji 0)) := by
    intro q
    rw [q] at k
    exact ⟨bi_01 false, k⟩
  refine ⟨fun c => ⟨fun _ => no (by unfold rdW; rw [c, Bool.false_and]), fun q => absurd rfl q⟩, fun c => ⟨fun c0 => ⟨fun _ => no ?_, fun q => absurd rfl q⟩, fun c0 => ⟨fun q => absurd q (by decide), fun _ => ?_⟩⟩⟩
  · unfold rdW
    rw [decide_eq_false (fun q => c0 (st.mpr q)), Bool.and_false]
  · have s2 : s.2 = true := by cases e1 : s.2; exact absurd e1 c; rfl
    have q : rdW T s = true := by unfold rdW; rw [s2, decide_eq_true (st.mp c0)]; rfl
    rw [q] at k
    exact ⟨bi_01 true, k⟩
theorem rf_read {h h2 : am_H} {s : St} {e : Nat × Bool} {v : Int32} (m : rfA h s) (f : rk (am_si h 87 4 0) h2) : rfA (am_si (am_si (am_si h2 87 45 v) 87 3 (if rdW s.1 e then (-9999 : Int32) else ji (e.1 : Int))) 87 1 0) (rdS s e) := by
  have m2 : rfA h2 (stF s 0) := (m.flt 0).rk f
  generalize hw : (if rdW s.1 e then (-9999 : Int32) else ji (e.1 : Int)) = w
  have r : ∀ b, b ≠ 87 → am_I (am_si (am_si (am_si h2 87 45 v) 87 3 w) 87 1 0) b = am_I h2 b := fun b hb => by rw [am_I_sin hb, am_I_sin hb, am_I_sin hb]
  have n : ∀ k, k ≠ 1 → k ≠ 3 → k ≠ 45 → am_I (am_si (am_si (am_si h2 87 45 v) 87 3 w) 87 1 0) 87 k = am_I h2 87 k := fun k h1 h3 h5 => by rw [am_I_sis, va_up_no _ _ h1, am_I_sis, va_up_no _ _ h3, am_I_sis, va_up_no _ _ h5]
  unfold rdS
  refine rfA.set (s := stF s 0) m2 rfl rfl (fun b hb => r b (by omega)) (fun k hk => n k (by omega) (by omega) (by omega)) ⟨?_, by simp, fun i b hb => by simp at hb⟩ ?_ ?_ ?_
  · rw [am_I_sis, va_up_at]
    rfl
  · rw [n 2 (by omega) (by omega) (by omega)]
    exact m2.2.2.2.2.2.2.1
  · rw [am_I_sis, va_up_no _ _ (by decide), am_I_sis, va_up_at, ← hw]
    split <;> rfl
  · rw [n 4 (by omega) (by omega) (by omega)]
    exact m2.2.2.2.2.2.2.2.2
theorem fi_read {h h2 : am_H} {v w : Int32} (f : rk (am_si h 87 4 0) h2) : fi h (am_si (am_si (am_si h2 87 45 v) 87 3 w) 87 1 0) 87 146 := by
  have a : fi h (am_si h 87 4 0) 87 146 := fi.si (by omega) (by omega)
  have b : fi h2 (am_si h2 87 45 v) 87 146 := fi.si (by omega) (by omega)
  have c : fi (am_si h2 87 45 v) (am_si (am_si h2 87 45 v) 87 3 w) 87 146 := fi.si (by omega) (by omega)
  have d : fi (am_si (am_si h2 87 45 v) 87 3 w) (am_si (am_si (am_si h2 87 45 v) 87 3 w) 87 1 0) 87 146 := fi.si (by omega) (by omega)
  exact (((a.tr f.fi).tr b).tr c).tr d
theorem s_Ref_refusedUnread {h h0 : am_H} {s : St} {X : Int × St} {Q : Int32 → am_H → Prop} (e : X = unr s) (m : rfA h s) (f0 : fi h0 h 87 146) (k : ∀ h', fi h0 h' 87 146 → rfA h' X.2 → Q (ji X.1) h') : am_Ei m_Ref_refusedUnread 0 0 [.ref 87] h Q := by
  have m1 := m.tap (Nat.zero_le _)
  rw [List.take_zero] at m1
  refine ev_Ref_refusedUnread 87 h Q ⟨m.1.1, ?_⟩
  rw [jk1]
  exact rf_no (X := X) (s := stT s []) e m1 (f0.tr (fi.si (by omega) (by omega))) k
theorem s_Ref_faulty {h h0 : am_H} {s : St} {f : Int} {X : Int × St} {Q : Int32 → am_H → Prop} (e : X = rfs (stF s f) 4) (m : rfA h s) (f0 : fi h0 h 87 146) (k : ∀ h', fi h0 h' 87 146 → rfA h' X.2 → Q (ji X.1) h') : am_Ei m_Ref_faulty 0 0 [.ref 87, .int (ji f)] h Q := by
  refine ev_Ref_faulty 87 (ji f) h Q ⟨m.1.1, ?_⟩
  rw [jk4]
  exact rf_no (X := X) e (m.flt f) (f0.tr (fi.si (by omega) (by omega))) k
theorem rf_end {h : am_H} {s : St} {n : Int} {Q : Int32 → am_H → Prop} (m : rfA h s) (hn : -2147483648 ≤ n ∧ n < 2147483648) (k : ∀ h', fi h h' 87 146 → rfA h' (p_end s n).2 → Q (ji (p_end s n).1) h') : am_Ei m_Ref_end 0 0 [.ref 87, .int (ji n)] h Q := by
  have tl := m.2.1.2.1
  have fr0 : fi h h 87 146 := ⟨rfl, rfl, rfl, fun _ _ => rfl⟩
  refine ev_Ref_end 87 (ji n) h Q ⟨m.1.1, ?_⟩
  rw [m.2.1.1, jk0, jk3]
  refine s_Ref_isIn (by omega) (by omega) (by omega) (fun z => ⟨fun _ => ⟨m.1.1, ?_⟩, fun q => absurd q (by decide)⟩) (fun z => ⟨fun q => absurd rfl q, fun _ => ⟨m.1.1, rf_no (X := p_end s n) (cif_neg z) m fr0 k⟩⟩)
  obtain ⟨j, rfl⟩ : ∃ j : Nat, n = (j : Int) := ⟨n.toNat, by omega⟩
  have e : p_end s (j : Int) = ans (stT s (s.1.take j)) (j : Int) := cif_pos (by omega)
  exact rf_an (X := p_end s (j : Int)) e (m.tap (by omega)) (fr0.tr (fi.si (by omega) (by omega))) k
