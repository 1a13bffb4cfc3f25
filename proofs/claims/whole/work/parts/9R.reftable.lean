/-! the reference: a table is read -/
def kt (h h' : am_H) : Prop := am_sz h' = am_sz h ∧ am_tg h' = am_tg h ∧ am_P h' = am_P h ∧ (∀ b, b ≠ 87 → (b < 137 ∨ 146 ≤ b) → am_I h' b = am_I h b) ∧ ∀ k, (k < 41 ∨ 47 ≤ k) → am_I h' 87 k = am_I h 87 k
theorem kt.rf {h : am_H} : kt h h := ⟨rfl, rfl, rfl, fun _ _ _ => rfl, fun _ _ => rfl⟩
theorem kt.tr {h h1 h2 : am_H} (a : kt h h1) (b : kt h1 h2) : kt h h2 := by
  obtain ⟨a1, a2, a3, a4, a5⟩ := a
  obtain ⟨b1, b2, b3, b4, b5⟩ := b
  exact ⟨b1.trans a1, b2.trans a2, b3.trans a3, fun b hb hc => (b4 b hb hc).trans (a4 b hb hc), fun k hk => (b5 k hk).trans (a5 k hk)⟩
theorem kt.of {h h' : am_H} (a : kw h h' 41 46) : kt h h' := ⟨a.1, a.2.1, a.2.2.1, fun b hb _ => a.2.2.2.1 b hb, fun k hk => a.2.2.2.2 k (by omega)⟩
theorem kt.row {h : am_H} {b k : Nat} {v : Int32} (hb : 137 ≤ b ∧ b < 146) : kt h (am_si h b k v) := ⟨rfl, rfl, rfl, fun c _ hc => by rw [am_I_sin (by omega)], fun j _ => by rw [am_I_sin (by omega)]⟩
theorem kt.slot {h : am_H} {v : Int32} : kt h (am_si h 87 46 v) := ⟨rfl, rfl, rfl, fun c hc _ => by rw [am_I_sin hc], fun j hj => by rw [am_I_sis, va_up_no _ _ (by omega)]⟩
theorem kt.rk {h h' : am_H} (a : kt h h') : rk h h' := ⟨a.1, a.2.1, a.2.2.1, fun b hb => a.2.2.2.1 b (by omega) (by omega), fun k hk => a.2.2.2.2 k (by omega)⟩
theorem tkA.row {h : am_H} {T : List Int} {s : Nat × Bool} {b k : Nat} {v : Int32} (t : tkA h T s) (h1 : b ≠ 87) (h2 : b ≠ 88) : tkA (am_si h b k v) T s := by
  obtain ⟨m, tt, r⟩ := t
  refine ⟨m, ?_, ?_⟩
  · unfold rfT
    rw [am_I_sin (fun e => h1 e.symm), am_I_sin (fun e => h2 e.symm)]
    exact tt
  · rw [am_I_sin (fun e => h1 e.symm)]
    exact r
theorem tkA.slot {h : am_H} {T : List Int} {s : Nat × Bool} {v : Int32} (t : tkA h T s) : tkA (am_si h 87 46 v) T s := by
  obtain ⟨m, tt, r⟩ := t
  have n : ∀ k, k ≠ 46 → am_I (am_si h 87 46 v) 87 k = am_I h 87 k := fun k hk => by rw [am_I_sis, va_up_no _ _ hk]
  refine ⟨m, ?_, ?_⟩
  · unfold rfT
    rw [n 1 (by omega), am_I_sin (by omega)]
    exact tt
  · rw [n 41 (by omega), n 42 (by omega), n 43 (by omega), n 44 (by omega), n 45 (by omega)]
    exact r
def tdA (h : am_H) (D : List Tn) : Prop := am_I h 87 46 = ji (D.length : Int) ∧ ∀ (i : Nat) (q : Tn), D[i]? = some q → am_I h 137 i = bi q.1 ∧ am_I h 138 i = ji q.2.1 ∧ am_I h 139 i = ji q.2.2 ∧ (0 ≤ q.2.1 ∧ q.2.1 ≤ 9999) ∧ (-9999 ≤ q.2.2 ∧ q.2.2 ≤ 9999)
theorem tdA.kw {h h' : am_H} {D : List Tn} (d : tdA h D) (f : kw h h' 41 46) : tdA h' D := by
  unfold tdA
  rw [f.2.2.2.2 46 (by omega), f.2.2.2.1 137 (by omega), f.2.2.2.1 138 (by omega), f.2.2.2.1 139 (by omega)]
  exact d
theorem tdA.snoc {h H : am_H} {D : List Tn} {b : Bool} {m g : Int} (d : tdA h D) (i46 : am_I H 87 46 = ji ((D.length : Int) + 1)) (r1 : am_I H 137 = va_up (am_I h 137) D.length (bi b)) (r2 : am_I H 138 = va_up (am_I h 138) D.length (ji m)) (r3 : am_I H 139 = va_up (am_I h 139) D.length (ji g)) (hm : 0 ≤ m ∧ m ≤ 9999) (hg : -9999 ≤ g ∧ g ≤ 9999) : tdA H (D ++ [(b, m, g)]) := by
  refine ⟨?_, fun i q hq => ?_⟩
  · rw [i46, List.length_append]
    rfl
  · rw [r1, r2, r3]
    rcases get_snoc hq with hq | ⟨rfl, rfl⟩
    · have hi := (List.getElem?_eq_some_iff.mp hq).1
      rw [va_up_no _ _ (by omega), va_up_no _ _ (by omega), va_up_no _ _ (by omega)]
      exact d.2 i q hq
    · rw [va_up_at, va_up_at, va_up_at]
      exact ⟨rfl, rfl, rfl, hm, hg⟩
theorem s_Ref_readTurn {h : am_H} {T : List Int} {s : Nat × Bool} {D : List Tn} {Q : am_H → Prop} (t : tkA h T s) (d : tdA h D) (hn : D.length < 130) (k : ∀ (h' : am_H) (b : Bool), kt h h' → tdA h' (D ++ [(b, (tnV T s).2)]) → tkA h' T (tnA T s) → ((tnA T s).2 = true → b = (tnV T s).1) → Q h') : am_Ew m_Ref_readTurn 0 0 [.ref 87] h Q := by
  have hb : ∀ (i : Nat) (b : Int), T[i]? = some b → 0 ≤ b ∧ b < 256 := fun i b hi => (t.2.1.2.2 i b hi).2
  obtain ⟨u1, u2⟩ := uS_eq (T := T) (s := s) hb
  have f53 : ∀ (h2 : am_H) (b : Bool), kt h h2 → tdA h2 D → tkA h2 T (uS T s) → ((uS T s).2 = true → b = dW T (wb 0) s) → am_EI m_Ref_readTurn 0 0 53 [.ref 87] [.int (bi b), .int (ji (D.length : Int)), .ref 137] h2 (am_qw Q) := by
    intro h2 b f2 d2 t2 hbw
    have m2 := t2.1
    refine sg_Ref_readTurn_53 87 137 _ _ h2 _ ⟨by rw [m2.t47], by rw [m2.t47, ji_in]; omega, bi_01 b, m2.1, 138, m2.p48, ?_⟩
    rw [am_I_sin (by omega : (87 : Nat) ≠ 137), d2.1, ji_tn, Int.toNat_natCast]
    have ta : tkA (am_si h2 137 D.length (bi b)) T (uS T s) := t2.row (by omega) (by omega)
    refine s_Ref_takeN ta (fun h3 f3 t3 b3 => ?_)
    have m3 := t3.1
    have i3 : am_I h3 87 46 = ji (D.length : Int) := by rw [f3.2.2.2.2 46 (by omega), am_I_sin (by omega)]; exact d2.1
    refine ⟨by rw [m3.t48], by rw [m3.t48, ji_in]; omega, m3.1, 139, m3.p49, ?_⟩
    rw [am_I_sin (by omega : (87 : Nat) ≠ 138), i3, ji_tn, Int.toNat_natCast]
    have tb : tkA (am_si h3 138 D.length (ji (vN T (uS T s)))) T (aN T (uS T s)) := t3.row (by omega) (by omega)
    refine s_Ref_size tb (fun h4 f4 t4 b4 => ?_)
    have m4 := t4.1
    have i4 : am_I h4 87 46 = ji (D.length : Int) := by rw [f4.2.2.2.2 46 (by omega), am_I_sin (by omega)]; exact i3
    refine ⟨by rw [m4.t49], by rw [m4.t49, ji_in]; omega, m4.1, ?_⟩
    rw [am_I_sin (by omega : (87 : Nat) ≠ 139), i4, jk1, ji_add]
    have F : kt h (am_si (am_si h4 139 D.length (ji (vS T (aN T (uS T s))))) 87 46 (ji ((D.length : Int) + 1))) := (((((f2.tr (kt.row (by omega))).tr (kt.of f3)).tr (kt.row (by omega))).tr (kt.of f4)).tr (kt.row (by omega))).tr kt.slot
    refine k _ b F (tdA.snoc d2 ?_ ?_ ?_ ?_ b3 b4) ((t4.row (by omega) (by omega)).slot) (fun q => hbw ?_)
    · rw [am_I_sis, va_up_at]
    · rw [am_I_sin (by omega), am_I_sin (by omega), f4.2.2.2.1 137 (by omega), am_I_sin (by omega), f3.2.2.2.1 137 (by omega), am_I_sis]
    · rw [am_I_sin (by omega), am_I_sin (by omega), f4.2.2.2.1 138 (by omega), am_I_sis, f3.2.2.2.1 138 (by omega), am_I_sin (by omega)]
    · rw [am_I_sin (by omega), am_I_sis, f4.2.2.2.1 139 (by omega), am_I_sin (by omega), f3.2.2.2.1 139 (by omega), am_I_sin (by omega)]
    · cases e : (uS T s).2
      · have e1 : aN T (uS T s) = uS T s := aN_f e
        have q' : (aN T (aM T 45 (aN T (uS T s)))).2 = true := q
        rw [e1] at q'
        have e2 : aM T 45 (uS T s) = uS T s := by unfold aM dM; rw [e]; rfl
        rw [e2, e1, e] at q'
        exact q'
      · rfl
  have f29 : am_EI m_Ref_readTurn 0 0 29 [.ref 87] [.int (bi (decide (0 ≤ wdI T s.1 ∧ wdI T s.1 ≤ 1))), .ref 87] h (am_qw Q) := by
    refine sg_Ref_readTurn_29 87 87 _ h _ ⟨t.1.1, s_Ref_must t (fun h2 f2 t2 => ⟨t2.1.1, 137, t2.1.p47, ?_⟩)⟩
    have d2 := d.kw f2
    rw [d2.1]
    refine s_Ref_takeW t2 (fun c h3 f3 t3 => ?_) (fun c h3 f3 t3 => ?_)
    · have c' : ((s.2 && decide (0 ≤ wdI T s.1 ∧ wdI T s.1 ≤ 1)) && decide (0 ≤ wdI T s.1)) = false := c
      have cf : ¬ (s.2 && decide (0 ≤ wdI T s.1 ∧ wdI T s.1 ≤ 1)) = true := by
        intro z
        rw [z, Bool.true_and] at c'
        rw [Bool.and_eq_true, decide_eq_true_iff] at z
        rw [decide_eq_true z.2.1] at c'
        cases c'
      rw [if_neg cf] at u1
      have t3' : tkA h3 T (uS T s) := by rw [u1]; exact t3
      exact ⟨fun q => absurd rfl q, fun _ => f53 h3 true ((kt.of f2).tr (kt.of f3)) (d2.kw f3) t3' (fun q => by rw [u1] at q; cases q)⟩
    · have c' : ((s.2 && decide (0 ≤ wdI T s.1 ∧ wdI T s.1 ≤ 1)) && decide (0 ≤ wdI T s.1)) = true := c
      rw [Bool.and_eq_true] at c'
      rw [if_pos c'.1] at u1
      have u3 := u2 c'.1
      have z := c'.1
      rw [Bool.and_eq_true, decide_eq_true_iff] at z
      have t3' : tkA h3 T (uS T s) := by rw [u1]; exact t3
      have e0 : (ji (wdI T s.1) = 0) ↔ wdI T s.1 = 0 := by rw [jk0, ji_eq]
      show (¬ ji (wdI T s.1) = 0 → am_EI m_Ref_readTurn 0 0 53 [.ref 87] [.int 0, .int (ji (D.length : Int)), .ref 137] h3 (am_qw Q)) ∧ (ji (wdI T s.1) = 0 → am_EI m_Ref_readTurn 0 0 53 [.ref 87] [.int 1, .int (ji (D.length : Int)), .ref 137] h3 (am_qw Q))
      rw [e0]
      refine ⟨fun q => f53 h3 false ((kt.of f2).tr (kt.of f3)) (d2.kw f3) t3' (fun _ => ?_), fun q => f53 h3 true ((kt.of f2).tr (kt.of f3)) (d2.kw f3) t3' (fun _ => ?_)⟩
      · rw [u3, decide_eq_false q]
      · rw [u3, decide_eq_true q]
  have y : ∀ v : Bool, v = decide (0 ≤ wdI T s.1 ∧ wdI T s.1 ≤ 1) → am_EI m_Ref_readTurn 0 0 29 [.ref 87] [.int (bi v), .ref 87] h (am_qw Q) := fun v hv => by rw [hv]; exact f29
  obtain ⟨tm, tt, i42, i45, hp, h32, tok, val, e, i43, i44, i41, he, ht, hv, tv⟩ := id t
  obtain ⟨y1, y2⟩ := tv.word
  refine ev_Ref_readTurn 87 h Q ⟨tm.1, ?_⟩
  have z2 : (am_I h 87 43 = 2) ↔ tok = 2 := by rw [i43, jk2, ji_eq]
  have z0 : (am_I h 87 44 = 0) ↔ val = 0 := by rw [i44, jk0, ji_eq]
  have z1 : (am_I h 87 44 = 1) ↔ val = 1 := by rw [i44, jk1, ji_eq]
  rw [z2, z0, z1]
  refine ⟨fun q => sg_Ref_readTurn_28 87 87 h _ (y false (decide_eq_false (fun z => q (y1.mpr z.1))).symm), fun q => ⟨fun q0 => sg_Ref_readTurn_24 87 87 h _ (y true (decide_eq_true ?_).symm), fun q0 => ⟨fun q1 => sg_Ref_readTurn_28 87 87 h _ (y false (decide_eq_false ?_).symm), fun q1 => sg_Ref_readTurn_24 87 87 h _ (y true (decide_eq_true ?_).symm)⟩⟩⟩
  · have := (y2 q).1
    omega
  · have := (y2 q).1
    omega
  · have := (y2 q).1
    omega
theorem tw_tw {α : Type} {f : α → Bool} : ∀ l : List α, ((l.drop (l.takeWhile f).length).takeWhile f).length = 0
  | [] => rfl
  | a :: l => by
    cases e : f a
    · rw [List.takeWhile_cons_of_neg (by rw [e]; decide)]
      show ((a :: l).takeWhile f).length = 0
      rw [List.takeWhile_cons_of_neg (by rw [e]; decide)]
      rfl
    · rw [List.takeWhile_cons_of_pos e]
      exact tw_tw l
theorem nd_nd (T : List Int) (p : Nat) : nd T (p + nd T p) = 0 := by
  have := tw_tw (f := isD) (T.drop p)
  rw [List.drop_drop] at this
  exact this
theorem sk_ge (T : List Int) (p : Nat) : p ≤ sk T p := Nat.le_add_right _ _
theorem aN_t {T : List Int} {s : Nat × Bool} (h : (aN T s).2 = true) : s.2 = true ∧ 1 ≤ nd T s.1 ∧ (aN T s).1 = sk T (s.1 + nd T s.1) := by
  unfold aN at h ⊢
  cases e : dN T s
  · rw [e, if_neg (by decide)] at h
    cases h
  · rw [if_pos rfl]
    unfold dN at e
    rw [Bool.and_eq_true, decide_eq_true_iff] at e
    exact ⟨e.1, e.2.1, rfl⟩
theorem aM_t {T : List Int} {c : Int} {s : Nat × Bool} : (aM T c s).2 = s.2 ∧ s.1 ≤ (aM T c s).1 ∧ (dM T c s = true → s.1 + 1 ≤ (aM T c s).1) ∧ (dM T c s = false → aM T c s = s) := by
  unfold aM
  cases e : dM T c s
  · rw [if_neg (by decide)]
    exact ⟨rfl, Nat.le_refl _, fun q => (by cases q), fun _ => rfl⟩
  · rw [if_pos rfl]
    have := sk_ge T (s.1 + 1)
    refine ⟨rfl, ?_, fun _ => this, fun q => by cases q⟩
    show s.1 ≤ sk T (s.1 + 1)
    omega
/-- a number behind a number has something between -/
theorem aS_t {T : List Int} {s : Nat × Bool} (h : (aS T (aN T s)).2 = true) : s.2 = true ∧ s.1 + 3 ≤ (aS T (aN T s)).1 := by
  obtain ⟨a1, a2, a3⟩ := aN_t (s := aM T 45 (aN T s)) h
  obtain ⟨b1, b2, b3, b4⟩ := aM_t (T := T) (c := 45) (s := aN T s)
  rw [b1] at a1
  obtain ⟨c1, c2, c3⟩ := aN_t a1
  refine ⟨c1, ?_⟩
  have e : (aS T (aN T s)).1 = sk T ((aM T 45 (aN T s)).1 + nd T (aM T 45 (aN T s)).1) := a3
  rw [e]
  have g1 := sk_ge T ((aM T 45 (aN T s)).1 + nd T (aM T 45 (aN T s)).1)
  have g2 := sk_ge T (s.1 + nd T s.1)
  rw [← c3] at g2
  cases d : dM T 45 (aN T s)
  · have b4 := b4 d
    rw [b4] at a2 g1 ⊢
    have nz : (aN T s).1 ≠ s.1 + nd T s.1 := by
      intro z
      rw [z, nd_nd] at a2
      omega
    omega
  · have := b3 d
    omega
theorem uS_t {T : List Int} {s : Nat × Bool} (h : (uS T s).2 = true) : s.2 = true ∧ s.1 + 2 ≤ (uS T s).1 := by
  unfold uS at h ⊢
  have l0 : (wb 0).length = 2 := by decide
  have l1 : (wb 1).length = 2 := by decide
  cases e : dW T (wb 0) s
  · rw [e, if_neg (by decide)] at h
    rw [if_neg (by decide)]
    have a0 : aW T (wb 0) s = s := by unfold aW; rw [e]; rfl
    rw [a0] at h ⊢
    unfold wW at h ⊢
    cases e1 : dW T (wb 1) s
    · rw [e1, if_neg (by decide)] at h
      cases h
    · rw [e1, if_pos rfl] at h
      rw [if_pos rfl]
      refine ⟨h, ?_⟩
      have := sk_ge T (s.1 + (wb 1).length)
      show s.1 + 2 ≤ sk T (s.1 + (wb 1).length)
      omega
  · rw [e, if_pos rfl] at h
    rw [if_pos rfl]
    unfold aW at h ⊢
    rw [e, if_pos rfl] at h
    rw [e, if_pos rfl]
    refine ⟨h, ?_⟩
    have := sk_ge T (s.1 + (wb 0).length)
    show s.1 + 2 ≤ sk T (s.1 + (wb 0).length)
    omega
theorem tn_adv {T : List Int} {s : Nat × Bool} (h : dM T 44 (tnA T s) = true) : s.1 + 6 ≤ (aM T 44 (tnA T s)).1 := by
  have h2 : (tnA T s).2 = true := by unfold dM at h; rw [Bool.and_eq_true] at h; exact h.1
  obtain ⟨a1, a2⟩ := aS_t (s := uS T s) h2
  obtain ⟨b1, b2⟩ := uS_t a1
  have c := (aM_t (T := T) (c := 44) (s := tnA T s)).2.2.1 h
  have a3 : (uS T s).1 + 3 ≤ (tnA T s).1 := a2
  omega
theorem s_Ref_readTable {h : am_H} {T : List Int} {s : Nat × Bool} {Q : am_H → Prop} (t : tkA h T s) (k : ∀ (h' : am_H) (D : List Tn), kt h h' → tdA h' D → tkA h' T (rdT T 24 s).2 → ((rdT T 24 s).2.2 = true → D = (rdT T 24 s).1) → D.length ≤ 24 → Q h') : am_Ew m_Ref_readTable 0 0 [.ref 87] h Q := by
  have tl := t.2.1.2.1
  have loop : ∀ (n : Nat) (s1 : Nat × Bool) (D0 D1 : List Tn) (h1 : am_H), kt h h1 → tkA h1 T (tnA T s1) → tdA h1 D1 → D1.length = D0.length + 1 → ((tnA T s1).2 = true → D1 = D0 ++ [tnV T s1]) → D0.length + n + 1 ≤ 24 → T.length < s1.1 + 6 * (n + 1) → (rdT T 24 s).2 = (rdT T (n + 1) s1).2 → (rdT T 24 s).1 = D0 ++ (rdT T (n + 1) s1).1 → am_EI m_Ref_readTable 0 0 9 [.ref 87] [] h1 (am_qw Q) := by
    intro n
    induction n with
    | zero =>
      intro s1 D0 D1 h1 f1 t1 d1 l1 e1 l2 b1 r2 r1
      have r2' : (rdT T 24 s).2 = tnA T s1 := r2
      have r1' : (rdT T 24 s).1 = D0 ++ [tnV T s1] := r1
      refine sg_Ref_readTable_9 87 h1 _ ⟨t1.1.1, ?_⟩
      rw [jk44]
      refine s_Ref_goes t1 (by decide) (fun h2 f2 t2 => ?_)
      have c : dM T 44 (tnA T s1) = false := by
        cases e : dM T 44 (tnA T s1)
        · rfl
        · have a := tn_adv e
          have b := t2.2.2.2.2.1
          omega
      have a := (aM_t (T := T) (c := 44) (s := tnA T s1)).2.2.2 c
      rw [a] at t2
      rw [c]
      refine ⟨fun _ => k h2 D1 (f1.tr (kt.of f2)) (d1.kw f2) (by rw [r2']; exact t2) (fun q => ?_) (by omega), fun q => absurd rfl q⟩
      rw [r2'] at q
      rw [r1', e1 q]
    | succ n ih =>
      intro s1 D0 D1 h1 f1 t1 d1 l1 e1 l2 b1 r2 r1
      refine sg_Ref_readTable_9 87 h1 _ ⟨t1.1.1, ?_⟩
      rw [jk44]
      refine s_Ref_goes t1 (by decide) (fun h2 f2 t2 => ?_)
      cases c : dM T 44 (tnA T s1)
      · have r2' : (rdT T 24 s).2 = aM T 44 (tnA T s1) := by
          rw [r2]
          unfold rdT
          rw [if_neg (by omega), c]
          rfl
        have r1' : (rdT T 24 s).1 = D0 ++ [tnV T s1] := by
          rw [r1]
          unfold rdT
          rw [if_neg (by omega), c]
          rfl
        have a := (aM_t (T := T) (c := 44) (s := tnA T s1)).2.2.2 c
        refine ⟨fun _ => k h2 D1 (f1.tr (kt.of f2)) (d1.kw f2) (by rw [r2']; exact t2) (fun q => ?_) (by omega), fun q => absurd rfl q⟩
        rw [r2', a] at q
        rw [r1', e1 q]
      · have r2' : (rdT T 24 s).2 = (rdT T (n + 1) (aM T 44 (tnA T s1))).2 := by
          rw [r2]
          show (rdT T (n + 1 + 1) s1).2 = _
          rw [rdT, if_neg (by omega), c]
          rfl
        have r1' : (rdT T 24 s).1 = D0 ++ (tnV T s1 :: (rdT T (n + 1) (aM T 44 (tnA T s1))).1) := by
          rw [r1]
          show D0 ++ (rdT T (n + 1 + 1) s1).1 = _
          rw [rdT, if_neg (by omega), c]
          rfl
        have adv := tn_adv c
        have ok : (tnA T s1).2 = true := by unfold dM at c; rw [Bool.and_eq_true] at c; exact c.1
        have eD := e1 ok
        refine ⟨fun q => absurd q (by decide), fun _ => ⟨t2.1.1, s_Ref_readTurn t2 (d1.kw f2) (by omega) (fun h3 b f3 d3 t3 hb3 => ?_)⟩⟩
        refine ih (aM T 44 (tnA T s1)) D1 _ h3 ((f1.tr (kt.of f2)).tr f3) t3 d3 (by rw [List.length_append]; rfl) (fun q => ?_) (by omega) (by omega) r2' (by rw [r1', eD, List.append_assoc]; rfl)
        rw [hb3 q]
  refine ev_Ref_readTable 87 h Q ⟨t.1.1, ?_⟩
  have d0 : tdA (am_si h 87 46 0) [] := ⟨by rw [am_I_sis, va_up_at]; rfl, fun i q hq => by simp at hq⟩
  refine s_Ref_readTurn (t.slot (v := 0)) d0 (by decide) (fun h1 b f1 d1 t1 hb1 => ?_)
  refine loop 23 s [] _ h1 (kt.slot.tr f1) t1 d1 rfl (fun q => ?_) (by decide) (by omega) rfl rfl
  rw [hb1 q]
