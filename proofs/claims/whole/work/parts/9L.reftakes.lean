/-! the reference: taking pieces of a text -/
theorem nd_0 {T : List Int} {p : Nat} (h : ∀ c, T[p]? = some c → isD c = false) : nd T p = 0 := tw_no (T.drop p) 0 (Nat.zero_le _) (fun b hb => h b (by rw [List.getElem?_drop] at hb; exact hb))
theorem nd_1 {T : List Int} {p : Nat} {c : Int} (h : T[p]? = some c) (hd : isD c = true) : 1 ≤ nd T p := tw_yes (T.drop p) 0 c (Nat.zero_le _) (by rw [List.getElem?_drop]; exact h) hd
theorem nl_0 {T : List Int} {p : Nat} (h : ∀ c, T[p]? = some c → isL c = false) : nl T p = 0 := tw_no (T.drop p) 0 (Nat.zero_le _) (fun b hb => h b (by rw [List.getElem?_drop] at hb; exact hb))
theorem isL_D {c : Int} (h : isL c = true) : isD c = false := by
  unfold isL at h
  unfold isD
  rw [decide_eq_true_iff] at h
  exact decide_eq_false (by omega)
theorem spl_0 {T : List Int} {p : Nat} {w : List Int} (h : nl T p = 0) (hw : w.length ≠ 0) : spl T p w = false := by
  unfold spl
  rw [h, decide_eq_false (fun q => hw q.symm), Bool.false_and]
theorem wdI_0 {T : List Int} {p : Nat} (h : nl T p = 0) : wdI T p = -1 := by
  unfold wdI
  rw [spl_0 h (by decide +kernel), spl_0 h (by decide +kernel), spl_0 h (by decide +kernel), spl_0 h (by decide +kernel), spl_0 h (by decide +kernel), spl_0 h (by decide +kernel)]
  rfl
theorem tkV.num {T : List Int} {p : Nat} {tok val : Int} {e : Nat} (t : tkV T p tok val e) : (tok = 3 ↔ (1 ≤ nd T p ∧ nd T p ≤ 4)) ∧ (tok = 3 → val = nv T p (nd T p) ∧ e = p + nd T p) := by
  rcases t with ⟨a, b, c⟩ | ⟨c, hc, ⟨h1, h2, h3, h4⟩ | ⟨h1, h2, h3, h4, h5⟩ | ⟨h1, h2, h3, h4, h5⟩⟩
  · have n0 := nd_0 (T := T) (p := p) (fun c hc => by rw [List.getElem?_eq_none (by omega)] at hc; cases hc)
    exact ⟨⟨fun q => absurd q (by omega), fun q => absurd q (by omega)⟩, fun q => absurd q (by omega)⟩
  · have n0 := nd_0 (T := T) (p := p) (fun c' hc' => by rw [hc] at hc'; cases hc'; exact isL_D h1)
    have t3 : tok ≠ 3 := by rw [h4]; split <;> omega
    exact ⟨⟨fun q => absurd q t3, fun q => absurd q (by omega)⟩, fun q => absurd q t3⟩
  · have n1 := nd_1 hc h2
    by_cases c4 : 4 < nd T p
    · rw [if_pos c4] at h4
      exact ⟨⟨fun q => absurd q (by omega), fun q => absurd q (by omega)⟩, fun q => absurd q (by omega)⟩
    · rw [if_neg c4] at h4
      exact ⟨⟨fun _ => ⟨n1, by omega⟩, fun _ => h4⟩, fun _ => ⟨h5 (by omega), h3⟩⟩
  · have n0 := nd_0 (T := T) (p := p) (fun c' hc' => by rw [hc] at hc'; cases hc'; exact h2)
    have t3 : tok ≠ 3 := by rw [h5]; split <;> omega
    exact ⟨⟨fun q => absurd q t3, fun q => absurd q (by omega)⟩, fun q => absurd q t3⟩
theorem tkV.word {T : List Int} {p : Nat} {tok val : Int} {e : Nat} (t : tkV T p tok val e) : (tok = 2 ↔ 0 ≤ wdI T p) ∧ (tok = 2 → val = wdI T p ∧ e = p + nl T p) := by
  rcases t with ⟨a, b, c⟩ | ⟨c, hc, ⟨h1, h2, h3, h4⟩ | ⟨h1, h2, h3, h4, h5⟩ | ⟨h1, h2, h3, h4, h5⟩⟩
  · have n0 := wdI_0 (nl_0 (T := T) (p := p) (fun c hc => by rw [List.getElem?_eq_none (by omega)] at hc; cases hc))
    exact ⟨⟨fun q => absurd q (by omega), fun q => absurd q (by omega)⟩, fun q => absurd q (by omega)⟩
  · by_cases c4 : wdI T p < 0
    · rw [if_pos c4] at h4
      exact ⟨⟨fun q => absurd q (by omega), fun q => absurd q (by omega)⟩, fun q => absurd q (by omega)⟩
    · rw [if_neg c4] at h4
      exact ⟨⟨fun _ => by omega, fun _ => h4⟩, fun _ => ⟨h3, h2⟩⟩
  · have n0 := wdI_0 (nl_0 (T := T) (p := p) (fun c' hc' => by rw [hc] at hc'; cases hc'; exact h1))
    have t3 : tok ≠ 2 := by rw [h4]; split <;> omega
    exact ⟨⟨fun q => absurd q t3, fun q => absurd q (by omega)⟩, fun q => absurd q t3⟩
  · have n0 := wdI_0 (nl_0 (T := T) (p := p) (fun c' hc' => by rw [hc] at hc'; cases hc'; exact h1))
    have t3 : tok ≠ 2 := by rw [h5]; split <;> omega
    exact ⟨⟨fun q => absurd q t3, fun q => absurd q (by omega)⟩, fun q => absurd q t3⟩
theorem mks_bd {c : Int} (h : c ∈ mks) : (0 ≤ c ∧ c < 128) ∧ isL c = false ∧ isD c = false := by
  have : ∀ c ∈ mks, (0 ≤ c ∧ c < 128) ∧ isL c = false ∧ isD c = false := by decide
  exact this c h
theorem tkV.mark {T : List Int} {p : Nat} {tok val : Int} {e : Nat} (t : tkV T p tok val e) (hb : ∀ b, T[p]? = some b → 0 ≤ b ∧ b < 256) {c : Int} (hm : c ∈ mks) : (bt T (p : Int) = c ↔ tok = 4 ∧ val = c) ∧ (tok = 4 → e = p + 1) := by
  obtain ⟨m1, m2, m3⟩ := mks_bd hm
  rcases t with ⟨a, b, _⟩ | ⟨b, hc, ⟨h1, h2, h3, h4⟩ | ⟨h1, h2, h3, h4, h5⟩ | ⟨h1, h2, h3, h4, h5⟩⟩
  · rw [bt_no (by omega)]
    exact ⟨⟨fun q => absurd q (by omega), fun q => absurd q.1 (by omega)⟩, fun q => absurd q (by omega)⟩
  · have t4 : tok ≠ 4 := by rw [h4]; split <;> omega
    rw [bt_iff hc (hb b hc) m1]
    exact ⟨⟨fun q => absurd (q ▸ h1) (by rw [m2]; exact fun z => by cases z), fun q => absurd q.1 t4⟩, fun q => absurd q t4⟩
  · have t4 : tok ≠ 4 := by rw [h4]; split <;> omega
    rw [bt_iff hc (hb b hc) m1]
    exact ⟨⟨fun q => absurd (q ▸ h2) (by rw [m3]; exact fun z => by cases z), fun q => absurd q.1 t4⟩, fun q => absurd q t4⟩
  · rw [bt_iff hc (hb b hc) m1, h4]
    exact ⟨⟨fun q => ⟨by rw [h5, q, if_pos hm], q⟩, fun q => q.2⟩, fun _ => h3⟩
theorem tkV.stop {T : List Int} {p : Nat} {tok val : Int} {e : Nat} (t : tkV T p tok val e) : tok = 0 ↔ p = T.length := by
  rcases t with ⟨a, b, _⟩ | ⟨b, hc, ⟨h1, h2, h3, h4⟩ | ⟨h1, h2, h3, h4, h5⟩ | ⟨h1, h2, h3, h4, h5⟩⟩
  · exact ⟨fun _ => a, fun _ => b⟩
  all_goals
    have := (List.getElem?_eq_some_iff.mp hc).1
    refine ⟨fun q => ?_, fun q => by omega⟩
  · rw [h4] at q
    split at q <;> omega
  · rw [h4] at q
    split at q <;> omega
  · rw [h5] at q
    split at q <;> omega
theorem tkA.must {h : am_H} {T : List Int} {s : Nat × Bool} (t : tkA h T s) (b : Bool) : tkA (am_si h 87 45 (bi b)) T (s.1, b) := by
  obtain ⟨m, tt, i42, i45, hp, h32, tok, val, e, i43, i44, i41, he, ht, hv, tv⟩ := t
  have f : kw h (am_si h 87 45 (bi b)) 45 46 := kw.si (by omega)
  refine ⟨m.kw f, tt.kw f (by omega), ?_, ?_, hp, h32, tok, val, e, ?_, ?_, ?_, he, ht, hv, tv⟩
  · rw [f.2.2.2.2 42 (by omega)]; exact i42
  · rw [am_I_sis, va_up_at]
  · rw [f.2.2.2.2 43 (by omega)]; exact i43
  · rw [f.2.2.2.2 44 (by omega)]; exact i44
  · rw [f.2.2.2.2 41 (by omega)]; exact i41
theorem nv_bd {T : List Int} {p : Nat} (hp : p ≤ T.length) : ∀ (d : Nat), d ≤ nd T p → 0 ≤ nv T p d ∧ nv T p d < 10 ^ d := by
  intro d
  induction d with
  | zero => intro _; simp [nv]
  | succ d ihd =>
    intro h1
    obtain ⟨a1, a2⟩ := ihd (by omega)
    have hl := nd_le hp
    obtain ⟨c', hc2⟩ : ∃ c', T[p + d]? = some c' := ⟨_, List.getElem?_eq_getElem (by omega)⟩
    have dg : isD c' = true := by
      have h3 : (T.drop p)[d]? = some c' := by rw [List.getElem?_drop]; exact hc2
      cases e1 : isD c'
      · have := tw_no (f := isD) (T.drop p) d (by show d ≤ nd T p; omega) (fun b hb => by rw [h3] at hb; cases hb; exact e1)
        have : nd T p = d := this
        omega
      · rfl
    unfold isD at dg
    rw [decide_eq_true_iff] at dg
    rw [nv_step hc2, Int.pow_succ]
    omega
theorem vN_bd {T : List Int} {s : Nat × Bool} (hp : s.1 ≤ T.length) : 0 ≤ vN T s ∧ vN T s ≤ 9999 := by
  unfold vN
  split
  · rename_i c
    unfold dN at c
    rw [Bool.and_eq_true, decide_eq_true_iff] at c
    have := nv_bd hp (nd T s.1) (Nat.le_refl _)
    have pw : (10 : Int) ^ nd T s.1 ≤ 10000 := by
      generalize nd T s.1 = d at c
      obtain rfl | rfl | rfl | rfl : d = 1 ∨ d = 2 ∨ d = 3 ∨ d = 4 := by omega
      all_goals decide
    omega
  · omega
theorem s_Ref_takeN {h : am_H} {T : List Int} {s : Nat × Bool} {Q : Int32 → am_H → Prop} (t : tkA h T s) (k : ∀ h', kw h h' 41 46 → tkA h' T (aN T s) → (0 ≤ vN T s ∧ vN T s ≤ 9999) → Q (ji (vN T s)) h') : am_Ei m_Ref_take 0 0 [.ref 87, .int 3] h Q := by
  obtain ⟨m, tt, i42, i45, hp, h32, tok, val, e, i43, i44, i41, he, ht, hv, tv⟩ := id t
  obtain ⟨n1, n2⟩ := tv.num
  have vb := vN_bd hp
  have B0 : am_I (am_si h 87 45 0) 87 45 = 0 := by rw [am_I_sis, va_up_at]
  have B1 : am_I (am_si h 87 45 1) 87 45 = 1 := by rw [am_I_sis, va_up_at]
  have B4 : am_I (am_si h 87 45 1) 87 44 = ji val := by rw [am_I_sis, va_up_no _ _ (by decide)]; exact i44
  have bad : dN T s = false → Q 0 (am_si h 87 45 0) := by
    intro d
    unfold aN vN at k
    rw [d, if_neg (by decide), if_neg (by decide)] at k
    exact k _ (kw.si (by omega)) (t.must false) (by omega)
  refine ev_Ref_take 87 3 h Q ⟨m.1, ?_⟩
  rw [B0, B1, B4, i45, i43, bi_0, jk3, ji_eq]
  have no : (¬ (0 : Int32) = 0 → am_Ew m_Ref_next 0 0 [.ref 87] (am_si h 87 45 0) (fun h4 => Q (am_I (am_si h 87 45 0) 87 44) h4)) := fun q => absurd rfl q
  refine ⟨fun c => ⟨no, fun _ => bad (by unfold dN; rw [c, Bool.false_and])⟩, fun c => ⟨fun c3 => ⟨no, fun _ => bad ?_⟩, fun c3 => ⟨fun _ => ?_, fun q => absurd q (by decide)⟩⟩⟩
  · unfold dN
    rw [decide_eq_false (fun q => c3 (n1.mpr q)), Bool.and_false]
  · have st : s.2 = true := by cases e1 : s.2; exact absurd e1 c; rfl
    have d : dN T s = true := by unfold dN; rw [st, decide_eq_true (n1.mp c3)]; rfl
    obtain ⟨v1, v2⟩ := n2 c3
    have f1 : kw h (am_si h 87 45 1) 41 46 := kw.si (by omega)
    refine s_Ref_next (e := e) (b := true) (m.kw f1) (tt.kw f1 (by omega)) ?_ he B1 (fun h' f' t' => ?_)
    · rw [am_I_sis, va_up_no _ _ (by decide)]; exact i41
    · unfold aN vN at k
      unfold vN at vb
      rw [d, if_pos rfl] at k vb
      rw [if_pos rfl, st] at k
      rw [v1]
      rw [v2] at t'
      exact k h' (f1.tr (f'.wd (by omega) (by omega))) t' vb
theorem s_Ref_takeW {h : am_H} {T : List Int} {s : Nat × Bool} {Q : Int32 → am_H → Prop} (t : tkA h T s) (k0 : (s.2 && decide (0 ≤ wdI T s.1)) = false → ∀ h', kw h h' 41 46 → tkA h' T (s.1, false) → Q 0 h') (k1 : (s.2 && decide (0 ≤ wdI T s.1)) = true → ∀ h', kw h h' 41 46 → tkA h' T (sk T (s.1 + nl T s.1), true) → Q (ji (wdI T s.1)) h') : am_Ei m_Ref_take 0 0 [.ref 87, .int 2] h Q := by
  obtain ⟨m, tt, i42, i45, hp, h32, tok, val, e, i43, i44, i41, he, ht, hv, tv⟩ := id t
  obtain ⟨n1, n2⟩ := tv.word
  have B0 : am_I (am_si h 87 45 0) 87 45 = 0 := by rw [am_I_sis, va_up_at]
  have B1 : am_I (am_si h 87 45 1) 87 45 = 1 := by rw [am_I_sis, va_up_at]
  have B4 : am_I (am_si h 87 45 1) 87 44 = ji val := by rw [am_I_sis, va_up_no _ _ (by decide)]; exact i44
  have bad : (s.2 && decide (0 ≤ wdI T s.1)) = false → Q 0 (am_si h 87 45 0) := fun d => k0 d _ (kw.si (by omega)) (t.must false)
  refine ev_Ref_take 87 2 h Q ⟨m.1, ?_⟩
  rw [B0, B1, B4, i45, i43, bi_0, jk2, ji_eq]
  have no : (¬ (0 : Int32) = 0 → am_Ew m_Ref_next 0 0 [.ref 87] (am_si h 87 45 0) (fun h4 => Q (am_I (am_si h 87 45 0) 87 44) h4)) := fun q => absurd rfl q
  refine ⟨fun c => ⟨no, fun _ => bad (by rw [c, Bool.false_and])⟩, fun c => ⟨fun c3 => ⟨no, fun _ => bad ?_⟩, fun c3 => ⟨fun _ => ?_, fun q => absurd q (by decide)⟩⟩⟩
  · rw [decide_eq_false (fun q => c3 (n1.mpr q)), Bool.and_false]
  · have st : s.2 = true := by cases e1 : s.2; exact absurd e1 c; rfl
    obtain ⟨v1, v2⟩ := n2 c3
    have f1 : kw h (am_si h 87 45 1) 41 46 := kw.si (by omega)
    refine s_Ref_next (e := e) (b := true) (m.kw f1) (tt.kw f1 (by omega)) ?_ he B1 (fun h' f' t' => ?_)
    · rw [am_I_sis, va_up_no _ _ (by decide)]; exact i41
    · rw [v1]
      rw [v2] at t'
      exact k1 (by rw [st, decide_eq_true (n1.mp c3)]; rfl) h' (f1.tr (f'.wd (by omega) (by omega))) t'
theorem s_Ref_goes {h : am_H} {T : List Int} {s : Nat × Bool} {c : Int} {Q : Int32 → am_H → Prop} (t : tkA h T s) (hc : c ∈ mks) (k : ∀ h', kw h h' 41 46 → tkA h' T (aM T c s) → Q (bi (dM T c s)) h') : am_Ei m_Ref_goes 0 0 [.ref 87, .int (ji c)] h Q := by
  obtain ⟨m, tt, i42, i45, hp, h32, tok, val, e, i43, i44, i41, he, ht, hv, tv⟩ := id t
  obtain ⟨n1, n2⟩ := tv.mark (fun b hb => (tt.2.2 s.1 b hb).2) hc
  have cb := (mks_bd hc).1
  have bad : dM T c s = false → Q 0 h := by
    intro d
    unfold aM at k
    rw [d, if_neg (by decide)] at k
    exact k h kw.rf t
  refine ev_Ref_goes 87 (ji c) h Q ⟨m.1, ?_⟩
  rw [i45, i43, i44, bi_0, jk4, ji_eq, ji_eq]
  refine ⟨fun q => bad (by unfold dM; rw [q, Bool.false_and]), fun q => ⟨fun q4 => bad ?_, fun q4 => ⟨fun qv => bad ?_, fun qv => ?_⟩⟩⟩
  · unfold dM
    rw [decide_eq_false (fun z => q4 (n1.mp z).1), Bool.and_false]
  · unfold dM
    rw [decide_eq_false (fun z => qv (n1.mp z).2), Bool.and_false]
  · have st : s.2 = true := by cases e1 : s.2; exact absurd e1 q; rfl
    have d : dM T c s = true := by unfold dM; rw [st, decide_eq_true (n1.mpr ⟨q4, qv⟩)]; rfl
    refine s_Ref_next (e := e) (b := true) m tt i41 he (by rw [i45, st]) (fun h' f' t' => ?_)
    unfold aM at k
    rw [d, if_pos rfl, st] at k
    rw [n2 q4] at t'
    exact k h' (f'.wd (by omega) (by omega)) t'
theorem s_Ref_must {h : am_H} {T : List Int} {s : Nat × Bool} {b : Bool} {Q : am_H → Prop} (t : tkA h T s) (k : ∀ h', kw h h' 41 46 → tkA h' T (s.1, s.2 && b) → Q h') : am_Ew m_Ref_must 0 0 [.ref 87, .int (bi b)] h Q := by
  have i45 := t.2.2.2.1
  have z := fun v => k (am_si h 87 45 (bi v)) (kw.si (by omega))
  refine ev_Ref_must 87 (bi b) h Q ⟨t.1.1, ?_⟩
  rw [i45, bi_0, bi_0]
  refine ⟨fun c => ?_, fun c => ⟨fun cb => ?_, fun cb => ?_⟩⟩
  · rw [c] at z
    exact z false (t.must false)
  · rw [cb, Bool.and_false] at z
    exact z false (t.must false)
  · have st : s.2 = true := by cases e1 : s.2; exact absurd e1 c; rfl
    have bt : b = true := by cases e1 : b; exact absurd e1 cb; rfl
    rw [st, bt] at z
    exact z true (t.must true)
theorem aM_le {T : List Int} {c : Int} {s : Nat × Bool} (hc : 0 ≤ c) (hp : s.1 ≤ T.length) : (aM T c s).1 ≤ T.length := by
  unfold aM
  split
  · rename_i d
    exact (sk_le (by have := dM_lt hc d; omega)).2
  · exact hp
theorem s_Ref_size {h : am_H} {T : List Int} {s : Nat × Bool} {Q : Int32 → am_H → Prop} (t : tkA h T s) (k : ∀ h', kw h h' 41 46 → tkA h' T (aS T s) → (-9999 ≤ vS T s ∧ vS T s ≤ 9999) → Q (ji (vS T s)) h') : am_Ei m_Ref_size 0 0 [.ref 87] h Q := by
  unfold aS vS at k
  refine ev_Ref_size 87 h Q ⟨t.1.1, ?_⟩
  rw [jk45]
  refine s_Ref_goes t (by decide) (fun h1 f1 t1 => ⟨t1.1.1, s_Ref_takeN t1 (fun h2 f2 t2 b2 => ?_)⟩)
  rw [bi_0]
  refine ⟨fun c => ?_, fun c => ?_⟩
  · rw [c, if_neg (by decide)] at k
    exact k h2 (f1.tr f2) t2 (by omega)
  · have d : dM T 45 s = true := by cases e1 : dM T 45 s; exact absurd e1 c; rfl
    rw [d, if_pos rfl] at k
    rw [ji_neg]
    exact k h2 (f1.tr f2) t2 (by omega)
theorem s_Ref_step {h : am_H} {T : List Int} {s : Nat × Bool} {Q : Int32 → am_H → Prop} (t : tkA h T s) (k : ∀ h', kw h h' 41 46 → tkA h' T (aT T s) → (-9999 ≤ vT T s ∧ vT T s ≤ 9999) → Q (ji (vT T s)) h') : am_Ei m_Ref_step 0 0 [.ref 87] h Q := by
  unfold aT vT at k
  refine ev_Ref_step 87 h Q ⟨t.1.1, ?_⟩
  rw [jk45, jk43]
  refine s_Ref_goes t (by decide) (fun h1 f1 t1 => ?_)
  rw [bi_0]
  refine ⟨fun c => ⟨t1.1.1, s_Ref_takeN t1 (fun h2 f2 t2 b2 => ⟨fun q => absurd q c, fun _ => ?_⟩)⟩, fun c => ⟨t1.1.1, ?_⟩⟩
  · have d : dM T 45 s = true := by cases e1 : dM T 45 s; exact absurd e1 c; rfl
    have d3 : dM T 43 s = false := by
      have := (dM_lt (by decide) d).2.1
      unfold dM
      rw [decide_eq_false (by omega), Bool.and_false]
    have a3 : aM T 43 s = s := by unfold aM; rw [d3]; rfl
    have w5 : wM T 45 s = aM T 45 s := by unfold wM aM; rw [d]; rfl
    rw [d3, if_neg (by decide), if_neg (by decide), a3, w5] at k
    rw [ji_neg]
    exact k h2 (f1.tr f2) t2 (by omega)
  · have a5 : aM T 45 s = s := by unfold aM; rw [c]; rfl
    rw [a5] at t1
    refine s_Ref_goes t1 (by decide) (fun h2 f2 t2 => ⟨t2.1.1, s_Ref_must t2 (fun h3 f3 t3 => ⟨t3.1.1, s_Ref_takeN t3 (fun h4 f4 t4 b4 => ⟨fun _ => ?_, fun q => absurd c q⟩)⟩)⟩)
    have F := ((f1.tr f2).tr f3).tr f4
    cases d3 : dM T 43 s
    · have a3 : aM T 43 s = s := by unfold aM; rw [d3]; rfl
      have w5 : wM T 45 s = (s.1, false) := by unfold wM; rw [c]; rfl
      rw [d3, a3, Bool.and_false] at t4 b4
      rw [a3, Bool.and_false]
      rw [d3, if_neg (by decide), if_neg (by decide), a3, w5] at k
      have v0 : vN T (s.1, false) = 0 := by unfold vN dN; rfl
      rw [v0] at k ⊢
      exact k h4 F t4 (by omega)
    · rw [d3, Bool.and_true] at t4 b4
      rw [Bool.and_true]
      rw [d3, if_pos rfl, if_pos rfl] at k
      have b5 : 0 ≤ vN T (aM T 43 s) ∧ vN T (aM T 43 s) ≤ 9999 := b4
      exact k h4 F t4 (by omega)
