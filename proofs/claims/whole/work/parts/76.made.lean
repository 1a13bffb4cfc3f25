/-! drafts of ports: what is made of them -/
def pW (M : List Tn) : Prop := (∀ (i : Nat) (p q : Tn), M[i]? = some p → M[i + 1]? = some q → tnW p q) ∧ (∀ p ∈ M, (-500 ≤ p.2.2 ∧ p.2.2 ≤ 1500)) ∧ mB M
theorem pW_nil : pW [] := ⟨fun i p q h => by simp at h, fun p h => by simp at h, fun i p h => by simp at h⟩
theorem gW.pW {P : List Tn} (w : gW P) : pW P := ⟨w.1.2.1, w.1.2.2, w.2.2⟩
theorem pW.gW {P : List Tn} (w : pW P) (h0 : 0 < P.length) (h1 : P.length ≤ 16) : gW P := ⟨⟨h0, w.1, w.2.1⟩, h1, w.2.2⟩
theorem pW_snoc {M : List Tn} {q : Tn} (w : pW M) (hg : -500 ≤ q.2.2 ∧ q.2.2 ≤ 1500) (h0 : M.length = 0 → 0 ≤ q.2.1 ∧ q.2.1 ≤ 1439) (h1 : ∀ j p, j + 1 = M.length → M[j]? = some p → tnW p q) : pW (M ++ [q]) := by
  refine ⟨fun i p r hp hr => ?_, fun p hp => ?_, fun i p hp => ?_⟩
  · have hi := (List.getElem?_eq_some_iff.mp hr).1
    simp at hi
    rw [List.getElem?_append_left (by omega)] at hp
    by_cases e : i + 1 = M.length
    · rw [e, List.getElem?_append_right (by omega)] at hr
      simp at hr
      subst hr
      exact h1 i p e hp
    · rw [List.getElem?_append_left (by omega)] at hr
      exact w.1 i p r hp hr
  · rcases List.mem_append.mp hp with c | c
    · exact w.2.1 p c
    · simp at c
      subst c
      exact hg
  · have hi := (List.getElem?_eq_some_iff.mp hp).1
    simp at hi
    by_cases e : i = M.length
    · rw [e, List.getElem?_append_right (by omega)] at hp
      simp at hp
      subst hp
      rcases Nat.eq_zero_or_pos M.length with c | c
      · have := h0 c
        omega
      · obtain ⟨p, hp⟩ : ∃ p, M[M.length - 1]? = some p := ⟨_, List.getElem?_eq_getElem (by omega)⟩
        have h2 := (h1 (M.length - 1) p (by omega) hp).1
        have h3 := w.2.2 (M.length - 1) p hp
        omega
    · rw [List.getElem?_append_left (by omega)] at hp
      exact w.2.2 i p hp
theorem pt_last {M : List Tn} {j : Nat} {p : Tn} (e : j + 1 = M.length) (hp : M[j]? = some p) : ptH M ((M.length : Int) - 1) = p.1 ∧ ptM M ((M.length : Int) - 1) = p.2.1 ∧ ptG M ((M.length : Int) - 1) = p.2.2 := by
  rw [show (M.length : Int) - 1 = (j : Int) from by omega]
  exact ⟨ptH_at hp, ptM_at hp, ptG_at hp⟩
/-- a turn that has no fault goes on -/
theorem fN_snoc {M : List Tn} {b : Bool} {tm g : Int} (w : pW M) (ht : 0 ≤ tm ∧ tm ≤ 9999) (h : fN M b tm g = 0) : pW (M ++ [(b, nxM M tm, g)]) := by
  unfold fN at h
  by_cases c1 : 24 ≤ tm / 100 ∨ 60 ≤ tm % 100
  · rw [if_pos c1] at h
    cases h
  rw [if_neg c1] at h
  by_cases c2 : M.length ≠ 0 ∧ b = ptH M ((M.length : Int) - 1)
  · rw [if_pos c2] at h
    cases h
  rw [if_neg c2] at h
  by_cases c3 : fH M b g ≠ 0
  · rw [if_pos c3] at h
    exact absurd h c3
  rw [if_neg c3] at h
  have c3 : fH M b g = 0 := Classical.not_not.mp c3
  unfold fH at c3
  by_cases c4 : ¬ (-500 ≤ g ∧ g ≤ 1500)
  · rw [if_pos c4] at c3
    cases c3
  rw [if_neg c4] at c3
  refine pW_snoc w (by show -500 ≤ g ∧ g ≤ 1500; omega) (fun c => ?_) (fun j p e hp => ?_)
  · show 0 ≤ nxM M tm ∧ nxM M tm ≤ 1439
    unfold nxM
    rw [if_pos c]
    omega
  · obtain ⟨l1, l2, l3⟩ := pt_last e hp
    have hh := w.2.1 p (List.mem_of_getElem? hp)
    rw [if_neg (by omega), l3] at c3
    unfold fM at h
    rw [if_neg (by omega), l2] at h
    have c5 : 60 ≤ nxM M tm - p.2.1 ∧ nxM M tm - p.2.1 ≤ 800 := by
      refine Classical.byContradiction (fun n => ?_)
      rw [if_neg n] at h
      cases h
    have c6 : ¬ b = p.1 := fun e2 => c2 ⟨by omega, by rw [l1]; exact e2⟩
    refine ⟨c5, hh, by show -500 ≤ g ∧ g ≤ 1500; omega, ?_⟩
    cases b
    · have hp1 : p.1 = true := by cases e3 : p.1; exact absurd e3.symm c6; rfl
      have c7 : g < p.2.2 := by
        refine Classical.byContradiction (fun n => ?_)
        rw [if_neg (by simpa using n)] at c3
        cases c3
      simpa using ⟨hp1, c7⟩
    · have hp1 : p.1 = false := by cases e3 : p.1; rfl; exact absurd e3.symm c6
      have c7 : p.2.2 < g := by
        refine Classical.byContradiction (fun n => ?_)
        rw [if_neg (by simpa using n)] at c3
        cases c3
      simpa using ⟨hp1, c7⟩
/-- turns put behind turns: the first fault, and what stands till then -/
def flw : List Tn → List Tn → Int × List Tn
  | B, [] => (0, B)
  | B, d :: D => if fN B d.1 d.2.1 d.2.2 = 0 then flw (B ++ [(d.1, nxM B d.2.1, d.2.2)]) D else (fN B d.1 d.2.1 d.2.2, B)
theorem fo_loop {V : Value} (seg : ∀ (a : Nat) (x2 : Int32) (h : am_H) (Q : Option Value → am_H → Prop), (am_tg h a = (3, 7) ∧ (((am_I h a 3) ≤ x2 → Q (some (.int 0)) h) ∧ (¬ (am_I h a 3) ≤ x2 → ((24 ≤ x2 → Q (some (.int 0)) h) ∧ (¬ 24 ≤ x2 → (∃ b4, am_P h a 6 = some b4 ∧ (∃ b5, am_P h a 0 = some b5 ∧ ((am_tg h b5).1 = 21 ∧ (vp_in x2 (am_tg h b5).2 ∧ (∃ b6, am_P h a 1 = some b6 ∧ ((am_tg h b6).1 = 20 ∧ (vp_in x2 (am_tg h b6).2 ∧ (∃ b7, am_P h a 2 = some b7 ∧ ((am_tg h b7).1 = 20 ∧ (vp_in x2 (am_tg h b7).2 ∧ (am_tg h b4 = (2, 5) ∧ (am_Ei m_Port_faultOfNext 0 0 [.ref b4, .int (am_I h b5 x2.toNatClampNeg), .int (am_I h b6 x2.toNatClampNeg), .int (am_I h b7 x2.toNatClampNeg)] h (fun r20 h19 => ((r20 = 0 → (am_tg h19 a = (3, 7) ∧ (∃ b22, am_P h19 a 6 = some b22 ∧ (∃ b23, am_P h19 a 0 = some b23 ∧ ((am_tg h19 b23).1 = 21 ∧ (vp_in x2 (am_tg h19 b23).2 ∧ (∃ b25, am_P h19 a 1 = some b25 ∧ ((am_tg h19 b25).1 = 20 ∧ (vp_in x2 (am_tg h19 b25).2 ∧ (am_tg h19 b22 = (2, 5) ∧ (am_Ei m_Port_minuteOfNext 0 0 [.ref b22, .int (am_I h19 b25 x2.toNatClampNeg)] h19 (fun r36 h35 => (am_tg h35 a = (3, 7) ∧ (∃ b37, am_P h35 a 2 = some b37 ∧ ((am_tg h35 b37).1 = 20 ∧ (vp_in x2 (am_tg h35 b37).2 ∧ (am_tg h35 b22 = (2, 5) ∧ (am_Ew m_Port_add 0 0 [.ref b22, .int (am_I h19 b23 x2.toNatClampNeg), .int r36, .int (am_I h35 b37 x2.toNatClampNeg)] h35 (fun h43 => am_EI m_Draft_followOn 0 0 21 [.ref a, V, .int (x2 + 1), .float 0] [] h43 Q))))))))))))))))))) ∧ (¬ r20 = 0 → Q (some (.int r20)) h19)))))))))))))))))))) → am_EI m_Draft_followOn 0 0 21 [.ref a, V, .int x2, .float 0] [] h Q)
    {h : am_H} {a : Nat} {B D : List Tn} {Q : Int32 → am_H → Prop} (d : dfA h a D) (hB : B.length ≤ 16) (k : ∀ h', fi h h' (a + 6) (a + 10) → ptA h' (a + 6) 40 (flw B D).2 → pW (flw B D).2 → Q (ji (flw B D).1) h') :
    ∀ (n i : Nat) (h1 : am_H) (M : List Tn), i + n = D.length → M.length = B.length + i → pW M → fi h h1 (a + 6) (a + 10) → ptA h1 (a + 6) 40 M → flw M (D.drop i) = flw B D → am_EI m_Draft_followOn 0 0 21 [.ref a, V, .int (ji i), .float 0] [] h1 (am_qi Q) := by
  have h24 := d.2.2.1
  intro n
  induction n with
  | zero =>
    intro i h1 M hi hM w hf s e
    have d1 := d.kept hf (by omega)
    refine seg a (ji i) h1 _ ⟨d1.1.1, ?_⟩
    rw [d1.2.1, ji_le]
    refine ⟨fun _ => ?_, fun c => absurd (by omega) c⟩
    rw [List.drop_eq_nil_of_le (by omega), flw] at e
    rw [← e] at k
    exact k h1 hf s w
  | succ n ih =>
    intro i h1 M hi hM w hf s e
    have d1 := d.kept hf (by omega)
    obtain ⟨q, hq⟩ : ∃ q, D[i]? = some q := ⟨_, List.getElem?_eq_getElem (by omega)⟩
    have tn : (ji (i : Int)).toNatClampNeg = i := by rw [ji_tn]; omega
    obtain ⟨⟨s1, s2, s3, s4, s5, s6, s7, s8, s9, s10, s11, s12⟩, t1, t2, t3⟩ := id d1
    obtain ⟨q1, q2, q3, q4, q5⟩ := t3 i q hq
    refine seg a (ji i) h1 _ ⟨s1, ?_⟩
    rw [t1, jk24, ji_le, ji_le]
    refine ⟨fun c => absurd c (by omega), fun _ => ⟨fun c => absurd c (by omega), fun _ => ⟨a + 6, s7, a + 1, s2, by rw [s8], by rw [s8]; exact (ji_in).mpr (by omega), a + 2, s3, by rw [s9], by rw [s9]; exact (ji_in).mpr (by omega), a + 3, s4, by rw [s10], by rw [s10]; exact (ji_in).mpr (by omega), s.1, ?_⟩⟩⟩
    rw [tn, q1, q2, q3]
    rw [drop_cons hq, flw] at e
    have bn := nxM_bd s q4
    have hfn : fN M q.1 q.2.1 q.2.2 = 0 ∨ fN M q.1 q.2.1 q.2.2 = 1 ∨ fN M q.1 q.2.1 q.2.2 = 2 ∨ fN M q.1 q.2.1 q.2.2 = 3 ∨ fN M q.1 q.2.1 q.2.2 = 4 ∨ fN M q.1 q.2.1 q.2.2 = 5 := by
      unfold fN fH fM
      repeat' split
      all_goals first
        | omega
        | exact Or.inl rfl
        | exact Or.inr (Or.inl rfl)
        | exact Or.inr (Or.inr (Or.inl rfl))
        | exact Or.inr (Or.inr (Or.inr (Or.inl rfl)))
        | exact Or.inr (Or.inr (Or.inr (Or.inr (Or.inl rfl))))
        | exact Or.inr (Or.inr (Or.inr (Or.inr (Or.inr rfl))))
    refine s_Port_faultOfNext s q4 (by omega) ?_
    rw [jk0, ji_eq]
    refine ⟨fun c => ⟨s1, a + 6, s7, a + 1, s2, by rw [s8], by rw [s8]; exact (ji_in).mpr (by omega), a + 2, s3, by rw [s9], by rw [s9]; exact (ji_in).mpr (by omega), s.1, ?_⟩, fun c => ?_⟩
    · rw [q1, q2]
      refine s_Port_minuteOfNext s q4 ⟨s1, a + 3, s4, by rw [s10], by rw [s10]; exact (ji_in).mpr (by omega), s.1, ?_⟩
      rw [q3, jk1, ji_add]
      have w2 := fN_snoc w q4 c
      have bm : -100000 ≤ nxM M q.2.1 ∧ nxM M q.2.1 ≤ 100000 := by
        have := w2.2.2 M.length (q.1, nxM M q.2.1, q.2.2) (by rw [List.getElem?_append_right (by omega)]; simp)
        simp at this
        omega
      refine s_Port_add s bm (by omega) (by omega) (fun h2 f2 s2' => ?_)
      rw [if_pos c] at e
      exact ih (i + 1) h2 _ (by omega) (by simp; omega) w2 (hf.tr (f2.wd (by omega) (by omega))) s2' e
    · rw [if_neg c] at e
      rw [← e] at k
      exact k h1 hf s w
theorem s_Draft_followOn {h : am_H} {a b rb : Nat} {B D M0 : List Tn} {Q : Int32 → am_H → Prop} (d : dfA h a D) (s0 : ptA h (a + 6) 40 M0) (sb : ptA h b rb B) (hd : a + 10 ≤ b ∨ b + 4 ≤ a + 6) (hB : B.length ≤ 16) (w : pW B) (k : ∀ h', fi h h' (a + 6) (a + 10) → ptA h' (a + 6) 40 (flw B D).2 → pW (flw B D).2 → Q (ji (flw B D).1) h') : am_Ei m_Draft_followOn 0 0 [.ref a, .ref b] h Q := by
  refine ev_Draft_followOn a b h Q ⟨d.1.1, a + 6, d.1.2.2.2.2.2.2.1, s0.1, s_Port_clear s0 (fun h1 f1 s1 => ?_)⟩
  have d1 := d.kept f1 (by omega)
  refine ⟨d1.1.1, a + 6, d1.1.2.2.2.2.2.2.1, s1.1, s_Port_copyFrom s1 (sb.kept f1 (by omega)) (by omega) (by omega) (fun h2 f2 s2 => ?_)⟩
  rw [jk0]
  exact fo_loop (V := .ref b) (fun a x2 h Q t => sg_Draft_followOn_21 a b x2 h Q t) d hB k D.length 0 h2 B (by omega) (by omega) w (f1.tr f2) s2 (by rw [List.drop_zero])
theorem s_Draft_followOnN {h : am_H} {a : Nat} {D M0 : List Tn} {Q : Int32 → am_H → Prop} (d : dfA h a D) (s0 : ptA h (a + 6) 40 M0) (k : ∀ h', fi h h' (a + 6) (a + 10) → ptA h' (a + 6) 40 (flw [] D).2 → pW (flw [] D).2 → Q (ji (flw [] D).1) h') : am_Ei m_Draft_followOn 0 0 [.ref a, .null] h Q := by
  refine ev_Draft_followOnN a h Q ⟨d.1.1, a + 6, d.1.2.2.2.2.2.2.1, s0.1, s_Port_clear s0 (fun h1 f1 s1 => ?_)⟩
  rw [jk0]
  exact fo_loop (V := .null) (fun a x2 h Q t => sg_Draft_followOnN_21 a x2 h Q t) d (by simp) k D.length 0 h1 [] (by omega) (by simp) pW_nil f1 s1 (by rw [List.drop_zero])
/-- the turns of a second port -/
def shT (S1 S2 : Sh) (p : Tn) : Tn := (p.1, p.2.1 + (if p.1 then S1 else S2).1, shG (if p.1 then S1 else S2) p.2.2)
def okI (M : List Tn) (i : Nat) : Prop := ∀ q, M[i]? = some q → (-500 ≤ q.2.2 ∧ q.2.2 ≤ 1500) ∧ (i = 0 → 0 ≤ q.2.1 ∧ q.2.1 < 1440) ∧ ∀ j p, j + 1 = i → M[j]? = some p → (if q.1 then p.2.2 < q.2.2 else q.2.2 < p.2.2) ∧ 60 ≤ q.2.1 - p.2.1 ∧ q.2.1 - p.2.1 ≤ 800
def okT (M : List Tn) : Prop := ∀ i, okI M i
theorem okI_iff {N : List Tn} {i : Nat} {q : Tn} (hq : N[i]? = some q) : okI N i ↔ ((0 < i ∨ (0 ≤ q.2.1 ∧ q.2.1 < 1440)) ∧ fH (N.take i) q.1 q.2.2 = 0 ∧ fM (N.take i) q.2.1 = 0) := by
  have hi := (List.getElem?_eq_some_iff.mp hq).1
  have hl : (N.take i).length = i := by simp; omega
  unfold fH fM
  rw [hl]
  rcases Nat.eq_zero_or_pos i with c | c
  · subst c
    rw [if_pos rfl, if_pos rfl]
    constructor
    · intro h
      obtain ⟨h1, h2, h3⟩ := h q hq
      have := h2 rfl
      rw [if_neg (by omega)]
      exact ⟨by omega, rfl, rfl⟩
    · rintro ⟨h1, h2, -⟩ q' hq'
      cases hq.symm.trans hq'
      refine ⟨?_, fun _ => by omega, fun j p hj => by omega⟩
      refine Classical.byContradiction (fun n => ?_)
      rw [if_pos n] at h2
      cases h2
  · obtain ⟨p, hp⟩ : ∃ p, N[i - 1]? = some p := ⟨_, List.getElem?_eq_getElem (by omega)⟩
    obtain ⟨-, l2, l3⟩ := pt_last (M := N.take i) (j := i - 1) (p := p) (by omega) (by rw [List.getElem?_take_of_lt (by omega)]; exact hp)
    rw [hl] at l2 l3
    rw [if_neg (show ¬ i = 0 from by omega), if_neg (show ¬ i = 0 from by omega), l2, l3]
    constructor
    · intro h
      obtain ⟨h1, h2, h3⟩ := h q hq
      obtain ⟨h4, h5⟩ := h3 (i - 1) p (by omega) hp
      rw [if_neg (show ¬ ¬ (-500 ≤ q.2.2 ∧ q.2.2 ≤ 1500) from fun n => n h1), if_pos h4, if_pos h5]
      exact ⟨Or.inl c, rfl, rfl⟩
    · rintro ⟨-, h2, h3⟩ q' hq'
      cases hq.symm.trans hq'
      have c1 : -500 ≤ q.2.2 ∧ q.2.2 ≤ 1500 := by
        refine Classical.byContradiction (fun n => ?_)
        rw [if_pos n] at h2
        cases h2
      rw [if_neg (show ¬ ¬ (-500 ≤ q.2.2 ∧ q.2.2 ≤ 1500) from fun n => n c1)] at h2
      refine ⟨c1, fun e => by omega, fun j p' hj hp' => ?_⟩
      have e : j = i - 1 := by omega
      subst e
      cases hp.symm.trans hp'
      constructor
      · refine Classical.byContradiction (fun n => ?_)
        rw [if_neg n] at h2
        cases h2
      · refine Classical.byContradiction (fun n => ?_)
        rw [if_neg n] at h3
        cases h3
theorem s_Draft_shiftFrom {h : am_H} {a b rb : Nat} {S1 S2 : Sh} {P M0 : List Tn} {Q : Int32 → am_H → Prop} (d : dfF h a) (s1 : shA h (a + 4) S1) (s2 : shA h (a + 5) S2) (s0 : ptA h (a + 6) 40 M0) (sb : ptA h b rb P) (hd : a + 10 ≤ b ∨ b + 4 ≤ a + 6) (w : gW P)
    (k6 : ¬ (shO S1 ∧ shO S2) → ∀ h' M, fi h h' (a + 6) (a + 10) → ptA h' (a + 6) 40 M → Q (ji 6) h')
    (k7 : shO S1 ∧ shO S2 → ¬ okT (P.map (shT S1 S2)) → ∀ h' M, fi h h' (a + 6) (a + 10) → ptA h' (a + 6) 40 M → Q (ji 7) h')
    (k0 : shO S1 ∧ shO S2 → okT (P.map (shT S1 S2)) → ∀ h', fi h h' (a + 6) (a + 10) → ptA h' (a + 6) 40 (P.map (shT S1 S2)) → Q (ji 0) h') : am_Ei m_Draft_shiftFrom 0 0 [.ref a, .ref b] h Q := by
  have hP := w.2.1
  have hlb := sb.len
  have loop : shO S1 ∧ shO S2 → ∀ (n i : Nat) (h1 : am_H), i + n = P.length → fi h h1 (a + 6) (a + 10) → ptA h1 (a + 6) 40 ((P.map (shT S1 S2)).take i) → (∀ j, j < i → okI (P.map (shT S1 S2)) j) → am_EI m_Draft_shiftFrom 0 0 32 [.ref a, .ref b, .int (ji i), .float 0, .float 0, .float 0, .float 0, .float 0] [] h1 (am_qi Q) := by
    intro so n
    induction n with
    | zero =>
      intro i h1 hi hf s ho
      have sb1 := sb.kept hf (by omega)
      refine sg_Draft_shiftFrom_32 a b (ji i) h1 _ ⟨sb1.1, s_Port_turnCount sb1 ?_⟩
      rw [ji_le]
      refine ⟨fun _ => ?_, fun c => absurd (by omega) c⟩
      rw [List.take_of_length_le (by simp; omega)] at s
      refine k0 so (fun j => ?_) h1 hf s
      rcases Nat.lt_or_ge j i with c | c
      · exact ho j c
      · intro q hq
        rw [List.getElem?_eq_none (by simp; omega)] at hq
        cases hq
    | succ n ih =>
      intro i h1 hi hf s ho
      have sb1 := sb.kept hf (by omega)
      have d1 := d.kept hf.2.1 hf.2.2.1
      obtain ⟨p, hp⟩ : ∃ p, P[i]? = some p := ⟨_, List.getElem?_eq_getElem (by omega)⟩
      have hq : (P.map (shT S1 S2))[i]? = some (shT S1 S2 p) := by rw [List.getElem?_map, hp]; rfl
      have hh := w.1.2.2 p (List.mem_of_getElem? hp)
      have hm := w.mem (List.mem_of_getElem? hp)
      have bad : ¬ okI (P.map (shT S1 S2)) i → ∀ (v x5 x6 x7 : Int32) (c4 : Nat), am_EI m_Draft_shiftFrom 0 0 141 [.ref a, .ref b, .int (ji i), .int v, .ref c4, .int x5, .int x6, .int x7] [] h1 (am_qi Q) := by
        intro c v x5 x6 x7 c4
        refine sg_Draft_shiftFrom_141 a b c4 _ _ _ _ _ h1 _ ?_
        exact k7 so (fun o => c (o i)) h1 _ hf s
      -- from the shift on
      have go : ∀ (c4 : Nat) (S : Sh), (if p.1 then S1 else S2) = S → shO S → shA h1 c4 S → am_EI m_Draft_shiftFrom 0 0 61 [.ref a, .ref b, .int (ji i), .int (bi p.1), .float 0, .float 0, .float 0, .float 0] [.ref c4] h1 (am_qi Q) := by
        intro c4 S eS oS sS
        have eq1 : shT S1 S2 p = (p.1, p.2.1 + S.1, shG S p.2.2) := by unfold shT; rw [eS]
        rw [eq1] at hq
        have mb := shM_bd oS hh
        have gb := fdiv_bd mb (y := S.2.2.2.1 - S.2.1) (by have := oS.2.2.1; omega) (by decide)
        have o4 := oS.2.2.2.1
        have o5 := oS.2.2.2.2.1
        have gb2 : -2000000 ≤ shG S p.2.2 ∧ shG S p.2.2 ≤ 2000000 := by unfold shG; omega
        have iff := okI_iff hq
        dsimp only at iff
        -- with what it starts
        have tail : ∀ (y : Bool), (y = true ↔ (0 < i ∨ (0 ≤ p.2.1 + S.1 ∧ p.2.1 + S.1 < 1440))) → am_EI m_Draft_shiftFrom 0 0 109 [.ref a, .ref b, .int (ji i), .int (bi p.1), .ref c4, .int (ji (p.2.1 + S.1)), .int (ji (shG S p.2.2)), .float 0] [.int (bi y)] h1 (am_qi Q) := by
          intro y hy
          refine sg_Draft_shiftFrom_109 a b c4 _ _ _ _ (bi y) h1 _ ?_
          rw [bi_0]
          refine ⟨fun c => bad (fun o => ?_) _ _ _ _ _, fun c => ⟨d1.1, a + 6, d1.2.2.2.2.2.2.1, s.1, s_Port_faultOfHeight s (by omega) ?_⟩⟩
          · have := hy.mpr (iff.mp o).1
            rw [c] at this
            cases this
          have fHc : fH ((P.map (shT S1 S2)).take i) p.1 (shG S p.2.2) = 0 ∨ fH ((P.map (shT S1 S2)).take i) p.1 (shG S p.2.2) = 3 ∨ fH ((P.map (shT S1 S2)).take i) p.1 (shG S p.2.2) = 4 := by
            unfold fH
            repeat' split
            all_goals first
              | exact Or.inl rfl
              | exact Or.inr (Or.inl rfl)
              | exact Or.inr (Or.inr rfl)
          have fMc : fM ((P.map (shT S1 S2)).take i) (p.2.1 + S.1) = 0 ∨ fM ((P.map (shT S1 S2)).take i) (p.2.1 + S.1) = 5 := by
            unfold fM
            repeat' split
            all_goals first
              | exact Or.inl rfl
              | exact Or.inr rfl
          rw [jk0, ji_eq]
          refine ⟨fun c2 => bad (fun o => c2 (iff.mp o).2.1) _ _ _ _ _, fun c2 => ⟨d1.1, a + 6, d1.2.2.2.2.2.2.1, s.1, s_Port_faultOfMinute s (by omega) ?_⟩⟩
          rw [ji_eq]
          refine ⟨fun c3 => ⟨d1.1, a + 6, d1.2.2.2.2.2.2.1, s.1, ?_⟩, fun c3 => bad (fun o => c3 (iff.mp o).2.2) _ _ _ _ _⟩
          have oi := iff.mpr ⟨hy.mp (by cases e : y; exact absurd e c; rfl), c2, c3⟩
          have hg := (oi _ hq).1
          dsimp only at hg
          refine s_Port_add s (by omega) (by omega) (by simp; omega) (fun h2 f2 s2' => ?_)
          rw [← take_snoc hq] at s2'
          rw [jk1, ji_add]
          refine ih (i + 1) h2 (by omega) (hf.tr (f2.wd (by omega) (by omega))) s2' (fun j hj => ?_)
          rcases Nat.lt_or_ge j i with c | c
          · exact ho j c
          · have e : j = i := by omega
            subst e
            exact oi
        refine sg_Draft_shiftFrom_61 a b c4 _ _ h1 _ ⟨sb1.1, s_Port_minuteOf sb1 (by omega) ⟨sS.1, ?_⟩⟩
        rw [ptM_at hp]
        refine s_Shift_minuteFor sS ⟨sb1.1, s_Port_heightOf sb1 (by omega) ⟨sS.1, ?_⟩⟩
        rw [ptG_at hp]
        refine s_Shift_heightFor sS oS hh ?_
        rw [jk0, jk1440, ji_lt, ji_lt, ji_le]
        refine ⟨fun c => sg_Draft_shiftFrom_104 a b c4 _ _ _ _ h1 _ (tail true ⟨fun _ => Or.inl (by omega), fun _ => rfl⟩), fun c => ⟨fun c2 => sg_Draft_shiftFrom_108 a b c4 _ _ _ _ h1 _ (tail false ⟨fun q => (by cases q), fun q => (by omega)⟩), fun c2 => ⟨fun c3 => sg_Draft_shiftFrom_108 a b c4 _ _ _ _ h1 _ (tail false ⟨fun q => (by cases q), fun q => (by omega)⟩), fun c3 => sg_Draft_shiftFrom_104 a b c4 _ _ _ _ h1 _ (tail true ⟨fun _ => by omega, fun _ => rfl⟩)⟩⟩⟩
      refine sg_Draft_shiftFrom_32 a b (ji i) h1 _ ⟨sb1.1, s_Port_turnCount sb1 ?_⟩
      rw [ji_le]
      refine ⟨fun c => absurd c (by omega), fun _ => ⟨sb1.1, s_Port_isHigh sb1 (by omega) ?_⟩⟩
      rw [ptH_at hp, bi_0]
      refine ⟨fun c => ⟨d1.1, a + 5, d1.2.2.2.2.2.1, go (a + 5) S2 (by rw [c]; rfl) so.2 (s2.kept hf (by omega))⟩, fun c => ⟨d1.1, a + 4, d1.2.2.2.2.1, go (a + 4) S1 (by rw [if_pos (by cases e : p.1; exact absurd e c; rfl)]) so.1 (s1.kept hf (by omega))⟩⟩
  refine ev_Draft_shiftFrom a b h Q ⟨d.1, a + 6, d.2.2.2.2.2.2.1, s0.1, s_Port_clear s0 (fun h1 f1 t1 => ?_)⟩
  have d1 := d.kept f1.2.1 f1.2.2.1
  have s11 := s1.kept f1 (by omega)
  have s21 := s2.kept f1 (by omega)
  refine ⟨d1.1, a + 4, d1.2.2.2.2.1, s11.1, s_Shift_isSound s11 (fun o1 => ⟨fun c => absurd c (by decide), fun _ => ⟨d1.1, a + 5, d1.2.2.2.2.2.1, s21.1, s_Shift_isSound s21 (fun o2 => ⟨fun _ => loop ⟨o1, o2⟩ P.length 0 h1 (by omega) f1 t1 (fun j hj => by omega), fun c => absurd c (by decide)⟩) (fun o2 => ⟨fun c => absurd rfl c, fun _ => ?_⟩)⟩⟩) (fun o1 => ⟨fun _ => ?_, fun c => absurd rfl c⟩)⟩
  · exact sg_Draft_shiftFrom_27 a b h1 _ (k6 (fun o => o2 o.2) h1 _ f1 t1)
  · exact sg_Draft_shiftFrom_27 a b h1 _ (k6 (fun o => o1 o.1) h1 _ f1 t1)
