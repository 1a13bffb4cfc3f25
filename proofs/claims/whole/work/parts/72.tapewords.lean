/-! words and numbers on the tape -/
def isL (b : Int) : Bool := decide (97 ≤ b ∧ b ≤ 122)
def isD (b : Int) : Bool := decide (48 ≤ b ∧ b ≤ 57)
theorem s_Tape_isLetter {x : Int} {h : am_H} {Q : Int32 → am_H → Prop} (hx : -2147483648 ≤ x ∧ x < 2147483648) (k : Q (bi (isL x)) h) : am_Ei m_Tape_isLetter 0 0 [.int (ji x)] h Q := by
  refine ev_Tape_isLetter (ji x) h Q ?_
  rw [jk97, jk122, ji_lt, ji_lt]
  unfold isL at k
  refine ⟨fun c => ?_, fun c => ⟨fun c2 => ?_, fun c2 => ?_⟩⟩
  · rw [decide_eq_false (by omega)] at k
    exact k
  · rw [decide_eq_false (by omega)] at k
    exact k
  · rw [decide_eq_true (by omega)] at k
    exact k
theorem s_Tape_isDigit {x : Int} {h : am_H} {Q : Int32 → am_H → Prop} (hx : -2147483648 ≤ x ∧ x < 2147483648) (k : Q (bi (isD x)) h) : am_Ei m_Tape_isDigit 0 0 [.int (ji x)] h Q := by
  refine ev_Tape_isDigit (ji x) h Q ?_
  rw [jk48, jk57, ji_lt, ji_lt]
  unfold isD at k
  refine ⟨fun c => ?_, fun c => ⟨fun c2 => ?_, fun c2 => ?_⟩⟩
  · rw [decide_eq_false (by omega)] at k
    exact k
  · rw [decide_eq_false (by omega)] at k
    exact k
  · rw [decide_eq_true (by omega)] at k
    exact k
/-- a text stands at a place -/
def wm (T : List Int) : Nat → List Int → Bool
  | _, [] => true
  | p, c :: w => decide (bt T (p : Int) = c) && wm T (p + 1) w
def dW (T w : List Int) (s : Nat × Bool) : Bool := s.2 && !isL (bt T ((s.1 : Int) + w.length)) && wm T s.1 w
def aW (T w : List Int) (s : Nat × Bool) : Nat × Bool := if dW T w s then (sk T (s.1 + w.length), s.2) else s
def wW (T w : List Int) (s : Nat × Bool) : Nat × Bool := if dW T w s then (sk T (s.1 + w.length), s.2) else (s.1, false)
theorem wm_len {T : List Int} : ∀ (w : List Int) (p : Nat), (∀ c ∈ w, 0 ≤ c) → p ≤ T.length → wm T p w = true → p + w.length ≤ T.length
  | [], p, _, hp, _ => by simpa using hp
  | c :: w, p, hc, hp, h => by
    simp only [wm, Bool.and_eq_true, decide_eq_true_eq] at h
    have h0 := hc c (by simp)
    have hlt : p < T.length := by
      rcases Nat.lt_or_ge p T.length with q | q
      · exact q
      · have := bt_no q
        omega
    have := wm_len w (p + 1) (fun z hz => hc z (by simp [hz])) (by omega) h.2
    simp
    omega
theorem wb_mem {j : Nat} (hj : j < 30) : ∀ c ∈ wb j, 0 ≤ c ∧ c < 128 := by
  intro c hc
  obtain ⟨b, hb, rfl⟩ := List.mem_map.mp hc
  have ok := List.all_eq_true.mp (wb_ok j hj) b hb
  simp only [Bool.and_eq_true, decide_eq_true_eq] at ok
  omega
theorem wb_10 {j : Nat} (hj : j < 30) : (wb j).length ≤ 10 := by
  have := wb_len j hj
  simpa [wb] using this
theorem s_Tape_takeWord {h : am_H} {a j : Nat} {T : List Int} {s : Nat × Bool} {Q : Int32 → am_H → Prop} (t : tpA h a T s) (hj : j < 30) (k : ∀ h', fi h h' a (a + 1) → tpA h' a T (aW T (wb j) s) → Q (bi (dW T (wb j) s)) h') : am_Ei m_Tape_takeWord 0 0 [.ref a, .retAddr j] h Q := by
  obtain ⟨t1, t2, t3, t4⟩ := id t
  have hl := t1.2.2.2.2.1
  have h10 := wb_10 hj
  have bb : ∀ i, -128 ≤ bt T i ∧ bt T i ≤ 127 := bt_bd t1
  have no : dW T (wb j) s = false → Q 0 h := by
    intro e
    have k2 := k h fi.rf
    rw [aW, e] at k2
    exact k2 t
  have loop : s.2 = true → isL (bt T ((s.1 : Int) + (wb j).length)) = false → ∀ (n i : Nat), i + n = (wb j).length → wm T (s.1 + i) ((wb j).drop i) = wm T s.1 (wb j) → am_EI m_Tape_takeWord 0 0 30 [.ref a, .retAddr j, .int (ji i)] [] h (am_qi Q) := by
    intro hs hL n
    have ed : dW T (wb j) s = wm T s.1 (wb j) := by
      unfold dW
      rw [hs, hL]
      rfl
    induction n with
    | zero =>
      intro i hi hw
      refine sg_Tape_takeWord_30 a j (ji i) h _ ⟨isC_of hj, hj, s_Str_length hj ?_⟩
      rw [ji_le]
      refine ⟨fun _ => ⟨t1.1, isC_of hj, hj, s_Str_length hj ⟨t1.1, ?_⟩⟩, fun c => absurd (by omega) c⟩
      rw [List.drop_eq_nil_of_le (by omega)] at hw
      have hw2 : wm T s.1 (wb j) = true := hw.symm
      have hle := wm_len (wb j) s.1 (fun c hc => (wb_mem hj c hc).1) t4 hw2
      rw [t2, ji_add]
      refine s_Tape_moveTo (n := s.1 + (wb j).length) t1 t3 hle (fun h' hf t' => ?_)
      have k2 := k h' hf
      rw [aW, ed, hw2] at k2
      exact k2 t'
    | succ n ih =>
      intro i hi hw
      obtain ⟨c, hc⟩ : ∃ c, (wb j)[i]? = some c := ⟨_, List.getElem?_eq_getElem (by omega)⟩
      have hcb := wb_mem hj c (List.mem_of_getElem? hc)
      have bb1 := bb ((s.1 : Int) + i)
      rw [drop_cons hc] at hw
      refine sg_Tape_takeWord_30 a j (ji i) h _ ⟨isC_of hj, hj, s_Str_length hj ?_⟩
      rw [ji_le]
      refine ⟨fun c0 => absurd c0 (by omega), fun _ => ⟨t1.1, ?_⟩⟩
      rw [t2, ji_add]
      refine s_Tape_byteAt t1 (by omega) ⟨isC_of hj, hj, s_Str_charAt hj hc ?_⟩
      rw [ji_eq, jk1, ji_add]
      have ew : wm T (s.1 + i) (c :: (wb j).drop (i + 1)) = (decide (bt T ((s.1 : Int) + i) = c) && wm T (s.1 + (i + 1)) ((wb j).drop (i + 1))) := rfl
      rw [ew] at hw
      refine ⟨fun c1 => ?_, fun c1 => no ?_⟩
      · rw [decide_eq_true c1, Bool.true_and] at hw
        exact ih (i + 1) (by omega) hw
      · rw [decide_eq_false c1, Bool.false_and] at hw
        rw [ed, ← hw]
  refine ev_Tape_takeWord a j h Q (Or.inl (isC_of hj)) ⟨t1.1, ?_⟩
  rw [t3, bi_0]
  refine ⟨fun c1 => no ?_, fun c1 => ⟨isC_of hj, hj, s_Str_length hj ⟨t1.1, ?_⟩⟩⟩
  · unfold dW
    cases hs : s.2
    · rfl
    · rw [hs] at c1
      exact absurd rfl c1
  · have hs : s.2 = true := by cases hs : s.2; rw [hs] at c1; cases c1; rfl
    have b2 := bb ((s.1 : Int) + (wb j).length)
    rw [t2, ji_add]
    refine s_Tape_byteAt t1 (by omega) (s_Tape_isLetter (by omega) ?_)
    rw [bi_0]
    refine ⟨fun c2 => loop hs c2 (wb j).length 0 (by omega) (by simp), fun c2 => no ?_⟩
    have : isL (bt T ((s.1 : Int) + (wb j).length)) = true := by cases e : isL (bt T ((s.1 : Int) + (wb j).length)); exact absurd e c2; rfl
    unfold dW
    rw [this]
    simp
theorem s_Tape_wantWord {h : am_H} {a j : Nat} {T : List Int} {s : Nat × Bool} {Q : am_H → Prop} (t : tpA h a T s) (hj : j < 30) (k : ∀ h', fi h h' a (a + 1) → tpA h' a T (wW T (wb j) s) → Q h') : am_Ew m_Tape_wantWord 0 0 [.ref a, .retAddr j] h Q := by
  refine ev_Tape_wantWord a j h Q (Or.inl (isC_of hj)) ⟨isC_of hj, t.1.1, s_Tape_takeWord t hj (fun h' hf t' => ?_)⟩
  rw [bi_0]
  unfold aW at t'
  unfold wW at k
  refine ⟨fun c1 => ?_, fun c1 => ⟨t'.1.1, ?_⟩⟩
  · have e : dW T (wb j) s = true := by cases e : dW T (wb j) s; exact absurd e c1; rfl
    rw [e] at t' k
    exact k h' hf t'
  · rw [c1] at t' k
    exact k _ (hf.tr (fi.si (by omega) (by omega))) t'.bad
/-- how many digits stand at a place, and what the first n are -/
def nd (T : List Int) (p : Nat) : Nat := ((T.drop p).takeWhile isD).length
def nv (T : List Int) (p n : Nat) : Int := ((T.drop p).take n).foldl (fun v b => v * 10 + b - 48) 0
theorem tw_yes {α : Type} {f : α → Bool} : ∀ (l : List α) (d : Nat) (b : α), d ≤ (l.takeWhile f).length → l[d]? = some b → f b = true → d + 1 ≤ (l.takeWhile f).length
  | [], d, b, _, h, _ => by simp at h
  | c :: l, 0, b, _, h, hb => by
    simp at h
    subst h
    rw [List.takeWhile_cons_of_pos hb]
    simp
  | c :: l, d + 1, b, hd, h, hb => by
    cases hc : f c
    · rw [List.takeWhile_cons_of_neg (by simp [hc])] at hd
      simp at hd
    · rw [List.takeWhile_cons_of_pos hc] at hd ⊢
      simp at hd h ⊢
      exact tw_yes l d b hd h hb
theorem tw_no {α : Type} {f : α → Bool} : ∀ (l : List α) (d : Nat), d ≤ (l.takeWhile f).length → (∀ b, l[d]? = some b → f b = false) → (l.takeWhile f).length = d
  | [], d, hd, _ => by simp at hd; simp [hd]
  | c :: l, 0, _, h => by
    rw [List.takeWhile_cons_of_neg (by simp [h c (by simp)])]
    rfl
  | c :: l, d + 1, hd, h => by
    cases hc : f c
    · rw [List.takeWhile_cons_of_neg (by simp [hc])] at hd
      simp at hd
    · rw [List.takeWhile_cons_of_pos hc] at hd ⊢
      simp at hd ⊢
      exact tw_no l d hd (fun b hb => h b (by simpa using hb))
theorem nd_le {T : List Int} {p : Nat} (hp : p ≤ T.length) : p + nd T p ≤ T.length := by
  have h1 := (List.takeWhile_sublist isD (l := T.drop p)).length_le
  rw [List.length_drop] at h1
  unfold nd
  omega
theorem nv_step {T : List Int} {p d : Nat} {b : Int} (h : T[p + d]? = some b) : nv T p (d + 1) = nv T p d * 10 + b - 48 := by
  unfold nv
  have : (T.drop p)[d]? = some b := by rw [List.getElem?_drop]; exact h
  rw [take_snoc this, List.foldl_append]
  rfl
def dN (T : List Int) (s : Nat × Bool) : Bool := s.2 && decide (1 ≤ nd T s.1 ∧ nd T s.1 ≤ 4)
def vN (T : List Int) (s : Nat × Bool) : Int := if dN T s then nv T s.1 (nd T s.1) else 0
def aN (T : List Int) (s : Nat × Bool) : Nat × Bool := if dN T s then (sk T (s.1 + nd T s.1), s.2) else (s.1, false)
theorem s_Tape_wantNumber {h : am_H} {a : Nat} {T : List Int} {s : Nat × Bool} {Q : Int32 → am_H → Prop} (t : tpA h a T s) (k : ∀ h', fi h h' a (a + 1) → tpA h' a T (aN T s) → (0 ≤ vN T s ∧ vN T s ≤ 9999) → Q (ji (vN T s)) h') : am_Ei m_Tape_wantNumber 0 0 [.ref a] h Q := by
  obtain ⟨t1, t2, t3, t4⟩ := id t
  have hl := t1.2.2.2.2.1
  have bb : ∀ i, -128 ≤ bt T i ∧ bt T i ≤ 127 := bt_bd t1
  have hnd := nd_le t4
  have bad : dN T s = false → Q 0 (am_si h a 3 1) := by
    intro e
    have k2 := k (am_si h a 3 1) (fi.si (by omega) (by omega))
    rw [aN, vN, e] at k2
    exact k2 t.bad ⟨by simp, by simp⟩
  -- what follows when d digits have been read and no more are
  have tail : ∀ (d : Nat), d ≤ 5 → (d = nd T s.1 ∨ (d = 5 ∧ 5 ≤ nd T s.1)) → (0 ≤ nv T s.1 d ∧ (d ≤ 4 → nv T s.1 d ≤ 9999)) → (am_tg h a = (9, 4) ∧ ((¬ am_I h a 3 = ji 0 → Q (ji 0) (am_si h a 3 (ji 1))) ∧ (am_I h a 3 = ji 0 → ((ji d = ji 0 → Q (ji 0) (am_si h a 3 (ji 1))) ∧ (¬ ji d = ji 0 → ((ji d ≤ ji 4 → (am_Ew m_Tape_moveTo 0 0 [.ref a, .int (am_I h a 2 + ji d)] h (fun h6 => Q (ji (nv T s.1 d)) h6))) ∧ (¬ ji d ≤ ji 4 → Q (ji 0) (am_si h a 3 (ji 1))))))))) := by
    intro d hd hnd2 hv
    refine ⟨t1.1, fun c1 => bad ?_, fun c1 => ⟨fun c2 => bad ?_, fun c2 => ⟨fun c3 => ?_, fun c3 => bad ?_⟩⟩⟩
    · have c1 : ¬ am_I h a 3 = 0 := c1
      rw [t3, bi_0] at c1
      unfold dN
      cases hs : s.2
      · rfl
      · rw [hs] at c1
        exact absurd rfl c1
    · rw [ji_eq] at c2
      unfold dN
      rw [decide_eq_false (by omega)]
      simp
    · have c1 : am_I h a 3 = 0 := c1
      rw [t3, bi_0] at c1
      have hs : s.2 = true := by cases hs : s.2; rw [hs] at c1; cases c1; rfl
      rw [ji_le] at c3
      rw [ji_eq] at c2
      have e5 : d = nd T s.1 := by omega
      have e : dN T s = true := by
        unfold dN
        rw [hs, decide_eq_true (by omega)]
        rfl
      rw [t2, ji_add]
      refine s_Tape_moveTo (n := s.1 + d) t1 t3 (by omega) (fun h' hf t' => ?_)
      have k2 := k h' hf
      rw [aN, vN, e, ← e5] at k2
      exact k2 t' (by have := hv.2 (by omega); omega)
    · rw [ji_le] at c3
      unfold dN
      rw [decide_eq_false (by omega)]
      simp
  have loop : ∀ (n d : Nat), d + n = 5 → d ≤ nd T s.1 → (0 ≤ nv T s.1 d ∧ nv T s.1 d < 10 ^ d) → am_EI m_Tape_wantNumber 0 0 4 [.ref a, .int (ji d), .int (ji (nv T s.1 d))] [] h (am_qi Q) := by
    intro n
    induction n with
    | zero =>
      intro d hd hdn hv
      refine sg_Tape_wantNumber_4 a _ _ h _ ?_
      rw [jk4, ji_lt]
      exact ⟨fun _ => tail d (by omega) (by omega) ⟨hv.1, fun q => by omega⟩, fun c => absurd (by omega) c⟩
    | succ n ih =>
      intro d hd hdn hv
      have hp4 : nv T s.1 d ≤ 9999 := by
        have : d = 0 ∨ d = 1 ∨ d = 2 ∨ d = 3 ∨ d = 4 := by omega
        rcases this with rfl | rfl | rfl | rfl | rfl <;> simp at hv <;> omega
      refine sg_Tape_wantNumber_4 a _ _ h _ ?_
      rw [jk4, ji_lt]
      refine ⟨fun c => absurd c (by omega), fun _ => ⟨t1.1, ?_⟩⟩
      have b1 := bb ((s.1 : Int) + d)
      rw [t2, ji_add]
      refine s_Tape_byteAt t1 (by omega) (s_Tape_isDigit (by omega) ?_)
      rw [bi_0]
      refine ⟨fun c1 => tail d (by omega) (Or.inl ?_) ⟨hv.1, fun _ => hp4⟩, fun c1 => ⟨t1.1, ?_⟩⟩
      · refine (tw_no (T.drop s.1) d hdn (fun b hb => ?_)).symm
        rw [List.getElem?_drop] at hb
        have hb2 := t1.byte (List.mem_of_getElem? hb)
        have e : bt T ((s.1 : Int) + d) = sg b := bt_at (i := s.1 + d) hb
        rw [e] at c1
        unfold isD at c1 ⊢
        unfold sg at c1
        simp only [decide_eq_false_iff_not] at c1 ⊢
        split at c1 <;> omega
      · rw [t2, ji_add]
        refine s_Tape_byteAt t1 (by omega) ?_
        have hD : isD (bt T ((s.1 : Int) + d)) = true := by cases e : isD (bt T ((s.1 : Int) + d)); exact absurd e c1; rfl
        unfold isD at hD
        simp only [decide_eq_true_eq] at hD
        have hlt : s.1 + d < T.length := by
          rcases Nat.lt_or_ge (s.1 + d) T.length with q | q
          · exact q
          · have := bt_no q
            have e : bt T ((s.1 : Int) + d) = bt T ((s.1 + d : Nat) : Int) := rfl
            omega
        obtain ⟨b, hb⟩ : ∃ b, T[s.1 + d]? = some b := ⟨_, List.getElem?_eq_getElem hlt⟩
        have hb2 := t1.byte (List.mem_of_getElem? hb)
        have e : bt T ((s.1 : Int) + d) = sg b := bt_at (i := s.1 + d) hb
        have eb : sg b = b := by
          rw [e] at hD
          unfold sg at hD ⊢
          split at hD
          · rename_i q
            rw [if_pos q]
          · omega
        rw [e, eb] at hD ⊢
        rw [jk10, jk48, jk1, ji_mul, ji_add, ji_add, ji_sub, ← nv_step hb]
        refine ih (d + 1) (by omega) (tw_yes (T.drop s.1) d b hdn (by rw [List.getElem?_drop]; exact hb) (by unfold isD; simp; omega)) ?_
        rw [nv_step hb]
        have hpow : (10 : Int) ^ (d + 1) = 10 * 10 ^ d := by rw [Int.pow_succ]; omega
        omega
  refine ev_Tape_wantNumber a h Q ?_
  exact loop 5 0 (by omega) (by omega) ⟨by show 0 ≤ nv T s.1 0; unfold nv; simp, by unfold nv; simp⟩
def vS (T : List Int) (s : Nat × Bool) : Int := if dM T 45 s then -vN T (aM T 45 s) else vN T (aM T 45 s)
def aS (T : List Int) (s : Nat × Bool) : Nat × Bool := aN T (aM T 45 s)
theorem s_Tape_wantSize {h : am_H} {a : Nat} {T : List Int} {s : Nat × Bool} {Q : Int32 → am_H → Prop} (t : tpA h a T s) (k : ∀ h', fi h h' a (a + 1) → tpA h' a T (aS T s) → (-9999 ≤ vS T s ∧ vS T s ≤ 9999) → Q (ji (vS T s)) h') : am_Ei m_Tape_wantSize 0 0 [.ref a] h Q := by
  refine ev_Tape_wantSize a h Q ⟨t.1.1, ?_⟩
  rw [jk45]
  refine s_Tape_takeMark t (by decide) (fun h1 hf1 t1 => ⟨t1.1.1, s_Tape_wantNumber t1 (fun h2 hf2 t2 hb => ?_)⟩)
  rw [show (0 : Int32) = 0 from rfl, bi_0, ji_neg]
  have k2 := k h2 (hf1.tr hf2) t2
  unfold vS at k2
  refine ⟨fun c => ?_, fun c => ?_⟩
  · rw [c] at k2
    exact k2 (by simp; omega)
  · have e : dM T 45 s = true := by cases e : dM T 45 s; exact absurd e c; rfl
    rw [e] at k2
    exact k2 (by simp; omega)
def vT (T : List Int) (s : Nat × Bool) : Int := if dM T 43 s then vN T (aM T 43 s) else -vN T (wM T 45 (aM T 43 s))
def aT (T : List Int) (s : Nat × Bool) : Nat × Bool := if dM T 43 s then aN T (aM T 43 s) else aN T (wM T 45 (aM T 43 s))
theorem s_Tape_wantStep {h : am_H} {a : Nat} {T : List Int} {s : Nat × Bool} {Q : Int32 → am_H → Prop} (t : tpA h a T s) (k : ∀ h', fi h h' a (a + 1) → tpA h' a T (aT T s) → (-9999 ≤ vT T s ∧ vT T s ≤ 9999) → Q (ji (vT T s)) h') : am_Ei m_Tape_wantStep 0 0 [.ref a] h Q := by
  refine ev_Tape_wantStep a h Q ⟨t.1.1, ?_⟩
  rw [jk43]
  refine s_Tape_takeMark t (by decide) (fun h1 hf1 t1 => ?_)
  rw [bi_0]
  unfold vT aT at k
  refine ⟨fun c => ⟨t1.1.1, ?_⟩, fun c => ⟨t1.1.1, ?_⟩⟩
  · rw [c] at k
    rw [jk45]
    refine s_Tape_wantMark t1 (by decide) (fun h2 hf2 t2 => ⟨t2.1.1, s_Tape_wantNumber t2 (fun h3 hf3 t3 hb => ?_)⟩)
    rw [ji_neg]
    exact k h3 ((hf1.tr hf2).tr hf3) t3 (by simp; omega)
  · have e : dM T 43 s = true := by cases e : dM T 43 s; exact absurd e c; rfl
    rw [e] at k
    exact s_Tape_wantNumber t1 (fun h3 hf3 t3 hb => k h3 (hf1.tr hf3) t3 (by simp; omega))
