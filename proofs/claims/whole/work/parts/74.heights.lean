/-! the height at a minute; ports written alike; shifts -/
noncomputable def eps (p : Int → Prop) : Int := Classical.epsilon p
theorem eps_eq {p : Int → Prop} {v : Int} (h : p v) (u : ∀ w, p w → w = v) : eps p = v := u _ (Classical.epsilon_spec (p := p) ⟨v, h⟩)
/-- ports as they are kept -/
def mB (P : List Tn) : Prop := ∀ (i : Nat) (p : Tn), P[i]? = some p → 0 ≤ p.2.1 ∧ p.2.1 ≤ 1439 + 800 * i
def gW (P : List Tn) : Prop := ptW P ∧ P.length ≤ 16 ∧ mB P
theorem gW.mem {P : List Tn} (w : gW P) {p : Tn} (hp : p ∈ P) : 0 ≤ p.2.1 ∧ p.2.1 ≤ 13439 := by
  obtain ⟨i, hi⟩ := List.getElem?_of_mem hp
  have h1 := w.2.2 i p hi
  have h2 := (List.getElem?_eq_some_iff.mp hi).1
  have h3 := w.2.1
  omega
theorem ptW_lt {P : List Tn} (w : ptW P) : ∀ (d i : Nat) (p q : Tn), P[i]? = some p → P[i + d + 1]? = some q → p.2.1 + 60 ≤ q.2.1
  | 0, i, p, q, hp, hq => by
    have := (w.2.1 i p q hp hq).1
    omega
  | d + 1, i, p, q, hp, hq => by
    have hl := (List.getElem?_eq_some_iff.mp hq).1
    obtain ⟨m, hm⟩ : ∃ m, P[i + d + 1]? = some m := ⟨_, List.getElem?_eq_getElem (by omega)⟩
    have h1 := ptW_lt w d i p m hp hm
    have h2 := (w.2.1 (i + d + 1) m q hm hq).1
    omega
theorem ptW_mono {P : List Tn} (w : ptW P) {i j : Nat} {p q : Tn} (hij : i < j) (hp : P[i]? = some p) (hq : P[j]? = some q) : p.2.1 + 60 ≤ q.2.1 := by
  refine ptW_lt w (j - i - 1) i p q hp ?_
  rw [show i + (j - i - 1) + 1 = j from by omega]
  exact hq
/-- the j-th turn, p, is the one at or ahead of t -/
def at1 (P : List Tn) (t : Int) (j : Nat) (p : Tn) : Prop := P[j]? = some p ∧ p.2.1 ≤ t ∧ ∀ q, P[j + 1]? = some q → t < q.2.1
theorem at1_le {P : List Tn} (w : ptW P) {t : Int} {j j' : Nat} {p p' : Tn} (h : at1 P t j p) (h' : at1 P t j' p') : ¬ j < j' := by
  intro c
  obtain ⟨h1, h2, h3⟩ := h
  obtain ⟨h1', h2', h3'⟩ := h'
  have hl := (List.getElem?_eq_some_iff.mp h1').1
  obtain ⟨q, hq⟩ : ∃ q, P[j + 1]? = some q := ⟨_, List.getElem?_eq_getElem (by omega)⟩
  have h4 := h3 q hq
  rcases Nat.lt_or_ge (j + 1) j' with c2 | c2
  · have := ptW_mono w c2 hq h1'
    omega
  · have e : j + 1 = j' := by omega
    subst e
    cases hq.symm.trans h1'
    omega
theorem at1_u {P : List Tn} (w : ptW P) {t : Int} {j j' : Nat} {p p' : Tn} (h : at1 P t j p) (h' : at1 P t j' p') : j = j' ∧ p = p' := by
  have h1 := at1_le w h h'
  have h2 := at1_le w h' h
  have e : j = j' := by omega
  subst e
  exact ⟨rfl, Option.some.inj (h.1.symm.trans h'.1)⟩
/-- the whole height at t -/
def wV (P : List Tn) (t v : Int) : Prop := ∃ j p, at1 P t j p ∧ ((P[j + 1]? = none ∧ v = p.2.2) ∨ ∃ q, P[j + 1]? = some q ∧ v = (exc p q t 0).fdiv (12 * (q.2.1 - p.2.1)))
noncomputable def wH (P : List Tn) (t : Int) : Int := eps (wV P t)
theorem wH_eq {P : List Tn} (w : ptW P) {t v : Int} (h : wV P t v) : wH P t = v := by
  refine eps_eq h (fun x hx => ?_)
  obtain ⟨j, p, h1, h2⟩ := h
  obtain ⟨j', p', h1', h2'⟩ := hx
  obtain ⟨rfl, rfl⟩ := at1_u w h1 h1'
  rcases h2 with ⟨a, rfl⟩ | ⟨q, a, rfl⟩ <;> rcases h2' with ⟨b, rfl⟩ | ⟨q', b, rfl⟩
  · rfl
  · rw [a] at b
    cases b
  · rw [a] at b
    cases b
  · cases a.symm.trans b
    rfl
theorem s_Port_wholeHeightAt {h : am_H} {a r : Nat} {P : List Tn} {t : Int} {Q : Int32 → am_H → Prop} (s : ptA h a r P) (w : ptW P) (ht : ptIn P t) (k : Q (ji (wH P t)) h) : am_Ei m_Port_wholeHeightAt 0 0 [.ref a, .int (ji t)] h Q := by
  have hl := s.len
  have b1 := ptM_bd s 0
  have b2 := ptM_bd s ((P.length : Int) - 1)
  obtain ⟨i1, i2, i3⟩ := ht
  -- the end of the walk
  have fin : ∀ (i : Nat) (p : Tn), at1 P t i p → (am_tg h a = (2, 5) ∧ (am_Ei m_Port_minuteOf 0 0 [.ref a, .int (ji ((i : Int) + 1))] h (fun r4 h3 => (am_tg h3 a = (2, 5) ∧ (am_Ei m_Port_minuteOf 0 0 [.ref a, .int (ji i)] h3 (fun r7 h6 => (am_tg h6 a = (2, 5) ∧ (((am_I h6 a 4) ≤ ji ((i : Int) + 1) → (am_Ei m_Port_heightOf 0 0 [.ref a, .int (ji i)] h6 (fun r11 h10 => Q r11 h10))) ∧ (¬ (am_I h6 a 4) ≤ ji ((i : Int) + 1) → ((ji 0 < (r4 - r7) → (am_Ei m_Port_excess 0 0 [.ref a, .int (ji i), .int (ji t), .int (ji 0)] h6 (fun r14 h13 => (am_Ei m_Math_floorDiv 0 0 [.int r14, .int (ji 12 * (r4 - r7))] h13 (fun r16 h15 => Q r16 h15))))) ∧ (¬ ji 0 < (r4 - r7) → (am_Ei m_Port_heightOf 0 0 [.ref a, .int (ji i)] h6 (fun r18 h17 => Q r18 h17))))))))))))) := by
    intro i p hat
    obtain ⟨h1, h2, h3⟩ := id hat
    have hi := (List.getElem?_eq_some_iff.mp h1).1
    refine ⟨s.1, s_Port_minuteOf s (by omega) ⟨s.1, s_Port_minuteOf s (by omega) ⟨s.1, ?_⟩⟩⟩
    rw [s.2.2.2.2.2.2.2.2.1, ji_le]
    refine ⟨fun c => ?_, fun c => ?_⟩
    · refine s_Port_heightOf s (by omega) ?_
      rw [ptG_at h1]
      rw [wH_eq w ⟨i, p, hat, Or.inl ⟨List.getElem?_eq_none (by omega), rfl⟩⟩] at k
      exact k
    · obtain ⟨q, hq⟩ : ∃ q, P[i + 1]? = some q := ⟨_, List.getElem?_eq_getElem (by omega)⟩
      have e1 : ptM P ((i : Int) + 1) = q.2.1 := ptM_at (i := i + 1) hq
      have tw := w.2.1 i p q h1 hq
      have tw1 := tw.1
      rw [e1, ptM_at h1, ji_sub, ji_lt, ji_mul]
      refine ⟨fun _ => s_Port_excess s h1 hq (by omega) ⟨h2, h3 q hq⟩ ?_, fun c2 => absurd (by omega) c2⟩
      have bb := exc_bd (x := 0) tw ⟨h2, h3 q hq⟩ (by omega)
      refine s_Math_floorDiv (by omega) (by omega) ?_
      rw [wH_eq w ⟨i, p, hat, Or.inr ⟨q, hq, rfl⟩⟩] at k
      exact k
  have loop : ∀ (i : Nat), i < P.length → (∀ q, P[i + 1]? = some q → t < q.2.1) → am_EI m_Port_wholeHeightAt 0 0 7 [.ref a, .int (ji t), .int (ji i), .float 0] [] h (am_qi Q) := by
    intro i
    induction i with
    | zero =>
      intro hi hn
      obtain ⟨p, hp⟩ : ∃ p, P[0]? = some p := ⟨_, List.getElem?_eq_getElem hi⟩
      have e0 : ptM P 0 = p.2.1 := ptM_at (i := 0) hp
      refine sg_Port_wholeHeightAt_7 a (ji t) (ji (0 : Nat)) h _ ?_
      rw [jk0, jk1, jk12, ji_le, ji_add]
      exact ⟨fun _ => fin 0 p ⟨hp, by omega, hn⟩, fun c => absurd (by omega) c⟩
    | succ i ih =>
      intro hi hn
      obtain ⟨p, hp⟩ : ∃ p, P[i + 1]? = some p := ⟨_, List.getElem?_eq_getElem hi⟩
      have bp := s.bd p (List.mem_of_getElem? hp)
      refine sg_Port_wholeHeightAt_7 a (ji t) (ji (i + 1 : Nat)) h _ ?_
      rw [jk0, jk1, jk12, ji_le, ji_add]
      refine ⟨fun c => absurd c (by omega), fun _ => ⟨s.1, s_Port_minuteOf s (by omega) ?_⟩⟩
      rw [ptM_at hp, ji_le]
      refine ⟨fun c => fin (i + 1) p ⟨hp, c, hn⟩, fun c => ?_⟩
      rw [ji_neg, ji_add, show ((i + 1 : Nat) : Int) + -1 = (i : Int) from by omega]
      refine ih (by omega) (fun q hq => ?_)
      cases hp.symm.trans hq
      omega
  refine ev_Port_wholeHeightAt a (ji t) h Q ⟨s.1, ?_⟩
  rw [s.2.2.2.2.2.2.2.2.1, jk1, ji_sub, show (P.length : Int) - 1 = ((P.length - 1 : Nat) : Int) from by omega]
  exact loop (P.length - 1) (by omega) (fun q hq => by rw [List.getElem?_eq_none (by omega)] at hq; cases hq)
def wk (p : Tn) : Tn := (p.1, p.2.1 % 1440, p.2.2)
def sameW (P P' : List Tn) : Bool := decide (P.map wk = P'.map wk)
theorem s_Port_isWrittenAs {h : am_H} {a a' r r' : Nat} {P P' : List Tn} {Q : Int32 → am_H → Prop} (s : ptA h a r P) (s' : ptA h a' r' P') (w : ∀ p ∈ P, 0 ≤ p.2.1) (w' : ∀ p ∈ P', 0 ≤ p.2.1) (k : Q (bi (sameW P P')) h) : am_Ei m_Port_isWrittenAs 0 0 [.ref a, .ref a'] h Q := by
  have hl := s.len
  have hl' := s'.len
  have loop : P.length = P'.length → ∀ (n i : Nat), i + n = P.length → ((P.drop i).map wk = (P'.drop i).map wk ↔ P.map wk = P'.map wk) → am_EI m_Port_isWrittenAs 0 0 15 [.ref a, .ref a', .int (ji i), .float 0] [] h (am_qi Q) := by
    intro he n
    induction n with
    | zero =>
      intro i hi hd
      refine sg_Port_isWrittenAs_15 a a' (ji i) h _ ⟨s.1, ?_⟩
      rw [s.2.2.2.2.2.2.2.2.1, ji_le]
      refine ⟨fun _ => ?_, fun c => absurd (by omega) c⟩
      rw [List.drop_eq_nil_of_le (by omega), List.drop_eq_nil_of_le (by omega)] at hd
      rw [sameW, decide_eq_true (hd.mp rfl)] at k
      exact k
    | succ n ih =>
      intro i hi hd
      obtain ⟨p, hp⟩ : ∃ p, P[i]? = some p := ⟨_, List.getElem?_eq_getElem (by omega)⟩
      obtain ⟨p', hp'⟩ : ∃ p, P'[i]? = some p := ⟨_, List.getElem?_eq_getElem (by omega)⟩
      have bp := s.bd p (List.mem_of_getElem? hp)
      have bp' := s'.bd p' (List.mem_of_getElem? hp')
      have wp := w p (List.mem_of_getElem? hp)
      have wp' := w' p' (List.mem_of_getElem? hp')
      rw [drop_cons hp, drop_cons hp', List.map_cons, List.map_cons, List.cons.injEq] at hd
      have no : ¬ wk p = wk p' → Q 0 h := by
        intro c
        rw [sameW, decide_eq_false (fun e => c (hd.mpr e).1)] at k
        exact k
      refine sg_Port_isWrittenAs_15 a a' (ji i) h _ ⟨s.1, ?_⟩
      rw [s.2.2.2.2.2.2.2.2.1, ji_le]
      refine ⟨fun c => absurd c (by omega), fun _ => s_Port_minuteOf s (by omega) ⟨s'.1, s_Port_minuteOf s' (by omega) ?_⟩⟩
      rw [ptM_at hp, ptM_at hp', jk1440, ji_mod, ji_mod, ji_eq]
      refine ⟨fun c => no (fun e => c (congrArg (fun q => q.2.1) e)), fun c1 => ⟨s.1, s_Port_isHigh s (by omega) ⟨s'.1, s_Port_isHigh s' (by omega) ?_⟩⟩⟩
      rw [ptH_at hp, ptH_at hp', bi_eq]
      refine ⟨fun c => no (fun e => c (congrArg (fun q => q.1) e)), fun c2 => ⟨s.1, s_Port_heightOf s (by omega) ⟨s'.1, s_Port_heightOf s' (by omega) ?_⟩⟩⟩
      rw [ptG_at hp, ptG_at hp', ji_eq]
      refine ⟨fun c3 => ?_, fun c => no (fun e => c (congrArg (fun q => q.2.2) e))⟩
      rw [jk1, ji_add]
      refine ih (i + 1) (by omega) ?_
      rw [← hd]
      exact ⟨fun q => ⟨by unfold wk; rw [c1, c2, c3], q⟩, fun q => q.2⟩
  refine ev_Port_isWrittenAs a a' h Q ⟨s.1, s'.1, s_Port_turnCount s' ?_⟩
  rw [s.2.2.2.2.2.2.2.2.1, ji_eq]
  refine ⟨fun c => loop (by omega) P.length 0 (by omega) (by simp), fun c => ?_⟩
  rw [sameW, decide_eq_false (fun e => c (by have := congrArg List.length e; simp at this; omega))] at k
  exact k
/-! shifts: later, first height, first step, other height, other step -/
abbrev Sh : Type := Int × Int × Int × Int × Int
def b4d (x : Int) : Prop := -9999 ≤ x ∧ x ≤ 9999
def shA (h : am_H) (a : Nat) (S : Sh) : Prop := am_tg h a = (5, 5) ∧ am_I h a 0 = ji S.1 ∧ am_I h a 1 = ji S.2.1 ∧ am_I h a 2 = ji S.2.2.1 ∧ am_I h a 3 = ji S.2.2.2.1 ∧ am_I h a 4 = ji S.2.2.2.2 ∧ b4d S.1 ∧ b4d S.2.1 ∧ b4d S.2.2.1 ∧ b4d S.2.2.2.1 ∧ b4d S.2.2.2.2
theorem shA.kept {h h' : am_H} {a lo hi : Nat} {S : Sh} (s : shA h a S) (f : fi h h' lo hi) (hd : a + 1 ≤ lo ∨ hi ≤ a) : shA h' a S := by
  obtain ⟨f1, f2, f3, f4⟩ := f
  unfold shA
  rw [f2, f4 a (by omega)]
  exact s
def aSh (T : List Int) (s : Nat × Bool) : Nat × Bool := aT T (aS T (aT T (aS T (aT T s))))
def vSh (T : List Int) (s : Nat × Bool) : Sh := (vT T s, vS T (aT T s), vT T (aS T (aT T s)), vS T (aT T (aS T (aT T s))), vT T (aS T (aT T (aS T (aT T s)))))
theorem s_Shift_readFrom {h : am_H} {a b : Nat} {T : List Int} {s : Nat × Bool} {Q : am_H → Prop} (ha : am_tg h a = (5, 5)) (t : tpA h b T s) (hd : a + 1 ≤ b ∨ b + 2 ≤ a) (k : ∀ h', am_sz h' = am_sz h → am_tg h' = am_tg h → am_P h' = am_P h → (∀ c, c ≠ a → c ≠ b → am_I h' c = am_I h c) → shA h' a (vSh T s) → tpA h' b T (aSh T s) → Q h') : am_Ew m_Shift_readFrom 0 0 [.ref a, .ref b] h Q := by
  have put : ∀ {h : am_H} {s : Nat × Bool} (j : Nat) (v : Int32), tpA h b T s → tpA (am_si h a j v) b T s := fun j v t => t.kept (fi.si (lo := a) (hi := a + 1) (by omega) (by omega)) (by omega)
  refine ev_Shift_readFrom a b h Q ⟨t.1.1, s_Tape_wantStep t (fun h1 f1 t1 b1 => ⟨by rw [f1.2.1]; exact ha, t1.1.1, s_Tape_wantSize (put _ _ t1) (fun h2 f2 t2 b2 => ⟨by rw [f2.2.1]; show am_tg h1 a = _; rw [f1.2.1]; exact ha, t2.1.1, s_Tape_wantStep (put _ _ t2) (fun h3 f3 t3 b3 => ⟨?_, t3.1.1, s_Tape_wantSize (put _ _ t3) (fun h4 f4 t4 b4 => ⟨?_, t4.1.1, s_Tape_wantStep (put _ _ t4) (fun h5 f5 t5 b5 => ⟨?_, ?_⟩)⟩)⟩)⟩)⟩)⟩
  · rw [f3.2.1]; show am_tg h2 a = _; rw [f2.2.1]; show am_tg h1 a = _; rw [f1.2.1]; exact ha
  · rw [f4.2.1]; show am_tg h3 a = _; rw [f3.2.1]; show am_tg h2 a = _; rw [f2.2.1]; show am_tg h1 a = _; rw [f1.2.1]; exact ha
  · rw [f5.2.1]; show am_tg h4 a = _; rw [f4.2.1]; show am_tg h3 a = _; rw [f3.2.1]; show am_tg h2 a = _; rw [f2.2.1]; show am_tg h1 a = _; rw [f1.2.1]; exact ha
  · have e5 := f5.2.2.2 a (by omega)
    have e4 := f4.2.2.2 a (by omega)
    have e3 := f3.2.2.2 a (by omega)
    have e2 := f2.2.2.2 a (by omega)
    refine k _ ?_ ?_ ?_ (fun c hc hc2 => ?_) ⟨?_, ?_, ?_, ?_, ?_, ?_, b1, b2, b3, b4, b5⟩ (put _ _ t5)
    · show am_sz h5 = _; rw [f5.1]; show am_sz h4 = _; rw [f4.1]; show am_sz h3 = _; rw [f3.1]; show am_sz h2 = _; rw [f2.1]; exact f1.1
    · show am_tg h5 = _; rw [f5.2.1]; show am_tg h4 = _; rw [f4.2.1]; show am_tg h3 = _; rw [f3.2.1]; show am_tg h2 = _; rw [f2.2.1]; exact f1.2.1
    · show am_P h5 = _; rw [f5.2.2.1]; show am_P h4 = _; rw [f4.2.2.1]; show am_P h3 = _; rw [f3.2.2.1]; show am_P h2 = _; rw [f2.2.2.1]; exact f1.2.2.1
    · rw [am_I_sin (by omega), f5.2.2.2 c (by omega), am_I_sin (by omega), f4.2.2.2 c (by omega), am_I_sin (by omega), f3.2.2.2 c (by omega), am_I_sin (by omega), f2.2.2.2 c (by omega), am_I_sin (by omega), f1.2.2.2 c (by omega)]
    · show am_tg h5 a = _; rw [f5.2.1]; show am_tg h4 a = _; rw [f4.2.1]; show am_tg h3 a = _; rw [f3.2.1]; show am_tg h2 a = _; rw [f2.2.1]; show am_tg h1 a = _; rw [f1.2.1]; exact ha
    · rw [am_I_sis, va_up_no _ _ (by decide), e5, am_I_sis, va_up_no _ _ (by decide), e4, am_I_sis, va_up_no _ _ (by decide), e3, am_I_sis, va_up_no _ _ (by decide), e2, am_I_sis, va_up_at]
      rfl
    · rw [am_I_sis, va_up_no _ _ (by decide), e5, am_I_sis, va_up_no _ _ (by decide), e4, am_I_sis, va_up_no _ _ (by decide), e3, am_I_sis, va_up_at]
      rfl
    · rw [am_I_sis, va_up_no _ _ (by decide), e5, am_I_sis, va_up_no _ _ (by decide), e4, am_I_sis, va_up_at]
      rfl
    · rw [am_I_sis, va_up_no _ _ (by decide), e5, am_I_sis, va_up_at]
      rfl
    · rw [am_I_sis, va_up_at]
      rfl
theorem s_Shift_isStep {x : Int} {h : am_H} {Q : Int32 → am_H → Prop} (hx : -2147483648 ≤ x ∧ x < 2147483648) (k : Q (bi (decide (-300 ≤ x ∧ x ≤ 300))) h) : am_Ei m_Shift_isStep 0 0 [.int (ji x)] h Q := by
  refine ev_Shift_isStep (ji x) h Q ?_
  rw [jm300, jk300, ji_lt, ji_lt]
  refine ⟨fun c => ?_, fun c => ⟨fun c2 => ?_, fun c2 => ?_⟩⟩
  · rw [decide_eq_false (by omega)] at k
    exact k
  · rw [decide_eq_false (by omega)] at k
    exact k
  · rw [decide_eq_true (by omega)] at k
    exact k
/-- a shift that may be -/
def shO (S : Sh) : Prop := (-500 ≤ S.2.1 ∧ S.2.1 ≤ 1500) ∧ (-500 ≤ S.2.2.2.1 ∧ S.2.2.2.1 ≤ 1500) ∧ S.2.1 ≠ S.2.2.2.1 ∧ (-300 ≤ S.1 ∧ S.1 ≤ 300) ∧ (-300 ≤ S.2.2.1 ∧ S.2.2.1 ≤ 300) ∧ (-300 ≤ S.2.2.2.2 ∧ S.2.2.2.2 ≤ 300)
theorem s_Shift_isSound {h : am_H} {a : Nat} {S : Sh} {Q : Int32 → am_H → Prop} (s : shA h a S) (k1 : shO S → Q 1 h) (k0 : ¬ shO S → Q 0 h) : am_Ei m_Shift_isSound 0 0 [.ref a] h Q := by
  obtain ⟨s0, s1, s2, s3, s4, s5, b1, b2, b3, b4, b5⟩ := s
  unfold b4d at b1 b2 b3 b4 b5
  refine ev_Shift_isSound a h Q ⟨s0, ?_⟩
  rw [s2]
  refine s_Port_isHeight (by omega) ?_
  rw [bi_0, s4]
  refine ⟨fun c => k0 (fun q => absurd q.1 (of_decide_eq_false c)), fun c1 => ⟨s0, s_Port_isHeight (by omega) ?_⟩⟩
  rw [bi_0, s2, s4, s1]
  refine ⟨fun c => k0 (fun q => absurd q.2.1 (of_decide_eq_false c)), fun c2 => ⟨s0, ?_⟩⟩
  rw [ji_eq]
  refine ⟨fun c => k0 (fun q => absurd c q.2.2.1), fun c3 => s_Shift_isStep (by omega) ?_⟩
  rw [bi_0, s3]
  refine ⟨fun c => k0 (fun q => absurd q.2.2.2.1 (of_decide_eq_false c)), fun c4 => ⟨s0, s_Shift_isStep (by omega) ?_⟩⟩
  rw [bi_0, s5]
  refine ⟨fun c => k0 (fun q => absurd q.2.2.2.2.1 (of_decide_eq_false c)), fun c5 => ⟨s0, s_Shift_isStep (by omega) ?_⟩⟩
  rw [bi_0]
  refine ⟨fun c => k0 (fun q => absurd q.2.2.2.2.2 (of_decide_eq_false c)), fun c6 => k1 ?_⟩
  simp only [decide_eq_false_iff_not, Classical.not_not] at c1 c2 c4 c5 c6
  exact ⟨c1, c2, c3, c4, c5, c6⟩
theorem s_Shift_minuteFor {h : am_H} {a : Nat} {S : Sh} {x : Int} {Q : Int32 → am_H → Prop} (s : shA h a S) (k : Q (ji (x + S.1)) h) : am_Ei m_Shift_minuteFor 0 0 [.ref a, .int (ji x)] h Q := by
  refine ev_Shift_minuteFor a (ji x) h Q ⟨s.1, ?_⟩
  rw [s.2.1, ji_add]
  exact k
def shG (S : Sh) (x : Int) : Int := x + S.2.2.1 + ((S.2.2.2.2 - S.2.2.1) * (x - S.2.1)).fdiv (S.2.2.2.1 - S.2.1)
theorem shM_bd {S : Sh} {x : Int} (o : shO S) (hx : -500 ≤ x ∧ x ≤ 1500) : -1200000 ≤ (S.2.2.2.2 - S.2.2.1) * (x - S.2.1) ∧ (S.2.2.2.2 - S.2.2.1) * (x - S.2.1) ≤ 1200000 := by
  obtain ⟨o1, o2, o3, o4, o5, o6⟩ := o
  have := abs_mul (a := S.2.2.2.2 - S.2.2.1) (b := x - S.2.1) (A := 600) (B := 2000) (by omega) (by omega)
  omega
theorem fdiv_bd {x y M : Int} (hx : -M ≤ x ∧ x ≤ M) (hy : y ≠ 0) (hM : 0 ≤ M) : -M - 1 ≤ x.fdiv y ∧ x.fdiv y ≤ M := by
  rcases Int.lt_or_gt_of_ne hy with c | c
  · have e : x.fdiv y = (-x).fdiv (-y) := (Int.neg_fdiv_neg x y).symm
    rw [e, Int.fdiv_eq_ediv_of_nonneg _ (by omega)]
    have h1 := Int.le_ediv_of_mul_le (a := -M - 1) (b := -x) (c := -y) (by omega) (by
      have : (-M - 1) * (-y) ≤ (-M - 1) * 1 := Int.mul_le_mul_of_nonpos_left (by omega) (by omega)
      omega)
    have h2 : (-x) / (-y) < M + 1 := Int.ediv_lt_of_lt_mul (by omega) (by
      have : (M + 1) * 1 ≤ (M + 1) * (-y) := Int.mul_le_mul_of_nonneg_left (by omega) (by omega)
      omega)
    omega
  · rw [Int.fdiv_eq_ediv_of_nonneg _ (by omega)]
    have h1 := Int.le_ediv_of_mul_le (a := -M - 1) (b := x) (c := y) (by omega) (by
      have : (-M - 1) * y ≤ (-M - 1) * 1 := Int.mul_le_mul_of_nonpos_left (by omega) (by omega)
      omega)
    have h2 : x / y < M + 1 := Int.ediv_lt_of_lt_mul (by omega) (by
      have : (M + 1) * 1 ≤ (M + 1) * y := Int.mul_le_mul_of_nonneg_left (by omega) (by omega)
      omega)
    omega
theorem s_Shift_heightFor {h : am_H} {a : Nat} {S : Sh} {x : Int} {Q : Int32 → am_H → Prop} (s : shA h a S) (o : shO S) (hx : -500 ≤ x ∧ x ≤ 1500) (k : Q (ji (shG S x)) h) : am_Ei m_Shift_heightFor 0 0 [.ref a, .int (ji x)] h Q := by
  obtain ⟨s0, s1, s2, s3, s4, s5, -⟩ := s
  have bb := shM_bd o hx
  obtain ⟨o1, o2, o3, o4, o5, o6⟩ := o
  refine ev_Shift_heightFor a (ji x) h Q ⟨s0, ?_⟩
  rw [s2, s4, s3, s5, jk0, ji_sub, ji_sub, ji_sub, ji_mul, ji_eq, ji_add]
  refine ⟨fun _ => s_Math_floorDiv (by omega) (by omega) ?_, fun c => absurd (by omega) o3⟩
  rw [ji_add]
  exact k
