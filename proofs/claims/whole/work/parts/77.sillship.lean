/-! sills (kind, level, one, two) and ships (draught, mast, pace) -/
abbrev Sl : Type := Int × Int × Int × Int
def slA (h : am_H) (a b : Nat) (L : Sl) : Prop := am_tg h a = (7, 5) ∧ am_P h a 0 = some b ∧ am_I h a 1 = ji L.1 ∧ am_I h a 2 = ji L.2.1 ∧ am_I h a 3 = ji L.2.2.1 ∧ am_I h a 4 = ji L.2.2.2 ∧ (0 ≤ L.1 ∧ L.1 ≤ 3) ∧ (-9999 ≤ L.2.1 ∧ L.2.1 ≤ 9999) ∧ (0 ≤ L.2.2.1 ∧ L.2.2.1 ≤ 9999) ∧ (0 ≤ L.2.2.2 ∧ L.2.2.2 ≤ 9999)
theorem slA.kept {h h' : am_H} {a b lo hi : Nat} {L : Sl} (s : slA h a b L) (f : fi h h' lo hi) (hd : a + 1 ≤ lo ∨ hi ≤ a) : slA h' a b L := by
  obtain ⟨f1, f2, f3, f4⟩ := f
  unfold slA
  rw [f2, f3, f4 a (by omega)]
  exact s
theorem s_Sill_home {h : am_H} {a b : Nat} {L : Sl} {Q : Option Nat → am_H → Prop} (s : slA h a b L) (k : Q (some b) h) : am_Er m_Sill_home 0 0 [.ref a] h Q := ev_Sill_home a h Q ⟨s.1, b, s.2.1, k⟩
theorem s_Sill_kind {h : am_H} {a b : Nat} {L : Sl} {Q : Int32 → am_H → Prop} (s : slA h a b L) (k : Q (ji L.1) h) : am_Ei m_Sill_kind 0 0 [.ref a] h Q := ev_Sill_kind a h Q ⟨s.1, by rw [s.2.2.1]; exact k⟩
theorem s_Sill_level {h : am_H} {a b : Nat} {L : Sl} {Q : Int32 → am_H → Prop} (s : slA h a b L) (k : Q (ji L.2.1) h) : am_Ei m_Sill_level 0 0 [.ref a] h Q := ev_Sill_level a h Q ⟨s.1, by rw [s.2.2.2.1]; exact k⟩
theorem s_Sill_one {h : am_H} {a b : Nat} {L : Sl} {Q : Int32 → am_H → Prop} (s : slA h a b L) (k : Q (ji L.2.2.1) h) : am_Ei m_Sill_one 0 0 [.ref a] h Q := ev_Sill_one a h Q ⟨s.1, by rw [s.2.2.2.2.1]; exact k⟩
theorem s_Sill_two {h : am_H} {a b : Nat} {L : Sl} {Q : Int32 → am_H → Prop} (s : slA h a b L) (k : Q (ji L.2.2.2) h) : am_Ei m_Sill_two 0 0 [.ref a] h Q := ev_Sill_two a h Q ⟨s.1, by rw [s.2.2.2.2.2.1]; exact k⟩
theorem sl_two {h : am_H} {a : Nat} {kd : Int} {Q : Int32 → am_H → Prop} (s : am_tg h a = (7, 5)) (e : am_I h a 1 = ji kd) (hk : 0 ≤ kd ∧ kd ≤ 3) (k1 : kd = 1 ∨ kd = 2 → Q 1 h) (k0 : ¬ (kd = 1 ∨ kd = 2) → Q 0 h) : am_Ei m_Sill_hasTwoNumbers 0 0 [.ref a] h Q := by
  refine ev_Sill_hasTwoNumbers a h Q ⟨s, ?_⟩
  rw [e, jk1, jk2, ji_eq, ji_eq]
  exact ⟨fun c => k1 (by omega), fun c => ⟨fun c2 => k0 (by omega), fun c2 => k1 (by omega)⟩⟩
theorem s_Sill_hasTwoNumbers {h : am_H} {a b : Nat} {L : Sl} {Q : Int32 → am_H → Prop} (s : slA h a b L) (k1 : L.1 = 1 ∨ L.1 = 2 → Q 1 h) (k0 : ¬ (L.1 = 1 ∨ L.1 = 2) → Q 0 h) : am_Ei m_Sill_hasTwoNumbers 0 0 [.ref a] h Q := sl_two s.1 s.2.2.1 s.2.2.2.2.2.2.1 k1 k0
def slW (T : List Int) (s : Nat × Bool) : Int × (Nat × Bool) := if dW T (wb 2) s then (0, aW T (wb 2) s) else if dW T (wb 3) s then (1, aW T (wb 3) s) else if dW T (wb 4) s then (2, aW T (wb 4) s) else (3, wW T (wb 5) s)
def slX (T : List Int) (kd : Int) (s : Nat × Bool) : Sl × (Nat × Bool) := if kd = 1 ∨ kd = 2 then ((kd, vS T s, vN T (aS T s), vN T (aN T (aS T s))), aN T (aN T (aS T s))) else ((kd, vS T s, 0, 0), aS T s)
def slR (T : List Int) (s : Nat × Bool) : Sl × (Nat × Bool) := slX T (slW T s).1 (slW T s).2
/-- a sill of which nothing is told yet -/
def sl0 (h : am_H) (a b : Nat) : Prop := am_tg h a = (7, 5) ∧ am_P h a 0 = some b ∧ am_I h a 3 = 0 ∧ am_I h a 4 = 0
theorem sl_tail {h : am_H} {a b c : Nat} {T : List Int} {s : Nat × Bool} {kd : Int} {Q : am_H → Prop} (l : sl0 h a c) (t : tpA h b T s) (hd : a + 1 ≤ b ∨ b + 2 ≤ a) (hk : 0 ≤ kd ∧ kd ≤ 3) (k : ∀ h', fr h h' b a (a + 1) → slA h' a c (slX T kd s).1 → tpA h' b T (slX T kd s).2 → Q h') : (am_tg h a = (7, 5) ∧ (am_tg h b = (9, 4) ∧ (am_Ei m_Tape_wantSize 0 0 [.ref b] (am_si h a 1 (ji kd)) (fun r18 h17 => (am_tg h17 a = (7, 5) ∧ (am_Ei m_Sill_hasTwoNumbers 0 0 [.ref a] (am_si h17 a 2 r18) (fun r21 h20 => ((r21 = 0 → Q h20) ∧ (¬ r21 = 0 → (am_tg h20 b = (9, 4) ∧ (am_Ei m_Tape_wantNumber 0 0 [.ref b] h20 (fun r25 h24 => (am_tg h24 a = (7, 5) ∧ (am_tg h24 b = (9, 4) ∧ (am_Ei m_Tape_wantNumber 0 0 [.ref b] (am_si h24 a 3 r25) (fun r29 h28 => (am_tg h28 a = (7, 5) ∧ Q (am_si h28 a 4 r29)))))))))))))))))) := by
  have put : ∀ {h : am_H} {s : Nat × Bool} (j : Nat) (v : Int32), tpA h b T s → tpA (am_si h a j v) b T s := fun j v t => t.kept (fi.si (lo := a) (hi := a + 1) (by omega) (by omega)) (by omega)
  have pf : ∀ {h : am_H} (j : Nat) (v : Int32), fr h (am_si h a j v) b a (a + 1) := fun j v => fr.of2 (fi.si (by omega) (by omega))
  obtain ⟨l1, l2, l3, l4⟩ := l
  refine ⟨l1, t.1.1, s_Tape_wantSize (put _ _ t) (fun h1 f1 t1 b1 => ?_)⟩
  have g1 : fr h (am_si h1 a 2 (ji (vS T s))) b a (a + 1) := ((pf _ _).tr (fr.of1 f1)).tr (pf _ _)
  have e1 : am_I h1 a = va_up (am_I h a) 1 (ji kd) := by rw [f1.2.2.2 a (by omega), am_I_sis]
  have tg1 : am_tg h1 a = (7, 5) := by rw [f1.2.1]; exact l1
  refine ⟨tg1, sl_two (kd := kd) tg1 ?_ hk (fun c1 => ⟨fun q => absurd q (by decide), fun _ => ⟨t1.1.1, ?_⟩⟩) (fun c1 => ⟨fun _ => ?_, fun q => absurd rfl q⟩)⟩
  · rw [am_I_sis, va_up_no _ _ (by decide), e1, va_up_at]
  · unfold slX at k
    rw [if_pos c1] at k
    refine s_Tape_wantNumber (put _ _ t1) (fun h2 f2 t2 b2 => ⟨?_, t2.1.1, s_Tape_wantNumber (put _ _ t2) (fun h3 f3 t3 b3 => ⟨?_, ?_⟩)⟩)
    · rw [f2.2.1]; exact tg1
    · rw [f3.2.1]; show am_tg h2 a = _; rw [f2.2.1]; exact tg1
    · have e2 : am_I h2 a = va_up (am_I h1 a) 2 (ji (vS T s)) := by rw [f2.2.2.2 a (by omega), am_I_sis]
      have e3 : am_I h3 a = va_up (am_I h2 a) 3 (ji (vN T (aS T s))) := by rw [f3.2.2.2 a (by omega), am_I_sis]
      have g2 := ((g1.tr (fr.of1 f2)).tr (pf 3 (ji (vN T (aS T s))))).tr (fr.of1 f3)
      refine k _ (g2.tr (pf _ _)) ⟨?_, ?_, ?_, ?_, ?_, ?_, hk, b1, b2, b3⟩ (put _ _ t3)
      · show am_tg h3 a = _; rw [f3.2.1]; show am_tg h2 a = _; rw [f2.2.1]; exact tg1
      · show am_P h3 a 0 = _; rw [g2.2.2.1]; exact l2
      · rw [am_I_sis, va_up_no _ _ (by decide), e3, va_up_no _ _ (by decide), e2, va_up_no _ _ (by decide), e1, va_up_at]
      · rw [am_I_sis, va_up_no _ _ (by decide), e3, va_up_no _ _ (by decide), e2, va_up_at]
      · rw [am_I_sis, va_up_no _ _ (by decide), e3, va_up_at]
      · rw [am_I_sis, va_up_at]
  · unfold slX at k
    rw [if_neg c1] at k
    refine k _ g1 ⟨tg1, ?_, ?_, ?_, ?_, ?_, hk, b1, by simp, by simp⟩ (put _ _ t1)
    · show am_P h1 a 0 = _; rw [f1.2.2.1]; exact l2
    · rw [am_I_sis, va_up_no _ _ (by decide), e1, va_up_at]
    · rw [am_I_sis, va_up_at]
    · rw [am_I_sis, va_up_no _ _ (by decide), e1, va_up_no _ _ (by decide), l3]; rfl
    · rw [am_I_sis, va_up_no _ _ (by decide), e1, va_up_no _ _ (by decide), l4]; rfl
theorem sl0.kept {h h' : am_H} {a b lo hi : Nat} (s : sl0 h a b) (f : fi h h' lo hi) (hd : a + 1 ≤ lo ∨ hi ≤ a) : sl0 h' a b := by
  obtain ⟨f1, f2, f3, f4⟩ := f
  unfold sl0
  rw [f2, f3, f4 a (by omega)]
  exact s
theorem s_Sill_readFrom {h : am_H} {a b c : Nat} {T : List Int} {s : Nat × Bool} {Q : am_H → Prop} (l : sl0 h a c) (t : tpA h b T s) (hd : a + 1 ≤ b ∨ b + 2 ≤ a) (k : ∀ h', fr h h' b a (a + 1) → slA h' a c (slR T s).1 → tpA h' b T (slR T s).2 → Q h') : am_Ew m_Sill_readFrom 0 0 [.ref a, .ref b] h Q := by
  refine ev_Sill_readFrom a b h Q ⟨t.1.1, s_Tape_takeWord (j := 2) t (by decide) (fun h1 f1 t1 => ?_)⟩
  unfold slR slW at k
  rw [bi_0]
  refine ⟨fun c1 => ⟨t1.1.1, ?_⟩, fun c1 => ?_⟩
  · rw [c1] at k
    rw [aW, c1] at t1
    refine s_Tape_takeWord (j := 3) t1 (by decide) (fun h2 f2 t2 => ?_)
    rw [bi_0]
    refine ⟨fun c2 => ⟨t2.1.1, ?_⟩, fun c2 => ?_⟩
    · have c2' : dW T (wb 3) s = false := c2
      rw [c2'] at k
      rw [aW, c2] at t2
      refine s_Tape_takeWord (j := 4) t2 (by decide) (fun h3 f3 t3 => ?_)
      rw [bi_0]
      refine ⟨fun c3 => ⟨t3.1.1, ?_⟩, fun c3 => ?_⟩
      · have c3' : dW T (wb 4) s = false := c3
        rw [c3'] at k
        rw [aW, c3] at t3
        refine s_Tape_wantWord (j := 5) t3 (by decide) (fun h4 f4 t4 => ?_)
        have f := ((f1.tr f2).tr f3).tr f4
        exact sl_tail (kd := 3) (l.kept f (by omega)) t4 hd (by decide) (fun h5 f5 => k h5 ((fr.of1 f).tr f5))
      · have c3' : dW T (wb 4) s = true := by cases e : dW T (wb 4) s; exact absurd e c3; rfl
        rw [c3'] at k
        have f := (f1.tr f2).tr f3
        exact sl_tail (kd := 2) (l.kept f (by omega)) t3 hd (by decide) (fun h5 f5 => k h5 ((fr.of1 f).tr f5))
    · have c2' : dW T (wb 3) s = true := by cases e : dW T (wb 3) s; exact absurd e c2; rfl
      rw [c2'] at k
      have f := f1.tr f2
      exact sl_tail (kd := 1) (l.kept f (by omega)) t2 hd (by decide) (fun h5 f5 => k h5 ((fr.of1 f).tr f5))
  · have c1' : dW T (wb 2) s = true := by cases e : dW T (wb 2) s; exact absurd e c1; rfl
    rw [c1'] at k
    exact sl_tail (kd := 0) (l.kept f1 (by omega)) t1 hd (by decide) (fun h5 f5 => k h5 ((fr.of1 f1).tr f5))
/-- a sill that may be -/
def slO (L : Sl) : Prop := (L.1 = 3 → 0 ≤ L.2.1 ∧ L.2.1 ≤ 9999) ∧ (L.1 ≠ 3 → -500 ≤ L.2.1 ∧ L.2.1 ≤ 1500) ∧ (L.1 = 1 ∨ L.1 = 2 → L.2.2.1 ≤ 600) ∧ (L.1 = 1 → L.2.2.2 ≤ 600)
theorem s_Sill_findFault {h : am_H} {a b : Nat} {L : Sl} {Q : Int32 → am_H → Prop} (s : slA h a b L) (k1 : slO L → Q 0 h) (k0 : ¬ slO L → Q 8 h) : am_Ei m_Sill_findFault 0 0 [.ref a] h Q := by
  obtain ⟨s1, s2, s3, s4, s5, s6, b1, b2, b3, b4⟩ := id s
  have e80 : ∀ (y : Bool), (y = true ↔ slO L) → am_EI m_Sill_findFault 0 0 80 [.ref a, .int (bi y)] [] h (am_qi Q) := by
    intro y hy
    refine sg_Sill_findFault_80 a (bi y) h _ ?_
    rw [bi_0]
    refine ⟨fun c => sg_Sill_findFault_90 a _ _ h _ (k0 (fun o => ?_)), fun c => sg_Sill_findFault_90 a _ _ h _ (k1 (hy.mp (by cases e : y; exact absurd e c; rfl)))⟩
    have := hy.mpr o
    rw [c] at this
    cases this
  have e60 : ∀ (y : Bool), (y = true ↔ (L.1 = 3 → 0 ≤ L.2.1 ∧ L.2.1 ≤ 9999) ∧ (L.1 ≠ 3 → -500 ≤ L.2.1 ∧ L.2.1 ≤ 1500) ∧ (L.1 = 1 ∨ L.1 = 2 → L.2.2.1 ≤ 600)) → am_EI m_Sill_findFault 0 0 60 [.ref a, .int (bi y)] [] h (am_qi Q) := by
    intro y hy
    refine sg_Sill_findFault_60 a (bi y) h _ ⟨s1, ?_⟩
    rw [s3, s6, jk1, jk600, ji_eq, ji_le]
    refine ⟨fun c => e80 y ?_, fun c => ⟨fun c2 => e80 y ?_, fun c2 => e80 false ⟨fun q => (by cases q), fun o => absurd (o.2.2.2 c) c2⟩⟩⟩
    · rw [hy]
      exact ⟨fun o => ⟨o.1, o.2.1, o.2.2, fun q => absurd q c⟩, fun o => ⟨o.1, o.2.1, o.2.2.1⟩⟩
    · rw [hy]
      exact ⟨fun o => ⟨o.1, o.2.1, o.2.2, fun _ => c2⟩, fun o => ⟨o.1, o.2.1, o.2.2.1⟩⟩
  have e40 : ∀ (y : Bool), (y = true ↔ (L.1 = 3 → 0 ≤ L.2.1 ∧ L.2.1 ≤ 9999) ∧ (L.1 ≠ 3 → -500 ≤ L.2.1 ∧ L.2.1 ≤ 1500)) → am_EI m_Sill_findFault 0 0 40 [.ref a, .float 0] [.int (bi y)] h (am_qi Q) := by
    intro y hy
    refine sg_Sill_findFault_40 a (bi y) h _ ⟨s1, s_Sill_hasTwoNumbers s (fun c => ⟨fun q => absurd q (by decide), fun _ => ⟨s1, ?_⟩⟩) (fun c => ⟨fun _ => e60 y ?_, fun q => absurd rfl q⟩)⟩
    · rw [s5, jk600, ji_le]
      refine ⟨fun c2 => e60 y ?_, fun c2 => e60 false ⟨fun q => (by cases q), fun o => absurd (o.2.2 c) c2⟩⟩
      rw [hy]
      exact ⟨fun o => ⟨o.1, o.2, fun _ => c2⟩, fun o => ⟨o.1, o.2.1⟩⟩
    · rw [hy]
      exact ⟨fun o => ⟨o.1, o.2, fun q => absurd q c⟩, fun o => ⟨o.1, o.2.1⟩⟩
  refine ev_Sill_findFault a h Q ⟨s1, ?_⟩
  rw [s3, s4, jk3, jk0, jk9999, ji_eq, ji_lt, ji_lt]
  refine ⟨fun c => s_Port_isHeight (by omega) (e40 _ ?_), fun c => ⟨fun c2 => sg_Sill_findFault_29 a h _ (e40 false ⟨fun q => (by cases q), fun o => by have := o.1 c; omega⟩), fun c2 => ⟨fun c3 => sg_Sill_findFault_29 a h _ (e40 false ⟨fun q => (by cases q), fun o => by have := o.1 c; omega⟩), fun c3 => e40 true ⟨fun _ => ⟨fun _ => by omega, fun q => absurd c q⟩, fun _ => rfl⟩⟩⟩⟩
  rw [decide_eq_true_iff]
  exact ⟨fun o => ⟨fun q => absurd q c, fun _ => o⟩, fun o => o.2 c⟩
abbrev Sp : Type := Int × Int × Int
def hpA (h : am_H) (a : Nat) (S : Sp) : Prop := am_tg h a = (6, 3) ∧ am_I h a 0 = ji S.1 ∧ am_I h a 1 = ji S.2.1 ∧ am_I h a 2 = ji S.2.2 ∧ (0 ≤ S.1 ∧ S.1 ≤ 9999) ∧ (0 ≤ S.2.1 ∧ S.2.1 ≤ 9999) ∧ (0 ≤ S.2.2 ∧ S.2.2 ≤ 9999)
theorem hpA.kept {h h' : am_H} {a lo hi : Nat} {S : Sp} (s : hpA h a S) (f : fi h h' lo hi) (hd : a + 1 ≤ lo ∨ hi ≤ a) : hpA h' a S := by
  obtain ⟨f1, f2, f3, f4⟩ := f
  unfold hpA
  rw [f2, f4 a (by omega)]
  exact s
theorem s_Ship_draught {h : am_H} {a : Nat} {S : Sp} {Q : Int32 → am_H → Prop} (s : hpA h a S) (k : Q (ji S.1) h) : am_Ei m_Ship_draught 0 0 [.ref a] h Q := ev_Ship_draught a h Q ⟨s.1, by rw [s.2.1]; exact k⟩
theorem s_Ship_mast {h : am_H} {a : Nat} {S : Sp} {Q : Int32 → am_H → Prop} (s : hpA h a S) (k : Q (ji S.2.1) h) : am_Ei m_Ship_mast 0 0 [.ref a] h Q := ev_Ship_mast a h Q ⟨s.1, by rw [s.2.2.1]; exact k⟩
theorem s_Ship_pace {h : am_H} {a : Nat} {S : Sp} {Q : Int32 → am_H → Prop} (s : hpA h a S) (k : Q (ji S.2.2) h) : am_Ei m_Ship_pace 0 0 [.ref a] h Q := ev_Ship_pace a h Q ⟨s.1, by rw [s.2.2.2.1]; exact k⟩
def lgM (S : Sp) (m : Int) : Int := (m * S.2.2 + 9) / 10
theorem lgM_bd {S : Sp} {m : Int} (hS : 0 ≤ S.2.2 ∧ S.2.2 ≤ 60) (hm : 0 ≤ m ∧ m ≤ 9999) : 0 ≤ lgM S m ∧ lgM S m ≤ 60000 := by
  have h1 : 0 ≤ m * S.2.2 := Int.mul_nonneg hm.1 hS.1
  have h2 : m * S.2.2 ≤ 9999 * 60 := Int.mul_le_mul hm.2 hS.2 hS.1 (by decide)
  unfold lgM
  omega
theorem s_Ship_minutesFor {h : am_H} {a : Nat} {S : Sp} {m : Int} {Q : Int32 → am_H → Prop} (s : hpA h a S) (hS : S.2.2 ≤ 60) (hm : 0 ≤ m ∧ m ≤ 9999) (k : Q (ji (lgM S m)) h) : am_Ei m_Ship_minutesFor 0 0 [.ref a, .int (ji m)] h Q := by
  have h0 := s.2.2.2.2.2.2
  have h1 : 0 ≤ m * S.2.2 := Int.mul_nonneg hm.1 h0.1
  have h2 : m * S.2.2 ≤ 9999 * 60 := Int.mul_le_mul hm.2 hS h0.1 (by decide)
  refine ev_Ship_minutesFor a (ji m) h Q ⟨s.1, ?_⟩
  rw [s.2.2.2.1, ji_mul, jk9, jk10, ji_add, ji_div]
  exact k
def spO (S : Sp) : Prop := (1 ≤ S.1 ∧ S.1 ≤ 1500) ∧ (1 ≤ S.2.2 ∧ S.2.2 ≤ 60)
theorem s_Ship_findFault {h : am_H} {a : Nat} {S : Sp} {Q : Int32 → am_H → Prop} (s : hpA h a S) (k1 : spO S → Q 0 h) (k0 : ¬ spO S → Q 9 h) : am_Ei m_Ship_findFault 0 0 [.ref a] h Q := by
  obtain ⟨s1, s2, s3, s4, b1, b2, b3⟩ := s
  refine ev_Ship_findFault a h Q ⟨s1, ?_⟩
  rw [s2, s4, jk1, jk1500, jk60, ji_lt, ji_lt, ji_lt, ji_lt]
  exact ⟨fun c => k0 (fun o => by have := o.1; omega), fun c => ⟨fun c2 => k0 (fun o => by have := o.1; omega), fun c2 => ⟨fun c3 => k0 (fun o => by have := o.2; omega), fun c3 => ⟨fun c4 => k0 (fun o => by have := o.2; omega), fun c4 => k1 ⟨by omega, by omega⟩⟩⟩⟩⟩
def spV (T : List Int) (s : Nat × Bool) : Sp := (vN T s, vN T (aN T s), vN T (aN T (aN T s)))
def spE' (T : List Int) (s : Nat × Bool) : Nat × Bool := aN T (aN T (aN T s))
theorem s_Ship_readFrom {h : am_H} {a b : Nat} {T : List Int} {s : Nat × Bool} {Q : am_H → Prop} (ha : am_tg h a = (6, 3)) (t : tpA h b T s) (hd : a + 1 ≤ b ∨ b + 2 ≤ a) (k : ∀ h', fr h h' b a (a + 1) → hpA h' a (spV T s) → tpA h' b T (spE' T s) → Q h') : am_Ew m_Ship_readFrom 0 0 [.ref a, .ref b] h Q := by
  have put : ∀ {h : am_H} {s : Nat × Bool} (j : Nat) (v : Int32), tpA h b T s → tpA (am_si h a j v) b T s := fun j v t => t.kept (fi.si (lo := a) (hi := a + 1) (by omega) (by omega)) (by omega)
  have pf : ∀ {h : am_H} (j : Nat) (v : Int32), fr h (am_si h a j v) b a (a + 1) := fun j v => fr.of2 (fi.si (by omega) (by omega))
  refine ev_Ship_readFrom a b h Q ⟨t.1.1, s_Tape_wantNumber t (fun h1 f1 t1 b1 => ?_)⟩
  have g1 : am_tg h1 a = (6, 3) := by rw [f1.2.1]; exact ha
  refine ⟨g1, t1.1.1, s_Tape_wantNumber (put _ _ t1) (fun h2 f2 t2 b2 => ?_)⟩
  have g2 : am_tg h2 a = (6, 3) := by rw [f2.2.1]; exact g1
  refine ⟨g2, t2.1.1, s_Tape_wantNumber (put _ _ t2) (fun h3 f3 t3 b3 => ?_)⟩
  have g3 : am_tg h3 a = (6, 3) := by rw [f3.2.1]; exact g2
  have e2 : am_I h2 a = va_up (am_I h1 a) 0 (ji (vN T s)) := by rw [f2.2.2.2 a (by omega), am_I_sis]
  have e3 : am_I h3 a = va_up (am_I h2 a) 1 (ji (vN T (aN T s))) := by rw [f3.2.2.2 a (by omega), am_I_sis]
  refine ⟨g3, k _ (((((fr.of1 f1).tr (pf _ _)).tr (fr.of1 f2)).tr (pf _ _)).tr ((fr.of1 f3).tr (pf _ _))) ⟨g3, ?_, ?_, ?_, b1, b2, b3⟩ (put _ _ t3)⟩
  · rw [am_I_sis, va_up_no _ _ (by decide), e3, va_up_no _ _ (by decide), e2, va_up_at]
    rfl
  · rw [am_I_sis, va_up_no _ _ (by decide), e3, va_up_at]
    rfl
  · rw [am_I_sis, va_up_at]
    rfl
