/-! the whole object -/
noncomputable def cif {α : Type} (p : Prop) (a b : α) : α := @ite α p (Classical.propDecidable p) a b
theorem cif_pos {α : Type} {p : Prop} {a b : α} (h : p) : cif p a b = a := if_pos h
theorem cif_neg {α : Type} {p : Prop} {a b : α} (h : ¬ p) : cif p a b = b := if_neg h
abbrev St : Type := List Int × List (List Tn) × List (Nat × Sl) × List Sp × List (List RtStop) × Int × Int × Int
def stS (s : St) (v : Int) : St := (s.1, s.2.1, s.2.2.1, s.2.2.2.1, s.2.2.2.2.1, v, s.2.2.2.2.2.2.1, s.2.2.2.2.2.2.2)
def mnF (h : am_H) : Prop := am_tg h 0 = (11, 18) ∧ am_P h 0 0 = some 1 ∧ am_P h 0 1 = some 3 ∧ am_P h 0 2 = some 13 ∧ am_P h 0 3 = some 19 ∧ am_P h 0 4 = some 20 ∧ am_P h 0 5 = some 21 ∧ am_P h 0 6 = some 22 ∧ am_P h 0 7 = some 23 ∧ am_P h 0 8 = some 33 ∧ am_P h 0 9 = some 36 ∧ am_P h 0 10 = some 85 ∧ am_tg h 19 = (32, 8) ∧ am_tg h 20 = (37, 12) ∧ am_tg h 21 = (36, 6) ∧ am_tg h 22 = (34, 8)
def mnX (h : am_H) : Prop := (∃ D, dfA h 3 D) ∧ (∃ M, ptA h 9 40 M) ∧ (∃ R, rtA h 13 32 R) ∧ wnA h 23 ∧ spX h 33 24 ∧ plX h 36 ∧ ∃ l, pgA h 85 l
def mnC (h : am_H) (s : St) : Prop := (am_I h 0 11 = ji s.2.1.length ∧ s.2.1.length ≤ 8) ∧ (am_I h 0 12 = ji s.2.2.1.length ∧ s.2.2.1.length ≤ 12) ∧ (am_I h 0 13 = ji s.2.2.2.1.length ∧ s.2.2.2.1.length ≤ 6) ∧ (am_I h 0 14 = ji s.2.2.2.2.1.length ∧ s.2.2.2.2.1.length ≤ 8)
def mnP (h : am_H) (PS : List (List Tn)) (z : Nat) : Prop := ∀ (i : Nat) (P : List Tn), PS[i]? = some P → gW P ∧ ∃ c, am_P h 19 i = some c ∧ ptA h c 16 P ∧ 146 ≤ c ∧ c + 4 ≤ z
def mnL (h : am_H) (PS : List (List Tn)) (LS : List (Nat × Sl)) (z : Nat) : Prop := ∀ (i : Nat) (L : Nat × Sl), LS[i]? = some L → slO L.2 ∧ L.1 < PS.length ∧ ∃ x c, am_P h 20 i = some x ∧ am_P h 19 L.1 = some c ∧ slA h x c L.2 ∧ 146 ≤ x ∧ x + 1 ≤ z
def mnH (h : am_H) (SS : List Sp) (z : Nat) : Prop := ∀ (i : Nat) (S : Sp), SS[i]? = some S → spO S ∧ ∃ x, am_P h 21 i = some x ∧ hpA h x S ∧ 146 ≤ x ∧ x + 1 ≤ z
def mnR (h : am_H) (LS : List (Nat × Sl)) (RS : List (List RtStop)) (z : Nat) : Prop := ∀ (i : Nat) (R : List RtStop), RS[i]? = some R → 0 < R.length ∧ ∃ b, am_P h 22 i = some b ∧ rtA h b 8 R ∧ 146 ≤ b ∧ b + 6 ≤ z ∧ ∀ (j : Nat) (q : RtStop), R[j]? = some q → q.2.1 < LS.length ∧ (-500 ≤ q.2.2.2 ∧ q.2.2.2 ≤ 1500) ∧ am_P h (b + 1) j = am_P h 20 q.2.1.toNat
def mnS (h : am_H) (s : St) : Prop := am_I h 0 15 = ji s.2.2.2.2.2.1 ∧ am_I h 0 16 = ji s.2.2.2.2.2.2.1 ∧ am_I h 0 17 = ji s.2.2.2.2.2.2.2
def mnB (h : am_H) (s : St) (z : Nat) : Prop := mnF h ∧ mnX h ∧ tpT h 1 s.1 ∧ mnC h s ∧ mnP h s.2.1 z ∧ mnL h s.2.1 s.2.2.1 z ∧ mnH h s.2.2.2.1 z ∧ mnR h s.2.2.1 s.2.2.2.2.1 z ∧ mnS h s ∧ 146 ≤ z ∧ z ≤ am_sz h
def mnA (h : am_H) (s : St) : Prop := mnB h s (am_sz h)
/-- what a call of the class leaves to others -/
def fc (h h' : am_H) : Prop := am_sz h ≤ am_sz h' ∧ (∀ b, b < am_sz h → am_tg h' b = am_tg h b) ∧ ∀ b, 87 ≤ b → b < am_sz h → am_I h' b = am_I h b ∧ am_P h' b = am_P h b
theorem fc.rf {h : am_H} : fc h h := ⟨Nat.le_refl _, fun _ _ => rfl, fun _ _ _ => ⟨rfl, rfl⟩⟩
theorem fc.tr {h h1 h2 : am_H} (a : fc h h1) (b : fc h1 h2) : fc h h2 := by
  obtain ⟨a1, a2, a3⟩ := a
  obtain ⟨b1, b2, b3⟩ := b
  refine ⟨by omega, fun c hc => by rw [b2 c (by omega), a2 c hc], fun c h1 h2 => ?_⟩
  rw [(b3 c h1 (by omega)).1, (b3 c h1 (by omega)).2]
  exact a3 c h1 h2
theorem fc.of {h h' : am_H} {lo hi : Nat} (f : fi h h' lo hi) (hh : hi ≤ 87) : fc h h' := by
  obtain ⟨f1, f2, f3, f4⟩ := f
  refine ⟨by omega, fun b _ => by rw [f2], fun b h1 h2 => ⟨f4 b (by omega), by rw [f3]⟩⟩
theorem mnF.kept {h h' : am_H} {lo hi : Nat} (m : mnF h) (f : fi h h' lo hi) : mnF h' := by
  unfold mnF
  rw [f.2.1, f.2.2.1]
  exact m
theorem mnP.kept {h h' : am_H} {lo hi : Nat} {PS : List (List Tn)} {z : Nat} (m : mnP h PS z) (f : fi h h' lo hi) (hh : hi ≤ 146) : mnP h' PS z := by
  intro i P hP
  obtain ⟨g, c, e1, e2, e3, e4⟩ := m i P hP
  exact ⟨g, c, by rw [f.2.2.1]; exact e1, e2.kept f (by omega), e3, e4⟩
theorem mnL.kept {h h' : am_H} {lo hi : Nat} {PS : List (List Tn)} {LS : List (Nat × Sl)} {z : Nat} (m : mnL h PS LS z) (f : fi h h' lo hi) (hh : hi ≤ 146) : mnL h' PS LS z := by
  intro i L hL
  obtain ⟨g, g2, x, c, e1, e2, e3, e4, e5⟩ := m i L hL
  exact ⟨g, g2, x, c, by rw [f.2.2.1]; exact e1, by rw [f.2.2.1]; exact e2, e3.kept f (by omega), e4, e5⟩
theorem mnH.kept {h h' : am_H} {lo hi : Nat} {SS : List Sp} {z : Nat} (m : mnH h SS z) (f : fi h h' lo hi) (hh : hi ≤ 146) : mnH h' SS z := by
  intro i S hS
  obtain ⟨g, x, e1, e2, e3, e4⟩ := m i S hS
  exact ⟨g, x, by rw [f.2.2.1]; exact e1, e2.kept f (by omega), e3, e4⟩
theorem mnR.kept {h h' : am_H} {lo hi : Nat} {LS : List (Nat × Sl)} {RS : List (List RtStop)} {z : Nat} (m : mnR h LS RS z) (f : fi h h' lo hi) (hh : hi ≤ 146) : mnR h' LS RS z := by
  intro i R hR
  obtain ⟨g, b, e1, e2, e3, e4, e5⟩ := m i R hR
  refine ⟨g, b, by rw [f.2.2.1]; exact e1, e2.kept f (by omega), e3, e4, ?_⟩
  rw [f.2.2.1]
  exact e5
theorem mnX.kept {h h' : am_H} {lo hi : Nat} (x : mnX h) (f : fi h h' lo hi) (hd : 87 ≤ lo ∨ hi ≤ 3) : mnX h' := by
  obtain ⟨⟨D, x1⟩, ⟨M, x2⟩, ⟨R, x3⟩, x4, x5, x6, ⟨l, x7⟩⟩ := x
  exact ⟨⟨D, x1.kept f (by omega)⟩, ⟨M, x2.kept f (by omega)⟩, ⟨R, x3.kept f (by omega)⟩, x4.kept f (by omega), x5.kept f (by omega), x6.kept f (by omega), ⟨l, x7.kept f (by omega)⟩⟩
theorem mnX.oW {h h' : am_H} (x : mnX h) (f : fi h h' 23 33) (n : wnA h' 23) : mnX h' := by
  obtain ⟨⟨D, x1⟩, ⟨M, x2⟩, ⟨R, x3⟩, x4, x5, x6, ⟨l, x7⟩⟩ := x
  exact ⟨⟨D, x1.kept f (by omega)⟩, ⟨M, x2.kept f (by omega)⟩, ⟨R, x3.kept f (by omega)⟩, n, x5.kept f (by omega), x6.kept f (by omega), ⟨l, x7.kept f (by omega)⟩⟩
theorem mnX.oS {h h' : am_H} (x : mnX h) (f : fi h h' 33 36) (n : spX h' 33 24) : mnX h' := by
  obtain ⟨⟨D, x1⟩, ⟨M, x2⟩, ⟨R, x3⟩, x4, x5, x6, ⟨l, x7⟩⟩ := x
  exact ⟨⟨D, x1.kept f (by omega)⟩, ⟨M, x2.kept f (by omega)⟩, ⟨R, x3.kept f (by omega)⟩, x4.kept f (by omega), n, x6.kept f (by omega), ⟨l, x7.kept f (by omega)⟩⟩
theorem mnX.oP {h h' : am_H} (x : mnX h) (f : fi h h' 36 85) (n : plX h' 36) : mnX h' := by
  obtain ⟨⟨D, x1⟩, ⟨M, x2⟩, ⟨R, x3⟩, x4, x5, x6, ⟨l, x7⟩⟩ := x
  exact ⟨⟨D, x1.kept f (by omega)⟩, ⟨M, x2.kept f (by omega)⟩, ⟨R, x3.kept f (by omega)⟩, x4.kept f (by omega), x5.kept f (by omega), n, ⟨l, x7.kept f (by omega)⟩⟩
theorem mnX.oG {h h' : am_H} {l : List Int} (x : mnX h) (f : fi h h' 85 87) (n : pgA h' 85 l) : mnX h' := by
  obtain ⟨⟨D, x1⟩, ⟨M, x2⟩, ⟨R, x3⟩, x4, x5, x6, -⟩ := x
  exact ⟨⟨D, x1.kept f (by omega)⟩, ⟨M, x2.kept f (by omega)⟩, ⟨R, x3.kept f (by omega)⟩, x4.kept f (by omega), x5.kept f (by omega), x6.kept f (by omega), ⟨l, n⟩⟩
theorem mnB.work {h h' : am_H} {lo hi z : Nat} {s : St} (m : mnB h s z) (f : fi h h' lo hi) (h1 : 3 ≤ lo) (h2 : hi ≤ 146) (x : mnX h') : mnB h' s z := by
  obtain ⟨mF, mX, mT, mC, mP, mL, mH, mR, mS, mZ⟩ := m
  refine ⟨mF.kept f, x, mT.kept f (by omega), ?_, mP.kept f (by omega), mL.kept f (by omega), mH.kept f (by omega), mR.kept f (by omega), ?_, by rw [f.1]; exact mZ⟩
  · unfold mnC
    rw [f.2.2.2 0 (by omega)]
    exact mC
  · unfold mnS
    rw [f.2.2.2 0 (by omega)]
    exact mS
theorem mnA.work {h h' : am_H} {lo hi : Nat} {s : St} (m : mnA h s) (f : fi h h' lo hi) (h1 : 3 ≤ lo) (h2 : hi ≤ 87) (x : mnX h') : mnA h' s := by
  unfold mnA
  rw [f.1]
  exact mnB.work m f h1 (by omega) x
theorem mnA.ref {h h' : am_H} {lo hi : Nat} {s : St} (m : mnA h s) (f : fi h h' lo hi) (h1 : 87 ≤ lo) (h2 : hi ≤ 146) : mnA h' s := by
  unfold mnA
  rw [f.1]
  exact mnB.work m f (by omega) h2 (m.2.1.kept f (by omega))
theorem mnB.stat {h : am_H} {z : Nat} {s : St} (m : mnB h s z) (v : Int) : mnB (am_si h 0 15 (ji v)) (stS s v) z := by
  have f : fi h (am_si h 0 15 (ji v)) 0 1 := fi.si (by omega) (by omega)
  obtain ⟨mF, mX, mT, mC, mP, mL, mH, mR, mS, mZ⟩ := m
  refine ⟨mF.kept f, mX.kept f (by omega), mT.kept f (by omega), ?_, mP.kept f (by omega), mL.kept f (by omega), mH.kept f (by omega), mR.kept f (by omega), ?_, mZ⟩
  · unfold mnC stS
    rw [am_I_sis, va_up_no _ _ (by decide), va_up_no _ _ (by decide), va_up_no _ _ (by decide), va_up_no _ _ (by decide)]
    exact mC
  · unfold mnS stS
    rw [am_I_sis, va_up_at, va_up_no _ _ (by decide), va_up_no _ _ (by decide)]
    exact ⟨rfl, mS.2.1, mS.2.2⟩
theorem mnA.stat {h : am_H} {s : St} (m : mnA h s) (v : Int) : mnA (am_si h 0 15 (ji v)) (stS s v) := mnB.stat m v
theorem mn_ans {h h0 : am_H} {s : St} {v : Int} {Q : Int32 → am_H → Prop} (m : mnA h s) (f0 : fc h0 h) (k : ∀ h', fc h0 h' → mnA h' (stS s 0) → Q (ji v) h') : am_Ei m_Main_answer 0 0 [.ref 0, .int (ji v)] h Q := by
  refine ev_Main_answer 0 (ji v) h Q ⟨m.1.1, ?_⟩
  exact k _ (f0.tr (fc.of (fi.si (Nat.le_refl 0) (by omega) : fi h _ 0 1) (by omega))) (m.stat 0)
theorem mn_ref {h h0 : am_H} {s : St} {w : Int} {Q : Int32 → am_H → Prop} (m : mnA h s) (f0 : fc h0 h) (k : ∀ h', fc h0 h' → mnA h' (stS s w) → Q (ji (-9999)) h') : am_Ei m_Main_refuse 0 0 [.ref 0, .int (ji w)] h Q := by
  refine ev_Main_refuse 0 (ji w) h Q ⟨m.1.1, ?_⟩
  exact k _ (f0.tr (fc.of (fi.si (Nat.le_refl 0) (by omega) : fi h _ 0 1) (by omega))) (m.stat w)
def gt {α : Type} (l : List α) (n : Int) : Option α := if 0 ≤ n then l[n.toNat]? else none
theorem gt_some {α : Type} {l : List α} {n : Int} {a : α} (h : gt l n = some a) : 0 ≤ n ∧ n < l.length ∧ l[n.toNat]? = some a := by
  unfold gt at h
  by_cases c : 0 ≤ n
  · rw [if_pos c] at h
    have := (List.getElem?_eq_some_iff.mp h).1
    exact ⟨c, by omega, h⟩
  · rw [if_neg c] at h
    cases h
theorem gt_none {α : Type} {l : List α} {n : Int} (h : gt l n = none) : n < 0 ∨ (l.length : Int) ≤ n := by
  unfold gt at h
  by_cases c : 0 ≤ n
  · rw [if_pos c] at h
    have := List.getElem?_eq_none_iff.mp h
    omega
  · omega
theorem s_Main_portAt {h : am_H} {s : St} {n : Int} {Q : Option Nat → am_H → Prop} (m : mnA h s) (hn : -2147483648 ≤ n ∧ n < 2147483648) (k0 : gt s.2.1 n = none → Q none h) (k1 : ∀ P c, gt s.2.1 n = some P → gW P → am_P h 19 n.toNat = some c → ptA h c 16 P → 146 ≤ c → Q (some c) h) : am_Er m_Main_portAt 0 0 [.ref 0, .int (ji n)] h Q := by
  obtain ⟨mF, mX, mT, mC, mP, mL, mH, mR, mS, mZ⟩ := m
  obtain ⟨⟨c1, c2⟩, -⟩ := mC
  refine ev_Main_portAt 0 (ji n) h Q ?_
  rw [jk0, jk8, c1, ji_lt, ji_le, ji_le]
  cases e : gt s.2.1 n with
  | none =>
    have := gt_none e
    exact ⟨fun _ => k0 e, fun _ => ⟨mF.1, fun _ => k0 e, fun _ => absurd this (by omega)⟩⟩
  | some P =>
    obtain ⟨e1, e2, e3⟩ := gt_some e
    obtain ⟨g, c, p1, p2, p3, p4⟩ := mP _ P e3
    have t19 := mF.2.2.2.2.2.2.2.2.2.2.2.2.1
    refine ⟨fun c => absurd c (by omega), fun _ => ⟨mF.1, fun c => absurd c (by omega), fun _ => ⟨fun c => absurd c (by omega), fun _ => ⟨19, mF.2.2.2.2.1, by rw [t19], by rw [t19, ji_in]; omega, c, by rw [ji_tn]; exact p1, k1 P c e g p1 p2 p3⟩⟩⟩⟩
theorem s_Main_sillAt {h : am_H} {s : St} {n : Int} {Q : Option Nat → am_H → Prop} (m : mnA h s) (hn : -2147483648 ≤ n ∧ n < 2147483648) (k0 : gt s.2.2.1 n = none → Q none h) (k1 : ∀ L x c P, gt s.2.2.1 n = some L → slO L.2 → am_P h 20 n.toNat = some x → slA h x c L.2 → 146 ≤ x → s.2.1[L.1]? = some P → gW P → ptA h c 16 P → 146 ≤ c → Q (some x) h) : am_Er m_Main_sillAt 0 0 [.ref 0, .int (ji n)] h Q := by
  obtain ⟨mF, mX, mT, mC, mP, mL, mH, mR, mS, mZ⟩ := m
  obtain ⟨-, ⟨c1, c2⟩, -⟩ := mC
  refine ev_Main_sillAt 0 (ji n) h Q ?_
  rw [jk0, jk12, c1, ji_lt, ji_le, ji_le]
  cases e : gt s.2.2.1 n with
  | none =>
    have := gt_none e
    exact ⟨fun _ => k0 e, fun _ => ⟨mF.1, fun _ => k0 e, fun _ => absurd this (by omega)⟩⟩
  | some L =>
    obtain ⟨e1, e2, e3⟩ := gt_some e
    obtain ⟨g, hl, x, c, p1, p2, p3, p4, p5⟩ := mL _ L e3
    obtain ⟨P, hP⟩ : ∃ P, s.2.1[L.1]? = some P := ⟨_, List.getElem?_eq_getElem hl⟩
    obtain ⟨gp, c', r1, r2, r3, r4⟩ := mP _ P hP
    obtain rfl : c = c' := by rw [p2] at r1; exact Option.some.inj r1
    have t20 := mF.2.2.2.2.2.2.2.2.2.2.2.2.2.1
    refine ⟨fun c => absurd c (by omega), fun _ => ⟨mF.1, fun c => absurd c (by omega), fun _ => ⟨fun c => absurd c (by omega), fun _ => ⟨20, mF.2.2.2.2.2.1, by rw [t20], by rw [t20, ji_in]; omega, x, by rw [ji_tn]; exact p1, k1 L x c P e g p1 p3 p4 hP gp r2 r3⟩⟩⟩⟩
theorem s_Main_shipAt {h : am_H} {s : St} {n : Int} {Q : Option Nat → am_H → Prop} (m : mnA h s) (hn : -2147483648 ≤ n ∧ n < 2147483648) (k0 : gt s.2.2.2.1 n = none → Q none h) (k1 : ∀ S x, gt s.2.2.2.1 n = some S → spO S → hpA h x S → 146 ≤ x → Q (some x) h) : am_Er m_Main_shipAt 0 0 [.ref 0, .int (ji n)] h Q := by
  obtain ⟨mF, mX, mT, mC, mP, mL, mH, mR, mS, mZ⟩ := m
  obtain ⟨-, -, ⟨c1, c2⟩, -⟩ := mC
  refine ev_Main_shipAt 0 (ji n) h Q ?_
  rw [jk0, jk6, c1, ji_lt, ji_le, ji_le]
  cases e : gt s.2.2.2.1 n with
  | none =>
    have := gt_none e
    exact ⟨fun _ => k0 e, fun _ => ⟨mF.1, fun _ => k0 e, fun _ => absurd this (by omega)⟩⟩
  | some S =>
    obtain ⟨e1, e2, e3⟩ := gt_some e
    obtain ⟨g, c, p1, p2, p3, p4⟩ := mH _ S e3
    have t := mF.2.2.2.2.2.2.2.2.2.2.2.2.2.2.1
    refine ⟨fun c => absurd c (by omega), fun _ => ⟨mF.1, fun c => absurd c (by omega), fun _ => ⟨fun c => absurd c (by omega), fun _ => ⟨21, mF.2.2.2.2.2.2.1, by rw [t], by rw [t, ji_in]; omega, c, by rw [ji_tn]; exact p1, k1 S c e g p2 p3⟩⟩⟩⟩
/-- the sill of a stop, its port -/
def Lf (s : St) (R : List RtStop) (i : Nat) : Sl := match R[i]? with | some q => (match s.2.2.1[q.2.1.toNat]? with | some L => L.2 | none => (0, 0, 0, 0)) | none => (0, 0, 0, 0)
def Pf (s : St) (R : List RtStop) (i : Nat) : List Tn := match R[i]? with | some q => (match s.2.2.1[q.2.1.toNat]? with | some L => (match s.2.1[L.1]? with | some P => P | none => []) | none => []) | none => []
theorem s_Main_routeAt {h : am_H} {s : St} {n : Int} {Q : Option Nat → am_H → Prop} (m : mnA h s) (hn : -2147483648 ≤ n ∧ n < 2147483648) (k0 : gt s.2.2.2.2.1 n = none → Q none h) (k1 : ∀ R b, gt s.2.2.2.2.1 n = some R → rcA h b 36 R (Pf s R) (Lf s R) → 146 ≤ b → Q (some b) h) : am_Er m_Main_routeAt 0 0 [.ref 0, .int (ji n)] h Q := by
  obtain ⟨mF, mX, mT, mC, mP, mL, mH, mR, mS, mZ⟩ := m
  obtain ⟨-, -, -, ⟨c1, c2⟩⟩ := mC
  refine ev_Main_routeAt 0 (ji n) h Q ?_
  rw [jk0, jk8, c1, ji_lt, ji_le, ji_le]
  cases e : gt s.2.2.2.2.1 n with
  | none =>
    have := gt_none e
    exact ⟨fun _ => k0 e, fun _ => ⟨mF.1, fun _ => k0 e, fun _ => absurd this (by omega)⟩⟩
  | some R =>
    obtain ⟨e1, e2, e3⟩ := gt_some e
    obtain ⟨g, b, p1, p2, p3, p4, p5⟩ := mR _ R e3
    have t := mF.2.2.2.2.2.2.2.2.2.2.2.2.2.2.2
    refine ⟨fun c => absurd c (by omega), fun _ => ⟨mF.1, fun c => absurd c (by omega), fun _ => ⟨fun c => absurd c (by omega), fun _ => ⟨22, mF.2.2.2.2.2.2.2.1, by rw [t], by rw [t, ji_in]; omega, b, by rw [ji_tn]; exact p1, ?_⟩⟩⟩⟩
    refine k1 R b e ⟨p2, by omega, g, fun i q hq => ?_⟩ p3
    obtain ⟨q1, q2, q3⟩ := p5 i q hq
    have q0 := (p2.row hq).2.2.2.2.2.1
    obtain ⟨L, hL⟩ : ∃ L, s.2.2.1[q.2.1.toNat]? = some L := ⟨_, List.getElem?_eq_getElem (by omega)⟩
    obtain ⟨o, hl, x, c, r1, r2, r3, r4, r5⟩ := mL _ L hL
    obtain ⟨P, hP⟩ : ∃ P, s.2.1[L.1]? = some P := ⟨_, List.getElem?_eq_getElem hl⟩
    obtain ⟨gp, c', u1, u2, u3, u4⟩ := mP _ P hP
    obtain rfl : c = c' := by rw [r2] at u1; exact Option.some.inj u1
    have eL : Lf s R i = L.2 := by
      unfold Lf
      simp only [hq, hL]
    have eP : Pf s R i = P := by
      unfold Pf
      simp only [hq, hL, hP]
    rw [eL, eP]
    exact ⟨q2, gp, o, x, c, 16, by rw [q3]; exact r1, r3, u2, by omega, by omega⟩
