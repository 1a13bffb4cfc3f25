/-! what is told: the parts that all share -/
def stT (s : St) (T : List Int) : St := (T, s.2.1, s.2.2.1, s.2.2.2.1, s.2.2.2.2.1, s.2.2.2.2.2.1, s.2.2.2.2.2.2.1, s.2.2.2.2.2.2.2)
def stF (s : St) (f : Int) : St := (s.1, s.2.1, s.2.2.1, s.2.2.2.1, s.2.2.2.2.1, s.2.2.2.2.2.1, s.2.2.2.2.2.2.1, f)
/-- a text is read to its end e -/
def rdS (s : St) (e : Nat × Bool) : St := ([], s.2.1, s.2.2.1, s.2.2.2.1, s.2.2.2.2.1, s.2.2.2.2.2.1, (if rdW s.1 e then -9999 else (e.1 : Int)), 0)
theorem fc.es {h h' : am_H} (e : es h h' 0 (am_sz h)) (hz : am_sz h ≤ am_sz h') : fc h h' := ⟨hz, fun b hb => (e b (by omega) hb).1, fun b _ hb => ⟨(e b (by omega) hb).2.1, (e b (by omega) hb).2.2⟩⟩
theorem fc.si {h h1 : am_H} {a k : Nat} {v : Int32} (f : fc h h1) (ha : a < 87 ∨ am_sz h ≤ a) : fc h (am_si h1 a k v) := ⟨f.1, f.2.1, fun b h1 h2 => ⟨by rw [am_I_sin (by omega)]; exact (f.2.2 b h1 h2).1, (f.2.2 b h1 h2).2⟩⟩
theorem fc.sp {h h1 : am_H} {a k : Nat} {v : Option Nat} (f : fc h h1) (ha : a < 87 ∨ am_sz h ≤ a) : fc h (am_sp h1 a k v) := ⟨f.1, f.2.1, fun b h1 h2 => ⟨(f.2.2 b h1 h2).1, by rw [am_P_spn (by omega)]; exact (f.2.2 b h1 h2).2⟩⟩
theorem fc.fi {h h1 h2 : am_H} {lo hi : Nat} (f : fc h h1) (g : fi h1 h2 lo hi) (hh : hi ≤ 87 ∨ am_sz h ≤ lo) : fc h h2 := by
  obtain ⟨g1, g2, g3, g4⟩ := g
  refine ⟨by rw [g1]; exact f.1, fun b hb => by rw [g2]; exact f.2.1 b hb, fun b p1 p2 => ⟨?_, by rw [g3]; exact (f.2.2 b p1 p2).2⟩⟩
  rw [g4 b (by omega)]
  exact (f.2.2 b p1 p2).1
theorem fc.fr {h h1 h2 : am_H} {c lo hi : Nat} (f : fc h h1) (g : fr h1 h2 c lo hi) (hc : c < 87) (hh : hi ≤ 87 ∨ am_sz h ≤ lo) : fc h h2 := by
  obtain ⟨g1, g2, g3, g4⟩ := g
  refine ⟨by rw [g1]; exact f.1, fun b hb => by rw [g2]; exact f.2.1 b hb, fun b p1 p2 => ⟨?_, by rw [g3]; exact (f.2.2 b p1 p2).2⟩⟩
  rw [g4 b (by omega) (by omega)]
  exact (f.2.2 b p1 p2).1
theorem mnB.gen {h h' : am_H} {s : St} {z : Nat} {T : List Int} (m : mnB h s z) (hz : am_sz h ≤ am_sz h') (ea : es h h' 0 1) (eb : es h h' 19 23) (ec : es h h' 146 z) (x : mnX h') (t : tpT h' 1 T) : mnB h' (stT s T) z := by
  obtain ⟨mF, mX, mT, mC, mP, mL, mH, mR, mS, mZ⟩ := m
  have e0 := ea 0 (by omega) (by omega)
  have e19 := eb 19 (by omega) (by omega)
  have e20 := eb 20 (by omega) (by omega)
  have e21 := eb 21 (by omega) (by omega)
  have e22 := eb 22 (by omega) (by omega)
  refine ⟨mF.es ea eb, x, t, ?_, ?_, ?_, ?_, ?_, ?_, by omega⟩
  · unfold mnC stT
    rw [e0.2.1]
    exact mC
  · intro i P hP
    obtain ⟨g, c, a1, a2, a3, a4⟩ := mP i P hP
    exact ⟨g, c, by rw [e19.2.2]; exact a1, a2.es (ec.sub (by omega) (by omega)), a3, a4⟩
  · intro i L hL
    obtain ⟨g, g2, x, c, a1, a2, a3, a4, a5⟩ := mL i L hL
    exact ⟨g, g2, x, c, by rw [e20.2.2]; exact a1, by rw [e19.2.2]; exact a2, a3.es (ec.sub (by omega) (by omega)), a4, a5⟩
  · intro i S hS
    obtain ⟨g, x, a1, a2, a3, a4⟩ := mH i S hS
    exact ⟨g, x, by rw [e21.2.2]; exact a1, a2.es (ec.sub (by omega) (by omega)), a3, a4⟩
  · intro i R hR
    obtain ⟨g, b, a1, a2, a3, a4, a5⟩ := mR i R hR
    refine ⟨g, b, by rw [e22.2.2]; exact a1, a2.es (ec.sub (by omega) (by omega)), a3, a4, ?_⟩
    rw [(ec (b + 1) (by omega) (by omega)).2.2, e20.2.2]
    exact a5
  · unfold mnS stT
    rw [e0.2.1]
    exact mS
/-- only the tape has changed -/
theorem mnB.tape {h h' : am_H} {s : St} {z : Nat} {T : List Int} (m : mnB h s z) (f : fi h h' 1 3) (t : tpT h' 1 T) : mnB h' (stT s T) z :=
  m.gen (by rw [f.1]; omega) (f.es (by omega)) (f.es (by omega)) (f.es (by omega)) (m.2.1.kept f (by omega)) t
theorem mnB.flt {h : am_H} {z : Nat} {s : St} (m : mnB h s z) (v : Int) : mnB (am_si h 0 17 (ji v)) (stF s v) z := by
  have f : fi h (am_si h 0 17 (ji v)) 0 1 := fi.si (by omega) (by omega)
  obtain ⟨mF, mX, mT, mC, mP, mL, mH, mR, mS, mZ⟩ := m
  refine ⟨mF.kept f, mX.kept f (by omega), mT.kept f (by omega), ?_, mP.kept f (by omega), mL.kept f (by omega), mH.kept f (by omega), mR.kept f (by omega), ?_, mZ⟩
  · unfold mnC stF
    rw [am_I_sis, va_up_no _ _ (by decide), va_up_no _ _ (by decide), va_up_no _ _ (by decide), va_up_no _ _ (by decide)]
    exact mC
  · unfold mnS stF
    rw [am_I_sis, va_up_no _ _ (by decide), va_up_no _ _ (by decide), va_up_at]
    exact ⟨mS.1, mS.2.1, rfl⟩
def stPl (s : St) (p : Int) : St := (s.1, s.2.1, s.2.2.1, s.2.2.2.1, s.2.2.2.2.1, s.2.2.2.2.2.1, p, s.2.2.2.2.2.2.2)
theorem mnB.plc {h : am_H} {z : Nat} {s : St} (m : mnB h s z) (v : Int) : mnB (am_si h 0 16 (ji v)) (stPl s v) z := by
  have f : fi h (am_si h 0 16 (ji v)) 0 1 := fi.si (by omega) (by omega)
  obtain ⟨mF, mX, mT, mC, mP, mL, mH, mR, mS, mZ⟩ := m
  refine ⟨mF.kept f, mX.kept f (by omega), mT.kept f (by omega), ?_, mP.kept f (by omega), mL.kept f (by omega), mH.kept f (by omega), mR.kept f (by omega), ?_, mZ⟩
  · unfold mnC stPl
    rw [am_I_sis, va_up_no _ _ (by decide), va_up_no _ _ (by decide), va_up_no _ _ (by decide), va_up_no _ _ (by decide)]
    exact mC
  · unfold mnS stPl
    rw [am_I_sis, va_up_no _ _ (by decide), va_up_at, va_up_no _ _ (by decide)]
    exact ⟨mS.1, rfl, mS.2.2⟩
theorem mnB.A {h : am_H} {s : St} {z : Nat} (m : mnB h s z) : mnA h s := m.up m.2.2.2.2.2.2.2.2.2.2 (Nat.le_refl _)
theorem s_Main_textWasRight {h : am_H} {s : St} {z : Nat} {e : Nat × Bool} {Q : Int32 → am_H → Prop} (m : mnB h s z) (t : tpA h 1 s.1 e) (k : ∀ h', fi h h' 0 2 → mnB h' (rdS s e) z → Q (bi (rdW s.1 e)) h') : am_Ei m_Main_textWasRight 0 0 [.ref 0] h Q := by
  have p0 := m.1.2.1
  have fin : ∀ v : Int, v = (if rdW s.1 e then -9999 else (e.1 : Int)) → am_Ew m_Tape_keepFirst 0 0 [.ref 1, .int (ji 0)] (am_si (am_si h 0 16 (ji v)) 0 17 (ji 0)) (fun h18 => (am_b01 (bi (rdW s.1 e)) ∧ Q (bi (rdW s.1 e)) h18)) := by
    intro v hv
    have m1 := (m.plc v).flt 0
    have f1 : fi h (am_si (am_si h 0 16 (ji v)) 0 17 (ji 0)) 0 2 := (fi.si (by omega) (by omega) : fi h (am_si h 0 16 (ji v)) 0 2).tr (fi.si (by omega) (by omega))
    refine s_Tape_keepFirst (n := 0) m1.2.2.1 (by omega) (fun h2 f2 t2 => ⟨bi_01 _, ?_⟩)
    rw [List.take_zero] at t2
    have m2 := m1.tape (f2.wd (by omega) (by omega)) t2
    refine k h2 (f1.tr (f2.wd (by omega) (by omega))) ?_
    unfold rdS
    rw [← hv]
    exact m2
  refine ev_Main_textWasRight 0 h Q ?_
  rw [jm9999, jk0]
  refine ⟨m.1.1, 1, p0, t.1.1, s_Tape_isReadWhole t ?_⟩
  rw [show (bi (rdW s.1 e) = ji 0) ↔ (rdW s.1 e = false) from bi_j _]
  refine ⟨fun c => ⟨m.1.1, 1, p0, t.1.1, s_Tape_readTo t ⟨m.1.1, 1, p0, t.1.1, fin _ (by rw [c]; rfl)⟩⟩, fun c => ⟨m.1.1, 1, p0, t.1.1, fin _ ?_⟩⟩
  rw [show rdW s.1 e = true by (cases e2 : rdW s.1 e; exact absurd e2 c; rfl)]
  rfl
theorem s_Main_judge {h : am_H} {s : St} {z : Nat} {f : Int} {room : Int32} {r : Bool} {Q : Int32 → am_H → Prop} (m : mnB h s z) (hf : 0 ≤ f ∧ f ≤ 1000) (hr : room = 0 ↔ r = false) (k : ∀ h', fi h h' 0 1 → mnB h' (stF s f) z → Q (ji (if f = 0 then (if r then 0 else 9) else 4)) h') : am_Ei m_Main_judge 0 0 [.ref 0, .int (ji f), .int room] h Q := by
  have K := k _ (fi.si (by omega) (by omega)) (m.flt f)
  refine ev_Main_judge 0 (ji f) room h Q ⟨m.1.1, fun c => ⟨fun c2 => ?_, fun c2 => ?_⟩, fun c => ?_⟩
  · rw [jk0, ji_eq] at c
    rw [if_pos c, hr.mp c2] at K
    exact K
  · rw [jk0, ji_eq] at c
    rw [if_pos c, show r = true by (cases e2 : r; exact absurd (hr.mpr e2) c2; rfl)] at K
    exact K
  · rw [jk0, ji_eq] at c
    rw [if_neg c] at K
    exact K
noncomputable def p_feed (s : St) (a b c d e : Int32) : Int × St := cif ((s.1.length : Int) + 20 ≤ 120) ((s.1.length : Int) + 20, stS (stT s (s.1 ++ b4 a ++ b4 b ++ b4 c ++ b4 d ++ b4 e)) 0) (rfs s 9)
theorem s_Main_feed {h : am_H} {s : St} {a b c d e : Int32} {Q : Int32 → am_H → Prop} (m : mnA h s) (k : ∀ h', fc h h' → mnA h' (p_feed s a b c d e).2 → Q (ji (p_feed s a b c d e).1) h') : am_Ei m_Main_feed 0 0 [.ref 0, .int a, .int b, .int c, .int d, .int e] h Q := by
  have mT := m.2.2.1
  have p0 := m.1.2.1
  have kf : ∀ {h' : am_H}, fi h h' 1 3 → am_tg h' 0 = (11, 18) ∧ am_P h' 0 0 = some 1 := fun f => ⟨by rw [f.2.1]; exact m.1.1, by rw [f.2.2.1]; exact p0⟩
  refine ev_Main_feed 0 a b c d e h Q ⟨m.1.1, 1, p0, mT.1, ?_⟩
  rw [jk20, jk9]
  refine s_Tape_hasRoomFor mT (by omega) ?_
  rw [bi_0]
  refine ⟨fun q => ?_, fun q => ⟨m.1.1, mn_rf (cif_neg (by simpa using q)) m fc.rf k⟩⟩
  have hl : (s.1.length : Int) + 20 ≤ 120 := by simpa using q
  refine ⟨m.1.1, 1, p0, mT.1, s_Tape_append mT (by omega) (fun h1 f1 t1 => ?_)⟩
  have F1 : fi h h1 1 3 := f1
  refine ⟨(kf F1).1, 1, (kf F1).2, t1.1, s_Tape_append t1 (by simp [b4]; omega) (fun h2 f2 t2 => ?_)⟩
  have F2 : fi h h2 1 3 := F1.tr f2
  refine ⟨(kf F2).1, 1, (kf F2).2, t2.1, s_Tape_append t2 (by simp [b4]; omega) (fun h3 f3 t3 => ?_)⟩
  have F3 : fi h h3 1 3 := F2.tr f3
  refine ⟨(kf F3).1, 1, (kf F3).2, t3.1, s_Tape_append t3 (by simp [b4]; omega) (fun h4 f4 t4 => ?_)⟩
  have F4 : fi h h4 1 3 := F3.tr f4
  refine ⟨(kf F4).1, 1, (kf F4).2, t4.1, s_Tape_append t4 (by simp [b4]; omega) (fun h5 f5 t5 => ?_)⟩
  have F5 : fi h h5 1 3 := F4.tr f5
  have m5 : mnA h5 _ := (m.tape F5 t5).A
  refine ⟨(kf F5).1, 1, (kf F5).2, t5.1, s_Tape_size t5 ⟨(kf F5).1, ?_⟩⟩
  have el : ((s.1 ++ b4 a ++ b4 b ++ b4 c ++ b4 d ++ b4 e).length : Int) = (s.1.length : Int) + 20 := by
    simp [b4]
  rw [el]
  have e : p_feed s a b c d e = ((s.1.length : Int) + 20, stS (stT s (s.1 ++ b4 a ++ b4 b ++ b4 c ++ b4 d ++ b4 e)) 0) := cif_pos hl
  rw [e] at k
  exact mn_ans m5 (fc.of F5 (by omega)) k
noncomputable def p_end (s : St) (n : Int) : Int × St := cif (0 ≤ n ∧ n ≤ s.1.length) (n, stS (stT s (s.1.take n.toNat)) 0) (rfs s 3)
theorem s_Main_end {h : am_H} {s : St} {n : Int} {Q : Int32 → am_H → Prop} (m : mnA h s) (hn : -2147483648 ≤ n ∧ n < 2147483648) (k : ∀ h', fc h h' → mnA h' (p_end s n).2 → Q (ji (p_end s n).1) h') : am_Ei m_Main_end 0 0 [.ref 0, .int (ji n)] h Q := by
  have mT := m.2.2.1
  have tl := mT.2.2.2.2.1
  have p0 := m.1.2.1
  refine ev_Main_end 0 (ji n) h Q ?_
  rw [jk0, jk3, ji_lt]
  refine ⟨fun c => ⟨m.1.1, mn_rf (cif_neg (by omega)) m fc.rf k⟩, fun c => ⟨m.1.1, 1, p0, mT.1, s_Tape_size mT ?_⟩⟩
  rw [ji_le]
  refine ⟨fun c2 => ⟨m.1.1, 1, p0, mT.1, ?_⟩, fun c2 => ⟨m.1.1, mn_rf (cif_neg (by omega)) m fc.rf k⟩⟩
  obtain ⟨j, rfl⟩ := Int.eq_ofNat_of_zero_le (show 0 ≤ n by omega)
  refine s_Tape_keepFirst mT (by omega) (fun h1 f1 t1 => ?_)
  have F1 : fi h h1 1 3 := f1.wd (by omega) (by omega)
  have m1 : mnA h1 _ := (m.tape F1 t1).A
  have e : p_end s (j : Int) = ((j : Int), stS (stT s (s.1.take j)) 0) := cif_pos (by omega)
  rw [e] at k
  exact ⟨m1.1.1, mn_ans m1 (fc.of F1 (by omega)) k⟩
def unr (s : St) : Int × St := (-9999, stS (stT s []) 1)
theorem s_Main_refuseUnread {h : am_H} {s : St} {X : Int × St} {Q : Int32 → am_H → Prop} (e : X = unr s) (m : mnA h s) (k : ∀ h', fc h h' → mnA h' X.2 → Q (ji X.1) h') : am_Ei m_Main_refuseUnread 0 0 [.ref 0] h Q := by
  subst e
  have mT := m.2.2.1
  have p0 := m.1.2.1
  refine ev_Main_refuseUnread 0 h Q ⟨m.1.1, 1, p0, mT.1, ?_⟩
  rw [jk0, jk1]
  refine s_Tape_keepFirst (n := 0) mT (by omega) (fun h1 f1 t1 => ?_)
  rw [List.take_zero] at t1
  have F1 : fi h h1 1 3 := f1.wd (by omega) (by omega)
  have m1 : mnA h1 _ := (m.tape F1 t1).A
  exact ⟨m1.1.1, mn_ref m1 (fc.of F1 (by omega)) k⟩
