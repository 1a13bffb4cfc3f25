/-! heaps that have grown; new objects -/
def es (h h' : am_H) (lo hi : Nat) : Prop := ∀ b, lo ≤ b → b < hi → am_tg h' b = am_tg h b ∧ am_I h' b = am_I h b ∧ am_P h' b = am_P h b
theorem es.rf {h : am_H} {lo hi : Nat} : es h h lo hi := fun _ _ _ => ⟨rfl, rfl, rfl⟩
theorem es.tr {h h1 h2 : am_H} {lo hi : Nat} (a : es h h1 lo hi) (b : es h1 h2 lo hi) : es h h2 lo hi := fun c c1 c2 => by
  rw [(b c c1 c2).1, (b c c1 c2).2.1, (b c c1 c2).2.2]
  exact a c c1 c2
theorem es.sub {h h1 : am_H} {lo hi lo' hi' : Nat} (a : es h h1 lo hi) (p1 : lo ≤ lo') (p2 : hi' ≤ hi) : es h h1 lo' hi' := fun c c1 c2 => a c (by omega) (by omega)
theorem es.nw {h : am_H} {kd n lo hi : Nat} (hh : hi ≤ am_sz h) : es h (am_nw h kd n) lo hi := fun c c1 c2 => by
  rw [am_tg_nw, am_I_nw, am_P_nw, if_neg (by omega), if_neg (by omega), if_neg (by omega)]
  exact ⟨rfl, rfl, rfl⟩
theorem es.si {h : am_H} {a k lo hi : Nat} {v : Int32} (hh : a < lo ∨ hi ≤ a) : es h (am_si h a k v) lo hi := fun c c1 c2 => ⟨rfl, by rw [am_I_sin (by omega)], rfl⟩
theorem es.sp {h : am_H} {a k lo hi : Nat} {v : Option Nat} (hh : a < lo ∨ hi ≤ a) : es h (am_sp h a k v) lo hi := fun c c1 c2 => ⟨rfl, rfl, by rw [am_P_spn (by omega)]⟩
theorem fi.es {h h' : am_H} {lo hi lo' hi' : Nat} (f : fi h h' lo hi) (hh : hi' ≤ lo ∨ hi ≤ lo') : es h h' lo' hi' := fun c c1 c2 => ⟨by rw [f.2.1], f.2.2.2 c (by omega), by rw [f.2.2.1]⟩
theorem fr.es {h h' : am_H} {b lo hi lo' hi' : Nat} (f : fr h h' b lo hi) (hh : hi' ≤ lo ∨ hi ≤ lo') (hb : b < lo' ∨ hi' ≤ b) : es h h' lo' hi' := fun c c1 c2 => ⟨by rw [f.2.1], f.2.2.2 c (by omega) (by omega), by rw [f.2.2.1]⟩
theorem spA.es {h h' : am_H} {a r : Nat} {l : List (Int × Int)} (s : spA h a r l) (e : es h h' a (a + 3)) : spA h' a r l := by
  have e0 := e a (by omega) (by omega)
  have e1 := e (a + 1) (by omega) (by omega)
  have e2 := e (a + 2) (by omega) (by omega)
  unfold spA
  rw [e0.1, e1.1, e2.1, e0.2.1, e0.2.2, e1.2.1, e2.2.1]
  exact s
theorem spX.es {h h' : am_H} {a r : Nat} (s : spX h a r) (e : es h h' a (a + 3)) : spX h' a r := by
  obtain ⟨l, s⟩ := s
  exact ⟨l, s.es e⟩
theorem wnA.es {h h' : am_H} {a : Nat} (s : wnA h a) (e : es h h' a (a + 10)) : wnA h' a := by
  obtain ⟨s1, s2, s3, s4⟩ := s
  have e0 := e a (by omega) (by omega)
  refine ⟨?_, s2.es (e.sub (by omega) (by omega)), s3.es (e.sub (by omega) (by omega)), s4.es (e.sub (by omega) (by omega))⟩
  unfold wnF
  rw [e0.1, e0.2.2]
  exact s1
theorem plX.es {h h' : am_H} {a : Nat} (s : plX h a) (e : es h h' a (a + 49)) : plX h' a := by
  obtain ⟨s1, s2, s3, s4, s5, s6, s7⟩ := s
  have e0 := e a (by omega) (by omega)
  have e1 := e (a + 23) (by omega) (by omega)
  have e2 := e (a + 24) (by omega) (by omega)
  refine ⟨?_, s2.es (e.sub (by omega) (by omega)), s3.es (e.sub (by omega) (by omega)), s4.es (e.sub (by omega) (by omega)), s5.es (e.sub (by omega) (by omega)), s6.es (e.sub (by omega) (by omega)), fun i hi => (s7 i hi).es (e.sub (by omega) (by omega))⟩
  unfold plF
  rw [e0.1, e0.2.2, e1.1, e2.1, e1.2.2]
  exact s1
theorem ptA.es {h h' : am_H} {a r : Nat} {P : List Tn} (s : ptA h a r P) (e : es h h' a (a + 4)) : ptA h' a r P := by
  have e0 := e a (by omega) (by omega)
  have e1 := e (a + 1) (by omega) (by omega)
  have e2 := e (a + 2) (by omega) (by omega)
  have e3 := e (a + 3) (by omega) (by omega)
  unfold ptA
  rw [e0.1, e1.1, e2.1, e3.1, e0.2.1, e0.2.2, e1.2.1, e2.2.1, e3.2.1]
  exact s
theorem rtA.es {h h' : am_H} {a r : Nat} {R : List RtStop} (s : rtA h a r R) (e : es h h' a (a + 6)) : rtA h' a r R := by
  have e0 := e a (by omega) (by omega)
  have e1 := e (a + 1) (by omega) (by omega)
  have e2 := e (a + 2) (by omega) (by omega)
  have e3 := e (a + 3) (by omega) (by omega)
  have e4 := e (a + 4) (by omega) (by omega)
  have e5 := e (a + 5) (by omega) (by omega)
  unfold rtA
  rw [e0.1, e1.1, e2.1, e3.1, e4.1, e5.1, e0.2.1, e0.2.2, e5.2.1, e2.2.1, e3.2.1, e4.2.1]
  exact s
theorem pgA.es {h h' : am_H} {a : Nat} {l : List Int} (s : pgA h a l) (e : es h h' a (a + 2)) : pgA h' a l := by
  have e0 := e a (by omega) (by omega)
  have e1 := e (a + 1) (by omega) (by omega)
  unfold pgA
  rw [e0.1, e1.1, e0.2.1, e0.2.2, e1.2.1]
  exact s
theorem tpT.es {h h' : am_H} {a : Nat} {T : List Int} (s : tpT h a T) (e : es h h' a (a + 2)) : tpT h' a T := by
  have e0 := e a (by omega) (by omega)
  have e1 := e (a + 1) (by omega) (by omega)
  unfold tpT
  rw [e0.1, e1.1, e0.2.1, e0.2.2, e1.2.1]
  exact s
theorem slA.es {h h' : am_H} {a b : Nat} {L : Sl} (s : slA h a b L) (e : es h h' a (a + 1)) : slA h' a b L := by
  have e0 := e a (by omega) (by omega)
  unfold slA
  rw [e0.1, e0.2.1, e0.2.2]
  exact s
theorem hpA.es {h h' : am_H} {a : Nat} {S : Sp} (s : hpA h a S) (e : es h h' a (a + 1)) : hpA h' a S := by
  have e0 := e a (by omega) (by omega)
  unfold hpA
  rw [e0.1, e0.2.1]
  exact s
theorem dfA.es {h h' : am_H} {a : Nat} {D : List Tn} (s : dfA h a D) (e : es h h' a (a + 6)) : dfA h' a D := by
  have e0 := e a (by omega) (by omega)
  have e1 := e (a + 1) (by omega) (by omega)
  have e2 := e (a + 2) (by omega) (by omega)
  have e3 := e (a + 3) (by omega) (by omega)
  have e4 := e (a + 4) (by omega) (by omega)
  have e5 := e (a + 5) (by omega) (by omega)
  unfold dfA dfF
  rw [e0.1, e1.1, e2.1, e3.1, e4.1, e5.1, e0.2.1, e0.2.2, e1.2.1, e2.2.1, e3.2.1]
  exact s
theorem mnX.es {h h' : am_H} (x : mnX h) (e1 : es h h' 3 19) (e2 : es h h' 23 87) : mnX h' := by
  obtain ⟨⟨D, x1⟩, ⟨M, x2⟩, ⟨R, x3⟩, x4, x5, x6, ⟨l, x7⟩⟩ := x
  exact ⟨⟨D, x1.es (e1.sub (by omega) (by omega))⟩, ⟨M, x2.es (e1.sub (by omega) (by omega))⟩, ⟨R, x3.es (e1.sub (by omega) (by omega))⟩, x4.es (e2.sub (by omega) (by omega)), x5.es (e2.sub (by omega) (by omega)), x6.es (e2.sub (by omega) (by omega)), ⟨l, x7.es (e2.sub (by omega) (by omega))⟩⟩
theorem mnF.es {h h' : am_H} (m : mnF h) (e : es h h' 0 1) (e2 : es h h' 19 23) : mnF h' := by
  have e0 := e 0 (by omega) (by omega)
  have a := e2 19 (by omega) (by omega)
  have b := e2 20 (by omega) (by omega)
  have c := e2 21 (by omega) (by omega)
  have d := e2 22 (by omega) (by omega)
  unfold mnF
  rw [e0.1, e0.2.2, a.1, b.1, c.1, d.1]
  exact m
theorem mnB.grow {h h' : am_H} {s : St} {z : Nat} (m : mnB h s z) (e : es h h' 0 z) (hz : am_sz h ≤ am_sz h') : mnB h' s z := by
  obtain ⟨mF, mX, mT, mC, mP, mL, mH, mR, mS, mZ⟩ := m
  have e0 := e 0 (by omega) (by omega)
  have e19 := e 19 (by omega) (by omega)
  have e20 := e 20 (by omega) (by omega)
  have e21 := e 21 (by omega) (by omega)
  have e22 := e 22 (by omega) (by omega)
  refine ⟨mF.es (e.sub (by omega) (by omega)) (e.sub (by omega) (by omega)), mX.es (e.sub (by omega) (by omega)) (e.sub (by omega) (by omega)), mT.es (e.sub (by omega) (by omega)), ?_, ?_, ?_, ?_, ?_, ?_, by omega⟩
  · unfold mnC
    rw [e0.2.1]
    exact mC
  · intro i P hP
    obtain ⟨g, c, a1, a2, a3, a4⟩ := mP i P hP
    exact ⟨g, c, by rw [e19.2.2]; exact a1, a2.es (e.sub (by omega) (by omega)), a3, a4⟩
  · intro i L hL
    obtain ⟨g, g2, x, c, a1, a2, a3, a4, a5⟩ := mL i L hL
    exact ⟨g, g2, x, c, by rw [e20.2.2]; exact a1, by rw [e19.2.2]; exact a2, a3.es (e.sub (by omega) (by omega)), a4, a5⟩
  · intro i S hS
    obtain ⟨g, x, a1, a2, a3, a4⟩ := mH i S hS
    exact ⟨g, x, by rw [e21.2.2]; exact a1, a2.es (e.sub (by omega) (by omega)), a3, a4⟩
  · intro i R hR
    obtain ⟨g, b, a1, a2, a3, a4, a5⟩ := mR i R hR
    refine ⟨g, b, by rw [e22.2.2]; exact a1, a2.es (e.sub (by omega) (by omega)), a3, a4, ?_⟩
    rw [(e (b + 1) (by omega) (by omega)).2.2, e20.2.2]
    exact a5
  · unfold mnS
    rw [e0.2.1]
    exact mS
theorem mnB.up {h : am_H} {s : St} {z z' : Nat} (m : mnB h s z) (h1 : z ≤ z') (h2 : z' ≤ am_sz h) : mnB h s z' := by
  obtain ⟨mF, mX, mT, mC, mP, mL, mH, mR, mS, mZ⟩ := m
  refine ⟨mF, mX, mT, mC, ?_, ?_, ?_, ?_, mS, by omega⟩
  · intro i P hP
    obtain ⟨g, c, a1, a2, a3, a4⟩ := mP i P hP
    exact ⟨g, c, a1, a2, a3, by omega⟩
  · intro i L hL
    obtain ⟨g, g2, x, c, a1, a2, a3, a4, a5⟩ := mL i L hL
    exact ⟨g, g2, x, c, a1, a2, a3, a4, by omega⟩
  · intro i S hS
    obtain ⟨g, x, a1, a2, a3, a4⟩ := mH i S hS
    exact ⟨g, x, a1, a2, a3, by omega⟩
  · intro i R hR
    obtain ⟨g, b, a1, a2, a3, a4, a5⟩ := mR i R hR
    exact ⟨g, b, a1, a2, a3, by omega, a5⟩
theorem mk_Sill {h : am_H} {c : Nat} {Q : am_H → Prop} (k : ∀ h', am_sz h' = am_sz h + 1 → es h h' 0 (am_sz h) → sl0 h' (am_sz h) c → Q h') : am_Ew m_Sill_init 0 0 [.ref (am_sz h), .ref c] (am_nw h 7 5) Q := by
  refine ev_Sill_init (am_sz h) c (am_nw h 7 5) Q ⟨by rw [am_tg_nw, if_pos rfl], k _ rfl ?_ ⟨by simp [am_tg_nw, am_tg_sp, am_tg_si], ?_, ?_, ?_⟩⟩
  · exact (((((es.nw (Nat.le_refl _)).tr (es.si (Or.inr (Nat.le_refl _)))).tr (es.si (Or.inr (Nat.le_refl _)))).tr (es.si (Or.inr (Nat.le_refl _)))).tr (es.si (Or.inr (Nat.le_refl _)))).tr (es.sp (Or.inr (Nat.le_refl _)))
  · rw [am_P_sps, va_up_at]
  · rw [am_I_sp, am_I_sis, va_up_no _ _ (by decide), am_I_sis, va_up_at]
  · rw [am_I_sp, am_I_sis, va_up_at]
theorem mk_Ship {h : am_H} {Q : am_H → Prop} (k : ∀ h', am_sz h' = am_sz h + 1 → es h h' 0 (am_sz h) → am_tg h' (am_sz h) = (6, 3) → Q h') : am_Ew m_Ship_init 0 0 [.ref (am_sz h)] (am_nw h 6 3) Q := by
  refine ev_Ship_init (am_sz h) (am_nw h 6 3) Q ⟨by rw [am_tg_nw, if_pos rfl], k _ rfl ?_ (by simp [am_tg_nw, am_tg_si])⟩
  exact (((es.nw (Nat.le_refl _)).tr (es.si (Or.inr (Nat.le_refl _)))).tr (es.si (Or.inr (Nat.le_refl _)))).tr (es.si (Or.inr (Nat.le_refl _)))
