/-! the reference: its cells -/
def rfRows : List (Nat × Nat × Nat × Nat) := [(0, 88, 20, 120), (6, 89, 20, 8), (7, 90, 20, 128), (8, 91, 20, 128), (9, 92, 21, 128), (11, 93, 20, 12), (12, 94, 20, 12), (13, 95, 20, 12), (14, 96, 20, 12), (15, 97, 20, 12), (17, 98, 20, 6), (18, 99, 20, 6), (19, 100, 20, 6), (21, 101, 20, 8), (22, 102, 20, 64), (23, 103, 20, 64), (24, 104, 20, 64), (25, 105, 20, 64), (28, 106, 21, 13500), (34, 107, 50, 8), (35, 116, 50, 8), (36, 125, 50, 8), (37, 134, 20, 8), (38, 135, 20, 4000), (40, 136, 20, 4000), (47, 137, 21, 130), (48, 138, 20, 130), (49, 139, 20, 130), (50, 140, 20, 130), (51, 141, 20, 10), (52, 142, 20, 130), (53, 143, 20, 130), (54, 144, 20, 130), (55, 145, 20, 130)]
def rfF (h : am_H) : Prop := am_tg h 87 = (12, 56) ∧ (∀ r ∈ rfRows, am_P h 87 r.1 = some r.2.1 ∧ am_tg h r.2.1 = (r.2.2.1, r.2.2.2)) ∧ ∀ i, i < 8 → (am_P h 107 i = some (108 + i) ∧ am_tg h (108 + i) = (21, 13500)) ∧ (am_P h 116 i = some (117 + i) ∧ am_tg h (117 + i) = (21, 13500)) ∧ (am_P h 125 i = some (126 + i) ∧ am_tg h (126 + i) = (21, 13500))
theorem rfF.p0 {h : am_H} (m : rfF h) : am_P h 87 0 = some 88 := (m.2.1 (0, 88, 20, 120) (by decide)).1
theorem rfF.t0 {h : am_H} (m : rfF h) : am_tg h 88 = (20, 120) := (m.2.1 (0, 88, 20, 120) (by decide)).2
theorem rfF.p6 {h : am_H} (m : rfF h) : am_P h 87 6 = some 89 := (m.2.1 (6, 89, 20, 8) (by decide)).1
theorem rfF.t6 {h : am_H} (m : rfF h) : am_tg h 89 = (20, 8) := (m.2.1 (6, 89, 20, 8) (by decide)).2
theorem rfF.p7 {h : am_H} (m : rfF h) : am_P h 87 7 = some 90 := (m.2.1 (7, 90, 20, 128) (by decide)).1
theorem rfF.t7 {h : am_H} (m : rfF h) : am_tg h 90 = (20, 128) := (m.2.1 (7, 90, 20, 128) (by decide)).2
theorem rfF.p8 {h : am_H} (m : rfF h) : am_P h 87 8 = some 91 := (m.2.1 (8, 91, 20, 128) (by decide)).1
theorem rfF.t8 {h : am_H} (m : rfF h) : am_tg h 91 = (20, 128) := (m.2.1 (8, 91, 20, 128) (by decide)).2
theorem rfF.p9 {h : am_H} (m : rfF h) : am_P h 87 9 = some 92 := (m.2.1 (9, 92, 21, 128) (by decide)).1
theorem rfF.t9 {h : am_H} (m : rfF h) : am_tg h 92 = (21, 128) := (m.2.1 (9, 92, 21, 128) (by decide)).2
theorem rfF.p11 {h : am_H} (m : rfF h) : am_P h 87 11 = some 93 := (m.2.1 (11, 93, 20, 12) (by decide)).1
theorem rfF.t11 {h : am_H} (m : rfF h) : am_tg h 93 = (20, 12) := (m.2.1 (11, 93, 20, 12) (by decide)).2
theorem rfF.p12 {h : am_H} (m : rfF h) : am_P h 87 12 = some 94 := (m.2.1 (12, 94, 20, 12) (by decide)).1
theorem rfF.t12 {h : am_H} (m : rfF h) : am_tg h 94 = (20, 12) := (m.2.1 (12, 94, 20, 12) (by decide)).2
theorem rfF.p13 {h : am_H} (m : rfF h) : am_P h 87 13 = some 95 := (m.2.1 (13, 95, 20, 12) (by decide)).1
theorem rfF.t13 {h : am_H} (m : rfF h) : am_tg h 95 = (20, 12) := (m.2.1 (13, 95, 20, 12) (by decide)).2
theorem rfF.p14 {h : am_H} (m : rfF h) : am_P h 87 14 = some 96 := (m.2.1 (14, 96, 20, 12) (by decide)).1
theorem rfF.t14 {h : am_H} (m : rfF h) : am_tg h 96 = (20, 12) := (m.2.1 (14, 96, 20, 12) (by decide)).2
theorem rfF.p15 {h : am_H} (m : rfF h) : am_P h 87 15 = some 97 := (m.2.1 (15, 97, 20, 12) (by decide)).1
theorem rfF.t15 {h : am_H} (m : rfF h) : am_tg h 97 = (20, 12) := (m.2.1 (15, 97, 20, 12) (by decide)).2
theorem rfF.p17 {h : am_H} (m : rfF h) : am_P h 87 17 = some 98 := (m.2.1 (17, 98, 20, 6) (by decide)).1
theorem rfF.t17 {h : am_H} (m : rfF h) : am_tg h 98 = (20, 6) := (m.2.1 (17, 98, 20, 6) (by decide)).2
theorem rfF.p18 {h : am_H} (m : rfF h) : am_P h 87 18 = some 99 := (m.2.1 (18, 99, 20, 6) (by decide)).1
theorem rfF.t18 {h : am_H} (m : rfF h) : am_tg h 99 = (20, 6) := (m.2.1 (18, 99, 20, 6) (by decide)).2
theorem rfF.p19 {h : am_H} (m : rfF h) : am_P h 87 19 = some 100 := (m.2.1 (19, 100, 20, 6) (by decide)).1
theorem rfF.t19 {h : am_H} (m : rfF h) : am_tg h 100 = (20, 6) := (m.2.1 (19, 100, 20, 6) (by decide)).2
theorem rfF.p21 {h : am_H} (m : rfF h) : am_P h 87 21 = some 101 := (m.2.1 (21, 101, 20, 8) (by decide)).1
theorem rfF.t21 {h : am_H} (m : rfF h) : am_tg h 101 = (20, 8) := (m.2.1 (21, 101, 20, 8) (by decide)).2
theorem rfF.p22 {h : am_H} (m : rfF h) : am_P h 87 22 = some 102 := (m.2.1 (22, 102, 20, 64) (by decide)).1
theorem rfF.t22 {h : am_H} (m : rfF h) : am_tg h 102 = (20, 64) := (m.2.1 (22, 102, 20, 64) (by decide)).2
theorem rfF.p23 {h : am_H} (m : rfF h) : am_P h 87 23 = some 103 := (m.2.1 (23, 103, 20, 64) (by decide)).1
theorem rfF.t23 {h : am_H} (m : rfF h) : am_tg h 103 = (20, 64) := (m.2.1 (23, 103, 20, 64) (by decide)).2
theorem rfF.p24 {h : am_H} (m : rfF h) : am_P h 87 24 = some 104 := (m.2.1 (24, 104, 20, 64) (by decide)).1
theorem rfF.t24 {h : am_H} (m : rfF h) : am_tg h 104 = (20, 64) := (m.2.1 (24, 104, 20, 64) (by decide)).2
theorem rfF.p25 {h : am_H} (m : rfF h) : am_P h 87 25 = some 105 := (m.2.1 (25, 105, 20, 64) (by decide)).1
theorem rfF.t25 {h : am_H} (m : rfF h) : am_tg h 105 = (20, 64) := (m.2.1 (25, 105, 20, 64) (by decide)).2
theorem rfF.p28 {h : am_H} (m : rfF h) : am_P h 87 28 = some 106 := (m.2.1 (28, 106, 21, 13500) (by decide)).1
theorem rfF.t28 {h : am_H} (m : rfF h) : am_tg h 106 = (21, 13500) := (m.2.1 (28, 106, 21, 13500) (by decide)).2
theorem rfF.p34 {h : am_H} (m : rfF h) : am_P h 87 34 = some 107 := (m.2.1 (34, 107, 50, 8) (by decide)).1
theorem rfF.t34 {h : am_H} (m : rfF h) : am_tg h 107 = (50, 8) := (m.2.1 (34, 107, 50, 8) (by decide)).2
theorem rfF.p35 {h : am_H} (m : rfF h) : am_P h 87 35 = some 116 := (m.2.1 (35, 116, 50, 8) (by decide)).1
theorem rfF.t35 {h : am_H} (m : rfF h) : am_tg h 116 = (50, 8) := (m.2.1 (35, 116, 50, 8) (by decide)).2
theorem rfF.p36 {h : am_H} (m : rfF h) : am_P h 87 36 = some 125 := (m.2.1 (36, 125, 50, 8) (by decide)).1
theorem rfF.t36 {h : am_H} (m : rfF h) : am_tg h 125 = (50, 8) := (m.2.1 (36, 125, 50, 8) (by decide)).2
theorem rfF.p37 {h : am_H} (m : rfF h) : am_P h 87 37 = some 134 := (m.2.1 (37, 134, 20, 8) (by decide)).1
theorem rfF.t37 {h : am_H} (m : rfF h) : am_tg h 134 = (20, 8) := (m.2.1 (37, 134, 20, 8) (by decide)).2
theorem rfF.p38 {h : am_H} (m : rfF h) : am_P h 87 38 = some 135 := (m.2.1 (38, 135, 20, 4000) (by decide)).1
theorem rfF.t38 {h : am_H} (m : rfF h) : am_tg h 135 = (20, 4000) := (m.2.1 (38, 135, 20, 4000) (by decide)).2
theorem rfF.p40 {h : am_H} (m : rfF h) : am_P h 87 40 = some 136 := (m.2.1 (40, 136, 20, 4000) (by decide)).1
theorem rfF.t40 {h : am_H} (m : rfF h) : am_tg h 136 = (20, 4000) := (m.2.1 (40, 136, 20, 4000) (by decide)).2
theorem rfF.p47 {h : am_H} (m : rfF h) : am_P h 87 47 = some 137 := (m.2.1 (47, 137, 21, 130) (by decide)).1
theorem rfF.t47 {h : am_H} (m : rfF h) : am_tg h 137 = (21, 130) := (m.2.1 (47, 137, 21, 130) (by decide)).2
theorem rfF.p48 {h : am_H} (m : rfF h) : am_P h 87 48 = some 138 := (m.2.1 (48, 138, 20, 130) (by decide)).1
theorem rfF.t48 {h : am_H} (m : rfF h) : am_tg h 138 = (20, 130) := (m.2.1 (48, 138, 20, 130) (by decide)).2
theorem rfF.p49 {h : am_H} (m : rfF h) : am_P h 87 49 = some 139 := (m.2.1 (49, 139, 20, 130) (by decide)).1
theorem rfF.t49 {h : am_H} (m : rfF h) : am_tg h 139 = (20, 130) := (m.2.1 (49, 139, 20, 130) (by decide)).2
theorem rfF.p50 {h : am_H} (m : rfF h) : am_P h 87 50 = some 140 := (m.2.1 (50, 140, 20, 130) (by decide)).1
theorem rfF.t50 {h : am_H} (m : rfF h) : am_tg h 140 = (20, 130) := (m.2.1 (50, 140, 20, 130) (by decide)).2
theorem rfF.p51 {h : am_H} (m : rfF h) : am_P h 87 51 = some 141 := (m.2.1 (51, 141, 20, 10) (by decide)).1
theorem rfF.t51 {h : am_H} (m : rfF h) : am_tg h 141 = (20, 10) := (m.2.1 (51, 141, 20, 10) (by decide)).2
theorem rfF.p52 {h : am_H} (m : rfF h) : am_P h 87 52 = some 142 := (m.2.1 (52, 142, 20, 130) (by decide)).1
theorem rfF.t52 {h : am_H} (m : rfF h) : am_tg h 142 = (20, 130) := (m.2.1 (52, 142, 20, 130) (by decide)).2
theorem rfF.p53 {h : am_H} (m : rfF h) : am_P h 87 53 = some 143 := (m.2.1 (53, 143, 20, 130) (by decide)).1
theorem rfF.t53 {h : am_H} (m : rfF h) : am_tg h 143 = (20, 130) := (m.2.1 (53, 143, 20, 130) (by decide)).2
theorem rfF.p54 {h : am_H} (m : rfF h) : am_P h 87 54 = some 144 := (m.2.1 (54, 144, 20, 130) (by decide)).1
theorem rfF.t54 {h : am_H} (m : rfF h) : am_tg h 144 = (20, 130) := (m.2.1 (54, 144, 20, 130) (by decide)).2
theorem rfF.p55 {h : am_H} (m : rfF h) : am_P h 87 55 = some 145 := (m.2.1 (55, 145, 20, 130) (by decide)).1
theorem rfF.t55 {h : am_H} (m : rfF h) : am_tg h 145 = (20, 130) := (m.2.1 (55, 145, 20, 130) (by decide)).2
/-- a port in the reference's rows -/
def rpA (h : am_H) (p : Nat) (P : List Tn) : Prop := am_I h 89 p = ji P.length ∧ ∀ (i : Nat) (t : Tn), P[i]? = some t → am_I h 90 (p * 16 + i) = ji t.2.1 ∧ am_I h 91 (p * 16 + i) = ji t.2.2 ∧ am_I h 92 (p * 16 + i) = bi t.1
def rfT (h : am_H) (T : List Int) : Prop := am_I h 87 1 = ji T.length ∧ T.length ≤ 120 ∧ ∀ (i : Nat) (b : Int), T[i]? = some b → am_I h 88 i = ji b ∧ 0 ≤ b ∧ b < 256
def rfP (h : am_H) (PS : List (List Tn)) : Prop := am_I h 87 5 = ji PS.length ∧ PS.length ≤ 8 ∧ ∀ (p : Nat) (P : List Tn), PS[p]? = some P → gW P ∧ rpA h p P
def slB (L : Sl) : Prop := (0 ≤ L.1 ∧ L.1 ≤ 3) ∧ (-9999 ≤ L.2.1 ∧ L.2.1 ≤ 9999) ∧ (0 ≤ L.2.2.1 ∧ L.2.2.1 ≤ 9999) ∧ (0 ≤ L.2.2.2 ∧ L.2.2.2 ≤ 9999)
def rlA (h : am_H) (i : Nat) (L : Nat × Sl) : Prop := am_I h 93 i = ji L.1 ∧ am_I h 94 i = ji L.2.1 ∧ am_I h 95 i = ji L.2.2.1 ∧ am_I h 96 i = ji L.2.2.2.1 ∧ am_I h 97 i = ji L.2.2.2.2
def rfL (h : am_H) (n : Nat) (LS : List (Nat × Sl)) : Prop := am_I h 87 10 = ji LS.length ∧ LS.length ≤ 12 ∧ ∀ (i : Nat) (L : Nat × Sl), LS[i]? = some L → slO L.2 ∧ slB L.2 ∧ L.1 < n ∧ rlA h i L
def spB (S : Sp) : Prop := (0 ≤ S.1 ∧ S.1 ≤ 9999) ∧ (0 ≤ S.2.1 ∧ S.2.1 ≤ 9999) ∧ (0 ≤ S.2.2 ∧ S.2.2 ≤ 9999)
def rhA (h : am_H) (i : Nat) (S : Sp) : Prop := am_I h 98 i = ji S.1 ∧ am_I h 99 i = ji S.2.1 ∧ am_I h 100 i = ji S.2.2
def rfH (h : am_H) (SS : List Sp) : Prop := am_I h 87 16 = ji SS.length ∧ SS.length ≤ 6 ∧ ∀ (i : Nat) (S : Sp), SS[i]? = some S → spO S ∧ spB S ∧ rhA h i S
def rrA (h : am_H) (r : Nat) (R : List RtStop) : Prop := am_I h 101 r = ji R.length ∧ ∀ (j : Nat) (q : RtStop), R[j]? = some q → am_I h 102 (r * 8 + j) = ji q.2.1 ∧ am_I h 103 (r * 8 + j) = ji q.2.2.1 ∧ am_I h 104 (r * 8 + j) = ji q.2.2.2 ∧ am_I h 105 (r * 8 + j) = ji q.1
def rfR (h : am_H) (n : Nat) (RS : List (List RtStop)) : Prop := am_I h 87 20 = ji RS.length ∧ RS.length ≤ 8 ∧ ∀ (r : Nat) (R : List RtStop), RS[r]? = some R → (0 < R.length ∧ R.length ≤ 8 ∧ ∀ q, R[0]? = some q → q.1 = 0) ∧ (∀ q ∈ R, stB q ∧ q.2.1 < n ∧ (-500 ≤ q.2.2.2 ∧ q.2.2.2 ≤ 1500)) ∧ rrA h r R
def rfS (h : am_H) (s : St) : Prop := am_I h 87 2 = ji s.2.2.2.2.2.1 ∧ am_I h 87 3 = ji s.2.2.2.2.2.2.1 ∧ am_I h 87 4 = ji s.2.2.2.2.2.2.2
def rfA (h : am_H) (s : St) : Prop := rfF h ∧ rfT h s.1 ∧ rfP h s.2.1 ∧ rfL h s.2.1.length s.2.2.1 ∧ rfH h s.2.2.2.1 ∧ rfR h s.2.2.1.length s.2.2.2.2.1 ∧ rfS h s
/-- only what is of the moment has changed -/
def rk (h h' : am_H) : Prop := am_sz h' = am_sz h ∧ am_tg h' = am_tg h ∧ am_P h' = am_P h ∧ (∀ b, b < 87 ∨ (88 ≤ b ∧ b < 106) ∨ 146 ≤ b → am_I h' b = am_I h b) ∧ ∀ k, k < 26 → am_I h' 87 k = am_I h 87 k
theorem rk.rf {h : am_H} : rk h h := ⟨rfl, rfl, rfl, fun _ _ => rfl, fun _ _ => rfl⟩
theorem rk.tr {h h1 h2 : am_H} (a : rk h h1) (b : rk h1 h2) : rk h h2 := by
  obtain ⟨a1, a2, a3, a4, a5⟩ := a
  obtain ⟨b1, b2, b3, b4, b5⟩ := b
  exact ⟨b1.trans a1, b2.trans a2, b3.trans a3, fun b hb => (b4 b hb).trans (a4 b hb), fun k hk => (b5 k hk).trans (a5 k hk)⟩
theorem rk.fi {h h' : am_H} (a : rk h h') : fi h h' 87 146 := ⟨a.1, a.2.1, a.2.2.1, fun b hb => a.2.2.2.1 b (by omega)⟩
theorem rk.row {h : am_H} {b k : Nat} {v : Int32} (hb : 106 ≤ b ∧ b < 146) : rk h (am_si h b k v) := ⟨rfl, rfl, rfl, fun c hc => by rw [am_I_sin (by omega)], fun j _ => by rw [am_I_sin (by omega)]⟩
theorem rk.slot {h : am_H} {k : Nat} {v : Int32} (hk : 26 ≤ k) : rk h (am_si h 87 k v) := ⟨rfl, rfl, rfl, fun c hc => by rw [am_I_sin (by omega)], fun j hj => by rw [am_I_sis, va_up_no _ _ (by omega)]⟩
theorem rfF.rk {h h' : am_H} (m : rfF h) (f : rk h h') : rfF h' := by
  unfold rfF
  rw [f.2.1, f.2.2.1]
  exact m
theorem rfA.rk {h h' : am_H} {s : St} (m : rfA h s) (f : rk h h') : rfA h' s := by
  obtain ⟨m1, m2, m3, m4, m5, m6, m7⟩ := m
  have r := fun b hb => f.2.2.2.1 b (Or.inr (Or.inl hb))
  refine ⟨m1.rk f, ?_, ?_, ?_, ?_, ?_, ?_⟩
  · unfold rfT
    rw [f.2.2.2.2 1 (by omega), r 88 (by omega)]
    exact m2
  · unfold rfP rpA
    rw [f.2.2.2.2 5 (by omega), r 89 (by omega), r 90 (by omega), r 91 (by omega), r 92 (by omega)]
    exact m3
  · unfold rfL rlA
    rw [f.2.2.2.2 10 (by omega), r 93 (by omega), r 94 (by omega), r 95 (by omega), r 96 (by omega), r 97 (by omega)]
    exact m4
  · unfold rfH rhA
    rw [f.2.2.2.2 16 (by omega), r 98 (by omega), r 99 (by omega), r 100 (by omega)]
    exact m5
  · unfold rfR rrA
    rw [f.2.2.2.2 20 (by omega), r 101 (by omega), r 102 (by omega), r 103 (by omega), r 104 (by omega), r 105 (by omega)]
    exact m6
  · unfold rfS
    rw [f.2.2.2.2 2 (by omega), f.2.2.2.2 3 (by omega), f.2.2.2.2 4 (by omega)]
    exact m7
/-- the class's calls leave the reference -/
theorem rfA.fc {h h' : am_H} {s : St} (m : rfA h s) (f : fc h h') (hz : 146 ≤ am_sz h) : rfA h' s := by
  have t : ∀ b, b < 146 → am_tg h' b = am_tg h b := fun b hb => f.2.1 b (by omega)
  have i : ∀ b, 87 ≤ b → b < 146 → am_I h' b = am_I h b := fun b h1 h2 => (f.2.2 b h1 (by omega)).1
  have p : ∀ b, 87 ≤ b → b < 146 → am_P h' b = am_P h b := fun b h1 h2 => (f.2.2 b h1 (by omega)).2
  obtain ⟨m1, m2, m3, m4, m5, m6, m7⟩ := m
  refine ⟨⟨by rw [t 87 (by omega)]; exact m1.1, fun r hr => ?_, fun j hj => ?_⟩, ?_, ?_, ?_, ?_, ?_, ?_⟩
  · have b : ∀ r ∈ rfRows, r.2.1 < 146 := by decide
    rw [t r.2.1 (b r hr), p 87 (by omega) (by omega)]
    exact m1.2.1 r hr
  · rw [p 107 (by omega) (by omega), p 116 (by omega) (by omega), p 125 (by omega) (by omega), t (108 + j) (by omega), t (117 + j) (by omega), t (126 + j) (by omega)]
    exact m1.2.2 j hj
  · unfold rfT
    rw [i 87 (by omega) (by omega), i 88 (by omega) (by omega)]
    exact m2
  · unfold rfP rpA
    rw [i 87 (by omega) (by omega), i 89 (by omega) (by omega), i 90 (by omega) (by omega), i 91 (by omega) (by omega), i 92 (by omega) (by omega)]
    exact m3
  · unfold rfL rlA
    rw [i 87 (by omega) (by omega), i 93 (by omega) (by omega), i 94 (by omega) (by omega), i 95 (by omega) (by omega), i 96 (by omega) (by omega), i 97 (by omega) (by omega)]
    exact m4
  · unfold rfH rhA
    rw [i 87 (by omega) (by omega), i 98 (by omega) (by omega), i 99 (by omega) (by omega), i 100 (by omega) (by omega)]
    exact m5
  · unfold rfR rrA
    rw [i 87 (by omega) (by omega), i 101 (by omega) (by omega), i 102 (by omega) (by omega), i 103 (by omega) (by omega), i 104 (by omega) (by omega), i 105 (by omega) (by omega)]
    exact m6
  · unfold rfS
    rw [i 87 (by omega) (by omega)]
    exact m7
theorem rfA.stat {h : am_H} {s : St} (m : rfA h s) (v : Int) : rfA (am_si h 87 2 (ji v)) (stS s v) := by
  obtain ⟨m1, m2, m3, m4, m5, m6, m7⟩ := m
  have n : ∀ k, k ≠ 2 → am_I (am_si h 87 2 (ji v)) 87 k = am_I h 87 k := fun k hk => by rw [am_I_sis, va_up_no _ _ hk]
  have r : ∀ b, b ≠ 87 → am_I (am_si h 87 2 (ji v)) b = am_I h b := fun b hb => by rw [am_I_sin hb]
  refine ⟨m1, ?_, ?_, ?_, ?_, ?_, ?_⟩
  · unfold rfT
    rw [n 1 (by omega), r 88 (by omega)]
    exact m2
  · unfold rfP rpA
    rw [n 5 (by omega), r 89 (by omega), r 90 (by omega), r 91 (by omega), r 92 (by omega)]
    exact m3
  · unfold rfL rlA
    rw [n 10 (by omega), r 93 (by omega), r 94 (by omega), r 95 (by omega), r 96 (by omega), r 97 (by omega)]
    exact m4
  · unfold rfH rhA
    rw [n 16 (by omega), r 98 (by omega), r 99 (by omega), r 100 (by omega)]
    exact m5
  · unfold rfR rrA
    rw [n 20 (by omega), r 101 (by omega), r 102 (by omega), r 103 (by omega), r 104 (by omega), r 105 (by omega)]
    exact m6
  · unfold rfS
    rw [n 3 (by omega), n 4 (by omega), am_I_sis, va_up_at]
    exact ⟨rfl, m7.2.1, m7.2.2⟩
theorem rf_an {h h0 : am_H} {s : St} {v : Int} {X : Int × St} {Q : Int32 → am_H → Prop} (e : X = ans s v) (m : rfA h s) (f0 : fi h0 h 87 146) (k : ∀ h', fi h0 h' 87 146 → rfA h' X.2 → Q (ji X.1) h') : am_Ei m_Ref_fine 0 0 [.ref 87, .int (ji v)] h Q := by
  subst e
  exact ev_Ref_fine 87 (ji v) h Q ⟨m.1.1, k _ (f0.tr (fi.si (by omega) (by omega))) (m.stat 0)⟩
theorem rf_no {h h0 : am_H} {s : St} {w : Int} {X : Int × St} {Q : Int32 → am_H → Prop} (e : X = rfs s w) (m : rfA h s) (f0 : fi h0 h 87 146) (k : ∀ h', fi h0 h' 87 146 → rfA h' X.2 → Q (ji X.1) h') : am_Ei m_Ref_no 0 0 [.ref 87, .int (ji w)] h Q := by
  subst e
  exact ev_Ref_no 87 (ji w) h Q ⟨m.1.1, k _ (f0.tr (fi.si (by omega) (by omega))) (m.stat w)⟩
theorem s_Ref_isIn {x a b : Int} {h : am_H} {Q : Int32 → am_H → Prop} (hx : -2147483648 ≤ x ∧ x < 2147483648) (ha : -2147483648 ≤ a ∧ a < 2147483648) (hb : -2147483648 ≤ b ∧ b < 2147483648) (k1 : a ≤ x ∧ x ≤ b → Q 1 h) (k0 : ¬ (a ≤ x ∧ x ≤ b) → Q 0 h) : am_Ei m_Ref_isIn 0 0 [.int (ji x), .int (ji a), .int (ji b)] h Q := by
  refine ev_Ref_isIn (ji x) (ji a) (ji b) h Q ?_
  rw [ji_lt, ji_lt]
  exact ⟨fun c => k0 (by omega), fun c => ⟨fun c2 => k0 (by omega), fun c2 => k1 (by omega)⟩⟩
theorem b01_1 : am_b01 1 := bi_01 true
theorem b01_0 : am_b01 0 := bi_01 false
theorem gt_ex {α : Type} {l : List α} {n : Int} (h : 0 ≤ n ∧ n ≤ (l.length : Int) - 1) : ∃ a, gt l n = some a := by
  unfold gt
  rw [if_pos h.1]
  exact ⟨_, List.getElem?_eq_getElem (by omega)⟩
theorem gt_no {α : Type} {l : List α} {n : Int} (h : ¬ (0 ≤ n ∧ n ≤ (l.length : Int) - 1)) : gt l n = none := by
  unfold gt
  by_cases c : 0 ≤ n
  · rw [if_pos c]
    exact List.getElem?_eq_none (by omega)
  · rw [if_neg c]
theorem s_Ref_isPort {h : am_H} {s : St} {n : Int} {Q : Int32 → am_H → Prop} (m : rfA h s) (hn : -2147483648 ≤ n ∧ n < 2147483648) (k1 : ∀ P, gt s.2.1 n = some P → gW P → rpA h n.toNat P → 0 ≤ n → n < 8 → Q 1 h) (k0 : gt s.2.1 n = none → Q 0 h) : am_Ei m_Ref_isPort 0 0 [.ref 87, .int (ji n)] h Q := by
  obtain ⟨c1, c2, c3⟩ := m.2.2.1
  refine ev_Ref_isPort 87 (ji n) h Q ⟨m.1.1, ?_⟩
  rw [c1, jk0, jk1, ji_sub]
  refine s_Ref_isIn hn (by omega) (by omega) (fun c => ⟨b01_1, ?_⟩) (fun c => ⟨b01_0, k0 (gt_no c)⟩)
  obtain ⟨P, hP⟩ := gt_ex c
  obtain ⟨a1, a2, a3⟩ := gt_some hP
  obtain ⟨g, r⟩ := c3 _ P a3
  exact k1 P hP g r a1 (by omega)
theorem s_Ref_isSill {h : am_H} {s : St} {n : Int} {Q : Int32 → am_H → Prop} (m : rfA h s) (hn : -2147483648 ≤ n ∧ n < 2147483648) (k1 : ∀ L, gt s.2.2.1 n = some L → slO L.2 → slB L.2 → rlA h n.toNat L → L.1 < s.2.1.length → 0 ≤ n → n < 12 → Q 1 h) (k0 : gt s.2.2.1 n = none → Q 0 h) : am_Ei m_Ref_isSill 0 0 [.ref 87, .int (ji n)] h Q := by
  obtain ⟨c1, c2, c3⟩ := m.2.2.2.1
  refine ev_Ref_isSill 87 (ji n) h Q ⟨m.1.1, ?_⟩
  rw [c1, jk0, jk1, ji_sub]
  refine s_Ref_isIn hn (by omega) (by omega) (fun c => ⟨b01_1, ?_⟩) (fun c => ⟨b01_0, k0 (gt_no c)⟩)
  obtain ⟨P, hP⟩ := gt_ex c
  obtain ⟨a1, a2, a3⟩ := gt_some hP
  obtain ⟨g, g2, g3, r⟩ := c3 _ P a3
  exact k1 P hP g g2 r g3 a1 (by omega)
theorem s_Ref_isShip {h : am_H} {s : St} {n : Int} {Q : Int32 → am_H → Prop} (m : rfA h s) (hn : -2147483648 ≤ n ∧ n < 2147483648) (k1 : ∀ S, gt s.2.2.2.1 n = some S → spO S → spB S → rhA h n.toNat S → 0 ≤ n → n < 6 → Q 1 h) (k0 : gt s.2.2.2.1 n = none → Q 0 h) : am_Ei m_Ref_isShip 0 0 [.ref 87, .int (ji n)] h Q := by
  obtain ⟨c1, c2, c3⟩ := m.2.2.2.2.1
  refine ev_Ref_isShip 87 (ji n) h Q ⟨m.1.1, ?_⟩
  rw [c1, jk0, jk1, ji_sub]
  refine s_Ref_isIn hn (by omega) (by omega) (fun c => ⟨b01_1, ?_⟩) (fun c => ⟨b01_0, k0 (gt_no c)⟩)
  obtain ⟨P, hP⟩ := gt_ex c
  obtain ⟨a1, a2, a3⟩ := gt_some hP
  obtain ⟨g, g2, r⟩ := c3 _ P a3
  exact k1 P hP g g2 r a1 (by omega)
theorem s_Ref_isRoute {h : am_H} {s : St} {n : Int} {Q : Int32 → am_H → Prop} (m : rfA h s) (hn : -2147483648 ≤ n ∧ n < 2147483648) (k1 : ∀ R, gt s.2.2.2.2.1 n = some R → (0 < R.length ∧ R.length ≤ 8 ∧ ∀ q, R[0]? = some q → q.1 = 0) → (∀ q ∈ R, stB q ∧ q.2.1 < s.2.2.1.length ∧ (-500 ≤ q.2.2.2 ∧ q.2.2.2 ≤ 1500)) → rrA h n.toNat R → 0 ≤ n → n < 8 → Q 1 h) (k0 : gt s.2.2.2.2.1 n = none → Q 0 h) : am_Ei m_Ref_isRoute 0 0 [.ref 87, .int (ji n)] h Q := by
  obtain ⟨c1, c2, c3⟩ := m.2.2.2.2.2.1
  refine ev_Ref_isRoute 87 (ji n) h Q ⟨m.1.1, ?_⟩
  rw [c1, jk0, jk1, ji_sub]
  refine s_Ref_isIn hn (by omega) (by omega) (fun c => ⟨b01_1, ?_⟩) (fun c => ⟨b01_0, k0 (gt_no c)⟩)
  obtain ⟨P, hP⟩ := gt_ex c
  obtain ⟨a1, a2, a3⟩ := gt_some hP
  obtain ⟨g, g2, r⟩ := c3 _ P a3
  exact k1 P hP g g2 r a1 (by omega)
theorem s_Ref_firstOf {h : am_H} {p : Nat} {P : List Tn} {Q : Int32 → am_H → Prop} (m : rfF h) (r : rpA h p P) (g : gW P) (hp : p < 8) (k : Q (ji (ptM P 0)) h) : am_Ei m_Ref_firstOf 0 0 [.ref 87, .int (ji p)] h Q := by
  obtain ⟨t, ht⟩ : ∃ t, P[0]? = some t := ⟨_, List.getElem?_eq_getElem g.1.1⟩
  have e : ptM P 0 = t.2.1 := ptM_at (i := 0) ht
  refine ev_Ref_firstOf 87 (ji p) h Q ?_
  rw [jk16, ji_mul, ji_tn, show ((p : Int) * 16).toNat = p * 16 + 0 by omega]
  refine ⟨m.1, 90, m.p7, by rw [m.t7], by rw [m.t7, ji_in]; omega, ?_⟩
  rw [(r.2 0 t ht).1, ← e]
  exact k
theorem s_Ref_lastOf {h : am_H} {p : Nat} {P : List Tn} {Q : Int32 → am_H → Prop} (m : rfF h) (r : rpA h p P) (g : gW P) (hp : p < 8) (k : Q (ji (ptM P ((P.length : Int) - 1))) h) : am_Ei m_Ref_lastOf 0 0 [.ref 87, .int (ji p)] h Q := by
  have h0 := g.1.1
  have h16 := g.2.1
  obtain ⟨t, ht⟩ : ∃ t, P[P.length - 1]? = some t := ⟨_, List.getElem?_eq_getElem (by omega)⟩
  have e : ptM P ((P.length : Int) - 1) = t.2.1 := by
    rw [show (P.length : Int) - 1 = ((P.length - 1 : Nat) : Int) by omega]
    exact ptM_at ht
  refine ev_Ref_lastOf 87 (ji p) h Q ?_
  refine ⟨m.1, 90, m.p7, 89, m.p6, by rw [m.t6], by rw [m.t6, ji_in]; omega, by rw [m.t7], ?_⟩
  rw [ji_tn, Int.toNat_natCast, r.1, jk16, jk1, ji_mul, ji_add, ji_sub]
  refine ⟨by rw [m.t7, ji_in]; omega, ?_⟩
  rw [ji_tn, show ((p : Int) * 16 + (P.length : Int) - 1).toNat = p * 16 + (P.length - 1) by omega, (r.2 _ t ht).1, ← e]
  exact k
theorem gW.first {P : List Tn} (g : gW P) : 0 ≤ ptM P 0 ∧ ptM P 0 ≤ 13439 := by
  obtain ⟨t, ht⟩ : ∃ t, P[0]? = some t := ⟨_, List.getElem?_eq_getElem g.1.1⟩
  have e : ptM P 0 = t.2.1 := ptM_at (i := 0) ht
  rw [e]
  exact g.mem (List.mem_of_getElem? ht)
theorem gW.last {P : List Tn} (g : gW P) : 0 ≤ ptM P ((P.length : Int) - 1) ∧ ptM P ((P.length : Int) - 1) ≤ 13439 := by
  have h0 := g.1.1
  obtain ⟨t, ht⟩ : ∃ t, P[P.length - 1]? = some t := ⟨_, List.getElem?_eq_getElem (by omega)⟩
  have e : ptM P ((P.length : Int) - 1) = t.2.1 := by
    rw [show (P.length : Int) - 1 = ((P.length - 1 : Nat) : Int) by omega]
    exact ptM_at ht
  rw [e]
  exact g.mem (List.mem_of_getElem? ht)
theorem s_Ref_isMinute {h : am_H} {p : Nat} {P : List Tn} {t : Int} {Q : Int32 → am_H → Prop} (m : rfF h) (r : rpA h p P) (g : gW P) (hp : p < 8) (ht : -2147483648 ≤ t ∧ t < 2147483648) (k1 : ptIn P t → Q 1 h) (k0 : ¬ ptIn P t → Q 0 h) : am_Ei m_Ref_isMinute 0 0 [.ref 87, .int (ji p), .int (ji t)] h Q := by
  have a := g.first
  have b := g.last
  exact ev_Ref_isMinute 87 (ji p) (ji t) h Q ⟨m.1, s_Ref_firstOf m r g hp ⟨m.1, s_Ref_lastOf m r g hp (s_Ref_isIn ht (by omega) (by omega) (fun c => ⟨b01_1, k1 ⟨g.1.1, c⟩⟩) (fun c => ⟨b01_0, k0 (fun q => c q.2)⟩))⟩⟩
theorem s_Ref_turnAt {h : am_H} {p : Nat} {P : List Tn} {t : Int} {Q : Int32 → am_H → Prop} (m : rfF h) (r : rpA h p P) (g : gW P) (hp : p < 8) (ht : ptIn P t) (k : ∀ j q, at1 P t j q → Q (ji (p * 16 + j)) h) : am_Ei m_Ref_turnAt 0 0 [.ref 87, .int (ji p), .int (ji t)] h Q := by
  have h16 := g.2.1
  have fb := g.first
  have lb := g.last
  obtain ⟨i1, i2, i3⟩ := ht
  have loop : ∀ (n j : Nat) (q : Tn), j + n + 1 = P.length → P[j]? = some q → q.2.1 ≤ t → am_EI m_Ref_turnAt 0 0 2 [.ref 87, .int (ji p), .int (ji t), .int (ji j)] [] h (am_qi Q) := by
    intro n
    induction n with
    | zero =>
      intro j q hj hq hle
      refine sg_Ref_turnAt_2 87 (ji p) (ji t) (ji j) h _ ⟨m.1, 89, m.p6, by rw [m.t6], by rw [m.t6, ji_in]; omega, ?_⟩
      rw [ji_tn, Int.toNat_natCast, r.1, jk1, jk16, ji_mul, ji_add, ji_add, ji_le]
      refine ⟨fun _ => k j q ⟨hq, hle, fun q' hq' => ?_⟩, fun c => absurd (by omega) c⟩
      have := (List.getElem?_eq_some_iff.mp hq').1
      omega
    | succ n ih =>
      intro j q hj hq hle
      obtain ⟨q', hq'⟩ : ∃ q', P[j + 1]? = some q' := ⟨_, List.getElem?_eq_getElem (by omega)⟩
      have bq := g.mem (List.mem_of_getElem? hq')
      refine sg_Ref_turnAt_2 87 (ji p) (ji t) (ji j) h _ ⟨m.1, 89, m.p6, by rw [m.t6], by rw [m.t6, ji_in]; omega, ?_⟩
      rw [ji_tn, Int.toNat_natCast, r.1, jk1, jk16, ji_mul, ji_add, ji_add, ji_le, ji_add]
      refine ⟨fun c => absurd c (by omega), fun _ => ⟨90, m.p7, by rw [m.t7], by rw [m.t7, ji_in]; omega, ?_⟩⟩
      rw [ji_tn, show ((p : Int) * 16 + (j : Int) + 1).toNat = p * 16 + (j + 1) by omega, (r.2 _ q' hq').1, ji_lt]
      refine ⟨fun c => k j q ⟨hq, hle, fun q'' hq'' => ?_⟩, fun c => ih (j + 1) q' (by omega) hq' (by omega)⟩
      rw [hq'] at hq''
      cases hq''
      exact c
  obtain ⟨q, hq⟩ : ∃ q, P[0]? = some q := ⟨_, List.getElem?_eq_getElem i1⟩
  have e : ptM P 0 = q.2.1 := ptM_at (i := 0) hq
  refine ev_Ref_turnAt 87 (ji p) (ji t) h Q ?_
  rw [jk0]
  exact loop (P.length - 1) 0 q (by omega) hq (by omega)
