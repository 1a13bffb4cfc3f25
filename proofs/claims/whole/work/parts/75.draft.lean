/-! drafts of ports: reading -/
def dfF (h : am_H) (a : Nat) : Prop := am_tg h a = (3, 7) ∧ am_P h a 0 = some (a + 1) ∧ am_P h a 1 = some (a + 2) ∧ am_P h a 2 = some (a + 3) ∧ am_P h a 4 = some (a + 4) ∧ am_P h a 5 = some (a + 5) ∧ am_P h a 6 = some (a + 6) ∧ am_tg h (a + 1) = (21, 24) ∧ am_tg h (a + 2) = (20, 24) ∧ am_tg h (a + 3) = (20, 24) ∧ am_tg h (a + 4) = (5, 5) ∧ am_tg h (a + 5) = (5, 5)
theorem dfF.kept {h h' : am_H} {a : Nat} (s : dfF h a) (e1 : am_tg h' = am_tg h) (e2 : am_P h' = am_P h) : dfF h' a := by
  unfold dfF
  rw [e1, e2]
  exact s
def dfA (h : am_H) (a : Nat) (D : List Tn) : Prop := dfF h a ∧ am_I h a 3 = ji D.length ∧ D.length ≤ 24 ∧ ∀ (i : Nat) (q : Tn), D[i]? = some q → am_I h (a + 1) i = bi q.1 ∧ am_I h (a + 2) i = ji q.2.1 ∧ am_I h (a + 3) i = ji q.2.2 ∧ (0 ≤ q.2.1 ∧ q.2.1 ≤ 9999) ∧ (-9999 ≤ q.2.2 ∧ q.2.2 ≤ 9999)
theorem dfA.kept {h h' : am_H} {a lo hi : Nat} {D : List Tn} (s : dfA h a D) (f : fi h h' lo hi) (hd : a + 4 ≤ lo ∨ hi ≤ a) : dfA h' a D := by
  obtain ⟨f1, f2, f3, f4⟩ := f
  refine ⟨s.1.kept f2 f3, ?_⟩
  rw [f4 a (by omega), f4 (a + 1) (by omega), f4 (a + 2) (by omega), f4 (a + 3) (by omega)]
  exact s.2
theorem df_push {h : am_H} {a : Nat} {D : List Tn} {b : Bool} {m g : Int} {Q : am_H → Prop} (s : dfA h a D) (hn : D.length < 24) (hm : 0 ≤ m ∧ m ≤ 9999) (hg : -9999 ≤ g ∧ g ≤ 9999) (k : ∀ h', fi h h' a (a + 4) → dfA h' a (D ++ [(b, m, g)]) → Q h') : (am_tg h a = (3, 7) ∧ ((24 ≤ (am_I h a 3) → Q h) ∧ (¬ 24 ≤ (am_I h a 3) → (∃ b13, am_P h a 0 = some b13 ∧ ((am_tg h b13).1 = 21 ∧ (vp_in (am_I h a 3) (am_tg h b13).2 ∧ (am_b01 (bi b) ∧ (∃ b14, am_P h a 1 = some b14 ∧ ((am_tg h b14).1 = 20 ∧ (vp_in (am_I (am_si h b13 ((am_I h a 3).toNatClampNeg) (bi b)) a 3) (am_tg h b14).2 ∧ (∃ b15, am_P h a 2 = some b15 ∧ ((am_tg h b15).1 = 20 ∧ (vp_in (am_I (am_si (am_si h b13 ((am_I h a 3).toNatClampNeg) (bi b)) b14 ((am_I (am_si h b13 ((am_I h a 3).toNatClampNeg) (bi b)) a 3).toNatClampNeg) (ji m)) a 3) (am_tg h b15).2 ∧ Q (am_si (am_si (am_si (am_si h b13 ((am_I h a 3).toNatClampNeg) (bi b)) b14 ((am_I (am_si h b13 ((am_I h a 3).toNatClampNeg) (bi b)) a 3).toNatClampNeg) (ji m)) b15 ((am_I (am_si (am_si h b13 ((am_I h a 3).toNatClampNeg) (bi b)) b14 ((am_I (am_si h b13 ((am_I h a 3).toNatClampNeg) (bi b)) a 3).toNatClampNeg) (ji m)) a 3).toNatClampNeg) (ji g)) a 3 ((am_I (am_si (am_si (am_si h b13 ((am_I h a 3).toNatClampNeg) (bi b)) b14 ((am_I (am_si h b13 ((am_I h a 3).toNatClampNeg) (bi b)) a 3).toNatClampNeg) (ji m)) b15 ((am_I (am_si (am_si h b13 ((am_I h a 3).toNatClampNeg) (bi b)) b14 ((am_I (am_si h b13 ((am_I h a 3).toNatClampNeg) (bi b)) a 3).toNatClampNeg) (ji m)) a 3).toNatClampNeg) (ji g)) a 3) + 1))))))))))))))) := by
  obtain ⟨⟨s1, s2, s3, s4, s5, s6, s7, s8, s9, s10, s11, s12⟩, t1, t2, t3⟩ := id s
  have tn : (ji (D.length : Int)).toNatClampNeg = D.length := by rw [ji_tn]; omega
  have e1 : ∀ k v, am_I (am_si h (a + 1) k v) a = am_I h a := fun k v => am_I_sin (by omega)
  have e2 : ∀ k v k' v', am_I (am_si (am_si h (a + 1) k v) (a + 2) k' v') a = am_I h a := fun k v k' v' => by rw [am_I_sin (by omega), am_I_sin (by omega)]
  have e3 : ∀ k v k' v' k2 v2, am_I (am_si (am_si (am_si h (a + 1) k v) (a + 2) k' v') (a + 3) k2 v2) a = am_I h a := fun k v k' v' k2 v2 => by rw [am_I_sin (by omega), am_I_sin (by omega), am_I_sin (by omega)]
  refine ⟨s1, ?_⟩
  rw [t1, jk24, ji_le]
  refine ⟨fun c => absurd c (by omega), fun _ => ⟨a + 1, s2, by rw [s8], by rw [s8]; exact (ji_in).mpr (by omega), bi_01 b, a + 2, s3, by rw [s9], ?_, a + 3, s4, by rw [s10], ?_, ?_⟩⟩
  · rw [s9, e1, t1]
    exact (ji_in).mpr (by omega)
  · rw [s10, e2, t1]
    exact (ji_in).mpr (by omega)
  · rw [e1, t1, e2, t1, e3, t1, tn, jk1, ji_add]
    refine k _ ((((fi.si (by omega) (by omega)).tr (fi.si (by omega) (by omega))).tr (fi.si (by omega) (by omega))).tr (fi.si (by omega) (by omega))) ?_
    refine ⟨⟨s1, s2, s3, s4, s5, s6, s7, s8, s9, s10, s11, s12⟩, ?_, by simp; omega, fun i q hq => ?_⟩
    · rw [am_I_sis, va_up_at]
      simp
    · rw [am_I_sin (by omega), am_I_sin (by omega), am_I_sin (by omega), am_I_sis, am_I_sin (by omega), am_I_sin (by omega), am_I_sis, am_I_sin (by omega), am_I_sin (by omega), am_I_sis, am_I_sin (by omega), am_I_sin (by omega)]
      by_cases e : i = D.length
      · subst e
        rw [List.getElem?_append_right (by omega)] at hq
        simp at hq
        subst hq
        rw [va_up_at, va_up_at, va_up_at]
        exact ⟨rfl, rfl, rfl, hm, hg⟩
      · have hi : i < D.length := by
          have := (List.getElem?_eq_some_iff.mp hq).1
          simp at this
          omega
        rw [List.getElem?_append_left hi] at hq
        rw [va_up_no _ _ e, va_up_no _ _ e, va_up_no _ _ e]
        exact t3 i q hq
def uS (T : List Int) (s : Nat × Bool) : Nat × Bool := if dW T (wb 0) s then aW T (wb 0) s else wW T (wb 1) (aW T (wb 0) s)
def tnV (T : List Int) (s : Nat × Bool) : Tn := (dW T (wb 0) s, vN T (uS T s), vS T (aN T (uS T s)))
def tnA (T : List Int) (s : Nat × Bool) : Nat × Bool := aS T (aN T (uS T s))
/-- what a reading of the tape into a draft leaves -/
def fr (h h' : am_H) (b lo hi : Nat) : Prop := am_sz h' = am_sz h ∧ am_tg h' = am_tg h ∧ am_P h' = am_P h ∧ ∀ c, c ≠ b → (c < lo ∨ hi ≤ c) → am_I h' c = am_I h c
theorem fr.rf {h : am_H} {b lo hi : Nat} : fr h h b lo hi := ⟨rfl, rfl, rfl, fun _ _ _ => rfl⟩
theorem fr.tr {h h1 h2 : am_H} {b lo hi : Nat} (x : fr h h1 b lo hi) (y : fr h1 h2 b lo hi) : fr h h2 b lo hi := ⟨y.1.trans x.1, y.2.1.trans x.2.1, y.2.2.1.trans x.2.2.1, fun c h1 h2 => (y.2.2.2 c h1 h2).trans (x.2.2.2 c h1 h2)⟩
theorem fr.wd {h h1 : am_H} {b lo hi lo' hi' : Nat} (x : fr h h1 b lo hi) (p1 : lo' ≤ lo) (p2 : hi ≤ hi') : fr h h1 b lo' hi' := ⟨x.1, x.2.1, x.2.2.1, fun c h1 h2 => x.2.2.2 c h1 (by omega)⟩
theorem fr.of1 {h h1 : am_H} {b lo hi : Nat} (x : fi h h1 b (b + 1)) : fr h h1 b lo hi := ⟨x.1, x.2.1, x.2.2.1, fun c h1 _ => x.2.2.2 c (by omega)⟩
theorem fr.of2 {h h1 : am_H} {b lo hi : Nat} (x : fi h h1 lo hi) : fr h h1 b lo hi := ⟨x.1, x.2.1, x.2.2.1, fun c _ h2 => x.2.2.2 c h2⟩
theorem s_Draft_readTurn {h : am_H} {a b : Nat} {T : List Int} {s : Nat × Bool} {D : List Tn} {Q : am_H → Prop} (d : dfA h a D) (t : tpA h b T s) (hd : a + 4 ≤ b ∨ b + 2 ≤ a) (hn : D.length < 24) (k : ∀ h', fr h h' b a (a + 4) → dfA h' a (D ++ [tnV T s]) → tpA h' b T (tnA T s) → Q h') : am_Ew m_Draft_readTurn 0 0 [.ref a, .ref b] h Q := by
  refine ev_Draft_readTurn a b h Q ⟨t.1.1, s_Tape_takeWord (j := 0) t (by decide) (fun h1 f1 t1 => ?_)⟩
  rw [bi_0]
  have d1 := d.kept f1 (by omega)
  unfold tnV tnA uS at k
  refine ⟨fun c => ⟨t1.1.1, ?_⟩, fun c => ⟨t1.1.1, ?_⟩⟩
  · have e : dW T (wb 0) s = true := by cases e : dW T (wb 0) s; exact absurd e c; rfl
    rw [e] at k ⊢
    refine s_Tape_wantNumber t1 (fun h2 f2 t2 b2 => ⟨t2.1.1, s_Tape_wantSize t2 (fun h3 f3 t3 b3 => ?_)⟩)
    refine df_push (d1.kept (f2.tr f3) (by omega)) hn b2 b3 (fun h4 f4 d4 => k h4 (((fr.of1 f1).tr (fr.of1 (f2.tr f3))).tr (fr.of2 f4)) d4 (t3.kept f4 (by omega)))
  · rw [c] at k ⊢
    refine s_Tape_wantWord (j := 1) t1 (by decide) (fun h2 f2 t2 => ⟨t2.1.1, s_Tape_wantNumber t2 (fun h3 f3 t3 b3 => ⟨t3.1.1, s_Tape_wantSize t3 (fun h4 f4 t4 b4 => ?_)⟩)⟩)
    refine df_push (d1.kept ((f2.tr f3).tr f4) (by omega)) hn b3 b4 (fun h5 f5 d5 => k h5 (((fr.of1 f1).tr (fr.of1 ((f2.tr f3).tr f4))).tr (fr.of2 f5)) d5 (t4.kept f5 (by omega)))
/-- the turns of a table -/
def rdT (T : List Int) : Nat → Nat × Bool → List Tn × (Nat × Bool)
  | 0, s => ([], s)
  | n + 1, s => if n = 0 then ([tnV T s], tnA T s) else if dM T 44 (tnA T s) then (tnV T s :: (rdT T n (aM T 44 (tnA T s))).1, (rdT T n (aM T 44 (tnA T s))).2) else ([tnV T s], aM T 44 (tnA T s))
theorem rdT_len (T : List Int) : ∀ (n : Nat) (s : Nat × Bool), (rdT T n s).1.length ≤ n
  | 0, s => by simp [rdT]
  | n + 1, s => by
    unfold rdT
    have := rdT_len T n (aM T 44 (tnA T s))
    split
    · simp
    · split
      · simp
        exact this
      · simp
theorem s_Draft_readTable {h : am_H} {a b : Nat} {T : List Int} {s : Nat × Bool} {D : List Tn} {Q : am_H → Prop} (d : dfA h a D) (t : tpA h b T s) (hd : a + 4 ≤ b ∨ b + 2 ≤ a) (k : ∀ h', fr h h' b a (a + 4) → dfA h' a (rdT T 24 s).1 → tpA h' b T (rdT T 24 s).2 → Q h') : am_Ew m_Draft_readTable 0 0 [.ref a, .ref b] h Q := by
  have loop : ∀ (n : Nat) (h1 : am_H) (D1 : List Tn) (s1 : Nat × Bool), D1.length + n + 1 = 24 → fr h h1 b a (a + 4) → dfA h1 a (D1 ++ [tnV T s1]) → tpA h1 b T (tnA T s1) → D1 ++ (rdT T (n + 1) s1).1 = (rdT T 24 s).1 → (rdT T (n + 1) s1).2 = (rdT T 24 s).2 → am_EI m_Draft_readTable 0 0 12 [.ref a, .ref b, .int (ji ((D1.length + 1 : Nat) : Int))] [] h1 (am_qw Q) := by
    intro n
    induction n with
    | zero =>
      intro h1 D1 s1 hn f1 d1 t1 e1 e2
      refine sg_Draft_readTable_12 a b _ h1 _ ?_
      rw [jk24, ji_le]
      refine ⟨fun _ => ?_, fun c => absurd (by omega) c⟩
      rw [rdT, if_pos rfl] at e1 e2
      rw [← e1, ← e2] at k
      exact k h1 f1 d1 t1
    | succ n ih =>
      intro h1 D1 s1 hn f1 d1 t1 e1 e2
      have hl : (D1 ++ [tnV T s1]).length = D1.length + 1 := by simp
      rw [rdT, if_neg (by omega)] at e1 e2
      refine sg_Draft_readTable_12 a b _ h1 _ ?_
      rw [jk24, ji_le, jk44, jk1, ji_add]
      refine ⟨fun c => absurd c (by omega), fun _ => ⟨t1.1.1, s_Tape_takeMark t1 (by decide) (fun h2 f2 t2 => ?_)⟩⟩
      have d2 := d1.kept f2 (by omega)
      rw [bi_0]
      refine ⟨fun c => ?_, fun c => ⟨d2.1.1, ?_⟩⟩
      · rw [if_neg (by simp [c])] at e1 e2
        rw [← e1, ← e2] at k
        exact k h2 (f1.tr (fr.of1 f2)) d2 t2
      · have e : dM T 44 (tnA T s1) = true := by cases e : dM T 44 (tnA T s1); exact absurd e c; rfl
        rw [if_pos e] at e1 e2
        refine s_Draft_readTurn d2 t2 hd (by omega) (fun h3 f3 d3 t3 => ?_)
        have g := ih h3 (D1 ++ [tnV T s1]) (aM T 44 (tnA T s1)) (by omega) ((f1.tr (fr.of1 f2)).tr f3) d3 t3 (by rw [← e1]; simp) e2
        rw [hl, show ((D1.length + 1 + 1 : Nat) : Int) = ((D1.length + 1 : Nat) : Int) + 1 by omega] at g
        exact g
  refine ev_Draft_readTable a b h Q ⟨d.1.1, ?_⟩
  have d0 : dfA (am_si h a 3 0) a [] := by
    refine ⟨d.1, ?_, by simp, fun i q hq => by simp at hq⟩
    rw [am_I_sis, va_up_at]
    rfl
  have f0 : fr h (am_si h a 3 0) b a (a + 4) := fr.of2 (fi.si (by omega) (by omega))
  have t0 := t.kept (fi.si (h := h) (a := a) (k := 3) (v := 0) (lo := a) (hi := a + 1) (by omega) (by omega)) (by omega)
  refine s_Draft_readTurn d0 t0 hd (by simp) (fun h1 f1 d1 t1 => ?_)
  exact loop 23 h1 [] s rfl (f0.tr f1) d1 t1 rfl rfl
def dfS1 (T : List Int) (s : Nat × Bool) : Sh := vSh T (wW T (wb 0) s)
def dfB (T : List Int) (s : Nat × Bool) : Nat × Bool := wW T (wb 1) (wM T 44 (aSh T (wW T (wb 0) s)))
def dfS2 (T : List Int) (s : Nat × Bool) : Sh := vSh T (dfB T s)
def dfE (T : List Int) (s : Nat × Bool) : Nat × Bool := aSh T (dfB T s)
theorem s_Draft_readDifferences {h : am_H} {a b : Nat} {T : List Int} {s : Nat × Bool} {Q : am_H → Prop} (d : dfF h a) (t : tpA h b T s) (hd : a + 6 ≤ b ∨ b + 2 ≤ a) (k : ∀ h', fr h h' b (a + 4) (a + 6) → shA h' (a + 4) (dfS1 T s) → shA h' (a + 5) (dfS2 T s) → tpA h' b T (dfE T s) → Q h') : am_Ew m_Draft_readDifferences 0 0 [.ref a, .ref b] h Q := by
  refine ev_Draft_readDifferences a b h Q ⟨t.1.1, s_Tape_wantWord (j := 0) t (by decide) (fun h1 f1 t1 => ?_)⟩
  have d1 := d.kept f1.2.1 f1.2.2.1
  refine ⟨d1.1, a + 4, d1.2.2.2.2.1, d1.2.2.2.2.2.2.2.2.2.2.1, s_Shift_readFrom d1.2.2.2.2.2.2.2.2.2.2.1 t1 (by omega) (fun h2 z1 z2 z3 z4 s2 t2 => ⟨t2.1.1, ?_⟩)⟩
  rw [jk44]
  refine s_Tape_wantMark t2 (by decide) (fun h3 f3 t3 => ⟨t3.1.1, s_Tape_wantWord (j := 1) t3 (by decide) (fun h4 f4 t4 => ?_)⟩)
  have d4 := (d1.kept z2 z3).kept (f3.tr f4).2.1 (f3.tr f4).2.2.1
  refine ⟨d4.1, a + 5, d4.2.2.2.2.2.1, d4.2.2.2.2.2.2.2.2.2.2.2, s_Shift_readFrom d4.2.2.2.2.2.2.2.2.2.2.2 t4 (by omega) (fun h5 y1 y2 y3 y4 s5 t5 => ?_)⟩
  have g1 : fr h h1 b (a + 4) (a + 6) := fr.of1 f1
  have g2 : fr h1 h2 b (a + 4) (a + 6) := ⟨z1, z2, z3, fun c hc hc2 => z4 c (by omega) hc⟩
  have g3 : fr h2 h4 b (a + 4) (a + 6) := fr.of1 (f3.tr f4)
  have g4 : fr h4 h5 b (a + 4) (a + 6) := ⟨y1, y2, y3, fun c hc hc2 => y4 c (by omega) hc⟩
  refine k h5 (((g1.tr g2).tr g3).tr g4) ?_ s5 t5
  have s3 := s2.kept (f3.tr f4) (by omega)
  unfold shA
  rw [y2, y4 (a + 4) (by omega) (by omega)]
  exact s3
