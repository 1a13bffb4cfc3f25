/-! the reference: a second port -/
theorem wM_eq {T : List Int} {c : Int} {s : Nat × Bool} : ((aM T c s).1, (aM T c s).2 && dM T c s) = wM T c s := by
  unfold aM wM
  cases e : dM T c s
  · rw [if_neg (by decide), if_neg (by decide), Bool.and_false]
  · rw [if_pos rfl, if_pos rfl, Bool.and_true]
theorem sfA.of {h h' : am_H} {o : Nat} {S : Sh} (s : sfA h o S) (e : am_I h' 141 = am_I h 141) : sfA h' o S := by
  unfold sfA
  rw [e]
  exact s
theorem sfA.below {h h' : am_H} {S : Sh} (s : sfA h 0 S) (e : ∀ j, j < 5 → am_I h' 141 j = am_I h 141 j) : sfA h' 0 S := by
  unfold sfA
  rw [e 0 (by omega), e (0 + 1) (by omega), e (0 + 2) (by omega), e (0 + 3) (by omega), e (0 + 4) (by omega)]
  exact s
theorem rf_shifted {h0 h : am_H} {s : St} {P : List Tn} {n : Int} {S1 S2 : Sh} {X : Int × St} {Q : Int32 → am_H → Prop} (e : X = kpP s (cif (okT (P.map (shT S1 S2))) 0 7) (P.map (shT S1 S2))) (fs : stF s 0 = s) (m : rfA h s) (hn : 0 ≤ n) (hP : s.2.1[n.toNat]? = some P) (s1 : sfA h 0 S1) (s2 : sfA h 5 S2) (o1 : shO S1) (o2 : shO S2) (i46 : am_I h 87 46 = ji (P.length : Int)) (f0 : fi h0 h 87 146) (k : ∀ h', fi h0 h' 87 146 → rfA h' X.2 → Q (ji X.1) h') : am_EI m_Ref_second 0 0 146 [.ref 87, .int (ji n), .int 0, .float 0, .float 0] [] h (am_qi Q) := by
  obtain ⟨g, r⟩ := m.2.2.1.2.2 n.toNat P hP
  have pl := (List.getElem?_eq_some_iff.mp hP).1
  have l8 := m.2.2.1.2.1
  have p0 := g.1.1
  have p16 := g.2.1
  have nl : (P.map (shT S1 S2)).length = P.length := List.length_map ..
  have sh : ∀ (q : Tn) (S : Sh), q ∈ P → (if q.1 = true then S1 else S2) = S → shT S1 S2 q = (q.1, q.2.1 + S.1, shG S q.2.2) ∧ shO S ∧ (-500 ≤ q.2.2 ∧ q.2.2 ≤ 1500) ∧ (0 ≤ q.2.1 ∧ q.2.1 ≤ 13439) := by
    intro q S hq hS
    refine ⟨by unfold shT; rw [hS], ?_, g.1.2.2 q hq, g.mem hq⟩
    rw [← hS]
    split
    · exact o1
    · exact o2
  have nb : ∀ q ∈ P.map (shT S1 S2), (-1000000 ≤ q.2.1 ∧ q.2.1 ≤ 1000000) ∧ (-10000000 ≤ q.2.2 ∧ q.2.2 ≤ 10000000) := by
    intro q hq
    obtain ⟨p, hp, rfl⟩ := List.mem_map.mp hq
    obtain ⟨a1, a2, a3, a4⟩ := sh p _ hp rfl
    generalize (if p.1 = true then S1 else S2) = S at a1 a2
    have bb := shM_bd a2 a3
    have a2' := a2
    obtain ⟨c1, c2, c3, c4, c5, c6⟩ := a2'
    have fb := fdiv_bd (y := S.2.2.2.1 - S.2.1) bb (by omega) (by omega)
    rw [a1]
    refine ⟨by show -1000000 ≤ p.2.1 + S.1 ∧ p.2.1 + S.1 ≤ 1000000; omega, ?_⟩
    show -10000000 ≤ shG S p.2.2 ∧ shG S p.2.2 ≤ 10000000
    unfold shG
    omega
  have loop : ∀ (n' i : Nat) (h1 : am_H), i + n' = P.length → rk h h1 → am_I h1 141 = am_I h 141 → am_I h1 87 46 = ji (P.length : Int) → (∀ (j : Nat) (q : Tn), j < i → (P.map (shT S1 S2))[j]? = some q → am_I h1 140 j = ji q.2.1 ∧ am_I h1 139 j = ji q.2.2 ∧ am_I h1 137 j = bi q.1) → am_EI m_Ref_second 0 0 146 [.ref 87, .int (ji n), .int (ji (i : Int)), .float 0, .float 0] [] h1 (am_qi Q) := by
    intro n'
    induction n' with
    | zero =>
      intro i h1 hi f1 e141 j46 rows
      have m1 : rfA h1 s := m.rk f1
      have te : tmA h1 (P.map (shT S1 S2)) := ⟨by rw [nl]; exact j46, fun j q hq => rows j q (by have := (List.getElem?_eq_some_iff.mp hq).1; omega) hq⟩
      have F1 : fi h0 h1 87 146 := f0.tr f1.fi
      refine sg_Ref_second_146 87 _ _ h1 _ ⟨m1.1.1, ?_⟩
      rw [j46, ji_le]
      refine ⟨fun _ => s_Ref_areTurns m1.1 te (by omega) nb (fun ok => ⟨fun q => absurd q (by decide), fun _ => ⟨m1.1.1, ?_⟩⟩) (fun ok => ⟨fun _ => ⟨m1.1.1, ?_⟩, fun q => absurd rfl q⟩), fun c => absurd (by omega) c⟩
      · rw [jm1]
        refine s_Ref_made (B := []) (E := P.map (shT S1 S2)) (X := X) ?_ m1 te (by omega) (Or.inl ⟨rfl, rfl⟩) (fun _ => shT_gW g ok) F1 (fun h' f' r' => sg_Ref_second_317 87 _ _ _ h' _ (k h' f' r'))
        rw [e, cif_pos ok]
        unfold kpP
        rw [cif_pos rfl, fs]
        rfl
      · rw [jk7]
        refine s_Ref_faulty (X := X) ?_ m1 F1 (fun h' f' r' => sg_Ref_second_317 87 _ _ _ h' _ (k h' f' r'))
        rw [e, cif_neg ok]
        exact kpP_ne (by decide)
    | succ n' ih =>
      intro i h1 hi f1 e141 j46 rows
      have m1 : rfA h1 s := m.rk f1
      have mF := m1.1
      obtain ⟨q, hq⟩ : ∃ q, P[i]? = some q := ⟨_, List.getElem?_eq_getElem (by omega)⟩
      obtain ⟨v1, v2, v3⟩ := (r.rk f1).2 i q hq
      have x3 : ji n * 16 + ji (i : Int) = ji ((n.toNat * 16 + i : Nat) : Int) := by
        rw [jk16, ji_mul, ji_add]
        exact congrArg ji (by omega)
      have tx : (ji ((n.toNat * 16 + i : Nat) : Int)).toNatClampNeg = n.toNat * 16 + i := by rw [ji_tn, Int.toNat_natCast]
      have ti : (ji (i : Int)).toNatClampNeg = i := by rw [ji_tn, Int.toNat_natCast]
      have f175 : ∀ (o : Nat) (S : Sh), o ≤ 5 → sfA h1 o S → (if q.1 = true then S1 else S2) = S → am_EI m_Ref_second 0 0 175 [.ref 87, .int (ji n), .int (ji (i : Int)), .int (ji ((n.toNat * 16 + i : Nat) : Int)), .float 0] [.int (ji (o : Int))] h1 (am_qi Q) := by
        intro o S ho sf eS
        obtain ⟨a1, a2, a3, a4⟩ := sh q S (List.mem_of_getElem? hq) eS
        have bb := shM_bd a2 a3
        obtain ⟨c1, c2, c3, c4, c5, c6⟩ := a2
        obtain ⟨w0, w1, w2, w3, w4, -⟩ := sf
        have t0 : (ji (o : Int)).toNatClampNeg = o := by rw [ji_tn, Int.toNat_natCast]
        have tt : ∀ d : Nat, d ≤ 4 → (ji ((o : Int) + (d : Int))).toNatClampNeg = o + d := fun d hd => by rw [ji_tn]; omega
        have t1 : (ji (o : Int) + 1).toNatClampNeg = o + 1 := by rw [jk1, ji_add]; exact tt 1 (by omega)
        have t2 : (ji (o : Int) + 2).toNatClampNeg = o + 2 := by rw [jk2, ji_add]; exact tt 2 (by omega)
        have t3 : (ji (o : Int) + 3).toNatClampNeg = o + 3 := by rw [jk3, ji_add]; exact tt 3 (by omega)
        have t4 : (ji (o : Int) + 4).toNatClampNeg = o + 4 := by rw [jk4, ji_add]; exact tt 4 (by omega)
        have u1 : vp_in (ji (o : Int) + 1) 10 := by rw [jk1, ji_add, ji_in]; omega
        have u2 : vp_in (ji (o : Int) + 2) 10 := by rw [jk2, ji_add, ji_in]; omega
        have u3 : vp_in (ji (o : Int) + 3) 10 := by rw [jk3, ji_add, ji_in]; omega
        have u4 : vp_in (ji (o : Int) + 4) 10 := by rw [jk4, ji_add, ji_in]; omega
        refine sg_Ref_second_175 87 _ _ _ _ h1 _ ⟨mF.1, 137, mF.p47, 92, mF.p9, by rw [mF.t9], by rw [mF.t9, ji_in]; omega, by rw [mF.t47], by rw [mF.t47, ji_in]; omega, by rw [tx, v3]; exact bi_01 _, 140, mF.p50, 90, mF.p7, by rw [mF.t7], by rw [mF.t7, ji_in]; omega, 141, mF.p51, by rw [mF.t51], by rw [mF.t51, ji_in]; omega, by rw [mF.t50], by rw [mF.t50, ji_in]; omega, 139, mF.p49, 91, mF.p8, by rw [mF.t8], by rw [mF.t8, ji_in]; omega, by rw [mF.t51]; exact u2, by rw [mF.t51]; exact u4, by rw [mF.t51]; exact u1, by rw [mF.t51]; exact u3, ?_⟩
        rw [tx, ti, t0, t1, t2, t3, t4, v3]
        rw [am_I_sin (by omega : (90 : Nat) ≠ 137), v1, am_I_sin (by omega : (141 : Nat) ≠ 140), am_I_sin (by omega : (141 : Nat) ≠ 137), am_I_sin (by omega : (91 : Nat) ≠ 140), am_I_sin (by omega : (91 : Nat) ≠ 137), v2, w0, w1, w2, w3, w4]
        simp only [ji_sub, ji_mul, ji_add]
        refine s_Math_floorDiv (by omega) (by omega) ?_
        rw [ji_add, jk1, ji_add]
        refine ⟨by show (am_tg h1 139).1 = 20; rw [mF.t49], by show vp_in _ (am_tg h1 139).2; rw [mF.t49, ji_in]; omega, ?_⟩
        have eG : q.2.2 + S.2.2.1 + ((S.2.2.2.2 - S.2.2.1) * (q.2.2 - S.2.1)).fdiv (S.2.2.2.1 - S.2.1) = shG S q.2.2 := rfl
        rw [eG]
        refine ih (i + 1) _ (by omega) (((f1.tr (rk.row (by omega))).tr (rk.row (by omega))).tr (rk.row (by omega))) ?_ ?_ (fun j q' hj hq' => ?_)
        · rw [am_I_sin (by omega), am_I_sin (by omega), am_I_sin (by omega)]
          exact e141
        · rw [am_I_sin (by omega), am_I_sin (by omega), am_I_sin (by omega)]
          exact j46
        · rw [am_I_sin (by omega : (140 : Nat) ≠ 139), am_I_sis, am_I_sin (by omega : (140 : Nat) ≠ 137), am_I_sis, am_I_sin (by omega : (139 : Nat) ≠ 140), am_I_sin (by omega : (139 : Nat) ≠ 137), am_I_sin (by omega : (137 : Nat) ≠ 139), am_I_sin (by omega : (137 : Nat) ≠ 140), am_I_sis]
          by_cases c : j = i
          · rw [c, List.getElem?_map, hq] at hq'
            cases hq'
            rw [c, a1, va_up_at, va_up_at, va_up_at]
            exact ⟨rfl, rfl, rfl⟩
          · rw [va_up_no _ _ c, va_up_no _ _ c, va_up_no _ _ c]
            exact rows j q' (by omega) hq'
      refine sg_Ref_second_146 87 _ _ h1 _ ⟨mF.1, ?_⟩
      rw [j46, ji_le, x3, tx]
      refine ⟨fun c => absurd c (by omega), fun _ => ⟨92, mF.p9, by rw [mF.t9], by rw [mF.t9, ji_in]; omega, ?_⟩⟩
      rw [v3, bi_0]
      refine ⟨fun c => f175 5 S2 (by omega) (s2.of e141) (by rw [c]; rfl), fun c => f175 0 S1 (by omega) (s1.of e141) ?_⟩
      rw [show q.1 = true by (cases z : q.1; exact absurd z c; rfl)]
      rfl
  exact loop P.length 0 h (by omega) rk.rf rfl i46 (fun j q hj => absurd hj (by omega))
theorem rf_second {h : am_H} {s : St} {n : Int} {Q : Int32 → am_H → Prop} (m : rfA h s) (hn : -2147483648 ≤ n ∧ n < 2147483648) (k : ∀ h', fi h h' 87 146 → rfA h' (p_second s n).2 → Q (ji (p_second s n).1) h') : am_Ei m_Ref_second 0 0 [.ref 87, .int (ji n)] h Q := by
  refine ev_Ref_second 87 (ji n) h Q ⟨m.1.1, s_Ref_isPort m hn (fun P e g r n0 n8 => ⟨fun _ => ⟨m.1.1, s_Ref_begins m.1 m.2.1 (fun h1 f1 t1 => ⟨t1.1.1, ?_⟩)⟩, fun q => absurd q (by decide)⟩) (fun e => ⟨fun q => absurd rfl q, fun _ => ⟨m.1.1, s_Ref_refusedUnread (X := p_second s n) (by unfold p_second; rw [e]) m fi.rf k⟩⟩)⟩
  have hb : ∀ (i : Nat) (b : Int), s.1[i]? = some b → 0 ≤ b ∧ b < 256 := fun i b hi => (m.2.1.2.2 i b hi).2
  obtain ⟨g0, g1, g2⟩ := gt_some e
  have eP : p_second s n = rdP s (dfE s.1 (sk s.1 0, true)) (fun s' => kpP s' (cif (shO (dfS1 s.1 (sk s.1 0, true)) ∧ shO (dfS2 s.1 (sk s.1 0, true))) (cif (okT (P.map (shT (dfS1 s.1 (sk s.1 0, true)) (dfS2 s.1 (sk s.1 0, true))))) 0 7) 6) (P.map (shT (dfS1 s.1 (sk s.1 0, true)) (dfS2 s.1 (sk s.1 0, true))))) := by
    unfold p_second
    rw [e]
  -- a word at the head of a shift
  have word : ∀ (h' : am_H) (s' : Nat × Bool) (j : Int), tkA h' s.1 s' → (-1 ≤ j ∧ j ≤ 5) → (0 ≤ j) → (am_I h' 87 43 = 2 ↔ 0 ≤ wdI s.1 s'.1) ∧ (am_I h' 87 43 = 2 → (am_I h' 87 44 = ji j ↔ wdI s.1 s'.1 = j)) := by
    intro h' s' j t' hj hj0
    obtain ⟨tm, tt, i42, i45, hp, h32, tok, val, e0, i43, i44, i41, he, ht, hv, tv⟩ := t'
    obtain ⟨y1, y2⟩ := tv.word
    rw [i43, i44, jk2, ji_eq, ji_eq]
    exact ⟨y1, fun q => by rw [(y2 q).1]⟩
  -- behind both
  have f84 : ∀ (h2 : am_H), rk (am_si h 87 4 0) h2 → tkA h2 s.1 (wM s.1 44 (aSh s.1 (wW s.1 (wb 0) (sk s.1 0, true)))) → sfA h2 0 (dfS1 s.1 (sk s.1 0, true)) → am_EI m_Ref_second 0 0 84 [.ref 87, .int (ji n), .float 0, .float 0, .float 0] [.int (bi (decide (wdI s.1 (wM s.1 44 (aSh s.1 (wW s.1 (wb 0) (sk s.1 0, true)))).1 = 1))), .ref 87] h2 (am_qi Q) := by
    intro h2 fk2 t2 sf2
    refine sg_Ref_second_84 87 87 _ _ h2 _ ⟨t2.1.1, rf_word t2 (by decide) (wW_1 hb) (fun h3 f3 t3 => ⟨t3.1.1, s_Ref_readShift (o := 5) (by omega) t3 (fun h4 f4 sf4 low4 t4 => ⟨t4.1.1, s_Ref_ends t4 ?_⟩)⟩)⟩
    have fk : rk (am_si h 87 4 0) h4 := (fk2.tr (f3.rk (by omega))).tr f4.rk
    have sa4 : sfA h4 0 (dfS1 s.1 (sk s.1 0, true)) := sf2.below (fun j hj => by rw [low4 j hj, f3.2.2.2.1 141 (by omega)])
    have eE : aSh s.1 (wW s.1 (wb 1) (wM s.1 44 (aSh s.1 (wW s.1 (wb 0) (sk s.1 0, true))))) = dfE s.1 (sk s.1 0, true) := rfl
    have eS : vSh s.1 (wW s.1 (wb 1) (wM s.1 44 (aSh s.1 (wW s.1 (wb 0) (sk s.1 0, true))))) = dfS2 s.1 (sk s.1 0, true) := rfl
    rw [eE]
    rw [eS] at sf4
    generalize dfE s.1 (sk s.1 0, true) = R at eP ⊢
    generalize dfS1 s.1 (sk s.1 0, true) = S1 at eP sa4 ⊢
    generalize dfS2 s.1 (sk s.1 0, true) = S2 at eP sf4 ⊢
    have M := rf_read (e := R) (v := bi (rdW s.1 R)) m fk
    have F := fi_read (v := bi (rdW s.1 R)) (w := (if rdW s.1 R then (-9999 : Int32) else ji (R.1 : Int))) fk
    have sa5 : sfA (am_si (am_si (am_si h4 87 45 (bi (rdW s.1 R))) 87 3 (if rdW s.1 R then (-9999 : Int32) else ji (R.1 : Int))) 87 1 0) 0 S1 := sa4.of (by rw [am_I_sin (by omega), am_I_sin (by omega), am_I_sin (by omega)])
    have sb5 : sfA (am_si (am_si (am_si h4 87 45 (bi (rdW s.1 R))) 87 3 (if rdW s.1 R then (-9999 : Int32) else ji (R.1 : Int))) 87 1 0) 5 S2 := sf4.of (by rw [am_I_sin (by omega), am_I_sin (by omega), am_I_sin (by omega)])
    generalize am_si (am_si (am_si h4 87 45 (bi (rdW s.1 R))) 87 3 (if rdW s.1 R then (-9999 : Int32) else ji (R.1 : Int))) 87 1 0 = H at M F sa5 sb5 ⊢
    rw [bi_0]
    refine ⟨fun c => ⟨M.1.1, ?_⟩, fun c => ⟨M.1.1, ?_⟩⟩
    rotate_left
    · rw [jk2]
      exact rf_no (X := p_second s n) (by rw [eP]; exact cif_neg (by rw [c]; decide)) M F k
    have hw : rdW s.1 R = true := by cases e1 : rdW s.1 R; exact absurd e1 c; rfl
    have eK : p_second s n = kpP (rdS s R) (cif (shO S1 ∧ shO S2) (cif (okT (P.map (shT S1 S2))) 0 7) 6) (P.map (shT S1 S2)) := by rw [eP]; exact cif_pos hw
    have bad : ¬ (shO S1 ∧ shO S2) → am_EI m_Ref_second 0 0 127 [.ref 87, .int (ji n), .float 0, .float 0, .float 0] [] H (am_qi Q) := by
      intro o
      refine sg_Ref_second_127 87 _ H _ ⟨M.1.1, ?_⟩
      rw [jk6]
      refine s_Ref_faulty (X := p_second s n) ?_ M F k
      rw [eK, cif_neg o]
      exact kpP_ne (by decide)
    refine s_Ref_isRightShift (o := 0) M.1 (by omega) sa5 (fun o1 => ⟨fun q => absurd q (by decide), fun _ => ⟨M.1.1, ?_⟩⟩) (fun o1 => ⟨fun _ => bad (fun z => o1 z.1), fun q => absurd rfl q⟩)
    refine s_Ref_isRightShift (o := 5) M.1 (by omega) sb5 (fun o2 => ⟨fun _ => ⟨M.1.1, 89, M.1.p6, by rw [M.1.t6], by rw [M.1.t6, ji_in]; omega, ?_⟩, fun q => absurd q (by decide)⟩) (fun o2 => ⟨fun q => absurd rfl q, fun _ => bad (fun z => o2 z.2)⟩)
    have gP : (rdS s R).2.1[n.toNat]? = some P := g2
    obtain ⟨-, rP⟩ := M.2.2.1.2.2 n.toNat P gP
    rw [ji_tn, rP.1]
    rw [cif_pos ⟨o1, o2⟩] at eK
    refine rf_shifted (X := p_second s n) eK rfl (M.rk (rk.slot (by omega))) g0 gP (sa5.of ?_) (sb5.of ?_) o1 o2 ?_ (F.tr (fi.si (by omega) (by omega))) k
    · rw [am_I_sin (by omega)]
    · rw [am_I_sin (by omega)]
    · rw [am_I_sis, va_up_at]
  have f38 : am_EI m_Ref_second 0 0 38 [.ref 87, .int (ji n), .float 0, .float 0, .float 0] [.int (bi (decide (wdI s.1 (sk s.1 0) = 0))), .ref 87] h1 (am_qi Q) := by
    refine sg_Ref_second_38 87 87 _ _ h1 _ ⟨t1.1.1, rf_word (s := (sk s.1 0, true)) t1 (by decide) (wW_0 hb) (fun h2 f2 t2 => ⟨t2.1.1, s_Ref_readShift (o := 0) (by omega) t2 (fun h3 f3 sf3 low3 t3 => ⟨t3.1.1, ?_⟩)⟩)⟩
    rw [jk44]
    refine s_Ref_goes t3 (by decide) (fun h4 f4 t4 => ⟨t4.1.1, s_Ref_must t4 (fun h5 f5 t5 => ⟨t5.1.1, ?_⟩)⟩)
    rw [wM_eq] at t5
    have fk : rk (am_si h 87 4 0) h5 := ((((f1.rk (by omega)).tr (f2.rk (by omega))).tr f3.rk).tr (f4.rk (by omega))).tr (f5.rk (by omega))
    have sf5 : sfA h5 0 (dfS1 s.1 (sk s.1 0, true)) := sf3.of (by rw [f5.2.2.2.1 141 (by omega), f4.2.2.2.1 141 (by omega)])
    have g84 := f84 h5 fk t5 sf5
    obtain ⟨y1, y2⟩ := word h5 _ 1 t5 (by omega) (by omega)
    refine ⟨fun q => sg_Ref_second_83 87 87 _ h5 _ ?_, fun q => ⟨fun z => sg_Ref_second_83 87 87 _ h5 _ ?_, fun z => ?_⟩⟩
    · rw [decide_eq_false (fun w => q (y1.mpr (by omega)))] at g84
      exact g84
    · rw [decide_eq_false (fun w => z ((y2 q).mpr w))] at g84
      exact g84
    · rw [decide_eq_true ((y2 q).mp z)] at g84
      exact g84
  obtain ⟨y1, y2⟩ := word h1 _ 0 t1 (by omega) (by omega)
  dsimp only at y1 y2
  refine ⟨fun q => sg_Ref_second_37 87 87 _ h1 _ ?_, fun q => ⟨fun z => sg_Ref_second_37 87 87 _ h1 _ ?_, fun z => ?_⟩⟩
  · rw [decide_eq_false (fun w => q (y1.mpr (by omega)))] at f38
    exact f38
  · rw [decide_eq_false (fun w => z ((y2 q).mpr w))] at f38
    exact f38
  · rw [decide_eq_true ((y2 q).mp z)] at f38
    exact f38
