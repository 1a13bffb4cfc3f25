/-! the reference: coming back -/
theorem opE_neg {kd : Int} {dp M : Int → Prop} {t : Int} : opE kd dp M t ↔ opL kd (fun u => dp (-u)) (fun u => M (-u)) (-t) := by
  unfold opE opL
  by_cases c1 : kd = 1
  · rw [if_pos c1, if_pos c1]
    simp only [Int.neg_neg]
  · rw [if_neg c1, if_neg c1]
    by_cases c0 : kd = 0
    · rw [if_pos c0, if_pos c0]
      constructor
      · rintro ⟨r, r1, r2⟩
        exact ⟨-r, by show M (- -r); rw [Int.neg_neg]; exact r1, by omega⟩
      · rintro ⟨r, r1, r2⟩
        exact ⟨-r, r1, by omega⟩
    · rw [if_neg c0, if_neg c0]
      show (M t ∨ _) ↔ (M (- -t) ∨ _)
      rw [Int.neg_neg]
      refine or_congr Iff.rfl ⟨?_, ?_⟩
      · rintro ⟨r, r1, r2, r3⟩
        exact ⟨-r, by show M (- -r); rw [Int.neg_neg]; exact r1, by omega, fun u u1 u2 => r3 (-u) (by omega) (by omega)⟩
      · rintro ⟨r, r1, r2, r3⟩
        refine ⟨-r, r1, by omega, fun u u1 u2 => ?_⟩
        have this : dp (- -u) := r3 (-u) (by omega) (by omega)
        rw [Int.neg_neg] at this
        exact this
theorem s_Ref_comeBack {h : am_H} {r i n : Nat} {W : Wy} {E way : Int} {M : Int → Prop} {Q : am_H → Prop} (hr : r < 8) (hn : n ≤ 8) (p : prA h n W E) (hi : i + 1 < n) (hk : 0 ≤ W.2.1 (i + 1) ∧ W.2.1 (i + 1) ≤ 2) (ek : am_I h 103 (r * 8 + (i + 1)) = ji (W.2.1 (i + 1))) (hw : 0 ≤ way ∧ way ≤ 60000)
    (mM : mkR h (126 + (i + 1)) E M) (bM : ∀ u, M u → 0 ≤ u ∧ u < E)
    (K : ∀ h', mw h h' (126 + i) → mkR h' (126 + i) E (fun u => opE (W.2.1 (i + 1)) (W.2.2.1 (i + 1)) M (u + way) ∧ W.2.2.2 i u) → Q h') : am_Ew m_Ref_comeBack 0 0 [.ref 87, .int (ji r), .int (ji ((i + 1 : Nat) : Int)), .int (ji way)] h Q := by
  obtain ⟨m, i31, hE, mks⟩ := id p
  have eki : (ji ((i + 1 : Nat) : Int)).toNatClampNeg = i + 1 := by rw [ji_tn, Int.toNat_natCast]
  have e1 : ji ((i + 1 : Nat) : Int) - 1 = ji (i : Int) := by rw [jk1, ji_sub, show ((i + 1 : Nat) : Int) - 1 = (i : Int) by omega]
  have ek0 : (ji (i : Int)).toNatClampNeg = i := by rw [ji_tn, Int.toNat_natCast]
  have k0 : (ji (W.2.1 (i + 1)) = 0) ↔ W.2.1 (i + 1) = 0 := by rw [jk0, ji_eq]
  have k2 : (ji (W.2.1 (i + 1)) = 2) ↔ W.2.1 (i + 1) = 2 := by rw [jk2, ji_eq]
  have vi : vp_in (ji ((i + 1 : Nat) : Int)) 8 := by rw [ji_in]; omega
  have vi0 : vp_in (ji (i : Int)) 8 := by rw [ji_in]; omega
  -- t goes down from E - 1; c = t + 1
  have loop : ∀ (c : Nat) (h1 : am_H), (c : Int) ≤ E → mw h h1 (126 + i) → (∀ v : Nat, (v : Int) < E → am_I h1 (126 + i) v = cbi ((c : Int) ≤ v + way ∧ opE (W.2.1 (i + 1)) (W.2.2.1 (i + 1)) M (v + way) ∧ W.2.2.2 i v)) → am_EI m_Ref_comeBack 0 0 54 [.ref 87, .int (ji r), .int (ji ((i + 1 : Nat) : Int)), .int (ji way), .int (ji (W.2.1 (i + 1))), .int (cbi (wtP (W.2.1 (i + 1)) (fun u => W.2.2.1 (i + 1) (-u)) (fun u => M (-u)) (-((c : Int) - 1)))), .int (ji ((c : Int) - 1)), .float 0, .float 0, .float 0] [] h1 (am_qw Q) := by
    intro c
    induction c with
    | zero =>
      intro h1 hc f1 inv
      refine sg_Ref_comeBack_54 87 _ _ _ _ _ _ h1 _ ?_
      rw [show ((ji (((0 : Nat) : Int) - 1) < 0) ↔ (ji (((0 : Nat) : Int) - 1) < ji 0)) from Iff.rfl, ji_lt]
      refine ⟨fun _ => K h1 f1 (fun v hv => ?_), fun z => absurd (by omega) z⟩
      rw [inv v hv]
      exact cbi_cg ⟨fun z => z.2, fun z => ⟨by omega, z⟩⟩
    | succ t ih =>
      intro h1 hc f1 inv
      have ec : ((t + 1 : Nat) : Int) - 1 = (t : Int) := by omega
      rw [ec]
      have p1 := p.mw f1 (by omega) hn
      obtain ⟨m1, j31, -, mks1⟩ := id p1
      obtain ⟨-, mf1, -, -⟩ := mks1 (i + 1) hi
      obtain ⟨mg1, -, bg1, -⟩ := mks1 i (by omega)
      obtain ⟨-, ⟨pr2, tr2⟩, ⟨pr3, tr3⟩⟩ := m1.2.2 (i + 1) (by omega)
      obtain ⟨⟨pg, tg⟩, -, ⟨pm, tm⟩⟩ := m1.2.2 i (by omega)
      have ekt : (ji (t : Int)).toNatClampNeg = t := by rw [ji_tn, Int.toNat_natCast]
      have vt : vp_in (ji (t : Int)) 13500 := by rw [ji_in]; omega
      have fl := mf1 t (by omega)
      have mt : am_I h1 (126 + (i + 1)) t = cbi (M t) := by rw [f1.2.2.2 (126 + (i + 1)) (by omega)]; exact mM t (by omega)
      have os := op_st (dp := fun u => W.2.2.1 (i + 1) (-u)) (A := fun u => M (-u)) (t := -(t : Int)) hk
      have wn := wt_next (dp := fun u => W.2.2.1 (i + 1) (-u)) (A := fun u => M (-u)) (t := -(t : Int)) hk
      simp only [Int.neg_neg] at os wn
      have oe : opE (W.2.1 (i + 1)) (W.2.2.1 (i + 1)) M t ↔ opL (W.2.1 (i + 1)) (fun u => W.2.2.1 (i + 1) (-u)) (fun u => M (-u)) (-(t : Int)) := opE_neg
      rw [← oe] at os
      -- abbreviations
      generalize hC : wtP (W.2.1 (i + 1)) (fun u => W.2.2.1 (i + 1) (-u)) (fun u => M (-u)) (-(t : Int)) = C at os wn ⊢
      have stE : stP' (W.2.1 (i + 1)) (fun u => W.2.2.1 (i + 1) (-u)) (fun u => M (-u)) (-(t : Int)) ↔ ((W.2.1 (i + 1) = 0 ∧ C) ∨ (W.2.1 (i + 1) = 2 ∧ C ∧ W.2.2.1 (i + 1) t)) := by
        unfold stP'
        rw [hC]
        simp only [Int.neg_neg]
      rw [stE] at os wn
      have en : -(t : Int) + 1 = -((t : Int) - 1) := by omega
      rw [en] at wn
      -- the next turn
      have nxt : ∀ (y x5 x7 x8 x9 : Int32) (h2 : am_H), mw h1 h2 (126 + i) → (∀ v : Nat, (v : Int) < E → am_I h2 (126 + i) v = cbi ((t : Int) ≤ v + way ∧ opE (W.2.1 (i + 1)) (W.2.2.1 (i + 1)) M (v + way) ∧ W.2.2.2 i v)) → y = cbi (wtP (W.2.1 (i + 1)) (fun u => W.2.2.1 (i + 1) (-u)) (fun u => M (-u)) (-((t : Int) - 1))) → am_EI m_Ref_comeBack 0 0 205 [.ref 87, .int (ji r), .int (ji ((i + 1 : Nat) : Int)), .int (ji way), .int (ji (W.2.1 (i + 1))), .int x5, .int (ji t), .int x7, .int x8, .int x9] [.int y] h2 (am_qw Q) := by
        intro y x5 x7 x8 x9 h2 f2 inv2 hy
        refine sg_Ref_comeBack_205 87 _ _ _ _ _ _ _ _ _ _ h2 _ ?_
        rw [hy, jm1, ji_add, show (t : Int) + -1 = (t : Int) - 1 by omega]
        exact ih h2 (by omega) (f1.tr f2) inv2
      have l168 : ∀ (x8 x9 : Int32) (h2 : am_H), mw h1 h2 (126 + i) → (∀ v : Nat, (v : Int) < E → am_I h2 (126 + i) v = cbi ((t : Int) ≤ v + way ∧ opE (W.2.1 (i + 1)) (W.2.2.1 (i + 1)) M (v + way) ∧ W.2.2.2 i v)) → x9 = cbi (opE (W.2.1 (i + 1)) (W.2.2.1 (i + 1)) M t) → am_EI m_Ref_comeBack 0 0 168 [.ref 87, .int (ji r), .int (ji ((i + 1 : Nat) : Int)), .int (ji way), .int (ji (W.2.1 (i + 1))), .int (cbi C), .int (ji t), .int (cbi (M t)), .int x8, .int x9] [] h2 (am_qw Q) := by
        intro x8 x9 h2 f2 inv2 hx9
        have p2 := p1.mw f2 (by omega) hn
        obtain ⟨m2, -, -, mks2⟩ := id p2
        have fl2 := (mks2 (i + 1) hi).2.1 t (by omega)
        refine sg_Ref_comeBack_168 87 _ _ _ _ _ _ _ _ _ h2 _ ?_
        rw [k0]
        refine ⟨fun n0 => ⟨m2.1, 116, m2.p35, by rw [m2.t35], by rw [m2.t35]; exact vi, 117 + (i + 1), by rw [eki]; exact (m2.2.2 (i + 1) (by omega)).2.1.1, by rw [(m2.2.2 (i + 1) (by omega)).2.1.2], by rw [(m2.2.2 (i + 1) (by omega)).2.1.2]; exact vt, ?_⟩, fun e0 => nxt _ _ _ _ _ h2 f2 inv2 ?_⟩
        · rw [ekt, fl2, cbi_z, cbi_z, cbi_z]
          have no : ¬ wtP (W.2.1 (i + 1)) (fun u => W.2.2.1 (i + 1) (-u)) (fun u => M (-u)) (-((t : Int) - 1)) → am_EI m_Ref_comeBack 0 0 204 [.ref 87, .int (ji r), .int (ji ((i + 1 : Nat) : Int)), .int (ji way), .int (ji (W.2.1 (i + 1))), .int (cbi C), .int (ji t), .int (cbi (M t)), .int x8, .int x9] [] h2 (am_qw Q) := fun z => sg_Ref_comeBack_204 87 _ _ _ _ _ _ _ _ _ h2 _ (nxt 0 _ _ _ _ h2 f2 inv2 (cbi_0 z).symm)
          have yes : wtP (W.2.1 (i + 1)) (fun u => W.2.2.1 (i + 1) (-u)) (fun u => M (-u)) (-((t : Int) - 1)) → am_EI m_Ref_comeBack 0 0 200 [.ref 87, .int (ji r), .int (ji ((i + 1 : Nat) : Int)), .int (ji way), .int (ji (W.2.1 (i + 1))), .int (cbi C), .int (ji t), .int (cbi (M t)), .int x8, .int x9] [] h2 (am_qw Q) := fun z => sg_Ref_comeBack_200 87 _ _ _ _ _ _ _ _ _ h2 _ (nxt 1 _ _ _ _ h2 f2 inv2 (cbi_1 z).symm)
          refine ⟨fun z => no (fun q => ?_), fun z => ⟨fun z2 => yes (wn.mpr (Or.inr ?_)), fun z2 => ⟨fun z3 => no (fun q => ?_), fun z3 => yes (wn.mpr (Or.inr ?_))⟩⟩⟩
          · rcases wn.mp q with ⟨q1, -⟩ | ⟨q1, -, q3⟩
            · exact n0 q1
            · exact z ⟨q1, q3⟩
          · have z := Classical.byContradiction z
            exact ⟨z.1, Or.inr (Classical.byContradiction z2), z.2⟩
          · rcases wn.mp q with ⟨q1, -⟩ | ⟨-, q2, -⟩
            · exact n0 q1
            · rcases q2 with (⟨q2, -⟩ | ⟨-, q2, -⟩) | q2
              · exact n0 q2
              · exact z3 q2
              · exact z2 q2
          · have z := Classical.byContradiction z
            exact ⟨z.1, Or.inl (Or.inr ⟨z.1, Classical.byContradiction z3, z.2⟩), z.2⟩
        · rw [hx9]
          refine cbi_cg ?_
          rw [os, wn]
          constructor
          · rintro (q | ⟨-, q⟩ | ⟨q, -⟩)
            · exact Or.inl ⟨e0, Or.inr q⟩
            · exact Or.inl ⟨e0, Or.inl q⟩
            · omega
          · rintro (⟨-, q | q⟩ | ⟨q, -⟩)
            · exact Or.inr (Or.inl ⟨e0, q⟩)
            · exact Or.inl q
            · omega
      have l128 : ∀ (x8 y0 : Int32), y0 = cbi (opE (W.2.1 (i + 1)) (W.2.2.1 (i + 1)) M t) → am_EI m_Ref_comeBack 0 0 128 [.ref 87, .int (ji r), .int (ji ((i + 1 : Nat) : Int)), .int (ji way), .int (ji (W.2.1 (i + 1))), .int (cbi C), .int (ji t), .int (cbi (M t)), .int x8, .float 0] [.int y0] h1 (am_qw Q) := by
        intro x8 y0 hy0
        refine sg_Ref_comeBack_128 87 _ _ _ _ _ _ _ _ _ h1 _ ?_
        rw [e1, ji_sub, show ((ji ((t : Int) - way) < 0) ↔ (ji ((t : Int) - way) < ji 0)) from Iff.rfl, ji_lt]
        have stay : (¬ opE (W.2.1 (i + 1)) (W.2.2.1 (i + 1)) M t ∨ (t : Int) - way < 0) → ∀ v : Nat, (v : Int) < E → am_I h1 (126 + i) v = cbi ((t : Int) ≤ v + way ∧ opE (W.2.1 (i + 1)) (W.2.2.1 (i + 1)) M (v + way) ∧ W.2.2.2 i v) := fun hc v hv => by
          rw [inv v hv]
          refine cbi_cg ⟨fun q => ⟨by omega, q.2⟩, fun q => ⟨?_, q.2⟩⟩
          rcases hc with hc | hc
          · by_cases e : (v : Int) + way = t
            · rw [e] at q
              exact absurd q.2.1 hc
            · omega
          · omega
        refine ⟨fun z => l168 _ _ h1 mw.rf (stay (Or.inl (by rw [hy0, cbi_z] at z; exact z))) hy0, fun z => ⟨fun z2 => l168 _ _ h1 mw.rf (stay (Or.inr z2)) hy0, fun z2 => ⟨m1.1, 125, m1.p36, by rw [m1.t36], by rw [m1.t36]; exact vi0, 126 + i, by rw [ek0]; exact pm, 107, m1.p34, by rw [m1.t34], by rw [m1.t34]; exact vi0, 108 + i, by rw [ek0]; exact pg, by rw [tg], by rw [tg, ji_in]; omega, by rw [tm], by rw [tm, ji_in]; omega, ?_⟩⟩⟩
        have ekw : (ji ((t : Int) - way)).toNatClampNeg = ((t : Int) - way).toNat := ji_tn
        have gv := mg1 ((t : Int) - way).toNat (by omega)
        have ev : ((((t : Int) - way).toNat : Nat) : Int) = (t : Int) - way := by omega
        rw [ev] at gv
        rw [ekw, gv]
        refine ⟨cbi_b, ?_⟩
        have zc : opE (W.2.1 (i + 1)) (W.2.2.1 (i + 1)) M t := Classical.byContradiction (fun q => z (by rw [hy0]; exact cbi_0 q))
        refine l168 _ _ _ mw.si (fun v hv => ?_) hy0
        rw [am_I_sis]
        by_cases cv : v = ((t : Int) - way).toNat
        · subst cv
          rw [va_up_at, ev]
          refine cbi_cg ⟨fun q => ⟨by omega, by rw [show (t : Int) - way + way = t by omega]; exact zc, q⟩, fun q => q.2.2⟩
        · rw [va_up_no _ _ cv, inv v hv]
          exact cbi_cg ⟨fun q => ⟨by omega, q.2⟩, fun q => ⟨by omega, q.2⟩⟩
      have l98 : ∀ (y0 : Int32), y0 = cbi (W.2.1 (i + 1) = 2 ∧ C ∧ W.2.2.1 (i + 1) t) → am_EI m_Ref_comeBack 0 0 98 [.ref 87, .int (ji r), .int (ji ((i + 1 : Nat) : Int)), .int (ji way), .int (ji (W.2.1 (i + 1))), .int (cbi C), .int (ji t), .int (cbi (M t)), .float 0, .float 0] [.int y0] h1 (am_qw Q) := by
        intro y0 hy0
        have yes : opE (W.2.1 (i + 1)) (W.2.2.1 (i + 1)) M t → am_EI m_Ref_comeBack 0 0 123 [.ref 87, .int (ji r), .int (ji ((i + 1 : Nat) : Int)), .int (ji way), .int (ji (W.2.1 (i + 1))), .int (cbi C), .int (ji t), .int (cbi (M t)), .int y0, .float 0] [] h1 (am_qw Q) := fun z => sg_Ref_comeBack_123 87 _ _ _ _ _ _ _ _ h1 _ (l128 _ 1 (cbi_1 z).symm)
        have no : ¬ opE (W.2.1 (i + 1)) (W.2.2.1 (i + 1)) M t → am_EI m_Ref_comeBack 0 0 127 [.ref 87, .int (ji r), .int (ji ((i + 1 : Nat) : Int)), .int (ji way), .int (ji (W.2.1 (i + 1))), .int (cbi C), .int (ji t), .int (cbi (M t)), .int y0, .float 0] [] h1 (am_qw Q) := fun z => sg_Ref_comeBack_127 87 _ _ _ _ _ _ _ _ h1 _ (l128 _ 0 (cbi_0 z).symm)
        refine sg_Ref_comeBack_98 87 _ _ _ _ _ _ _ _ h1 _ ?_
        have hz : y0 = 0 ↔ ¬ (W.2.1 (i + 1) = 2 ∧ C ∧ W.2.2.1 (i + 1) t) := by rw [hy0, cbi_z]
        rw [k0, hz, cbi_z, cbi_z]
        refine ⟨fun z => yes (os.mpr (Or.inl (Classical.byContradiction z))), fun z => ⟨fun n0 => ⟨fun z2 => no (fun q => ?_), fun z2 => yes (os.mpr (Or.inr (Or.inr (Classical.byContradiction z2))))⟩, fun e0 => ⟨fun z2 => no (fun q => ?_), fun z2 => yes (os.mpr (Or.inr (Or.inl ⟨e0, Classical.byContradiction z2⟩)))⟩⟩⟩
        · rcases os.mp q with q | ⟨q, -⟩ | q
          · exact z q
          · exact n0 q
          · exact z2 q
        · rcases os.mp q with q | ⟨-, q⟩ | ⟨q, -⟩
          · exact z q
          · exact z2 q
          · omega
      have no97 : ¬ (W.2.1 (i + 1) = 2 ∧ C ∧ W.2.2.1 (i + 1) t) → am_EI m_Ref_comeBack 0 0 97 [.ref 87, .int (ji r), .int (ji ((i + 1 : Nat) : Int)), .int (ji way), .int (ji (W.2.1 (i + 1))), .int (cbi C), .int (ji t), .int (cbi (M t)), .float 0, .float 0] [] h1 (am_qw Q) := fun z => sg_Ref_comeBack_97 87 _ _ _ _ _ _ _ h1 _ (l98 0 (cbi_0 z).symm)
      refine sg_Ref_comeBack_54 87 _ _ _ _ _ _ h1 _ ?_
      rw [show ((ji (t : Int) < 0) ↔ (ji (t : Int) < ji 0)) from Iff.rfl, ji_lt]
      refine ⟨fun z => absurd z (by omega), fun _ => ⟨m1.1, 125, m1.p36, by rw [m1.t36], by rw [m1.t36]; exact vi, 126 + (i + 1), by rw [eki]; exact pr3, by rw [tr3], by rw [tr3]; exact vt, ?_⟩⟩
      rw [ekt, mt, k2, cbi_z]
      refine ⟨fun n2 => no97 (fun q => n2 q.1), fun e2 => ⟨fun z => no97 (fun q => z q.2.1), fun z => ⟨116, m1.p35, by rw [m1.t35], by rw [m1.t35]; exact vi, 117 + (i + 1), by rw [eki]; exact pr2, by rw [tr2], by rw [tr2]; exact vt, ?_⟩⟩⟩
      rw [fl, cbi_z]
      exact ⟨fun z2 => no97 (fun q => z2 ⟨e2, q.2.2⟩), fun z2 => l98 1 (cbi_1 ⟨e2, Classical.byContradiction z, (Classical.byContradiction z2).2⟩).symm⟩
  have clr : ∀ (n2 t : Nat) (h1 : am_H), (t : Int) + n2 = E → mw h h1 (126 + i) → (∀ v : Nat, v < t → am_I h1 (126 + i) v = 0) → am_EI m_Ref_comeBack 0 0 16 [.ref 87, .int (ji r), .int (ji ((i + 1 : Nat) : Int)), .int (ji way), .int (ji (W.2.1 (i + 1))), .int (ji t), .float 0, .float 0, .float 0, .float 0] [] h1 (am_qw Q) := by
    intro n2
    induction n2 with
    | zero =>
      intro t h1 ht f1 inv
      have p1 := p.mw f1 (by omega) hn
      refine sg_Ref_comeBack_16 87 _ _ _ _ _ h1 _ ⟨p1.1.1, ?_⟩
      rw [p1.2.1, ji_le, jk1, ji_sub]
      refine ⟨fun _ => ?_, fun z => absurd (by omega) z⟩
      obtain ⟨e, he⟩ := Int.eq_ofNat_of_zero_le (show 0 ≤ E by omega)
      have z0 : (0 : Int32) = cbi (wtP (W.2.1 (i + 1)) (fun u => W.2.2.1 (i + 1) (-u)) (fun u => M (-u)) (-((e : Int) - 1))) := by
        refine (cbi_0 ?_).symm
        rintro (⟨-, s, s1, s2⟩ | ⟨-, s, s1, s2, -⟩)
        · have := bM _ s1
          omega
        · have := bM _ s1
          omega
      rw [he, z0]
      refine loop e h1 (by omega) f1 (fun v hv => ?_)
      rw [inv v (by omega)]
      refine (cbi_0 (fun q => ?_)).symm
      obtain ⟨s, s1, s2⟩ := opE_ex q.2.1
      have := bM _ s1
      omega
    | succ n2 ih =>
      intro t h1 ht f1 inv
      have p1 := p.mw f1 (by omega) hn
      obtain ⟨m1, j31, -, -⟩ := id p1
      obtain ⟨-, -, ⟨pm, tm⟩⟩ := m1.2.2 i (by omega)
      have ekt : (ji (t : Int)).toNatClampNeg = t := by rw [ji_tn, Int.toNat_natCast]
      refine sg_Ref_comeBack_16 87 _ _ _ _ _ h1 _ ⟨m1.1, ?_⟩
      rw [j31, ji_le, e1]
      refine ⟨fun z => absurd z (by omega), fun _ => ⟨125, m1.p36, by rw [m1.t36], by rw [m1.t36]; exact vi0, 126 + i, by rw [ek0]; exact pm, by rw [tm], by rw [tm, ji_in]; omega, ?_⟩⟩
      rw [ekt, jk1, ji_add]
      refine ih (t + 1) _ (by omega) (f1.tr mw.si) (fun v hv => ?_)
      rw [am_I_sis]
      by_cases cv : v = t
      · subst cv
        rw [va_up_at]
      · rw [va_up_no _ _ cv]
        exact inv v (by omega)
  refine ev_Ref_comeBack 87 (ji r) (ji ((i + 1 : Nat) : Int)) (ji way) h Q ⟨m.1, 103, m.p23, by rw [m.t23], by rw [m.t23, jk8, ji_mul, ji_add, ji_in]; omega, ?_⟩
  have ekx : (ji (r : Int) * 8 + ji ((i + 1 : Nat) : Int)).toNatClampNeg = r * 8 + (i + 1) := by
    rw [jk8, ji_mul, ji_add, ji_tn]
    omega
  rw [ekx, ek, jk0]
  exact clr E.toNat 0 h (by omega) mw.rf (fun v hv => absurd hv (by omega))
