/-! the reference: faults of turns; a port is made -/
def tmA (h : am_H) (E : List Tn) : Prop := am_I h 87 46 = ji (E.length : Int) ∧ ∀ (j : Nat) (q : Tn), E[j]? = some q → am_I h 140 j = ji q.2.1 ∧ am_I h 139 j = ji q.2.2 ∧ am_I h 137 j = bi q.1
theorem pt_l {M : List Tn} {q : Tn} : ptH (M ++ [q]) (((M ++ [q]).length : Int) - 1) = q.1 ∧ ptM (M ++ [q]) (((M ++ [q]).length : Int) - 1) = q.2.1 ∧ ptG (M ++ [q]) (((M ++ [q]).length : Int) - 1) = q.2.2 := pt_last (j := M.length) (by rw [List.length_append]; rfl) (by rw [List.getElem?_append_right (Nat.le_refl _), Nat.sub_self]; rfl)
theorem pW.lastB {M : List Tn} (w : pW M) (hl : M.length ≤ 50) : (-100000 ≤ ptM M ((M.length : Int) - 1) ∧ ptM M ((M.length : Int) - 1) ≤ 100000) ∧ (-100000 ≤ ptG M ((M.length : Int) - 1) ∧ ptG M ((M.length : Int) - 1) ≤ 100000) := by
  rcases Nat.eq_zero_or_pos M.length with z | z
  · have e : M = [] := List.eq_nil_of_length_eq_zero z
    subst e
    exact ⟨by decide, by decide⟩
  · obtain ⟨p, hp⟩ : ∃ p, M[M.length - 1]? = some p := ⟨_, List.getElem?_eq_getElem (by omega)⟩
    obtain ⟨-, l2, l3⟩ := pt_last (by omega) hp
    rw [l2, l3]
    have a := w.2.1 p (List.mem_of_getElem? hp)
    have b := w.2.2 _ p hp
    omega
theorem s_Ref_faultOfTurns {h : am_H} {B D : List Tn} {x : Int} {Q : Int32 → am_H → Prop} (m : rfF h) (d : tdA h D) (hD : D.length ≤ 24) (hB : B.length ≤ 16) (w : pW B) (hx : (B = [] ∧ x = -1) ∨ (B ≠ [] ∧ 0 ≤ x ∧ x < 128 ∧ am_I h 90 x.toNat = ji (ptM B ((B.length : Int) - 1)) ∧ am_I h 91 x.toNat = ji (ptG B ((B.length : Int) - 1)) ∧ am_I h 92 x.toNat = bi (ptH B ((B.length : Int) - 1)))) (k : ∀ h', fi h h' 140 141 → ((flw B D).1 = 0 → ∃ E, (flw B D).2 = B ++ E ∧ E.length = D.length ∧ tmA h' E ∧ pW (B ++ E)) → Q (ji (flw B D).1) h') : am_Ei m_Ref_faultOfTurns 0 0 [.ref 87, .int (ji x)] h Q := by
  have loop : ∀ (n i : Nat) (E : List Tn) (h1 : am_H), i + n = D.length → E.length = i → pW (B ++ E) → fi h h1 140 141 → (∀ (j : Nat) (q : Tn), E[j]? = some q → am_I h1 140 j = ji q.2.1 ∧ am_I h1 139 j = ji q.2.2 ∧ am_I h1 137 j = bi q.1) → flw (B ++ E) (D.drop i) = flw B D → am_EI m_Ref_faultOfTurns 0 0 64 [.ref 87, .int (ji x), .int (bi (ptH (B ++ E) (((B ++ E).length : Int) - 1))), .int (ji (ptM (B ++ E) (((B ++ E).length : Int) - 1))), .int (ji (ptG (B ++ E) (((B ++ E).length : Int) - 1))), .int (bi (decide ((B ++ E).length = 0))), .int (ji (i : Int)), .float 0, .float 0] [] h1 (am_qi Q) := by
    intro n
    induction n with
    | zero =>
      intro i E h1 hi hE w1 f1 r1 e1
      have i46 : am_I h1 87 46 = ji (D.length : Int) := by rw [f1.2.2.2 87 (by omega)]; exact d.1
      rw [List.drop_of_length_le (by omega)] at e1
      have e2 : flw B D = (0, B ++ E) := e1.symm
      rw [e2] at k
      refine sg_Ref_faultOfTurns_64 87 _ _ _ _ _ _ h1 _ ⟨by rw [f1.2.1]; exact m.1, ?_⟩
      rw [i46, ji_le]
      refine ⟨fun _ => k h1 f1 (fun _ => ⟨E, rfl, by omega, ⟨by rw [i46, show D.length = E.length by omega], r1⟩, w1⟩), fun c => absurd (by omega) c⟩
    | succ n ih =>
      intro i E h1 hi hE w1 f1 r1 e1
      have m1 : rfF h1 := by unfold rfF; rw [f1.2.1, f1.2.2.1]; exact m
      have i46 : am_I h1 87 46 = ji (D.length : Int) := by rw [f1.2.2.2 87 (by omega)]; exact d.1
      obtain ⟨q, hq⟩ : ∃ q, D[i]? = some q := ⟨_, List.getElem?_eq_getElem (by omega)⟩
      obtain ⟨d1, d2, d3, b2, b3⟩ := d.2 i q hq
      have d1' : am_I h1 137 i = bi q.1 := by rw [f1.2.2.2 137 (by omega)]; exact d1
      have d2' : am_I h1 138 i = ji q.2.1 := by rw [f1.2.2.2 138 (by omega)]; exact d2
      have d3' : am_I h1 139 i = ji q.2.2 := by rw [f1.2.2.2 139 (by omega)]; exact d3
      have tn : (ji (i : Int)).toNatClampNeg = i := by rw [ji_tn, Int.toNat_natCast]
      have ed : D.drop i = q :: D.drop (i + 1) := by
        rw [List.drop_eq_getElem_cons (by omega)]
        congr 1
        exact (List.getElem?_eq_some_iff.mp hq).2
      rw [ed] at e1
      have hl : (B ++ E).length ≤ 50 := by rw [List.length_append]; omega
      have lb := w1.lastB hl
      generalize hM : B ++ E = M at e1 w1 hl lb ⊢
      have eF : fN M q.1 q.2.1 q.2.2 ≠ 0 → flw B D = (fN M q.1 q.2.1 q.2.2, M) := fun c => by
        rw [← e1]
        show (if fN M q.1 q.2.1 q.2.2 = 0 then _ else _) = _
        rw [if_neg c]
      have bad : ∀ f : Int, fN M q.1 q.2.1 q.2.2 = f → f ≠ 0 → Q (ji f) h1 := fun f hf h0 => by
        have z := eF (by rw [hf]; exact h0)
        rw [z, hf] at k
        exact k h1 f1 (fun q => absurd q h0)
      have ck : 60 * (ji q.2.1 / 100) + ji q.2.1 % 100 = ji (q.2.1 / 100 * 60 + q.2.1 % 100) := by
        rw [jk60, jk100, ji_div, ji_mod, ji_mul, ji_add, Int.mul_comm]
      -- behind the clock
      have f157 : ∀ (x7 : Int32), ¬ (24 ≤ q.2.1 / 100 ∨ 60 ≤ q.2.1 % 100) → am_EI m_Ref_faultOfTurns 0 0 157 [.ref 87, .int (ji x), .int (bi (ptH M ((M.length : Int) - 1))), .int (ji (ptM M ((M.length : Int) - 1))), .int (ji (ptG M ((M.length : Int) - 1))), .int (bi (decide (M.length = 0))), .int (ji (i : Int)), .int x7, .float 0] [.int (ji (nxM M q.2.1))] h1 (am_qi Q) := by
        intro x7 c1
        have u1 : fN M q.1 q.2.1 q.2.2 = if M.length ≠ 0 ∧ q.1 = ptH M ((M.length : Int) - 1) then 2 else if fH M q.1 q.2.2 ≠ 0 then fH M q.1 q.2.2 else fM M (nxM M q.2.1) := by
          unfold fN
          rw [if_neg c1]
        have nb : -200000 ≤ nxM M q.2.1 ∧ nxM M q.2.1 ≤ 200000 := by
          unfold nxM
          split <;> omega
        -- fits
        have f264 : fN M q.1 q.2.1 q.2.2 = 0 → am_EI m_Ref_faultOfTurns 0 0 264 [.ref 87, .int (ji x), .int (bi (ptH M ((M.length : Int) - 1))), .int (ji (ptM M ((M.length : Int) - 1))), .int (ji (ptG M ((M.length : Int) - 1))), .int (bi (decide (M.length = 0))), .int (ji (i : Int)), .int x7, .int (ji (nxM M q.2.1))] [] h1 (am_qi Q) := by
          intro c
          have w2 := fN_snoc w1 b2 c
          have e2 : flw (M ++ [(q.1, nxM M q.2.1, q.2.2)]) (D.drop (i + 1)) = flw B D := by
            rw [← e1]
            show _ = if fN M q.1 q.2.1 q.2.2 = 0 then _ else _
            rw [if_pos c]
          have assoc : M ++ [(q.1, nxM M q.2.1, q.2.2)] = B ++ (E ++ [(q.1, nxM M q.2.1, q.2.2)]) := by rw [← hM, List.append_assoc]
          obtain ⟨p1, p2, p3⟩ := pt_l (M := M) (q := (q.1, nxM M q.2.1, q.2.2))
          have ln : decide ((M ++ [(q.1, nxM M q.2.1, q.2.2)]).length = 0) = false := decide_eq_false (by rw [List.length_append]; show ¬ (M.length + 1 = 0); omega)
          have go := ih (i + 1) (E ++ [(q.1, nxM M q.2.1, q.2.2)]) (am_si h1 140 i (ji (nxM M q.2.1))) (by omega) (by rw [List.length_append, hE]; rfl) (by rw [← assoc]; exact w2) (f1.tr (fi.si (by omega) (by omega))) ?_ (by rw [← assoc]; exact e2)
          · rw [← assoc, p1, p2, p3, ln] at go
            refine sg_Ref_faultOfTurns_264 87 _ _ _ _ _ _ _ _ h1 _ ⟨m1.1, 140, m1.p50, by rw [m1.t50], by rw [m1.t50, ji_in]; omega, 137, m1.p47, by rw [m1.t47], by rw [m1.t47, ji_in]; omega, 139, m1.p49, by rw [m1.t49], by rw [m1.t49, ji_in]; omega, ?_⟩
            rw [tn, am_I_sin (by omega : (137 : Nat) ≠ 140), am_I_sin (by omega : (139 : Nat) ≠ 140), d1', d3', jk1, ji_add]
            exact go
          · intro j q' hj
            rw [am_I_sis, am_I_sin (by omega), am_I_sin (by omega)]
            rcases get_snoc hj with hj | ⟨rfl, rfl⟩
            · have hjl := (List.getElem?_eq_some_iff.mp hj).1
              rw [va_up_no _ _ (by omega)]
              exact r1 j q' hj
            · rw [hE, va_up_at]
              exact ⟨rfl, d3', d1'⟩
        have f242 : ¬ (M.length ≠ 0 ∧ q.1 = ptH M ((M.length : Int) - 1)) → fH M q.1 q.2.2 = 0 → am_EI m_Ref_faultOfTurns 0 0 242 [.ref 87, .int (ji x), .int (bi (ptH M ((M.length : Int) - 1))), .int (ji (ptM M ((M.length : Int) - 1))), .int (ji (ptG M ((M.length : Int) - 1))), .int (bi (decide (M.length = 0))), .int (ji (i : Int)), .int x7, .int (ji (nxM M q.2.1))] [] h1 (am_qi Q) := by
          intro c2 c3
          rw [if_neg c2, if_neg (by rw [c3]; decide)] at u1
          refine sg_Ref_faultOfTurns_242 87 _ _ _ _ _ _ _ _ h1 _ ?_
          rw [bi_0, decide_eq_false_iff_not]
          refine ⟨fun z => f264 ?_, fun z => ?_⟩
          · rw [u1]
            unfold fM
            rw [if_pos (Classical.not_not.mp z)]
          · rw [ji_sub, jk60, jk800]
            refine s_Ref_isIn (by omega) (by omega) (by omega) (fun y => ⟨fun _ => f264 ?_, fun y2 => absurd y2 (by decide)⟩) (fun y => ⟨fun y2 => absurd rfl y2, fun _ => bad 5 ?_ (by decide)⟩)
            · rw [u1]
              unfold fM
              rw [if_neg z, if_pos y]
            · rw [u1]
              unfold fM
              rw [if_neg z, if_neg y]
        have f177 : ¬ (M.length ≠ 0 ∧ q.1 = ptH M ((M.length : Int) - 1)) → am_EI m_Ref_faultOfTurns 0 0 177 [.ref 87, .int (ji x), .int (bi (ptH M ((M.length : Int) - 1))), .int (ji (ptM M ((M.length : Int) - 1))), .int (ji (ptG M ((M.length : Int) - 1))), .int (bi (decide (M.length = 0))), .int (ji (i : Int)), .int x7, .int (ji (nxM M q.2.1))] [] h1 (am_qi Q) := by
          intro c2
          have v1 : fH M q.1 q.2.2 ≠ 0 → fN M q.1 q.2.1 q.2.2 = fH M q.1 q.2.2 := fun z => by rw [u1, if_neg c2, if_pos z]
          refine sg_Ref_faultOfTurns_177 87 _ _ _ _ _ _ _ _ h1 _ ⟨m1.1, 139, m1.p49, by rw [m1.t49], by rw [m1.t49, ji_in]; omega, ?_⟩
          rw [tn, d3', jm500, jk1500]
          refine s_Ref_isIn (by omega) (by omega) (by omega) (fun y => ⟨fun _ => ?_, fun y2 => absurd y2 (by decide)⟩) (fun y => ⟨fun y2 => absurd rfl y2, fun _ => bad 3 ?_ (by decide)⟩)
          · rw [bi_0, decide_eq_false_iff_not]
            refine ⟨fun z => f242 c2 ?_, fun z => ⟨m1.1, 137, m1.p47, by rw [m1.t47], by rw [m1.t47, ji_in]; omega, ?_⟩⟩
            · unfold fH
              rw [if_neg (by omega), if_pos (Classical.not_not.mp z)]
            · have good : (if q.1 = true then ptG M ((M.length : Int) - 1) < q.2.2 else q.2.2 < ptG M ((M.length : Int) - 1)) → fH M q.1 q.2.2 = 0 := fun o => by
                unfold fH
                rw [if_neg (by omega), if_neg z, if_pos o]
              have four : ¬ (if q.1 = true then ptG M ((M.length : Int) - 1) < q.2.2 else q.2.2 < ptG M ((M.length : Int) - 1)) → am_EI m_Ref_faultOfTurns 0 0 240 [.ref 87, .int (ji x), .int (bi (ptH M ((M.length : Int) - 1))), .int (ji (ptM M ((M.length : Int) - 1))), .int (ji (ptG M ((M.length : Int) - 1))), .int (bi (decide (M.length = 0))), .int (ji (i : Int)), .int x7, .int (ji (nxM M q.2.1))] [] h1 (am_qi Q) := fun o => by
                have o4 : fH M q.1 q.2.2 = 4 := by
                  unfold fH
                  rw [if_neg (by omega), if_neg z, if_neg o]
                exact sg_Ref_faultOfTurns_240 87 _ _ _ _ _ _ _ _ h1 _ (bad 4 (by rw [v1 (by rw [o4]; decide), o4]) (by decide))
              rw [d1', bi_0]
              refine ⟨fun y0 => ⟨139, m1.p49, by rw [m1.t49], by rw [m1.t49, ji_in]; omega, ?_⟩, fun y0 => ⟨139, m1.p49, by rw [m1.t49], by rw [m1.t49, ji_in]; omega, ?_⟩⟩
              · rw [d3', ji_lt]
                rw [y0] at good four
                rw [if_neg (by decide)] at good four
                exact ⟨fun o => f242 c2 (by rw [y0]; exact good o), four⟩
              · have y1 : q.1 = true := by cases z1 : q.1; exact absurd z1 y0; rfl
                rw [d3', ji_lt]
                rw [y1] at good four
                rw [if_pos rfl] at good four
                exact ⟨fun o => f242 c2 (by rw [y1]; exact good o), four⟩
          · rw [v1 (by unfold fH; rw [if_pos y]; decide)]
            unfold fH
            rw [if_pos y]
        refine sg_Ref_faultOfTurns_157 87 _ _ _ _ _ _ _ _ h1 _ ?_
        rw [bi_0, decide_eq_false_iff_not]
        refine ⟨fun z => f177 (fun z2 => z z2.1), fun z => ⟨m1.1, 137, m1.p47, by rw [m1.t47], by rw [m1.t47, ji_in]; omega, ?_⟩⟩
        rw [tn, d1', bi_eq]
        exact ⟨fun y => f177 (fun z2 => y z2.2), fun y => bad 2 (by rw [u1, if_pos ⟨z, y⟩]) (by decide)⟩
      refine sg_Ref_faultOfTurns_64 87 _ _ _ _ _ _ h1 _ ⟨m1.1, ?_⟩
      rw [i46, ji_le]
      refine ⟨fun c => absurd c (by omega), fun _ => ⟨138, m1.p48, by rw [m1.t48], by rw [m1.t48, ji_in]; omega, ?_⟩⟩
      rw [tn, d2', ck]
      have one : (24 ≤ q.2.1 / 100 ∨ 60 ≤ q.2.1 % 100) → Q (ji 1) h1 := fun c => bad 1 (by unfold fN; rw [if_pos c]) (by decide)
      have g1 : ((23 : Int32) < ji q.2.1 / 100) ↔ 23 < q.2.1 / 100 := by rw [jk100, ji_div, show (23 : Int32) = ji 23 from rfl, ji_lt]
      have g2 : (ji q.2.1 % 100 ≤ (59 : Int32)) ↔ q.2.1 % 100 ≤ 59 := by rw [jk100, ji_mod, show (59 : Int32) = ji 59 from rfl, ji_le]
      rw [g1, g2]
      refine ⟨fun c => sg_Ref_faultOfTurns_129 87 _ _ _ _ _ _ _ h1 _ (one (by omega)), fun c => ⟨fun c2 => ⟨fun z => ?_, fun z => ?_⟩, fun c2 => sg_Ref_faultOfTurns_129 87 _ _ _ _ _ _ _ h1 _ (one (by omega))⟩⟩
      · rw [bi_0, decide_eq_false_iff_not] at z
        rw [jk1, ji_sub, ji_sub, jk1440]
        refine s_Math_floorMod (by omega) (by omega) ?_
        have f := f157 (ji (q.2.1 / 100 * 60 + q.2.1 % 100)) (by omega)
        rw [ji_add, ji_add]
        unfold nxM at f
        rw [if_neg z] at f
        rw [show q.2.1 / 100 * 60 + q.2.1 % 100 - ptM M ((M.length : Int) - 1) - 1 = q.2.1 / 100 * 60 + q.2.1 % 100 - (ptM M ((M.length : Int) - 1) + 1) by omega]
        exact f
      · rw [bi_0, decide_eq_false_iff_not] at z
        have f := f157 (ji (q.2.1 / 100 * 60 + q.2.1 % 100)) (by omega)
        unfold nxM at f
        rw [if_pos (Classical.not_not.mp z)] at f
        exact f
  have start := loop D.length 0 [] h (by omega) rfl (by rw [List.append_nil]; exact w) ⟨rfl, rfl, rfl, fun _ _ => rfl⟩ (fun j q hj => by simp at hj) (by rw [List.append_nil]; rfl)
  rw [List.append_nil] at start
  rcases hx with ⟨rfl, rfl⟩ | ⟨hB0, x0, x1, y1, y2, y3⟩
  · have n1 : (ji (-1) < 0) := by decide
    have n2 : ¬ ((0 : Int32) ≤ ji (-1)) := by decide
    exact ev_Ref_faultOfTurns 87 (ji (-1)) h Q ⟨fun _ => sg_Ref_faultOfTurns_17 87 _ h _ (sg_Ref_faultOfTurns_18 87 _ _ h _ ⟨fun _ => sg_Ref_faultOfTurns_33 87 _ _ _ h _ ⟨fun _ => sg_Ref_faultOfTurns_48 87 _ _ _ _ h _ ⟨fun z => absurd z n2, fun _ => sg_Ref_faultOfTurns_59 87 _ _ _ _ _ h _ start⟩, fun z => absurd n1 z⟩, fun z => absurd n1 z⟩), fun z => absurd n1 z⟩
  · have n1 : ¬ (ji x < 0) := by rw [jk0, ji_lt]; omega
    have n2 : (0 : Int32) ≤ ji x := by rw [jk0, ji_le]; omega
    have tn : (ji x).toNatClampNeg = x.toNat := by rw [ji_tn]
    have bl : B.length ≠ 0 := fun z => hB0 (List.eq_nil_of_length_eq_zero z)
    rw [decide_eq_false bl] at start
    have f33 : am_EI m_Ref_faultOfTurns 0 0 18 [.ref 87, .int (ji x), .float 0, .float 0, .float 0, .float 0, .float 0, .float 0, .float 0] [.int (bi (ptH B ((B.length : Int) - 1)))] h (am_qi Q) := by
      refine sg_Ref_faultOfTurns_18 87 _ _ h _ ⟨fun z => absurd z n1, fun _ => ⟨m.1, 90, m.p7, by rw [m.t7], by rw [m.t7, ji_in]; omega, ?_⟩⟩
      rw [tn, y1]
      refine sg_Ref_faultOfTurns_33 87 _ _ _ h _ ⟨fun z => absurd z n1, fun _ => ⟨m.1, 91, m.p8, by rw [m.t8], by rw [m.t8, ji_in]; omega, ?_⟩⟩
      rw [tn, y2]
      exact sg_Ref_faultOfTurns_48 87 _ _ _ _ h _ ⟨fun _ => sg_Ref_faultOfTurns_59 87 _ _ _ _ _ h _ start, fun z => absurd n2 z⟩
    refine ev_Ref_faultOfTurns 87 (ji x) h Q ⟨fun z => absurd z n1, fun _ => ⟨m.1, 92, m.p9, by rw [m.t9], by rw [m.t9, ji_in]; omega, ?_⟩⟩
    rw [tn, y3, bi_0]
    refine ⟨fun z => sg_Ref_faultOfTurns_17 87 _ h _ ?_, fun z => ?_⟩
    · rw [z] at f33
      exact f33
    · have z1 : ptH B ((B.length : Int) - 1) = true := by cases e : ptH B ((B.length : Int) - 1); exact absurd e z; rfl
      rw [z1] at f33
      exact f33
