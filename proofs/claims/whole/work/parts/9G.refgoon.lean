/-! the reference: going on -/
/-- one waits still ahead of t -/
def wtP (kd : Int) (dp A : Int → Prop) (t : Int) : Prop := (kd = 0 ∧ ∃ s, A s ∧ s < t) ∨ (kd = 2 ∧ ∃ s, A s ∧ s < t ∧ ∀ u, s ≤ u → u < t → dp u)
def stP' (kd : Int) (dp A : Int → Prop) (t : Int) : Prop := (kd = 0 ∧ wtP kd dp A t) ∨ (kd = 2 ∧ wtP kd dp A t ∧ dp t)
theorem op_st {kd : Int} {dp A : Int → Prop} {t : Int} (hk : 0 ≤ kd ∧ kd ≤ 2) : opL kd dp A t ↔ A t ∨ stP' kd dp A t := by
  unfold opL stP' wtP
  obtain rfl | rfl | rfl : kd = 0 ∨ kd = 1 ∨ kd = 2 := by omega
  · rw [if_neg (by decide), if_pos rfl]
    constructor
    · rintro ⟨s, s1, s2⟩
      by_cases c : s = t
      · rw [c] at s1; exact Or.inl s1
      · exact Or.inr (Or.inl ⟨rfl, Or.inl ⟨rfl, s, s1, by omega⟩⟩)
    · rintro (h | ⟨-, ⟨-, s, s1, s2⟩ | ⟨h, -⟩⟩ | ⟨h, -⟩)
      · exact ⟨t, h, by omega⟩
      · exact ⟨s, s1, by omega⟩
      · exact absurd h (by decide)
      · exact absurd h (by decide)
  · rw [if_pos rfl]
    constructor
    · exact fun h => Or.inl h
    · rintro (h | ⟨h, -⟩ | ⟨h, -⟩)
      · exact h
      · exact absurd h (by decide)
      · exact absurd h (by decide)
  · rw [if_neg (by decide), if_neg (by decide)]
    constructor
    · rintro (h | ⟨s, s1, s2, s3⟩)
      · exact Or.inl h
      · by_cases c : s = t
        · rw [c] at s1; exact Or.inl s1
        · exact Or.inr (Or.inr ⟨rfl, Or.inr ⟨rfl, s, s1, by omega, fun u u1 u2 => s3 u u1 (by omega)⟩, s3 t (by omega) (by omega)⟩)
    · rintro (h | ⟨h, -⟩ | ⟨-, ⟨h, -⟩ | ⟨-, s, s1, s2, s3⟩, d⟩)
      · exact Or.inl h
      · exact absurd h (by decide)
      · exact absurd h (by decide)
      · refine Or.inr ⟨s, s1, by omega, fun u u1 u2 => ?_⟩
        by_cases c : u = t
        · rw [c]; exact d
        · exact s3 u u1 (by omega)
theorem wt_next {kd : Int} {dp A : Int → Prop} {t : Int} (hk : 0 ≤ kd ∧ kd ≤ 2) : wtP kd dp A (t + 1) ↔ (kd = 0 ∧ (wtP kd dp A t ∨ A t)) ∨ (kd = 2 ∧ (stP' kd dp A t ∨ A t) ∧ dp t) := by
  unfold stP'
  obtain rfl | rfl | rfl : kd = 0 ∨ kd = 1 ∨ kd = 2 := by omega
  · unfold wtP
    constructor
    · rintro (⟨-, s, s1, s2⟩ | ⟨h, -⟩)
      · by_cases c : s = t
        · rw [c] at s1; exact Or.inl ⟨rfl, Or.inr s1⟩
        · exact Or.inl ⟨rfl, Or.inl (Or.inl ⟨rfl, s, s1, by omega⟩)⟩
      · exact absurd h (by decide)
    · rintro (⟨-, (⟨-, s, s1, s2⟩ | ⟨h, -⟩) | h⟩ | ⟨h, -⟩)
      · exact Or.inl ⟨rfl, s, s1, by omega⟩
      · exact absurd h (by decide)
      · exact Or.inl ⟨rfl, t, h, by omega⟩
      · exact absurd h (by decide)
  · unfold wtP
    constructor
    · rintro (⟨h, -⟩ | ⟨h, -⟩)
      · exact absurd h (by decide)
      · exact absurd h (by decide)
    · rintro (⟨h, -⟩ | ⟨h, -⟩)
      · exact absurd h (by decide)
      · exact absurd h (by decide)
  · unfold wtP
    constructor
    · rintro (⟨h, -⟩ | ⟨-, s, s1, s2, s3⟩)
      · exact absurd h (by decide)
      · refine Or.inr ⟨rfl, ?_, s3 t (by omega) (by omega)⟩
        by_cases c : s = t
        · rw [c] at s1; exact Or.inr s1
        · exact Or.inl (Or.inr ⟨rfl, Or.inr ⟨rfl, s, s1, by omega, fun u u1 u2 => s3 u u1 (by omega)⟩, s3 t (by omega) (by omega)⟩)
    · rintro (⟨h, -⟩ | ⟨-, (⟨h, -⟩ | ⟨-, (⟨h, -⟩ | ⟨-, s, s1, s2, s3⟩), d⟩) | h, d⟩)
      · exact absurd h (by decide)
      · exact absurd h (by decide)
      · exact absurd h (by decide)
      · refine Or.inr ⟨rfl, s, s1, by omega, fun u u1 u2 => ?_⟩
        by_cases c : u = t
        · rw [c]; exact d
        · exact s3 u u1 (by omega)
      · refine Or.inr ⟨rfl, t, h, by omega, fun u u1 u2 => ?_⟩
        rw [show u = t by omega]
        exact d
/-- only one row of marks has changed -/
def mw (h h' : am_H) (b : Nat) : Prop := am_sz h' = am_sz h ∧ am_tg h' = am_tg h ∧ am_P h' = am_P h ∧ ∀ c, c ≠ b → am_I h' c = am_I h c
theorem mw.rf {h : am_H} {b : Nat} : mw h h b := ⟨rfl, rfl, rfl, fun _ _ => rfl⟩
theorem mw.tr {h h1 h2 : am_H} {b : Nat} (x : mw h h1 b) (y : mw h1 h2 b) : mw h h2 b := ⟨y.1.trans x.1, y.2.1.trans x.2.1, y.2.2.1.trans x.2.2.1, fun c hc => (y.2.2.2 c hc).trans (x.2.2.2 c hc)⟩
theorem mw.si {h : am_H} {b k : Nat} {v : Int32} : mw h (am_si h b k v) b := ⟨rfl, rfl, rfl, fun c hc => by rw [am_I_sin hc]⟩
theorem mw.rk {h h' : am_H} {b : Nat} (f : mw h h' b) (hb : 106 ≤ b ∧ b < 146) : rk h h' := ⟨f.1, f.2.1, f.2.2.1, fun c hc => f.2.2.2 c (by omega), fun k _ => by rw [f.2.2.2 87 (by omega)]⟩
theorem prA.mw {h h' : am_H} {b n : Nat} {W : Wy} {E : Int} (p : prA h n W E) (f : mw h h' b) (hb : 126 ≤ b ∧ b < 146) (hn : n ≤ 8) : prA h' n W E := by
  obtain ⟨p1, p2, p3, p4⟩ := p
  refine ⟨p1.rk (f.rk (by omega)), by rw [f.2.2.2 87 (by omega)]; exact p2, p3, fun i hi => ?_⟩
  obtain ⟨a1, a2, a3⟩ := p4 i hi
  refine ⟨fun u hu => ?_, fun u hu => ?_, a3⟩
  · rw [f.2.2.2 (108 + i) (by omega)]; exact a1 u hu
  · rw [f.2.2.2 (117 + i) (by omega)]; exact a2 u hu
theorem s_Ref_goOn {h : am_H} {r i n : Nat} {R : List RtStop} {W : Wy} {E way t0 : Int} {A : Int → Prop} {Q : am_H → Prop} (x : rrA h r R) (hr : r < 8) (hn : n ≤ 8) (p : prA h n W E) (hi : i < n) (hk : 0 ≤ W.2.1 i ∧ W.2.1 i ≤ 2) (ek : am_I h 103 (r * 8 + i) = ji (W.2.1 i)) (hw : 0 ≤ way ∧ way ≤ 60000) (ht0 : 0 ≤ t0 ∧ t0 ≤ 99999)
    (a0 : i = 0 → ∀ u, A u ↔ u = t0) (a1 : ∀ j, i = j + 1 → ∃ B : Int → Prop, mkR h (126 + j) E B ∧ (∀ u, B u → 0 ≤ u ∧ u < E) ∧ ∀ u, A u ↔ B (u - way))
    (K : ∀ h', mw h h' (126 + i) → mkR h' (126 + i) E (fun u => opL (W.2.1 i) (W.2.2.1 i) A u ∧ W.2.2.2 i u) → Q h') : am_Ew m_Ref_goOn 0 0 [.ref 87, .int (ji r), .int (ji i), .int (ji way), .int (ji t0)] h Q := by
  obtain ⟨m, i31, hE, mks⟩ := id p
  obtain ⟨mg, mf, bg, bd⟩ := mks i hi
  have Apos : ∀ u, A u → 0 ≤ u := by
    intro u hu
    by_cases c : i = 0
    · have := (a0 c u).mp hu
      omega
    · obtain ⟨B, -, b2, b3⟩ := a1 (i - 1) (by omega)
      have := b2 _ ((b3 u).mp hu)
      omega
  have eki : (ji (i : Int)).toNatClampNeg = i := by rw [ji_tn, Int.toNat_natCast]
  have k0 : (ji (W.2.1 i) = 0) ↔ W.2.1 i = 0 := by rw [jk0, ji_eq]
  have k2 : (ji (W.2.1 i) = 2) ↔ W.2.1 i = 2 := by rw [jk2, ji_eq]
  have loop : ∀ (n2 t : Nat) (h1 : am_H), (t : Int) + n2 = E → mw h h1 (126 + i) → (∀ u : Nat, u < t → am_I h1 (126 + i) u = cbi (opL (W.2.1 i) (W.2.2.1 i) A u ∧ W.2.2.2 i u)) → am_EI m_Ref_goOn 0 0 19 [.ref 87, .int (ji r), .int (ji i), .int (ji way), .int (ji t0), .int (ji (W.2.1 i)), .int (cbi (wtP (W.2.1 i) (W.2.2.1 i) A t)), .int (ji t), .float 0, .float 0] [] h1 (am_qw Q) := by
    intro n2
    induction n2 with
    | zero =>
      intro t h1 ht f1 inv
      have p1 := p.mw f1 (by omega) hn
      refine sg_Ref_goOn_19 87 _ _ _ _ _ _ _ h1 _ ⟨p1.1.1, ?_⟩
      rw [p1.2.1, ji_le]
      exact ⟨fun _ => K h1 f1 (fun u hu => inv u (by omega)), fun c => absurd (by omega) c⟩
    | succ n2 ih =>
      intro t h1 ht f1 inv
      have p1 := p.mw f1 (by omega) hn
      obtain ⟨m1, j31, -, mks1⟩ := id p1
      obtain ⟨mg1, mf1, -, -⟩ := mks1 i hi
      obtain ⟨⟨pr1, tr1⟩, ⟨pr2, tr2⟩, ⟨pr3, tr3⟩⟩ := m1.2.2 i (by omega)
      have ekt : (ji (t : Int)).toNatClampNeg = t := by rw [ji_tn, Int.toNat_natCast]
      have vt : vp_in (ji (t : Int)) 13500 := by rw [ji_in]; omega
      have vi : vp_in (ji (i : Int)) 8 := by rw [ji_in]; omega
      have fl := mf1 t (by omega)
      have gg := mg1 t (by omega)
      have dpt : (W.2.1 i = 2) → (flP W i t ↔ W.2.2.1 i t) := fun c => ⟨fun q => q.2, fun q => ⟨c, q⟩⟩
      -- the next turn
      have nxt : ∀ (v : Int32) (h2 : am_H) (x6 x8 x9 : Int32), mw h1 h2 (126 + i) → (∀ u : Nat, u < t + 1 → am_I h2 (126 + i) u = cbi (opL (W.2.1 i) (W.2.2.1 i) A u ∧ W.2.2.2 i u)) → v = cbi (wtP (W.2.1 i) (W.2.2.1 i) A ((t : Int) + 1)) → am_EI m_Ref_goOn 0 0 203 [.ref 87, .int (ji r), .int (ji i), .int (ji way), .int (ji t0), .int (ji (W.2.1 i)), .int x6, .int (ji t), .int x8, .int x9] [.int v] h2 (am_qw Q) := by
        intro v h2 x6 x8 x9 f2 inv2 hv
        refine sg_Ref_goOn_203 87 _ _ _ _ _ _ _ _ _ _ h2 _ ?_
        rw [hv, jk1, ji_add]
        exact ih (t + 1) h2 (by omega) (f1.tr f2) inv2
      -- after the mark
      have aft : ∀ (y : Int32), y = cbi (opL (W.2.1 i) (W.2.2.1 i) A t ∧ W.2.2.2 i t) → am_EI m_Ref_goOn 0 0 152 [.ref 87, .int (ji r), .int (ji i), .int (ji way), .int (ji t0), .int (ji (W.2.1 i)), .int (cbi (wtP (W.2.1 i) (W.2.2.1 i) A t)), .int (ji t), .int (cbi (A t)), .int (cbi (stP' (W.2.1 i) (W.2.2.1 i) A t))] [.int y, .int (ji t), .ref (126 + i)] h1 (am_qw Q) := by
        intro y hy
        have f2 : mw h1 (am_si h1 (126 + i) t y) (126 + i) := mw.si
        have inv2 : ∀ u : Nat, u < t + 1 → am_I (am_si h1 (126 + i) t y) (126 + i) u = cbi (opL (W.2.1 i) (W.2.2.1 i) A u ∧ W.2.2.2 i u) := fun u hu => by
          rw [am_I_sis]
          by_cases cu : u = t
          · subst cu
            rw [va_up_at]
            exact hy
          · rw [va_up_no _ _ cu]
            exact inv u (by omega)
        have p2 := p1.mw f2 (by omega) hn
        obtain ⟨m2, -, -, mks2⟩ := id p2
        have fl2 := (mks2 i hi).2.1 t (by omega)
        have wn := wt_next (dp := W.2.2.1 i) (A := A) (t := t) hk
        have q0 : ¬ wtP (W.2.1 i) (W.2.2.1 i) A ((t : Int) + 1) → am_EI m_Ref_goOn 0 0 203 [.ref 87, .int (ji r), .int (ji i), .int (ji way), .int (ji t0), .int (ji (W.2.1 i)), .int (cbi (wtP (W.2.1 i) (W.2.2.1 i) A t)), .int (ji t), .int (cbi (A t)), .int (cbi (stP' (W.2.1 i) (W.2.2.1 i) A t))] [.int 0] (am_si h1 (126 + i) t y) (am_qw Q) := fun c => nxt 0 _ _ _ _ f2 inv2 (cbi_0 c).symm
        have q1 : wtP (W.2.1 i) (W.2.2.1 i) A ((t : Int) + 1) → am_EI m_Ref_goOn 0 0 203 [.ref 87, .int (ji r), .int (ji i), .int (ji way), .int (ji t0), .int (ji (W.2.1 i)), .int (cbi (wtP (W.2.1 i) (W.2.2.1 i) A t)), .int (ji t), .int (cbi (A t)), .int (cbi (stP' (W.2.1 i) (W.2.2.1 i) A t))] [.int 1] (am_si h1 (126 + i) t y) (am_qw Q) := fun c => nxt 1 _ _ _ _ f2 inv2 (cbi_1 c).symm
        have l186 : (stP' (W.2.1 i) (W.2.2.1 i) A t ∨ A t) → W.2.1 i ≠ 0 → am_EI m_Ref_goOn 0 0 186 [.ref 87, .int (ji r), .int (ji i), .int (ji way), .int (ji t0), .int (ji (W.2.1 i)), .int (cbi (wtP (W.2.1 i) (W.2.2.1 i) A t)), .int (ji t), .int (cbi (A t)), .int (cbi (stP' (W.2.1 i) (W.2.2.1 i) A t))] [] (am_si h1 (126 + i) t y) (am_qw Q) := by
          intro hsa n0
          refine sg_Ref_goOn_186 87 _ _ _ _ _ _ _ _ _ _ _ ⟨m2.1, 116, m2.p35, by rw [m2.t35], by rw [m2.t35]; exact vi, 117 + i, by rw [eki]; exact (m2.2.2 i (by omega)).2.1.1, by rw [(m2.2.2 i (by omega)).2.1.2], by rw [(m2.2.2 i (by omega)).2.1.2]; exact vt, ?_⟩
          rw [ekt, fl2, cbi_z]
          refine ⟨fun c => sg_Ref_goOn_202 87 _ _ _ _ _ _ _ _ _ _ _ (q0 (fun z => ?_)), fun c => q1 (wn.mpr (Or.inr ?_))⟩
          · rcases wn.mp z with ⟨z1, -⟩ | ⟨z1, -, z3⟩
            · exact n0 z1
            · exact c ⟨z1, z3⟩
          · have c := Classical.byContradiction c
            exact ⟨c.1, hsa, c.2⟩
        refine sg_Ref_goOn_152 87 (126 + i) _ _ _ _ _ _ _ _ _ _ _ _ _ ⟨by rw [tr3], by rw [tr3]; exact vt, by rw [hy]; exact cbi_b, ?_⟩
        rw [ekt, k0, cbi_z, cbi_z, cbi_z]
        refine ⟨fun n0 => ⟨fun c => l186 (Or.inl (Classical.byContradiction c)) n0, fun c => ⟨fun c2 => sg_Ref_goOn_202 87 _ _ _ _ _ _ _ _ _ _ _ (q0 (fun z => ?_)), fun c2 => l186 (Or.inr (Classical.byContradiction c2)) n0⟩⟩, fun e0 => ⟨fun c => sg_Ref_goOn_168 87 _ _ _ _ _ _ _ _ _ _ _ (q1 (wn.mpr (Or.inl ⟨e0, Or.inl (Classical.byContradiction c)⟩))), fun c => ⟨fun c2 => q0 (fun z => ?_), fun c2 => sg_Ref_goOn_168 87 _ _ _ _ _ _ _ _ _ _ _ (q1 (wn.mpr (Or.inl ⟨e0, Or.inr (Classical.byContradiction c2)⟩)))⟩⟩⟩
        · rcases wn.mp z with ⟨z1, -⟩ | ⟨z1, z2, z3⟩
          · exact n0 z1
          · rcases z2 with z2 | z2
            · exact c z2
            · exact c2 z2
        · rcases wn.mp z with ⟨-, z2⟩ | ⟨z1, -⟩
          · rcases z2 with z2 | z2
            · exact c z2
            · exact c2 z2
          · omega
      -- with still known
      have l115 : ∀ (y0 : Int32), y0 = cbi (stP' (W.2.1 i) (W.2.2.1 i) A t) → am_EI m_Ref_goOn 0 0 115 [.ref 87, .int (ji r), .int (ji i), .int (ji way), .int (ji t0), .int (ji (W.2.1 i)), .int (cbi (wtP (W.2.1 i) (W.2.2.1 i) A t)), .int (ji t), .int (cbi (A t)), .float 0] [.int y0] h1 (am_qw Q) := by
        intro y0 hy0
        have os := op_st (dp := W.2.2.1 i) (A := A) (t := t) hk
        refine sg_Ref_goOn_115 87 _ _ _ _ _ _ _ _ _ h1 _ ⟨m1.1, 125, m1.p36, by rw [m1.t36], by rw [m1.t36]; exact vi, 126 + i, by rw [eki]; exact pr3, 107, m1.p34, by rw [m1.t34], by rw [m1.t34]; exact vi, 108 + i, by rw [eki]; exact pr1, by rw [tr1], by rw [tr1]; exact vt, ?_⟩
        rw [ekt, gg, hy0, cbi_z, cbi_z, cbi_z]
        refine ⟨fun c => sg_Ref_goOn_151 87 _ _ _ _ _ _ _ _ _ _ _ h1 _ (aft 0 (cbi_0 (fun z => c z.2)).symm), fun c => ⟨fun c2 => sg_Ref_goOn_147 87 _ _ _ _ _ _ _ _ _ _ _ h1 _ (aft 1 (cbi_1 ⟨os.mpr (Or.inl (Classical.byContradiction c2)), Classical.byContradiction c⟩).symm), fun c2 => ⟨fun c3 => sg_Ref_goOn_151 87 _ _ _ _ _ _ _ _ _ _ _ h1 _ (aft 0 (cbi_0 (fun z => ?_)).symm), fun c3 => sg_Ref_goOn_147 87 _ _ _ _ _ _ _ _ _ _ _ h1 _ (aft 1 (cbi_1 ⟨os.mpr (Or.inr (Classical.byContradiction c3)), Classical.byContradiction c⟩).symm)⟩⟩⟩
        rcases os.mp z.1 with z | z
        · exact c2 z
        · exact c3 z
      -- with arrives known
      have l75 : ∀ (y0 : Int32), y0 = cbi (A t) → am_EI m_Ref_goOn 0 0 75 [.ref 87, .int (ji r), .int (ji i), .int (ji way), .int (ji t0), .int (ji (W.2.1 i)), .int (cbi (wtP (W.2.1 i) (W.2.2.1 i) A t)), .int (ji t), .float 0, .float 0] [.int y0] h1 (am_qw Q) := by
        intro y0 hy0
        have no : ¬ stP' (W.2.1 i) (W.2.2.1 i) A t → am_EI m_Ref_goOn 0 0 114 [.ref 87, .int (ji r), .int (ji i), .int (ji way), .int (ji t0), .int (ji (W.2.1 i)), .int (cbi (wtP (W.2.1 i) (W.2.2.1 i) A t)), .int (ji t), .int (cbi (A t)), .float 0] [] h1 (am_qw Q) := fun c => sg_Ref_goOn_114 87 _ _ _ _ _ _ _ _ h1 _ (l115 0 (cbi_0 c).symm)
        refine sg_Ref_goOn_75 87 _ _ _ _ _ _ _ _ h1 _ ?_
        rw [k0, k2, cbi_z, hy0]
        refine ⟨fun n0 => ⟨fun n2 => no ?_, fun e2 => ⟨fun c => no ?_, fun c => ⟨m1.1, 116, m1.p35, by rw [m1.t35], by rw [m1.t35]; exact vi, 117 + i, by rw [eki]; exact pr2, by rw [tr2], by rw [tr2]; exact vt, ?_⟩⟩⟩, fun e0 => l115 _ (cbi_cg ⟨fun z => Or.inl ⟨e0, z⟩, fun z => ?_⟩)⟩
        · rintro (⟨z, -⟩ | ⟨z, -⟩)
          · exact n0 z
          · exact n2 z
        · rintro (⟨z, -⟩ | ⟨-, z, -⟩)
          · exact n0 z
          · exact c z
        · rw [ekt, fl, cbi_z]
          refine ⟨fun c2 => no ?_, fun c2 => l115 1 (cbi_1 (Or.inr ⟨e2, Classical.byContradiction c, (Classical.byContradiction c2).2⟩)).symm⟩
          rintro (⟨z, -⟩ | ⟨-, -, z⟩)
          · exact n0 z
          · exact c2 ⟨e2, z⟩
        · rcases z with ⟨-, z⟩ | ⟨z, -⟩
          · exact z
          · omega
      refine sg_Ref_goOn_19 87 _ _ _ _ _ _ _ h1 _ ⟨m1.1, ?_⟩
      rw [j31, ji_le, show ((ji (i : Int) = 0) ↔ (ji (i : Int) = ji 0)) from Iff.rfl, ji_eq]
      refine ⟨fun c => absurd c (by omega), fun _ => ⟨fun ci => ?_, fun ci => ?_⟩⟩
      · obtain ⟨B, b1, b2, b3⟩ := a1 (i - 1) (by omega)
        obtain ⟨-, -, ⟨pr4, tr4⟩⟩ := m1.2.2 (i - 1) (by omega)
        have e1 : ji (i : Int) - 1 = ji ((i - 1 : Nat) : Int) := by rw [jk1, ji_sub, show (i : Int) - 1 = ((i - 1 : Nat) : Int) by omega]
        rw [e1, ji_sub, show ((ji ((t : Int) - way) < 0) ↔ (ji ((t : Int) - way) < ji 0)) from Iff.rfl, ji_lt]
        refine ⟨fun c => sg_Ref_goOn_74 87 _ _ _ _ _ _ _ h1 _ (l75 0 (cbi_0 (fun z => ?_)).symm), fun c => ⟨125, m1.p36, by rw [m1.t36], by rw [m1.t36, ji_in]; omega, 126 + (i - 1), by rw [ji_tn, Int.toNat_natCast]; exact pr4, by rw [tr4], by rw [tr4, ji_in]; omega, ?_⟩⟩
        · have := b2 _ ((b3 _).mp z)
          omega
        · have ekw : (ji ((t : Int) - way)).toNatClampNeg = ((t : Int) - way).toNat := ji_tn
          have mk := b1 ((t : Int) - way).toNat (by omega)
          rw [ekw, f1.2.2.2 (126 + (i - 1)) (by omega), mk, show ((((t : Int) - way).toNat : Nat) : Int) = (t : Int) - way by omega, cbi_z]
          exact ⟨fun c2 => sg_Ref_goOn_74 87 _ _ _ _ _ _ _ h1 _ (l75 0 (cbi_0 (fun z => c2 ((b3 _).mp z))).symm), fun c2 => l75 1 (cbi_1 ((b3 _).mpr (Classical.byContradiction c2))).symm⟩
      · rw [ji_eq]
        exact ⟨fun c => l75 0 (cbi_0 (fun z => c ((a0 (by omega) _).mp z))).symm, fun c => l75 1 (cbi_1 ((a0 (by omega) _).mpr c)).symm⟩
  refine ev_Ref_goOn 87 (ji r) (ji i) (ji way) (ji t0) h Q ⟨m.1, 103, m.p23, by rw [m.t23], by rw [m.t23, jk8, ji_mul, ji_add, ji_in]; omega, ?_⟩
  have ekx : (ji (r : Int) * 8 + ji (i : Int)).toNatClampNeg = r * 8 + i := by
    rw [jk8, ji_mul, ji_add, ji_tn]
    omega
  rw [ekx, ek]
  have z0 : (0 : Int32) = cbi (wtP (W.2.1 i) (W.2.2.1 i) A ((0 : Nat) : Int)) := by
    refine (cbi_0 ?_).symm
    rintro (⟨-, s, s1, s2⟩ | ⟨-, s, s1, s2, -⟩)
    · have := Apos s s1
      omega
    · have := Apos s s1
      omega
  have := loop E.toNat 0 h (by omega) mw.rf (fun u hu => absurd hu (by omega))
  rw [← z0] at this
  exact this
