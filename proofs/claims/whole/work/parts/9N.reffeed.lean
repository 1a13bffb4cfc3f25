/-! the reference: bytes are fed; a ship -/
theorem sh_go (x : BitVec 32) (s : Nat) (hs : s ≤ 24) : x.sshiftRight s &&& 255#32 = ((x >>> s).setWidth 8).setWidth 32 := by
  apply BitVec.eq_of_getLsbD_eq
  intro i hi
  have m : (255#32).getLsbD i = decide (i < 8) := by
    have : ∀ i : Fin 32, (255#32).getLsbD i.1 = decide (i.1 < 8) := by decide
    exact this ⟨i, hi⟩
  rw [BitVec.getLsbD_and, m, BitVec.getLsbD_sshiftRight, BitVec.getLsbD_setWidth, BitVec.getLsbD_setWidth, BitVec.getLsbD_ushiftRight]
  by_cases c : i < 8
  · simp [c, show ¬ 32 ≤ i by omega, show s + i < 32 by omega, hi]
  · simp [c]
theorem sh_v (x : Int32) (s : Nat) : (ji (bv x s)).toBitVec = ((x.toBitVec >>> s).setWidth 8).setWidth 32 := by
  unfold bv
  generalize (x.toBitVec >>> s).setWidth 8 = y
  show BitVec.ofInt 32 (y.toNat : Int) = _
  rw [BitVec.ofInt_natCast]
  apply BitVec.eq_of_toNat_eq
  rw [BitVec.toNat_ofNat, BitVec.toNat_setWidth]
theorem sh_b (x : Int32) {i : Nat} (hi : i < 20) : (x >>> ((24 - (8 * (ji (i : Int) % 4))) &&& 31)) &&& 255 = ji (bv x (24 - 8 * (i % 4))) := by
  have e : ∀ i : Fin 20, ((24 : Int32) - (8 * (ji (i.1 : Int) % 4))) &&& 31 = ji ((24 - 8 * (i.1 % 4) : Nat) : Int) := by decide +kernel
  rw [e ⟨i, hi⟩]
  have go : ∀ s : Nat, s ≤ 24 → ((ji (s : Int)).toBitVec.smod 32).toNat = s → (x >>> ji (s : Int)) &&& 255 = ji (bv x s) := by
    intro s hs q
    apply Int32.toBitVec_inj.mp
    rw [Int32.toBitVec_and, Int32.toBitVec_shiftRight, sh_v, ← sh_go _ _ hs]
    show x.toBitVec.sshiftRight ((ji (s : Int)).toBitVec.smod 32).toNat &&& 255#32 = _
    rw [q]
  refine go _ (by omega) ?_
  have c : ∀ s : Fin 25, ((ji ((s.1 : Nat) : Int)).toBitVec.smod 32).toNat = s.1 := by decide +kernel
  exact c ⟨24 - 8 * (i % 4), by omega⟩
theorem rfA.more {h : am_H} {s : St} {b : Int} (m : rfA h s) (hb : 0 ≤ b ∧ b < 256) (hl : s.1.length < 120) : rfA (am_si (am_si h 88 s.1.length (ji b)) 87 1 (ji (s.1.length + 1))) (stT s (s.1 ++ [b])) := by
  have n : ∀ k, k ≠ 1 → am_I (am_si (am_si h 88 s.1.length (ji b)) 87 1 (ji (s.1.length + 1))) 87 k = am_I h 87 k := fun k hk => by rw [am_I_sis, va_up_no _ _ hk, am_I_sin (by omega)]
  have r : ∀ c, c ≠ 87 → c ≠ 88 → am_I (am_si (am_si h 88 s.1.length (ji b)) 87 1 (ji (s.1.length + 1))) c = am_I h c := fun c h1 h2 => by rw [am_I_sin h1, am_I_sin h2]
  refine m.set rfl rfl (fun b hb => r b (by omega) (by omega)) (fun k hk => n k (by omega)) ⟨?_, ?_, fun i c hc => ?_⟩ ?_ ?_ ?_
  · rw [am_I_sis, va_up_at, List.length_append]
    rfl
  · rw [List.length_append]
    show s.1.length + 1 ≤ 120
    omega
  · rw [am_I_sin (by omega), am_I_sis]
    rcases Nat.lt_or_ge i s.1.length with q | q
    · rw [List.getElem?_append_left q] at hc
      rw [va_up_no _ _ (by omega)]
      exact m.2.1.2.2 i c hc
    · have hi := (List.getElem?_eq_some_iff.mp hc).1
      rw [List.length_append] at hi
      have hi : i < s.1.length + 1 := hi
      have e : i = s.1.length := by omega
      subst e
      rw [List.getElem?_append_right (Nat.le_refl _), Nat.sub_self] at hc
      cases hc
      rw [va_up_at]
      exact ⟨rfl, hb⟩
  · rw [n 2 (by omega)]
    exact m.2.2.2.2.2.2.1
  · rw [n 3 (by omega)]
    exact m.2.2.2.2.2.2.2.1
  · rw [n 4 (by omega)]
    exact m.2.2.2.2.2.2.2.2
theorem rf_feed {h : am_H} {s : St} {a b c d e : Int32} {Q : Int32 → am_H → Prop} (m : rfA h s) (k : ∀ h', fi h h' 87 146 → rfA h' (p_feed s a b c d e).2 → Q (ji (p_feed s a b c d e).1) h') : am_Ei m_Ref_feed 0 0 [.ref 87, .int a, .int b, .int c, .int d, .int e] h Q := by
  have tl := m.2.1.2.1
  have fr0 : fi h h 87 146 := ⟨rfl, rfl, rfl, fun _ _ => rfl⟩
  refine ev_Ref_feed 87 a b c d e h Q ⟨m.1.1, ?_⟩
  rw [m.2.1.1, jk20, ji_add, jk120, ji_le]
  refine ⟨fun hl => ?_, fun hl => ?_⟩
  rotate_left
  · rw [jk9]
    exact rf_no (X := p_feed s a b c d e) (cif_neg hl) m fr0 k
  obtain ⟨B, hB⟩ : ∃ B, B = b4 a ++ b4 b ++ b4 c ++ b4 d ++ b4 e := ⟨_, rfl⟩
  have bl : B.length = 20 := by rw [hB]; rfl
  have ef : p_feed s a b c d e = ans (stT s (s.1 ++ B)) ((s.1.length : Int) + 20) := by
    rw [hB]
    unfold p_feed ans
    rw [cif_pos hl]
    simp only [List.append_assoc]
  have loop : ∀ (n i : Nat) (h1 : am_H), i + n = 20 → rfA h1 (stT s (s.1 ++ B.take i)) → fi h h1 87 146 → am_EI m_Ref_feed 0 0 22 [.ref 87, .int a, .int b, .int c, .int d, .int e, .int (ji i), .float 0] [] h1 (am_qi Q) := by
    intro n
    induction n with
    | zero =>
      intro i h1 hi m1 f1
      obtain rfl : i = 20 := by omega
      rw [List.take_of_length_le (by omega)] at m1
      refine sg_Ref_feed_22 87 a b c d e _ h1 _ ⟨fun _ => ⟨m1.1.1, ?_⟩, fun q => absurd (by decide) q⟩
      rw [m1.2.1.1]
      have el : (((stT s (s.1 ++ B)).1.length : Nat) : Int) = (s.1.length : Int) + 20 := by
        show ((s.1 ++ B).length : Int) = _
        rw [List.length_append, bl]
        rfl
      rw [el]
      exact rf_an (X := p_feed s a b c d e) ef m1 f1 k
    | succ n ih =>
      intro i h1 hi m1 f1
      have len : (stT s (s.1 ++ B.take i)).1.length = s.1.length + i := by
        show (s.1 ++ B.take i).length = _
        rw [List.length_append, List.length_take]
        omega
      have i1 := m1.2.1.1
      rw [len] at i1
      have push : ∀ (x : Int32), B[i]? = some (bv x (24 - 8 * (i % 4))) → am_tg h1 87 = (12, 56) ∧ ∃ b9, am_P h1 87 0 = some b9 ∧ (am_tg h1 b9).1 = 20 ∧ vp_in (am_I h1 87 1) (am_tg h1 b9).2 ∧ am_EI m_Ref_feed 0 0 22 [.ref 87, .int a, .int b, .int c, .int d, .int e, .int (ji i + 1), .float 0] [] (am_si (am_si h1 b9 ((am_I h1 87 1).toNatClampNeg) ((x >>> ((24 - (8 * (ji i % 4))) &&& 31)) &&& 255)) 87 1 ((am_I (am_si h1 b9 ((am_I h1 87 1).toNatClampNeg) ((x >>> ((24 - (8 * (ji i % 4))) &&& 31)) &&& 255)) 87 1) + 1)) (am_qi Q) := by
        intro x hx
        refine ⟨m1.1.1, 88, m1.1.p0, by rw [m1.1.t0], by rw [m1.1.t0, i1, ji_in]; omega, ?_⟩
        rw [am_I_sin (by omega), i1, sh_b x (by omega), ji_tn, Int.toNat_natCast, jk1, ji_add, ji_add]
        have m2 := m1.more (bv_bd x (24 - 8 * (i % 4))) (by omega)
        rw [len] at m2
        refine ih (i + 1) _ (by omega) ?_ ((f1.tr (fi.si (by omega) (by omega))).tr (fi.si (by omega) (by omega)))
        rw [take_snoc hx, ← List.append_assoc]
        exact m2
      have h4 : ((4 : Int32) ≤ ji i) ↔ (4 : Int) ≤ i := by rw [jk4, ji_le]
      have h8 : ((8 : Int32) ≤ ji i) ↔ (8 : Int) ≤ i := by rw [jk8, ji_le]
      have h12 : ((12 : Int32) ≤ ji i) ↔ (12 : Int) ≤ i := by rw [jk12, ji_le]
      have h16 : ((16 : Int32) ≤ ji i) ↔ (16 : Int) ≤ i := by rw [jk16, ji_le]
      have h20 : ((20 : Int32) ≤ ji i) ↔ (20 : Int) ≤ i := by rw [jk20, ji_le]
      refine sg_Ref_feed_22 87 a b c d e _ h1 _ ?_
      rw [h4, h8, h12, h16, h20]
      refine ⟨fun q => absurd q (by omega), fun _ => ⟨fun q4 => ⟨fun q8 => ⟨fun q12 => ⟨fun q16 => push e ?_, fun q16 => push d ?_⟩, fun q12 => push c ?_⟩, fun q8 => push b ?_⟩, fun q4 => push a ?_⟩⟩
      · rw [hB]
        obtain rfl | rfl | rfl | rfl : i = 16 ∨ i = 17 ∨ i = 18 ∨ i = 19 := by omega
        all_goals rfl
      · rw [hB]
        obtain rfl | rfl | rfl | rfl : i = 12 ∨ i = 13 ∨ i = 14 ∨ i = 15 := by omega
        all_goals rfl
      · rw [hB]
        obtain rfl | rfl | rfl | rfl : i = 8 ∨ i = 9 ∨ i = 10 ∨ i = 11 := by omega
        all_goals rfl
      · rw [hB]
        obtain rfl | rfl | rfl | rfl : i = 4 ∨ i = 5 ∨ i = 6 ∨ i = 7 := by omega
        all_goals rfl
      · rw [hB]
        obtain rfl | rfl | rfl | rfl : i = 0 ∨ i = 1 ∨ i = 2 ∨ i = 3 := by omega
        all_goals rfl
  exact loop 20 0 h (by omega) (by rw [List.take_zero, List.append_nil]; exact m) fr0
