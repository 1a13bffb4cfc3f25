/-! the reference: what it writes -/
def ww (h h' : am_H) : Prop := am_sz h' = am_sz h ∧ am_tg h' = am_tg h ∧ am_P h' = am_P h ∧ (∀ b, b ≠ 87 → b ≠ 135 → am_I h' b = am_I h b) ∧ ∀ k, k ≠ 39 → am_I h' 87 k = am_I h 87 k
theorem ww.rf {h : am_H} : ww h h := ⟨rfl, rfl, rfl, fun _ _ _ => rfl, fun _ _ => rfl⟩
theorem ww.tr {h h1 h2 : am_H} (x : ww h h1) (y : ww h1 h2) : ww h h2 := by
  obtain ⟨a1, a2, a3, a4, a5⟩ := x
  obtain ⟨b1, b2, b3, b4, b5⟩ := y
  exact ⟨b1.trans a1, b2.trans a2, b3.trans a3, fun b p q => (b4 b p q).trans (a4 b p q), fun k hk => (b5 k hk).trans (a5 k hk)⟩
theorem ww.rk {h h' : am_H} (f : ww h h') : rk h h' := ⟨f.1, f.2.1, f.2.2.1, fun b hb => f.2.2.2.1 b (by omega) (by omega), fun k hk => f.2.2.2.2 k (by omega)⟩
def wrA (h : am_H) (l : List Int) : Prop := rfF h ∧ am_I h 87 39 = ji l.length ∧ l.length ≤ 4000 ∧ ∀ (i : Nat) (c : Int), l[i]? = some c → am_I h 135 i = ji c
theorem wr_clr {h : am_H} (m : rfF h) : wrA (am_si h 87 39 0) [] ∧ ww h (am_si h 87 39 0) := by
  refine ⟨⟨m, by rw [am_I_sis, va_up_at]; rfl, by simp, fun i c hc => by simp at hc⟩, rfl, rfl, rfl, fun b p q => by rw [am_I_sin p], fun k hk => by rw [am_I_sis, va_up_no _ _ hk]⟩
theorem s_Ref_write {h : am_H} {l : List Int} {c : Int} {Q : am_H → Prop} (w : wrA h l) (hl : l.length < 4000) (k : ∀ h', ww h h' → wrA h' (l ++ [c]) → Q h') : am_Ew m_Ref_write 0 0 [.ref 87, .int (ji c)] h Q := by
  obtain ⟨m, w2, w3, w4⟩ := id w
  refine ev_Ref_write 87 (ji c) h Q ⟨m.1, 135, m.p38, by rw [m.t38], by rw [m.t38, w2, ji_in]; omega, ?_⟩
  rw [am_I_sin (by omega), w2, ji_tn, Int.toNat_natCast, jk1, ji_add]
  refine k _ ⟨rfl, rfl, rfl, fun b p q => by rw [am_I_sin p, am_I_sin q], fun j hj => by rw [am_I_sis, va_up_no _ _ hj, am_I_sin (by omega)]⟩ ⟨m, ?_, by simp; omega, fun i c' hc' => ?_⟩
  · rw [am_I_sis, va_up_at]
    simp
  · rw [am_I_sin (by omega), am_I_sis]
    rcases get_snoc hc' with y | ⟨rfl, rfl⟩
    · rw [va_up_no _ _ (by have := (List.getElem?_eq_some_iff.mp y).1; omega)]
      exact w4 i c' y
    · rw [va_up_at]
theorem s_Ref_writeWord {h : am_H} {j : Nat} {l : List Int} {Q : am_H → Prop} (w : wrA h l) (hj : j < 30) (hl : l.length + 10 ≤ 4000) (k : ∀ h', ww h h' → wrA h' (l ++ wb j) → Q h') : am_Ew m_Ref_writeWord 0 0 [.ref 87, .retAddr j] h Q := by
  have w10 := wb_len' hj
  have loop : ∀ (n i : Nat) (h1 : am_H), i + n = (wb j).length → ww h h1 → wrA h1 (l ++ (wb j).take i) → am_EI m_Ref_writeWord 0 0 2 [.ref 87, .retAddr j, .int (ji i)] [] h1 (am_qw Q) := by
    intro n
    induction n with
    | zero =>
      intro i h1 hi hf s1
      refine sg_Ref_writeWord_2 87 j (ji i) h1 _ ⟨isC_of hj, hj, s_Str_length hj ?_⟩
      rw [ji_le]
      rw [List.take_of_length_le (by omega)] at s1
      exact ⟨fun _ => k h1 hf s1, fun cc => absurd (by omega) cc⟩
    | succ n ih =>
      intro i h1 hi hf s1
      obtain ⟨c, hc⟩ : ∃ c, (wb j)[i]? = some c := ⟨_, List.getElem?_eq_getElem (by omega)⟩
      refine sg_Ref_writeWord_2 87 j (ji i) h1 _ ⟨isC_of hj, hj, s_Str_length hj ?_⟩
      rw [ji_le]
      refine ⟨fun cc => absurd cc (by omega), fun _ => ⟨isC_of hj, hj, s_Str_charAt hj hc ⟨s1.1.1, ?_⟩⟩⟩
      refine s_Ref_write s1 (by rw [List.length_append, List.length_take]; omega) (fun h2 f2 s2 => ?_)
      rw [List.append_assoc, ← take_snoc hc] at s2
      rw [jk1, ji_add]
      exact ih (i + 1) h2 (by omega) (hf.tr f2) s2
  refine ev_Ref_writeWord 87 j h Q (Or.inl (isC_of hj)) ?_
  rw [jk0]
  exact loop (wb j).length 0 h (by omega) ww.rf (by simpa using w)
/-- the digits from a unit on -/
def wD : Nat → Int → List Int
  | 0, v => [48 + v / 1 % 10]
  | n + 1, v => (48 + v / (10 ^ (n + 1)) % 10) :: wD n v
theorem wD_nm {v : Int} (hv : 0 ≤ v ∧ v ≤ 9999) : dgU 1000 v ++ dgU 100 v ++ dgU 10 v ++ dgU 1 v = wD (if v < 10 then 0 else if v < 100 then 1 else if v < 1000 then 2 else 3) v := by
  unfold dgU
  by_cases c1 : v < 10
  · rw [if_pos c1, if_neg (by omega), if_neg (by omega), if_neg (by omega), if_pos (Or.inr rfl)]
    rfl
  · rw [if_neg c1]
    by_cases c2 : v < 100
    · rw [if_pos c2, if_neg (by omega), if_neg (by omega), if_pos (by omega), if_pos (Or.inr rfl)]
      rfl
    · rw [if_neg c2]
      by_cases c3 : v < 1000
      · rw [if_pos c3, if_neg (by omega), if_pos (by omega), if_pos (by omega), if_pos (Or.inr rfl)]
        rfl
      · rw [if_neg c3, if_pos (by omega), if_pos (by omega), if_pos (by omega), if_pos (Or.inr rfl)]
        rfl
theorem s_Ref_writeNumber {h : am_H} {l : List Int} {n : Int} {Q : am_H → Prop} (w : wrA h l) (hl : l.length + 5 ≤ 4000) (hn : -9999 ≤ n ∧ n ≤ 9999) (k : ∀ h', ww h h' → wrA h' (l ++ nmT n) → Q h') : am_Ew m_Ref_writeNumber 0 0 [.ref 87, .int (ji n)] h Q := by
  have hb : 0 ≤ ab n ∧ ab n ≤ 9999 := by unfold ab; split <;> omega
  have dwn : ∀ (e : Nat) (h1 : am_H) (l1 : List Int), e ≤ 3 → wrA h1 l1 → (∀ h2, ww h1 h2 → wrA h2 (l1 ++ wD e (ab n)) → am_qw Q none h2) → l1.length + e + 1 ≤ 4000 → am_EI m_Ref_writeNumber 0 0 33 [.ref 87, .int (ji n), .int (ji (ab n)), .int (ji (10 ^ e))] [] h1 (am_qw Q) := by
    intro e
    induction e with
    | zero =>
      intro h1 l1 he w1 kk hl2
      refine sg_Ref_writeNumber_33 87 _ _ _ h1 _ ?_
      rw [show ((10 : Int) ^ 0) = 1 from rfl, jk0, jk48, jk10, ji_le, ji_eq, ji_div, ji_mod, ji_add, ji_div]
      refine ⟨fun c => absurd c (by omega), fun _ => ⟨by omega, w1.1.1, s_Ref_write w1 (by omega) (fun h2 f2 w2 => ?_)⟩⟩
      refine sg_Ref_writeNumber_33 87 _ _ _ h2 _ ?_
      rw [show ((1 : Int) / 10) = 0 from rfl, jk0, ji_le]
      exact ⟨fun _ => kk h2 f2 w2, fun c => absurd (by omega) c⟩
    | succ e ih =>
      intro h1 l1 he w1 kk hl2
      have pe : (1 : Int) ≤ 10 ^ e ∧ (10 : Int) ^ e ≤ 100 := by
        obtain rfl | rfl | rfl : e = 0 ∨ e = 1 ∨ e = 2 := by omega
        all_goals decide
      have ps : (10 : Int) ^ (e + 1) = 10 ^ e * 10 := Int.pow_succ 10 e
      have dv : 0 ≤ ab n / 10 ^ (e + 1) ∧ ab n / 10 ^ (e + 1) ≤ 9999 := by
        refine ⟨Int.ediv_nonneg hb.1 (by omega), ?_⟩
        have := Int.ediv_le_self (10 ^ (e + 1)) hb.1
        omega
      have pd : (10 : Int) ^ (e + 1) / 10 = 10 ^ e := by
        rw [ps]
        exact Int.mul_ediv_cancel _ (by decide)
      refine sg_Ref_writeNumber_33 87 _ _ _ h1 _ ?_
      rw [jk0, jk48, jk10, ji_le, ji_eq, ji_div, ji_mod, ji_add, ji_div, pd]
      refine ⟨fun c => absurd c (by omega), fun _ => ⟨by omega, w1.1.1, s_Ref_write w1 (by omega) (fun h2 f2 w2 => ?_)⟩⟩
      refine ih h2 _ (by omega) w2 (fun h3 f3 w3 => kk h3 (f2.tr f3) ?_) (by simp; omega)
      rw [List.append_assoc] at w3
      exact w3
  have up : ∀ (h1 : am_H) (l1 : List Int), ww h h1 → wrA h1 l1 → l1.length + 4 ≤ 4000 → l1 = l ++ (if n < 0 then [45] else []) → am_EI m_Ref_writeNumber 0 0 17 [.ref 87, .int (ji n), .int (ji (ab n)), .int (ji 1)] [] h1 (am_qw Q) := by
    intro h1 l1 f1 w1 hl1 e1
    have fin : ∀ e, e = (if ab n < 10 then 0 else if ab n < 100 then 1 else if ab n < 1000 then 2 else 3) → am_EI m_Ref_writeNumber 0 0 33 [.ref 87, .int (ji n), .int (ji (ab n)), .int (ji (10 ^ e))] [] h1 (am_qw Q) := by
      intro e he
      have he3 : e ≤ 3 := by rw [he]; split; omega; split; omega; split <;> omega
      refine dwn e h1 l1 he3 w1 (fun h2 f2 w2 => k h2 (f1.tr f2) ?_) (by omega)
      rw [he, ← wD_nm hb, e1] at w2
      unfold nmT
      simp only [List.append_assoc] at w2 ⊢
      exact w2
    refine sg_Ref_writeNumber_17 87 _ _ _ h1 _ ?_
    rw [jk0, jk9, jk10, ji_eq, ji_div, ji_le, ji_mul]
    refine ⟨by omega, fun c => fin 0 (by rw [if_pos (by omega)]), fun c => ?_⟩
    refine sg_Ref_writeNumber_17 87 _ _ _ h1 _ ?_
    rw [jk0, jk9, jk10, ji_eq, ji_div, ji_le, ji_mul]
    refine ⟨by omega, fun c => fin 1 (by rw [if_neg (by omega), if_pos (by omega)]), fun c => ?_⟩
    refine sg_Ref_writeNumber_17 87 _ _ _ h1 _ ?_
    rw [jk0, jk9, jk10, ji_eq, ji_div, ji_le, ji_mul]
    refine ⟨by omega, fun c => fin 2 (by rw [if_neg (by omega), if_neg (by omega), if_pos (by omega)]), fun c => ?_⟩
    refine sg_Ref_writeNumber_17 87 _ _ _ h1 _ ?_
    rw [jk0, jk9, jk10, ji_eq, ji_div, ji_le, ji_mul]
    exact ⟨by omega, fun c => fin 3 (by rw [if_neg (by omega), if_neg (by omega), if_neg (by omega)]), fun c => absurd (by omega) c⟩
  have ea : ab n = if n < 0 then -n else n := rfl
  refine ev_Ref_writeNumber 87 (ji n) h Q ?_
  rw [jk0, jk1, jk45, ji_le, ji_neg]
  refine ⟨fun c => ?_, fun c => ⟨w.1.1, s_Ref_write w (by omega) (fun h1 f1 w1 => ?_)⟩⟩
  · have := up h l ww.rf w (by omega) (by rw [if_neg (by omega)]; simp)
    rw [ea, if_neg (by omega)] at this
    exact this
  · have := up h1 _ f1 w1 (by simp; omega) (by rw [if_pos (by omega)])
    rw [ea, if_pos (by omega)] at this
    exact this
theorem s_Ref_writeTime {h : am_H} {l : List Int} {t : Int} {Q : am_H → Prop} (w : wrA h l) (hl : l.length + 4 ≤ 4000) (ht : 0 ≤ t ∧ t ≤ 1000000) (k : ∀ h', ww h h' → wrA h' (l ++ tmT t) → Q h') : am_Ew m_Ref_writeTime 0 0 [.ref 87, .int (ji t)] h Q := by
  refine ev_Ref_writeTime 87 (ji t) h Q ⟨w.1.1, ?_⟩
  rw [jk60, jk24, jk10, jk48, ji_div, ji_mod, ji_mod, ji_div, ji_mod, ji_div, ji_mod, ji_add, ji_add, ji_add, ji_add]
  refine s_Ref_write w (by omega) (fun h1 f1 s1 => ⟨s1.1.1, s_Ref_write s1 (by simp; omega) (fun h2 f2 s2 => ⟨s2.1.1, s_Ref_write s2 (by simp; omega) (fun h3 f3 s3 => ⟨s3.1.1, s_Ref_write s3 (by simp; omega) (fun h4 f4 s4 => ?_)⟩)⟩)⟩)
  refine k h4 (((f1.tr f2).tr f3).tr f4) ?_
  simp only [List.append_assoc, List.singleton_append] at s4
  exact s4
theorem s_Ref_writeMinute {h : am_H} {l : List Int} {t : Int} {Q : am_H → Prop} (w : wrA h l) (hl : l.length + 10 ≤ 4000) (ht : 0 ≤ t ∧ t ≤ 1000000) (k : ∀ h', ww h h' → wrA h' (l ++ dtT t) → Q h') : am_Ew m_Ref_writeMinute 0 0 [.ref 87, .int (ji t)] h Q := by
  refine ev_Ref_writeMinute 87 (ji t) h Q ⟨w.1.1, s_Ref_writeTime w (by omega) ht (fun h1 f1 s1 => ?_)⟩
  have l1 : (l ++ tmT t).length = l.length + 4 := by simp [tmT]
  rw [jk1440, jk43, ji_le, ji_div]
  unfold dtT at k
  refine ⟨fun c => ⟨s1.1.1, ?_⟩, fun c => ?_⟩
  · rw [if_neg (by omega)] at k
    refine s_Ref_write s1 (by omega) (fun h2 f2 s2 => ⟨s2.1.1, s_Ref_writeNumber s2 (by rw [List.length_append, l1]; simp only [List.length_cons, List.length_nil]; omega) (by omega) (fun h3 f3 s3 => ?_)⟩)
    refine k h3 ((f1.tr f2).tr f3) ?_
    simp only [List.append_assoc, List.singleton_append] at s3 ⊢
    exact s3
  · rw [if_pos (by omega), List.append_nil] at k
    exact k h1 f1 s1
theorem wb_same : wb 16 = wb 9 ∧ wb 17 = wb 10 ∧ wb 22 = wb 6 ∧ wb 23 = wb 7 ∧ wb 24 = wb 8 ∧ wb 29 = wb 15 ∧ wb 25 = wb 11 ++ [32] ∧ wb 26 = wb 12 ++ [32] ∧ wb 27 = wb 13 ++ [32] ∧ wb 28 = wb 14 ++ [32] := by decide +kernel
theorem s_Ref_writeShip {h : am_H} {i : Nat} {S : Sp} {Q : am_H → Prop} (m : rfF h) (r : rhA h i S) (hi : i < 6) (sb : spB S) (k : ∀ h', ww h h' → wrA h' (shipT S) → Q h') : am_Ew m_Ref_writeShip 0 0 [.ref 87, .int (ji i)] h Q := by
  obtain ⟨w0, f0⟩ := wr_clr m
  have eki : (ji (i : Int)).toNatClampNeg = i := by rw [ji_tn, Int.toNat_natCast]
  have n1 := nmT_len S.1
  have n2 := nmT_len S.2.1
  obtain ⟨b1, b2, b3⟩ := sb
  have r0 := r.rk f0.rk
  refine ev_Ref_writeShip 87 (ji i) h Q ⟨m.1, 98, m.p17, by rw [m.t17], by rw [m.t17, ji_in]; omega, ?_⟩
  rw [eki, r0.1, jk32]
  refine s_Ref_writeNumber w0 (by simp) (by omega) (fun h1 f1 w1 => ⟨w1.1.1, s_Ref_write w1 (by simp; omega) (fun h2 f2 w2 => ?_)⟩)
  have r2 := (r0.rk f1.rk).rk f2.rk
  refine ⟨w2.1.1, 99, w2.1.p18, by rw [w2.1.t18], by rw [w2.1.t18, ji_in]; omega, ?_⟩
  rw [r2.2.1]
  refine s_Ref_writeNumber w2 (by simp; omega) (by omega) (fun h3 f3 w3 => ⟨w3.1.1, s_Ref_write w3 (by simp; omega) (fun h4 f4 w4 => ?_)⟩)
  have r4 := (r2.rk f3.rk).rk f4.rk
  refine ⟨w4.1.1, 100, w4.1.p19, by rw [w4.1.t19], by rw [w4.1.t19, ji_in]; omega, ?_⟩
  rw [r4.2.2]
  refine s_Ref_writeNumber w4 (by simp; omega) (by omega) (fun h5 f5 w5 => ?_)
  refine k h5 (((((f0.tr f1).tr f2).tr f3).tr f4).tr f5) ?_
  unfold shipT
  simp only [List.nil_append] at w5
  exact w5
theorem s_Ref_writeSill {h : am_H} {i : Nat} {L : Nat × Sl} {Q : am_H → Prop} (m : rfF h) (r : rlA h i L) (hi : i < 12) (lb : slB L.2) (k : ∀ h', ww h h' → wrA h' (sillT L.2) → Q h') : am_Ew m_Ref_writeSill 0 0 [.ref 87, .int (ji i)] h Q := by
  obtain ⟨w0, f0⟩ := wr_clr m
  have eki : (ji (i : Int)).toNatClampNeg = i := by rw [ji_tn, Int.toNat_natCast]
  have n1 := nmT_len L.2.2.1
  have n2 := nmT_len L.2.2.2.1
  obtain ⟨b1, b2, b3, b4⟩ := lb
  have ws := wb_same
  have r0 := r.rk f0.rk
  have mid : ∀ j, j < 30 → wb j = kdT L.2.1 ++ [32] → am_EI m_Ref_writeSill 0 0 44 [.ref 87, .int (ji i), .int (ji L.2.1)] [.retAddr j, .ref 87] (am_si h 87 39 0) (am_qw Q) := by
    intro j hj ej
    have w10 := wb_len' hj
    refine sg_Ref_writeSill_44 87 j 87 _ _ _ _ ⟨w0.1.1, s_Ref_writeWord w0 hj (by simp) (fun h2 f2 w2 => ⟨w2.1.1, 95, w2.1.p13, by rw [w2.1.t13], by rw [w2.1.t13, ji_in]; omega, ?_⟩)⟩
    have r2 := r0.rk f2.rk
    rw [eki, r2.2.2.1, jk0, jk3, jk32, ji_eq, ji_eq]
    refine s_Ref_writeNumber w2 (by simp; omega) (by omega) (fun h3 f3 w3 => ?_)
    have e3 : ([] : List Int) ++ wb j ++ nmT L.2.2.1 = kdT L.2.1 ++ [32] ++ nmT L.2.2.1 := by rw [ej]; simp
    have kl : (kdT L.2.1).length + 1 ≤ 10 := by rw [ej] at w10; simpa using w10
    rw [e3] at w3
    have F3 := (f0.tr f2).tr f3
    have fin : (¬ (L.2.1 = 1 ∨ L.2.1 = 2)) → am_EI m_Ref_writeSill 0 0 66 [.ref 87, .int (ji i), .int (ji L.2.1)] [] h3 (am_qw Q) := fun c => sg_Ref_writeSill_66 87 _ _ h3 _ (k h3 F3 (by unfold sillT; rw [if_neg c, List.append_nil]; exact w3))
    refine ⟨fun c => fin (by omega), fun c => ⟨fun c2 => ⟨w3.1.1, s_Ref_write w3 (by simp; omega) (fun h4 f4 w4 => ⟨w4.1.1, 96, w4.1.p14, by rw [w4.1.t14], by rw [w4.1.t14, ji_in]; omega, ?_⟩)⟩, fun c2 => fin (by omega)⟩⟩
    have r4 := (r2.rk f3.rk).rk f4.rk
    rw [r4.2.2.2.1]
    refine s_Ref_writeNumber w4 (by simp; omega) (by omega) (fun h5 f5 w5 => ⟨w5.1.1, s_Ref_write w5 (by simp; omega) (fun h6 f6 w6 => ⟨w6.1.1, 97, w6.1.p15, by rw [w6.1.t15], by rw [w6.1.t15, ji_in]; omega, ?_⟩)⟩)
    have r6 := (r4.rk f5.rk).rk f6.rk
    rw [r6.2.2.2.2]
    refine s_Ref_writeNumber w6 (by simp; omega) (by omega) (fun h7 f7 w7 => k h7 ((((F3.tr f4).tr f5).tr f6).tr f7) ?_)
    unfold sillT
    rw [if_pos (by omega)]
    simp only [List.append_assoc] at w7 ⊢
    exact w7
  refine ev_Ref_writeSill 87 (ji i) h Q ⟨m.1, 94, m.p12, by rw [m.t12], by rw [m.t12, ji_in]; omega, ?_⟩
  have e0 : (ji L.2.1 = 0) ↔ L.2.1 = 0 := by rw [jk0, ji_eq]
  have e1 : (ji L.2.1 = 1) ↔ L.2.1 = 1 := by rw [jk1, ji_eq]
  have e2 : (ji L.2.1 = 2) ↔ L.2.1 = 2 := by rw [jk2, ji_eq]
  rw [eki, r0.2.1, e0, e1, e2]
  unfold kdT at mid
  refine ⟨fun c0 => ⟨fun c1 => ⟨fun c2 => mid 28 (by omega) ?_, fun c2 => mid 27 (by omega) ?_⟩, fun c1 => mid 26 (by omega) ?_⟩, fun c0 => mid 25 (by omega) ?_⟩
  · rw [if_neg c0, if_neg c1, if_neg c2]; exact ws.2.2.2.2.2.2.2.2.2
  · rw [if_neg c0, if_neg c1, if_pos c2]; exact ws.2.2.2.2.2.2.2.2.1
  · rw [if_neg c0, if_pos c1]; exact ws.2.2.2.2.2.2.2.1
  · rw [if_pos c0]; exact ws.2.2.2.2.2.2.1
theorem s_Ref_writePort {h : am_H} {p : Nat} {P : List Tn} {Q : am_H → Prop} (m : rfF h) (r : rpA h p P) (g : gW P) (hp : p < 8) (k : ∀ h', ww h h' → wrA h' (portT P) → Q h') : am_Ew m_Ref_writePort 0 0 [.ref 87, .int (ji p)] h Q := by
  have h16 := g.2.1
  have wl := wb9
  have ws := wb_same
  have ekp : (ji (p : Int)).toNatClampNeg = p := by rw [ji_tn, Int.toNat_natCast]
  have loop : ∀ (n i : Nat) (h1 : am_H), i + n = P.length → ww h h1 → wrA h1 (jn [44] (at0 tnX P) i) → am_EI m_Ref_writePort 0 0 7 [.ref 87, .int (ji p), .int (ji i), .float 0] [] h1 (am_qw Q) := by
    intro n
    induction n with
    | zero =>
      intro i h1 hi hf w1
      have r1 := r.rk hf.rk
      refine sg_Ref_writePort_7 87 _ _ h1 _ ⟨w1.1.1, 89, w1.1.p6, by rw [w1.1.t6], by rw [w1.1.t6, ji_in]; omega, ?_⟩
      rw [ekp, r1.1, ji_le]
      obtain rfl : i = P.length := by omega
      exact ⟨fun _ => k h1 hf w1, fun cc => absurd (by omega) cc⟩
    | succ n ih =>
      intro i h1 hi hf w1
      have r1 := r.rk hf.rk
      obtain ⟨t, ht⟩ : ∃ t, P[i]? = some t := ⟨_, List.getElem?_eq_getElem (by omega)⟩
      have bm := g.mem (List.mem_of_getElem? ht)
      have bh := g.1.2.2 t (List.mem_of_getElem? ht)
      have jl : (jn [44] (at0 tnX P) i).length ≤ i * (([44] : List Int).length + 12) := jn_len (at0_len (fun p _ => tnX_len p)) i
      simp only [List.length_cons, List.length_nil] at jl
      have nl := nmT_len t.2.2
      have ek : (ji ((p : Int) * 16 + (i : Int))).toNatClampNeg = p * 16 + i := by
        rw [ji_tn]
        omega
      have ex : jn [44] (at0 tnX P) (i + 1) = jn [44] (at0 tnX P) i ++ (if i = 0 then [] else [44]) ++ tnX t := by
        show _ ++ _ ++ at0 tnX P i = _
        rw [at0_at ht]
      have vin : ∀ N, N = 128 → vp_in (ji ((p : Int) * 16 + (i : Int))) N := fun N hN => by rw [hN, ji_in]; omega
      refine sg_Ref_writePort_7 87 _ _ h1 _ ⟨w1.1.1, 89, w1.1.p6, by rw [w1.1.t6], by rw [w1.1.t6, ji_in]; omega, ?_⟩
      rw [ekp, r1.1, jk16, ji_mul, ji_add, ek, jk1, ji_add, jk44, jk32, ji_le, show ((ji (i : Int) ≤ 0) ↔ (ji (i : Int) ≤ ji 0)) from Iff.rfl, ji_le]
      refine ⟨fun cc => absurd cc (by omega), fun _ => ⟨fun c0 => ⟨92, w1.1.p9, by rw [w1.1.t9], vin _ (by rw [w1.1.t9]), ?_⟩, fun c0 => s_Ref_write w1 (by omega) (fun h2 f2 w2 => ⟨w2.1.1, 92, w2.1.p9, by rw [w2.1.t9], vin _ (by rw [w2.1.t9]), ?_⟩)⟩⟩
      · rw [(r1.2 i t ht).2.2, bi_0]
        refine ⟨fun e => s_Ref_writeWord w1 (by omega) (by first | omega | (simp; omega)) (fun h3 f3 w3 => ⟨w3.1.1, 90, w3.1.p7, by rw [w3.1.t7], vin _ (by rw [w3.1.t7]), ?_⟩), fun e => s_Ref_writeWord w1 (by omega) (by first | omega | (simp; omega)) (fun h3 f3 w3 => ⟨w3.1.1, 90, w3.1.p7, by rw [w3.1.t7], vin _ (by rw [w3.1.t7]), ?_⟩)⟩
        · have F3 := (hf).tr f3
          have r3 := r.rk F3.rk
          rw [ws.2.1] at w3
          rw [(r3.2 i t ht).1]
          refine s_Ref_writeTime w3 (by simp; omega) (by omega) (fun h4 f4 w4 => ⟨w4.1.1, s_Ref_write w4 (by simp [tmT]; omega) (fun h5 f5 w5 => ⟨w5.1.1, 91, w5.1.p8, by rw [w5.1.t8], vin _ (by rw [w5.1.t8]), ?_⟩)⟩)
          have F5 := (F3.tr f4).tr f5
          rw [((r.rk F5.rk).2 i t ht).2.1]
          refine s_Ref_writeNumber w5 (by simp [tmT]; omega) (by omega) (fun h6 f6 w6 => ih (i + 1) h6 (by omega) (F5.tr f6) ?_)
          rw [ex, if_pos (by omega), tnX_f e]
          simp only [List.append_assoc, List.nil_append] at w6 ⊢
          exact w6
        · have F3 := (hf).tr f3
          have r3 := r.rk F3.rk
          rw [ws.1] at w3
          rw [(r3.2 i t ht).1]
          refine s_Ref_writeTime w3 (by simp; omega) (by omega) (fun h4 f4 w4 => ⟨w4.1.1, s_Ref_write w4 (by simp [tmT]; omega) (fun h5 f5 w5 => ⟨w5.1.1, 91, w5.1.p8, by rw [w5.1.t8], vin _ (by rw [w5.1.t8]), ?_⟩)⟩)
          have F5 := (F3.tr f4).tr f5
          rw [((r.rk F5.rk).2 i t ht).2.1]
          refine s_Ref_writeNumber w5 (by simp [tmT]; omega) (by omega) (fun h6 f6 w6 => ih (i + 1) h6 (by omega) (F5.tr f6) ?_)
          rw [ex, if_pos (by omega), tnX_t (by cases e2 : t.1; exact absurd e2 e; rfl)]
          simp only [List.append_assoc, List.nil_append] at w6 ⊢
          exact w6
      · have F2 := hf.tr f2
        have r2 := r.rk F2.rk
        rw [(r2.2 i t ht).2.2, bi_0]
        refine ⟨fun e => s_Ref_writeWord w2 (by omega) (by first | omega | (simp; omega)) (fun h3 f3 w3 => ⟨w3.1.1, 90, w3.1.p7, by rw [w3.1.t7], vin _ (by rw [w3.1.t7]), ?_⟩), fun e => s_Ref_writeWord w2 (by omega) (by first | omega | (simp; omega)) (fun h3 f3 w3 => ⟨w3.1.1, 90, w3.1.p7, by rw [w3.1.t7], vin _ (by rw [w3.1.t7]), ?_⟩)⟩
        · have F3 := (F2).tr f3
          have r3 := r.rk F3.rk
          rw [ws.2.1] at w3
          rw [(r3.2 i t ht).1]
          refine s_Ref_writeTime w3 (by simp; omega) (by omega) (fun h4 f4 w4 => ⟨w4.1.1, s_Ref_write w4 (by simp [tmT]; omega) (fun h5 f5 w5 => ⟨w5.1.1, 91, w5.1.p8, by rw [w5.1.t8], vin _ (by rw [w5.1.t8]), ?_⟩)⟩)
          have F5 := (F3.tr f4).tr f5
          rw [((r.rk F5.rk).2 i t ht).2.1]
          refine s_Ref_writeNumber w5 (by simp [tmT]; omega) (by omega) (fun h6 f6 w6 => ih (i + 1) h6 (by omega) (F5.tr f6) ?_)
          rw [ex, if_neg (by omega), tnX_f e]
          simp only [List.append_assoc, List.nil_append] at w6 ⊢
          exact w6
        · have F3 := (F2).tr f3
          have r3 := r.rk F3.rk
          rw [ws.1] at w3
          rw [(r3.2 i t ht).1]
          refine s_Ref_writeTime w3 (by simp; omega) (by omega) (fun h4 f4 w4 => ⟨w4.1.1, s_Ref_write w4 (by simp [tmT]; omega) (fun h5 f5 w5 => ⟨w5.1.1, 91, w5.1.p8, by rw [w5.1.t8], vin _ (by rw [w5.1.t8]), ?_⟩)⟩)
          have F5 := (F3.tr f4).tr f5
          rw [((r.rk F5.rk).2 i t ht).2.1]
          refine s_Ref_writeNumber w5 (by simp [tmT]; omega) (by omega) (fun h6 f6 w6 => ih (i + 1) h6 (by omega) (F5.tr f6) ?_)
          rw [ex, if_neg (by omega), tnX_t (by cases e2 : t.1; exact absurd e2 e; rfl)]
          simp only [List.append_assoc, List.nil_append] at w6 ⊢
          exact w6
  obtain ⟨w0, f0⟩ := wr_clr m
  refine ev_Ref_writePort 87 (ji p) h Q ⟨m.1, ?_⟩
  have := loop P.length 0 _ (by omega) f0 w0
  exact this
theorem rrA.rk {h h' : am_H} {r : Nat} {R : List RtStop} (x : rrA h r R) (f : rk h h') : rrA h' r R := by
  unfold rrA
  rw [f.2.2.2.1 101 (by omega), f.2.2.2.1 102 (by omega), f.2.2.2.1 103 (by omega), f.2.2.2.1 104 (by omega), f.2.2.2.1 105 (by omega)]
  exact x
theorem s_Ref_writeRoute {h : am_H} {r : Nat} {R : List RtStop} {Q : am_H → Prop} (m : rfF h) (x : rrA h r R) (hr : R.length ≤ 8) (hb : ∀ q ∈ R, stB q) (h8 : r < 8) (k : ∀ h', ww h h' → wrA h' (routeT R) → Q h') : am_Ew m_Ref_writeRoute 0 0 [.ref 87, .int (ji r)] h Q := by
  have wl := wb9
  have ws := wb_same
  have ekr : (ji (r : Int)).toNatClampNeg = r := by rw [ji_tn, Int.toNat_natCast]
  have loop : ∀ (n i : Nat) (h1 : am_H), i + n = R.length → ww h h1 → wrA h1 (jn [] (rtX R) i) → am_EI m_Ref_writeRoute 0 0 7 [.ref 87, .int (ji r), .int (ji i), .float 0] [] h1 (am_qw Q) := by
    intro n
    induction n with
    | zero =>
      intro i h1 hi hf w1
      have x1 := x.rk hf.rk
      refine sg_Ref_writeRoute_7 87 _ _ h1 _ ⟨w1.1.1, 101, w1.1.p21, by rw [w1.1.t21], by rw [w1.1.t21, ji_in]; omega, ?_⟩
      rw [ekr, x1.1, ji_le]
      obtain rfl : i = R.length := by omega
      exact ⟨fun _ => k h1 hf w1, fun cc => absurd (by omega) cc⟩
    | succ n ih =>
      intro i h1 hi hf w1
      have x1 := x.rk hf.rk
      obtain ⟨q, hq⟩ : ∃ q, R[i]? = some q := ⟨_, List.getElem?_eq_getElem (by omega)⟩
      obtain ⟨b1, b2, b3, b4⟩ := hb q (List.mem_of_getElem? hq)
      have jl := jn_len (sep := []) (rtX_len R) i
      simp only [List.length_nil] at jl
      have n1 := nmT_len q.1
      have n2 := nmT_len q.2.1
      have ek : (ji ((r : Int) * 8 + (i : Int))).toNatClampNeg = r * 8 + i := by
        rw [ji_tn]
        omega
      have ex : jn [] (rtX R) (i + 1) = jn [] (rtX R) i ++ ((if i = 0 then [] else wb 15 ++ nmT q.1 ++ [32]) ++ stX q) := by
        show _ ++ _ ++ rtX R i = _
        unfold rtX
        rw [hq]
        split <;> simp
      have vin : ∀ N, N = 64 → vp_in (ji ((r : Int) * 8 + (i : Int))) N := fun N hN => by rw [hN, ji_in]; omega
      have e1 : (ji q.2.2.1 = 1) ↔ q.2.2.1 = 1 := by rw [jk1, ji_eq]
      have e2 : (ji q.2.2.1 = 2) ↔ q.2.2.1 = 2 := by rw [jk2, ji_eq]
      have en : ji (i : Int) + 1 = ji ((i : Int) + 1) := by rw [jk1, ji_add]
      refine sg_Ref_writeRoute_7 87 _ _ h1 _ ⟨w1.1.1, 101, w1.1.p21, by rw [w1.1.t21], by rw [w1.1.t21, ji_in]; omega, ?_⟩
      rw [ekr, x1.1, jk8, ji_mul, ji_add, ek, en, jk32, jk33, jk126, ji_le, show ((ji (i : Int) ≤ 0) ↔ (ji (i : Int) ≤ ji 0)) from Iff.rfl, ji_le]
      refine ⟨fun cc => absurd cc (by omega), fun _ => ⟨fun c0 => ⟨102, w1.1.p22, by rw [w1.1.t22], vin _ (by rw [w1.1.t22]), ?_⟩, fun c0 => s_Ref_writeWord w1 (by omega) (by omega) (fun h2 f2 w2 => ⟨w2.1.1, 105, w2.1.p25, by rw [w2.1.t25], vin _ (by rw [w2.1.t25]), ?_⟩)⟩⟩
      · rw [(x1.2 i q hq).1]
        refine s_Ref_writeNumber w1 (by first | omega | (simp; omega)) (by omega) (fun h5 f5 w5 => ⟨w5.1.1, 103, w5.1.p23, by rw [w5.1.t23], vin _ (by rw [w5.1.t23]), ?_⟩)
        have F5 := (hf).tr f5
        have x5 := x.rk F5.rk
        rw [(x5.2 i q hq).2.1, e1, e2]
        refine ⟨fun k1 => ⟨fun k2 => s_Ref_write w5 (by simp; omega) (fun h6 f6 w6 => ⟨w6.1.1, 104, w6.1.p24, by rw [w6.1.t24], vin _ (by rw [w6.1.t24]), ?_⟩), fun k2 => ih (i + 1) h5 (by omega) F5 ?_⟩, fun k1 => s_Ref_write w5 (by simp; omega) (fun h6 f6 w6 => ⟨w6.1.1, 103, w6.1.p23, by rw [w6.1.t23], vin _ (by rw [w6.1.t23]), ?_⟩)⟩
        · have F6 := F5.tr f6
          rw [((x.rk F6.rk).2 i q hq).2.2.1]
          refine s_Ref_writeNumber w6 (by simp; omega) (by omega) (fun h7 f7 w7 => ih (i + 1) h7 (by omega) (F6.tr f7) ?_)
          rw [ex, if_pos (by omega)]
          unfold stX
          rw [if_neg k1, if_pos k2]
          simp only [List.append_assoc, List.nil_append] at w7 ⊢
          exact w7
        · rw [ex, if_pos (by omega)]
          unfold stX
          rw [if_neg k1, if_neg k2]
          simp only [List.append_assoc, List.nil_append, List.append_nil] at w5 ⊢
          exact w5
        · have F6 := F5.tr f6
          rw [((x.rk F6.rk).2 i q hq).2.1, e2]
          refine ⟨fun k2 => absurd k2 (by omega), fun _ => ih (i + 1) h6 (by omega) F6 ?_⟩
          rw [ex, if_pos (by omega)]
          unfold stX
          rw [if_pos k1]
          simp only [List.append_assoc, List.nil_append] at w6 ⊢
          exact w6
      · have F2 := hf.tr f2
        rw [ws.2.2.2.2.2.1] at w2
        rw [((x.rk F2.rk).2 i q hq).2.2.2]
        refine s_Ref_writeNumber w2 (by simp; omega) (by omega) (fun h3 f3 w3 => ⟨w3.1.1, s_Ref_write w3 (by simp; omega) (fun h4 f4 w4 => ⟨w4.1.1, 102, w4.1.p22, by rw [w4.1.t22], vin _ (by rw [w4.1.t22]), ?_⟩)⟩)
        have F4 := (F2.tr f3).tr f4
        have x4 := x.rk F4.rk
        rw [(x4.2 i q hq).1]
        refine s_Ref_writeNumber w4 (by first | omega | (simp; omega)) (by omega) (fun h5 f5 w5 => ⟨w5.1.1, 103, w5.1.p23, by rw [w5.1.t23], vin _ (by rw [w5.1.t23]), ?_⟩)
        have F5 := (F4).tr f5
        have x5 := x.rk F5.rk
        rw [(x5.2 i q hq).2.1, e1, e2]
        refine ⟨fun k1 => ⟨fun k2 => s_Ref_write w5 (by simp; omega) (fun h6 f6 w6 => ⟨w6.1.1, 104, w6.1.p24, by rw [w6.1.t24], vin _ (by rw [w6.1.t24]), ?_⟩), fun k2 => ih (i + 1) h5 (by omega) F5 ?_⟩, fun k1 => s_Ref_write w5 (by simp; omega) (fun h6 f6 w6 => ⟨w6.1.1, 103, w6.1.p23, by rw [w6.1.t23], vin _ (by rw [w6.1.t23]), ?_⟩)⟩
        · have F6 := F5.tr f6
          rw [((x.rk F6.rk).2 i q hq).2.2.1]
          refine s_Ref_writeNumber w6 (by simp; omega) (by omega) (fun h7 f7 w7 => ih (i + 1) h7 (by omega) (F6.tr f7) ?_)
          rw [ex, if_neg (by omega)]
          unfold stX
          rw [if_neg k1, if_pos k2]
          simp only [List.append_assoc, List.nil_append] at w7 ⊢
          exact w7
        · rw [ex, if_neg (by omega)]
          unfold stX
          rw [if_neg k1, if_neg k2]
          simp only [List.append_assoc, List.nil_append, List.append_nil] at w5 ⊢
          exact w5
        · have F6 := F5.tr f6
          rw [((x.rk F6.rk).2 i q hq).2.1, e2]
          refine ⟨fun k2 => absurd k2 (by omega), fun _ => ih (i + 1) h6 (by omega) F6 ?_⟩
          rw [ex, if_neg (by omega)]
          unfold stX
          rw [if_pos k1]
          simp only [List.append_assoc, List.nil_append] at w6 ⊢
          exact w6
  obtain ⟨w0, f0⟩ := wr_clr m
  refine ev_Ref_writeRoute 87 (ji r) h Q ⟨m.1, ?_⟩
  have := loop R.length 0 _ (by omega) f0 w0
  exact this
theorem s_Ref_tell {h h0 : am_H} {s : St} {l : List Int} {i : Int} {X : Int × St} {Q : Int32 → am_H → Prop} (e : X = tel s l i) (m : rfA h s) (w : wrA h l) (f0 : fi h0 h 87 146) (hi : -2147483648 ≤ i ∧ i < 2147483648) (k : ∀ h', fi h0 h' 87 146 → rfA h' X.2 → Q (ji X.1) h') : am_Ei m_Ref_tell 0 0 [.ref 87, .int (ji i)] h Q := by
  obtain ⟨w1, w2, w3, w4⟩ := id w
  refine ev_Ref_tell 87 (ji i) h Q ⟨m.1.1, ?_⟩
  rw [w2, jk0, jk1, ji_sub]
  refine s_Ref_isIn hi (by omega) (by omega) (fun c => ⟨fun q => absurd q (by decide), fun _ => ⟨m.1.1, 135, m.1.p38, by rw [m.1.t38], by rw [m.1.t38, ji_in]; omega, ?_⟩⟩) (fun c => ⟨fun _ => ⟨m.1.1, rf_no (e.trans (cif_neg (by omega))) m f0 k⟩, fun q => absurd rfl q⟩)
  obtain ⟨j, rfl⟩ := Int.eq_ofNat_of_zero_le c.1
  obtain ⟨cc, hc⟩ : ∃ c, l[j]? = some c := ⟨_, List.getElem?_eq_getElem (by omega)⟩
  rw [ji_tn, Int.toNat_natCast, w4 j cc hc]
  refine rf_an (e.trans ((cif_pos (by omega)).trans ?_)) m f0 k
  rw [Int.toNat_natCast, List.getD_eq_getElem?_getD, hc]
  rfl
