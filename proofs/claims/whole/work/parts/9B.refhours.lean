/-! the reference: windows asked for -/
theorem rfA.port {h : am_H} {s : St} {L : Nat × Sl} (m : rfA h s) (hl : L.1 < s.2.1.length) : gW (pOf s L) ∧ rpA h L.1 (pOf s L) ∧ L.1 < 8 := by
  obtain ⟨c1, c2, c3⟩ := m.2.2.1
  obtain ⟨P, hP⟩ : ∃ P, s.2.1[L.1]? = some P := ⟨_, List.getElem?_eq_getElem hl⟩
  have e : pOf s L = P := by
    unfold pOf
    rw [hP]
    rfl
  rw [e]
  obtain ⟨g, r⟩ := c3 _ P hP
  exact ⟨g, r, by omega⟩
theorem cut_0 {l : List (Int × Int)} {A : Int → Prop} {f : Int} (ok : spOk l) (hm : ∀ x, spM l x ↔ A x) (hf : ∀ x, A x → f ≤ x) : cutAt l 0 f := by
  refine ⟨fun q hq => by simp at hq, fun q hq => ?_⟩
  rw [List.drop_zero] at hq
  have := ok.2 q hq
  exact hf _ ((hm _).mp ⟨q, hq, by omega, by omega⟩)
theorem s_Ref_windows {h : am_H} {f e : Int} {A : Int → Prop} {l : List (Int × Int)} {Q : Int32 → am_H → Prop} (g : goodA h f e A) (ok : spOk l) (hm : ∀ x, spM l x ↔ A x) (hl : l.length ≤ 16) (k : ∀ h', kw h h' 32 34 → Q (ji l.length) h') : am_Ei m_Ref_windows 0 0 [.ref 87] h Q := by
  obtain ⟨m, i29, i30, mk, gb, gin⟩ := id g
  have loop : ∀ (n j : Nat) (t : Int) (h1 : am_H), j + n = l.length → kw h h1 32 34 → cutAt l j t → (f ≤ t ∧ t ≤ e + 1) → am_EI m_Ref_windows 0 0 7 [.ref 87, .int (ji j), .int (ji t)] [] h1 (am_qi Q) := by
    intro n
    induction n with
    | zero =>
      intro j t h1 hj f1 c ht
      obtain rfl : j = l.length := by omega
      have g1 := g.kw f1 (by omega)
      refine sg_Ref_windows_7 87 _ _ h1 _ ⟨g1.1.1, ?_⟩
      rw [g1.2.2.1, ji_lt]
      refine ⟨fun _ => k h1 f1, fun q => s_Ref_findWindow g1 (by omega) (fun h2 u v f2 a1 a2 a3 a4 a5 a6 a7 a8 => ?_) (fun h2 f2 _ => ⟨fun _ => k h2 (f1.tr f2), fun q => absurd rfl q⟩)⟩
      have := (List.getElem?_eq_some_iff.mp (cut_some ok hm c a1 a2 a4 a5 a6).1).1
      omega
    | succ n ih =>
      intro j t h1 hj f1 c ht
      have g1 := g.kw f1 (by omega)
      refine sg_Ref_windows_7 87 _ _ h1 _ ⟨g1.1.1, ?_⟩
      rw [g1.2.2.1, ji_lt]
      refine ⟨fun q => ?_, fun q => s_Ref_findWindow g1 (by omega) (fun h2 u v f2 a1 a2 a3 a4 a5 a6 a7 a8 => ⟨fun q => absurd q (by decide), fun _ => ⟨(g1.kw f2 (by omega)).1.1, ?_⟩⟩) (fun h2 f2 no => ?_)⟩
      · have := cut_none ok hm c (fun x x1 x2 => by have := (gin x x2).2; omega)
        omega
      · rw [a8, jk1, ji_add, ji_add]
        exact ih (j + 1) (v + 1) h2 (by omega) (f1.tr f2) (cut_some ok hm c a1 a2 a4 a5 a6).2 (by omega)
      · have := cut_none ok hm c no
        omega
  refine ev_Ref_windows 87 h Q ⟨m.1, ?_⟩
  rw [i29, jk0]
  exact loop l.length 0 f h (by omega) kw.rf (cut_0 ok hm (fun x hx => (gin x hx).1)) (by omega)
theorem rf_hours {h : am_H} {s : St} {a b : Int} {Q : Int32 → am_H → Prop} (m : rfA h s) (ha : -2147483648 ≤ a ∧ a < 2147483648) (hb : -2147483648 ≤ b ∧ b < 2147483648) (k : ∀ h', fi h h' 87 146 → rfA h' (p_hours s a b).2 → Q (ji (p_hours s a b).1) h') : am_Ei m_Ref_hours 0 0 [.ref 87, .int (ji a), .int (ji b)] h Q := by
  refine ev_Ref_hours 87 (ji a) (ji b) h Q ?_
  rw [jk1]
  refine ⟨m.1.1, s_Ref_isSill m ha (fun L e o lb rl lp n0 n12 => ⟨fun q => absurd q (by decide), fun _ => ⟨m.1.1, s_Ref_isShip m hb (fun S e2 os sb rh k0 k6 => ⟨fun _ => ⟨m.1.1, ?_⟩, fun q => absurd q (by decide)⟩) (fun e2 => ⟨fun q => absurd rfl q, fun _ => ⟨m.1.1, rf_no (p_win_no (Or.inr e2)) m fi.rf k⟩⟩)⟩⟩) (fun e => ⟨fun _ => ⟨m.1.1, rf_no (p_win_no (Or.inl e)) m fi.rf k⟩, fun q => absurd rfl q⟩)⟩
  obtain ⟨i, rfl⟩ := Int.eq_ofNat_of_zero_le n0
  obtain ⟨j, rfl⟩ := Int.eq_ofNat_of_zero_le k0
  rw [Int.toNat_natCast] at rl rh
  obtain ⟨g, rp, hp⟩ := m.port lp
  refine s_Ref_findGood2 m.1 rl (by omega) o lb rh (by omega) os sb rp g hp (fun h1 f1 g1 _ => ⟨g1.1.1, ?_⟩)
  obtain ⟨ok, hm⟩ := wl_ok (S := S) g lb.2.2.1.1
  refine s_Ref_windows g1 ok hm (gd_len g lb.2.2.1.1 ok hm) (fun h2 f2 => ?_)
  have f12 := f1.tr (f2.rk (by omega))
  have m2 := m.rk f12
  exact ⟨m2.1.1, rf_an (p_win_some e e2) m2 f12.fi k⟩
theorem rf_hour {h : am_H} {s : St} {a b i w : Int} {Q : Int32 → am_H → Prop} (m : rfA h s) (ha : -2147483648 ≤ a ∧ a < 2147483648) (hb : -2147483648 ≤ b ∧ b < 2147483648) (hi : -2147483648 ≤ i ∧ i < 2147483648) (hw : -2147483648 ≤ w ∧ w < 2147483648) (k : ∀ h', fi h h' 87 146 → rfA h' (p_hour s a b i w).2 → Q (ji (p_hour s a b i w).1) h') : am_Ei m_Ref_hour 0 0 [.ref 87, .int (ji a), .int (ji b), .int (ji i), .int (ji w)] h Q := by
  refine ev_Ref_hour 87 (ji a) (ji b) (ji i) (ji w) h Q ?_
  rw [jm1, jk1]
  refine ⟨m.1.1, s_Ref_isSill m ha (fun L e o lb rl lp n0 n12 => ⟨fun q => absurd q (by decide), fun _ => ⟨m.1.1, s_Ref_isShip m hb (fun S e2 os sb rh k0 k6 => ⟨fun _ => ⟨m.1.1, ?_⟩, fun q => absurd q (by decide)⟩) (fun e2 => ⟨fun q => absurd rfl q, fun _ => ⟨m.1.1, rf_no (p_win_no (Or.inr e2)) m fi.rf k⟩⟩)⟩⟩) (fun e => ⟨fun _ => ⟨m.1.1, rf_no (p_win_no (Or.inl e)) m fi.rf k⟩, fun q => absurd rfl q⟩)⟩
  obtain ⟨i', rfl⟩ := Int.eq_ofNat_of_zero_le n0
  obtain ⟨j', rfl⟩ := Int.eq_ofNat_of_zero_le k0
  rw [Int.toNat_natCast] at rl rh
  obtain ⟨g, rp, hp⟩ := m.port lp
  refine s_Ref_findGood2 m.1 rl (by omega) o lb rh (by omega) os sb rp g hp (fun h1 f1 g1 _ => ⟨g1.1.1, ?_⟩)
  obtain ⟨ok, hm⟩ := wl_ok (S := S) g lb.2.2.1.1
  have l16 := gd_len g lb.2.2.1.1 ok hm
  have er := p_win_some (f := fun _ l => cif (0 ≤ i ∧ i < l.length) (cif (w = 0) (ans s (spF l i)) (cif (w = 1) (ans s (spL l i)) (rfs s 3))) (rfs s 1)) e e2
  revert er ok hm l16
  generalize wl (pOf s L) L.2 S = l
  intro ok hm l16 er
  obtain ⟨mm, i29, i30, mk, gb, gin⟩ := id g1
  have no1 : ∀ h2, kw h1 h2 32 34 → ¬ (0 ≤ i ∧ i < l.length) → am_tg h2 87 = (12, 56) ∧ am_Ei m_Ref_no 0 0 [.ref 87, .int (ji 1)] h2 (fun r5 h4 => am_qi Q (some (.int r5)) h4) := fun h2 f2 c => by
    have f12 := f1.tr (f2.rk (by omega))
    have m2 := m.rk f12
    exact ⟨m2.1.1, rf_no (er.trans (cif_neg c)) m2 f12.fi k⟩
  have no3 : ∀ h2, kw h1 h2 32 34 → (0 ≤ i ∧ i < l.length) → w ≠ 0 → w ≠ 1 → am_tg h2 87 = (12, 56) ∧ am_Ei m_Ref_no 0 0 [.ref 87, .int (ji 3)] h2 (fun r5 h4 => am_qi Q (some (.int r5)) h4) := fun h2 f2 c c0 c1 => by
    have f12 := f1.tr (f2.rk (by omega))
    have m2 := m.rk f12
    exact ⟨m2.1.1, rf_no (er.trans ((cif_pos c).trans ((cif_neg c0).trans (cif_neg c1)))) m2 f12.fi k⟩
  have y0 : ∀ h2, kw h1 h2 32 34 → (0 ≤ i ∧ i < l.length) → w = 0 → am_I h2 87 32 = ji (spF l i) → am_tg h2 87 = (12, 56) ∧ am_Ei m_Ref_fine 0 0 [.ref 87, .int (am_I h2 87 32)] h2 (fun r5 h4 => am_qi Q (some (.int r5)) h4) := fun h2 f2 c c0 ev => by
    have f12 := f1.tr (f2.rk (by omega))
    have m2 := m.rk f12
    rw [ev]
    exact ⟨m2.1.1, rf_an (er.trans ((cif_pos c).trans (cif_pos c0))) m2 f12.fi k⟩
  have y1 : ∀ h2, kw h1 h2 32 34 → (0 ≤ i ∧ i < l.length) → w = 1 → am_I h2 87 33 = ji (spL l i) → am_tg h2 87 = (12, 56) ∧ am_Ei m_Ref_fine 0 0 [.ref 87, .int (am_I h2 87 33)] h2 (fun r5 h4 => am_qi Q (some (.int r5)) h4) := fun h2 f2 c c1 ev => by
    have f12 := f1.tr (f2.rk (by omega))
    have m2 := m.rk f12
    rw [ev]
    exact ⟨m2.1.1, rf_an (er.trans ((cif_pos c).trans ((cif_neg (by omega)).trans (cif_pos c1)))) m2 f12.fi k⟩
  have loop : ∀ (n j : Nat) (t : Int) (h2 : am_H), j + n = l.length → kw h1 h2 32 34 → cutAt l j t → (ptM (pOf s L) 0 ≤ t ∧ t ≤ ptM (pOf s L) (((pOf s L).length : Int) - 1) + 1) → ((j : Int) - 1 ≤ i ∨ j = 0) → (0 < j → am_I h2 87 32 = ji (spF l ((j : Int) - 1)) ∧ am_I h2 87 33 = ji (spL l ((j : Int) - 1))) → am_EI m_Ref_hour 0 0 37 [.ref 87, .int (ji i'), .int (ji j'), .int (ji i), .int (ji w), .int (ji ((j : Int) - 1)), .int (ji t)] [] h2 (am_qi Q) := by
    intro n
    induction n with
    | zero =>
      intro j t h2 hj f2 c ht hji hv
      have g2 := g1.kw f2 (by omega)
      refine sg_Ref_hour_37 87 _ _ _ _ _ _ h2 _ ?_
      rw [jk0, jk1, jk3, g2.2.2.1, ji_le, ji_lt, ji_lt, ji_eq, ji_eq]
      have fin : ∀ h3, kw h2 h3 32 34 → ¬ i ≤ (j : Int) - 1 → ((i < 0 → am_tg h3 87 = (12, 56) ∧ am_Ei m_Ref_no 0 0 [.ref 87, .int (ji 1)] h3 (fun r5 h4 => am_qi Q (some (.int r5)) h4)) ∧ (¬ i < 0 → am_tg h3 87 = (12, 56) ∧ am_Ei m_Ref_no 0 0 [.ref 87, .int (ji 1)] h3 (fun r5 h4 => am_qi Q (some (.int r5)) h4))) := fun h3 f3 c3 => ⟨fun _ => no1 h3 (f2.tr f3) (by omega), fun _ => no1 h3 (f2.tr f3) (by omega)⟩
      refine ⟨fun ci => ⟨fun cn => no1 h2 f2 (by omega), fun cn => ⟨fun _ => ⟨fun w0 => ⟨fun w1 => no3 h2 f2 (by omega) w0 w1, fun w1 => y1 h2 f2 (by omega) w1 ?_⟩, fun w0 => y0 h2 f2 (by omega) w0 ?_⟩, fun q => absurd ci q⟩⟩, fun ci => ⟨g2.1.1, fun _ => ⟨fun cn => ((fin h2 kw.rf ci).1 cn).2, fun cn => ⟨fun q => absurd q ci, fun _ => ((fin h2 kw.rf ci).2 cn).2⟩⟩, fun ct => s_Ref_findWindow g2 (by omega) (fun h3 u v f3 a1 a2 a3 a4 a5 a6 a7 a8 => ?_) (fun h3 f3 no => ⟨fun _ => ⟨fun cn => (fin h3 f3 ci).1 cn, fun cn => ⟨fun q => absurd q ci, fun _ => (fin h3 f3 ci).2 cn⟩⟩, fun q => absurd rfl q⟩)⟩⟩
      · rw [(hv (by omega)).2, show (j : Int) - 1 = i by omega]
      · rw [(hv (by omega)).1, show (j : Int) - 1 = i by omega]
      · have := (List.getElem?_eq_some_iff.mp (cut_some ok hm c a1 a2 a4 a5 a6).1).1
        omega
    | succ n ih =>
      intro j t h2 hj f2 c ht hji hv
      have g2 := g1.kw f2 (by omega)
      refine sg_Ref_hour_37 87 _ _ _ _ _ _ h2 _ ?_
      rw [jk0, jk1, jk3, g2.2.2.1, ji_le, ji_lt, ji_lt, ji_eq, ji_eq]
      refine ⟨fun ci => ⟨fun cn => no1 h2 f2 (by omega), fun cn => ⟨fun _ => ⟨fun w0 => ⟨fun w1 => no3 h2 f2 (by omega) w0 w1, fun w1 => y1 h2 f2 (by omega) w1 ?_⟩, fun w0 => y0 h2 f2 (by omega) w0 ?_⟩, fun q => absurd ci q⟩⟩, fun ci => ⟨g2.1.1, fun ct => ?_, fun ct => s_Ref_findWindow g2 (by omega) (fun h3 u v f3 a1 a2 a3 a4 a5 a6 a7 a8 => ⟨fun q => absurd q (by decide), fun _ => ⟨(g2.kw f3 (by omega)).1.1, ?_⟩⟩) (fun h3 f3 no => ?_)⟩⟩
      · rw [(hv (by omega)).2, show (j : Int) - 1 = i by omega]
      · rw [(hv (by omega)).1, show (j : Int) - 1 = i by omega]
      · have := cut_none ok hm c (fun x x1 x2 => by have := (gin x x2).2; omega)
        omega
      · have cs := cut_some ok hm c a1 a2 a4 a5 a6
        have := ih (j + 1) (v + 1) h3 (by omega) (f2.tr f3) cs.2 (by omega) (by omega) (fun _ => by
          rw [show ((j + 1 : Nat) : Int) - 1 = (j : Int) by omega, spF_at cs.1, spL_at cs.1]
          exact ⟨a7, a8⟩)
        rw [a8, ji_add, ji_add, show (j : Int) - 1 + 1 = ((j + 1 : Nat) : Int) - 1 by omega]
        exact this
      · have := cut_none ok hm c no
        omega
  rw [i29]
  exact loop l.length 0 _ h1 (by omega) kw.rf (cut_0 ok hm (fun x hx => (gin x hx).1)) (by omega) (Or.inr rfl) (fun q => absurd q (by omega))
theorem rf_good {h : am_H} {s : St} {a b t : Int} {Q : Int32 → am_H → Prop} (m : rfA h s) (ha : -2147483648 ≤ a ∧ a < 2147483648) (hb : -2147483648 ≤ b ∧ b < 2147483648) (ht : -2147483648 ≤ t ∧ t < 2147483648) (k : ∀ h', fi h h' 87 146 → rfA h' (p_good s a b t).2 → Q (ji (p_good s a b t).1) h') : am_Ei m_Ref_good 0 0 [.ref 87, .int (ji a), .int (ji b), .int (ji t)] h Q := by
  refine ev_Ref_good 87 (ji a) (ji b) (ji t) h Q ?_
  rw [jk1]
  refine ⟨m.1.1, s_Ref_isSill m ha (fun L e o lb rl lp n0 n12 => ⟨fun q => absurd q (by decide), fun _ => ⟨m.1.1, s_Ref_isShip m hb (fun S e2 os sb rh k0 k6 => ⟨fun _ => ⟨m.1.1, ?_⟩, fun q => absurd q (by decide)⟩) (fun e2 => ⟨fun q => absurd rfl q, fun _ => ⟨m.1.1, rf_no (p_win_no (Or.inr e2)) m fi.rf k⟩⟩)⟩⟩) (fun e => ⟨fun _ => ⟨m.1.1, rf_no (p_win_no (Or.inl e)) m fi.rf k⟩, fun q => absurd rfl q⟩)⟩
  obtain ⟨i', rfl⟩ := Int.eq_ofNat_of_zero_le n0
  obtain ⟨j', rfl⟩ := Int.eq_ofNat_of_zero_le k0
  rw [Int.toNat_natCast] at rl rh
  obtain ⟨g, rp, hp⟩ := m.port lp
  refine s_Ref_findGood2 m.1 rl (by omega) o lb rh (by omega) os sb rp g hp (fun h1 f1 g1 _ => ⟨g1.1.1, ?_⟩)
  obtain ⟨ok, hm⟩ := wl_ok (S := S) g lb.2.2.1.1
  obtain ⟨mm, i29, i30, mk, gb, gin⟩ := id g1
  have m1 := m.rk f1
  have er := p_win_some (f := fun _ l => ans s (cif (spM l t) 1 0)) e e2
  have y0 : ¬ gd (pOf s L) L.2 S t → am_Ei m_Ref_fine 0 0 [.ref 87, .int (ji 0)] h1 Q := fun c => rf_an (er.trans (by rw [cif_neg (fun q => c ((hm t).mp q))])) m1 f1.fi k
  have y1 : gd (pOf s L) L.2 S t → am_Ei m_Ref_fine 0 0 [.ref 87, .int (ji 1)] h1 Q := fun c => rf_an (er.trans (by rw [cif_pos ((hm t).mpr c)])) m1 f1.fi k
  rw [i29, i30, jk0]
  refine s_Ref_isIn ht (by omega) (by omega) (fun c => ⟨fun q => absurd q (by decide), fun _ => ⟨mm.1, 106, mm.p28, by rw [mm.t28], by rw [mm.t28, ji_in]; omega, ?_⟩⟩) (fun c => ⟨fun _ => ⟨mm.1, y0 (fun q => c (gin t q))⟩, fun q => absurd rfl q⟩)
  obtain ⟨x, rfl⟩ := Int.eq_ofNat_of_zero_le (show 0 ≤ t by omega)
  rw [ji_tn, Int.toNat_natCast, mk x (by omega), show (cbi (gd (pOf s L) L.2 S (x : Int)) = ji 0) ↔ (cbi (gd (pOf s L) L.2 S (x : Int)) = 0) from Iff.rfl, cbi_z]
  exact ⟨fun c => y0 c, fun c => y1 (Classical.byContradiction c)⟩
noncomputable def cA (A : Int → Prop) (f : Int) : Nat → Int
  | 0 => 0
  | n + 1 => cA A f n + cif (A (f + n)) 1 0
theorem cA_bd (A : Int → Prop) (f : Int) : ∀ n : Nat, 0 ≤ cA A f n ∧ cA A f n ≤ n
  | 0 => by simp [cA]
  | n + 1 => by
    have := cA_bd A f n
    unfold cA
    by_cases c : A (f + n)
    · rw [cif_pos c]; omega
    · rw [cif_neg c]; omega
theorem spC_app (l l' : List (Int × Int)) : spC (l ++ l') = spC l + spC l' := by
  unfold spC
  rw [List.map_append, List.sum_append]
theorem spC_add {l : List (Int × Int)} {x : Int} (h : ∀ q ∈ l, q.2 < x) : spC (spAdd l x x) = spC l + 1 ∧ ∀ q ∈ spAdd l x x, q.2 ≤ x := by
  unfold spAdd
  rw [if_neg (by omega)]
  rcases List.eq_nil_or_concat l with rfl | ⟨l0, q, rfl⟩
  · simp [spC]
  · rw [List.concat_eq_append] at h ⊢
    rw [List.getLast?_concat]
    have hq := h q (by simp)
    show spC (if x ≤ q.2 + 1 then (l0 ++ [q]).dropLast ++ [(q.1, if q.2 < x then x else q.2)] else l0 ++ [q] ++ [(x, x)]) = _ ∧ ∀ p ∈ (if x ≤ q.2 + 1 then (l0 ++ [q]).dropLast ++ [(q.1, if q.2 < x then x else q.2)] else l0 ++ [q] ++ [(x, x)]), p.2 ≤ x
    by_cases c : x ≤ q.2 + 1
    · rw [if_pos c, if_pos hq, List.dropLast_concat, spC_snoc, spC_snoc]
      refine ⟨by show _ + (x - q.1 + 1) = _; omega, fun p hp => ?_⟩
      rcases List.mem_append.mp hp with y | y
      · have := h p (by simp [y])
        omega
      · simp at y
        rw [y]
        exact Int.le_refl _
    · rw [if_neg c, spC_snoc]
      refine ⟨by show _ + (x - x + 1) = _; omega, fun p hp => ?_⟩
      rcases List.mem_append.mp hp with y | y
      · have := h p y
        omega
      · simp at y
        rw [y]
        exact Int.le_refl _
theorem sp_cA {A : Int → Prop} {f : Int} : ∀ n : Nat, ∃ l, spOk l ∧ (∀ t, spM l t ↔ (A t ∧ f ≤ t ∧ t < f + n)) ∧ (∀ q ∈ l, q.1 < f + n ∧ q.2 < f + n) ∧ spC l = cA A f n
  | 0 => ⟨[], spOk_nil, fun t => ⟨fun q => absurd q (spM_nil t), fun q => by omega⟩, fun q hq => (by cases hq), by simp [spC, cA]⟩
  | n + 1 => by
    obtain ⟨l, h1, h2, h3, h4⟩ := sp_cA (A := A) (f := f) n
    by_cases c : A (f + n)
    · obtain ⟨g1, g2, g3⟩ := spAdd_ok (x := f + n) (y := f + n) h1 (fun q hq => by have := h3 q hq; omega)
      obtain ⟨g4, g5⟩ := spC_add (x := f + n) (fun q hq => (h3 q hq).2)
      refine ⟨_, g1, fun t => ?_, fun q hq => ⟨by have := g3 q hq; omega, by have := g5 q hq; omega⟩, ?_⟩
      · rw [g2 t, h2 t]
        constructor
        · rintro (q | q)
          · exact ⟨q.1, by omega⟩
          · have e : t = f + n := by omega
            rw [e]
            exact ⟨c, by omega⟩
        · rintro ⟨q1, q2⟩
          by_cases e : t = f + n
          · exact Or.inr (by omega)
          · exact Or.inl ⟨q1, by omega⟩
      · rw [g4, h4]
        show _ = cA A f n + cif (A (f + n)) 1 0
        rw [cif_pos c]
    · refine ⟨l, h1, fun t => ?_, fun q hq => by have := h3 q hq; omega, ?_⟩
      · rw [h2 t]
        constructor
        · rintro q
          exact ⟨q.1, by omega⟩
        · rintro ⟨q1, q2⟩
          by_cases e : t = f + n
          · rw [e] at q1
            exact absurd q1 c
          · exact ⟨q1, by omega⟩
      · rw [h4]
        show _ = cA A f n + cif (A (f + n)) 1 0
        rw [cif_neg c]
        omega
theorem spC_cA {A : Int → Prop} {f e : Int} {l : List (Int × Int)} (ok : spOk l) (hm : ∀ x, spM l x ↔ A x) (gin : ∀ x, A x → f ≤ x ∧ x ≤ e) (n : Nat) (hn : f + n = e + 1) : spC l = cA A f n := by
  obtain ⟨l', h1, h2, -, h4⟩ := sp_cA (A := A) (f := f) n
  rw [spU l l' ok h1 (fun t => ?_)]
  · exact h4
  · rw [hm t, h2 t]
    exact ⟨fun q => ⟨q, by have := gin t q; omega⟩, fun q => q.1⟩
theorem rf_minutes {h : am_H} {s : St} {a b : Int} {Q : Int32 → am_H → Prop} (m : rfA h s) (ha : -2147483648 ≤ a ∧ a < 2147483648) (hb : -2147483648 ≤ b ∧ b < 2147483648) (k : ∀ h', fi h h' 87 146 → rfA h' (p_minutes s a b).2 → Q (ji (p_minutes s a b).1) h') : am_Ei m_Ref_minutes 0 0 [.ref 87, .int (ji a), .int (ji b)] h Q := by
  refine ev_Ref_minutes 87 (ji a) (ji b) h Q ?_
  rw [jk1]
  refine ⟨m.1.1, s_Ref_isSill m ha (fun L e o lb rl lp n0 n12 => ⟨fun q => absurd q (by decide), fun _ => ⟨m.1.1, s_Ref_isShip m hb (fun S e2 os sb rh k0 k6 => ⟨fun _ => ⟨m.1.1, ?_⟩, fun q => absurd q (by decide)⟩) (fun e2 => ⟨fun q => absurd rfl q, fun _ => ⟨m.1.1, rf_no (p_win_no (Or.inr e2)) m fi.rf k⟩⟩)⟩⟩) (fun e => ⟨fun _ => ⟨m.1.1, rf_no (p_win_no (Or.inl e)) m fi.rf k⟩, fun q => absurd rfl q⟩)⟩
  obtain ⟨i', rfl⟩ := Int.eq_ofNat_of_zero_le n0
  obtain ⟨j', rfl⟩ := Int.eq_ofNat_of_zero_le k0
  rw [Int.toNat_natCast] at rl rh
  obtain ⟨g, rp, hp⟩ := m.port lp
  refine s_Ref_findGood2 m.1 rl (by omega) o lb rh (by omega) os sb rp g hp (fun h1 f1 g1 _ => ⟨g1.1.1, ?_⟩)
  obtain ⟨ok, hm⟩ := wl_ok (S := S) g lb.2.2.1.1
  obtain ⟨mm, i29, i30, mk, gb, gin⟩ := id g1
  have m1 := m.rk f1
  have er := p_win_some (f := fun _ l => ans s (spC l)) e e2
  obtain ⟨f, hf⟩ := Int.eq_ofNat_of_zero_le gb.1
  have loop : ∀ (n c : Nat), ((f + c : Nat) : Int) + n = ptM (pOf s L) (((pOf s L).length : Int) - 1) + 1 → am_EI m_Ref_minutes 0 0 36 [.ref 87, .int (ji i'), .int (ji j'), .int (ji (cA (gd (pOf s L) L.2 S) f c)), .int (ji ((f + c : Nat) : Int))] [] h1 (am_qi Q) := by
    intro n
    induction n with
    | zero =>
      intro c hc
      refine sg_Ref_minutes_36 87 _ _ _ _ h1 _ ⟨mm.1, ?_⟩
      rw [i30, ji_lt]
      refine ⟨fun _ => rf_an (er.trans ?_) m1 f1.fi k, fun q => absurd (by omega) q⟩
      rw [spC_cA (f := f) (e := ptM (pOf s L) (((pOf s L).length : Int) - 1)) ok hm (fun x hx => by have := gin x hx; omega) c (by omega)]
    | succ n ih =>
      intro c hc
      have cb := cA_bd (gd (pOf s L) L.2 S) f c
      have ek : (ji ((f + c : Nat) : Int)).toNatClampNeg = f + c := by rw [ji_tn, Int.toNat_natCast]
      have ih' := ih (c + 1) (by omega)
      rw [show cA (gd (pOf s L) L.2 S) f (c + 1) = cA (gd (pOf s L) L.2 S) f c + cif (gd (pOf s L) L.2 S ((f : Int) + (c : Int))) 1 0 from rfl] at ih'
      have en : (((f + (c + 1) : Nat)) : Int) = ((f + c : Nat) : Int) + 1 := by omega
      have ef : (f : Int) + (c : Int) = ((f + c : Nat) : Int) := by omega
      rw [en, ef] at ih'
      refine sg_Ref_minutes_36 87 _ _ _ _ h1 _ ⟨mm.1, ?_⟩
      rw [i30, ji_lt]
      refine ⟨fun q => absurd q (by omega), fun _ => ⟨106, mm.p28, by rw [mm.t28], by rw [mm.t28, ji_in]; omega, ?_⟩⟩
      rw [ek, mk (f + c) (by omega), cbi_z]
      refine ⟨fun q => ?_, fun q => ?_⟩
      · rw [cif_neg q] at ih'
        rw [jk1, ji_add, jk0, ji_add]
        exact ih'
      · have q := Classical.byContradiction q
        rw [cif_pos q] at ih'
        rw [jk1, ji_add, ji_add]
        exact ih'
  rw [i29, hf, jk0]
  exact loop (ptM (pOf s L) (((pOf s L).length : Int) - 1) + 1 - f).toNat 0 (by omega)
