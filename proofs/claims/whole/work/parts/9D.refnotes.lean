/-! the reference: notes and letters -/
theorem goodA.ww {h h' : am_H} {f e : Int} {A : Int → Prop} (g : goodA h f e A) (k : ww h h') : goodA h' f e A := by
  obtain ⟨g1, g2, g3, g4, g5⟩ := g
  refine ⟨g1.rk k.rk, ?_, ?_, fun u hu => ?_, g5⟩
  · rw [k.2.2.2.2 29 (by omega)]; exact g2
  · rw [k.2.2.2.2 30 (by omega)]; exact g3
  · rw [k.2.2.2.1 106 (by omega) (by omega)]; exact g4 u hu
theorem wrA.kw {h h' : am_H} {l : List Int} (w : wrA h l) (f : kw h h' 32 34) : wrA h' l := by
  obtain ⟨w1, w2, w3, w4⟩ := w
  refine ⟨w1.kw f, ?_, w3, fun i c hc => ?_⟩
  · rw [f.2.2.2.2 39 (by omega)]; exact w2
  · rw [f.2.2.2.1 135 (by omega)]; exact w4 i c hc
theorem cA_full {A : Int → Prop} {f : Int} : ∀ n : Nat, cA A f n = n → ∀ i : Nat, i < n → A (f + i)
  | 0, _, i, hi => by omega
  | n + 1, h, i, hi => by
    have b := cA_bd A f n
    have e : cA A f (n + 1) = cA A f n + cif (A (f + n)) 1 0 := rfl
    rw [e] at h
    by_cases c : A (f + n)
    · rw [cif_pos c] at h
      by_cases ci : i = n
      · rw [ci]; exact c
      · exact cA_full n (by omega) i (by omega)
    · rw [cif_neg c] at h
      omega
/-- open is what has one window, from the first minute to the last -/
theorem alw_iff {P : List Tn} {A : Int → Prop} {l : List (Int × Int)} {u v : Int} (ok : spOk l) (hm : ∀ x, spM l x ↔ A x) (gin : ∀ x, A x → ptM P 0 ≤ x ∧ x ≤ ptM P ((P.length : Int) - 1)) (fe : ptM P 0 ≤ ptM P ((P.length : Int) - 1)) (h0 : l[0]? = some (u, v)) : alw P l = true ↔ u = ptM P 0 ∧ v = ptM P ((P.length : Int) - 1) := by
  unfold alw
  rw [decide_eq_true_iff]
  have lm := List.mem_of_getElem? h0
  have lo := ok.2 _ lm
  have lo : u ≤ v := lo
  have gu := gin u ((hm u).mp ⟨(u, v), lm, Int.le_refl _, lo⟩)
  have gv := gin v ((hm v).mp ⟨(u, v), lm, lo, Int.le_refl _⟩)
  constructor
  · intro h
    have hn := spC_cA (f := ptM P 0) (e := ptM P ((P.length : Int) - 1)) ok hm gin (ptM P ((P.length : Int) - 1) - ptM P 0 + 1).toNat (by omega)
    rw [hn] at h
    have all := cA_full _ (h.trans (by omega))
    have al : ∀ x, ptM P 0 ≤ x → x ≤ ptM P ((P.length : Int) - 1) → spM l x := fun x x1 x2 => by
      have := all (x - ptM P 0).toNat (by omega)
      rw [show ptM P 0 + ((x - ptM P 0).toNat : Int) = x by omega] at this
      exact (hm x).mpr this
    have d := sp_dn (t := u) (v := ptM P 0) ok lm (Int.le_refl _) lo (fun x x1 x2 => al x x1 (by omega))
    have p := sp_up (t := u) (v := ptM P ((P.length : Int) - 1)) ok lm (Int.le_refl _) lo (fun x x1 x2 => al x (by omega) x2)
    have d : u ≤ ptM P 0 := d
    have p : ptM P ((P.length : Int) - 1) ≤ v := p
    omega
  · rintro ⟨e1, e2⟩
    have : l = [(u, v)] := by
      cases l with
      | nil => simp at h0
      | cons q l =>
        simp at h0
        rw [h0]
        cases l with
        | nil => rfl
        | cons q2 l =>
          exfalso
          have o3 := (spOk_cons ok).2.2 q2 (by simp)
          have q2o := ok.2 q2 (by simp)
          have := gin q2.1 ((hm _).mp ⟨q2, by simp, by omega, by omega⟩)
          rw [h0] at o3
          have o3 : v + 1 < q2.1 := o3
          omega
    rw [this]
    simp [spC]
    omega
theorem wnX_pos (q : Int × Int) : 0 < (wnX q).length := by
  unfold wnX dtT tmT
  simp
theorem s_Ref_writeNote {h : am_H} {i k : Nat} {L : Nat × Sl} {S : Sp} {P : List Tn} {Q : am_H → Prop} (m : rfF h) (rl : rlA h i L) (hi : i < 12) (o : slO L.2) (lb : slB L.2) (rh : rhA h k S) (hk : k < 6) (os : spO S) (sb : spB S) (r : rpA h L.1 P) (g : gW P) (hp : L.1 < 8)
    (K : ∀ h', rk h h' → wrA h' (noteT (wl P L.2 S) (alw P (wl P L.2 S))) → Q h') : am_Ew m_Ref_writeNote 0 0 [.ref 87, .int (ji i), .int (ji k)] h Q := by
  obtain ⟨w0, f0⟩ := wr_clr m
  have wl9 := wb9
  have ws := wb_same
  obtain ⟨ok, hm⟩ := wl_ok (S := S) g lb.2.2.1.1
  have l16 := gd_len g lb.2.2.1.1 ok hm
  revert ok hm l16 K
  generalize wl P L.2 S = l
  intro K ok hm l16
  refine ev_Ref_writeNote 87 (ji i) (ji k) h Q ⟨m.1, s_Ref_findGood2 w0.1 (rl.rk f0.rk) hi o lb (rh.rk f0.rk) hk os sb (r.rk f0.rk) g hp (fun h1 f1 g1 s1 => ⟨g1.1.1, ?_⟩)⟩
  have F1 := f0.rk.tr f1
  have w1 : wrA h1 [] := ⟨g1.1, by rw [s1 39 (by omega)]; exact w0.2.1, by simp, fun i c hc => by simp at hc⟩
  obtain ⟨mm, i29, i30, mk, gb, gin⟩ := id g1
  have bz : ∀ q ∈ l, (0 ≤ q.1 ∧ q.1 ≤ 13439) ∧ (0 ≤ q.2 ∧ q.2 ≤ 13439) := fun q hq => by
    have qo := ok.2 q hq
    have a := gin q.1 ((hm _).mp ⟨q, hq, by omega, by omega⟩)
    have b := gin q.2 ((hm _).mp ⟨q, hq, by omega, by omega⟩)
    omega
  have loop : l ≠ [] → alw P l = false → ∀ (n j : Nat) (t : Int) (h2 : am_H), j + n = l.length → rk h h2 → goodA h2 (ptM P 0) (ptM P ((P.length : Int) - 1)) (gd P L.2 S) → wrA h2 (jn (wb 8) (at0 wnX l) j) → cutAt l j t → (ptM P 0 ≤ t ∧ t ≤ ptM P ((P.length : Int) - 1) + 1) → am_EI m_Ref_writeNote 0 0 63 [.ref 87, .int (ji i), .int (ji k), .int (ji t)] [] h2 (am_qw Q) := by
    intro ne hal n
    have fin : ∀ h2, rk h h2 → wrA h2 (jn (wb 8) (at0 wnX l) l.length) → Q h2 := fun h2 f2 w2 => K h2 f2 (by unfold noteT; rw [if_neg ne, hal, if_neg (by decide)]; exact w2)
    induction n with
    | zero =>
      intro j t h2 hj f2 g2 w2 c ht
      obtain rfl : j = l.length := by omega
      refine sg_Ref_writeNote_63 87 _ _ _ h2 _ ⟨g2.1.1, ?_⟩
      rw [g2.2.2.1, ji_lt]
      refine ⟨fun _ => fin h2 f2 w2, fun q => s_Ref_findWindow g2 (by omega) (fun h3 u v f3 a1 a2 a3 a4 a5 a6 a7 a8 => ?_) (fun h3 f3 _ => ⟨fun _ => fin h3 (f2.tr (f3.rk (by omega))) (w2.kw f3), fun q => absurd rfl q⟩)⟩
      have := (List.getElem?_eq_some_iff.mp (cut_some ok hm c a1 a2 a4 a5 a6).1).1
      omega
    | succ n ih =>
      intro j t h2 hj f2 g2 w2 c ht
      refine sg_Ref_writeNote_63 87 _ _ _ h2 _ ⟨g2.1.1, ?_⟩
      rw [g2.2.2.1, ji_lt]
      refine ⟨fun q => ?_, fun q => s_Ref_findWindow g2 (by omega) (fun h3 u v f3 a1 a2 a3 a4 a5 a6 a7 a8 => ⟨fun q => absurd q (by decide), fun _ => ⟨(g2.kw f3 (by omega)).1.1, ?_⟩⟩) (fun h3 f3 no => ?_)⟩
      · have := cut_none ok hm c (fun x x1 x2 => by have := (gin x x2).2; omega)
        omega
      · have cs := cut_some ok hm c a1 a2 a4 a5 a6
        have g3 := g2.kw f3 (by omega)
        have w3 := w2.kw f3
        have F3 := f2.tr (f3.rk (by omega))
        have bq := bz (u, v) (List.mem_of_getElem? cs.1)
        have d1 := dtT_len' bq.1
        have d2 := dtT_len' bq.2
        have bq1 : 0 ≤ u ∧ u ≤ 13439 := bq.1
        have bq2 : 0 ≤ v ∧ v ≤ 13439 := bq.2
        have d1 : (dtT u).length ≤ 6 := d1
        have d2 : (dtT v).length ≤ 6 := d2
        have jl : (jn (wb 8) (at0 wnX l) j).length ≤ j * ((wb 8).length + 13) := jn_len (at0_len (fun p hp => wnX_len (bz p hp))) j
        rw [wl9.2.2.2.1] at jl
        have ex : jn (wb 8) (at0 wnX l) (j + 1) = jn (wb 8) (at0 wnX l) j ++ (if j = 0 then [] else wb 8) ++ wnX (u, v) := by
          show _ ++ _ ++ at0 wnX l j = _
          rw [at0_at cs.1]
        have nx : ∀ h6, rk h h6 → goodA h6 (ptM P 0) (ptM P ((P.length : Int) - 1)) (gd P L.2 S) → wrA h6 (jn (wb 8) (at0 wnX l) (j + 1)) → am_I h6 87 33 = ji v → am_EI m_Ref_writeNote 0 0 63 [.ref 87, .int (ji i), .int (ji k), .int (am_I h6 87 33 + 1)] [] h6 (am_qw Q) := fun h6 f6 g6 w6 e6 => by
          rw [e6, jk1, ji_add]
          exact ih (j + 1) (v + 1) h6 (by omega) f6 g6 w6 cs.2 (by omega)
        have p39 : (am_I h3 87 39 ≤ 0) ↔ j = 0 := by
          rw [w3.2.1, show (ji ((jn (wb 8) (at0 wnX l) j).length : Int) ≤ 0) ↔ (ji ((jn (wb 8) (at0 wnX l) j).length : Int) ≤ ji 0) from Iff.rfl, ji_le]
          constructor
          · intro h0
            cases j with
            | zero => rfl
            | succ j =>
              exfalso
              obtain ⟨q', hq'⟩ : ∃ q', l[j]? = some q' := ⟨_, List.getElem?_eq_getElem (by omega)⟩
              have e' : jn (wb 8) (at0 wnX l) (j + 1) = jn (wb 8) (at0 wnX l) j ++ (if j = 0 then [] else wb 8) ++ wnX q' := by
                show _ ++ _ ++ at0 wnX l j = _
                rw [at0_at hq']
              have := wnX_pos q'
              rw [e'] at h0
              simp only [List.length_append] at h0
              omega
          · intro h0
            rw [h0]
            simp [jn]
        rw [p39, jk45, a7]
        refine ⟨fun c0 => ?_, fun c0 => s_Ref_writeWord w3 (by omega) (by omega) (fun h4 f4 w4 => ⟨w4.1.1, ?_⟩)⟩
        · refine s_Ref_writeMinute w3 (by first | omega | (simp; omega)) (by omega) (fun h5 f5 w5 => ⟨w5.1.1, ?_⟩)
          have g5 := g3.ww f5
          have F5 := (F3).tr f5.rk
          have e32 : am_I h5 87 32 = ji u := by rw [f5.2.2.2.2 32 (by omega)]; exact a7
          have e33 : am_I h5 87 33 = ji v := by rw [f5.2.2.2.2 33 (by omega)]; exact a8
          have cm : (am_I h5 87 33 ≤ am_I h5 87 32) ↔ v ≤ u := by rw [e32, e33, ji_le]
          rw [cm]
          refine ⟨fun c1 => nx h5 F5 g5 ?_ e33, fun c1 => s_Ref_write w5 (by simp; omega) (fun h6 f6 w6 => ⟨w6.1.1, ?_⟩)⟩
          · rw [ex, if_pos c0]
            unfold wnX
            rw [if_pos (by show v = u; omega)]
            simp only [List.append_assoc, List.nil_append, List.append_nil] at w5 ⊢
            exact w5
          · have e33b : am_I h6 87 33 = ji v := by rw [f6.2.2.2.2 33 (by omega)]; exact e33
            rw [e33b]
            refine s_Ref_writeMinute w6 (by simp; omega) (by omega) (fun h7 f7 w7 => ⟨w7.1.1, nx h7 ((F5.tr f6.rk).tr f7.rk) ((g5.ww f6).ww f7) ?_ (by rw [f7.2.2.2.2 33 (by omega)]; exact e33b)⟩)
            rw [ex, if_pos c0]
            unfold wnX
            rw [if_neg (by show ¬ v = u; omega)]
            simp only [List.append_assoc, List.nil_append, List.cons_append] at w7 ⊢
            exact w7
        · rw [ws.2.2.2.2.1] at w4
          have b7 : am_I h4 87 32 = ji u := by rw [f4.2.2.2.2 32 (by omega)]; exact a7
          have b8 : am_I h4 87 33 = ji v := by rw [f4.2.2.2.2 33 (by omega)]; exact a8
          rw [b7]
          refine s_Ref_writeMinute w4 (by first | omega | (simp; omega)) (by omega) (fun h5 f5 w5 => ⟨w5.1.1, ?_⟩)
          have g5 := (g3.ww f4).ww f5
          have F5 := (F3.tr f4.rk).tr f5.rk
          have e32 : am_I h5 87 32 = ji u := by rw [f5.2.2.2.2 32 (by omega)]; exact b7
          have e33 : am_I h5 87 33 = ji v := by rw [f5.2.2.2.2 33 (by omega)]; exact b8
          have cm : (am_I h5 87 33 ≤ am_I h5 87 32) ↔ v ≤ u := by rw [e32, e33, ji_le]
          rw [cm]
          refine ⟨fun c1 => nx h5 F5 g5 ?_ e33, fun c1 => s_Ref_write w5 (by simp; omega) (fun h6 f6 w6 => ⟨w6.1.1, ?_⟩)⟩
          · rw [ex, if_neg c0]
            unfold wnX
            rw [if_pos (by show v = u; omega)]
            simp only [List.append_assoc, List.nil_append, List.append_nil] at w5 ⊢
            exact w5
          · have e33b : am_I h6 87 33 = ji v := by rw [f6.2.2.2.2 33 (by omega)]; exact e33
            rw [e33b]
            refine s_Ref_writeMinute w6 (by simp; omega) (by omega) (fun h7 f7 w7 => ⟨w7.1.1, nx h7 ((F5.tr f6.rk).tr f7.rk) ((g5.ww f6).ww f7) ?_ (by rw [f7.2.2.2.2 33 (by omega)]; exact e33b)⟩)
            rw [ex, if_neg c0]
            unfold wnX
            rw [if_neg (by show ¬ v = u; omega)]
            simp only [List.append_assoc, List.nil_append, List.cons_append] at w7 ⊢
            exact w7
      · have := cut_none ok hm c no
        omega
  have c0 := cut_0 (f := ptM P 0) ok hm (fun x hx => (gin x hx).1)
  rw [i29]
  refine s_Ref_findWindow g1 (by omega) (fun h3 u v f3 a1 a2 a3 a4 a5 a6 a7 a8 => ⟨fun _ => ⟨(g1.kw f3 (by omega)).1.1, ?_⟩, fun q => absurd q (by decide)⟩) (fun h3 f3 no => ⟨fun q => absurd rfl q, fun _ => ⟨(g1.kw f3 (by omega)).1.1, s_Ref_writeWord (w1.kw f3) (by omega) (by simp) (fun h4 f4 w4 => K h4 ((F1.tr (f3.rk (by omega))).tr f4.rk) ?_)⟩⟩)
  · have cs := cut_some ok hm c0 a1 a2 a4 a5 a6
    have g3 := g1.kw f3 (by omega)
    have w3 := w1.kw f3
    have F3 := F1.tr (f3.rk (by omega))
    have ai := alw_iff ok hm gin gb.2.1 cs.1
    have ne : l ≠ [] := fun q => by rw [q] at cs; simp at cs
    have go : alw P l = false → am_EI m_Ref_writeNote 0 0 63 [.ref 87, .int (ji i), .int (ji k), .int (am_I h3 87 29)] [] h3 (am_qw Q) := fun hal => by
      rw [g3.2.1]
      exact loop ne hal l.length 0 _ h3 (by omega) F3 g3 w3 c0 (by omega)
    rw [a7, a8, g3.2.2.1, show (ji u = am_I h3 87 29) ↔ u = ptM P 0 by rw [g3.2.1, ji_eq], ji_eq]
    refine ⟨fun c => go ?_, fun c => ⟨fun c2 => go ?_, fun c2 => s_Ref_writeWord w3 (by omega) (by simp) (fun h4 f4 w4 => K h4 (F3.tr f4.rk) ?_)⟩⟩
    · cases e : alw P l
      · rfl
      · exact absurd (ai.mp e).1 c
    · cases e : alw P l
      · rfl
      · exact absurd (ai.mp e).2 c2
    · unfold noteT
      rw [if_neg ne, ai.mpr ⟨c, c2⟩, if_pos rfl, ← ws.2.2.2.1]
      simpa using w4
  · have : l.length ≤ 0 := cut_none ok hm c0 no
    unfold noteT
    rw [if_pos (List.length_eq_zero_iff.mp (by omega)), ← ws.2.2.1]
    simpa using w4
theorem rf_note {h : am_H} {s : St} {a b i : Int} {Q : Int32 → am_H → Prop} (m : rfA h s) (ha : -2147483648 ≤ a ∧ a < 2147483648) (hb : -2147483648 ≤ b ∧ b < 2147483648) (hi : -2147483648 ≤ i ∧ i < 2147483648) (k : ∀ h', fi h h' 87 146 → rfA h' (p_note s a b i).2 → Q (ji (p_note s a b i).1) h') : am_Ei m_Ref_note 0 0 [.ref 87, .int (ji a), .int (ji b), .int (ji i)] h Q := by
  refine ev_Ref_note 87 (ji a) (ji b) (ji i) h Q ?_
  rw [jk1]
  refine ⟨m.1.1, s_Ref_isSill m ha (fun L e o lb rl lp n0 n12 => ⟨fun q => absurd q (by decide), fun _ => ⟨m.1.1, s_Ref_isShip m hb (fun S e2 os sb rh k0 k6 => ⟨fun _ => ⟨m.1.1, ?_⟩, fun q => absurd q (by decide)⟩) (fun e2 => ⟨fun q => absurd rfl q, fun _ => ⟨m.1.1, rf_no (p_win_no (Or.inr e2)) m fi.rf k⟩⟩)⟩⟩) (fun e => ⟨fun _ => ⟨m.1.1, rf_no (p_win_no (Or.inl e)) m fi.rf k⟩, fun q => absurd rfl q⟩)⟩
  obtain ⟨i', rfl⟩ := Int.eq_ofNat_of_zero_le n0
  obtain ⟨j', rfl⟩ := Int.eq_ofNat_of_zero_le k0
  rw [Int.toNat_natCast] at rl rh
  obtain ⟨g, rp, hp⟩ := m.port lp
  refine s_Ref_writeNote m.1 rl (by omega) o lb rh (by omega) os sb rp g hp (fun h1 f1 w1 => ⟨w1.1.1, ?_⟩)
  exact s_Ref_tell (p_win_some e e2) (m.rk f1) w1 f1.fi hi k
theorem rf_letter {h : am_H} {s : St} {w n i : Int} {Q : Int32 → am_H → Prop} (m : rfA h s) (hw : -2147483648 ≤ w ∧ w < 2147483648) (hn : -2147483648 ≤ n ∧ n < 2147483648) (hi : -2147483648 ≤ i ∧ i < 2147483648) (k : ∀ h', fi h h' 87 146 → rfA h' (p_letter s w n i).2 → Q (ji (p_letter s w n i).1) h') : am_Ei m_Ref_letter 0 0 [.ref 87, .int (ji w), .int (ji n), .int (ji i)] h Q := by
  have e0 : (ji w = 0) ↔ w = 0 := by rw [jk0, ji_eq]
  have e1 : (ji w = 1) ↔ w = 1 := by rw [jk1, ji_eq]
  have e2 : (ji w = 2) ↔ w = 2 := by rw [jk2, ji_eq]
  have no : (0 ≤ w ∧ w ≤ 3) → wrt s w n = [] → am_EI m_Ref_letter 0 0 70 [.ref 87, .int (ji w), .int (ji n), .int (ji i)] [] h (am_qi Q) := by
    intro c ew
    refine sg_Ref_letter_70 87 _ _ _ h _ ⟨m.1.1, ?_⟩
    rw [jk1]
    refine rf_no (X := p_letter s w n i) ((cif_pos c).trans ?_) m fi.rf k
    rw [ew]
    exact cif_neg (by simp)
  have yes : (0 ≤ w ∧ w ≤ 3) → ∀ h1 l, ww h h1 → wrA h1 l → l = wrt s w n → am_EI m_Ref_letter 0 0 119 [.ref 87, .int (ji w), .int (ji n), .int (ji i)] [] h1 (am_qi Q) := by
    intro c h1 l f1 w1 el
    exact sg_Ref_letter_119 87 _ _ _ h1 _ ⟨w1.1.1, s_Ref_tell (X := p_letter s w n i) ((cif_pos c).trans (by rw [el])) (m.rk f1.rk) w1 f1.rk.fi hi k⟩
  refine ev_Ref_letter 87 (ji w) (ji n) (ji i) h Q ?_
  rw [show (Value.int (0 : Int32)) = Value.int (ji 0) from rfl, jk3]
  refine s_Ref_isIn hw (by omega) (by omega) (fun c => ⟨fun _ => ?_, fun q => absurd q (by decide)⟩) (fun c => ⟨fun q => absurd rfl q, fun _ => ⟨m.1.1, rf_no (X := p_letter s w n i) (cif_neg c) m fi.rf k⟩⟩)
  rw [e0, e1, e2]
  refine ⟨fun w0 => ⟨fun w1 => ⟨fun w2 => ⟨m.1.1, s_Ref_isRoute m hn (fun R e hl hR x n0 n8 => ⟨fun _ => ?_, fun q => absurd q (by decide)⟩) (fun e => ⟨fun q => absurd rfl q, fun _ => no c ?_⟩)⟩, fun w2 => ⟨m.1.1, s_Ref_isShip m hn (fun S e os sb x n0 n8 => ⟨fun q => absurd q (by decide), fun _ => ?_⟩) (fun e => ⟨fun _ => no c ?_, fun q => absurd rfl q⟩)⟩⟩, fun w1 => ⟨m.1.1, s_Ref_isSill m hn (fun L e o lb x lp n0 n12 => ⟨fun q => absurd q (by decide), fun _ => ?_⟩) (fun e => ⟨fun _ => no c ?_, fun q => absurd rfl q⟩)⟩⟩, fun w0 => ⟨m.1.1, s_Ref_isPort m hn (fun P e g x n0 n8 => ⟨fun q => absurd q (by decide), fun _ => ?_⟩) (fun e => ⟨fun _ => no c ?_, fun q => absurd rfl q⟩)⟩⟩
  · obtain ⟨p, rfl⟩ := Int.eq_ofNat_of_zero_le n0
    rw [Int.toNat_natCast] at x
    refine sg_Ref_letter_76 87 _ _ _ h _ ?_
    rw [e0, e1, e2]
    refine ⟨fun _ => ⟨fun _ => ⟨fun _ => ⟨m.1.1, s_Ref_writeRoute m.1 x hl.2.1 (fun q hq => (hR q hq).1) (by omega) (fun h1 f1 w1' => yes c h1 _ f1 w1' ?_)⟩, fun q => absurd q w2⟩, fun q => absurd q w1⟩, fun q => absurd q w0⟩
    unfold wrt
    rw [if_neg w0, if_neg w1, if_neg w2, e]
  · unfold wrt
    rw [if_neg w0, if_neg w1, if_neg w2, e]
  · obtain ⟨p, rfl⟩ := Int.eq_ofNat_of_zero_le n0
    rw [Int.toNat_natCast] at x
    refine sg_Ref_letter_76 87 _ _ _ h _ ?_
    rw [e0, e1, e2]
    refine ⟨fun _ => ⟨fun _ => ⟨fun q => absurd w2 q, fun _ => ⟨m.1.1, s_Ref_writeShip m.1 x (by omega) sb (fun h1 f1 w1' => yes c h1 _ f1 w1' ?_)⟩⟩, fun q => absurd q w1⟩, fun q => absurd q w0⟩
    unfold wrt
    rw [if_neg w0, if_neg w1, if_pos w2, e]
  · unfold wrt
    rw [if_neg w0, if_neg w1, if_pos w2, e]
  · obtain ⟨p, rfl⟩ := Int.eq_ofNat_of_zero_le n0
    rw [Int.toNat_natCast] at x
    refine sg_Ref_letter_76 87 _ _ _ h _ ?_
    rw [e0, e1, e2]
    refine ⟨fun _ => ⟨fun q => absurd w1 q, fun _ => ⟨m.1.1, s_Ref_writeSill m.1 x (by omega) lb (fun h1 f1 w1' => yes c h1 _ f1 w1' ?_)⟩⟩, fun q => absurd q w0⟩
    unfold wrt
    rw [if_neg w0, if_pos w1, e]
  · unfold wrt
    rw [if_neg w0, if_pos w1, e]
  · obtain ⟨p, rfl⟩ := Int.eq_ofNat_of_zero_le n0
    rw [Int.toNat_natCast] at x
    refine sg_Ref_letter_76 87 _ _ _ h _ ?_
    rw [e0, e1, e2]
    refine ⟨fun q => absurd w0 q, fun _ => ⟨m.1.1, s_Ref_writePort m.1 x g (by omega) (fun h1 f1 w1' => yes c h1 _ f1 w1' ?_)⟩⟩
    unfold wrt
    rw [if_pos w0, e]
  · unfold wrt
    rw [if_pos w0, e]
