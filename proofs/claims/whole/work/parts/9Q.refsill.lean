/-! the reference: a sill -/
theorem rfA.sill {h : am_H} {s : St} {p : Nat} {L : Sl} (m : rfA h s) (o : slO L) (b : slB L) (hp : p < s.2.1.length) (hl : s.2.2.1.length < 12) : rfA (am_si (am_si (am_si (am_si (am_si (am_si h 93 s.2.2.1.length (ji p)) 94 s.2.2.1.length (ji L.1)) 95 s.2.2.1.length (ji L.2.1)) 96 s.2.2.1.length (ji L.2.2.1)) 97 s.2.2.1.length (ji L.2.2.2)) 87 10 (ji (s.2.2.1.length + 1))) (stL s (p, L)) := by
  generalize hH : am_si (am_si (am_si (am_si (am_si (am_si h 93 s.2.2.1.length (ji p)) 94 s.2.2.1.length (ji L.1)) 95 s.2.2.1.length (ji L.2.1)) 96 s.2.2.1.length (ji L.2.2.1)) 97 s.2.2.1.length (ji L.2.2.2)) 87 10 (ji (s.2.2.1.length + 1)) = H
  have n : ∀ k, k ≠ 10 → am_I H 87 k = am_I h 87 k := fun k hk => by rw [← hH, am_I_sis, va_up_no _ _ hk, am_I_sin (by omega), am_I_sin (by omega), am_I_sin (by omega), am_I_sin (by omega), am_I_sin (by omega)]
  have n10 : am_I H 87 10 = ji (s.2.2.1.length + 1) := by rw [← hH, am_I_sis, va_up_at]
  have r : ∀ c, c ≠ 87 → (c < 93 ∨ 98 ≤ c) → am_I H c = am_I h c := fun c h1 h2 => by rw [← hH, am_I_sin h1, am_I_sin (by omega), am_I_sin (by omega), am_I_sin (by omega), am_I_sin (by omega), am_I_sin (by omega)]
  have r93 : ∀ k, am_I H 93 k = va_up (am_I h 93) s.2.2.1.length (ji p) k := fun k => by rw [← hH, am_I_sin (by omega), am_I_sin (by omega), am_I_sin (by omega), am_I_sin (by omega), am_I_sin (by omega), am_I_sis]
  have r94 : ∀ k, am_I H 94 k = va_up (am_I h 94) s.2.2.1.length (ji L.1) k := fun k => by rw [← hH, am_I_sin (by omega), am_I_sin (by omega), am_I_sin (by omega), am_I_sin (by omega), am_I_sis, am_I_sin (by omega)]
  have r95 : ∀ k, am_I H 95 k = va_up (am_I h 95) s.2.2.1.length (ji L.2.1) k := fun k => by rw [← hH, am_I_sin (by omega), am_I_sin (by omega), am_I_sin (by omega), am_I_sis, am_I_sin (by omega), am_I_sin (by omega)]
  have r96 : ∀ k, am_I H 96 k = va_up (am_I h 96) s.2.2.1.length (ji L.2.2.1) k := fun k => by rw [← hH, am_I_sin (by omega), am_I_sin (by omega), am_I_sis, am_I_sin (by omega), am_I_sin (by omega), am_I_sin (by omega)]
  have r97 : ∀ k, am_I H 97 k = va_up (am_I h 97) s.2.2.1.length (ji L.2.2.2) k := fun k => by rw [← hH, am_I_sin (by omega), am_I_sis, am_I_sin (by omega), am_I_sin (by omega), am_I_sin (by omega), am_I_sin (by omega)]
  have e1 : am_tg H = am_tg h := by rw [← hH]; rfl
  have e2 : am_P H = am_P h := by rw [← hH]; rfl
  obtain ⟨m1, m2, m3, m4, m5, m6, m7⟩ := m
  have el : (s.2.2.1 ++ [(p, L)]).length = s.2.2.1.length + 1 := by rw [List.length_append]; rfl
  refine ⟨?_, ?_, ?_, ⟨?_, ?_, fun i S' hS => ?_⟩, ?_, ?_, ?_⟩
  · unfold rfF
    rw [e1, e2]
    exact m1
  · unfold rfT
    rw [n 1 (by omega), r 88 (by omega) (by omega)]
    exact m2
  · unfold rfP rpA
    rw [n 5 (by omega), r 89 (by omega) (by omega), r 90 (by omega) (by omega), r 91 (by omega) (by omega), r 92 (by omega) (by omega)]
    exact m3
  · show am_I H 87 10 = ji ((s.2.2.1 ++ [(p, L)]).length : Int)
    rw [n10, el]
    rfl
  · show (s.2.2.1 ++ [(p, L)]).length ≤ 12
    omega
  · have hS : (s.2.2.1 ++ [(p, L)])[i]? = some S' := hS
    show slO S'.2 ∧ slB S'.2 ∧ S'.1 < s.2.1.length ∧ rlA H i S'
    unfold rlA
    rw [r93, r94, r95, r96, r97]
    rcases Nat.lt_or_ge i s.2.2.1.length with q | q
    · rw [List.getElem?_append_left q] at hS
      rw [va_up_no _ _ (by omega), va_up_no _ _ (by omega), va_up_no _ _ (by omega), va_up_no _ _ (by omega), va_up_no _ _ (by omega)]
      exact m4.2.2 i S' hS
    · have hi := (List.getElem?_eq_some_iff.mp hS).1
      have e : i = s.2.2.1.length := by omega
      rw [e, List.getElem?_append_right (Nat.le_refl _), Nat.sub_self] at hS
      cases hS
      rw [e, va_up_at, va_up_at, va_up_at, va_up_at, va_up_at]
      exact ⟨o, b, hp, rfl, rfl, rfl, rfl, rfl⟩
  · unfold rfH rhA
    rw [n 16 (by omega), r 98 (by omega) (by omega), r 99 (by omega) (by omega), r 100 (by omega) (by omega)]
    exact m5
  · have m6' : rfR h s.2.2.1.length s.2.2.2.2.1 := m6
    show rfR H (s.2.2.1 ++ [(p, L)]).length s.2.2.2.2.1
    rw [el]
    unfold rfR rrA at m6' ⊢
    rw [n 20 (by omega), r 101 (by omega) (by omega), r 102 (by omega) (by omega), r 103 (by omega) (by omega), r 104 (by omega) (by omega), r 105 (by omega) (by omega)]
    refine ⟨m6'.1, m6'.2.1, fun i R hR => ?_⟩
    obtain ⟨x1, x2, x3⟩ := m6'.2.2 i R hR
    exact ⟨x1, fun q hq => ⟨(x2 q hq).1, by have := (x2 q hq).2.1; omega, (x2 q hq).2.2⟩, x3⟩
  · unfold rfS
    rw [n 2 (by omega), n 3 (by omega), n 4 (by omega)]
    exact m7
theorem aN_f {T : List Int} {s : Nat × Bool} (h : s.2 = false) : aN T s = s := by
  obtain ⟨p, ok⟩ := s
  cases ok
  · rfl
  · cases h
theorem aS_f {T : List Int} {p : Nat} : aS T (p, false) = (p, false) := rfl
theorem rf_sill {h : am_H} {s : St} {n : Int} {Q : Int32 → am_H → Prop} (m : rfA h s) (hn : -2147483648 ≤ n ∧ n < 2147483648) (k : ∀ h', fi h h' 87 146 → rfA h' (p_sill s n).2 → Q (ji (p_sill s n).1) h') : am_Ei m_Ref_sill 0 0 [.ref 87, .int (ji n)] h Q := by
  refine ev_Ref_sill 87 (ji n) h Q ⟨m.1.1, s_Ref_isPort m hn (fun P e g r n0 n8 => ⟨fun _ => ⟨m.1.1, s_Ref_begins m.1 m.2.1 (fun h1 f1 t1 => ⟨t1.1.1, ?_⟩)⟩, fun q => absurd q (by decide)⟩) (fun e => ⟨fun q => absurd rfl q, fun _ => ⟨m.1.1, s_Ref_refusedUnread (X := p_sill s n) (by unfold p_sill; rw [e]) m fi.rf k⟩⟩)⟩
  have hb : ∀ (i : Nat) (b : Int), s.1[i]? = some b → 0 ≤ b ∧ b < 256 := fun i b hi => (m.2.1.2.2 i b hi).2
  obtain ⟨g0, g1, g2⟩ := gt_some e
  have eP : p_sill s n = rdP s (slR s.1 (sk s.1 0, true)).2 (fun s' => kpL s' n.toNat (slR s.1 (sk s.1 0, true)).1) := by unfold p_sill; rw [e]
  -- kept
  have f166 : ∀ (H : am_H) (s' : St) (L : Sl), rfA H s' → fi h H 87 146 → slO L → slB L → n.toNat < s'.2.1.length → stF s' 0 = s' → p_sill s n = kpL s' n.toNat L → am_EI m_Ref_sill 0 0 166 [.ref 87, .int (ji n), .int (ji L.1), .int (ji L.2.1), .int (ji L.2.2.1), .int (ji L.2.2.2)] [] H (am_qi Q) := by
    intro H s' L M F o bL hp f0 e1
    have e2 : p_sill s n = cif (s'.2.2.1.length < 12) ((s'.2.2.1.length : Int), stS (stL s' (n.toNat, L)) 0) (rfs s' 9) := by
      rw [e1]
      unfold kpL
      rw [cif_pos o, f0]
    have i10 := M.2.2.2.1.1
    have l10 := M.2.2.2.1.2.1
    refine sg_Ref_sill_166 87 _ _ _ _ _ H _ ⟨M.1.1, ?_⟩
    rw [i10, jk12, ji_eq, jk9]
    refine ⟨fun c6 => ?_, fun c6 => rf_no (X := p_sill s n) (by rw [e2]; exact cif_neg (by omega)) M F k⟩
    have hl : s'.2.2.1.length < 12 := by omega
    rw [cif_pos hl] at e2
    have q1 : ∀ k v, am_I (am_si H 93 k v) 87 10 = ji (s'.2.2.1.length : Int) := fun k v => by rw [am_I_sin (by omega)]; exact i10
    have q2 : ∀ k v k2 v2, am_I (am_si (am_si H 93 k v) 94 k2 v2) 87 10 = ji (s'.2.2.1.length : Int) := fun k v k2 v2 => by rw [am_I_sin (by omega)]; exact q1 k v
    have q3 : ∀ k v k2 v2 k3 v3, am_I (am_si (am_si (am_si H 93 k v) 94 k2 v2) 95 k3 v3) 87 10 = ji (s'.2.2.1.length : Int) := fun k v k2 v2 k3 v3 => by rw [am_I_sin (by omega)]; exact q2 k v k2 v2
    have q4 : ∀ k v k2 v2 k3 v3 k4 v4, am_I (am_si (am_si (am_si (am_si H 93 k v) 94 k2 v2) 95 k3 v3) 96 k4 v4) 87 10 = ji (s'.2.2.1.length : Int) := fun k v k2 v2 k3 v3 k4 v4 => by rw [am_I_sin (by omega)]; exact q3 k v k2 v2 k3 v3
    have q5 : ∀ k v k2 v2 k3 v3 k4 v4 k5 v5, am_I (am_si (am_si (am_si (am_si (am_si H 93 k v) 94 k2 v2) 95 k3 v3) 96 k4 v4) 97 k5 v5) 87 10 = ji (s'.2.2.1.length : Int) := fun k v k2 v2 k3 v3 k4 v4 k5 v5 => by rw [am_I_sin (by omega)]; exact q4 k v k2 v2 k3 v3 k4 v4
    have tn : (ji (s'.2.2.1.length : Int)).toNatClampNeg = s'.2.2.1.length := by rw [ji_tn, Int.toNat_natCast]
    refine ⟨93, M.1.p11, by rw [M.1.t11], by rw [M.1.t11, ji_in]; omega, 94, M.1.p12, by rw [M.1.t12], by rw [M.1.t12, q1, ji_in]; omega, 95, M.1.p13, by rw [M.1.t13], by rw [M.1.t13, q2, ji_in]; omega, 96, M.1.p14, by rw [M.1.t14], by rw [M.1.t14, q3, ji_in]; omega, 97, M.1.p15, by rw [M.1.t15], by rw [M.1.t15, q4, ji_in]; omega, ?_⟩
    rw [q1, tn, q2, tn, q3, tn, q4, tn, q5, jk1, ji_add, am_I_sis, va_up_at, ji_sub, show (s'.2.2.1.length : Int) + 1 - 1 = (s'.2.2.1.length : Int) by omega]
    have M2 := M.sill (p := n.toNat) o bL hp hl
    rw [show ((n.toNat : Nat) : Int) = n by omega] at M2
    exact rf_an (X := p_sill s n) e2 M2 ((((((F.tr (fi.si (by omega) (by omega))).tr (fi.si (by omega) (by omega))).tr (fi.si (by omega) (by omega))).tr (fi.si (by omega) (by omega))).tr (fi.si (by omega) (by omega))).tr (fi.si (by omega) (by omega))) k
  -- read
  have f92 : ∀ (h2 : am_H) (E : Nat × Bool) (L : Sl), tkA h2 s.1 E → rk (am_si h 87 4 0) h2 → E = (slR s.1 (sk s.1 0, true)).2 → (E.2 = true → L = (slR s.1 (sk s.1 0, true)).1 ∧ slB L ∧ (¬ (L.1 = 1 ∨ L.1 = 2) → L.2.2.1 = 0)) → am_EI m_Ref_sill 0 0 92 [.ref 87, .int (ji n), .int (ji L.1), .int (ji L.2.1), .int (ji L.2.2.1), .int (ji L.2.2.2)] [] h2 (am_qi Q) := by
    intro h2 E L t2 fk hE hL
    refine sg_Ref_sill_92 87 _ _ _ _ _ h2 _ ⟨t2.1.1, s_Ref_ends t2 ?_⟩
    have M := rf_read (e := E) (v := bi (rdW s.1 E)) m fk
    have F := fi_read (v := bi (rdW s.1 E)) (w := (if rdW s.1 E then (-9999 : Int32) else ji (E.1 : Int))) fk
    generalize am_si (am_si (am_si h2 87 45 (bi (rdW s.1 E))) 87 3 (if rdW s.1 E then (-9999 : Int32) else ji (E.1 : Int))) 87 1 0 = H at M F ⊢
    rw [bi_0]
    rw [← hE] at eP
    refine ⟨fun c => ?_, fun c => ⟨M.1.1, ?_⟩⟩
    rotate_left
    · rw [jk2]
      exact rf_no (X := p_sill s n) (by rw [eP]; exact cif_neg (by rw [c]; decide)) M F k
    have hw : rdW s.1 E = true := by cases e1 : rdW s.1 E; exact absurd e1 c; rfl
    have e2 : E.2 = true := by unfold rdW at hw; rw [Bool.and_eq_true] at hw; exact hw.1
    obtain ⟨l1, l2, l3⟩ := hL e2
    have eK : p_sill s n = kpL (rdS s E) n.toNat L := by rw [eP, l1]; exact cif_pos hw
    obtain ⟨b1, b2, b3, b4⟩ := id l2
    have bad : ¬ slO L → am_EI m_Ref_sill 0 0 159 [.ref 87, .int (ji n), .int (ji L.1), .int (ji L.2.1), .int (ji L.2.2.1), .int (ji L.2.2.2)] [] H (am_qi Q) := by
      intro o
      refine sg_Ref_sill_159 87 _ _ _ _ _ H _ ⟨M.1.1, ?_⟩
      rw [jk8]
      exact s_Ref_faulty (X := p_sill s n) (by rw [eK]; exact cif_neg o) M F k
    have good : slO L → am_EI m_Ref_sill 0 0 166 [.ref 87, .int (ji n), .int (ji L.1), .int (ji L.2.1), .int (ji L.2.2.1), .int (ji L.2.2.2)] [] H (am_qi Q) := fun o => f166 H (rdS s E) L M F o l2 (by show n.toNat < s.2.1.length; omega) rfl eK
    have f132 : ∀ lo hi : Int, (lo = -500 ∧ hi = 1500 ∧ L.1 ≠ 3 ∨ lo = 0 ∧ hi = 9999 ∧ L.1 = 3) → am_EI m_Ref_sill 0 0 132 [.ref 87, .int (ji n), .int (ji L.1), .int (ji L.2.1), .int (ji L.2.2.1), .int (ji L.2.2.2)] [.int (ji hi), .int (ji lo), .int (ji L.2.1)] H (am_qi Q) := by
      intro lo hi hlh
      refine sg_Ref_sill_132 87 _ _ _ _ _ _ _ _ H _ ?_
      rw [jk600, jk1, ji_lt, ji_eq, ji_le]
      refine s_Ref_isIn (by omega) (by omega) (by omega) (fun z => ⟨fun q => absurd q (by decide), fun _ => ⟨fun z6 => bad (fun o => ?_), fun z6 => ⟨fun z1 => good ?_, fun z1 => ⟨fun z2 => good ?_, fun z2 => bad (fun o => ?_)⟩⟩⟩⟩) (fun z => ⟨fun _ => bad (fun o => ?_), fun q => absurd rfl q⟩)
      · by_cases c12 : L.1 = 1 ∨ L.1 = 2
        · have := o.2.2.1 c12
          omega
        · have := l3 c12
          omega
      · exact ⟨fun _ => by omega, fun _ => by omega, fun _ => by omega, fun _ => by omega⟩
      · exact ⟨fun _ => by omega, fun _ => by omega, fun _ => by omega, fun _ => by omega⟩
      · have := o.2.2.2 z1
        omega
      · rcases hlh with ⟨a1, a2, a3⟩ | ⟨a1, a2, a3⟩
        · have := o.2.1 a3
          omega
        · have := o.1 a3
          omega
    have c3 : (ji L.1 = 3) ↔ L.1 = 3 := by rw [jk3, ji_eq]
    rw [c3]
    refine ⟨fun z => sg_Ref_sill_118 87 _ _ _ _ _ _ _ H _ ?_, fun z => sg_Ref_sill_118 87 _ _ _ _ _ _ _ H _ ?_⟩
    · rw [c3, jm500, jk1500]
      exact ⟨fun _ => f132 (-500) 1500 (by omega), fun q => absurd q z⟩
    · rw [c3]
      exact ⟨fun q => absurd z q, fun _ => f132 0 9999 (by omega)⟩
  -- the kind
  obtain ⟨w1, w2⟩ := slW_eq (T := s.1) (s := (sk s.1 0, true)) hb
  have seg39 : am_EI m_Ref_sill 0 0 39 [.ref 87, .int (ji n), .float 0, .float 0, .float 0, .float 0] [.int (bi (decide (2 ≤ wdI s.1 (sk s.1 0)))), .ref 87] h1 (am_qi Q) := by
    refine sg_Ref_sill_39 87 87 _ _ h1 _ ⟨t1.1.1, s_Ref_must t1 (fun h2 f2 t2 => ⟨t2.1.1, s_Ref_takeW t2 (fun c h3 f3 t3 => ⟨t3.1.1, s_Ref_size t3 (fun h4 f4 t4 b4 => ⟨t4.1.1, ?_⟩)⟩) (fun c h3 f3 t3 => ⟨t3.1.1, s_Ref_size t3 (fun h4 f4 t4 b4 => ⟨t4.1.1, ?_⟩)⟩)⟩)⟩
    · have fk := (((f1.tr f2).tr f3).tr f4).rk (by omega)
      have wf : (true && decide (2 ≤ wdI s.1 (sk s.1 0))) = false := by
        have c' : ((true && decide (2 ≤ wdI s.1 (sk s.1 0))) && decide (0 ≤ wdI s.1 (sk s.1 0))) = false := c
        by_cases q : 2 ≤ wdI s.1 (sk s.1 0)
        · rw [decide_eq_true q, decide_eq_true (by omega)] at c'
          cases c'
        · rw [decide_eq_false q]
          rfl
      have eR : (slR s.1 (sk s.1 0, true)).2 = (sk s.1 0, false) := by
        unfold slR
        rw [w2 wf]
        rfl
      rw [t4.2.2.2.1, bi_0, jk0, jk2, ji_sub]
      have i0 : (aS s.1 (sk s.1 0, false)).2 = false := rfl
      refine ⟨fun _ => f92 h4 (sk s.1 0, false) (0 - 2, vS s.1 (sk s.1 0, false), 0, 0) t4 fk eR.symm (fun q => by cases q), fun q => absurd i0 q⟩
    · have fk := (((f1.tr f2).tr f3).tr f4).rk (by omega)
      have c' : ((true && decide (2 ≤ wdI s.1 (sk s.1 0))) && decide (0 ≤ wdI s.1 (sk s.1 0))) = true := c
      rw [Bool.and_eq_true] at c'
      have wd2 : 2 ≤ wdI s.1 (sk s.1 0) := by
        have := c'.1
        rw [Bool.true_and, decide_eq_true_iff] at this
        exact this
      have wb := wdI_bd s.1 (sk s.1 0)
      have e1 := w1 c'.1
      have eR : slR s.1 (sk s.1 0, true) = slX s.1 (wdI s.1 (sk s.1 0) - 2) (sk s.1 (sk s.1 0 + nl s.1 (sk s.1 0)), true) := by
        unfold slR
        rw [e1]
      have t3' : tkA h3 s.1 (sk s.1 (sk s.1 0 + nl s.1 (sk s.1 0)), true) := t3
      show (am_I h4 87 45 = 0 → am_EI m_Ref_sill 0 0 92 [.ref 87, .int (ji n), .int (ji (wdI s.1 (sk s.1 0)) - 2), .int (ji (vS s.1 (sk s.1 (sk s.1 0 + nl s.1 (sk s.1 0)), true))), .int 0, .int 0] [] h4 (am_qi Q)) ∧ (¬ am_I h4 87 45 = 0 → ((ji (wdI s.1 (sk s.1 0)) - 2 = 1 → am_EI m_Ref_sill 0 0 78 [.ref 87, .int (ji n), .int (ji (wdI s.1 (sk s.1 0)) - 2), .int (ji (vS s.1 (sk s.1 (sk s.1 0 + nl s.1 (sk s.1 0)), true))), .int 0, .int 0] [] h4 (am_qi Q)) ∧ (¬ ji (wdI s.1 (sk s.1 0)) - 2 = 1 → ((¬ ji (wdI s.1 (sk s.1 0)) - 2 = 2 → am_EI m_Ref_sill 0 0 92 [.ref 87, .int (ji n), .int (ji (wdI s.1 (sk s.1 0)) - 2), .int (ji (vS s.1 (sk s.1 (sk s.1 0 + nl s.1 (sk s.1 0)), true))), .int 0, .int 0] [] h4 (am_qi Q)) ∧ (ji (wdI s.1 (sk s.1 0)) - 2 = 2 → am_EI m_Ref_sill 0 0 78 [.ref 87, .int (ji n), .int (ji (wdI s.1 (sk s.1 0)) - 2), .int (ji (vS s.1 (sk s.1 (sk s.1 0 + nl s.1 (sk s.1 0)), true))), .int 0, .int 0] [] h4 (am_qi Q))))))
      generalize (sk s.1 (sk s.1 0 + nl s.1 (sk s.1 0)), true) = s1 at eR t3' t4 b4 ⊢
      generalize wdI s.1 (sk s.1 0) = wd at eR wd2 wb ⊢
      have t4' : tkA h4 s.1 (aS s.1 s1) := t4
      have b4' : -9999 ≤ vS s.1 s1 ∧ vS s.1 s1 ≤ 9999 := b4
      have z1 : ji wd - 2 = ji (wd - 2) := by rw [jk2, ji_sub]
      have z2 : (ji (wd - 2) = 1) ↔ wd - 2 = 1 := by rw [jk1, ji_eq]
      have z3 : (ji (wd - 2) = 2) ↔ wd - 2 = 2 := by rw [jk2, ji_eq]
      rw [t4'.2.2.2.1, bi_0, z1, z2, z3]
      have two : (wd - 2 = 1 ∨ wd - 2 = 2) → am_EI m_Ref_sill 0 0 78 [.ref 87, .int (ji n), .int (ji (wd - 2)), .int (ji (vS s.1 s1)), .int 0, .int 0] [] h4 (am_qi Q) := by
        intro c12
        refine sg_Ref_sill_78 87 _ _ _ _ _ h4 _ ⟨t4'.1.1, s_Ref_takeN t4' (fun h5 f5 t5 b5 => ⟨t5.1.1, s_Ref_takeN t5 (fun h6 f6 t6 b6 => ?_)⟩)⟩
        have eX : slX s.1 (wd - 2) s1 = ((wd - 2, vS s.1 s1, vN s.1 (aS s.1 s1), vN s.1 (aN s.1 (aS s.1 s1))), aN s.1 (aN s.1 (aS s.1 s1))) := by unfold slX; rw [if_pos c12]
        rw [eX] at eR
        exact f92 h6 (aN s.1 (aN s.1 (aS s.1 s1))) (wd - 2, vS s.1 s1, vN s.1 (aS s.1 s1), vN s.1 (aN s.1 (aS s.1 s1))) t6 (fk.tr ((f5.tr f6).rk (by omega))) (by rw [eR]) (fun _ => ⟨by rw [eR], ⟨by show 0 ≤ wd - 2 ∧ wd - 2 ≤ 3; omega, b4', b5, b6⟩, fun q => absurd c12 q⟩)
      have none : ((aS s.1 s1).2 = false ∨ ¬ (wd - 2 = 1 ∨ wd - 2 = 2)) → am_EI m_Ref_sill 0 0 92 [.ref 87, .int (ji n), .int (ji (wd - 2)), .int (ji (vS s.1 s1)), .int 0, .int 0] [] h4 (am_qi Q) := by
        intro c12
        refine f92 h4 (aS s.1 s1) (wd - 2, vS s.1 s1, 0, 0) t4' fk ?_ (fun q => ?_)
        · rw [eR]
          unfold slX
          split
          · rename_i y
            rcases c12 with z | z
            · rw [aN_f z, aN_f z]
            · exact absurd y z
          · rfl
        · have z : ¬ (wd - 2 = 1 ∨ wd - 2 = 2) := c12.resolve_left (by rw [q]; decide)
          refine ⟨?_, ⟨by show 0 ≤ wd - 2 ∧ wd - 2 ≤ 3; omega, b4', by show (0 : Int) ≤ 0 ∧ (0 : Int) ≤ 9999; omega, by show (0 : Int) ≤ 0 ∧ (0 : Int) ≤ 9999; omega⟩, fun _ => rfl⟩
          rw [eR]
          unfold slX
          rw [if_neg z]
      exact ⟨fun q => none (Or.inl q), fun q => ⟨fun y => two (Or.inl y), fun y => ⟨fun y2 => none (Or.inr (by omega)), fun y2 => two (Or.inr y2)⟩⟩⟩
  have seg38 : ¬ (2 ≤ wdI s.1 (sk s.1 0)) → am_EI m_Ref_sill 0 0 38 [.ref 87, .int (ji n), .float 0, .float 0, .float 0, .float 0] [.ref 87] h1 (am_qi Q) := by
    intro q
    rw [decide_eq_false q] at seg39
    exact sg_Ref_sill_38 87 87 _ h1 _ seg39
  obtain ⟨tm, tt, i42, i45, hp, h32, tok, val, e0, i43, i44, i41, he, ht, hv, tv⟩ := id t1
  obtain ⟨y1, y2⟩ := tv.word
  dsimp only at y1 y2
  rw [i43, i44, jk2, ji_eq, ji_lt]
  refine ⟨fun q => seg38 (fun z => q (y1.mpr (by omega))), fun q => ⟨fun z => seg38 ?_, fun z => ?_⟩⟩
  · have := (y2 q).1
    omega
  · have := (y2 q).1
    rw [decide_eq_true (by omega)] at seg39
    exact seg39
