/-! windows, as sets and as the reference finds them -/
theorem sp_ex {A : Int → Prop} : ∀ n : Nat, ∃ l, spOk l ∧ (∀ t, spM l t ↔ (A t ∧ 0 ≤ t ∧ t < n)) ∧ ∀ q ∈ l, q.1 < n
  | 0 => ⟨[], spOk_nil, fun t => ⟨fun q => absurd q (spM_nil t), fun q => by omega⟩, fun q hq => by cases hq⟩
  | n + 1 => by
    obtain ⟨l, h1, h2, h3⟩ := sp_ex (A := A) n
    by_cases c : A n
    · obtain ⟨g1, g2, g3⟩ := spAdd_ok (x := n) (y := n) h1 (fun q hq => by have := h3 q hq; omega)
      refine ⟨_, g1, fun t => ?_, fun q hq => by have := g3 q hq; omega⟩
      rw [g2 t, h2 t]
      constructor
      · rintro (q | q)
        · exact ⟨q.1, by omega⟩
        · have e : t = n := by omega
          rw [e]
          exact ⟨c, by omega⟩
      · rintro ⟨q1, q2⟩
        by_cases e : t = n
        · exact Or.inr (by omega)
        · exact Or.inl ⟨q1, by omega⟩
    · refine ⟨l, h1, fun t => ?_, fun q hq => by have := h3 q hq; omega⟩
      rw [h2 t]
      constructor
      · rintro q
        exact ⟨q.1, by omega⟩
      · rintro ⟨q1, q2⟩
        by_cases e : t = n
        · rw [e] at q1
          exact absurd q1 c
        · exact ⟨q1, by omega⟩
theorem sp_ex' {A : Int → Prop} (b : ∀ t, A t → 0 ≤ t ∧ t ≤ 13439) : ∃ l, spOk l ∧ ∀ t, spM l t ↔ A t := by
  obtain ⟨l, h1, h2, -⟩ := sp_ex (A := A) 13440
  refine ⟨l, h1, fun t => ?_⟩
  rw [h2 t]
  exact ⟨fun q => q.1, fun q => ⟨q, by have := b t q; omega⟩⟩
theorem wl_ok {P : List Tn} {L : Sl} {S : Sp} (g : gW P) (lb : 0 ≤ L.2.2.1) : spOk (wl P L S) ∧ ∀ t, spM (wl P L S) t ↔ gd P L S t := by
  obtain ⟨l, h1, h2⟩ := sp_ex' (A := gd P L S) (fun t h => gd_rng g lb h)
  rw [wl_eq h1 h2]
  exact ⟨h1, h2⟩
theorem gd_len {P : List Tn} {L : Sl} {S : Sp} {l : List (Int × Int)} (g : gW P) (lb : 0 ≤ L.2.2.1) (ok : spOk l) (hm : ∀ t, spM l t ↔ gd P L S t) : l.length ≤ 16 := by
  by_cases c0 : L.1 = 0
  · have : l.length ≤ 8 := on_len (side := 0) (x := L.2.1 + S.1) g (Or.inl ⟨rfl, rfl⟩) ok (fun t => by rw [hm t]; unfold gd; rw [if_pos c0])
    omega
  by_cases c1 : L.1 = 1
  · obtain ⟨lw, w1, w2⟩ := sp_ex' (A := onP 0 P (L.2.1 + S.1)) (fun t h => onP_rng g h)
    have wlen : lw.length ≤ 8 := on_len g (Or.inl ⟨rfl, rfl⟩) w1 w2
    have gi : ∀ t, spM l t ↔ (onP 0 P (L.2.1 + S.1) t ∧ nearH P L.2.2.1 L.2.2.2 t) := fun t => by
      rw [hm t]
      unfold gd
      rw [if_neg c0, if_pos c1]
    have hc := sp_cnt l (lw.map (fun q => q.2) ++ (P.filter (fun p => p.1 == true)).map (fun p => p.2.1 + L.2.2.2)) ok (fun q hq => ?_)
    · rw [List.length_append, List.length_map, List.length_map] at hc
      have c8 := cnt_le g P.length
      rw [List.take_of_length_le (Nat.le_refl _)] at c8
      omega
    · have qo := ok.2 q hq
      obtain ⟨on, z, z1, z2, z3, z4⟩ := (gi q.2).mp ⟨q, hq, by omega, by omega⟩
      by_cases on1 : onP 0 P (L.2.1 + S.1) (q.2 + 1)
      · refine ⟨z.2.1 + L.2.2.2, List.mem_append.mpr (Or.inr (List.mem_map.mpr ⟨z, List.mem_filter.mpr ⟨z1, by rw [z2]; rfl⟩, rfl⟩)), by omega, ?_⟩
        by_cases e : z.2.1 + L.2.2.2 ≤ q.2
        · exact e
        · exfalso
          obtain ⟨q', p1, p2, p3⟩ := (gi (q.2 + 1)).mpr ⟨on1, z, z1, z2, by omega, by omega⟩
          rcases spOk_two ok hq p1 with rfl | h | h
          · omega
          · omega
          · omega
      · obtain ⟨w, p1, p2, p3⟩ := (w2 q.2).mpr on
        refine ⟨w.2, List.mem_append.mpr (Or.inl (List.mem_map.mpr ⟨w, p1, rfl⟩)), by omega, ?_⟩
        by_cases e : w.2 ≤ q.2
        · exact e
        · exact absurd ((w2 _).mp ⟨w, p1, by omega, by omega⟩) on1
  by_cases c2 : L.1 = 2
  · obtain ⟨lw, w1, w2⟩ := sp_ex' (A := onP 0 P L.2.1) (fun t h => onP_rng g h)
    have wlen : lw.length ≤ 8 := on_len g (Or.inl ⟨rfl, rfl⟩) w1 w2
    have gi : ∀ t, spM l t ↔ (S.1 ≤ L.2.2.2 ∧ ∀ u, t - L.2.2.1 ≤ u → u ≤ t → onP 0 P L.2.1 u) := fun t => by
      rw [hm t]
      unfold gd
      rw [if_neg c0, if_neg c1, if_pos c2]
    have hc := sp_cnt l (lw.map (fun q => q.2)) ok (fun q hq => ?_)
    · rw [List.length_map] at hc
      omega
    · have qo := ok.2 q hq
      obtain ⟨hS, on⟩ := (gi q.2).mp ⟨q, hq, by omega, by omega⟩
      obtain ⟨w, p1, p2, p3⟩ := (w2 q.2).mpr (on q.2 (by omega) (by omega))
      refine ⟨w.2, List.mem_map.mpr ⟨w, p1, rfl⟩, by omega, ?_⟩
      refine sp_up (t := q.2) (v := w.2) ok hq (by omega) (by omega) (fun u u1 u2 => (gi u).mpr ⟨hS, fun x x1 x2 => ?_⟩)
      by_cases e : x ≤ q.2
      · exact on x (by omega) e
      · exact (w2 x).mp ⟨w, p1, by omega, by omega⟩
  · have : l.length ≤ 8 := on_len (side := 2) (x := L.2.1 - S.2.1) g (Or.inr ⟨rfl, rfl⟩) ok (fun t => by rw [hm t]; unfold gd; rw [if_neg c0, if_neg c1, if_neg c2])
    omega
/-- the spans ahead of the j-th lie ahead of t, the others behind -/
def cutAt (l : List (Int × Int)) (j : Nat) (t : Int) : Prop := (∀ q ∈ l.take j, q.2 < t) ∧ ∀ q ∈ l.drop j, t ≤ q.1
theorem cut_some {l : List (Int × Int)} {A : Int → Prop} {j : Nat} {t u v : Int} (ok : spOk l) (hm : ∀ x, spM l x ↔ A x) (c : cutAt l j t) (h1 : t ≤ u) (h2 : u ≤ v) (h3 : ∀ x, t ≤ x → x < u → ¬ A x) (h4 : ∀ x, u ≤ x → x ≤ v → A x) (h5 : ¬ A (v + 1)) : l[j]? = some (u, v) ∧ cutAt l (j + 1) (v + 1) := by
  obtain ⟨q, q1, q2, q3⟩ := (hm u).mpr (h4 u (by omega) h2)
  have qd : q ∈ l.drop j := by
    rw [← List.take_append_drop j l] at q1
    rcases List.mem_append.mp q1 with y | y
    · have := c.1 q y
      omega
    · exact y
  have hlt : j < l.length := by
    by_cases e : j < l.length
    · exact e
    · rw [List.drop_eq_nil_of_le (by omega)] at qd
      cases qd
  obtain ⟨p, hp⟩ : ∃ p, l[j]? = some p := ⟨_, List.getElem?_eq_getElem hlt⟩
  have pm := List.mem_of_getElem? hp
  have po := ok.2 p pm
  have dr := drop_cons hp
  have okd := spOk_drop ok j
  rw [dr] at okd qd
  obtain ⟨o1, o2, o3⟩ := spOk_cons okd
  have pt := c.2 p (by rw [dr]; simp)
  have pu : u ≤ p.1 := by
    by_cases e : u ≤ p.1
    · exact e
    · exact absurd ((hm p.1).mp ⟨p, pm, by omega, by omega⟩) (h3 p.1 pt (by omega))
  have pe : p.1 = u := by
    rcases List.mem_cons.mp qd with rfl | y
    · omega
    · have := o3 q y
      omega
  have pv := sp_up (t := u) (v := v) ok pm (by omega) (by omega) (fun x x1 x2 => (hm x).mpr (h4 x x1 x2))
  have pv2 : p.2 = v := by
    by_cases e : p.2 = v
    · exact e
    · exact absurd ((hm _).mp ⟨p, pm, by omega, by omega⟩) h5
  refine ⟨by rw [hp, ← pe, ← pv2], fun x hx => ?_, fun x hx => ?_⟩
  · rw [take_snoc hp] at hx
    rcases List.mem_append.mp hx with y | y
    · have := c.1 x y
      omega
    · simp at y
      rw [y]
      omega
  · have := o3 x hx
    omega
theorem cut_none {l : List (Int × Int)} {A : Int → Prop} {j : Nat} {t : Int} (ok : spOk l) (hm : ∀ x, spM l x ↔ A x) (c : cutAt l j t) (h : ∀ x, t ≤ x → ¬ A x) : l.length ≤ j := by
  by_cases e : l.length ≤ j
  · exact e
  · exfalso
    obtain ⟨p, hp⟩ : ∃ p, l[j]? = some p := ⟨_, List.getElem?_eq_getElem (by omega)⟩
    have pm := List.mem_of_getElem? hp
    have po := ok.2 p pm
    exact h p.1 (c.2 p (by rw [drop_cons hp]; simp)) ((hm _).mp ⟨p, pm, by omega, by omega⟩)
/-- what is marked for a sill asked for alone -/
def goodA (h : am_H) (f e : Int) (A : Int → Prop) : Prop := rfF h ∧ am_I h 87 29 = ji f ∧ am_I h 87 30 = ji e ∧ mkR h 106 (e + 1) A ∧ (0 ≤ f ∧ f ≤ e ∧ e ≤ 13439) ∧ ∀ x, A x → f ≤ x ∧ x ≤ e
theorem goodA.kw {h h' : am_H} {f e : Int} {A : Int → Prop} {lo hi : Nat} (g : goodA h f e A) (k : kw h h' lo hi) (hl : 31 ≤ lo) : goodA h' f e A := by
  obtain ⟨g1, g2, g3, g4, g5⟩ := g
  refine ⟨g1.kw k, ?_, ?_, fun u hu => ?_, g5⟩
  · rw [k.2.2.2.2 29 (by omega)]; exact g2
  · rw [k.2.2.2.2 30 (by omega)]; exact g3
  · rw [k.2.2.2.1 106 (by omega)]; exact g4 u hu
theorem s_Ref_findGood2 {h : am_H} {i k : Nat} {L : Nat × Sl} {S : Sp} {P : List Tn} {Q : am_H → Prop} (m : rfF h) (rl : rlA h i L) (hi : i < 12) (o : slO L.2) (lb : slB L.2) (rh : rhA h k S) (hk : k < 6) (os : spO S) (sb : spB S) (r : rpA h L.1 P) (g : gW P) (hp : L.1 < 8)
    (K : ∀ h', rk h h' → goodA h' (ptM P 0) (ptM P ((P.length : Int) - 1)) (gd P L.2 S) → (∀ j, 32 ≤ j → am_I h' 87 j = am_I h 87 j) → Q h') : am_Ew m_Ref_findGood2 0 0 [.ref 87, .int (ji i), .int (ji k)] h Q := by
  have fb := g.first
  have la := g.last
  have eki : (ji (i : Int)).toNatClampNeg = i := by rw [ji_tn, Int.toNat_natCast]
  refine ev_Ref_findGood2 87 (ji i) (ji k) h Q ⟨m.1, 93, m.p11, by rw [m.t11], by rw [m.t11, ji_in]; omega, ?_⟩
  rw [eki, rl.1]
  refine s_Ref_lastOf m r g hp ⟨m.1, 106, m.p28, ?_⟩
  rw [jk1, ji_add]
  have f1 : kw h (am_si h 87 31 (ji (ptM P ((P.length : Int) - 1) + 1))) 31 32 := kw.si (by omega)
  have k1 := f1.rk (by omega)
  refine s_Ref_findGood3 (m.kw f1) (rl.rk k1) hi o lb (rh.rk k1) hk os sb (r.kw f1) g hp (by omega) (by rw [f1.2.1]; exact m.t28) (by rw [am_I_sis, va_up_at]) (by omega) (fun h2 f2 i29 i30 mk => ?_)
  have gin : ∀ x, gd P L.2 S x → ptM P 0 ≤ x ∧ x ≤ ptM P ((P.length : Int) - 1) := fun x hx => by
    obtain ⟨sd, y, -, on⟩ := gd_on lb.2.2.1.1 hx
    exact (on_in g on).2
  have fl : ptM P 0 ≤ ptM P ((P.length : Int) - 1) := by
    have h0 := g.1.1
    obtain ⟨t0, ht0⟩ : ∃ q, P[0]? = some q := ⟨_, List.getElem?_eq_getElem h0⟩
    obtain ⟨tl, htl⟩ : ∃ q, P[P.length - 1]? = some q := ⟨_, List.getElem?_eq_getElem (by omega)⟩
    rw [show ptM P 0 = t0.2.1 from ptM_at (i := 0) ht0, show (P.length : Int) - 1 = ((P.length - 1 : Nat) : Int) by omega, ptM_at htl]
    exact ptW_le g.1 (Nat.zero_le _) ht0 htl
  exact K h2 (k1.tr (f2.rk (by omega))) ⟨(m.kw f1).rk (f2.rk (by omega)), i29, i30, mk, ⟨by omega, fl, by omega⟩, gin⟩ (fun j hj => by rw [f2.2.2.2.2 j (by omega), f1.2.2.2.2 j (by omega)])
theorem s_Ref_findWindow {h : am_H} {f e t : Int} {A : Int → Prop} {Q : Int32 → am_H → Prop} (g : goodA h f e A) (ht : f ≤ t ∧ t ≤ e)
    (k1 : ∀ h' u v, kw h h' 32 34 → t ≤ u → u ≤ v → v ≤ e → (∀ x, t ≤ x → x < u → ¬ A x) → (∀ x, u ≤ x → x ≤ v → A x) → ¬ A (v + 1) → am_I h' 87 32 = ji u → am_I h' 87 33 = ji v → Q 1 h')
    (k0 : ∀ h', kw h h' 32 34 → (∀ x, t ≤ x → ¬ A x) → Q 0 h') : am_Ei m_Ref_findWindow 0 0 [.ref 87, .int (ji t)] h Q := by
  obtain ⟨m, i29, i30, mk, gb, gin⟩ := id g
  have endW : ∀ (h1 : am_H) (u c : Int), kw h h1 32 34 → am_I h1 87 32 = ji u → t ≤ u → u ≤ c → c ≤ e + 1 → (∀ x, t ≤ x → x < u → ¬ A x) → (∀ x, u ≤ x → x < c → A x) → ¬ A c → (u = c → e < u) → (((am_I (am_si h1 87 33 (ji c - 1)) 87 30) < (am_I (am_si h1 87 33 (ji c - 1)) 87 32) → am_qi Q (some (.int 0)) (am_si h1 87 33 (ji c - 1))) ∧ (¬ (am_I (am_si h1 87 33 (ji c - 1)) 87 30) < (am_I (am_si h1 87 33 (ji c - 1)) 87 32) → am_qi Q (some (.int 1)) (am_si h1 87 33 (ji c - 1)))) := by
    intro h1 u c f1 i32 h1' h2' h3' h4' h5' h6' h7'
    have e0 : ji c - 1 = ji (c - 1) := by rw [jk1, ji_sub]
    rw [e0, am_I_sis, va_up_no _ _ (by decide), va_up_no _ _ (by decide), f1.2.2.2.2 30 (by omega), i30, i32, ji_lt]
    have f2 : kw h (am_si h1 87 33 (ji (c - 1))) 32 34 := f1.tr (kw.si (by omega))
    refine ⟨fun q => k0 _ f2 (fun x x1 => ?_), fun q => k1 _ u (c - 1) f2 h1' ?_ (by omega) h4' (fun x x1 x2 => h5' x x1 (by omega)) (by rw [show c - 1 + 1 = c by omega]; exact h6') (by rw [am_I_sis, va_up_no _ _ (by decide)]; exact i32) (by rw [am_I_sis, va_up_at])⟩
    · by_cases xu : x < u
      · exact h4' x x1 xu
      · intro hx
        have := (gin x hx).2
        omega
    · by_cases e1 : u = c
      · have := h7' e1
        omega
      · omega
  have loop2 : ∀ (n c : Nat) (u : Int) (h1 : am_H), kw h h1 32 34 → am_I h1 87 32 = ji u → (c : Int) + n = e + 1 → t ≤ u → u ≤ c → (∀ x, t ≤ x → x < u → ¬ A x) → (∀ x, u ≤ x → x < c → A x) → (u ≤ e → A u) → am_EI m_Ref_findWindow 0 0 30 [.ref 87, .int (ji t), .int (ji c)] [] h1 (am_qi Q) := by
    intro n
    induction n with
    | zero =>
      intro c u h1 f1 i32 hc h1' h2' h3' h4' h5'
      have m1 := m.kw f1
      have i30' : am_I h1 87 30 = ji e := by rw [f1.2.2.2.2 30 (by omega)]; exact i30
      refine sg_Ref_findWindow_30 87 _ _ h1 _ ⟨m1.1, ?_⟩
      rw [i30', ji_lt]
      refine ⟨fun _ => endW h1 u c f1 i32 h1' h2' (by omega) h3' h4' (fun q => by have := (gin _ q).2; omega) (fun q => by omega), fun q => absurd (by omega) q⟩
    | succ n ih =>
      intro c u h1 f1 i32 hc h1' h2' h3' h4' h5'
      have m1 := m.kw f1
      have i30' : am_I h1 87 30 = ji e := by rw [f1.2.2.2.2 30 (by omega)]; exact i30
      have ekc : (ji (c : Int)).toNatClampNeg = c := by rw [ji_tn, Int.toNat_natCast]
      have mk1 : am_I h1 106 c = cbi (A c) := by rw [f1.2.2.2.1 106 (by omega)]; exact mk c (by omega)
      refine sg_Ref_findWindow_30 87 _ _ h1 _ ⟨m1.1, ?_⟩
      rw [i30', ji_lt]
      refine ⟨fun q => absurd q (by omega), fun _ => ⟨106, m1.p28, by rw [m1.t28], by rw [m1.t28, ji_in]; omega, ?_⟩⟩
      rw [ekc, mk1, cbi_z]
      refine ⟨fun q => endW h1 u c f1 i32 h1' h2' (by omega) h3' h4' q (fun e1 => ?_), fun q => ?_⟩
      · by_cases ue : u ≤ e
        · have := h5' ue
          rw [e1] at this
          exact absurd this q
        · omega
      · have q : A c := Classical.byContradiction q
        rw [jk1, ji_add]
        refine ih (c + 1) u h1 f1 i32 (by omega) h1' (by omega) h3' (fun x x1 x2 => ?_) h5'
        by_cases xc : x = c
        · rw [xc]; exact q
        · exact h4' x x1 (by omega)
  have loop1 : ∀ (n c : Nat), (c : Int) + n = e + 1 → t ≤ c → (∀ x, t ≤ x → x < c → ¬ A x) → am_EI m_Ref_findWindow 0 0 2 [.ref 87, .int (ji t), .int (ji c)] [] h (am_qi Q) := by
    intro n
    induction n with
    | zero =>
      intro c hc h1' h3'
      refine sg_Ref_findWindow_2 87 _ _ h _ ⟨m.1, ?_⟩
      rw [i30, ji_lt]
      refine ⟨fun _ => ?_, fun q => absurd (by omega) q⟩
      exact loop2 0 c c _ (kw.si (by omega)) (by rw [am_I_sis, va_up_at]) hc h1' (by omega) h3' (fun x x1 x2 => by omega) (fun q => by omega)
    | succ n ih =>
      intro c hc h1' h3'
      have ekc : (ji (c : Int)).toNatClampNeg = c := by rw [ji_tn, Int.toNat_natCast]
      refine sg_Ref_findWindow_2 87 _ _ h _ ⟨m.1, ?_⟩
      rw [i30, ji_lt]
      refine ⟨fun q => absurd q (by omega), fun _ => ⟨106, m.p28, by rw [m.t28], by rw [m.t28, ji_in]; omega, ?_⟩⟩
      rw [ekc, mk c (by omega), cbi_z]
      refine ⟨fun q => ?_, fun q => ?_⟩
      · have q : A c := Classical.byContradiction q
        exact loop2 (n + 1) c c _ (kw.si (by omega)) (by rw [am_I_sis, va_up_at]) hc h1' (by omega) h3' (fun x x1 x2 => by omega) (fun _ => q)
      · rw [jk1, ji_add]
        refine ih (c + 1) (by omega) (by omega) (fun x x1 x2 => ?_)
        by_cases xc : x = c
        · rw [xc]; exact q
        · exact h3' x x1 (by omega)
  obtain ⟨c, rfl⟩ := Int.eq_ofNat_of_zero_le (show 0 ≤ t by omega)
  exact ev_Ref_findWindow 87 _ h Q (loop1 (e + 1 - c).toNat c (by omega) (by omega) (fun x x1 x2 => absurd x2 (by omega)))
