/-! the reference: its pieces of a text -/
def nl (T : List Int) (p : Nat) : Nat := ((T.drop p).takeWhile isL).length
def spl (T : List Int) (p : Nat) (w : List Int) : Bool := decide (nl T p = w.length) && wm T p w
def wdI (T : List Int) (p : Nat) : Int := if spl T p (wb 16) then 0 else if spl T p (wb 17) then 1 else if spl T p (wb 18) then 2 else if spl T p (wb 19) then 3 else if spl T p (wb 20) then 4 else if spl T p (wb 21) then 5 else -1
def mks : List Int := [43, 45, 44, 47, 33, 126]
def tkV (T : List Int) (p : Nat) (tok val : Int) (e : Nat) : Prop :=
  (p = T.length ∧ tok = 0 ∧ e = p) ∨ ∃ c, T[p]? = some c ∧ ((isL c = true ∧ e = p + nl T p ∧ val = wdI T p ∧ tok = (if wdI T p < 0 then 1 else 2)) ∨ (isL c = false ∧ isD c = true ∧ e = p + nd T p ∧ tok = (if 4 < nd T p then 1 else 3) ∧ (nd T p ≤ 4 → val = nv T p (nd T p))) ∨ (isL c = false ∧ isD c = false ∧ e = p + 1 ∧ val = c ∧ tok = (if c ∈ mks then 4 else 1)))
def tkA (h : am_H) (T : List Int) (s : Nat × Bool) : Prop := rfF h ∧ rfT h T ∧ am_I h 87 42 = ji (s.1 : Int) ∧ am_I h 87 45 = bi s.2 ∧ s.1 ≤ T.length ∧ T[s.1]? ≠ some 32 ∧ ∃ (tok val : Int) (e : Nat), am_I h 87 43 = ji tok ∧ am_I h 87 44 = ji val ∧ am_I h 87 41 = ji (e : Int) ∧ e ≤ T.length ∧ (0 ≤ tok ∧ tok ≤ 4) ∧ (-2147483648 ≤ val ∧ val < 2147483648) ∧ tkV T s.1 tok val e
theorem nl_le {T : List Int} {p : Nat} (hp : p ≤ T.length) : p + nl T p ≤ T.length := by
  have h1 := (List.takeWhile_sublist isL (l := T.drop p)).length_le
  rw [List.length_drop] at h1
  unfold nl
  omega
theorem rfT.kw {h h' : am_H} {lo hi : Nat} {T : List Int} (t : rfT h T) (f : kw h h' lo hi) (hl : 26 ≤ lo) : rfT h' T := by
  unfold rfT
  rw [f.2.2.2.2 1 (by omega), f.2.2.2.1 88 (by omega)]
  exact t
theorem wm_snoc {T : List Int} : ∀ (w : List Int) (p : Nat) (c : Int), wm T p (w ++ [c]) = (wm T p w && decide (bt T ((p + w.length : Nat) : Int) = c))
  | [], p, c => by simp [wm]
  | d :: w, p, c => by
    have ih := wm_snoc (T := T) w (p + 1) c
    show (decide (bt T (p : Int) = d) && wm T (p + 1) (w ++ [c])) = (decide (bt T (p : Int) = d) && wm T (p + 1) w && _)
    rw [ih, Bool.and_assoc, List.length_cons, show p + 1 + w.length = p + (w.length + 1) by omega]
theorem bt_iff {T : List Int} {i : Nat} {b c : Int} (h : T[i]? = some b) (hb : 0 ≤ b ∧ b < 256) (hc : 0 ≤ c ∧ c < 128) : bt T (i : Int) = c ↔ b = c := by
  rw [bt_at h]
  unfold sg
  split <;> omega
theorem s_Ref_isSpelled {h : am_H} {T : List Int} {p e j : Nat} {Q : Int32 → am_H → Prop} (m : rfF h) (t : rfT h T) (i41 : am_I h 87 41 = ji (e : Int)) (i42 : am_I h 87 42 = ji (p : Int)) (hp : p ≤ e) (he : e ≤ T.length) (hj : j < 30) (k : Q (bi (decide (e - p = (wb j).length) && wm T p (wb j))) h) : am_Ei m_Ref_isSpelled 0 0 [.ref 87, .retAddr j] h Q := by
  have w10 := wb_10 hj
  have tl := t.2.1
  have loop : ∀ (n i : Nat) (v : Bool), i + n = (wb j).length → v = (decide (e - p = (wb j).length) && wm T p ((wb j).take i)) → am_EI m_Ref_isSpelled 0 0 24 [.ref 87, .retAddr j, .int (bi v), .int (ji i)] [] h (am_qi Q) := by
    intro n
    induction n with
    | zero =>
      intro i v hi hv
      rw [List.take_of_length_le (by omega)] at hv
      refine sg_Ref_isSpelled_24 87 j _ _ h _ ⟨isC_of hj, hj, s_Str_length hj ?_⟩
      rw [ji_le]
      refine ⟨fun _ => ⟨bi_01 v, ?_⟩, fun c => absurd (by omega) c⟩
      rw [hv]
      exact k
    | succ n ih =>
      intro i v hi hv
      obtain ⟨c, hc⟩ : ∃ c, (wb j)[i]? = some c := ⟨_, List.getElem?_eq_getElem (by omega)⟩
      have bc := wb_mem hj c (List.mem_of_getElem? hc)
      refine sg_Ref_isSpelled_24 87 j _ _ h _ ⟨isC_of hj, hj, s_Str_length hj ?_⟩
      rw [ji_le, bi_0]
      have nx : wm T p ((wb j).take (i + 1)) = (wm T p ((wb j).take i) && decide (bt T ((p + i : Nat) : Int) = c)) := by
        rw [take_snoc hc, wm_snoc, List.length_take, show min i (wb j).length = i by omega]
      refine ⟨fun z => absurd z (by omega), fun _ => ⟨fun z => ⟨bi_01 v, ?_⟩, fun z => ?_⟩⟩
      · have : (decide (e - p = (wb j).length) && wm T p (wb j)) = false := by
          rw [z] at hv
          cases e1 : decide (e - p = (wb j).length)
          · rfl
          · rw [e1, Bool.true_and] at hv
            rw [Bool.true_and]
            cases e2 : wm T p (wb j)
            · rfl
            · exfalso
              have mono : ∀ (w w2 : List Int) (p : Nat), wm T p (w ++ w2) = true → wm T p w = true := by
                intro w
                induction w with
                | nil => intro w2 p _; rfl
                | cons d w ihw =>
                  intro w2 p hh
                  have hh : (decide (bt T (p : Int) = d) && wm T (p + 1) (w ++ w2)) = true := hh
                  rw [Bool.and_eq_true] at hh
                  show (decide (bt T (p : Int) = d) && wm T (p + 1) w) = true
                  rw [Bool.and_eq_true]
                  exact ⟨hh.1, ihw w2 (p + 1) hh.2⟩
              have := mono ((wb j).take i) ((wb j).drop i) p (by rw [List.take_append_drop]; exact e2)
              rw [this] at hv
              cases hv
        rw [this] at k
        rw [z]
        exact k
      · have vt : v = true := by cases e1 : v; exact absurd e1 z; rfl
        rw [vt] at hv
        have hd := hv.symm
        rw [Bool.and_eq_true, decide_eq_true_iff] at hd
        obtain ⟨b, hb⟩ : ∃ b, T[p + i]? = some b := ⟨_, List.getElem?_eq_getElem (by omega)⟩
        obtain ⟨tb, b0, b1⟩ := t.2.2 (p + i) b hb
        refine ⟨m.1, 88, m.p0, by rw [m.t0], by rw [m.t0, i42, ji_add, ji_in]; omega, isC_of hj, hj, s_Str_charAt hj hc ?_⟩
        have ek : (am_I h 87 42 + ji (i : Int)).toNatClampNeg = p + i := by
          rw [i42, ji_add, ji_tn]
          omega
        rw [ek, tb, ji_eq, jk1, ji_add]
        have bi' := bt_iff hb ⟨b0, b1⟩ bc
        refine ⟨fun q => ih (i + 1) false (by omega) ?_, fun q => ih (i + 1) true (by omega) ?_⟩
        · rw [nx, decide_eq_false (fun z => q (bi'.mp z)), Bool.and_false, Bool.and_false]
        · rw [nx, decide_eq_true (bi'.mpr q), Bool.and_true]
          exact hv
  refine ev_Ref_isSpelled 87 j h Q (Or.inl (isC_of hj)) ⟨m.1, isC_of hj, hj, s_Str_length hj ?_⟩
  rw [i41, i42, ji_sub, ji_eq]
  refine ⟨fun z => ?_, fun z => ?_⟩
  · have := loop (wb j).length 0 false (by omega) (by rw [decide_eq_false (by omega)]; rfl)
    exact this
  · have := loop (wb j).length 0 true (by omega) (by rw [decide_eq_true (by omega)]; simp [wm])
    exact this
theorem s_Ref_wordHere {h : am_H} {T : List Int} {p : Nat} {Q : Int32 → am_H → Prop} (m : rfF h) (t : rfT h T) (i41 : am_I h 87 41 = ji ((p + nl T p : Nat) : Int)) (i42 : am_I h 87 42 = ji (p : Int)) (hp : p ≤ T.length) (k : Q (ji (wdI T p)) h) : am_Ei m_Ref_wordHere 0 0 [.ref 87] h Q := by
  have hl := nl_le hp
  have sp : ∀ j, j < 30 → ∀ {Q' : Int32 → am_H → Prop}, Q' (bi (spl T p (wb j))) h → am_Ei m_Ref_isSpelled 0 0 [.ref 87, .retAddr j] h Q' := fun j hj Q' q => s_Ref_isSpelled m t i41 i42 (by omega) hl hj (by rw [show p + nl T p - p = nl T p by omega]; exact q)
  unfold wdI at k
  refine ev_Ref_wordHere 87 h Q ⟨m.1, sp 16 (by omega) ?_⟩
  rw [bi_0]
  refine ⟨fun a => ⟨m.1, sp 17 (by omega) ?_⟩, fun a => ?_⟩
  · rw [a, if_neg (by decide)] at k
    rw [bi_0]
    refine ⟨fun a => ⟨m.1, sp 18 (by omega) ?_⟩, fun a => ?_⟩
    · rw [a, if_neg (by decide)] at k
      rw [bi_0]
      refine ⟨fun a => ⟨m.1, sp 19 (by omega) ?_⟩, fun a => ?_⟩
      · rw [a, if_neg (by decide)] at k
        rw [bi_0]
        refine ⟨fun a => ⟨m.1, sp 20 (by omega) ?_⟩, fun a => ?_⟩
        · rw [a, if_neg (by decide)] at k
          rw [bi_0]
          refine ⟨fun a => ⟨m.1, sp 21 (by omega) ?_⟩, fun a => ?_⟩
          · rw [a, if_neg (by decide)] at k
            rw [bi_0]
            refine ⟨fun a => ?_, fun a => ?_⟩
            · rw [a, if_neg (by decide)] at k
              exact k
            · rw [if_pos (by cases e : spl T p (wb 21); exact absurd e a; rfl)] at k
              exact k
          · rw [if_pos (by cases e : spl T p (wb 20); exact absurd e a; rfl)] at k
            exact k
        · rw [if_pos (by cases e : spl T p (wb 19); exact absurd e a; rfl)] at k
          exact k
      · rw [if_pos (by cases e : spl T p (wb 18); exact absurd e a; rfl)] at k
        exact k
    · rw [if_pos (by cases e : spl T p (wb 17); exact absurd e a; rfl)] at k
      exact k
  · rw [if_pos (by cases e : spl T p (wb 16); exact absurd e a; rfl)] at k
    exact k
theorem wdI_bd (T : List Int) (p : Nat) : -1 ≤ wdI T p ∧ wdI T p ≤ 5 := by
  unfold wdI
  repeat' split
  all_goals omega
theorem s_Ref_next {h : am_H} {T : List Int} {e : Nat} {b : Bool} {Q : am_H → Prop} (m : rfF h) (t : rfT h T) (i41 : am_I h 87 41 = ji (e : Int)) (he : e ≤ T.length) (i45 : am_I h 87 45 = bi b) (k : ∀ h', kw h h' 41 45 → tkA h' T (sk T e, b) → Q h') : am_Ew m_Ref_next 0 0 [.ref 87] h Q := by
  have tl := t.2.1
  -- the end of a piece
  have fin : ∀ (h1 : am_H) (p : Nat) (x1 : Int32) (tok val : Int) (e1 : Nat), kw h h1 41 45 → p = sk T e → T[p]? ≠ some 32 → p ≤ T.length → am_I h1 87 42 = ji (p : Int) → am_I h1 87 44 = ji val → am_I h1 87 41 = ji (e1 : Int) → e1 ≤ T.length → (0 ≤ tok ∧ tok ≤ 4) → (-2147483648 ≤ val ∧ val < 2147483648) → tkV T p tok val e1 → am_EI m_Ref_next 0 0 335 [.ref 87, .int x1] [] (am_si h1 87 43 (ji tok)) (am_qw Q) := by
    intro h1 p x1 tok val e1 f1 hp h32 hpl j42 j44 j41 he1 ht hv tv
    have f2 : kw h (am_si h1 87 43 (ji tok)) 41 45 := f1.tr (kw.si (by omega))
    refine sg_Ref_next_335 87 _ _ _ (k _ f2 ?_)
    rw [← hp]
    refine ⟨m.kw f2, t.kw f2 (by omega), ?_, ?_, hpl, h32, tok, val, e1, ?_, ?_, ?_, he1, ht, hv, tv⟩
    · rw [am_I_sis, va_up_no _ _ (by decide)]; exact j42
    · rw [f2.2.2.2.2 45 (by omega)]; exact i45
    · rw [am_I_sis, va_up_at]
    · rw [am_I_sis, va_up_no _ _ (by decide)]; exact j44
    · rw [am_I_sis, va_up_no _ _ (by decide)]; exact j41
  -- letters
  have words : ∀ (p : Nat) (c0 : Int), T[p]? = some c0 → isL c0 = true → p = sk T e → T[p]? ≠ some 32 → ∀ (n d : Nat) (x1 : Int32) (h1 : am_H), p + d + n = T.length → d ≤ nl T p → kw h h1 41 45 → am_I h1 87 42 = ji (p : Int) → am_I h1 87 41 = ji ((p + d : Nat) : Int) → am_EI m_Ref_next 0 0 89 [.ref 87, .int x1] [] h1 (am_qw Q) := by
    intro p c0 hc0 hL hp h32 n
    have hpl := (List.getElem?_eq_some_iff.mp hc0).1
    have last : ∀ (d : Nat) (x1 : Int32) (h1 : am_H), d = nl T p → kw h h1 41 45 → am_I h1 87 42 = ji (p : Int) → am_I h1 87 41 = ji ((p + d : Nat) : Int) → am_EI m_Ref_next 0 0 132 [.ref 87, .int x1] [] h1 (am_qw Q) := by
      intro d x1 h1 hd f1 j42 j41
      subst hd
      have m1 := m.kw f1
      have t1 := t.kw f1 (by omega)
      have wbd := wdI_bd T p
      have hl := nl_le (T := T) (p := p) (by omega)
      refine sg_Ref_next_132 87 _ h1 _ ⟨m1.1, s_Ref_wordHere m1 t1 j41 j42 (by omega) ⟨m1.1, ?_⟩⟩
      rw [am_I_sis, va_up_at, show ((0 : Int32) ≤ ji (wdI T p)) ↔ (ji 0 ≤ ji (wdI T p)) from Iff.rfl, ji_le]
      have f2 : kw h (am_si h1 87 44 (ji (wdI T p))) 41 45 := f1.tr (kw.si (by omega))
      have tv : ∀ tok, tok = (if wdI T p < 0 then 1 else 2) → tkV T p tok (wdI T p) (p + nl T p) := fun tok ht => Or.inr ⟨c0, hc0, Or.inl ⟨hL, rfl, rfl, ht⟩⟩
      refine ⟨fun z => sg_Ref_next_153 87 87 _ _ _ _ ⟨m1.1, fin _ p _ 2 (wdI T p) (p + nl T p) f2 hp h32 (by omega) ?_ ?_ ?_ (by omega) (by omega) (by omega) (tv 2 (by rw [if_neg (by omega)]))⟩, fun z => sg_Ref_next_153 87 87 _ _ _ _ ⟨m1.1, fin _ p _ 1 (wdI T p) (p + nl T p) f2 hp h32 (by omega) ?_ ?_ ?_ (by omega) (by omega) (by omega) (tv 1 (by rw [if_pos (by omega)]))⟩⟩
      · rw [am_I_sis, va_up_no _ _ (by decide)]; exact j42
      · rw [am_I_sis, va_up_at]
      · rw [am_I_sis, va_up_no _ _ (by decide)]; exact j41
      · rw [am_I_sis, va_up_no _ _ (by decide)]; exact j42
      · rw [am_I_sis, va_up_at]
      · rw [am_I_sis, va_up_no _ _ (by decide)]; exact j41
    induction n with
    | zero =>
      intro d x1 h1 hn hd f1 j42 j41
      have m1 := m.kw f1
      have hl := nl_le (T := T) (p := p) (by omega)
      refine sg_Ref_next_89 87 _ h1 _ ⟨m1.1, ?_⟩
      rw [(t.kw f1 (by omega)).1, j41, ji_le]
      exact ⟨fun _ => last d _ h1 (by omega) f1 j42 j41, fun z => absurd (by omega) z⟩
    | succ n ih =>
      intro d x1 h1 hn hd f1 j42 j41
      have m1 := m.kw f1
      have t1 := t.kw f1 (by omega)
      obtain ⟨c, hc⟩ : ∃ c, T[p + d]? = some c := ⟨_, List.getElem?_eq_getElem (by omega)⟩
      obtain ⟨tb, c0', c1⟩ := t1.2.2 (p + d) c hc
      have hc' : (T.drop p)[d]? = some c := by rw [List.getElem?_drop]; exact hc
      have ek : (ji ((p + d : Nat) : Int)).toNatClampNeg = p + d := by rw [ji_tn, Int.toNat_natCast]
      refine sg_Ref_next_89 87 _ h1 _ ⟨m1.1, ?_⟩
      rw [t1.1, j41, ji_le]
      refine ⟨fun z => absurd z (by omega), fun _ => ⟨88, m1.p0, by rw [m1.t0], by rw [m1.t0, ji_in]; omega, ?_⟩⟩
      rw [ek, tb, jk97, jk122]
      refine s_Ref_isIn (by omega) (by omega) (by omega) (fun z => ⟨fun q => absurd q (by decide), fun _ => ⟨m1.1, ?_⟩⟩) (fun z => ⟨fun _ => last d _ h1 ?_ f1 j42 j41, fun q => absurd rfl q⟩)
      · rw [j41, jk1, ji_add]
        refine ih (d + 1) _ _ (by omega) (tw_yes _ d c hd hc' (decide_eq_true z)) (f1.tr (kw.si (by omega))) ?_ ?_
        · rw [am_I_sis, va_up_no _ _ (by decide)]; exact j42
        · rw [am_I_sis, va_up_at]
          rfl
      · refine (tw_no _ d hd (fun b hb => ?_)).symm
        rw [hc'] at hb
        cases hb
        exact decide_eq_false z
  -- digits
  have nums : ∀ (p : Nat) (c0 : Int), T[p]? = some c0 → isL c0 = false → isD c0 = true → p = sk T e → T[p]? ≠ some 32 → ∀ (n d : Nat) (x1 : Int32) (h1 : am_H) (v : Int), p + d + n = T.length → d ≤ nd T p → kw h h1 41 45 → am_I h1 87 42 = ji (p : Int) → am_I h1 87 41 = ji ((p + d : Nat) : Int) → am_I h1 87 44 = ji v → (d ≤ 4 → v = nv T p d) → (-2147483648 ≤ v ∧ v < 2147483648) → am_EI m_Ref_next 0 0 170 [.ref 87, .int x1] [] h1 (am_qw Q) := by
    intro p c0 hc0 hL hD hp h32 n
    have hpl := (List.getElem?_eq_some_iff.mp hc0).1
    have last : ∀ (d : Nat) (x1 : Int32) (h1 : am_H) (v : Int), d = nd T p → kw h h1 41 45 → am_I h1 87 42 = ji (p : Int) → am_I h1 87 41 = ji ((p + d : Nat) : Int) → am_I h1 87 44 = ji v → (d ≤ 4 → v = nv T p d) → (-2147483648 ≤ v ∧ v < 2147483648) → am_EI m_Ref_next 0 0 250 [.ref 87, .int x1] [] h1 (am_qw Q) := by
      intro d x1 h1 v hd f1 j42 j41 j44 hv hb
      subst hd
      have m1 := m.kw f1
      have hl := nd_le (T := T) (p := p) (by omega)
      refine sg_Ref_next_250 87 _ h1 _ ⟨m1.1, ?_⟩
      rw [j41, j42, ji_sub, jk4, ji_le]
      have tv : ∀ tok, tok = (if 4 < nd T p then 1 else 3) → tkV T p tok v (p + nd T p) := fun tok ht => Or.inr ⟨c0, hc0, Or.inr (Or.inl ⟨hL, hD, rfl, ht, hv⟩)⟩
      exact ⟨fun z => sg_Ref_next_269 87 87 _ _ _ _ ⟨m1.1, fin _ p _ 3 v (p + nd T p) f1 hp h32 (by omega) j42 j44 j41 (by omega) (by omega) hb (tv 3 (by rw [if_neg (by omega)]))⟩, fun z => sg_Ref_next_269 87 87 _ _ _ _ ⟨m1.1, fin _ p _ 1 v (p + nd T p) f1 hp h32 (by omega) j42 j44 j41 (by omega) (by omega) hb (tv 1 (by rw [if_pos (by omega)]))⟩⟩
    induction n with
    | zero =>
      intro d x1 h1 v hn hd f1 j42 j41 j44 hv hb
      have m1 := m.kw f1
      have hl := nd_le (T := T) (p := p) (by omega)
      refine sg_Ref_next_170 87 _ h1 _ ⟨m1.1, ?_⟩
      rw [(t.kw f1 (by omega)).1, j41, ji_le]
      exact ⟨fun _ => last d _ h1 v (by omega) f1 j42 j41 j44 hv hb, fun z => absurd (by omega) z⟩
    | succ n ih =>
      intro d x1 h1 v hn hd f1 j42 j41 j44 hv hb
      have m1 := m.kw f1
      have t1 := t.kw f1 (by omega)
      obtain ⟨c, hc⟩ : ∃ c, T[p + d]? = some c := ⟨_, List.getElem?_eq_getElem (by omega)⟩
      obtain ⟨tb, c0', c1⟩ := t1.2.2 (p + d) c hc
      have hc' : (T.drop p)[d]? = some c := by rw [List.getElem?_drop]; exact hc
      have ek : (ji ((p + d : Nat) : Int)).toNatClampNeg = p + d := by rw [ji_tn, Int.toNat_natCast]
      refine sg_Ref_next_170 87 _ h1 _ ⟨m1.1, ?_⟩
      rw [t1.1, j41, ji_le]
      refine ⟨fun z => absurd z (by omega), fun _ => ⟨88, m1.p0, by rw [m1.t0], by rw [m1.t0, ji_in]; omega, ?_⟩⟩
      rw [ek, tb, show (Value.int (48 : Int32)) = Value.int (ji 48) from rfl, show (Value.int (57 : Int32)) = Value.int (ji 57) from rfl]
      refine s_Ref_isIn (by omega) (by omega) (by omega) (fun z => ⟨fun q => absurd q (by decide), fun _ => ⟨m1.1, ?_⟩⟩) (fun z => ⟨fun _ => last d _ h1 v ?_ f1 j42 j41 j44 hv hb, fun q => absurd rfl q⟩)
      · have yes := tw_yes _ d c hd hc' (decide_eq_true z)
        rw [j41, j42, ji_sub, jk4, ji_le]
        refine ⟨fun z4 => ?_, fun z4 => ⟨88, m1.p0, by rw [m1.t0], by rw [m1.t0, ji_in]; omega, ?_⟩⟩
        · refine sg_Ref_next_237 87 _ h1 _ ⟨m1.1, ?_⟩
          rw [j41, jk1, ji_add]
          refine ih (d + 1) _ _ v (by omega) yes (f1.tr (kw.si (by omega))) ?_ ?_ ?_ (fun q => by omega) hb
          · rw [am_I_sis, va_up_no _ _ (by decide)]; exact j42
          · rw [am_I_sis, va_up_at]; rfl
          · rw [am_I_sis, va_up_no _ _ (by decide)]; exact j44
        · have hvv := hv (by omega)
          have vb : ∀ (d : Nat), d ≤ nd T p → d ≤ 4 → 0 ≤ nv T p d ∧ nv T p d < 10 ^ d := by
            intro d
            induction d with
            | zero => intro _ _; simp [nv]
            | succ d ihd =>
              intro h1 h2
              obtain ⟨a1, a2⟩ := ihd (by omega) (by omega)
              have hl := nd_le (T := T) (p := p) (by omega)
              obtain ⟨c', hc2⟩ : ∃ c', T[p + d]? = some c' := ⟨_, List.getElem?_eq_getElem (by omega)⟩
              have dg : isD c' = true := by
                have h3 : (T.drop p)[d]? = some c' := by rw [List.getElem?_drop]; exact hc2
                cases e1 : isD c'
                · have := tw_no (f := isD) (T.drop p) d (by show d ≤ nd T p; omega) (fun b hb => by rw [h3] at hb; cases hb; exact e1)
                  have : nd T p = d := this
                  omega
                · rfl
              unfold isD at dg
              rw [decide_eq_true_iff] at dg
              rw [nv_step hc2, Int.pow_succ]
              omega
          have vb2 := vb d (by omega) (by omega)
          have pw : (10 : Int) ^ d ≤ 1000 := by
            obtain rfl | rfl | rfl | rfl : d = 0 ∨ d = 1 ∨ d = 2 ∨ d = 3 := by omega
            all_goals decide
          rw [ek, tb, j44, jk10, ji_mul, ji_add, show (48 : Int32) = ji 48 from rfl, ji_sub]
          refine sg_Ref_next_237 87 _ _ _ ⟨m1.1, ?_⟩
          rw [am_I_sis, va_up_no _ _ (by decide), j41, jk1, ji_add]
          refine ih (d + 1) _ _ (10 * v + c - 48) (by omega) yes ((f1.tr (kw.si (by omega))).tr (kw.si (by omega))) ?_ ?_ ?_ (fun _ => ?_) (by omega)
          · rw [am_I_sis, va_up_no _ _ (by decide), am_I_sis, va_up_no _ _ (by decide)]; exact j42
          · rw [am_I_sis, va_up_at]; rfl
          · rw [am_I_sis, va_up_no _ _ (by decide), am_I_sis, va_up_at]
          · rw [nv_step hc, ← hvv]
            omega
      · refine (tw_no _ d hd (fun b hb => ?_)).symm
        rw [hc'] at hb
        cases hb
        exact decide_eq_false z
  -- behind the blanks
  have piece : ∀ (p : Nat) (h1 : am_H), kw h h1 41 45 → p = sk T e → T[p]? ≠ some 32 → p ≤ T.length → am_I h1 87 41 = ji (p : Int) → am_EI m_Ref_next 0 0 38 [.ref 87, .float 0] [] h1 (am_qw Q) := by
    intro p h1 f1 hp h32 hpl j41
    have m1 := m.kw f1
    have t1 := t.kw f1 (by omega)
    refine sg_Ref_next_38 87 h1 _ ⟨m1.1, ?_⟩
    rw [j41]
    have F : kw h (am_si (am_si (am_si h1 87 42 (ji (p : Int))) 87 43 0) 87 44 0) 41 45 := ((f1.tr (kw.si (by omega))).tr (kw.si (by omega))).tr (kw.si (by omega))
    have g41 : am_I (am_si (am_si (am_si h1 87 42 (ji (p : Int))) 87 43 0) 87 44 0) 87 41 = ji (p : Int) := by
      rw [am_I_sis, va_up_no _ _ (by decide), am_I_sis, va_up_no _ _ (by decide), am_I_sis, va_up_no _ _ (by decide)]; exact j41
    have g42 : am_I (am_si (am_si (am_si h1 87 42 (ji (p : Int))) 87 43 0) 87 44 0) 87 42 = ji (p : Int) := by
      rw [am_I_sis, va_up_no _ _ (by decide), am_I_sis, va_up_no _ _ (by decide), am_I_sis, va_up_at]
    have g44 : am_I (am_si (am_si (am_si h1 87 42 (ji (p : Int))) 87 43 0) 87 44 0) 87 44 = ji 0 := by
      rw [am_I_sis, va_up_at]; rfl
    have g43 : am_I (am_si (am_si (am_si h1 87 42 (ji (p : Int))) 87 43 0) 87 44 0) 87 43 = ji 0 := by
      rw [am_I_sis, va_up_no _ _ (by decide), am_I_sis, va_up_at]; rfl
    have g88 : am_I (am_si (am_si (am_si h1 87 42 (ji (p : Int))) 87 43 0) 87 44 0) 88 = am_I h1 88 := by
      rw [am_I_sin (by omega), am_I_sin (by omega), am_I_sin (by omega)]
    have tF := t.kw F (by omega)
    have mF := m.kw F
    rw [g41, tF.1, ji_eq]
    generalize (am_si (am_si (am_si h1 87 42 (ji (p : Int))) 87 43 0) 87 44 0) = H3 at F g41 g42 g43 g44 g88 tF mF ⊢
    refine ⟨fun z => ⟨88, m1.p0, by rw [m1.t0], by rw [m1.t0, ji_in]; omega, ?_⟩, fun z => ?_⟩
    · obtain ⟨c, hc⟩ : ∃ c, T[p]? = some c := ⟨_, List.getElem?_eq_getElem (by omega)⟩
      obtain ⟨tb, c0, c1⟩ := t1.2.2 p c hc
      have ek : (ji (p : Int)).toNatClampNeg = p := by rw [ji_tn, Int.toNat_natCast]
      rw [g88, ek, tb, jk97, jk122]
      refine s_Ref_isIn (by omega) (by omega) (by omega) (fun y => ⟨fun q => absurd q (by decide), fun _ => ?_⟩) (fun y => ⟨fun _ => ?_, fun q => absurd rfl q⟩)
      · exact words p c hc (decide_eq_true y) hp h32 (T.length - p) 0 _ H3 (by omega) (by omega) F g42 g41
      · rw [show (Value.int (48 : Int32)) = Value.int (ji 48) from rfl, show (Value.int (57 : Int32)) = Value.int (ji 57) from rfl]
        refine s_Ref_isIn (by omega) (by omega) (by omega) (fun y2 => ⟨fun q => absurd q (by decide), fun _ => ?_⟩) (fun y2 => ⟨fun _ => ⟨mF.1, ?_⟩, fun q => absurd rfl q⟩)
        · exact nums p c hc (decide_eq_false y) (decide_eq_true y2) hp h32 (T.length - p) 0 _ H3 0 (by omega) (by omega) F g42 g41 g44 (fun _ => by simp [nv]) (by omega)
        · rw [g41, jk1, ji_add]
          have F2 : kw h (am_si (am_si H3 87 41 (ji ((p : Int) + 1))) 87 44 (ji c)) 41 45 := (F.tr (kw.si (by omega))).tr (kw.si (by omega))
          have end1 : ∀ tok, (0 ≤ tok ∧ tok ≤ 4) → tok = (if c ∈ mks then 4 else 1) → am_EI m_Ref_next 0 0 332 [.ref 87, .int (ji c)] [.int (ji tok), .ref 87] (am_si (am_si H3 87 41 (ji ((p : Int) + 1))) 87 44 (ji c)) (am_qw Q) := by
            intro tok ht htk
            refine sg_Ref_next_332 87 87 _ _ _ _ ⟨mF.1, fin _ p _ tok c (p + 1) F2 hp h32 hpl ?_ ?_ ?_ (by omega) ht (by omega) (Or.inr ⟨c, hc, Or.inr (Or.inr ⟨decide_eq_false y, decide_eq_false y2, rfl, rfl, htk⟩)⟩)⟩
            · rw [am_I_sis, va_up_no _ _ (by decide), am_I_sis, va_up_no _ _ (by decide)]; exact g42
            · rw [am_I_sis, va_up_at]
            · rw [am_I_sis, va_up_no _ _ (by decide), am_I_sis, va_up_at]; rfl
          have mark : c ∈ mks → am_EI m_Ref_next 0 0 327 [.ref 87, .int (ji c)] [.ref 87] (am_si (am_si H3 87 41 (ji ((p : Int) + 1))) 87 44 (ji c)) (am_qw Q) := fun hm => sg_Ref_next_327 87 87 _ _ _ (end1 4 (by omega) (by rw [if_pos hm]))
          have q1 : (ji c = 43) ↔ c = 43 := by rw [jk43, ji_eq]
          have q2 : (ji c = 45) ↔ c = 45 := by rw [jk45, ji_eq]
          have q3 : (ji c = 44) ↔ c = 44 := by rw [jk44, ji_eq]
          have q4 : (ji c = 47) ↔ c = 47 := by rw [jk47, ji_eq]
          have q5 : (ji c = 33) ↔ c = 33 := by rw [jk33, ji_eq]
          have q6 : (ji c = 126) ↔ c = 126 := by rw [jk126, ji_eq]
          rw [q1, q2, q3, q4, q5, q6]
          refine ⟨fun w => mark (by rw [w]; decide), fun w1 => ⟨fun w => mark (by rw [w]; decide), fun w2 => ⟨fun w => mark (by rw [w]; decide), fun w3 => ⟨fun w => mark (by rw [w]; decide), fun w4 => ⟨fun w => mark (by rw [w]; decide), fun w5 => ⟨fun w6 => end1 1 (by omega) ?_, fun w => mark (by rw [w]; decide)⟩⟩⟩⟩⟩⟩
          rw [if_neg]
          unfold mks
          simp
          omega
    · refine k H3 F ?_
      rw [← hp]
      exact ⟨mF, tF, g42, by rw [F.2.2.2.2 45 (by omega)]; exact i45, hpl, h32, 0, 0, p, g43, g44, g41, hpl, by omega, by omega, Or.inl ⟨by omega, rfl, rfl⟩⟩
  have blanks : ∀ (n c : Nat) (h1 : am_H), c + n = T.length → sk T c = sk T e → kw h h1 41 45 → am_I h1 87 41 = ji (c : Int) → am_EI m_Ref_next 0 0 0 [.ref 87, .float 0] [] h1 (am_qw Q) := by
    intro n
    induction n with
    | zero =>
      intro c h1 hc hs f1 j41
      have m1 := m.kw f1
      have no : T[c]? ≠ some 32 := by rw [List.getElem?_eq_none (by omega)]; exact fun q => by cases q
      refine sg_Ref_next_0 87 h1 _ ⟨m1.1, ?_⟩
      rw [(t.kw f1 (by omega)).1, j41, ji_le]
      refine ⟨fun _ => piece c h1 f1 (by rw [← hs, sk_no no]) no (by omega) j41, fun z => absurd (by omega) z⟩
    | succ n ih =>
      intro c h1 hc hs f1 j41
      have m1 := m.kw f1
      have t1 := t.kw f1 (by omega)
      obtain ⟨b', hb'⟩ : ∃ b', T[c]? = some b' := ⟨_, List.getElem?_eq_getElem (by omega)⟩
      obtain ⟨tb, c0, c1⟩ := t1.2.2 c b' hb'
      have ek : (ji (c : Int)).toNatClampNeg = c := by rw [ji_tn, Int.toNat_natCast]
      refine sg_Ref_next_0 87 h1 _ ⟨m1.1, ?_⟩
      rw [t1.1, j41, ji_le]
      refine ⟨fun z => absurd z (by omega), fun _ => ⟨88, m1.p0, by rw [m1.t0], by rw [m1.t0, ji_in]; omega, ?_⟩⟩
      rw [ek, tb, jk32, ji_eq]
      refine ⟨fun z => ?_, fun z => ?_⟩
      · have no : T[c]? ≠ some 32 := by rw [hb']; exact fun q => z (Option.some.inj q)
        exact piece c h1 f1 (by rw [← hs, sk_no no]) no (by omega) j41
      · rw [z] at hb'
        rw [jk1, ji_add]
        refine ih (c + 1) _ (by omega) (by rw [← hs, sk_32 hb']) (f1.tr (kw.si (by omega))) ?_
        rw [am_I_sis, va_up_at]
        rfl
  exact am_Ev.of (by decide +kernel) (Nat.le_of_ble_eq_true rfl) (by simp only [List.mem_cons, List.not_mem_nil, or_false]; intro v hv; rcases hv with rfl; all_goals first | exact trivial) (blanks (T.length - e) e h (by omega) rfl kw.rf i41)
