/-! ports that are written alike -/
theorem jn_cons {p : Tn} {P : List Tn} : ∀ n : Nat, jn [44] (at0 tnX (p :: P)) (n + 1) = tnX p ++ (if n = 0 then [] else 44 :: jn [44] (at0 tnX P) n)
  | 0 => by simp [jn, at0]
  | n + 1 => by
    have ih := jn_cons (p := p) (P := P) n
    have e : jn [44] (at0 tnX (p :: P)) (n + 1 + 1) = jn [44] (at0 tnX (p :: P)) (n + 1) ++ (if n + 1 = 0 then [] else [44]) ++ at0 tnX (p :: P) (n + 1) := rfl
    have e2 : jn [44] (at0 tnX P) (n + 1) = jn [44] (at0 tnX P) n ++ (if n = 0 then [] else [44]) ++ at0 tnX P n := rfl
    have e3 : at0 tnX (p :: P) (n + 1) = at0 tnX P n := rfl
    rw [e, e3, ih, e2]
    by_cases c : n = 0
    · subst c
      simp [jn]
    · simp [c]
theorem portT_cons (p : Tn) (P : List Tn) : portT (p :: P) = tnX p ++ (if P = [] then [] else 44 :: portT P) := by
  unfold portT
  rw [List.length_cons, jn_cons]
  by_cases c : P = []
  · rw [if_pos c, c]
    rfl
  · rw [if_neg c, if_neg (fun q => c (List.length_eq_zero_iff.mp q))]
def dcv (l : List Int) : Int := l.foldl (fun a c => 10 * a + (c - 48)) 0
def dec (l : List Int) : Int := match l with | [] => 0 | c :: r => if c = 45 then -dcv r else dcv (c :: r)
theorem wD_dec {v : Int} (hv : 0 ≤ v ∧ v ≤ 9999) : dcv (wD (if v < 10 then 0 else if v < 100 then 1 else if v < 1000 then 2 else 3) v) = v := by
  by_cases c1 : v < 10
  · rw [if_pos c1]
    show 10 * 0 + (48 + v / 1 % 10 - 48) = v
    omega
  · rw [if_neg c1]
    by_cases c2 : v < 100
    · rw [if_pos c2]
      show 10 * (10 * 0 + (48 + v / 10 % 10 - 48)) + (48 + v / 1 % 10 - 48) = v
      omega
    · rw [if_neg c2]
      by_cases c3 : v < 1000
      · rw [if_pos c3]
        show 10 * (10 * (10 * 0 + (48 + v / 100 % 10 - 48)) + (48 + v / 10 % 10 - 48)) + (48 + v / 1 % 10 - 48) = v
        omega
      · rw [if_neg c3]
        show 10 * (10 * (10 * (10 * 0 + (48 + v / 1000 % 10 - 48)) + (48 + v / 100 % 10 - 48)) + (48 + v / 10 % 10 - 48)) + (48 + v / 1 % 10 - 48) = v
        omega
theorem wD_ge : ∀ (e : Nat) (v : Int), ∀ c ∈ wD e v, 48 ≤ c
  | 0, v, c, hc => by
    unfold wD at hc
    simp at hc
    omega
  | e + 1, v, c, hc => by
    unfold wD at hc
    rcases List.mem_cons.mp hc with rfl | y
    · have := Int.emod_nonneg (v / 10 ^ (e + 1)) (show (10 : Int) ≠ 0 by decide)
      omega
    · exact wD_ge e v c y
theorem nmT_eq {n : Int} (hn : -9999 ≤ n ∧ n ≤ 9999) : nmT n = (if n < 0 then [45] else []) ++ wD (if ab n < 10 then 0 else if ab n < 100 then 1 else if ab n < 1000 then 2 else 3) (ab n) := by
  have hb : 0 ≤ ab n ∧ ab n ≤ 9999 := by unfold ab; split <;> omega
  rw [← wD_nm hb]
  unfold nmT
  simp only [List.append_assoc]
theorem nmT_dec {n : Int} (hn : -9999 ≤ n ∧ n ≤ 9999) : dec (nmT n) = n := by
  have hb : 0 ≤ ab n ∧ ab n ≤ 9999 := by unfold ab; split <;> omega
  have d := wD_dec hb
  have ge := wD_ge (if ab n < 10 then 0 else if ab n < 100 then 1 else if ab n < 1000 then 2 else 3) (ab n)
  rw [nmT_eq hn]
  revert d ge
  generalize wD (if ab n < 10 then 0 else if ab n < 100 then 1 else if ab n < 1000 then 2 else 3) (ab n) = w
  intro d ge
  by_cases c : n < 0
  · rw [if_pos c]
    show (if (45 : Int) = 45 then -dcv w else dcv (45 :: w)) = n
    rw [if_pos rfl, d]
    unfold ab
    rw [if_pos c]
    omega
  · rw [if_neg c, List.nil_append]
    have ea : ab n = n := by unfold ab; rw [if_neg c]
    cases w with
    | nil =>
      have : (0 : Int) = ab n := d
      show (0 : Int) = n
      omega
    | cons x w =>
      show (if x = 45 then -dcv w else dcv (x :: w)) = n
      rw [if_neg (by have := ge x (by simp); omega), d, ea]
theorem nmT_44 {n : Int} (hn : -9999 ≤ n ∧ n ≤ 9999) : ∀ c ∈ nmT n, c ≠ 44 := by
  intro c hc
  rw [nmT_eq hn] at hc
  rcases List.mem_append.mp hc with y | y
  · by_cases d : n < 0
    · rw [if_pos d] at y
      simp at y
      omega
    · rw [if_neg d] at y
      cases y
  · have := wD_ge _ _ c y
    omega
theorem cut44 : ∀ (x x' T T' : List Int), (∀ c ∈ x, c ≠ 44) → (∀ c ∈ x', c ≠ 44) → (T = [] ∨ ∃ r, T = 44 :: r) → (T' = [] ∨ ∃ r, T' = 44 :: r) → x ++ T = x' ++ T' → x = x' ∧ T = T'
  | [], [], T, T', _, _, _, _, h => ⟨rfl, h⟩
  | [], c :: x', T, T', _, h2, h3, _, h => by
    exfalso
    rcases h3 with rfl | ⟨r, rfl⟩
    · cases h
    · have := (List.cons.inj h).1
      exact h2 c (by simp) this.symm
  | c :: x, [], T, T', h1, _, _, h4, h => by
    exfalso
    rcases h4 with rfl | ⟨r, rfl⟩
    · cases h
    · have := (List.cons.inj h).1
      exact h1 c (by simp) this
  | c :: x, c' :: x', T, T', h1, h2, h3, h4, h => by
    have e := List.cons.inj h
    have ih := cut44 x x' T T' (fun d hd => h1 d (by simp [hd])) (fun d hd => h2 d (by simp [hd])) h3 h4 e.2
    exact ⟨by rw [e.1, ih.1], ih.2⟩
theorem wb_910 : wb 9 = [104, 119] ∧ wb 10 = [108, 119] := by decide +kernel
theorem tnX_eq (p : Tn) : tnX p = (if p.1 then 104 else 108) :: 119 :: (tmT p.2.1 ++ (32 :: nmT p.2.2)) := by
  have w := wb_910
  cases e : p.1
  · rw [tnX_f e, w.2]
    simp
  · rw [tnX_t e, w.1]
    simp
theorem portT_inj : ∀ (P P' : List Tn), (∀ p ∈ P, (-500 ≤ p.2.2 ∧ p.2.2 ≤ 1500) ∧ 0 ≤ p.2.1) → (∀ p ∈ P', (-500 ≤ p.2.2 ∧ p.2.2 ≤ 1500) ∧ 0 ≤ p.2.1) → (portT P = portT P' ↔ P.map wk = P'.map wk)
  | [], [], _, _ => ⟨fun _ => rfl, fun _ => rfl⟩
  | [], p' :: P', _, _ => by
    refine ⟨fun h => ?_, fun h => by cases h⟩
    rw [portT_cons, tnX_eq] at h
    cases h
  | p :: P, [], _, _ => by
    refine ⟨fun h => ?_, fun h => by cases h⟩
    rw [portT_cons, tnX_eq] at h
    cases h
  | p :: P, p' :: P', h1, h2 => by
    have ih := portT_inj P P' (fun q hq => h1 q (by simp [hq])) (fun q hq => h2 q (by simp [hq]))
    have b1 := h1 p (by simp)
    have b2 := h2 p' (by simp)
    rw [portT_cons, portT_cons, tnX_eq, tnX_eq]
    constructor
    · intro h
      simp only [List.cons_append, List.append_assoc] at h
      obtain ⟨e1, h⟩ := List.cons.inj h
      obtain ⟨-, h⟩ := List.cons.inj h
      unfold tmT at h
      simp only [List.cons_append, List.nil_append] at h
      obtain ⟨d1, h⟩ := List.cons.inj h
      obtain ⟨d2, h⟩ := List.cons.inj h
      obtain ⟨d3, h⟩ := List.cons.inj h
      obtain ⟨d4, h⟩ := List.cons.inj h
      obtain ⟨-, h⟩ := List.cons.inj h
      have tl : ∀ X : List Tn, (if X = [] then ([] : List Int) else 44 :: portT X) = [] ∨ ∃ r, (if X = [] then ([] : List Int) else 44 :: portT X) = 44 :: r := fun X => by
        by_cases c : X = []
        · rw [if_pos c]; exact Or.inl rfl
        · rw [if_neg c]; exact Or.inr ⟨_, rfl⟩
      obtain ⟨hx, ht⟩ := cut44 _ _ _ _ (nmT_44 (by omega)) (nmT_44 (by omega)) (tl P) (tl P') h
      have hh : p.2.2 = p'.2.2 := by
        rw [← nmT_dec (n := p.2.2) (by omega), ← nmT_dec (n := p'.2.2) (by omega), hx]
      have hb : p.1 = p'.1 := by
        cases e : p.1 <;> cases e' : p'.1
        · rfl
        · rw [e, e'] at e1; exact absurd e1 (by decide)
        · rw [e, e'] at e1; exact absurd e1 (by decide)
        · rfl
      have hm : p.2.1 % 1440 = p'.2.1 % 1440 := by omega
      have hk : wk p = wk p' := by
        unfold wk
        rw [hb, hm, hh]
      have hP : P.map wk = P'.map wk := by
        by_cases c : P = []
        · rw [if_pos c] at ht
          by_cases c' : P' = []
          · rw [c, c']
          · rw [if_neg c'] at ht
            cases ht
        · rw [if_neg c] at ht
          by_cases c' : P' = []
          · rw [if_pos c'] at ht
            cases ht
          · rw [if_neg c'] at ht
            exact ih.mp (List.cons.inj ht).2
      rw [List.map_cons, List.map_cons, hk, hP]
    · intro h
      rw [List.map_cons, List.map_cons] at h
      obtain ⟨hk, hP⟩ := List.cons.inj h
      unfold wk at hk
      obtain ⟨hb, hk2⟩ := Prod.mk.inj hk
      obtain ⟨hm, hh⟩ := Prod.mk.inj hk2
      have et : tmT p.2.1 = tmT p'.2.1 := by
        unfold tmT
        have a1 : p.2.1 / 60 % 24 = p'.2.1 / 60 % 24 := by omega
        have a2 : p.2.1 % 60 = p'.2.1 % 60 := by omega
        rw [a1, a2]
      have el : P = [] ↔ P' = [] := by
        have : P.length = P'.length := by
          have := congrArg List.length hP
          simpa using this
        rw [← List.length_eq_zero_iff, ← List.length_eq_zero_iff, this]
      rw [hb, et, hh, ih.mpr hP]
      by_cases c : P = []
      · rw [if_pos c, if_pos (el.mp c)]
      · rw [if_neg c, if_neg (fun q => c (el.mpr q))]
theorem wD_lt : ∀ (e : Nat) (v : Int), ∀ c ∈ wD e v, c < 128
  | 0, v, c, hc => by
    unfold wD at hc
    simp at hc
    omega
  | e + 1, v, c, hc => by
    unfold wD at hc
    rcases List.mem_cons.mp hc with rfl | y
    · have := Int.emod_lt_of_pos (v / 10 ^ (e + 1)) (show (0 : Int) < 10 by decide)
      omega
    · exact wD_lt e v c y
theorem nmT_rng {n : Int} (hn : -9999 ≤ n ∧ n ≤ 9999) : ∀ c ∈ nmT n, 0 ≤ c ∧ c < 128 := by
  intro c hc
  rw [nmT_eq hn] at hc
  rcases List.mem_append.mp hc with y | y
  · by_cases d : n < 0
    · rw [if_pos d] at y
      simp at y
      omega
    · rw [if_neg d] at y
      cases y
  · have := wD_ge _ _ c y
    have := wD_lt _ _ c y
    omega
theorem portT_rng : ∀ (P : List Tn), (∀ p ∈ P, (-500 ≤ p.2.2 ∧ p.2.2 ≤ 1500) ∧ 0 ≤ p.2.1) → ∀ c ∈ portT P, 0 ≤ c ∧ c < 128
  | [], _, c, hc => by cases hc
  | p :: P, h, c, hc => by
    have ih := portT_rng P (fun q hq => h q (by simp [hq]))
    have b := h p (by simp)
    rw [portT_cons, tnX_eq] at hc
    rcases List.mem_append.mp hc with y | y
    · rcases List.mem_cons.mp y with rfl | y
      · split <;> omega
      · rcases List.mem_cons.mp y with rfl | y
        · omega
        · rcases List.mem_append.mp y with y | y
          · unfold tmT at y
            simp at y
            omega
          · rcases List.mem_cons.mp y with rfl | y
            · omega
            · exact nmT_rng (by omega) c y
    · by_cases d : P = []
      · rw [if_pos d] at y
        cases y
      · rw [if_neg d] at y
        rcases List.mem_cons.mp y with rfl | y
        · omega
        · exact ih c y
theorem rf_same {h : am_H} {s : St} {a b : Int} {Q : Int32 → am_H → Prop} (m : rfA h s) (ha : -2147483648 ≤ a ∧ a < 2147483648) (hb : -2147483648 ≤ b ∧ b < 2147483648) (k : ∀ h', fi h h' 87 146 → rfA h' (p_same s a b).2 → Q (ji (p_same s a b).1) h') : am_Ei m_Ref_same 0 0 [.ref 87, .int (ji a), .int (ji b)] h Q := by
  refine ev_Ref_same 87 (ji a) (ji b) h Q ?_
  rw [jk1]
  refine ⟨m.1.1, s_Ref_isPort m ha (fun P e g r n0 n8 => ⟨fun q => absurd q (by decide), fun _ => ⟨m.1.1, s_Ref_isPort m hb (fun P' e2 g' r' n0' n8' => ⟨fun _ => ⟨m.1.1, ?_⟩, fun q => absurd q (by decide)⟩) (fun e2 => ⟨fun q => absurd rfl q, fun _ => ⟨m.1.1, rf_no (by unfold p_same; rw [e, e2]) m fi.rf k⟩⟩)⟩⟩) (fun e => ⟨fun _ => ⟨m.1.1, rf_no (by unfold p_same; rw [e]) m fi.rf k⟩, fun q => absurd rfl q⟩)⟩
  obtain ⟨p, rfl⟩ := Int.eq_ofNat_of_zero_le n0
  obtain ⟨p', rfl⟩ := Int.eq_ofNat_of_zero_le n0'
  rw [Int.toNat_natCast] at r r'
  have hP : ∀ q ∈ P, (-500 ≤ q.2.2 ∧ q.2.2 ≤ 1500) ∧ 0 ≤ q.2.1 := fun q hq => ⟨g.1.2.2 q hq, (g.mem hq).1⟩
  have hP' : ∀ q ∈ P', (-500 ≤ q.2.2 ∧ q.2.2 ≤ 1500) ∧ 0 ≤ q.2.1 := fun q hq => ⟨g'.1.2.2 q hq, (g'.mem hq).1⟩
  have er : p_same s (p : Int) (p' : Int) = ans s (cif (sameW P P' = true) 1 0) := by
    unfold p_same
    rw [e, e2]
  have iff : sameW P P' = true ↔ portT P = portT P' := by
    unfold sameW
    rw [decide_eq_true_iff, portT_inj P P' hP hP']
  have c1 := portT_rng P hP
  have c2 := portT_rng P' hP'
  have ln : (portT P).length ≤ 300 := by
    have := jn_len (sep := [44]) (at0_len (P := P) (fun p _ => tnX_len p)) P.length
    have h16 := g.2.1
    unfold portT
    simp only [List.length_cons, List.length_nil] at this
    omega
  obtain ⟨l, hl⟩ : ∃ l, l = portT P := ⟨_, rfl⟩
  obtain ⟨l', hl'⟩ : ∃ l', l' = portT P' := ⟨_, rfl⟩
  rw [← hl] at iff c1 ln
  rw [← hl'] at iff c2
  have fin : ∀ (v : Bool) (h3 : am_H), rk h h3 → (v = true ↔ l = l') → (v = false → am_tg h3 87 = (12, 56) ∧ am_Ei m_Ref_fine 0 0 [.ref 87, .int 0] h3 (fun r5 h4 => am_qi Q (some (.int r5)) h4)) ∧ (v = true → am_tg h3 87 = (12, 56) ∧ am_Ei m_Ref_fine 0 0 [.ref 87, .int 1] h3 (fun r5 h4 => am_qi Q (some (.int r5)) h4)) := by
    intro v h3 f3 hv
    have m3 := m.rk f3
    refine ⟨fun c => ⟨m3.1.1, ?_⟩, fun c => ⟨m3.1.1, ?_⟩⟩
    · rw [jk0]
      exact rf_an (er.trans (by rw [cif_neg (fun q => by rw [hv.mpr (iff.mp q)] at c; cases c)])) m3 f3.fi k
    · rw [jk1]
      exact rf_an (er.trans (by rw [cif_pos (iff.mpr (hv.mp c))])) m3 f3.fi k
  have loop2 : ∀ (n i : Nat) (v : Bool) (h3 : am_H), i + n = l.length → rk h h3 → wrA h3 l' → (∀ (j : Nat) (c : Int), l[j]? = some c → am_I h3 136 j = ji c) → (v = true → l'.length = l.length ∧ l.take i = l'.take i) → (v = false → l ≠ l') → am_EI m_Ref_same 0 0 84 [.ref 87, .int (ji p), .int (ji p'), .int (ji l.length), .int (bi v), .int (ji i)] [] h3 (am_qi Q) := by
    intro n
    induction n with
    | zero =>
      intro i v h3 hi f3 w3 ah ht hf
      have hv : v = true ↔ l = l' := by
        constructor
        · intro c
          obtain ⟨t1, t2⟩ := ht c
          rw [List.take_of_length_le (by omega), List.take_of_length_le (by omega)] at t2
          exact t2
        · intro c
          cases e : v
          · exact absurd c (hf e)
          · rfl
      have fn := fin v h3 f3 hv
      refine sg_Ref_same_84 87 _ _ _ _ _ h3 _ ?_
      rw [ji_le, bi_0]
      exact ⟨fun _ => ⟨fn.1, fun c => fn.2 (by cases e : v; exact absurd e c; rfl)⟩, fun c => absurd (by omega) c⟩
    | succ n ih =>
      intro i v h3 hi f3 w3 ah ht hf
      refine sg_Ref_same_84 87 _ _ _ _ _ h3 _ ?_
      rw [ji_le, bi_0]
      refine ⟨fun c => absurd c (by omega), fun _ => ⟨fun c => ?_, fun c => ?_⟩⟩
      · have fn := fin v h3 f3 ⟨fun q => (by rw [c] at q; cases q), fun q => absurd q (hf c)⟩
        exact ⟨fn.1, fun q => absurd c q⟩
      · have vt : v = true := by cases e : v; exact absurd e c; rfl
        obtain ⟨t1, t2⟩ := ht vt
        have w3l := w3.2.2.1
        obtain ⟨x, hx⟩ : ∃ x, l[i]? = some x := ⟨_, List.getElem?_eq_getElem (by omega)⟩
        obtain ⟨x', hx'⟩ : ∃ x', l'[i]? = some x' := ⟨_, List.getElem?_eq_getElem (by omega)⟩
        have b1 := c1 x (List.mem_of_getElem? hx)
        have b2 := c2 x' (List.mem_of_getElem? hx')
        have eki : (ji (i : Int)).toNatClampNeg = i := by rw [ji_tn, Int.toNat_natCast]
        have m3 := w3.1
        refine ⟨m3.1, 136, m3.p40, by rw [m3.t40], by rw [m3.t40, ji_in]; omega, 135, m3.p38, by rw [m3.t38], by rw [m3.t38, ji_in]; omega, ?_⟩
        rw [eki, ah i x hx, w3.2.2.2 i x' hx', ji_eq, jk1, ji_add]
        refine ⟨fun q => ?_, fun q => ?_⟩
        · refine ih (i + 1) false h3 (by omega) f3 w3 ah (fun z => by cases z) (fun _ z => q ?_)
          rw [z, hx'] at hx
          exact (Option.some.inj hx).symm
        · refine ih (i + 1) true h3 (by omega) f3 w3 ah (fun _ => ⟨t1, ?_⟩) (fun z => by cases z)
          rw [take_snoc hx, take_snoc hx', t2, q]
  have loop1 : ∀ (n i : Nat) (h2 : am_H), i + n = l.length → rk h h2 → wrA h2 l → (∀ (j : Nat) (c : Int), j < i → l[j]? = some c → am_I h2 136 j = ji c) → am_EI m_Ref_same 0 0 35 [.ref 87, .int (ji p), .int (ji p'), .int (ji l.length), .int (ji i), .float 0] [] h2 (am_qi Q) := by
    intro n
    induction n with
    | zero =>
      intro i h2 hi f2 w2 ah
      refine sg_Ref_same_35 87 _ _ _ _ h2 _ ?_
      rw [ji_le]
      refine ⟨fun _ => ⟨w2.1.1, s_Ref_writePort w2.1 (r'.rk f2) g' (by omega) (fun h3 f3 w3 => ⟨w3.1.1, ?_⟩)⟩, fun c => absurd (by omega) c⟩
      rw [← hl'] at w3
      have w3l := w3.2.2.1
      have ah3 : ∀ (j : Nat) (c : Int), l[j]? = some c → am_I h3 136 j = ji c := fun j c hc => by
        rw [f3.2.2.2.1 136 (by omega) (by omega)]
        exact ah j c (by have := (List.getElem?_eq_some_iff.mp hc).1; omega) hc
      have F3 := f2.tr f3.rk
      rw [w3.2.1, ji_eq]
      refine ⟨fun c => ?_, fun c => ?_⟩
      · exact loop2 l.length 0 false h3 (by omega) F3 w3 ah3 (fun z => by cases z) (fun _ z => c (by rw [z]))
      · exact loop2 l.length 0 true h3 (by omega) F3 w3 ah3 (fun _ => ⟨by omega, by simp⟩) (fun z => by cases z)
    | succ n ih =>
      intro i h2 hi f2 w2 ah
      obtain ⟨x, hx⟩ : ∃ x, l[i]? = some x := ⟨_, List.getElem?_eq_getElem (by omega)⟩
      have eki : (ji (i : Int)).toNatClampNeg = i := by rw [ji_tn, Int.toNat_natCast]
      have m2 := w2.1
      refine sg_Ref_same_35 87 _ _ _ _ h2 _ ?_
      rw [ji_le]
      refine ⟨fun c => absurd c (by omega), fun _ => ⟨m2.1, 136, m2.p40, 135, m2.p38, by rw [m2.t38], by rw [m2.t38, ji_in]; omega, by rw [m2.t40], by rw [m2.t40, ji_in]; omega, ?_⟩⟩
      rw [eki, w2.2.2.2 i x hx, jk1, ji_add]
      have fk : rk h2 (am_si h2 136 i (ji x)) := rk.row (by omega)
      refine ih (i + 1) _ (by omega) (f2.tr fk) ⟨m2.rk fk, ?_, w2.2.2.1, fun j c hc => ?_⟩ (fun j c hj hc => ?_)
      · rw [am_I_sin (by omega)]
        exact w2.2.1
      · rw [am_I_sin (by omega)]
        exact w2.2.2.2 j c hc
      · rw [am_I_sis]
        by_cases cj : j = i
        · subst cj
          rw [hx] at hc
          cases hc
          rw [va_up_at]
        · rw [va_up_no _ _ cj]
          exact ah j c (by omega) hc
  refine s_Ref_writePort m.1 r g (by omega) (fun h1 f1 w1 => ⟨w1.1.1, ?_⟩)
  rw [← hl] at w1
  rw [w1.2.1]
  exact loop1 l.length 0 h1 (by omega) f1.rk w1 (fun j c hj => absurd hj (by omega))
