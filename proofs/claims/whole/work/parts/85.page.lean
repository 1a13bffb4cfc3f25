/-! the page -/
def pgA (h : am_H) (a : Nat) (l : List Int) : Prop := am_tg h a = (0, 2) ∧ am_tg h (a + 1) = (23, 256) ∧ am_P h a 0 = some (a + 1) ∧ am_I h a 1 = ji l.length ∧ l.length ≤ 256 ∧ ∀ (i : Nat) (c : Int), l[i]? = some c → am_I h (a + 1) i = ji c
theorem pgA.kept {h h' : am_H} {a lo hi : Nat} {l : List Int} (s : pgA h a l) (f : fi h h' lo hi) (hd : a + 2 ≤ lo ∨ hi ≤ a) : pgA h' a l := by
  obtain ⟨f1, f2, f3, f4⟩ := f
  unfold pgA
  rw [f2, f3, f4 a (by omega), f4 (a + 1) (by omega)]
  exact s
theorem jc_nar {c : Int} (hc : 0 ≤ c ∧ c < 65536) : narrow .char (.int (ji c)) = .int (ji c) := by
  obtain ⟨n, rfl⟩ := Int.eq_ofNat_of_zero_le hc.1
  have := (pk_charN (q := n) (by omega)).1
  rw [ji_nat] at this
  exact this
theorem jc_cut {c : Int} (hc : 0 ≤ c ∧ c < 65536) : ((ji c).toUInt32 % 65536).toInt32 = ji c := by
  obtain ⟨n, rfl⟩ := Int.eq_ofNat_of_zero_le hc.1
  have e : ji (n : Int) = nI n := (ji_nat n).symm
  rw [e, pk_char, pk_tn (by omega), Nat.mod_eq_of_lt (by omega)]
theorem jk32' : (32 : Int32) = ji 32 := rfl
theorem pgA.clr {h : am_H} {a : Nat} {l : List Int} (s : pgA h a l) : pgA (am_si h a 1 0) a [] := by
  obtain ⟨s1, s2, s3, s4, s5, s6⟩ := s
  refine ⟨s1, s2, s3, ?_, by simp, fun i c hc => by simp at hc⟩
  rw [am_I_sis, va_up_at]
  rfl
theorem s_Page_put {h : am_H} {a : Nat} {l : List Int} {c : Int} {Q : am_H → Prop} (s : pgA h a l) (hl : l.length < 256) (hc : 0 ≤ c ∧ c < 65536) (k : ∀ h', fi h h' a (a + 2) → pgA h' a (l ++ [c]) → Q h') : am_Ew m_Page_put 0 0 [.ref a, .int (ji c)] h Q := by
  obtain ⟨s1, s2, s3, s4, s5, s6⟩ := id s
  refine ev_Page_put a (ji c) h Q ?_
  rw [s4, jk0, jk256, ji_lt, ji_le, ji_tn, Int.toNat_natCast]
  refine ⟨s1, fun cc => absurd cc (by omega), fun _ => ⟨fun cc => absurd cc (by omega), fun _ => ⟨a + 1, s3, by rw [s2], by rw [s2, ji_in]; omega, jc_nar hc, ?_⟩⟩⟩
  rw [am_I_sin (by omega), s4, jk1, ji_add]
  have f1 : fi h (am_si h (a + 1) l.length (ji c)) a (a + 2) := fi.si (by omega) (by omega)
  have f2 : fi (am_si h (a + 1) l.length (ji c)) (am_si (am_si h (a + 1) l.length (ji c)) a 1 (ji (l.length + 1))) a (a + 2) := fi.si (by omega) (by omega)
  refine k _ (f1.tr f2) ⟨s1, s2, s3, ?_, by simp; omega, fun i c' hc' => ?_⟩
  · rw [am_I_sis, va_up_at]
    simp
  · rw [am_I_sin (by omega), am_I_sis]
    by_cases ci : i = l.length
    · subst ci
      rw [va_up_at]
      simp at hc'
      rw [hc']
    · rw [va_up_no _ _ ci]
      rw [List.getElem?_append] at hc'
      by_cases cl : i < l.length
      · rw [if_pos cl] at hc'
        exact s6 i c' hc'
      · rw [if_neg cl] at hc'
        have := (List.getElem?_eq_some_iff.mp hc').1
        simp at this
        omega
theorem s_Page_size {h : am_H} {a : Nat} {l : List Int} {Q : Int32 → am_H → Prop} (s : pgA h a l) (k : Q (ji l.length) h) : am_Ei m_Page_size 0 0 [.ref a] h Q := by
  refine ev_Page_size a h Q ⟨s.1, ?_⟩
  rw [s.2.2.2.1]
  exact k
theorem s_Page_letterAt {h : am_H} {a i : Nat} {l : List Int} {c : Int} {Q : Int32 → am_H → Prop} (s : pgA h a l) (hi : l[i]? = some c) (k : Q (ji c) h) : am_Ei m_Page_letterAt 0 0 [.ref a, .int (ji i)] h Q := by
  obtain ⟨s1, s2, s3, s4, s5, s6⟩ := id s
  have hl := (List.getElem?_eq_some_iff.mp hi).1
  refine ev_Page_letterAt a (ji i) h Q ?_
  rw [s4, jk0, jk256, ji_lt, ji_le, ji_le, ji_tn, Int.toNat_natCast]
  refine ⟨fun cc => absurd cc (by omega), fun _ => ⟨s1, fun cc => absurd cc (by omega), fun _ => ⟨fun cc => absurd cc (by omega), fun _ => ⟨a + 1, s3, by rw [s2], by rw [s2, ji_in]; omega, ?_⟩⟩⟩⟩
  rw [s6 i c hi]
  exact k
theorem wb_bd {j : Nat} (hj : j < 30) {c : Int} (hc : c ∈ wb j) : 0 ≤ c ∧ c < 128 := by
  unfold wb at hc
  obtain ⟨b, hb, rfl⟩ := List.mem_map.mp hc
  have ok := List.all_eq_true.mp (wb_ok j hj) b hb
  simp only [Bool.and_eq_true, decide_eq_true_eq] at ok
  exact ⟨ok.1.2, ok.2⟩
theorem wb_len' {j : Nat} (hj : j < 30) : (wb j).length ≤ 10 := by
  have := wb_len j hj
  simpa [wb] using this
theorem s_Page_putText {h : am_H} {a j : Nat} {l : List Int} {Q : am_H → Prop} (s : pgA h a l) (hj : j < 30) (hl : l.length + (wb j).length ≤ 256) (k : ∀ h', fi h h' a (a + 2) → pgA h' a (l ++ wb j) → Q h') : am_Ew m_Page_putText 0 0 [.ref a, .retAddr j] h Q := by
  have w10 := wb_len' hj
  have loop : ∀ (n i : Nat) (h1 : am_H), i + n = (wb j).length → fi h h1 a (a + 2) → pgA h1 a (l ++ (wb j).take i) → am_EI m_Page_putText 0 0 2 [.ref a, .retAddr j, .int (ji i)] [] h1 (am_qw Q) := by
    intro n
    induction n with
    | zero =>
      intro i h1 hi hf s1
      refine sg_Page_putText_2 a j (ji i) h1 _ ⟨isC_of hj, hj, s_Str_length hj ?_⟩
      rw [ji_le]
      rw [List.take_of_length_le (by omega)] at s1
      exact ⟨fun _ => k h1 hf s1, fun cc => absurd (by omega) cc⟩
    | succ n ih =>
      intro i h1 hi hf s1
      obtain ⟨c, hc⟩ : ∃ c, (wb j)[i]? = some c := ⟨_, List.getElem?_eq_getElem (by omega)⟩
      have bc := wb_bd hj (List.mem_of_getElem? hc)
      refine sg_Page_putText_2 a j (ji i) h1 _ ⟨isC_of hj, hj, s_Str_length hj ?_⟩
      rw [ji_le]
      refine ⟨fun cc => absurd cc (by omega), fun _ => ⟨isC_of hj, hj, s_Str_charAt hj hc ⟨s1.1, ?_⟩⟩⟩
      refine s_Page_put s1 (by rw [List.length_append, List.length_take]; omega) (by omega) (fun h2 f2 s2 => ?_)
      rw [List.append_assoc, ← take_snoc hc] at s2
      rw [jk1, ji_add]
      exact ih (i + 1) h2 (by omega) (hf.tr f2) s2
  refine ev_Page_putText a j h Q (Or.inl (isC_of hj)) ?_
  rw [jk0]
  exact loop (wb j).length 0 h (by omega) fi.rf (by simpa using s)
theorem s_Page_putDigit {h : am_H} {a : Nat} {l : List Int} {c : Int} {Q : am_H → Prop} (s : pgA h a l) (hl : l.length < 256) (hc : 0 ≤ c ∧ c < 1000) (k : ∀ h', fi h h' a (a + 2) → pgA h' a (l ++ [48 + c]) → Q h') : am_Ew m_Page_putDigit 0 0 [.ref a, .int (ji c)] h Q := by
  refine ev_Page_putDigit a (ji c) h Q ⟨s.1, ?_⟩
  rw [jk48, ji_add, jc_cut (by omega)]
  exact s_Page_put s hl (by omega) k
def ab (n : Int) : Int := if n < 0 then -n else n
def dgU (u v : Int) : List Int := if u ≤ v ∨ u = 1 then [48 + v / u % 10] else []
def nmT (n : Int) : List Int := (if n < 0 then [45] else []) ++ dgU 1000 (ab n) ++ dgU 100 (ab n) ++ dgU 10 (ab n) ++ dgU 1 (ab n)
theorem dgU_len (u v : Int) : (dgU u v).length ≤ 1 := by
  unfold dgU
  split <;> simp
theorem nmT_len (n : Int) : (nmT n).length ≤ 5 := by
  have h1 := dgU_len 1000 (ab n)
  have h2 := dgU_len 100 (ab n)
  have h3 := dgU_len 10 (ab n)
  have h4 := dgU_len 1 (ab n)
  have h5 : (if n < 0 then [45] else ([] : List Int)).length ≤ 1 := by split <;> simp
  unfold nmT
  simp only [List.length_append]
  omega
theorem s_Math_abs {x : Int} {h : am_H} {Q : Int32 → am_H → Prop} (hx : -2147483648 < x ∧ x < 2147483648) (k : Q (ji (ab x)) h) : am_Ei m_Math_abs 0 0 [.int (ji x)] h Q := by
  refine ev_Math_abs (ji x) h Q ?_
  rw [jk0, ji_le, ji_neg]
  unfold ab at k
  refine ⟨fun c => ?_, fun c => ?_⟩
  · rw [if_neg (by omega)] at k
    exact k
  · rw [if_pos (by omega)] at k
    exact k
theorem s_Page_putNumber {h : am_H} {a : Nat} {l : List Int} {n : Int} {Q : am_H → Prop} (s : pgA h a l) (hl : l.length + 5 ≤ 256) (hn : -9999 ≤ n ∧ n ≤ 9999) (k : ∀ h', fi h h' a (a + 2) → pgA h' a (l ++ nmT n) → Q h') : am_Ew m_Page_putNumber 0 0 [.ref a, .int (ji n)] h Q := by
  have hb : 0 ≤ ab n ∧ ab n ≤ 9999 := by unfold ab; split <;> omega
  have st : ∀ (u : Int) (h1 : am_H) (l1 : List Int), (0 < u ∧ u ≤ 1000) → pgA h1 a l1 → l1.length < 256 → (∀ h2, fi h1 h2 a (a + 2) → pgA h2 a (l1 ++ dgU u (ab n)) → am_EI m_Page_putNumber 0 0 19 [.ref a, .int (ji n), .int (ji (ab n)), .int (ji (u / 10))] [] h2 (am_qw Q)) → am_EI m_Page_putNumber 0 0 19 [.ref a, .int (ji n), .int (ji (ab n)), .int (ji u)] [] h1 (am_qw Q) := by
    intro u h1 l1 hu s1 hl1 kk
    have dv : 0 ≤ ab n / u ∧ ab n / u ≤ 9999 := by
      refine ⟨Int.ediv_nonneg hb.1 (by omega), ?_⟩
      have := Int.ediv_le_self u hb.1
      omega
    refine sg_Page_putNumber_19 a _ _ _ h1 _ ?_
    rw [jk0, jk1, jk10, ji_le, ji_le, ji_eq, ji_eq, ji_div, ji_div, ji_mod]
    unfold dgU at kk
    refine ⟨fun c => absurd c (by omega), fun _ => ⟨fun c => ⟨by omega, s1.1, ?_⟩, fun c => ⟨fun c1 => ?_, fun c1 => ⟨by omega, s1.1, ?_⟩⟩⟩⟩
    · rw [if_pos (Or.inl c)] at kk
      exact s_Page_putDigit s1 hl1 (by omega) kk
    · rw [if_neg (by omega), List.append_nil] at kk
      exact kk h1 fi.rf s1
    · rw [if_pos (Or.inr c1)] at kk
      exact s_Page_putDigit s1 hl1 (by omega) kk
  have all : ∀ (h0 : am_H) (l0 : List Int), fi h h0 a (a + 2) → pgA h0 a l0 → l0.length + 4 ≤ 256 → l0 = l ++ (if n < 0 then [45] else []) → am_EI m_Page_putNumber 0 0 19 [.ref a, .int (ji n), .int (ji (ab n)), .int (ji 1000)] [] h0 (am_qw Q) := by
    intro h0 l0 f0 s0 hl0 e0
    have d1 := dgU_len 1000 (ab n)
    have d2 := dgU_len 100 (ab n)
    have d3 := dgU_len 10 (ab n)
    refine st 1000 h0 l0 (by omega) s0 (by omega) (fun h1 f1 s1 => ?_)
    refine st 100 h1 _ (by omega) s1 (by simp only [List.length_append]; omega) (fun h2 f2 s2 => ?_)
    refine st 10 h2 _ (by omega) s2 (by simp only [List.length_append]; omega) (fun h3 f3 s3 => ?_)
    refine st 1 h3 _ (by omega) s3 (by simp only [List.length_append]; omega) (fun h4 f4 s4 => ?_)
    refine sg_Page_putNumber_19 a _ _ _ h4 _ ?_
    rw [show ((1 : Int) / 10) = 0 from rfl, jk0, ji_le]
    refine ⟨fun _ => k h4 ((((f0.tr f1).tr f2).tr f3).tr f4) ?_, fun c => absurd (by omega) c⟩
    rw [e0] at s4
    unfold nmT
    simp only [List.append_assoc] at s4 ⊢
    exact s4
  refine ev_Page_putNumber a (ji n) h Q ?_
  rw [jk0, jk45, jk1000, ji_le]
  refine ⟨fun c => s_Math_abs (by omega) (all h l fi.rf s (by omega) (by rw [if_neg (by omega)]; simp)), fun c => ⟨s.1, s_Page_put s (by omega) (by omega) (fun h1 f1 s1 => s_Math_abs (by omega) (all h1 _ f1 s1 (by simp; omega) (by rw [if_pos (by omega)])))⟩⟩
def tmT (t : Int) : List Int := [48 + t / 60 % 24 / 10, 48 + t / 60 % 24 % 10, 48 + t % 60 / 10, 48 + t % 60 % 10]
theorem s_Page_putTime {h : am_H} {a : Nat} {l : List Int} {t : Int} {Q : am_H → Prop} (s : pgA h a l) (hl : l.length + 4 ≤ 256) (ht : 0 ≤ t ∧ t ≤ 1000000) (k : ∀ h', fi h h' a (a + 2) → pgA h' a (l ++ tmT t) → Q h') : am_Ew m_Page_putTime 0 0 [.ref a, .int (ji t)] h Q := by
  refine ev_Page_putTime a (ji t) h Q ⟨s.1, ?_⟩
  rw [jk60, jk24, jk10, ji_div, ji_mod, ji_mod, ji_div, ji_mod, ji_div, ji_mod]
  refine s_Page_putDigit s (by omega) (by omega) (fun h1 f1 s1 => ⟨s1.1, s_Page_putDigit s1 (by simp; omega) (by omega) (fun h2 f2 s2 => ⟨s2.1, s_Page_putDigit s2 (by simp; omega) (by omega) (fun h3 f3 s3 => ⟨s3.1, s_Page_putDigit s3 (by simp; omega) (by omega) (fun h4 f4 s4 => ?_)⟩)⟩)⟩)
  refine k h4 (((f1.tr f2).tr f3).tr f4) ?_
  simp only [List.append_assoc, List.singleton_append] at s4
  exact s4
def dtT (t : Int) : List Int := tmT t ++ (if t / 1440 ≤ 0 then [] else 43 :: nmT (t / 1440))
theorem dtT_len (t : Int) : (dtT t).length ≤ 10 := by
  have := nmT_len (t / 1440)
  unfold dtT tmT
  split <;> simp; omega
theorem dgU_no {u v : Int} (h : ¬ (u ≤ v ∨ u = 1)) : dgU u v = [] := by
  unfold dgU
  rw [if_neg h]
theorem nmT_one {n : Int} (h : 0 ≤ n ∧ n ≤ 9) : (nmT n).length ≤ 1 := by
  have e : ab n = n := by unfold ab; rw [if_neg (by omega)]
  unfold nmT
  rw [e, if_neg (by omega), dgU_no (by omega), dgU_no (by omega), dgU_no (by omega)]
  simpa using dgU_len 1 n
theorem dtT_len' {t : Int} (h : 0 ≤ t ∧ t ≤ 13439) : (dtT t).length ≤ 6 := by
  have := nmT_one (n := t / 1440) (by omega)
  unfold dtT tmT
  split <;> simp; omega
theorem s_Page_putDayAndTime {h : am_H} {a : Nat} {l : List Int} {t : Int} {Q : am_H → Prop} (s : pgA h a l) (hl : l.length + 10 ≤ 256) (ht : 0 ≤ t ∧ t ≤ 1000000) (k : ∀ h', fi h h' a (a + 2) → pgA h' a (l ++ dtT t) → Q h') : am_Ew m_Page_putDayAndTime 0 0 [.ref a, .int (ji t)] h Q := by
  refine ev_Page_putDayAndTime a (ji t) h Q ⟨s.1, s_Page_putTime s (by omega) ht (fun h1 f1 s1 => ?_)⟩
  have l1 : (l ++ tmT t).length = l.length + 4 := by simp [tmT]
  rw [jk1440, ji_div, jk0, ji_le]
  unfold dtT at k
  refine ⟨fun c => ?_, fun c => ⟨s1.1, ?_⟩⟩
  · rw [if_pos c, List.append_nil] at k
    exact k h1 f1 s1
  · rw [if_neg c] at k
    rw [jk43]
    refine s_Page_put s1 (by omega) (by omega) (fun h2 f2 s2 => ⟨s2.1, s_Page_putNumber s2 (by rw [List.length_append, l1]; simp only [List.length_cons, List.length_nil]; omega) (by omega) (fun h3 f3 s3 => ?_)⟩)
    refine k h3 ((f1.tr f2).tr f3) ?_
    simp only [List.append_assoc, List.singleton_append] at s3 ⊢
    exact s3
/-- pieces with something between them -/
def jn (sep : List Int) (f : Nat → List Int) : Nat → List Int
  | 0 => []
  | i + 1 => jn sep f i ++ (if i = 0 then [] else sep) ++ f i
theorem jn_len {sep : List Int} {f : Nat → List Int} {c : Nat} (h : ∀ i, (f i).length ≤ c) : ∀ n, (jn sep f n).length ≤ n * (sep.length + c)
  | 0 => by simp [jn]
  | n + 1 => by
    have h1 := jn_len (sep := sep) h n
    have h2 := h n
    have h3 : (if n = 0 then ([] : List Int) else sep).length ≤ sep.length := by split <;> simp
    unfold jn
    simp only [List.length_append]
    rw [Nat.succ_mul]
    omega
def shipT (S : Sp) : List Int := nmT S.1 ++ [32] ++ nmT S.2.1 ++ [32] ++ nmT S.2.2
theorem s_Page_writeShip {h : am_H} {a b : Nat} {l : List Int} {S : Sp} {Q : am_H → Prop} (s : pgA h a l) (sh : hpA h b S) (hd : a + 2 ≤ b ∨ b + 1 ≤ a) (k : ∀ h', fi h h' a (a + 2) → pgA h' a (shipT S) → Q h') : am_Ew m_Page_writeShip 0 0 [.ref a, .ref b] h Q := by
  have f0 : fi h (am_si h a 1 0) a (a + 2) := fi.si (by omega) (by omega)
  have s0 := s.clr
  have sh0 := sh.kept f0 (by omega)
  have n1 := nmT_len S.1
  have n2 := nmT_len S.2.1
  obtain ⟨-, -, -, -, b1, b2, b3⟩ := id sh
  refine ev_Page_writeShip a b h Q ⟨s.1, sh.1, s_Ship_draught sh0 ⟨s0.1, s_Page_putNumber s0 (by simp) (by omega) (fun h1 f1 s1 => ⟨s1.1, ?_⟩)⟩⟩
  rw [jk32]
  refine s_Page_put s1 (by simp; omega) (by omega) (fun h2 f2 s2 => ?_)
  have sh2 := (sh0.kept f1 (by omega)).kept f2 (by omega)
  refine ⟨sh2.1, s_Ship_mast sh2 ⟨s2.1, s_Page_putNumber s2 (by simp; omega) (by omega) (fun h3 f3 s3 => ⟨s3.1, s_Page_put s3 (by simp; omega) (by omega) (fun h4 f4 s4 => ?_)⟩)⟩⟩
  have sh4 := (sh2.kept f3 (by omega)).kept f4 (by omega)
  refine ⟨sh4.1, s_Ship_pace sh4 ⟨s4.1, s_Page_putNumber s4 (by simp; omega) (by omega) (fun h5 f5 s5 => ?_)⟩⟩
  refine k h5 (((((f0.tr f1).tr f2).tr f3).tr f4).tr f5) ?_
  unfold shipT
  simp only [List.nil_append] at s5
  exact s5
def kdT (k : Int) : List Int := if k = 0 then wb 11 else if k = 1 then wb 12 else if k = 2 then wb 13 else wb 14
def sillT (L : Sl) : List Int := kdT L.1 ++ [32] ++ nmT L.2.1 ++ (if L.1 = 1 ∨ L.1 = 2 then [32] ++ nmT L.2.2.1 ++ [32] ++ nmT L.2.2.2 else [])
theorem s_Page_writeSill {h : am_H} {a b c : Nat} {l : List Int} {L : Sl} {Q : am_H → Prop} (s : pgA h a l) (sl : slA h b c L) (hd : a + 2 ≤ b ∨ b + 1 ≤ a) (k : ∀ h', fi h h' a (a + 2) → pgA h' a (sillT L) → Q h') : am_Ew m_Page_writeSill 0 0 [.ref a, .ref b] h Q := by
  have f0 : fi h (am_si h a 1 0) a (a + 2) := fi.si (by omega) (by omega)
  have s0 := s.clr
  have sl0 := sl.kept f0 (by omega)
  have n1 := nmT_len L.2.1
  have n2 := nmT_len L.2.2.1
  obtain ⟨-, -, -, -, -, -, b1, b2, b3, b4⟩ := id sl
  have rest : ∀ j, j < 30 → wb j = kdT L.1 → (am_Ew m_Page_putText 0 0 [.ref a, .retAddr j] (am_si h a 1 0) (fun h8 => (am_tg h8 a = (0, 2) ∧ (am_Ew m_Page_put 0 0 [.ref a, .int 32] h8 (fun h10 => (am_tg h10 b = (7, 5) ∧ (am_Ei m_Sill_level 0 0 [.ref b] h10 (fun r13 h12 => (am_tg h12 a = (0, 2) ∧ (am_Ew m_Page_putNumber 0 0 [.ref a, .int r13] h12 (fun h15 => (am_tg h15 b = (7, 5) ∧ (am_Ei m_Sill_hasTwoNumbers 0 0 [.ref b] h15 (fun r18 h17 => ((r18 = 0 → Q h17) ∧ (¬ r18 = 0 → (am_tg h17 a = (0, 2) ∧ (am_Ew m_Page_put 0 0 [.ref a, .int 32] h17 (fun h21 => (am_tg h21 b = (7, 5) ∧ (am_Ei m_Sill_one 0 0 [.ref b] h21 (fun r24 h23 => (am_tg h23 a = (0, 2) ∧ (am_Ew m_Page_putNumber 0 0 [.ref a, .int r24] h23 (fun h26 => (am_tg h26 a = (0, 2) ∧ (am_Ew m_Page_put 0 0 [.ref a, .int 32] h26 (fun h28 => (am_tg h28 b = (7, 5) ∧ (am_Ei m_Sill_two 0 0 [.ref b] h28 (fun r31 h30 => (am_tg h30 a = (0, 2) ∧ (am_Ew m_Page_putNumber 0 0 [.ref a, .int r31] h30 (fun h33 => Q h33)))))))))))))))))))))))))))))))))) := by
    intro j hj ej
    have w10 := wb_len' hj
    rw [jk32]
    refine s_Page_putText s0 hj (by simp; omega) (fun h1 f1 s1 => ⟨s1.1, s_Page_put s1 (by simp; omega) (by omega) (fun h2 f2 s2 => ?_)⟩)
    have sl2 := (sl0.kept f1 (by omega)).kept f2 (by omega)
    refine ⟨sl2.1, s_Sill_level sl2 ⟨s2.1, s_Page_putNumber s2 (by simp; omega) (by omega) (fun h3 f3 s3 => ?_)⟩⟩
    have sl3 := sl2.kept f3 (by omega)
    have F3 := ((f0.tr f1).tr f2).tr f3
    have e3 : ([] : List Int) ++ wb j ++ [32] ++ nmT L.2.1 = kdT L.1 ++ [32] ++ nmT L.2.1 := by rw [ej]; simp
    rw [e3] at s3
    have k10 : (kdT L.1).length ≤ 10 := by rw [← ej]; exact w10
    refine ⟨sl3.1, s_Sill_hasTwoNumbers sl3 (fun c1 => ⟨fun q => absurd q (by decide), fun _ => ⟨s3.1, ?_⟩⟩) (fun c0 => ⟨fun _ => ?_, fun q => absurd rfl q⟩)⟩
    · refine s_Page_put s3 (by simp; omega) (by omega) (fun h4 f4 s4 => ?_)
      have sl4 := sl3.kept f4 (by omega)
      refine ⟨sl4.1, s_Sill_one sl4 ⟨s4.1, s_Page_putNumber s4 (by simp; omega) (by omega) (fun h5 f5 s5 => ⟨s5.1, s_Page_put s5 (by simp; omega) (by omega) (fun h6 f6 s6 => ?_)⟩)⟩⟩
      have sl6 := (sl4.kept f5 (by omega)).kept f6 (by omega)
      refine ⟨sl6.1, s_Sill_two sl6 ⟨s6.1, s_Page_putNumber s6 (by simp; omega) (by omega) (fun h7 f7 s7 => ?_)⟩⟩
      refine k h7 ((((F3.tr f4).tr f5).tr f6).tr f7) ?_
      unfold sillT
      rw [if_pos c1]
      simp only [List.append_assoc] at s7 ⊢
      exact s7
    · refine k h3 F3 ?_
      unfold sillT
      rw [if_neg c0, List.append_nil]
      exact s3
  refine ev_Page_writeSill a b h Q ⟨s.1, sl.1, s_Sill_kind sl0 (ev_Page_wordOf _ _ _ ?_)⟩
  rw [jk0, jk1, jk2, ji_eq, ji_eq, ji_eq]
  refine ⟨fun c => ⟨s0.1, rest 11 (by omega) ?_⟩, fun c => ⟨s0.1, rest 12 (by omega) ?_⟩, fun c => ⟨s0.1, rest 13 (by omega) ?_⟩, fun c0 c1 c2 => ⟨s0.1, rest 14 (by omega) ?_⟩⟩
  · unfold kdT
    rw [if_pos c]
  · unfold kdT
    rw [if_neg (by omega), if_pos c]
  · unfold kdT
    rw [if_neg (by omega), if_neg (by omega), if_pos c]
  · unfold kdT
    rw [if_neg c0, if_neg c1, if_neg c2]
def tnX (p : Tn) : List Int := (if p.1 then wb 9 else wb 10) ++ tmT p.2.1 ++ [32] ++ nmT p.2.2
def at0 {α : Type} (f : α → List Int) (P : List α) (i : Nat) : List Int := match P[i]? with | some p => f p | none => []
theorem at0_at {α : Type} {f : α → List Int} {P : List α} {i : Nat} {p : α} (h : P[i]? = some p) : at0 f P i = f p := by
  unfold at0
  rw [h]
theorem at0_len {α : Type} {f : α → List Int} {P : List α} {c : Nat} (h : ∀ p ∈ P, (f p).length ≤ c) (i : Nat) : (at0 f P i).length ≤ c := by
  unfold at0
  cases e : P[i]? with
  | none => simp
  | some p => exact h p (List.mem_of_getElem? e)
def portT (P : List Tn) : List Int := jn [44] (at0 tnX P) P.length
theorem wb9 : (wb 9).length = 2 ∧ (wb 10).length = 2 ∧ (wb 15).length = 2 ∧ (wb 8).length = 2 ∧ (wb 7).length = 4 ∧ (wb 6).length = 4 := by decide +kernel
theorem tnX_f {p : Tn} (e : p.1 = false) : tnX p = wb 10 ++ tmT p.2.1 ++ [32] ++ nmT p.2.2 := by
  unfold tnX
  rw [e, if_neg (by decide)]
theorem tnX_t {p : Tn} (e : p.1 = true) : tnX p = wb 9 ++ tmT p.2.1 ++ [32] ++ nmT p.2.2 := by
  unfold tnX
  rw [e, if_pos rfl]
theorem tnX_len (p : Tn) : (tnX p).length ≤ 12 := by
  have := nmT_len p.2.2
  have w := wb9
  unfold tnX tmT
  cases p.1 <;> simp <;> omega
theorem s_Page_writePort {h : am_H} {a b r : Nat} {l : List Int} {P : List Tn} {Q : am_H → Prop} (s : pgA h a l) (pt : ptA h b r P) (g : gW P) (hd : a + 2 ≤ b ∨ b + 4 ≤ a) (k : ∀ h', fi h h' a (a + 2) → pgA h' a (portT P) → Q h') : am_Ew m_Page_writePort 0 0 [.ref a, .ref b] h Q := by
  have h16 := g.2.1
  have wl := wb9
  have loop : ∀ (n i : Nat) (h1 : am_H), i + n = P.length → fi h h1 a (a + 2) → pgA h1 a (jn [44] (at0 tnX P) i) → am_EI m_Page_writePort 0 0 12 [.ref a, .ref b, .int (ji i)] [] h1 (am_qw Q) := by
    intro n
    induction n with
    | zero =>
      intro i h1 hi hf s1
      have pt1 := pt.kept hf (by omega)
      refine sg_Page_writePort_12 a b (ji i) h1 _ ⟨pt1.1, s_Port_turnCount pt1 ?_⟩
      rw [ji_le]
      obtain rfl : i = P.length := by omega
      exact ⟨fun _ => k h1 hf s1, fun cc => absurd (by omega) cc⟩
    | succ n ih =>
      intro i h1 hi hf s1
      have pt1 := pt.kept hf (by omega)
      obtain ⟨p, hp⟩ : ∃ p, P[i]? = some p := ⟨_, List.getElem?_eq_getElem (by omega)⟩
      have bm := g.mem (List.mem_of_getElem? hp)
      have bh := g.1.2.2 p (List.mem_of_getElem? hp)
      have jl : (jn [44] (at0 tnX P) i).length ≤ i * (([44] : List Int).length + 12) := jn_len (at0_len (fun p _ => tnX_len p)) i
      simp only [List.length_cons, List.length_nil] at jl
      have nl := nmT_len p.2.2
      refine sg_Page_writePort_12 a b (ji i) h1 _ ⟨pt1.1, s_Port_turnCount pt1 ?_⟩
      rw [jk0, jk1, jk44, jk32, ji_le, ji_le, ji_add]
      have ex : jn [44] (at0 tnX P) (i + 1) = jn [44] (at0 tnX P) i ++ (if i = 0 then [] else [44]) ++ tnX p := by
        show _ ++ _ ++ at0 tnX P i = _
        rw [at0_at hp]
      refine ⟨fun cc => absurd cc (by omega), fun _ => ⟨fun c0 => ⟨pt1.1, s_Port_isHigh pt1 (by omega) ?_⟩, fun c0 => ⟨s1.1, s_Page_put s1 (by omega) (by omega) (fun h2 f2 s2 => ?_)⟩⟩⟩
      · rw [ptH_at hp, show (ji 0 : Int32) = 0 from rfl, bi_0]
        refine ⟨fun e => ⟨s1.1, s_Page_putText s1 (by omega) (by first | omega | (simp; omega)) (fun h3 f3 s3 => ?_)⟩, fun e => ⟨s1.1, s_Page_putText s1 (by omega) (by first | omega | (simp; omega)) (fun h3 f3 s3 => ?_)⟩⟩
        · have F3 := (hf).tr f3
          have pt3 := pt.kept F3 (by omega)
          refine ⟨pt3.1, s_Port_minuteOf pt3 (by omega) ⟨s3.1, ?_⟩⟩
          rw [ptM_at hp]
          refine s_Page_putTime s3 (by simp; omega) (by omega) (fun h4 f4 s4 => ⟨s4.1, s_Page_put s4 (by simp [tmT]; omega) (by omega) (fun h5 f5 s5 => ?_)⟩)
          have F5 := (F3.tr f4).tr f5
          have pt5 := pt.kept F5 (by omega)
          refine ⟨pt5.1, s_Port_heightOf pt5 (by omega) ⟨s5.1, ?_⟩⟩
          rw [ptG_at hp]
          refine s_Page_putNumber s5 (by simp [tmT]; omega) (by omega) (fun h6 f6 s6 => ?_)
          refine ih (i + 1) h6 (by omega) (F5.tr f6) ?_
          rw [ex, if_pos (by omega)]
          rw [tnX_f e]
          simp only [List.append_assoc, List.nil_append] at s6 ⊢
          exact s6
        · have F3 := (hf).tr f3
          have pt3 := pt.kept F3 (by omega)
          refine ⟨pt3.1, s_Port_minuteOf pt3 (by omega) ⟨s3.1, ?_⟩⟩
          rw [ptM_at hp]
          refine s_Page_putTime s3 (by simp; omega) (by omega) (fun h4 f4 s4 => ⟨s4.1, s_Page_put s4 (by simp [tmT]; omega) (by omega) (fun h5 f5 s5 => ?_)⟩)
          have F5 := (F3.tr f4).tr f5
          have pt5 := pt.kept F5 (by omega)
          refine ⟨pt5.1, s_Port_heightOf pt5 (by omega) ⟨s5.1, ?_⟩⟩
          rw [ptG_at hp]
          refine s_Page_putNumber s5 (by simp [tmT]; omega) (by omega) (fun h6 f6 s6 => ?_)
          refine ih (i + 1) h6 (by omega) (F5.tr f6) ?_
          rw [ex, if_pos (by omega)]
          rw [tnX_t (by cases e2 : p.1; exact absurd e2 e; rfl)]
          simp only [List.append_assoc, List.nil_append] at s6 ⊢
          exact s6
      · have F2 := hf.tr f2
        have pt2 := pt.kept F2 (by omega)
        refine ⟨pt2.1, s_Port_isHigh pt2 (by omega) ?_⟩
        rw [ptH_at hp, show (ji 0 : Int32) = 0 from rfl, bi_0]
        refine ⟨fun e => ⟨s2.1, s_Page_putText s2 (by omega) (by first | omega | (simp; omega)) (fun h3 f3 s3 => ?_)⟩, fun e => ⟨s2.1, s_Page_putText s2 (by omega) (by first | omega | (simp; omega)) (fun h3 f3 s3 => ?_)⟩⟩
        · have F3 := (F2).tr f3
          have pt3 := pt.kept F3 (by omega)
          refine ⟨pt3.1, s_Port_minuteOf pt3 (by omega) ⟨s3.1, ?_⟩⟩
          rw [ptM_at hp]
          refine s_Page_putTime s3 (by simp; omega) (by omega) (fun h4 f4 s4 => ⟨s4.1, s_Page_put s4 (by simp [tmT]; omega) (by omega) (fun h5 f5 s5 => ?_)⟩)
          have F5 := (F3.tr f4).tr f5
          have pt5 := pt.kept F5 (by omega)
          refine ⟨pt5.1, s_Port_heightOf pt5 (by omega) ⟨s5.1, ?_⟩⟩
          rw [ptG_at hp]
          refine s_Page_putNumber s5 (by simp [tmT]; omega) (by omega) (fun h6 f6 s6 => ?_)
          refine ih (i + 1) h6 (by omega) (F5.tr f6) ?_
          rw [ex, if_neg (by omega)]
          rw [tnX_f e]
          simp only [List.append_assoc, List.nil_append] at s6 ⊢
          exact s6
        · have F3 := (F2).tr f3
          have pt3 := pt.kept F3 (by omega)
          refine ⟨pt3.1, s_Port_minuteOf pt3 (by omega) ⟨s3.1, ?_⟩⟩
          rw [ptM_at hp]
          refine s_Page_putTime s3 (by simp; omega) (by omega) (fun h4 f4 s4 => ⟨s4.1, s_Page_put s4 (by simp [tmT]; omega) (by omega) (fun h5 f5 s5 => ?_)⟩)
          have F5 := (F3.tr f4).tr f5
          have pt5 := pt.kept F5 (by omega)
          refine ⟨pt5.1, s_Port_heightOf pt5 (by omega) ⟨s5.1, ?_⟩⟩
          rw [ptG_at hp]
          refine s_Page_putNumber s5 (by simp [tmT]; omega) (by omega) (fun h6 f6 s6 => ?_)
          refine ih (i + 1) h6 (by omega) (F5.tr f6) ?_
          rw [ex, if_neg (by omega)]
          rw [tnX_t (by cases e2 : p.1; exact absurd e2 e; rfl)]
          simp only [List.append_assoc, List.nil_append] at s6 ⊢
          exact s6
  refine ev_Page_writePort a b h Q ⟨s.1, ?_⟩
  rw [jk0]
  exact loop P.length 0 _ (by omega) (fi.si (by omega) (by omega)) s.clr
def stX (q : RtStop) : List Int := nmT q.2.1 ++ (if q.2.2.1 = 1 then [33] else if q.2.2.1 = 2 then [126] ++ nmT q.2.2.2 else [])
def rtX (R : List RtStop) (i : Nat) : List Int := match R[i]? with | some q => (if i = 0 then [] else wb 15 ++ nmT q.1 ++ [32]) ++ stX q | none => []
def routeT (R : List RtStop) : List Int := jn [] (rtX R) R.length
theorem rtX_len (R : List RtStop) (i : Nat) : (rtX R i).length ≤ 19 := by
  unfold rtX
  cases R[i]? with
  | none => simp
  | some q =>
    have w := wb9
    have n1 := nmT_len q.1
    have n2 := nmT_len q.2.1
    have n3 := nmT_len q.2.2.2
    have a1 : (if i = 0 then ([] : List Int) else wb 15 ++ nmT q.1 ++ [32]).length ≤ 8 := by split <;> simp <;> omega
    have a2 : (if q.2.2.1 = 1 then ([33] : List Int) else if q.2.2.1 = 2 then [126] ++ nmT q.2.2.2 else []).length ≤ 6 := by
      split
      · simp
      · split <;> simp; omega
    show (_ ++ stX q).length ≤ 19
    unfold stX
    simp only [List.length_append] at a1 a2 ⊢
    omega
theorem s_Page_writeRoute {h : am_H} {a b r : Nat} {l : List Int} {R : List RtStop} {Q : am_H → Prop} (s : pgA h a l) (rt : rtA h b r R) (hr : R.length ≤ 8) (hd : a + 2 ≤ b ∨ b + 6 ≤ a) (k : ∀ h', fi h h' a (a + 2) → pgA h' a (routeT R) → Q h') : am_Ew m_Page_writeRoute 0 0 [.ref a, .ref b] h Q := by
  have wl := wb9
  have loop : ∀ (n i : Nat) (h1 : am_H), i + n = R.length → fi h h1 a (a + 2) → pgA h1 a (jn [] (rtX R) i) → am_EI m_Page_writeRoute 0 0 12 [.ref a, .ref b, .int (ji i)] [] h1 (am_qw Q) := by
    intro n
    induction n with
    | zero =>
      intro i h1 hi hf s1
      have rt1 := rt.kept hf (by omega)
      refine sg_Page_writeRoute_12 a b (ji i) h1 _ ⟨rt1.1, s_Route_stopCount rt1 ?_⟩
      rw [ji_le]
      obtain rfl : i = R.length := by omega
      exact ⟨fun _ => k h1 hf s1, fun cc => absurd (by omega) cc⟩
    | succ n ih =>
      intro i h1 hi hf s1
      have rt1 := rt.kept hf (by omega)
      obtain ⟨q, hq⟩ : ∃ q, R[i]? = some q := ⟨_, List.getElem?_eq_getElem (by omega)⟩
      obtain ⟨-, -, -, -, b1, b2, b3, b4⟩ := rt.row hq
      have jl := jn_len (sep := []) (rtX_len R) i
      simp only [List.length_nil] at jl
      have n1 := nmT_len q.1
      have n2 := nmT_len q.2.1
      refine sg_Page_writeRoute_12 a b (ji i) h1 _ ⟨rt1.1, s_Route_stopCount rt1 ?_⟩
      rw [jk0, jk1, jk2, jk32, jk33, jk126, ji_le, ji_le, ji_add]
      have ex : jn [] (rtX R) (i + 1) = jn [] (rtX R) i ++ ((if i = 0 then [] else wb 15 ++ nmT q.1 ++ [32]) ++ stX q) := by
        show _ ++ _ ++ rtX R i = _
        unfold rtX
        rw [hq]
        split <;> simp
      refine ⟨fun cc => absurd cc (by omega), fun _ => ⟨fun c0 => ⟨rt1.1, s_Route_sillNumberOf rt1 (by omega) ⟨s1.1, ?_⟩⟩, fun c0 => ⟨s1.1, s_Page_putText s1 (by omega) (by omega) (fun h2 f2 s2 => ?_)⟩⟩⟩
      · rw [rtG_at hq]
        refine s_Page_putNumber s1 (by simp; omega) (by omega) (fun h5 f5 s5 => ?_)
        have F5 := (hf).tr f5
        have rt5 := rt.kept F5 (by omega)
        refine ⟨rt5.1, s_Route_kindOf rt5 (by omega) ?_⟩
        rw [rtG_at hq, ji_eq]
        refine ⟨fun k1 => ⟨rt5.1, s_Route_kindOf rt5 (by omega) ?_⟩, fun k1 => ⟨s5.1, s_Page_put s5 (by simp; omega) (by omega) (fun h6 f6 s6 => ih (i + 1) h6 (by omega) (F5.tr f6) ?_)⟩⟩
        · rw [rtG_at hq, ji_eq]
          refine ⟨fun k2 => ih (i + 1) h5 (by omega) F5 ?_, fun k2 => ⟨s5.1, s_Page_put s5 (by simp; omega) (by omega) (fun h6 f6 s6 => ?_)⟩⟩
          · rw [ex, if_pos (by omega)]
            unfold stX
            rw [if_neg k1, if_neg k2]
            simp only [List.append_assoc, List.nil_append, List.append_nil] at s5 ⊢
            exact s5
          · have rt6 := rt5.kept f6 (by omega)
            refine ⟨rt6.1, s_Route_levelOf rt6 (by omega) ⟨s6.1, ?_⟩⟩
            rw [rtG_at hq]
            refine s_Page_putNumber s6 (by simp; omega) (by omega) (fun h7 f7 s7 => ih (i + 1) h7 (by omega) ((F5.tr f6).tr f7) ?_)
            rw [ex, if_pos (by omega)]
            unfold stX
            rw [if_neg k1, if_pos k2]
            simp only [List.append_assoc, List.nil_append] at s7 ⊢
            exact s7
        · rw [ex, if_pos (by omega)]
          unfold stX
          rw [if_pos k1]
          simp only [List.append_assoc, List.nil_append] at s6 ⊢
          exact s6
      · have F2 := hf.tr f2
        have rt2 := rt.kept F2 (by omega)
        refine ⟨rt2.1, s_Route_milesTo rt2 (by omega) ⟨s2.1, ?_⟩⟩
        rw [rtG_at hq]
        refine s_Page_putNumber s2 (by simp; omega) (by omega) (fun h3 f3 s3 => ⟨s3.1, s_Page_put s3 (by simp; omega) (by omega) (fun h4 f4 s4 => ?_)⟩)
        have F4 := (F2.tr f3).tr f4
        have rt4 := rt.kept F4 (by omega)
        refine ⟨rt4.1, s_Route_sillNumberOf rt4 (by omega) ⟨s4.1, ?_⟩⟩
        rw [rtG_at hq]
        refine s_Page_putNumber s4 (by simp; omega) (by omega) (fun h5 f5 s5 => ?_)
        have F5 := (F4).tr f5
        have rt5 := rt.kept F5 (by omega)
        refine ⟨rt5.1, s_Route_kindOf rt5 (by omega) ?_⟩
        rw [rtG_at hq, ji_eq]
        refine ⟨fun k1 => ⟨rt5.1, s_Route_kindOf rt5 (by omega) ?_⟩, fun k1 => ⟨s5.1, s_Page_put s5 (by simp; omega) (by omega) (fun h6 f6 s6 => ih (i + 1) h6 (by omega) (F5.tr f6) ?_)⟩⟩
        · rw [rtG_at hq, ji_eq]
          refine ⟨fun k2 => ih (i + 1) h5 (by omega) F5 ?_, fun k2 => ⟨s5.1, s_Page_put s5 (by simp; omega) (by omega) (fun h6 f6 s6 => ?_)⟩⟩
          · rw [ex, if_neg (by omega)]
            unfold stX
            rw [if_neg k1, if_neg k2]
            simp only [List.append_assoc, List.nil_append, List.append_nil] at s5 ⊢
            exact s5
          · have rt6 := rt5.kept f6 (by omega)
            refine ⟨rt6.1, s_Route_levelOf rt6 (by omega) ⟨s6.1, ?_⟩⟩
            rw [rtG_at hq]
            refine s_Page_putNumber s6 (by simp; omega) (by omega) (fun h7 f7 s7 => ih (i + 1) h7 (by omega) ((F5.tr f6).tr f7) ?_)
            rw [ex, if_neg (by omega)]
            unfold stX
            rw [if_neg k1, if_pos k2]
            simp only [List.append_assoc, List.nil_append] at s7 ⊢
            exact s7
        · rw [ex, if_neg (by omega)]
          unfold stX
          rw [if_pos k1]
          simp only [List.append_assoc, List.nil_append] at s6 ⊢
          exact s6
  refine ev_Page_writeRoute a b h Q ⟨s.1, ?_⟩
  rw [jk0]
  exact loop R.length 0 _ (by omega) (fi.si (by omega) (by omega)) s.clr
def wnX (q : Int × Int) : List Int := dtT q.1 ++ (if q.2 = q.1 then [] else 45 :: dtT q.2)
def noteT (l : List (Int × Int)) (al : Bool) : List Int := if l = [] then wb 6 else if al then wb 7 else jn (wb 8) (at0 wnX l) l.length
theorem wnX_len {q : Int × Int} (h : (0 ≤ q.1 ∧ q.1 ≤ 13439) ∧ (0 ≤ q.2 ∧ q.2 ≤ 13439)) : (wnX q).length ≤ 13 := by
  have h1 := dtT_len' h.1
  have h2 := dtT_len' h.2
  unfold wnX
  split <;> simp <;> omega
theorem s_Page_writeNote {h : am_H} {a b r : Nat} {l : List Int} {z : List (Int × Int)} {al : Bool} {Q : am_H → Prop} (s : pgA h a l) (sp : spA h b r z) (hz : z.length ≤ 15) (bz : ∀ q ∈ z, (0 ≤ q.1 ∧ q.1 ≤ 13439) ∧ (0 ≤ q.2 ∧ q.2 ≤ 13439)) (hd : a + 2 ≤ b ∨ b + 3 ≤ a) (k : ∀ h', fi h h' a (a + 2) → pgA h' a (noteT z al) → Q h') : am_Ew m_Page_writeNote 0 0 [.ref a, .ref b, .int (bi al)] h Q := by
  have wl := wb9
  have f0 : fi h (am_si h a 1 0) a (a + 2) := fi.si (by omega) (by omega)
  have s0 := s.clr
  have sp0 := sp.kept f0 (by omega)
  have loop : z ≠ [] → al = false → ∀ (n i : Nat) (h1 : am_H), i + n = z.length → fi h h1 a (a + 2) → pgA h1 a (jn (wb 8) (at0 wnX z) i) → am_EI m_Page_writeNote 0 0 32 [.ref a, .ref b, .int (bi al), .int (ji i)] [] h1 (am_qw Q) := by
    intro ne hal n
    induction n with
    | zero =>
      intro i h1 hi hf s1
      have sp1 := sp.kept hf (by omega)
      refine sg_Page_writeNote_32 a b (bi al) (ji i) h1 _ ⟨sp1.1, s_Spans_size sp1 ?_⟩
      rw [ji_le]
      obtain rfl : i = z.length := by omega
      refine ⟨fun _ => k h1 hf ?_, fun cc => absurd (by omega) cc⟩
      unfold noteT
      rw [if_neg ne, hal, if_neg (by decide)]
      exact s1
    | succ n ih =>
      intro i h1 hi hf s1
      have sp1 := sp.kept hf (by omega)
      obtain ⟨q, hq⟩ : ∃ q, z[i]? = some q := ⟨_, List.getElem?_eq_getElem (by omega)⟩
      have bq := bz q (List.mem_of_getElem? hq)
      have jl : (jn (wb 8) (at0 wnX z) i).length ≤ i * ((wb 8).length + 13) := jn_len (at0_len (fun p hp => wnX_len (bz p hp))) i
      rw [wl.2.2.2.1] at jl
      have d1 := dtT_len' bq.1
      have d2 := dtT_len' bq.2
      refine sg_Page_writeNote_32 a b (bi al) (ji i) h1 _ ⟨sp1.1, s_Spans_size sp1 ?_⟩
      rw [jk0, jk1, jk45, ji_le, ji_le, ji_add]
      have ex : jn (wb 8) (at0 wnX z) (i + 1) = jn (wb 8) (at0 wnX z) i ++ (if i = 0 then [] else wb 8) ++ wnX q := by
        show _ ++ _ ++ at0 wnX z i = _
        rw [at0_at hq]
      refine ⟨fun cc => absurd cc (by omega), fun _ => ⟨fun c0 => ⟨sp1.1, s_Spans_firstOf sp1 (by omega) ⟨s1.1, ?_⟩⟩, fun c0 => ⟨s1.1, s_Page_putText s1 (by omega) (by omega) (fun h2 f2 s2 => ?_)⟩⟩⟩
      · rw [spF_at hq]
        refine s_Page_putDayAndTime s1 (by simp; omega) (by omega) (fun h3 f3 s3 => ?_)
        have F3 := (hf).tr f3
        have sp3 := sp.kept F3 (by omega)
        refine ⟨sp3.1, s_Spans_lastOf sp3 (by omega) ⟨sp3.1, s_Spans_firstOf sp3 (by omega) ?_⟩⟩
        rw [spF_at hq, spL_at hq, ji_eq]
        refine ⟨fun k1 => ih (i + 1) h3 (by omega) F3 ?_, fun k1 => ⟨s3.1, s_Page_put s3 (by simp; omega) (by omega) (fun h4 f4 s4 => ?_)⟩⟩
        · rw [ex, if_pos (by omega)]
          unfold wnX
          rw [if_pos k1]
          simp only [List.append_assoc, List.nil_append, List.append_nil] at s3 ⊢
          exact s3
        · have sp4 := sp3.kept f4 (by omega)
          refine ⟨sp4.1, s_Spans_lastOf sp4 (by omega) ⟨s4.1, ?_⟩⟩
          rw [spL_at hq]
          refine s_Page_putDayAndTime s4 (by simp; omega) (by omega) (fun h5 f5 s5 => ih (i + 1) h5 (by omega) ((F3.tr f4).tr f5) ?_)
          rw [ex, if_pos (by omega)]
          unfold wnX
          rw [if_neg k1]
          simp only [List.append_assoc, List.nil_append, List.cons_append] at s5 ⊢
          exact s5
      · have F2 := hf.tr f2
        have sp2 := sp.kept F2 (by omega)
        refine ⟨sp2.1, s_Spans_firstOf sp2 (by omega) ⟨s2.1, ?_⟩⟩
        rw [spF_at hq]
        refine s_Page_putDayAndTime s2 (by simp; omega) (by omega) (fun h3 f3 s3 => ?_)
        have F3 := (F2).tr f3
        have sp3 := sp.kept F3 (by omega)
        refine ⟨sp3.1, s_Spans_lastOf sp3 (by omega) ⟨sp3.1, s_Spans_firstOf sp3 (by omega) ?_⟩⟩
        rw [spF_at hq, spL_at hq, ji_eq]
        refine ⟨fun k1 => ih (i + 1) h3 (by omega) F3 ?_, fun k1 => ⟨s3.1, s_Page_put s3 (by simp; omega) (by omega) (fun h4 f4 s4 => ?_)⟩⟩
        · rw [ex, if_neg (by omega)]
          unfold wnX
          rw [if_pos k1]
          simp only [List.append_assoc, List.nil_append, List.append_nil] at s3 ⊢
          exact s3
        · have sp4 := sp3.kept f4 (by omega)
          refine ⟨sp4.1, s_Spans_lastOf sp4 (by omega) ⟨s4.1, ?_⟩⟩
          rw [spL_at hq]
          refine s_Page_putDayAndTime s4 (by simp; omega) (by omega) (fun h5 f5 s5 => ih (i + 1) h5 (by omega) ((F3.tr f4).tr f5) ?_)
          rw [ex, if_neg (by omega)]
          unfold wnX
          rw [if_neg k1]
          simp only [List.append_assoc, List.nil_append, List.cons_append] at s5 ⊢
          exact s5
  refine ev_Page_writeNote a b (bi al) h Q ⟨s.1, sp.1, s_Spans_size sp0 ?_⟩
  rw [bi_0, jk0, ji_eq]
  refine ⟨fun c0 => ⟨fun c1 => ?_, fun c1 => ⟨s0.1, s_Page_putText s0 (by omega) (by simp; omega) (fun h1 f1 s1 => k h1 (f0.tr f1) ?_)⟩⟩, fun c0 => ⟨s0.1, s_Page_putText s0 (by omega) (by simp; omega) (fun h1 f1 s1 => k h1 (f0.tr f1) ?_)⟩⟩
  · exact loop (fun e => c0 (by rw [e]; rfl)) c1 z.length 0 _ (by omega) f0 s0
  · unfold noteT
    rw [if_neg (fun e => c0 (by rw [e]; rfl)), show al = true by (cases e2 : al; exact absurd e2 c1; rfl), if_pos rfl]
    simpa using s1
  · unfold noteT
    rw [if_pos (List.length_eq_zero_iff.mp (by omega))]
    simpa using s1
