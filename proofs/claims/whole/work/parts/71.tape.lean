/-! the tape of the class: bytes 0 .. 255, a place, whether all was right so far -/
def sg (b : Int) : Int := if b < 128 then b else b - 256
def bt (T : List Int) (i : Int) : Int := if 0 ≤ i then (match T[i.toNat]? with | some b => sg b | none => -1) else -1
theorem bt_at {T : List Int} {i : Nat} {b : Int} (h : T[i]? = some b) : bt T (i : Int) = sg b := by
  unfold bt
  rw [if_pos (by omega), Int.toNat_natCast, h]
theorem bt_no {T : List Int} {i : Nat} (h : T.length ≤ i) : bt T (i : Int) = -1 := by
  unfold bt
  rw [if_pos (by omega), Int.toNat_natCast, List.getElem?_eq_none h]
def tpT (h : am_H) (a : Nat) (T : List Int) : Prop :=
  am_tg h a = (9, 4) ∧ am_tg h (a + 1) = (22, 120) ∧ am_P h a 0 = some (a + 1) ∧ am_I h a 1 = ji T.length ∧ T.length ≤ 120 ∧ ∀ (i : Nat) (b : Int), T[i]? = some b → am_I h (a + 1) i = ji (sg b) ∧ 0 ≤ b ∧ b < 256
def tpA (h : am_H) (a : Nat) (T : List Int) (s : Nat × Bool) : Prop := tpT h a T ∧ am_I h a 2 = ji (s.1 : Int) ∧ am_I h a 3 = bi (!s.2) ∧ s.1 ≤ T.length
theorem tpT.kept {h h' : am_H} {a lo hi : Nat} {T : List Int} (s : tpT h a T) (f : fi h h' lo hi) (hd : a + 2 ≤ lo ∨ hi ≤ a) : tpT h' a T := by
  obtain ⟨f1, f2, f3, f4⟩ := f
  unfold tpT
  rw [f2, f3, f4 a (by omega), f4 (a + 1) (by omega)]
  exact s
theorem tpA.kept {h h' : am_H} {a lo hi : Nat} {T : List Int} {s : Nat × Bool} (t : tpA h a T s) (f : fi h h' lo hi) (hd : a + 2 ≤ lo ∨ hi ≤ a) : tpA h' a T s := by
  obtain ⟨t1, t2, t3, t4⟩ := t
  refine ⟨t1.kept f hd, ?_, ?_, t4⟩
  · rw [f.2.2.2 a (by omega)]
    exact t2
  · rw [f.2.2.2 a (by omega)]
    exact t3
theorem tpT.byte {h : am_H} {a : Nat} {T : List Int} (t : tpT h a T) {b : Int} (hb : b ∈ T) : 0 ≤ b ∧ b < 256 := by
  obtain ⟨i, hi⟩ := List.getElem?_of_mem hb
  exact (t.2.2.2.2.2 i b hi).2
theorem bt_bd {h : am_H} {a : Nat} {T : List Int} (t : tpT h a T) (i : Int) : -128 ≤ bt T i ∧ bt T i ≤ 127 := by
  unfold bt
  by_cases c : 0 ≤ i
  · rw [if_pos c]
    cases hb : T[i.toNat]? with
    | none => exact ⟨by decide, by decide⟩
    | some b =>
      have := t.byte (List.mem_of_getElem? hb)
      show -128 ≤ sg b ∧ sg b ≤ 127
      unfold sg
      split <;> omega
  · rw [if_neg c]
    exact ⟨by decide, by decide⟩
/-- a cell of the tape is written, but neither its bytes nor its length -/
theorem tpT.put {h : am_H} {a k : Nat} {v : Int32} {T : List Int} (t : tpT h a T) (hk : k ≠ 1) : tpT (am_si h a k v) a T := by
  obtain ⟨t1, t2, t3, t4, t5, t6⟩ := t
  refine ⟨t1, t2, t3, ?_, t5, fun i b hb => ?_⟩
  · rw [am_I_sis, va_up_no _ _ (fun e => hk e.symm)]
    exact t4
  · rw [am_I_sin (by omega)]
    exact t6 i b hb
theorem s_Tape_size {h : am_H} {a : Nat} {T : List Int} {Q : Int32 → am_H → Prop} (t : tpT h a T) (k : Q (ji T.length) h) : am_Ei m_Tape_size 0 0 [.ref a] h Q := by
  refine ev_Tape_size a h Q ⟨t.1, ?_⟩
  rw [t.2.2.2.1]
  exact k
theorem s_Tape_byteAt {h : am_H} {a : Nat} {T : List Int} {i : Int} {Q : Int32 → am_H → Prop} (t : tpT h a T) (hi : -2147483648 ≤ i ∧ i < 2147483648) (k : Q (ji (bt T i)) h) : am_Ei m_Tape_byteAt 0 0 [.ref a, .int (ji i)] h Q := by
  obtain ⟨t1, t2, t3, t4, t5, t6⟩ := t
  refine ev_Tape_byteAt a (ji i) h Q ?_
  rw [t4, jk0, jk120, jm1, ji_lt, ji_le, ji_le]
  by_cases c1 : i < 0
  · have e : bt T i = -1 := if_neg (by omega)
    rw [e] at k
    exact ⟨fun _ => k, fun q => absurd c1 q⟩
  · refine ⟨fun q => absurd q c1, fun _ => ⟨t1, fun c2 => ?_, fun c2 => ⟨fun c3 => by omega, fun _ => ⟨a + 1, t3, by rw [t2], by rw [t2]; exact (ji_in).mpr (by omega), ?_⟩⟩⟩⟩
    · have e : bt T i = -1 := by
        unfold bt
        rw [if_pos (by omega), List.getElem?_eq_none (by omega)]
      rw [e] at k
      exact k
    · have hq := List.getElem?_eq_getElem (show i.toNat < T.length by omega)
      have e : bt T i = sg T[i.toNat] := by
        unfold bt
        rw [if_pos (by omega), hq]
      rw [e] at k
      rw [ji_tn, (t6 _ _ hq).1]
      exact k
/-- behind the blanks -/
def sk (T : List Int) (p : Nat) : Nat := p + ((T.drop p).takeWhile (fun b => b == 32)).length
theorem sk_32 {T : List Int} {p : Nat} (h : T[p]? = some 32) : sk T p = sk T (p + 1) := by
  unfold sk
  rw [drop_cons h, List.takeWhile_cons_of_pos (by simp)]
  simp
  omega
theorem sk_no {T : List Int} {p : Nat} (h : T[p]? ≠ some 32) : sk T p = p := by
  unfold sk
  cases hb : T[p]? with
  | none =>
    rw [List.drop_eq_nil_of_le (List.getElem?_eq_none_iff.mp hb)]
    simp
  | some b =>
    rw [drop_cons hb, List.takeWhile_cons_of_neg]
    · simp
    · simp
      rintro rfl
      exact h hb
theorem sk_le {T : List Int} {p : Nat} (h : p ≤ T.length) : p ≤ sk T p ∧ sk T p ≤ T.length := by
  unfold sk
  have h1 := (List.takeWhile_sublist (fun b : Int => b == 32) (l := T.drop p)).length_le
  rw [List.length_drop] at h1
  omega
theorem s_Tape_moveTo {h : am_H} {a n : Nat} {T : List Int} {ok : Bool} {Q : am_H → Prop} (t : tpT h a T) (hw : am_I h a 3 = bi (!ok)) (hn : n ≤ T.length) (k : ∀ h', fi h h' a (a + 1) → tpA h' a T (sk T n, ok) → Q h') : am_Ew m_Tape_moveTo 0 0 [.ref a, .int (ji n)] h Q := by
  have hl := t.2.2.2.2.1
  have loop : ∀ (m p : Nat) (h1 : am_H), p + m = T.length → fi h h1 a (a + 1) → tpA h1 a T (p, ok) → sk T p = sk T n → am_EI m_Tape_moveTo 0 0 5 [.ref a, .int (ji n)] [] h1 (am_qw Q) := by
    intro m
    induction m with
    | zero =>
      intro p h1 hp hf t1 hs
      obtain ⟨u, v, w, z⟩ := t1
      refine sg_Tape_moveTo_5 a _ h1 _ ⟨u.1, ?_⟩
      dsimp only at v z
      rw [v, u.2.2.2.1, jk0, ji_lt, ji_le]
      refine ⟨fun c => by omega, fun _ => ⟨fun _ => ?_, fun c => absurd (by omega) c⟩⟩
      refine k h1 hf ?_
      rw [← hs, sk_no (by rw [List.getElem?_eq_none (by omega)]; exact fun q => by cases q)]
      exact ⟨u, v, w, z⟩
    | succ m ih =>
      intro p h1 hp hf t1 hs
      obtain ⟨u, v, w, z⟩ := t1
      refine sg_Tape_moveTo_5 a _ h1 _ ⟨u.1, ?_⟩
      dsimp only at v z
      rw [v, u.2.2.2.1, jk0, jk120, ji_lt, ji_le, ji_le]
      obtain ⟨b, hb⟩ : ∃ b, T[p]? = some b := ⟨_, List.getElem?_eq_getElem (by omega)⟩
      obtain ⟨u1, u2, u3⟩ := u.2.2.2.2.2 p b hb
      have tn : (ji (p : Int)).toNatClampNeg = p := by rw [ji_tn]; omega
      refine ⟨fun c => by omega, fun _ => ⟨fun c => by omega, fun _ => ⟨fun c => by omega, fun _ => ⟨a + 1, u.2.2.1, by rw [u.2.1], by rw [u.2.1]; exact (ji_in).mpr (by omega), ?_⟩⟩⟩⟩
      have hsg : -128 ≤ sg b ∧ sg b ≤ 127 := by unfold sg; split <;> omega
      have h32 : sg b = 32 ↔ b = 32 := by unfold sg; split <;> omega
      rw [tn, u1, jk32, ji_eq, h32, jk1, ji_add]
      refine ⟨fun c => ?_, fun c => ?_⟩
      · refine k h1 hf ?_
        rw [← hs, sk_no (by rw [hb]; exact fun q => c (Option.some.inj q))]
        exact ⟨u, v, w, z⟩
      · subst c
        refine ih (p + 1) _ (by omega) (hf.tr (fi.si (by omega) (by omega))) ⟨u.put (by decide), ?_, ?_, by show p + 1 ≤ _; omega⟩ (by rw [← hs, sk_32 hb])
        · rw [am_I_sis, va_up_at]
          rfl
        · rw [am_I_sis, va_up_no _ _ (by decide)]
          exact w
  refine ev_Tape_moveTo a (ji n) h Q ⟨t.1, ?_⟩
  refine loop (T.length - n) n _ (by omega) (fi.si (by omega) (by omega)) ⟨t.put (by decide), ?_, ?_, hn⟩ rfl
  · rw [am_I_sis, va_up_at]
  · rw [am_I_sis, va_up_no _ _ (by decide)]
    exact hw
def dM (T : List Int) (c : Int) (s : Nat × Bool) : Bool := s.2 && decide (bt T (s.1 : Int) = c)
def aM (T : List Int) (c : Int) (s : Nat × Bool) : Nat × Bool := if dM T c s then (sk T (s.1 + 1), s.2) else s
def wM (T : List Int) (c : Int) (s : Nat × Bool) : Nat × Bool := if dM T c s then (sk T (s.1 + 1), s.2) else (s.1, false)
theorem dM_lt {T : List Int} {c : Int} {s : Nat × Bool} (hc : 0 ≤ c) (h : dM T c s = true) : s.2 = true ∧ bt T (s.1 : Int) = c ∧ s.1 < T.length := by
  unfold dM at h
  simp only [Bool.and_eq_true, decide_eq_true_eq] at h
  refine ⟨h.1, h.2, ?_⟩
  rcases Nat.lt_or_ge s.1 T.length with q | q
  · exact q
  · have := bt_no q
    omega
theorem s_Tape_takeMark {h : am_H} {a : Nat} {T : List Int} {c : Int} {s : Nat × Bool} {Q : Int32 → am_H → Prop} (t : tpA h a T s) (hc : 0 ≤ c ∧ c < 128) (k : ∀ h', fi h h' a (a + 1) → tpA h' a T (aM T c s) → Q (bi (dM T c s)) h') : am_Ei m_Tape_takeMark 0 0 [.ref a, .int (ji c)] h Q := by
  obtain ⟨t1, t2, t3, t4⟩ := id t
  have hl := t1.2.2.2.2.1
  have bb := bt_bd t1 (s.1 : Int)
  refine ev_Tape_takeMark a (ji c) h Q ⟨t1.1, ?_⟩
  rw [t2, t3, bi_0]
  refine ⟨fun c1 => ?_, fun c1 => s_Tape_byteAt t1 (by omega) ?_⟩
  · have e : dM T c s = false := by
      unfold dM
      cases hs : s.2
      · rfl
      · rw [hs] at c1
        exact absurd rfl c1
    have k2 := k h fi.rf
    rw [aM, e] at k2
    exact k2 t
  · rw [ji_eq]
    refine ⟨fun c2 => ⟨t1.1, ?_⟩, fun c2 => ?_⟩
    · have hs : s.2 = true := by cases hs : s.2; rw [hs] at c1; cases c1; rfl
      have e : dM T c s = true := by
        unfold dM
        rw [hs, decide_eq_true c2]
        rfl
      obtain ⟨-, -, hlt⟩ := dM_lt hc.1 e
      rw [t2, jk1, ji_add]
      refine s_Tape_moveTo (n := s.1 + 1) t1 t3 (by omega) (fun h' hf t' => ?_)
      have k2 := k h' hf
      rw [aM, e] at k2
      exact k2 t'
    · have e : dM T c s = false := by
        unfold dM
        rw [decide_eq_false c2]
        simp
      have k2 := k h fi.rf
      rw [aM, e] at k2
      exact k2 t
theorem tpA.bad {h : am_H} {a : Nat} {T : List Int} {s : Nat × Bool} (t : tpA h a T s) : tpA (am_si h a 3 1) a T (s.1, false) := by
  obtain ⟨t1, t2, t3, t4⟩ := t
  refine ⟨t1.put (by decide), ?_, ?_, t4⟩
  · rw [am_I_sis, va_up_no _ _ (by decide)]
    exact t2
  · rw [am_I_sis, va_up_at]
    rfl
theorem s_Tape_wantMark {h : am_H} {a : Nat} {T : List Int} {c : Int} {s : Nat × Bool} {Q : am_H → Prop} (t : tpA h a T s) (hc : 0 ≤ c ∧ c < 128) (k : ∀ h', fi h h' a (a + 1) → tpA h' a T (wM T c s) → Q h') : am_Ew m_Tape_wantMark 0 0 [.ref a, .int (ji c)] h Q := by
  refine ev_Tape_wantMark a (ji c) h Q ⟨t.1.1, s_Tape_takeMark t hc (fun h' hf t' => ?_)⟩
  rw [bi_0]
  unfold aM at t'
  unfold wM at k
  refine ⟨fun c1 => ?_, fun c1 => ⟨t'.1.1, ?_⟩⟩
  · have e : dM T c s = true := by cases e : dM T c s; exact absurd e c1; rfl
    rw [e] at t' k
    exact k h' hf t'
  · rw [c1] at t' k
    exact k _ (hf.tr (fi.si (by omega) (by omega))) t'.bad
