/-! feeding the tape; its beginning and end -/
def bv (x : Int32) (s : Nat) : Int := ((x.toBitVec >>> s).setWidth 8).toNat
theorem bv_bd (x : Int32) (s : Nat) : 0 ≤ bv x s ∧ bv x s < 256 := by
  unfold bv
  have := ((x.toBitVec >>> s).setWidth 8).isLt
  omega
theorem i8_sg (b : BitVec 8) : (Int8.ofBitVec b).toInt32 = ji (sg b.toNat) := by
  apply Int32.toInt_inj.mp
  rw [Int8.toInt_toInt32]
  have hb := b.isLt
  have e : (Int8.ofBitVec b).toInt = b.toInt := rfl
  rw [e, BitVec.toInt_eq_toNat_cond]
  unfold sg
  split
  · rw [if_pos (by omega), ji_toInt (by omega) (by omega)]
  · rw [if_neg (by omega), ji_toInt (by omega) (by omega)]
    rfl
theorem ap_b (x : Int32) (s : Nat) (hs : s = 0 ∨ s = 8 ∨ s = 16 ∨ s = 24) : ((x.toUInt32 >>> ((ji s).toUInt32 &&& Int32.toUInt32 31)).toInt32).toInt8.toInt32 = ji (sg (bv x s)) := by
  rw [bv, ← i8_sg]
  have go : ∀ c : UInt32, c.toBitVec.toNat % 32 = s → (x.toUInt32 >>> c).toInt32.toInt8.toInt32 = (Int8.ofBitVec (BitVec.setWidth 8 (x.toBitVec >>> s))).toInt32 := by
    intro c hc
    have e : (x.toUInt32 >>> c).toBitVec = x.toBitVec >>> s := by
      rw [UInt32.toBitVec_shiftRight]
      show x.toBitVec >>> (c.toBitVec % 32#32).toNat = _
      rw [BitVec.toNat_umod]
      exact congrArg _ hc
    have e2 : x.toUInt32 >>> c = UInt32.ofBitVec (x.toBitVec >>> s) := by rw [← e]
    rw [e2]
    have e3 : (x.toBitVec >>> s).signExtend 8 = (x.toBitVec >>> s).setWidth 8 := BitVec.signExtend_eq_setWidth_of_le _ (by decide)
    rw [← e3]
    rfl
  refine go _ ?_
  rcases hs with rfl | rfl | rfl | rfl <;> decide
theorem nr_b (w : Int32) : narrow .byte (.int w.toInt8.toInt32) = .int w.toInt8.toInt32 := by
  simp [narrow]
theorem s_Tape_hasRoomFor {h : am_H} {a : Nat} {T : List Int} {n : Int} {Q : Int32 → am_H → Prop} (t : tpT h a T) (hn : 0 ≤ n ∧ n ≤ 1000) (k : Q (bi (decide ((T.length : Int) + n ≤ 120))) h) : am_Ei m_Tape_hasRoomFor 0 0 [.ref a, .int (ji n)] h Q := by
  have hl := t.2.2.2.2.1
  refine ev_Tape_hasRoomFor a (ji n) h Q ⟨t.1, ?_⟩
  rw [t.2.2.2.1, ji_add, jk120, ji_lt]
  refine ⟨fun c => ?_, fun c => ?_⟩
  · rw [decide_eq_false (by omega)] at k
    exact k
  · rw [decide_eq_true (by omega)] at k
    exact k
theorem s_Tape_keepFirst {h : am_H} {a : Nat} {T : List Int} {n : Nat} {Q : am_H → Prop} (t : tpT h a T) (hn : n ≤ T.length) (k : ∀ h', fi h h' a (a + 1) → tpT h' a (T.take n) → Q h') : am_Ew m_Tape_keepFirst 0 0 [.ref a, .int (ji n)] h Q := by
  have hl := t.2.2.2.2.1
  refine ev_Tape_keepFirst a (ji n) h Q ?_
  rw [t.2.2.2.1, jk0, ji_lt, ji_lt]
  refine ⟨fun c => by omega, fun _ => ⟨t.1, fun c => by omega, fun _ => k _ (fi.si (by omega) (by omega)) ?_⟩⟩
  obtain ⟨t1, t2, t3, t4, t5, t6⟩ := t
  refine ⟨t1, t2, t3, ?_, by simp; omega, fun i b hb => ?_⟩
  · rw [am_I_sis, va_up_at]
    congr 1
    simp
    omega
  · rw [am_I_sin (by omega)]
    refine t6 i b ?_
    have hi := (List.getElem?_eq_some_iff.mp hb).1
    simp at hi
    rw [List.getElem?_take_of_lt (by omega)] at hb
    exact hb
theorem s_Tape_rewind {h : am_H} {a : Nat} {T : List Int} {Q : am_H → Prop} (t : tpT h a T) (k : ∀ h', fi h h' a (a + 1) → tpA h' a T (sk T 0, true) → Q h') : am_Ew m_Tape_rewind 0 0 [.ref a] h Q := by
  refine ev_Tape_rewind a h Q ⟨t.1, ?_⟩
  rw [jk0]
  refine s_Tape_moveTo (n := 0) (ok := true) (t.put (by decide)) ?_ (by omega) (fun h' hf t' => k h' ((fi.si (by omega) (by omega)).tr hf) t')
  rw [am_I_sis, va_up_at]
  rfl
theorem s_Tape_readTo {h : am_H} {a : Nat} {T : List Int} {s : Nat × Bool} {Q : Int32 → am_H → Prop} (t : tpA h a T s) (k : Q (ji s.1) h) : am_Ei m_Tape_readTo 0 0 [.ref a] h Q := by
  refine ev_Tape_readTo a h Q ⟨t.1.1, ?_⟩
  rw [t.2.1]
  exact k
def rdW (T : List Int) (s : Nat × Bool) : Bool := s.2 && decide (s.1 = T.length)
theorem s_Tape_isReadWhole {h : am_H} {a : Nat} {T : List Int} {s : Nat × Bool} {Q : Int32 → am_H → Prop} (t : tpA h a T s) (k : Q (bi (rdW T s)) h) : am_Ei m_Tape_isReadWhole 0 0 [.ref a] h Q := by
  obtain ⟨t1, t2, t3, t4⟩ := t
  have hl := t1.2.2.2.2.1
  refine ev_Tape_isReadWhole a h Q ⟨t1.1, ?_⟩
  rw [t3, t2, t1.2.2.2.1, bi_0, ji_lt]
  unfold rdW at k
  refine ⟨fun c => ?_, fun c => ⟨fun c2 => ?_, fun c2 => ?_⟩⟩
  · have hs : s.2 = false := by cases hs : s.2; rfl; rw [hs] at c; exact absurd rfl c
    rw [hs] at k
    exact k
  · rw [decide_eq_false (by omega), Bool.and_false] at k
    exact k
  · have hs : s.2 = true := by cases hs : s.2; rw [hs] at c; cases c; rfl
    rw [hs, decide_eq_true (by omega)] at k
    exact k
def b4 (x : Int32) : List Int := [bv x 24, bv x 16, bv x 8, bv x 0]
theorem tpT.more {h : am_H} {a : Nat} {T : List Int} {b : Int} (t : tpT h a T) (hb : 0 ≤ b ∧ b < 256) (hl : T.length < 120) : tpT (am_si (am_si h (a + 1) T.length (ji (sg b))) a 1 (ji (T.length + 1))) a (T ++ [b]) := by
  obtain ⟨t1, t2, t3, t4, t5, t6⟩ := t
  refine ⟨t1, t2, t3, ?_, by simp; omega, fun i c hc => ?_⟩
  · rw [am_I_sis, va_up_at]
    simp
  · rw [am_I_sin (by omega), am_I_sis]
    by_cases e : i = T.length
    · subst e
      rw [List.getElem?_append_right (by omega)] at hc
      simp at hc
      subst hc
      rw [va_up_at]
      exact ⟨rfl, hb⟩
    · have hi : i < T.length := by
        have := (List.getElem?_eq_some_iff.mp hc).1
        simp at this
        omega
      rw [List.getElem?_append_left hi] at hc
      rw [va_up_no _ _ e]
      exact t6 i c hc
theorem jm8 : (-8 : Int32) = ji (-8) := rfl
theorem s_Tape_append {h : am_H} {a : Nat} {T : List Int} {x : Int32} {Q : am_H → Prop} (t : tpT h a T) (hl : T.length + 4 ≤ 120) (k : ∀ h', fi h h' a (a + 2) → tpT h' a (T ++ b4 x) → Q h') : am_Ew m_Tape_append 0 0 [.ref a, .int x] h Q := by
  have one : ∀ (s : Nat) (h1 : am_H) (T1 : List Int), (s = 0 ∨ s = 8 ∨ s = 16 ∨ s = 24) → tpT h1 a T1 → T1.length < 120 → fi h h1 a (a + 2) → (∀ h2, fi h h2 a (a + 2) → tpT h2 a (T1 ++ [bv x s]) → am_EI m_Tape_append 0 0 3 [.ref a, .int x, .int (ji ((s : Int) - 8))] [] h2 (am_qw Q)) → am_EI m_Tape_append 0 0 3 [.ref a, .int x, .int (ji s)] [] h1 (am_qw Q) := by
    intro s h1 T1 hs t1 hl1 hf next
    have bb := bv_bd x s
    refine sg_Tape_append_3 a x _ h1 _ ?_
    rw [jk0, jk120, t1.2.2.2.1, ji_lt, ji_lt, ji_le]
    refine ⟨fun c => by omega, fun _ => ⟨t1.1, fun c => by omega, fun _ => ⟨fun c => by omega, fun _ => ⟨a + 1, t1.2.2.1, by rw [t1.2.1], by rw [t1.2.1]; exact (ji_in).mpr (by omega), nr_b _, ?_⟩⟩⟩⟩
    have tn : (ji (T1.length : Int)).toNatClampNeg = T1.length := by rw [ji_tn]; omega
    rw [ap_b x s hs, tn, am_I_sin (by omega), t1.2.2.2.1, jm8, jk1, ji_add, ji_add]
    exact next _ (hf.tr ((fi.si (by omega) (by omega)).tr (fi.si (by omega) (by omega)))) (t1.more bb hl1)
  refine ev_Tape_append a x h Q ?_
  refine one 24 h T (by omega) t (by omega) fi.rf (fun h1 f1 t1 => ?_)
  refine one 16 h1 _ (by omega) t1 (by simp; omega) f1 (fun h2 f2 t2 => ?_)
  refine one 8 h2 _ (by omega) t2 (by simp; omega) f2 (fun h3 f3 t3 => ?_)
  refine one 0 h3 _ (by omega) t3 (by simp; omega) f3 (fun h4 f4 t4 => ?_)
  refine sg_Tape_append_3 a x _ h4 _ ?_
  rw [jk0, ji_lt]
  refine ⟨fun _ => k h4 f4 ?_, fun c => absurd (by decide) c⟩
  simpa [b4] using t4
