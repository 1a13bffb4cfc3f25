/-! texts -/
def wb (j : Nat) : List Int := (am_cb (100 + j)).map Int32.toInt
theorem wb_ok : ∀ j, j < 30 → (am_cb (100 + j)).all (fun b => decide (b &&& 255 = b) && decide (0 ≤ b.toInt) && decide (b.toInt < 128)) = true := by decide +kernel
theorem wb_len : ∀ j, j < 30 → (am_cb (100 + j)).length ≤ 10 := by decide +kernel
theorem isC_of {j : Nat} (hj : j < 30) : am_isC j = true := by simp [am_isC, hj]
theorem isC_100 {j : Nat} (hj : j < 30) : am_isC (100 + j) = true := by
  have h1 : 100 + j < 130 := by omega
  simp [am_isC, h1]
theorem shr0 (x : Int32) : x >>> ((0 : Int32) &&& 31) = x := by
  rw [← Int32.toInt_inj, pk_shr x (0 &&& 31) 0 (by decide)]
  simp
theorem s_Str_coder {j : Nat} {h : am_H} {Q : Int32 → am_H → Prop} (hj : j < 30) (k : Q 0 h) : am_Ei m_Str_coder 0 0 [.retAddr j] h Q := ev_Str_coder j h Q (Or.inl (isC_of hj)) ⟨isC_of hj, hj, by decide, k⟩
theorem s_Str_length {j : Nat} {h : am_H} {Q : Int32 → am_H → Prop} (hj : j < 30) (k : Q (ji (wb j).length) h) : am_Ei m_Str_length 0 0 [.retAddr j] h Q := by
  refine ev_Str_length j h Q (Or.inl (isC_of hj)) ⟨isC_of hj, hj, by omega, s_Str_coder hj ?_⟩
  rw [shr0]
  have e : ((wb j).length : Int) = ((am_cb (100 + j)).length : Int) := by simp [wb]
  rw [e, ← ji_nat] at k
  exact k
theorem s_Str_charAt {j : Nat} {i : Nat} {c : Int} {h : am_H} {Q : Int32 → am_H → Prop} (hj : j < 30) (hi : (wb j)[i]? = some c) (k : Q (ji c) h) : am_Ei m_Str_charAt 0 0 [.retAddr j, .int (ji i)] h Q := by
  obtain ⟨b, hb, rfl⟩ : ∃ b, (am_cb (100 + j))[i]? = some b ∧ b.toInt = c := by
    unfold wb at hi
    rw [List.getElem?_map] at hi
    cases hb : (am_cb (100 + j))[i]? with
    | none => rw [hb] at hi; cases hi
    | some b => rw [hb] at hi; exact ⟨b, rfl, Option.some.inj hi⟩
  have hl := (List.getElem?_eq_some_iff.mp hb).1
  have h10 := wb_len j hj
  have ok := List.all_eq_true.mp (wb_ok j hj) b (List.mem_of_getElem? hb)
  simp only [Bool.and_eq_true, decide_eq_true_eq] at ok
  have eb : (am_cb (100 + j)).getD (ji (i : Int)).toNatClampNeg 0 = b := by
    rw [ji_tn (by omega), Int.toNat_natCast, List.getD_eq_getElem?_getD, hb]
    rfl
  rw [ji_of] at k
  refine ev_Str_charAt j (ji i) h Q (Or.inl (isC_of hj)) ⟨isC_of hj, hj, ?_⟩
  have lat : am_Ei m_Lat_charAt 0 0 [.retAddr (100 + j), .int (ji i)] h (fun r11 h10 => (narrow .char (.int r11) = .int r11 ∧ Q r11 h10)) := by
    refine ev_Lat_charAt (100 + j) (ji i) h _ (Or.inl (isC_100 hj)) ⟨isC_100 hj, by omega, ?_⟩
    refine ev_Str_checkIndex _ _ h _ ?_
    refine ev_Pre_checkIndex 300 _ _ h _ (Or.inr rfl) ?_
    have el : Int32.ofNat (am_cb (100 + j)).length = ji ((am_cb (100 + j)).length : Int) := ji_nat _
    rw [el, jk0, ji_lt, ji_lt]
    refine ⟨fun c => by omega, fun _ => ⟨fun _ => ⟨isC_100 hj, by omega, (ji_in).mpr (by omega), ?_⟩, fun c => by omega⟩⟩
    rw [show ji 0 = (0 : Int32) from rfl, eb, sc_c2]
    refine ⟨sc_nar b, sc_nar b, ?_⟩
    rw [ok.1.1]
    exact k
  refine ev_Str_isLatin1 j h _ (Or.inl (isC_of hj)) ?_
  refine ⟨isC_of hj, hj, ⟨fun q => absurd q (by decide), fun _ => ⟨isC_of hj, hj, lat⟩⟩⟩
