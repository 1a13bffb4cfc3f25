/-! Math, and the faults of ports -/
theorem xor_ge {a b : Int} (h : (-2147483648 ≤ a ∧ a < 2147483648) ∧ (-2147483648 ≤ b ∧ b < 2147483648)) : ji 0 ≤ (ji a ^^^ ji b) ↔ (a < 0 ↔ b < 0) := by
  have key : ∀ x : Int32, 0 ≤ x ↔ x.toBitVec.msb = false := by
    intro x
    rw [Int32.le_iff_toInt_le, show (0 : Int32).toInt = 0 from rfl, ← Int32.toInt_toBitVec, BitVec.msb_eq_toInt]
    simp
  have k2 : ∀ z : Int, (-2147483648 ≤ z ∧ z < 2147483648) → ((ji z).toBitVec.msb = true ↔ z < 0) := by
    intro z hz
    have := key (ji z)
    rw [jk0, ji_le] at this
    constructor
    · intro e
      by_cases c : 0 ≤ z
      · rw [this.mp c] at e
        cases e
      · omega
    · intro c
      cases e : (ji z).toBitVec.msb
      · have := this.mpr e
        omega
      · rfl
  rw [← jk0, key, Int32.toBitVec_xor, BitVec.msb_xor]
  have ha := k2 a h.1
  have hb := k2 b h.2
  rw [← ha, ← hb]
  cases (ji a).toBitVec.msb <;> cases (ji b).toBitVec.msb <;> simp
theorem s_Math_floorMod {x y : Int} {h : am_H} {Q : Int32 → am_H → Prop} (hx : -2147483648 < x ∧ x < 2147483648) (hy : 0 < y ∧ y < 2147483648) (k : Q (ji (x % y)) h) : am_Ei m_Math_floorMod 0 0 [.int (ji x), .int (ji y)] h Q := by
  have hm1 := Int.emod_nonneg x (by omega : y ≠ 0)
  have hm2 := Int.emod_lt_of_pos x hy.1
  have ht : (0 ≤ x ∧ x.tmod y = x % y) ∨ (x < 0 ∧ ¬ x.tmod y = 0 ∧ x % y = x.tmod y + y) ∨ (x < 0 ∧ x.tmod y = 0 ∧ x % y = 0) := by
    by_cases c : 0 ≤ x
    · exact Or.inl ⟨c, Int.tmod_eq_emod_of_nonneg c⟩
    · by_cases c2 : x.tmod y = 0
      · exact Or.inr (Or.inr ⟨by omega, c2, Int.emod_eq_zero_of_dvd (Int.dvd_of_tmod_eq_zero c2)⟩)
      · refine Or.inr (Or.inl ⟨by omega, c2, ?_⟩)
        rw [Int.tmod_eq_emod]
        have hd : ¬ y ∣ x := fun q => c2 (Int.tmod_eq_zero_of_dvd q)
        rw [if_neg (by rintro (q | q); omega; exact hd q)]
        omega
  have hb : -2147483648 ≤ x.tmod y ∧ x.tmod y < 2147483648 := by omega
  refine ev_Math_floorMod _ _ h Q ⟨?_, ?_⟩
  · rw [jk0, ji_eq]
    omega
  rw [ji_tmod, jk0, ji_eq, xor_ge (by omega)]
  refine ⟨fun c => ?_, fun c => ⟨fun c2 => ?_, fun c2 => ?_⟩⟩
  · have e : x.tmod y = x % y := by omega
    rw [e]
    exact k
  · have e : x.tmod y = x % y := by omega
    rw [e]
    exact k
  · rw [ji_add]
    have e : x.tmod y + y = x % y := by omega
    rw [e]
    exact k
theorem s_Math_floorDiv {x y : Int} {h : am_H} {Q : Int32 → am_H → Prop} (hx : -2147483648 < x ∧ x < 2147483648) (hy : (-2147483648 ≤ y ∧ y < 2147483648) ∧ y ≠ 0) (k : Q (ji (x.fdiv y)) h) : am_Ei m_Math_floorDiv 0 0 [.int (ji x), .int (ji y)] h Q := by
  have hn : (x.tdiv y).natAbs ≤ x.natAbs := Int.natAbs_tdiv_le_natAbs x y
  have e0 := Int.mul_tdiv_add_tmod x y
  have e1 : y * x.tdiv y = x.tdiv y * y := Int.mul_comm _ _
  have hd : x.tdiv y * y = x ↔ y ∣ x := by
    constructor
    · intro e
      exact ⟨x.tdiv y, by omega⟩
    · intro e
      have := Int.tmod_eq_zero_of_dvd e
      omega
  have hf : x.tdiv y = x.fdiv y + _ := Int.tdiv_eq_fdiv
  have hs : (0 < y ∧ y.sign = 1) ∨ (y < 0 ∧ y.sign = -1) := by
    rcases Int.lt_trichotomy y 0 with q | q | q
    · exact Or.inr ⟨q, Int.sign_eq_neg_one_of_neg q⟩
    · exact absurd q hy.2
    · exact Or.inl ⟨q, Int.sign_eq_one_of_pos q⟩
  have hprod : -2147483648 ≤ x.tdiv y * y ∧ x.tdiv y * y < 2147483648 := by
    have h1 : (x.tdiv y * y).natAbs ≤ x.natAbs := by
      rw [Int.natAbs_mul, Int.natAbs_tdiv]
      exact Nat.div_mul_le_self _ _
    omega
  refine ev_Math_floorDiv _ _ h Q ⟨?_, ?_⟩
  · rw [jk0, ji_eq]
    exact hy.2
  rw [ji_tdiv, jk0, xor_ge (by omega), ji_mul, ji_eq ⟨hprod, by omega⟩, hd, jk1, ji_sub]
  refine ⟨fun c => ?_, fun c => ⟨fun c2 => ?_, fun c2 => ?_⟩⟩
  · have e : x.tdiv y = x.fdiv y := by
      rw [hf]
      split
      · omega
      · split <;> split <;> omega
    rw [e]
    exact k
  · rw [if_pos c2] at hf
    have e : x.tdiv y = x.fdiv y := by omega
    rw [e]
    exact k
  · have e : x.tdiv y - 1 = x.fdiv y := by
      rw [if_neg c2] at hf
      rw [hf]
      split <;> split <;> omega
    rw [e]
    exact k
/-- the minute of the next turn -/
def nxM (P : List Tn) (tm : Int) : Int := if P.length = 0 then tm / 100 * 60 + tm % 100 else ptM P ((P.length : Int) - 1) + 1 + (tm / 100 * 60 + tm % 100 - (ptM P ((P.length : Int) - 1) + 1)) % 1440
theorem nxM_bd {h : am_H} {a r : Nat} {P : List Tn} (s : ptA h a r P) {tm : Int} (ht : 0 ≤ tm ∧ tm ≤ 9999) : -100000 ≤ nxM P tm ∧ nxM P tm ≤ 200000 := by
  unfold nxM
  have b := ptM_bd s ((P.length : Int) - 1)
  split <;> omega
theorem s_Port_minuteOfNext {h : am_H} {a r : Nat} {P : List Tn} {tm : Int} {Q : Int32 → am_H → Prop} (s : ptA h a r P) (ht : 0 ≤ tm ∧ tm ≤ 9999) (k : Q (ji (nxM P tm)) h) : am_Ei m_Port_minuteOfNext 0 0 [.ref a, .int (ji tm)] h Q := by
  have hl := s.len
  have b := ptM_bd s ((P.length : Int) - 1)
  refine ev_Port_minuteOfNext a (ji tm) h Q ⟨s.1, ?_⟩
  rw [s.2.2.2.2.2.2.2.2.1, jk100, jk60, jk0, jk1, jk1440, ji_div, ji_mod, ji_mul, ji_add, ji_eq]
  unfold nxM at k
  refine ⟨fun c => ?_, fun c => ?_⟩
  · rw [if_neg (by omega)] at k
    refine s_Port_lastMinute s ?_
    rw [ji_add, ji_sub]
    refine s_Math_floorMod (by omega) (by omega) ?_
    rw [ji_add]
    exact k
  · rw [if_pos (by omega)] at k
    exact k
def fM (P : List Tn) (m : Int) : Int := if P.length = 0 then 0 else if 60 ≤ m - ptM P ((P.length : Int) - 1) ∧ m - ptM P ((P.length : Int) - 1) ≤ 800 then 0 else 5
def fH (P : List Tn) (b : Bool) (g : Int) : Int := if ¬ (-500 ≤ g ∧ g ≤ 1500) then 3 else if P.length = 0 then 0 else if (if b then ptG P ((P.length : Int) - 1) < g else g < ptG P ((P.length : Int) - 1)) then 0 else 4
def fN (P : List Tn) (b : Bool) (tm g : Int) : Int := if 24 ≤ tm / 100 ∨ 60 ≤ tm % 100 then 1 else if P.length ≠ 0 ∧ b = ptH P ((P.length : Int) - 1) then 2 else if fH P b g ≠ 0 then fH P b g else fM P (nxM P tm)
theorem s_Port_faultOfMinute {h : am_H} {a r : Nat} {P : List Tn} {m : Int} {Q : Int32 → am_H → Prop} (s : ptA h a r P) (hm : -1000000 ≤ m ∧ m ≤ 1000000) (k : Q (ji (fM P m)) h) : am_Ei m_Port_faultOfMinute 0 0 [.ref a, .int (ji m)] h Q := by
  have hl := s.len
  have b := ptM_bd s ((P.length : Int) - 1)
  refine ev_Port_faultOfMinute a (ji m) h Q ⟨s.1, ?_⟩
  rw [s.2.2.2.2.2.2.2.2.1, jk0, ji_eq]
  unfold fM at k
  refine ⟨fun c => s_Port_lastMinute s ?_, fun c => ?_⟩
  · rw [if_neg (by omega)] at k
    rw [ji_sub, jk60, jk800, ji_lt, ji_lt]
    refine ⟨fun c2 => ?_, fun c2 => ⟨fun c3 => ?_, fun c3 => ?_⟩⟩
    · rw [if_neg (by omega)] at k
      exact k
    · rw [if_neg (by omega)] at k
      exact k
    · rw [if_pos (by omega)] at k
      exact k
  · rw [if_pos (by omega)] at k
    exact k
theorem s_Port_faultOfHeight {h : am_H} {a r : Nat} {P : List Tn} {b : Bool} {g : Int} {Q : Int32 → am_H → Prop} (s : ptA h a r P) (hg : -2147483648 ≤ g ∧ g < 2147483648) (k : Q (ji (fH P b g)) h) : am_Ei m_Port_faultOfHeight 0 0 [.ref a, .int (bi b), .int (ji g)] h Q := by
  have hl := s.len
  have bd := ptG_bd s ((P.length : Int) - 1)
  refine ev_Port_faultOfHeight a (bi b) (ji g) h Q (s_Port_isHeight (by omega) ?_)
  unfold fH at k
  rw [bi_0, bi_0, decide_eq_false_iff_not]
  refine ⟨fun c => ⟨s.1, ?_⟩, fun c => ?_⟩
  · rw [if_neg c] at k
    rw [s.2.2.2.2.2.2.2.2.1, jk0, ji_eq]
    refine ⟨fun c2 => ?_, fun c2 => ?_⟩
    · rw [if_neg (by omega)] at k
      rw [jk1, ji_sub]
      refine s_Port_heightOf s (by omega) ?_
      rw [ji_le, ji_le]
      cases b
      · refine ⟨fun _ => ⟨fun c3 => ?_, fun c3 => ?_⟩, fun q => absurd rfl q⟩
        · rw [if_neg (by simp; omega)] at k
          exact k
        · rw [if_pos (by simp; omega)] at k
          exact k
      · refine ⟨fun q => (by cases q), fun _ => ⟨fun c3 => ?_, fun c3 => ?_⟩⟩
        · rw [if_neg (by simp; omega)] at k
          exact k
        · rw [if_pos (by simp; omega)] at k
          exact k
    · rw [if_pos (by omega)] at k
      exact k
  · rw [if_pos c] at k
    exact k
theorem s_Port_faultOfNext {h : am_H} {a r : Nat} {P : List Tn} {b : Bool} {tm g : Int} {Q : Int32 → am_H → Prop} (s : ptA h a r P) (ht : 0 ≤ tm ∧ tm ≤ 9999) (hg : -100000 ≤ g ∧ g ≤ 100000) (k : Q (ji (fN P b tm g)) h) : am_Ei m_Port_faultOfNext 0 0 [.ref a, .int (bi b), .int (ji tm), .int (ji g)] h Q := by
  have hl := s.len
  have bn := nxM_bd s ht
  have hfr : fH P b g = 0 ∨ fH P b g = 3 ∨ fH P b g = 4 := by
    have h04 : ∀ (p : Prop) [Decidable p], (if p then (0 : Int) else 4) = 0 ∨ (if p then (0 : Int) else 4) = 4 := by
      intro p _
      by_cases h : p <;> simp [h]
    unfold fH
    by_cases c : ¬ (-500 ≤ g ∧ g ≤ 1500)
    · rw [if_pos c]
      exact Or.inr (Or.inl rfl)
    · rw [if_neg c]
      by_cases c2 : P.length = 0
      · rw [if_pos c2]
        exact Or.inl rfl
      · rw [if_neg c2]
        exact (h04 _).imp id Or.inr
  have tail : ¬ (24 ≤ tm / 100 ∨ 60 ≤ tm % 100) → ¬ (P.length ≠ 0 ∧ b = ptH P ((P.length : Int) - 1)) → am_Ei m_Port_faultOfHeight 0 0 [.ref a, .int (bi b), .int (ji g)] h (fun r6 h5 => ((r6 = ji 0 → (am_tg h5 a = (2, 5) ∧ (am_Ei m_Port_minuteOfNext 0 0 [.ref a, .int (ji tm)] h5 (fun r10 h9 => (am_tg h9 a = (2, 5) ∧ (am_Ei m_Port_faultOfMinute 0 0 [.ref a, .int r10] h9 (fun r13 h12 => Q r13 h12))))))) ∧ (¬ r6 = ji 0 → Q r6 h5))) := by
    intro c1 c2
    unfold fN at k
    rw [if_neg c1, if_neg c2] at k
    refine s_Port_faultOfHeight s (by omega) ?_
    rw [ji_eq (by omega)]
    refine ⟨fun c3 => ⟨s.1, s_Port_minuteOfNext s ht ⟨s.1, s_Port_faultOfMinute s (by omega) ?_⟩⟩, fun c3 => ?_⟩
    · rw [if_neg (by omega)] at k
      exact k
    · rw [if_pos c3] at k
      exact k
  refine ev_Port_faultOfNext a (bi b) (ji tm) (ji g) h Q ?_
  rw [jk100, jk24, jk60, ji_div, ji_mod, ji_le, ji_lt]
  refine ⟨fun c1 => ?_, fun c1 => ⟨fun c2 => ⟨s.1, ?_⟩, fun c2 => ?_⟩⟩
  · unfold fN at k
    rw [if_pos (by omega)] at k
    exact k
  · rw [s.2.2.2.2.2.2.2.2.1, jk0, ji_le]
    refine ⟨fun c3 => tail (by omega) (by omega), fun c3 => ?_⟩
    rw [jk1, ji_sub]
    refine s_Port_isHigh s (by omega) ?_
    rw [bi_eq]
    refine ⟨fun c4 => ⟨s.1, tail (by omega) (fun q => c4 q.2)⟩, fun c4 => ?_⟩
    unfold fN at k
    rw [if_neg (by omega), if_pos ⟨by omega, c4⟩] at k
    exact k
  · unfold fN at k
    rw [if_pos (by omega)] at k
    exact k
