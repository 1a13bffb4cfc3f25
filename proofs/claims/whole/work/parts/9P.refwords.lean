/-! the reference: words -/
theorem wm_get {T : List Int} : ∀ (w : List Int) (p i : Nat) (c : Int), wm T p w = true → w[i]? = some c → bt T ((p + i : Nat) : Int) = c
  | [], p, i, c, _, h => by simp at h
  | d :: w, p, 0, c, hm, h => by
    have hm : (decide (bt T (p : Int) = d) && wm T (p + 1) w) = true := hm
    rw [Bool.and_eq_true, decide_eq_true_iff] at hm
    cases h
    exact hm.1
  | d :: w, p, i + 1, c, hm, h => by
    have hm : (decide (bt T (p : Int) = d) && wm T (p + 1) w) = true := hm
    rw [Bool.and_eq_true, decide_eq_true_iff] at hm
    have := wm_get w (p + 1) i c hm.2 h
    rw [show p + (i + 1) = p + 1 + i by omega]
    exact this
theorem dW_spl {T w : List Int} {s : Nat × Bool} (hb : ∀ (i : Nat) (b : Int), T[i]? = some b → 0 ≤ b ∧ b < 256) (hw : ∀ c ∈ w, 97 ≤ c ∧ c ≤ 122) : dW T w s = (s.2 && spl T s.1 w) := by
  unfold dW spl
  cases hm : wm T s.1 w
  · rw [Bool.and_false, Bool.and_false, Bool.and_false]
  · rw [Bool.and_true, Bool.and_true]
    congr 1
    have low : ∀ i, i ≤ w.length → i ≤ nl T s.1 := by
      intro i
      induction i with
      | zero => intro _; omega
      | succ i ih =>
        intro hi
        obtain ⟨c, hc⟩ : ∃ c, w[i]? = some c := ⟨_, List.getElem?_eq_getElem (by omega)⟩
        have bc := hw c (List.mem_of_getElem? hc)
        have e := wm_get w s.1 i c hm hc
        rcases Nat.lt_or_ge (s.1 + i) T.length with q | q
        · obtain ⟨b, hbb⟩ : ∃ b, T[s.1 + i]? = some b := ⟨_, List.getElem?_eq_getElem q⟩
          have e2 := (bt_iff hbb (hb _ b hbb) (by omega)).mp e
          exact tw_yes (f := isL) (T.drop s.1) i b (ih (by omega)) (by rw [List.getElem?_drop]; exact hbb) (by unfold isL; exact decide_eq_true (by omega))
        · rw [bt_no q] at e
          omega
    have hl := low w.length (Nat.le_refl _)
    rw [show ((s.1 : Int) + (w.length : Int)) = ((s.1 + w.length : Nat) : Int) from (Int.natCast_add _ _).symm]
    rcases Nat.lt_or_ge (s.1 + w.length) T.length with q | q
    · obtain ⟨b, hbb⟩ : ∃ b, T[s.1 + w.length]? = some b := ⟨_, List.getElem?_eq_getElem q⟩
      have hd : (T.drop s.1)[w.length]? = some b := by rw [List.getElem?_drop]; exact hbb
      have b2 := hb _ b hbb
      rw [bt_at hbb]
      cases hL : isL b
      · have e : nl T s.1 = w.length := tw_no (f := isL) (T.drop s.1) w.length hl (fun b' hb' => by rw [hd] at hb'; cases hb'; exact hL)
        have e2 : isL (sg b) = false := by
          unfold isL at hL ⊢
          rw [decide_eq_false_iff_not] at hL
          unfold sg
          exact decide_eq_false (by split <;> omega)
        rw [decide_eq_true e, e2]
        rfl
      · have e : w.length + 1 ≤ nl T s.1 := tw_yes (f := isL) (T.drop s.1) w.length b hl hd hL
        have e2 : isL (sg b) = true := by
          unfold isL at hL ⊢
          rw [decide_eq_true_iff] at hL
          unfold sg
          exact decide_eq_true (by split <;> omega)
        rw [decide_eq_false (by omega), e2]
        rfl
    · have e : nl T s.1 = w.length := tw_no (f := isL) (T.drop s.1) w.length hl (fun b' hb' => by rw [List.getElem?_drop, List.getElem?_eq_none (by omega)] at hb'; cases hb')
      rw [decide_eq_true e, bt_no q]
      rfl
theorem wb_let {j : Nat} (hj : j < 6) : ∀ c ∈ wb j, 97 ≤ c ∧ c ≤ 122 := by
  have : ∀ j : Fin 6, ∀ c ∈ wb j.1, 97 ≤ c ∧ c ≤ 122 := by decide +kernel
  exact this ⟨j, hj⟩
theorem wdI_c (T : List Int) (p : Nat) : wdI T p = if spl T p (wb 0) then 0 else if spl T p (wb 1) then 1 else if spl T p (wb 2) then 2 else if spl T p (wb 3) then 3 else if spl T p (wb 4) then 4 else if spl T p (wb 5) then 5 else -1 := by
  unfold wdI
  rw [show wb 16 = wb 0 by decide +kernel, show wb 17 = wb 1 by decide +kernel, show wb 18 = wb 2 by decide +kernel, show wb 19 = wb 3 by decide +kernel, show wb 20 = wb 4 by decide +kernel, show wb 21 = wb 5 by decide +kernel]
theorem spl_nl {T : List Int} {p : Nat} {w : List Int} (h : spl T p w = true) : nl T p = w.length := by
  unfold spl at h
  rw [Bool.and_eq_true, decide_eq_true_iff] at h
  exact h.1
theorem spl_len {T : List Int} {p : Nat} {w w' : List Int} (h : spl T p w = true) (hw : w.length ≠ w'.length) : spl T p w' = false := by
  have := spl_nl h
  unfold spl
  rw [decide_eq_false (by omega), Bool.false_and]
theorem uS_eq {T : List Int} {s : Nat × Bool} (hb : ∀ (i : Nat) (b : Int), T[i]? = some b → 0 ≤ b ∧ b < 256) : uS T s = (if (s.2 && decide (0 ≤ wdI T s.1 ∧ wdI T s.1 ≤ 1)) = true then (sk T (s.1 + nl T s.1), true) else (s.1, false)) ∧ ((s.2 && decide (0 ≤ wdI T s.1 ∧ wdI T s.1 ≤ 1)) = true → dW T (wb 0) s = decide (wdI T s.1 = 0)) := by
  obtain ⟨p, ok⟩ := s
  have d0 := dW_spl (s := (p, ok)) hb (wb_let (j := 0) (by omega))
  have d1 := dW_spl (s := (p, ok)) hb (wb_let (j := 1) (by omega))
  cases ok
  · rw [Bool.false_and] at d0 d1
    unfold uS
    rw [d0, if_neg (by decide)]
    have a0 : aW T (wb 0) (p, false) = (p, false) := by unfold aW; rw [d0]; rfl
    rw [a0]
    unfold wW
    rw [d1]
    exact ⟨rfl, fun q => by cases q⟩
  · rw [Bool.true_and] at d0 d1
    cases h0 : spl T p (wb 0)
    · rw [h0] at d0
      have a0 : aW T (wb 0) (p, true) = (p, true) := by unfold aW; rw [d0]; rfl
      unfold uS
      rw [d0, if_neg (by decide), a0]
      unfold wW
      cases h1 : spl T p (wb 1)
      · rw [h1] at d1
        have w : ¬ (0 ≤ wdI T p ∧ wdI T p ≤ 1) := by
          rw [wdI_c, h0, h1]
          simp only [Bool.false_eq_true, if_false]
          repeat' split
          all_goals omega
        rw [d1, decide_eq_false w]
        exact ⟨rfl, fun q => by cases q⟩
      · rw [h1] at d1
        have w : wdI T p = 1 := by rw [wdI_c, h0, h1]; rfl
        show (if dW T (wb 1) (p, true) = true then (sk T (p + (wb 1).length), true) else (p, false)) = (if (true && decide (0 ≤ wdI T p ∧ wdI T p ≤ 1)) = true then (sk T (p + nl T p), true) else (p, false)) ∧ ((true && decide (0 ≤ wdI T p ∧ wdI T p ≤ 1)) = true → false = decide (wdI T p = 0))
        rw [d1, w, spl_nl h1]
        exact ⟨rfl, fun _ => rfl⟩
    · rw [h0] at d0
      have w : wdI T p = 0 := by rw [wdI_c, h0]; rfl
      unfold uS aW
      rw [d0]
      show (sk T (p + (wb 0).length), true) = (if (true && decide (0 ≤ wdI T p ∧ wdI T p ≤ 1)) = true then (sk T (p + nl T p), true) else (p, false)) ∧ ((true && decide (0 ≤ wdI T p ∧ wdI T p ≤ 1)) = true → true = decide (wdI T p = 0))
      rw [w, spl_nl h0]
      exact ⟨rfl, fun _ => rfl⟩
theorem slW_eq {T : List Int} {s : Nat × Bool} (hb : ∀ (i : Nat) (b : Int), T[i]? = some b → 0 ≤ b ∧ b < 256) : ((s.2 && decide (2 ≤ wdI T s.1)) = true → slW T s = (wdI T s.1 - 2, (sk T (s.1 + nl T s.1), true))) ∧ ((s.2 && decide (2 ≤ wdI T s.1)) = false → slW T s = (3, (s.1, false))) := by
  obtain ⟨p, ok⟩ := s
  have d2 := dW_spl (s := (p, ok)) hb (wb_let (j := 2) (by omega))
  have d3 := dW_spl (s := (p, ok)) hb (wb_let (j := 3) (by omega))
  have d4 := dW_spl (s := (p, ok)) hb (wb_let (j := 4) (by omega))
  have d5 := dW_spl (s := (p, ok)) hb (wb_let (j := 5) (by omega))
  have l0 : (wb 0).length = 2 := by decide +kernel
  have l1 : (wb 1).length = 2 := by decide +kernel
  have l2 : (wb 2).length = 3 := by decide +kernel
  have l3 : (wb 3).length = 4 := by decide +kernel
  have l4 : (wb 4).length = 4 := by decide +kernel
  have l5 : (wb 5).length = 6 := by decide +kernel
  unfold slW aW wW
  rw [d2, d3, d4, d5]
  cases ok
  · exact ⟨fun q => (by cases q), fun _ => rfl⟩
  · show ((true && decide (2 ≤ wdI T p)) = true → (if (true && spl T p (wb 2)) = true then (0, if (true && spl T p (wb 2)) = true then (sk T (p + (wb 2).length), true) else (p, true)) else if (true && spl T p (wb 3)) = true then (1, if (true && spl T p (wb 3)) = true then (sk T (p + (wb 3).length), true) else (p, true)) else if (true && spl T p (wb 4)) = true then (2, if (true && spl T p (wb 4)) = true then (sk T (p + (wb 4).length), true) else (p, true)) else (3, if (true && spl T p (wb 5)) = true then (sk T (p + (wb 5).length), true) else (p, false))) = (wdI T p - 2, (sk T (p + nl T p), true))) ∧ ((true && decide (2 ≤ wdI T p)) = false → (if (true && spl T p (wb 2)) = true then (0, if (true && spl T p (wb 2)) = true then (sk T (p + (wb 2).length), true) else (p, true)) else if (true && spl T p (wb 3)) = true then (1, if (true && spl T p (wb 3)) = true then (sk T (p + (wb 3).length), true) else (p, true)) else if (true && spl T p (wb 4)) = true then (2, if (true && spl T p (wb 4)) = true then (sk T (p + (wb 4).length), true) else (p, true)) else (3, if (true && spl T p (wb 5)) = true then (sk T (p + (wb 5).length), true) else (p, false))) = (3, (p, false)))
    cases h2 : spl T p (wb 2)
    · cases h3 : spl T p (wb 3)
      · cases h4 : spl T p (wb 4)
        · cases h5 : spl T p (wb 5)
          · have w : ¬ (2 ≤ wdI T p) := by
              rw [wdI_c, h2, h3, h4, h5]
              simp only [Bool.false_eq_true, if_false]
              repeat' split
              all_goals omega
            rw [decide_eq_false w]
            exact ⟨fun q => (by cases q), fun _ => rfl⟩
          · have w : wdI T p = 5 := by rw [wdI_c, h2, h3, h4, h5, spl_len h5 (by omega), spl_len h5 (by omega)]; rfl
            rw [w, spl_nl h5]
            exact ⟨fun _ => rfl, fun q => by cases q⟩
        · have w : wdI T p = 4 := by rw [wdI_c, h2, h3, h4, spl_len h4 (by omega), spl_len h4 (by omega)]; rfl
          rw [w, spl_nl h4]
          exact ⟨fun _ => rfl, fun q => by cases q⟩
      · have w : wdI T p = 3 := by rw [wdI_c, h2, h3, spl_len h3 (by omega), spl_len h3 (by omega)]; rfl
        rw [w, spl_nl h3]
        exact ⟨fun _ => rfl, fun q => by cases q⟩
    · have w : wdI T p = 2 := by rw [wdI_c, h2, spl_len h2 (by omega), spl_len h2 (by omega)]; rfl
      rw [w, spl_nl h2]
      exact ⟨fun _ => rfl, fun q => by cases q⟩
