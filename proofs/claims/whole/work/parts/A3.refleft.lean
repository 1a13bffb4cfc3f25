/-! the reference's constructor: what it leaves -/
theorem gr_facts (h : am_H) (N Mn : Nat) : ∀ i, (∀ b, b < am_sz h → am_tg (am_gr h N Mn i) b = am_tg h b ∧ am_I (am_gr h N Mn i) b = am_I h b ∧ am_P (am_gr h N Mn i) b = am_P h b) ∧ ∀ j, j < i → am_tg (am_gr h N Mn i) (am_sz h + 1 + j) = (21, Mn) ∧ am_P (am_gr h N Mn i) (am_sz h) j = some (am_sz h + 1 + j)
  | 0 => by
    refine ⟨fun b hb => ?_, fun j hj => absurd hj (by omega)⟩
    show am_tg (am_nw h 50 N) b = _ ∧ am_I (am_nw h 50 N) b = _ ∧ am_P (am_nw h 50 N) b = _
    rw [am_tg_nw, am_I_nw, am_P_nw, if_neg (by omega), if_neg (by omega), if_neg (by omega)]
    exact ⟨rfl, rfl, rfl⟩
  | i + 1 => by
    obtain ⟨a, c⟩ := gr_facts h N Mn i
    have z := am_gr_sz h N Mn i
    refine ⟨fun b hb => ?_, fun j hj => ?_⟩
    · obtain ⟨a1, a2, a3⟩ := a b hb
      show am_tg (am_nw (am_gr h N Mn i) 21 Mn) b = _ ∧ am_I (am_nw (am_gr h N Mn i) 21 Mn) b = _ ∧ am_P (am_sp (am_nw (am_gr h N Mn i) 21 Mn) (am_sz h) i _) b = _
      rw [am_P_spn (by omega), am_tg_nw, am_I_nw, am_P_nw, if_neg (by omega), if_neg (by omega), if_neg (by omega)]
      exact ⟨a1, a2, a3⟩
    · show am_tg (am_nw (am_gr h N Mn i) 21 Mn) (am_sz h + 1 + j) = _ ∧ am_P (am_sp (am_nw (am_gr h N Mn i) 21 Mn) (am_sz h) i _) (am_sz h) j = _
      rw [am_P_sps, am_tg_nw, am_P_nw, if_neg (by omega : ¬ am_sz h = am_sz (am_gr h N Mn i))]
      by_cases e : j = i
      · rw [e, va_up_at, if_pos (by omega)]
        exact ⟨rfl, rfl⟩
      · rw [va_up_no _ _ e, if_neg (by omega)]
        exact c j (by omega)
def ri (h0 h : am_H) (z : Nat) (L : List (Nat × Nat × Nat × Nat)) (G : List Nat) : Prop := am_sz h = z ∧ 88 ≤ z ∧ es h0 h 0 87 ∧ am_tg h 87 = (12, 56) ∧ (∀ j, am_I h 87 j = if j = 3 then -9999 else 0) ∧ (∀ r ∈ L, am_P h 87 r.1 = some r.2.1 ∧ am_tg h r.2.1 = (r.2.2.1, r.2.2.2) ∧ 87 < r.2.1 ∧ r.2.1 < z) ∧ ∀ g ∈ G, 87 < g ∧ g + 9 ≤ z ∧ ∀ i, i < 8 → am_P h g i = some (g + 1 + i) ∧ am_tg h (g + 1 + i) = (21, 13500)
theorem ri.row {h0 h : am_H} {z kd n k : Nat} {L : List (Nat × Nat × Nat × Nat)} {G : List Nat} (w : ri h0 h z L G) (hk : ∀ r ∈ L, r.1 ≠ k) : am_tg (am_nw h kd n) 87 = (12, 56) ∧ ri h0 (am_sp (am_nw h kd n) 87 k (some (am_sz h))) (z + 1) ((k, z, kd, n) :: L) G := by
  obtain ⟨w1, w2, w3, w4, w5, w6, w7⟩ := w
  obtain ⟨n1, n2, n3, n4, n5, n6, n7, n8⟩ := nwsp (h := h) (a := 87) (kd := kd) (n := n) (k := k) (by omega)
  refine ⟨n2.trans w4, by omega, by omega, w3.tr n7, n3.trans w4, fun j => by rw [n6]; exact w5 j, fun r hr => ?_, fun g hg => ?_⟩
  · rcases List.mem_cons.mp hr with rfl | hr
    · refine ⟨by rw [n5, va_up_at, w1], ?_, by show 87 < z; omega, by show z < z + 1; omega⟩
      rw [w1] at n4
      rw [w1]
      exact n4
    · obtain ⟨r1, r2, r3, r4⟩ := w6 r hr
      refine ⟨by rw [n5, va_up_no _ _ (hk r hr)]; exact r1, by rw [(n8 r.2.1 (by omega) (by omega)).1]; exact r2, r3, by omega⟩
  · obtain ⟨g1, g2, g3⟩ := w7 g hg
    refine ⟨g1, by omega, fun i hi => ?_⟩
    rw [(n8 g (by omega) (by omega)).2.2, (n8 (g + 1 + i) (by omega) (by omega)).1]
    exact g3 i hi
theorem ri.grid {h0 h : am_H} {z k : Nat} {L : List (Nat × Nat × Nat × Nat)} {G : List Nat} (w : ri h0 h z L G) (hk : ∀ r ∈ L, r.1 ≠ k) : am_tg (am_gr h 8 13500 8) 87 = (12, 56) ∧ ri h0 (am_sp (am_gr h 8 13500 8) 87 k (some (am_sz h))) (z + 9) ((k, z, 50, 8) :: L) (z :: G) := by
  obtain ⟨w1, w2, w3, w4, w5, w6, w7⟩ := w
  obtain ⟨n1, n2⟩ := gr_facts h 8 13500 8
  have gz := am_gr_sz h 8 13500 8
  have gt := am_gr_tg h 8 13500 8
  have b := n1 87 (by omega)
  have pn : ∀ c, c ≠ 87 → am_P (am_sp (am_gr h 8 13500 8) 87 k (some (am_sz h))) c = am_P (am_gr h 8 13500 8) c := fun c hc => am_P_spn hc
  refine ⟨b.1.trans w4, by rw [am_sz_sp]; omega, by omega, fun c c1 c2 => ?_, b.1.trans w4, fun j => ?_, fun r hr => ?_, fun g hg => ?_⟩
  · obtain ⟨x1, x2, x3⟩ := w3 c c1 c2
    obtain ⟨y1, y2, y3⟩ := n1 c (by omega)
    exact ⟨y1.trans x1, y2.trans x2, (pn c (by omega)).trans (y3.trans x3)⟩
  · rw [am_I_sp, b.2.1]
    exact w5 j
  · rcases List.mem_cons.mp hr with rfl | hr
    · refine ⟨by rw [am_P_sps, va_up_at, w1], ?_, by show 87 < z; omega, by show z < z + 9; omega⟩
      rw [w1] at gt
      rw [w1]
      exact gt
    · obtain ⟨r1, r2, r3, r4⟩ := w6 r hr
      refine ⟨by rw [am_P_sps, va_up_no _ _ (hk r hr), b.2.2]; exact r1, by rw [am_tg_sp, (n1 r.2.1 (by omega)).1]; exact r2, r3, by omega⟩
  · rcases List.mem_cons.mp hg with rfl | hg
    · refine ⟨by omega, by omega, fun i hi => ?_⟩
      rw [pn g (by omega), am_tg_sp]
      have := n2 i hi
      rw [w1] at this
      exact ⟨this.2, this.1⟩
    · obtain ⟨g1, g2, g3⟩ := w7 g hg
      refine ⟨g1, by omega, fun i hi => ?_⟩
      rw [pn g (by omega), am_tg_sp, (n1 g (by omega)).2.2, (n1 (g + 1 + i) (by omega)).1]
      exact g3 i hi
