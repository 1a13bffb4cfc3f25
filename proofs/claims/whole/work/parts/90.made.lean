/-! new spans, ports, routes -/
theorem zz1 (n : Nat) : (n = n + 1) = False := by
  apply eq_false
  omega
theorem zy1 (n : Nat) : (n + 1 = n) = False := by
  apply eq_false
  omega
theorem zz2 (n : Nat) : (n = n + 1 + 1) = False := by
  apply eq_false
  omega
theorem zy2 (n : Nat) : (n + 1 + 1 = n) = False := by
  apply eq_false
  omega
theorem zz3 (n : Nat) : (n = n + 1 + 1 + 1) = False := by
  apply eq_false
  omega
theorem zy3 (n : Nat) : (n + 1 + 1 + 1 = n) = False := by
  apply eq_false
  omega
theorem zz4 (n : Nat) : (n = n + 1 + 1 + 1 + 1) = False := by
  apply eq_false
  omega
theorem zy4 (n : Nat) : (n + 1 + 1 + 1 + 1 = n) = False := by
  apply eq_false
  omega
theorem zz5 (n : Nat) : (n = n + 1 + 1 + 1 + 1 + 1) = False := by
  apply eq_false
  omega
theorem zy5 (n : Nat) : (n + 1 + 1 + 1 + 1 + 1 = n) = False := by
  apply eq_false
  omega
theorem zz6 (n : Nat) : (n = n + 1 + 1 + 1 + 1 + 1 + 1) = False := by
  apply eq_false
  omega
theorem zy6 (n : Nat) : (n + 1 + 1 + 1 + 1 + 1 + 1 = n) = False := by
  apply eq_false
  omega
theorem zz7 (n : Nat) : (n = n + 1 + 1 + 1 + 1 + 1 + 1 + 1) = False := by
  apply eq_false
  omega
theorem zy7 (n : Nat) : (n + 1 + 1 + 1 + 1 + 1 + 1 + 1 = n) = False := by
  apply eq_false
  omega
theorem mk_Spans {h : am_H} {N : Nat} {Q : am_H → Prop} (hN : 1 ≤ N ∧ N ≤ 1000) (k : ∀ h', am_sz h' = am_sz h + 3 → es h h' 0 (am_sz h) → spA h' (am_sz h) N [] → Q h') : am_Ew m_Spans_init (0 + 1 + 1) (0 + N + N) [.ref (am_sz h), .int (ji N)] (am_nw h 8 4) Q := by
  refine ev_Spans_init N (am_sz h) (ji N) (am_nw h 8 4) Q ⟨by rw [am_tg_nw, if_pos rfl], ?_⟩
  rw [jk1]
  refine s_Math_max (by omega) (by omega) ?_
  rw [if_neg (by omega)]
  have nl : ¬ ji (N : Int) < 0 := by rw [jk0, ji_lt]; omega
  have tn : (ji (N : Int)).toNatClampNeg = N := by rw [ji_tn, Int.toNat_natCast]
  refine ⟨by simp [am_tg_nw, am_tg_si, am_tg_sp, am_sz_nw, am_sz_si, am_sz_sp, am_I_nw, am_I_sp, am_I_si, am_P_nw, am_P_si, am_P_sp, zz1, zy1, zz2, zy2, zz3, zy3, zz4, zy4, zz5, zy5, zz6, zy6, zz7, zy7], ?_⟩
  have q : ∀ x : Int32, x = ji N → ¬ x < 0 ∧ x.toNatClampNeg = N := fun x e => by rw [e]; exact ⟨nl, tn⟩
  refine ⟨(q _ (by simp [am_tg_nw, am_tg_si, am_tg_sp, am_sz_nw, am_sz_si, am_sz_sp, am_I_nw, am_I_sp, am_I_si, am_P_nw, am_P_si, am_P_sp, zz1, zy1, zz2, zy2, zz3, zy3, zz4, zy4, zz5, zy5, zz6, zy6, zz7, zy7, va_up])).1, (q _ (by simp [am_tg_nw, am_tg_si, am_tg_sp, am_sz_nw, am_sz_si, am_sz_sp, am_I_nw, am_I_sp, am_I_si, am_P_nw, am_P_si, am_P_sp, zz1, zy1, zz2, zy2, zz3, zy3, zz4, zy4, zz5, zy5, zz6, zy6, zz7, zy7, va_up])).2, by omega, by simp [am_tg_nw, am_tg_si, am_tg_sp, am_sz_nw, am_sz_si, am_sz_sp, am_I_nw, am_I_sp, am_I_si, am_P_nw, am_P_si, am_P_sp, zz1, zy1, zz2, zy2, zz3, zy3, zz4, zy4, zz5, zy5, zz6, zy6, zz7, zy7], ?_⟩
  refine ⟨(q _ (by simp [am_tg_nw, am_tg_si, am_tg_sp, am_sz_nw, am_sz_si, am_sz_sp, am_I_nw, am_I_sp, am_I_si, am_P_nw, am_P_si, am_P_sp, zz1, zy1, zz2, zy2, zz3, zy3, zz4, zy4, zz5, zy5, zz6, zy6, zz7, zy7, va_up])).1, (q _ (by simp [am_tg_nw, am_tg_si, am_tg_sp, am_sz_nw, am_sz_si, am_sz_sp, am_I_nw, am_I_sp, am_I_si, am_P_nw, am_P_si, am_P_sp, zz1, zy1, zz2, zy2, zz3, zy3, zz4, zy4, zz5, zy5, zz6, zy6, zz7, zy7, va_up])).2, by omega, by simp [am_tg_nw, am_tg_si, am_tg_sp, am_sz_nw, am_sz_si, am_sz_sp, am_I_nw, am_I_sp, am_I_si, am_P_nw, am_P_si, am_P_sp, zz1, zy1, zz2, zy2, zz3, zy3, zz4, zy4, zz5, zy5, zz6, zy6, zz7, zy7], ?_⟩
  refine k _ rfl (fun b _ hb => ?_) ⟨by simp [am_tg_nw, am_tg_si, am_tg_sp, am_sz_nw, am_sz_si, am_sz_sp, am_I_nw, am_I_sp, am_I_si, am_P_nw, am_P_si, am_P_sp, zz1, zy1, zz2, zy2, zz3, zy3, zz4, zy4, zz5, zy5, zz6, zy6, zz7, zy7, va_up], by simp [am_tg_nw, am_tg_si, am_tg_sp, am_sz_nw, am_sz_si, am_sz_sp, am_I_nw, am_I_sp, am_I_si, am_P_nw, am_P_si, am_P_sp, zz1, zy1, zz2, zy2, zz3, zy3, zz4, zy4, zz5, zy5, zz6, zy6, zz7, zy7, va_up], by simp [am_tg_nw, am_tg_si, am_tg_sp, am_sz_nw, am_sz_si, am_sz_sp, am_I_nw, am_I_sp, am_I_si, am_P_nw, am_P_si, am_P_sp, zz1, zy1, zz2, zy2, zz3, zy3, zz4, zy4, zz5, zy5, zz6, zy6, zz7, zy7, va_up], by simp [am_tg_nw, am_tg_si, am_tg_sp, am_sz_nw, am_sz_si, am_sz_sp, am_I_nw, am_I_sp, am_I_si, am_P_nw, am_P_si, am_P_sp, zz1, zy1, zz2, zy2, zz3, zy3, zz4, zy4, zz5, zy5, zz6, zy6, zz7, zy7, va_up], by simp [am_tg_nw, am_tg_si, am_tg_sp, am_sz_nw, am_sz_si, am_sz_sp, am_I_nw, am_I_sp, am_I_si, am_P_nw, am_P_si, am_P_sp, zz1, zy1, zz2, zy2, zz3, zy3, zz4, zy4, zz5, zy5, zz6, zy6, zz7, zy7, va_up], by simp [am_tg_nw, am_tg_si, am_tg_sp, am_sz_nw, am_sz_si, am_sz_sp, am_I_nw, am_I_sp, am_I_si, am_P_nw, am_P_si, am_P_sp, zz1, zy1, zz2, zy2, zz3, zy3, zz4, zy4, zz5, zy5, zz6, zy6, zz7, zy7, va_up], ?_, by simp, by omega, fun i q hq => by simp at hq⟩
  · have n0 : b ≠ am_sz h := by omega
    have n1 : b ≠ am_sz h + 1 := by omega
    have n2 : b ≠ am_sz h + 1 + 1 := by omega
    simp [am_tg_nw, am_tg_si, am_tg_sp, am_sz_nw, am_sz_si, am_sz_sp, am_I_nw, am_I_sp, am_I_si, am_P_nw, am_P_si, am_P_sp, zz1, zy1, zz2, zy2, zz3, zy3, zz4, zy4, zz5, zy5, zz6, zy6, zz7, zy7, n0, n1, n2]
  · simp [am_tg_nw, am_tg_si, am_tg_sp, am_sz_nw, am_sz_si, am_sz_sp, am_I_nw, am_I_sp, am_I_si, am_P_nw, am_P_si, am_P_sp, zz1, zy1, zz2, zy2, zz3, zy3, zz4, zy4, zz5, zy5, zz6, zy6, zz7, zy7, va_up]
    rfl
theorem mk_Port {h : am_H} {N : Nat} {Q : am_H → Prop} (hN : 1 ≤ N ∧ N ≤ 1000) (k : ∀ h', am_sz h' = am_sz h + 4 → es h h' 0 (am_sz h) → ptA h' (am_sz h) N [] → Q h') : am_Ew m_Port_init (0 + 1 + 1 + 1) (0 + N + N + N) [.ref (am_sz h), .int (ji N)] (am_nw h 2 5) Q := by
  refine ev_Port_init N (am_sz h) (ji N) (am_nw h 2 5) Q ⟨by rw [am_tg_nw, if_pos rfl], ?_⟩
  rw [jk1]
  refine s_Math_max (by omega) (by omega) ?_
  rw [if_neg (by omega)]
  have nl : ¬ ji (N : Int) < 0 := by rw [jk0, ji_lt]; omega
  have tn : (ji (N : Int)).toNatClampNeg = N := by rw [ji_tn, Int.toNat_natCast]
  refine ⟨by simp [am_tg_nw, am_tg_si, am_tg_sp, am_sz_nw, am_sz_si, am_sz_sp, am_I_nw, am_I_sp, am_I_si, am_P_nw, am_P_si, am_P_sp, zz1, zy1, zz2, zy2, zz3, zy3, zz4, zy4, zz5, zy5, zz6, zy6, zz7, zy7], ?_⟩
  have q : ∀ x : Int32, x = ji N → ¬ x < 0 ∧ x.toNatClampNeg = N := fun x e => by rw [e]; exact ⟨nl, tn⟩
  refine ⟨(q _ (by simp [am_tg_nw, am_tg_si, am_tg_sp, am_sz_nw, am_sz_si, am_sz_sp, am_I_nw, am_I_sp, am_I_si, am_P_nw, am_P_si, am_P_sp, zz1, zy1, zz2, zy2, zz3, zy3, zz4, zy4, zz5, zy5, zz6, zy6, zz7, zy7, va_up])).1, (q _ (by simp [am_tg_nw, am_tg_si, am_tg_sp, am_sz_nw, am_sz_si, am_sz_sp, am_I_nw, am_I_sp, am_I_si, am_P_nw, am_P_si, am_P_sp, zz1, zy1, zz2, zy2, zz3, zy3, zz4, zy4, zz5, zy5, zz6, zy6, zz7, zy7, va_up])).2, by omega, by simp [am_tg_nw, am_tg_si, am_tg_sp, am_sz_nw, am_sz_si, am_sz_sp, am_I_nw, am_I_sp, am_I_si, am_P_nw, am_P_si, am_P_sp, zz1, zy1, zz2, zy2, zz3, zy3, zz4, zy4, zz5, zy5, zz6, zy6, zz7, zy7], ?_⟩
  refine ⟨(q _ (by simp [am_tg_nw, am_tg_si, am_tg_sp, am_sz_nw, am_sz_si, am_sz_sp, am_I_nw, am_I_sp, am_I_si, am_P_nw, am_P_si, am_P_sp, zz1, zy1, zz2, zy2, zz3, zy3, zz4, zy4, zz5, zy5, zz6, zy6, zz7, zy7, va_up])).1, (q _ (by simp [am_tg_nw, am_tg_si, am_tg_sp, am_sz_nw, am_sz_si, am_sz_sp, am_I_nw, am_I_sp, am_I_si, am_P_nw, am_P_si, am_P_sp, zz1, zy1, zz2, zy2, zz3, zy3, zz4, zy4, zz5, zy5, zz6, zy6, zz7, zy7, va_up])).2, by omega, by simp [am_tg_nw, am_tg_si, am_tg_sp, am_sz_nw, am_sz_si, am_sz_sp, am_I_nw, am_I_sp, am_I_si, am_P_nw, am_P_si, am_P_sp, zz1, zy1, zz2, zy2, zz3, zy3, zz4, zy4, zz5, zy5, zz6, zy6, zz7, zy7], ?_⟩
  refine ⟨(q _ (by simp [am_tg_nw, am_tg_si, am_tg_sp, am_sz_nw, am_sz_si, am_sz_sp, am_I_nw, am_I_sp, am_I_si, am_P_nw, am_P_si, am_P_sp, zz1, zy1, zz2, zy2, zz3, zy3, zz4, zy4, zz5, zy5, zz6, zy6, zz7, zy7, va_up])).1, (q _ (by simp [am_tg_nw, am_tg_si, am_tg_sp, am_sz_nw, am_sz_si, am_sz_sp, am_I_nw, am_I_sp, am_I_si, am_P_nw, am_P_si, am_P_sp, zz1, zy1, zz2, zy2, zz3, zy3, zz4, zy4, zz5, zy5, zz6, zy6, zz7, zy7, va_up])).2, by omega, by simp [am_tg_nw, am_tg_si, am_tg_sp, am_sz_nw, am_sz_si, am_sz_sp, am_I_nw, am_I_sp, am_I_si, am_P_nw, am_P_si, am_P_sp, zz1, zy1, zz2, zy2, zz3, zy3, zz4, zy4, zz5, zy5, zz6, zy6, zz7, zy7], ?_⟩
  refine k _ rfl (fun b _ hb => ?_) ⟨by simp [am_tg_nw, am_tg_si, am_tg_sp, am_sz_nw, am_sz_si, am_sz_sp, am_I_nw, am_I_sp, am_I_si, am_P_nw, am_P_si, am_P_sp, zz1, zy1, zz2, zy2, zz3, zy3, zz4, zy4, zz5, zy5, zz6, zy6, zz7, zy7, va_up], by simp [am_tg_nw, am_tg_si, am_tg_sp, am_sz_nw, am_sz_si, am_sz_sp, am_I_nw, am_I_sp, am_I_si, am_P_nw, am_P_si, am_P_sp, zz1, zy1, zz2, zy2, zz3, zy3, zz4, zy4, zz5, zy5, zz6, zy6, zz7, zy7, va_up], by simp [am_tg_nw, am_tg_si, am_tg_sp, am_sz_nw, am_sz_si, am_sz_sp, am_I_nw, am_I_sp, am_I_si, am_P_nw, am_P_si, am_P_sp, zz1, zy1, zz2, zy2, zz3, zy3, zz4, zy4, zz5, zy5, zz6, zy6, zz7, zy7, va_up], by simp [am_tg_nw, am_tg_si, am_tg_sp, am_sz_nw, am_sz_si, am_sz_sp, am_I_nw, am_I_sp, am_I_si, am_P_nw, am_P_si, am_P_sp, zz1, zy1, zz2, zy2, zz3, zy3, zz4, zy4, zz5, zy5, zz6, zy6, zz7, zy7, va_up], by simp [am_tg_nw, am_tg_si, am_tg_sp, am_sz_nw, am_sz_si, am_sz_sp, am_I_nw, am_I_sp, am_I_si, am_P_nw, am_P_si, am_P_sp, zz1, zy1, zz2, zy2, zz3, zy3, zz4, zy4, zz5, zy5, zz6, zy6, zz7, zy7, va_up], by simp [am_tg_nw, am_tg_si, am_tg_sp, am_sz_nw, am_sz_si, am_sz_sp, am_I_nw, am_I_sp, am_I_si, am_P_nw, am_P_si, am_P_sp, zz1, zy1, zz2, zy2, zz3, zy3, zz4, zy4, zz5, zy5, zz6, zy6, zz7, zy7, va_up], by simp [am_tg_nw, am_tg_si, am_tg_sp, am_sz_nw, am_sz_si, am_sz_sp, am_I_nw, am_I_sp, am_I_si, am_P_nw, am_P_si, am_P_sp, zz1, zy1, zz2, zy2, zz3, zy3, zz4, zy4, zz5, zy5, zz6, zy6, zz7, zy7, va_up], by simp [am_tg_nw, am_tg_si, am_tg_sp, am_sz_nw, am_sz_si, am_sz_sp, am_I_nw, am_I_sp, am_I_si, am_P_nw, am_P_si, am_P_sp, zz1, zy1, zz2, zy2, zz3, zy3, zz4, zy4, zz5, zy5, zz6, zy6, zz7, zy7, va_up], ?_, ⟨by simp, by omega⟩, fun i q hq => by simp at hq⟩
  · have n0 : b ≠ am_sz h := by omega
    have n1 : b ≠ am_sz h + 1 := by omega
    have n2 : b ≠ am_sz h + 1 + 1 := by omega
    have n3 : b ≠ am_sz h + 1 + 1 + 1 := by omega
    simp [am_tg_nw, am_tg_si, am_tg_sp, am_sz_nw, am_sz_si, am_sz_sp, am_I_nw, am_I_sp, am_I_si, am_P_nw, am_P_si, am_P_sp, zz1, zy1, zz2, zy2, zz3, zy3, zz4, zy4, zz5, zy5, zz6, zy6, zz7, zy7, n0, n1, n2, n3]
  · simp [am_tg_nw, am_tg_si, am_tg_sp, am_sz_nw, am_sz_si, am_sz_sp, am_I_nw, am_I_sp, am_I_si, am_P_nw, am_P_si, am_P_sp, zz1, zy1, zz2, zy2, zz3, zy3, zz4, zy4, zz5, zy5, zz6, zy6, zz7, zy7, va_up]
    rfl
theorem mk_Route {h : am_H} {N : Nat} {Q : am_H → Prop} (hN : 1 ≤ N ∧ N ≤ 1000) (k : ∀ h', am_sz h' = am_sz h + 6 → es h h' 0 (am_sz h) → rtA h' (am_sz h) N [] → Q h') : am_Ew m_Route_init (0 + 1 + 1 + 1 + 1 + 1) (0 + N + N + N + N + N) [.ref (am_sz h), .int (ji N)] (am_nw h 4 7) Q := by
  refine ev_Route_init N (am_sz h) (ji N) (am_nw h 4 7) Q ⟨by rw [am_tg_nw, if_pos rfl], ?_⟩
  rw [jk1]
  refine s_Math_max (by omega) (by omega) ?_
  rw [if_neg (by omega)]
  have nl : ¬ ji (N : Int) < 0 := by rw [jk0, ji_lt]; omega
  have tn : (ji (N : Int)).toNatClampNeg = N := by rw [ji_tn, Int.toNat_natCast]
  refine ⟨by simp [am_tg_nw, am_tg_si, am_tg_sp, am_sz_nw, am_sz_si, am_sz_sp, am_I_nw, am_I_sp, am_I_si, am_P_nw, am_P_si, am_P_sp, zz1, zy1, zz2, zy2, zz3, zy3, zz4, zy4, zz5, zy5, zz6, zy6, zz7, zy7], ?_⟩
  have q : ∀ x : Int32, x = ji N → ¬ x < 0 ∧ x.toNatClampNeg = N := fun x e => by rw [e]; exact ⟨nl, tn⟩
  refine ⟨(q _ (by simp [am_tg_nw, am_tg_si, am_tg_sp, am_sz_nw, am_sz_si, am_sz_sp, am_I_nw, am_I_sp, am_I_si, am_P_nw, am_P_si, am_P_sp, zz1, zy1, zz2, zy2, zz3, zy3, zz4, zy4, zz5, zy5, zz6, zy6, zz7, zy7, va_up])).1, (q _ (by simp [am_tg_nw, am_tg_si, am_tg_sp, am_sz_nw, am_sz_si, am_sz_sp, am_I_nw, am_I_sp, am_I_si, am_P_nw, am_P_si, am_P_sp, zz1, zy1, zz2, zy2, zz3, zy3, zz4, zy4, zz5, zy5, zz6, zy6, zz7, zy7, va_up])).2, by omega, by simp [am_tg_nw, am_tg_si, am_tg_sp, am_sz_nw, am_sz_si, am_sz_sp, am_I_nw, am_I_sp, am_I_si, am_P_nw, am_P_si, am_P_sp, zz1, zy1, zz2, zy2, zz3, zy3, zz4, zy4, zz5, zy5, zz6, zy6, zz7, zy7], ?_⟩
  refine ⟨(q _ (by simp [am_tg_nw, am_tg_si, am_tg_sp, am_sz_nw, am_sz_si, am_sz_sp, am_I_nw, am_I_sp, am_I_si, am_P_nw, am_P_si, am_P_sp, zz1, zy1, zz2, zy2, zz3, zy3, zz4, zy4, zz5, zy5, zz6, zy6, zz7, zy7, va_up])).1, (q _ (by simp [am_tg_nw, am_tg_si, am_tg_sp, am_sz_nw, am_sz_si, am_sz_sp, am_I_nw, am_I_sp, am_I_si, am_P_nw, am_P_si, am_P_sp, zz1, zy1, zz2, zy2, zz3, zy3, zz4, zy4, zz5, zy5, zz6, zy6, zz7, zy7, va_up])).2, by omega, by simp [am_tg_nw, am_tg_si, am_tg_sp, am_sz_nw, am_sz_si, am_sz_sp, am_I_nw, am_I_sp, am_I_si, am_P_nw, am_P_si, am_P_sp, zz1, zy1, zz2, zy2, zz3, zy3, zz4, zy4, zz5, zy5, zz6, zy6, zz7, zy7], ?_⟩
  refine ⟨(q _ (by simp [am_tg_nw, am_tg_si, am_tg_sp, am_sz_nw, am_sz_si, am_sz_sp, am_I_nw, am_I_sp, am_I_si, am_P_nw, am_P_si, am_P_sp, zz1, zy1, zz2, zy2, zz3, zy3, zz4, zy4, zz5, zy5, zz6, zy6, zz7, zy7, va_up])).1, (q _ (by simp [am_tg_nw, am_tg_si, am_tg_sp, am_sz_nw, am_sz_si, am_sz_sp, am_I_nw, am_I_sp, am_I_si, am_P_nw, am_P_si, am_P_sp, zz1, zy1, zz2, zy2, zz3, zy3, zz4, zy4, zz5, zy5, zz6, zy6, zz7, zy7, va_up])).2, by omega, by simp [am_tg_nw, am_tg_si, am_tg_sp, am_sz_nw, am_sz_si, am_sz_sp, am_I_nw, am_I_sp, am_I_si, am_P_nw, am_P_si, am_P_sp, zz1, zy1, zz2, zy2, zz3, zy3, zz4, zy4, zz5, zy5, zz6, zy6, zz7, zy7], ?_⟩
  refine ⟨(q _ (by simp [am_tg_nw, am_tg_si, am_tg_sp, am_sz_nw, am_sz_si, am_sz_sp, am_I_nw, am_I_sp, am_I_si, am_P_nw, am_P_si, am_P_sp, zz1, zy1, zz2, zy2, zz3, zy3, zz4, zy4, zz5, zy5, zz6, zy6, zz7, zy7, va_up])).1, (q _ (by simp [am_tg_nw, am_tg_si, am_tg_sp, am_sz_nw, am_sz_si, am_sz_sp, am_I_nw, am_I_sp, am_I_si, am_P_nw, am_P_si, am_P_sp, zz1, zy1, zz2, zy2, zz3, zy3, zz4, zy4, zz5, zy5, zz6, zy6, zz7, zy7, va_up])).2, by omega, by simp [am_tg_nw, am_tg_si, am_tg_sp, am_sz_nw, am_sz_si, am_sz_sp, am_I_nw, am_I_sp, am_I_si, am_P_nw, am_P_si, am_P_sp, zz1, zy1, zz2, zy2, zz3, zy3, zz4, zy4, zz5, zy5, zz6, zy6, zz7, zy7], ?_⟩
  refine ⟨(q _ (by simp [am_tg_nw, am_tg_si, am_tg_sp, am_sz_nw, am_sz_si, am_sz_sp, am_I_nw, am_I_sp, am_I_si, am_P_nw, am_P_si, am_P_sp, zz1, zy1, zz2, zy2, zz3, zy3, zz4, zy4, zz5, zy5, zz6, zy6, zz7, zy7, va_up])).1, (q _ (by simp [am_tg_nw, am_tg_si, am_tg_sp, am_sz_nw, am_sz_si, am_sz_sp, am_I_nw, am_I_sp, am_I_si, am_P_nw, am_P_si, am_P_sp, zz1, zy1, zz2, zy2, zz3, zy3, zz4, zy4, zz5, zy5, zz6, zy6, zz7, zy7, va_up])).2, by omega, by simp [am_tg_nw, am_tg_si, am_tg_sp, am_sz_nw, am_sz_si, am_sz_sp, am_I_nw, am_I_sp, am_I_si, am_P_nw, am_P_si, am_P_sp, zz1, zy1, zz2, zy2, zz3, zy3, zz4, zy4, zz5, zy5, zz6, zy6, zz7, zy7], ?_⟩
  refine k _ rfl (fun b _ hb => ?_) ⟨by simp [am_tg_nw, am_tg_si, am_tg_sp, am_sz_nw, am_sz_si, am_sz_sp, am_I_nw, am_I_sp, am_I_si, am_P_nw, am_P_si, am_P_sp, zz1, zy1, zz2, zy2, zz3, zy3, zz4, zy4, zz5, zy5, zz6, zy6, zz7, zy7, va_up], by simp [am_tg_nw, am_tg_si, am_tg_sp, am_sz_nw, am_sz_si, am_sz_sp, am_I_nw, am_I_sp, am_I_si, am_P_nw, am_P_si, am_P_sp, zz1, zy1, zz2, zy2, zz3, zy3, zz4, zy4, zz5, zy5, zz6, zy6, zz7, zy7, va_up], by simp [am_tg_nw, am_tg_si, am_tg_sp, am_sz_nw, am_sz_si, am_sz_sp, am_I_nw, am_I_sp, am_I_si, am_P_nw, am_P_si, am_P_sp, zz1, zy1, zz2, zy2, zz3, zy3, zz4, zy4, zz5, zy5, zz6, zy6, zz7, zy7, va_up], by simp [am_tg_nw, am_tg_si, am_tg_sp, am_sz_nw, am_sz_si, am_sz_sp, am_I_nw, am_I_sp, am_I_si, am_P_nw, am_P_si, am_P_sp, zz1, zy1, zz2, zy2, zz3, zy3, zz4, zy4, zz5, zy5, zz6, zy6, zz7, zy7, va_up], by simp [am_tg_nw, am_tg_si, am_tg_sp, am_sz_nw, am_sz_si, am_sz_sp, am_I_nw, am_I_sp, am_I_si, am_P_nw, am_P_si, am_P_sp, zz1, zy1, zz2, zy2, zz3, zy3, zz4, zy4, zz5, zy5, zz6, zy6, zz7, zy7, va_up], by simp [am_tg_nw, am_tg_si, am_tg_sp, am_sz_nw, am_sz_si, am_sz_sp, am_I_nw, am_I_sp, am_I_si, am_P_nw, am_P_si, am_P_sp, zz1, zy1, zz2, zy2, zz3, zy3, zz4, zy4, zz5, zy5, zz6, zy6, zz7, zy7, va_up], by simp [am_tg_nw, am_tg_si, am_tg_sp, am_sz_nw, am_sz_si, am_sz_sp, am_I_nw, am_I_sp, am_I_si, am_P_nw, am_P_si, am_P_sp, zz1, zy1, zz2, zy2, zz3, zy3, zz4, zy4, zz5, zy5, zz6, zy6, zz7, zy7, va_up], by simp [am_tg_nw, am_tg_si, am_tg_sp, am_sz_nw, am_sz_si, am_sz_sp, am_I_nw, am_I_sp, am_I_si, am_P_nw, am_P_si, am_P_sp, zz1, zy1, zz2, zy2, zz3, zy3, zz4, zy4, zz5, zy5, zz6, zy6, zz7, zy7, va_up], by simp [am_tg_nw, am_tg_si, am_tg_sp, am_sz_nw, am_sz_si, am_sz_sp, am_I_nw, am_I_sp, am_I_si, am_P_nw, am_P_si, am_P_sp, zz1, zy1, zz2, zy2, zz3, zy3, zz4, zy4, zz5, zy5, zz6, zy6, zz7, zy7, va_up], by simp [am_tg_nw, am_tg_si, am_tg_sp, am_sz_nw, am_sz_si, am_sz_sp, am_I_nw, am_I_sp, am_I_si, am_P_nw, am_P_si, am_P_sp, zz1, zy1, zz2, zy2, zz3, zy3, zz4, zy4, zz5, zy5, zz6, zy6, zz7, zy7, va_up], by simp [am_tg_nw, am_tg_si, am_tg_sp, am_sz_nw, am_sz_si, am_sz_sp, am_I_nw, am_I_sp, am_I_si, am_P_nw, am_P_si, am_P_sp, zz1, zy1, zz2, zy2, zz3, zy3, zz4, zy4, zz5, zy5, zz6, zy6, zz7, zy7, va_up], by simp [am_tg_nw, am_tg_si, am_tg_sp, am_sz_nw, am_sz_si, am_sz_sp, am_I_nw, am_I_sp, am_I_si, am_P_nw, am_P_si, am_P_sp, zz1, zy1, zz2, zy2, zz3, zy3, zz4, zy4, zz5, zy5, zz6, zy6, zz7, zy7, va_up], ?_, ⟨by simp, by omega⟩, fun i q hq => by simp at hq⟩
  · have n0 : b ≠ am_sz h := by omega
    have n1 : b ≠ am_sz h + 1 := by omega
    have n2 : b ≠ am_sz h + 1 + 1 := by omega
    have n3 : b ≠ am_sz h + 1 + 1 + 1 := by omega
    have n4 : b ≠ am_sz h + 1 + 1 + 1 + 1 := by omega
    have n5 : b ≠ am_sz h + 1 + 1 + 1 + 1 + 1 := by omega
    simp [am_tg_nw, am_tg_si, am_tg_sp, am_sz_nw, am_sz_si, am_sz_sp, am_I_nw, am_I_sp, am_I_si, am_P_nw, am_P_si, am_P_sp, zz1, zy1, zz2, zy2, zz3, zy3, zz4, zy4, zz5, zy5, zz6, zy6, zz7, zy7, n0, n1, n2, n3, n4, n5]
  · simp [am_tg_nw, am_tg_si, am_tg_sp, am_sz_nw, am_sz_si, am_sz_sp, am_I_nw, am_I_sp, am_I_si, am_P_nw, am_P_si, am_P_sp, zz1, zy1, zz2, zy2, zz3, zy3, zz4, zy4, zz5, zy5, zz6, zy6, zz7, zy7, va_up]
    rfl
