/-! the walk's context at the start -/
theorem sq_ex {args : Array Value} {s : State} {A : Nat → Prop} {q : String × Nat × String × List Int32} (hts : ∀ w ∈ lw_tbl, w.before args s = true) (hs : ∀ c ∈ gv_F, c.before args s = true) (hA : ∀ a : Nat, a < s.heap.size → ¬ A a) (hl : q.2.2.2.length < 2 ^ 31) (h : (∀ c ∈ sq_w q, c ∈ gv_F) ∧ Cond.stringRef q.1 q.2.1 q.2.2.1 ∈ lw_tbl) : ∃ av : Nat × Nat, vk_R q.1 q.2.1 q.2.2.1 av.1 s ∧ va_O "java/lang/String" av.1 A s s.heap ∧ va_OF "java/lang/String" "value" "[B" (.ref av.2) av.1 A s s.heap ∧ va_OF "java/lang/String" "coder" "B" (.int 0) av.1 A s s.heap ∧ va_T .byte av.2 q.2.2.2.length (fun i => .int (q.2.2.2.getD i 0)) A s s.heap := by
  have w : ∀ c ∈ sq_w q, c.before args s = true := fun c hc => hs c (h.1 c hc)
  unfold sq_w at w
  have w0 := w _ (List.mem_append_left _ List.mem_cons_self)
  have w1 := w _ (List.mem_append_left _ (List.mem_cons_of_mem _ List.mem_cons_self))
  have w2 := w _ (List.mem_append_left _ (List.mem_cons_of_mem _ (List.mem_cons_of_mem _ List.mem_cons_self)))
  have w3 := w _ (List.mem_append_left _ (List.mem_cons_of_mem _ (List.mem_cons_of_mem _ (List.mem_cons_of_mem _ List.mem_cons_self))))
  have w4 := fun (j : Nat) (hj : j < q.2.2.2.length) => w (.eq (.elem (.field (.string q.1 q.2.1) "java/lang/String" "value" "[B") (.int (Int32.ofNat j))) (.int (q.2.2.2.getD j 0))) (List.mem_append_right _ (List.mem_map.mpr ⟨j, List.mem_range.mpr hj, rfl⟩))
  obtain ⟨a, c, cell, k, q1, q2, q3, q4, q5, q6, -⟩ := Cond.exactly_spec (args := args) (first := s) (o := none) (s := s) (idx := []) w0
  obtain ⟨t, ht, hT⟩ := va_Tof (f := fun j => .int (q.2.2.2.getD j 0)) (A := A) hl w2 (va_eqt w3) (fun j hj => va_eqt (w4 j hj)) hA
  exact ⟨(a, t), vk_R.of (hts _ h.2) q1, ⟨cell, q3, q5, by rw [q6]; exact q2, hA a (Array.getElem?_eq_some_iff.mp q3).1⟩, vk_OFof q1 ht hA, vk_OFof q1 (va_eqt w1) hA, hT⟩
theorem rq_ex {args : Array Value} {s : State} {A : Nat → Prop} {n : String} {l : List Int32} {i : Nat} (hts : ∀ w ∈ lw_tbl, w.before args s = true) (hs : ∀ c ∈ gv_F, c.before args s = true) (hA : ∀ a : Nat, a < s.heap.size → ¬ A a) (hl : l.length < 2 ^ 31) (h : (gv_F.drop i).take (rq_w n l).length = rq_w n l) (ly : Cond.laysStatic "SillHours$Port" n "[I" ∈ lw_tbl) : ∃ a : Nat, va_Z RX2 n "[I" (.ref a) A s s.heap ∧ va_T .int a l.length (fun i => .int (l.getD i 0)) A s s.heap := by
  have w : ∀ c ∈ rq_w n l, c.before args s = true := fun c hc => hs c (by
    rw [← h] at hc
    exact List.mem_of_mem_drop (List.mem_of_mem_take hc))
  unfold rq_w at w
  have w0 := w _ (List.mem_append_left _ List.mem_cons_self)
  have w1 := w _ (List.mem_append_left _ (List.mem_cons_of_mem _ List.mem_cons_self))
  have w4 := fun (j : Nat) (hj : j < l.length) => w (.eq (.elem (.static "SillHours$Port" n "[I") (.int (Int32.ofNat j))) (.int (l.getD j 0))) (List.mem_append_right _ (List.mem_map.mpr ⟨j, List.mem_range.mpr hj, rfl⟩))
  obtain ⟨t, ht, hT⟩ := va_Tof (f := fun j => .int (l.getD j 0)) (A := A) hl w0 (va_eqt w1) (fun j hj => va_eqt (w4 j hj)) hA
  exact ⟨t, va_Zref (hts _ ly) (hts _ it_port) ht hA, hT⟩
theorem fm_ex {args : Array Value} {s : State} {A : Nat → Prop} (hts : ∀ w ∈ lw_tbl, w.before args s = true) (hs : ∀ c ∈ gv_F, c.before args s = true) (hA : ∀ a : Nat, a < s.heap.size → ¬ A a) : ∃ v : Value, va_Z "jdk/internal/util/Preconditions" "SIOOBE_FORMATTER" "Ljava/util/function/BiFunction;" v A s s.heap ∧ (v = .null ∨ ∃ a, v = .ref a) := by
  have h := hs _ fm_in
  cases hv : (Term.static "jdk/internal/util/Preconditions" "SIOOBE_FORMATTER" "Ljava/util/function/BiFunction;").eval args s none [] s with
  | none => simp [Cond.before, Cond.holds, Cond.value, hv] at h
  | some v =>
    refine ⟨v, va_Zof (hts _ ly_fmt) (hts _ it_pre) hv hA, ?_⟩
    simp only [Cond.before, Cond.holds, Cond.value, hv] at h
    cases v with
    | null => exact Or.inl rfl
    | ref a => exact Or.inr ⟨a, rfl⟩
    | _ => simp_all [Value.isRef]
theorem arr_ex {args : Array Value} {s : State} (hts : ∀ w ∈ lw_tbl, w.before args s = true) : ∀ k : Nat, ∃ c : ClassId, k ∈ am_ks → ArrOfT s c (am_tyK k) ∧ va_RA s c (am_tyK k) := by
  have prim : ∀ ty : FieldType, Cond.arrayClass ty ∈ am_tbl → ∃ c : ClassId, ArrOfT s c ty ∧ s.vm.findClass ("[" ++ ty.toString) = some c := fun ty h => by
    obtain ⟨c, k, comp, h1, h2, h3⟩ := Cond.arrayClass_spec (args := args) (first := s) (o := none) (s := s) (idx := []) (hts _ (List.mem_filter.mp h).1)
    exact ⟨c, fun n z => ⟨fun k h => (by cases h), k, h2, comp, h3⟩, h1⟩
  have obj : ∀ C : String, C ∈ am_AOL → ∃ c : ClassId, ArrOfT s c (.object C) ∧ va_RA s c (.object C) := fun C h => by
    obtain ⟨comp, c, k, h1, -, h3, h4, h5⟩ := Cond.arrayOver_spec (args := args) (first := s) (o := none) (s := s) (idx := []) (hts _ (ao_all C h))
    exact ⟨c, fun n z => ⟨fun k h => (by cases h), k, h3, comp, h4⟩, k, comp, h3, h4, h1, h5⟩
  intro k
  by_cases hk : k ∈ am_ks
  · have hk' := hk
    simp only [am_ks, List.mem_cons, List.not_mem_nil, or_false] at hk'
    rcases hk' with rfl | rfl | rfl | rfl | rfl | rfl | rfl | rfl | rfl | rfl
    · obtain ⟨c, h1, h2⟩ := prim .int ac_int
      exact ⟨c, fun _ => ⟨h1, h2⟩⟩
    · obtain ⟨c, h1, h2⟩ := prim .boolean ac_boolean
      exact ⟨c, fun _ => ⟨h1, h2⟩⟩
    · obtain ⟨c, h1, h2⟩ := prim .byte ac_byte
      exact ⟨c, fun _ => ⟨h1, h2⟩⟩
    · obtain ⟨c, h1, h2⟩ := prim .char ac_char
      exact ⟨c, fun _ => ⟨h1, h2⟩⟩
    · obtain ⟨c, h⟩ := obj RX2 (by decide)
      exact ⟨c, fun _ => h⟩
    · obtain ⟨c, h⟩ := obj RX4 (by decide)
      exact ⟨c, fun _ => h⟩
    · obtain ⟨c, h⟩ := obj RX6 (by decide)
      exact ⟨c, fun _ => h⟩
    · obtain ⟨c, h⟩ := obj RX7 (by decide)
      exact ⟨c, fun _ => h⟩
    · obtain ⟨c, h⟩ := obj RX8 (by decide)
      exact ⟨c, fun _ => h⟩
    · obtain ⟨comp, c, k, h1, -, h3, h4, h5⟩ := arrayOverA_spec (args := args) (first := s) (o := none) (s := s) (idx := []) (hts _ aoa_in)
      exact ⟨c, fun _ => ⟨fun n z => ⟨fun k h => (by cases h), k, h3, comp, h4⟩, h5⟩⟩
  · exact ⟨0, fun h => absurd h hk⟩
theorem inst_all : ∀ c, c < 13 → Cond.instantiable (am_cR c) (am_cN c) ∈ lw_tbl := by
  intro c hc
  have f : ∀ {w : Cond}, w ∈ am_tbl → w ∈ lw_tbl := fun h => (List.mem_filter.mp h).1
  match c, hc with
  | 0, _ => exact f in_0 | 1, _ => exact f in_1 | 2, _ => exact f in_2 | 3, _ => exact f in_3 | 4, _ => exact f in_4 | 5, _ => exact f in_5 | 6, _ => exact f in_6 | 7, _ => exact f in_7 | 8, _ => exact f in_8 | 9, _ => exact f in_9 | 10, _ => exact f in_10 | 11, _ => exact f in_11 | 12, _ => exact f in_12
theorem sl_len : ∀ (j : Nat) (q : String × Nat × String × List Int32), am_SL[j]? = some q → q.2.2.2.length < 2 ^ 31 := by
  intro j q hq
  have : ∀ q ∈ am_SL, q.2.2.2.length ≤ 10 := by decide
  have := this q (List.mem_of_getElem? hq)
  exact Nat.lt_of_le_of_lt this (by decide)
theorem ctx_ex {b : Nat} {s : State} (hts : ∀ w ∈ lw_tbl, w.before #[Value.ref b] s = true) (hs : ∀ c ∈ gv_F, c.before #[Value.ref b] s = true) : ∃ K : am_K, K.1 = s.heap.size ∧ K.2.2.2 400 = .ref b ∧ am_St K s s.heap := by
  have hA : ∀ a : Nat, a < s.heap.size → ¬ (fun q : Nat => s.heap.size ≤ q) a := fun a h => Nat.not_le.mpr h
  obtain ⟨cl, hcl⟩ := Classical.axiomOfChoice (fun c : Nat => show ∃ d : ClassId × (Nat → Nat), c < 13 → u_Kn s (am_cR c) (am_cT c) (am_cN c) d.1 d.2 from by
    by_cases hc : c < 13
    · obtain ⟨cC, iS, h⟩ := u_known hts (am_cl_in c hc) (hts _ (inst_all c hc))
      exact ⟨(cC, iS), fun _ => h⟩
    · exact ⟨(0, fun _ => 0), fun h => absurd h hc⟩)
  obtain ⟨ar, har⟩ := Classical.axiomOfChoice (arr_ex hts)
  obtain ⟨sv, hsv⟩ := Classical.axiomOfChoice (fun j : Nat => show ∃ av : Nat × Nat, ∀ q, am_SL[j]? = some q → vk_R q.1 q.2.1 q.2.2.1 av.1 s ∧ va_O "java/lang/String" av.1 (fun q : Nat => s.heap.size ≤ q) s s.heap ∧ va_OF "java/lang/String" "value" "[B" (.ref av.2) av.1 (fun q : Nat => s.heap.size ≤ q) s s.heap ∧ va_OF "java/lang/String" "coder" "B" (.int 0) av.1 (fun q : Nat => s.heap.size ≤ q) s s.heap ∧ va_T .byte av.2 q.2.2.2.length (fun i => .int (q.2.2.2.getD i 0)) (fun q : Nat => s.heap.size ≤ q) s s.heap from by
    cases hq : am_SL[j]? with
    | none => exact ⟨(0, 0), fun q h => by cases h⟩
    | some q =>
      obtain ⟨av, h⟩ := sq_ex (A := fun q : Nat => s.heap.size ≤ q) hts hs hA (sl_len j q hq) (sq_all j q hq)
      exact ⟨av, fun q' h' => by cases h'; exact h⟩)
  obtain ⟨a0, z0, t0⟩ := rq_ex (A := fun q : Nat => s.heap.size ≤ q) hts hs hA (by decide) rq_over ly_over
  obtain ⟨a1, z1, t1⟩ := rq_ex (A := fun q : Nat => s.heap.size ≤ q) hts hs hA (by decide) rq_next ly_next
  obtain ⟨v, zv, hv⟩ := fm_ex (A := fun q : Nat => s.heap.size ≤ q) hts hs hA
  obtain ⟨cs, hcs⟩ : ∃ cs : Nat → Value, (∀ j, j < 30 → cs j = .ref (sv j).1) ∧ (∀ j, j < 30 → cs (100 + j) = .ref (sv j).2) ∧ cs 200 = .ref a0 ∧ cs 201 = .ref a1 ∧ cs 300 = v ∧ cs 400 = .ref b := by
    refine ⟨fun k => if k < 30 then .ref (sv k).1 else if k < 130 then .ref (sv (k - 100)).2 else if k = 200 then .ref a0 else if k = 201 then .ref a1 else if k = 300 then v else .ref b, fun j hj => if_pos hj, fun j hj => ?_, rfl, rfl, rfl, rfl⟩
    show (if 100 + j < 30 then _ else _) = _
    rw [if_neg (by omega), if_pos (by omega), show 100 + j - 100 = j by omega]
  refine ⟨(s.heap.size, (fun c => (cl c).1, fun c => (cl c).2), ar, cs), rfl, hcs.2.2.2.2.2, ⟨⟨fun c q hq => ?_, fun k q hq => ?_⟩, fun q hq => va_Nw.of rfl (hts _ (nl_all q hq)), ⟨fun q hq => va_AO.of (hts _ (ao_all q hq)), hts _ aoa_in⟩, fun j q hq => ?_, ⟨a0, hcs.2.2.1, z0, t0⟩, ⟨a1, hcs.2.2.2.1, z1, t1⟩, va_Zof (hts _ ly_comp) (hts _ it_str) (va_eqi (hs _ cs_in)) hA, ?_⟩⟩
  · have hc : c < 13 := by
      have := (List.getElem?_eq_some_iff.mp hq).1
      exact this
    rw [am_cl_ok c hc] at hq
    cases hq
    exact hcl c hc
  · have hm := List.mem_of_getElem? hq
    obtain ⟨k', hk', rfl⟩ := List.mem_map.mp hm
    exact har k' hk'
  · have hj : j < 30 := by have := (List.getElem?_eq_some_iff.mp hq).1; rw [am_SL_len] at this; exact this
    obtain ⟨s1, s2, s3, s4, s5⟩ := hsv j q hq
    exact ⟨(sv j).1, (sv j).2, hcs.1 j hj, hcs.2.1 j hj, s1, s2, s3, s4, s5⟩
  · have e : cs 300 = v := hcs.2.2.2.2.1
    show va_Z _ _ _ (cs 300) _ s s.heap ∧ (cs 300 = .null ∨ ∃ a, cs 300 = .ref a)
    rw [e]
    exact ⟨zv, hv⟩
