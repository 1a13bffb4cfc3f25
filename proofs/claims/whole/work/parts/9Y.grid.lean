/-! rows of rows of booleans are made -/
def am_gr (h : am_H) (N Mn : Nat) : Nat → am_H
  | 0 => am_nw h 50 N
  | i + 1 => am_sp (am_nw (am_gr h N Mn i) 21 Mn) (am_sz h) i (some (am_sz h + 1 + i))
theorem am_gr_sz (h : am_H) (N Mn : Nat) : ∀ i, am_sz (am_gr h N Mn i) = am_sz h + 1 + i
  | 0 => rfl
  | i + 1 => by
    show am_sz (am_gr h N Mn i) + 1 = _
    rw [am_gr_sz h N Mn i]
    omega
theorem am_gr_tg (h : am_H) (N Mn : Nat) : ∀ i, am_tg (am_gr h N Mn i) (am_sz h) = (50, N)
  | 0 => by
    show am_tg (am_nw h 50 N) (am_sz h) = _
    rw [am_tg_nw, if_pos rfl]
  | i + 1 => by
    show am_tg (am_nw (am_gr h N Mn i) 21 Mn) (am_sz h) = _
    rw [am_tg_nw, am_gr_sz, if_neg (by omega)]
    exact am_gr_tg h N Mn i
def mr_f (K : am_K) (h : am_H) (N Mn i : Nat) : Nat → Value := fun j => va_rf ((am_P (am_gr h N Mn i) (am_sz h) j).map (K.1 + ·))
def mr_st (K : am_K) (h : am_H) (N Mn : Nat) (U : State) : Nat → State
  | 0 => U.pushCell (arrV (K.2.2.1 50) N (fun _ => .null))
  | i + 1 => ((mr_st K h N Mn U i).pushCell (arrV (K.2.2.1 21) Mn (fun _ => .int 0))).setCell U.heap.size ((arrV (K.2.2.1 50) N (mr_f K h N Mn i)).setSlot i (.ref (U.heap.size + 1 + i)))
theorem mr_top (K : am_K) (h : am_H) (N Mn : Nat) (U : State) (f : JFrame) : ∀ i, mr_st K h N Mn (U.setTop f) i = (mr_st K h N Mn U i).setTop f
  | 0 => rfl
  | i + 1 => by
    show ((mr_st K h N Mn (U.setTop f) i).pushCell _).setCell _ _ = _
    rw [mr_top K h N Mn U f i]
    rfl
theorem mr_at {K : am_K} {h : am_H} {N Mn i : Nat} {H : Heap} (hH : am_Hr K (am_gr h N Mn i) H) : H[K.1 + am_sz h]? = some (arrV (K.2.2.1 50) N (mr_f K h N Mn i)) := by
  have he := hH.2.1 (am_sz h) _ (am_ws_at (K := K) (by rw [am_gr_sz]; omega))
  rw [am_ce_ref (am_gr_tg h N Mn i) (by omega)] at he
  exact he
theorem mr_all {p : Program} {l : Launch} {e : Env} {R : Room} {s : State} {m : MethodId} {args : Array Value} {below : List Frame} {meth : Method} {c : Code} {T : State} {locs : List Loc} {cells slots : Nat} {K : am_K} {h : am_H} (N Mn : Nat) (X : Stand p l e R s m args below meth c T locs cells slots) (hH : am_Hr K h T.heap) :
    ∀ i, ∃ L : List Loc, (∀ q ∈ L, q.base = T.heap.size) ∧ Stand p l e R s m args below meth c (mr_st K h N Mn T i) (locs ++ L) (cells + 1 + i) (slots + N + i * Mn) ∧ am_Hr K (am_gr h N Mn i) (mr_st K h N Mn T i).heap ∧ (mr_st K h N Mn T i).vm = T.vm ∧ (mr_st K h N Mn T i).slotsUsed = T.slotsUsed + N + i * Mn ∧ ∀ q : Nat, q < T.heap.size → (mr_st K h N Mn T i).heap[q]? = T.heap[q]?
  | 0 => by
    have X1 := X.pushed (arrV (K.2.2.1 50) N (fun _ => .null))
    rw [arrV_size] at X1
    have z0 : (T.pushCell (arrV (K.2.2.1 50) N (fun _ => .null))).heap.size = K.1 + am_sz h + 1 := by
      rw [State.heap_pushCell, Array.size_push, hH.1]
    have o0 : ∀ q : Nat, q < T.heap.size → (T.pushCell (arrV (K.2.2.1 50) N (fun _ => .null))).heap[q]? = T.heap[q]? := fun q hq => by
      rw [State.heap_pushCell, Array.getElem?_push, if_neg (Nat.ne_of_lt hq)]
    refine ⟨[], fun q hq => absurd hq List.not_mem_nil, ?_, ?_, rfl, ?_, o0⟩
    · rw [List.append_nil, Nat.zero_mul]
      exact X1
    · refine hH.new (kd := 50) (n := N) z0 (fun q hq => o0 q (by rw [hH.1]; exact hq)) ?_
      have ht : am_tg (am_nw h 50 N) (am_sz h) = (50, N) := by rw [am_tg_nw, if_pos rfl]
      rw [am_ce_ref ht (by omega), am_P_nw, if_pos rfl]
      show (T.pushCell (arrV (K.2.2.1 50) N (fun _ => .null))).heap[K.1 + am_sz h]? = some (vp_cell _ _)
      rw [State.heap_pushCell, ← hH.1, Array.getElem?_push_size, vp_cell_q]
      rfl
    · show T.slotsUsed + (arrV (K.2.2.1 50) N (fun _ => .null)).slots.size = _
      rw [arrV_size]
      omega
  | i + 1 => by
    obtain ⟨L, hL, Xi, Hi, vi, ui, oi⟩ := mr_all N Mn X hH i
    have hz := am_gr_sz h N Mn i
    have si : (mr_st K h N Mn T i).heap.size = T.heap.size + 1 + i := by rw [Hi.1, hz, hH.1]; omega
    have hc := mr_at Hi
    rw [← hH.1] at hc
    have X1 := Xi.pushed (arrV (K.2.2.1 21) Mn (fun _ => .int 0))
    rw [arrV_size] at X1
    have hc1 : ((mr_st K h N Mn T i).pushCell (arrV (K.2.2.1 21) Mn (fun _ => .int 0))).heap[T.heap.size]? = some (arrV (K.2.2.1 50) N (mr_f K h N Mn i)) := by
      rw [State.heap_pushCell, Array.getElem?_push, if_neg (by omega)]
      exact hc
    have X2 := X1.stored hc1 i (.ref (T.heap.size + 1 + i))
    have z1 : ((mr_st K h N Mn T i).pushCell (arrV (K.2.2.1 21) Mn (fun _ => .int 0))).heap.size = K.1 + am_sz (am_gr h N Mn i) + 1 := by rw [State.heap_pushCell, Array.size_push, Hi.1]
    have o1 : ∀ q : Nat, q < (mr_st K h N Mn T i).heap.size → ((mr_st K h N Mn T i).pushCell (arrV (K.2.2.1 21) Mn (fun _ => .int 0))).heap[q]? = (mr_st K h N Mn T i).heap[q]? := fun q hq => by
      rw [State.heap_pushCell, Array.getElem?_push, if_neg (Nat.ne_of_lt hq)]
    have H1 : am_Hr K (am_nw (am_gr h N Mn i) 21 Mn) ((mr_st K h N Mn T i).pushCell (arrV (K.2.2.1 21) Mn (fun _ => .int 0))).heap := by
      refine Hi.new (kd := 21) (n := Mn) z1 (fun q hq => o1 q (by rw [Hi.1]; exact hq)) ?_
      have ht : am_tg (am_nw (am_gr h N Mn i) 21 Mn) (am_sz (am_gr h N Mn i)) = (21, Mn) := by rw [am_tg_nw, if_pos rfl]
      rw [am_ce_int ht (by omega) (by omega), am_I_nw, if_pos rfl]
      show ((mr_st K h N Mn T i).pushCell (arrV (K.2.2.1 21) Mn (fun _ => .int 0))).heap[K.1 + am_sz (am_gr h N Mn i)]? = some (vp_cell _ _)
      rw [State.heap_pushCell, ← Hi.1, Array.getElem?_push_size, vp_cell_i]
    refine ⟨L ++ [⟨T.heap.size, i⟩], fun q hq => ?_, ?_, ?_, ?_, ?_, fun q hq => ?_⟩
    · rcases List.mem_append.mp hq with h | h
      · exact hL q h
      · rw [List.mem_singleton] at h
        rw [h]
    · rw [← List.append_assoc, show cells + 1 + (i + 1) = cells + 1 + i + 1 by omega, Nat.succ_mul, show slots + N + (i * Mn + Mn) = slots + N + i * Mn + Mn by omega]
      exact X2
    · refine H1.put (a := am_sz h) (h' := am_gr h N Mn (i + 1)) (by show am_sz h < am_sz (am_gr h N Mn i) + 1; omega) rfl (fun _ => rfl) (fun _ _ => rfl) (fun j e => am_P_spn e) ?_ (fun q hq => ?_) ?_
      · show (Array.setIfInBounds _ _ _).size = _
        rw [Array.size_setIfInBounds]
      · show (Array.setIfInBounds _ _ _)[q]? = _
        rw [Array.getElem?_setIfInBounds, if_neg (by rw [hH.1]; exact fun z => hq z.symm)]
      · rw [am_ce_ref (am_gr_tg h N Mn (i + 1)) (by omega)]
        show (Array.setIfInBounds _ _ _)[K.1 + am_sz h]? = some (vp_cell _ _)
        rw [← hH.1, Array.getElem?_setIfInBounds, if_pos rfl, if_pos (by show T.heap.size < ((mr_st K h N Mn T i).pushCell _).heap.size; rw [z1, hz, hH.1]; omega), vp_cell_q, arrV_store]
        congr 2
        funext q
        have hp1 : am_P (am_gr h N Mn (i + 1)) (am_sz h) = va_up (am_P (am_nw (am_gr h N Mn i) 21 Mn) (am_sz h)) i (some (am_sz h + 1 + i)) := am_P_sps
        have hp : am_P (am_nw (am_gr h N Mn i) 21 Mn) (am_sz h) = am_P (am_gr h N Mn i) (am_sz h) := by rw [am_P_nw, if_neg (by omega)]
        rw [hp1, hp]
        by_cases e : q = i
        · subst e
          have hz0 : T.heap.size = K.1 + am_sz h := hH.1
          rw [va_up, if_pos rfl, updV, if_pos rfl, hz0]
          show Value.ref (K.1 + am_sz h + 1 + q) = Value.ref (K.1 + (am_sz h + 1 + q))
          rw [show K.1 + am_sz h + 1 + q = K.1 + (am_sz h + 1 + q) by omega]
        · rw [va_up, if_neg e, updV, if_neg e]
          rfl
    · exact vi
    · show (mr_st K h N Mn T i).slotsUsed + (arrV (K.2.2.1 21) Mn (fun _ => .int 0)).slots.size = _
      rw [arrV_size, ui, Nat.succ_mul]
      omega
    · show (Array.setIfInBounds _ _ _)[q]? = _
      rw [Array.getElem?_setIfInBounds, if_neg (by omega), o1 q (by omega)]
      exact oi q hq
theorem mr_fit {U : State} {cA comp : ClassId} {k : Class} {i : Nat} {v : Value} (hk : U.vm.classes[cA]? = some k) (hkind : k.kind = .array comp (.array .boolean)) (hv : v = .null ∨ ∃ a, v = .ref a) : U.fitsSlot cA .none i v = true := by
  rcases hv with rfl | ⟨a, rfl⟩ <;> simp [State.fitsSlot, State.slotType?, hk, hkind, fits]
theorem mr_make {E : CtlPost} {e : Env} {d : Bool} {acts : List Action} {K : am_K} {h : am_H} {U : State} {comp : ClassId} {kA kC : Class} {n k : Int32} (N Mn : Nat) (hN : n.toNatClampNeg = N) (hM : k.toNatClampNeg = Mn) (hn : ¬ n < 0) (hk : ¬ k < 0)
    (hkA : U.vm.classes[K.2.2.1 50]? = some kA) (hkindA : kA.kind = .array (K.2.2.1 21) (.array .boolean)) (hkC : U.vm.classes[K.2.2.1 21]? = some kC) (hkindC : kC.kind = .array comp .boolean)
    (hl1 : ¬ N > e.platform.arrayLengthLimit) (hh1 : ¬ N * componentBytes (.array .boolean) > e.platform.maxHeapBytes) (hl2 : ¬ Mn > e.platform.arrayLengthLimit) (hh2 : ¬ Mn * componentBytes .boolean > e.platform.maxHeapBytes)
    (st : ∀ i, (mr_st K h N Mn U i).vm = U.vm ∧ (mr_st K h N Mn U i).slotsUsed = U.slotsUsed + N + i * Mn ∧ (mr_st K h N Mn U i).heap.size = U.heap.size + 1 + i ∧ (mr_st K h N Mn U i).heap[U.heap.size]? = some (arrV (K.2.2.1 50) N (mr_f K h N Mn i)))
    (r1 : U.heap.size + (1 + N) ≤ e.platform.maxCells) (r2 : U.slotsUsed + (N + N * Mn) ≤ e.platform.maxSlots) {Q : Addr → Pre} (hq : ∀ d' acts', Q U.heap.size d' acts' (mr_st K h N Mn U N)) :
    wp (multianewarray.make (K.2.2.1 50) [n, k]) Q E e d acts U := by
  rw [multianewarray.make]
  simp only [wp_bind', W.ite, hn, if_false, wp_pure', W.theClass, hkA, hkindA, Option.some.injEq, exists_eq_left', hN]
  refine W.newArray_of hkA hkindA hl1 hh1 (by omega) (by have := Nat.zero_le (N * Mn); omega) rfl (fun acts' => ?_)
  have hfind : ([k].find? (· < 0)) = none := by simp [hk]
  simp only [hfind]
  rw [ite_self, wp_bind', Std.Legacy.Range.forIn_eq_forIn_range']
  have hsz : ([:N] : Std.Legacy.Range).size = N := by simp [Std.Legacy.Range.size]
  rw [hsz, arrV_new]
  refine wp_forIn_inv (fun rest u => ∃ i, i + rest.length = N ∧ rest = List.range' i rest.length ∧ u = mr_st K h N Mn U i) _ _ ⟨0, by simp, by simp, rfl⟩ ?_ ?_
  · rintro x rest u d' acts' Q' ⟨i, hi, hr, rfl⟩ next
    rw [List.length_cons, List.range'_succ] at hr
    obtain ⟨rfl, hr⟩ := List.cons.inj hr
    rw [List.length_cons] at hi
    obtain ⟨s1, s2, s3, s4⟩ := st x
    have hle : x * Mn + Mn ≤ N * Mn := by
      have := Nat.mul_le_mul_right Mn (show x + 1 ≤ N by omega)
      rw [Nat.succ_mul] at this
      exact this
    simp only [wp_bind']
    rw [multianewarray.make]
    simp only [wp_bind', W.ite, hk, if_false, wp_pure', W.theClass, s1, hkC, hkindC, Option.some.injEq, exists_eq_left', hM]
    refine W.newArray_of (by rw [s1]; exact hkC) hkindC hl2 hh2 (by rw [s3]; omega) (by rw [s2]; omega) rfl (fun acts'' => ?_)
    simp only [wp_bind', W.writeLoc, wp_pure']
    refine ⟨arrV (K.2.2.1 50) N (mr_f K h N Mn x), ?_, fun z => (by cases z), by rw [arrV_size]; omega, mr_fit (k := kA) (by show (mr_st K h N Mn U x).vm.classes[_]? = _; rw [s1]; exact hkA) hkindA (Or.inr ⟨_, rfl⟩), next _ _ _ ⟨x + 1, by omega, hr, ?_⟩⟩
    · rw [State.heap_pushCell, Array.getElem?_push, if_neg (by omega)]
      exact s4
    · rw [s3, arrV_new]
      rfl
  · rintro u d' acts' ⟨i, hi, -, rfl⟩
    have hi : i = N := hi
    subst hi
    simp only [wp_pure']
    exact hq _ _
theorem am_grid {M : am_M} {kc ks pc : Nat} {al as : List Value} {h : am_H} {Q : Option Value → am_H → Prop} {idx N Mn : Nat} {n k : Int32} (hd : decode M.2.1 pc = .ok (.multianewarray idx 2, 4)) (w1 : Cond.classLink M.1.cls idx "[[Z" ∈ am_tbl) (w2 : Cond.arrayClass .boolean ∈ am_tbl) (hn : ¬ n < 0) (hN : n.toNatClampNeg = N) (hk : ¬ k < 0) (hM : k.toNatClampNeg = Mn) (hb1 : N ≤ 100000) (hb2 : Mn ≤ 100000) (kk : am_EI M kc ks (pc + 4) al (.ref (am_sz h) :: as) (am_gr h N Mn N) Q) : am_EI M (kc + (1 + N)) (ks + (N + N * Mn)) pc al (.int k :: .int n :: as) h Q := by
  intro K p l e R s m args below meth c H locs cells slots ls bc bs QF C hE hc hs hH hS hl T hT X
  subst hT
  have b1 := C.2.2.2.2.2.2.2.2.2.1
  have b2 := C.2.2.2.2.2.2.2.2.2.2.1
  have hcode := C.2.1
  have hpl : e.platform.magicAccessors = ({} : Platform).magicAccessors := by rw [X.admits.platform]
  have hover : (Cond.arrayOver (.array .boolean)).before args s = true := C.2.2.2.2.2.2.1.2.2.1.2
  obtain ⟨cB, cA, kA, hcomp, hidx, hkA, hkindA, hnameA⟩ := arrayOverA_spec hover
  obtain ⟨cB', kC, comp, hcomp', hkC, hkindC⟩ := Cond.arrayClass_spec (C.2.2.2.2.1 _ w2)
  obtain rfl : cB' = cB := Option.some.inj (hcomp'.symm.trans hcomp)
  have eA : cA = K.2.2.1 50 := Option.some.inj (hnameA.symm.trans (am_tys_at C.2.2.2.2.2.2.1.1 (k := 50) (by decide)).2)
  have eB : cB' = K.2.2.1 21 := Option.some.inj (hcomp.symm.trans (am_tys_at C.2.2.2.2.2.2.1.1 (k := 21) (by decide)).2)
  subst eA
  subst eB
  obtain ⟨c0, hfc0, hcl⟩ := Cond.classLink_spec C.2.2.2.1 (C.2.2.2.2.1 _ w1) e.platform hpl
  obtain rfl : K.2.2.1 50 = c0 := Option.some.inj (hnameA.symm.trans hfc0)
  obtain ⟨hg₁, hwarm₁, hready₁⟩ := State.classEntry (e := e) X.warmed hcl
  generalize T.vm.noted m.cls idx (.cls (K.2.2.1 50)) = vm₁ at hg₁ hwarm₁ hready₁
  have hal : s.vm.Alike vm₁ := hwarm₁.alike
  obtain ⟨kA₁, hkA₁, heA⟩ := hal.2.2 _ _ hkA
  obtain ⟨kC₁, hkC₁, heC⟩ := hal.2.2 _ _ hkC
  have hkindA₁ : kA₁.kind = .array (K.2.2.1 21) (.array .boolean) := by rw [heA]; exact hkindA
  have hkindC₁ : kC₁.kind = .array comp .boolean := by rw [heC]; exact hkindC
  have X₁ := X.noted hwarm₁
  obtain ⟨hr1, hr2⟩ := X.roomAbove (a := 1 + N) (b := N + N * Mn) (by omega) (by omega)
  have all := mr_all N Mn X₁ (K := K) (h := h) hH
  obtain ⟨L, hL, XN, HN, -, -, oN⟩ := all N
  have sN : (mr_st K h N Mn (T.setVm vm₁) N).heap.size = T.heap.size + 1 + N := by
    have z : T.heap.size = K.1 + am_sz h := hH.1
    rw [HN.1, am_gr_sz]
    omega
  have hS' : va_S (am_A K) s.heap (mr_st K h N Mn (T.setVm vm₁) N).heap (locs ++ L) := by
    have h1 := hS.1
    refine ⟨by omega, fun q h2 h3 => (oN q (by show q < T.heap.size; omega)).trans (hS.2.1 q h2 h3), fun q hq => ?_⟩
    rcases List.mem_append.mp hq with h | h
    · exact hS.2.2 q h
    · show K.1 ≤ q.base
      rw [hL q h]
      show K.1 ≤ T.heap.size
      rw [hH.1]
      omega
  obtain ⟨t, a1, q1⟩ := kk C hE (cells := cells + 1 + N) (slots := slots + N + N * Mn) (by omega) (by omega) HN hS' hl _ rfl XN
  refine ⟨t, ?_, q1⟩
  have hdg : decode c.code (F0 m pc ls ((Value.int k :: Value.int n :: as).map (am_cv K))).pc = .ok (.multianewarray idx 2, 4) := by rw [hcode]; exact hd
  have hl1 : ¬ N > e.platform.arrayLengthLimit := by rw [Launch.admits_arrayLengthLimit X.admits]; omega
  have hh1 : ¬ N * componentBytes (.array .boolean) > e.platform.maxHeapBytes := by
    rw [Launch.admits_maxHeapBytes X.admits]
    show ¬ N * 4 > 536870912
    omega
  have hl2 : ¬ Mn > e.platform.arrayLengthLimit := by rw [Launch.admits_arrayLengthLimit X.admits]; omega
  have hh2 : ¬ Mn * componentBytes .boolean > e.platform.maxHeapBytes := by
    rw [Launch.admits_maxHeapBytes X.admits]
    show ¬ Mn * 1 > 536870912
    omega
  have hst : (F0 m pc ls ((Value.int k :: Value.int n :: as).map (am_cv K))).stack = .int k :: .int n :: as.map (am_cv K) := rfl
  have hpc : (F0 m pc ls ((Value.int k :: Value.int n :: as).map (am_cv K))).pc = pc := rfl
  have hgm : (F0 m pc ls ((Value.int k :: Value.int n :: as).map (am_cv K))).method = m := rfl
  have hfin : F0 m (pc + 4) ls ((Value.ref (am_sz h) :: as).map (am_cv K)) = { F0 m pc ls ((Value.int k :: Value.int n :: as).map (am_cv K)) with pc := pc + 4, stack := .ref T.heap.size :: as.map (am_cv K) } := by
    have z : T.heap.size = K.1 + am_sz h := hH.1
    rw [z]
    rfl
  rw [hfin] at a1
  generalize F0 m pc ls ((Value.int k :: Value.int n :: as).map (am_cv K)) = g at hdg hst hpc hgm a1 ⊢
  subst hgm
  jvm_step X.here [C.1, hdg]
  simp only [multianewarray.sem, wp_bind', W.resolveClassAt_links (State.method?_setTop g X.here.top) hg₁]
  rw [W.popN, if_neg (by decide)]
  refine ⟨g, State.topJava?_setTop' (s := T.setVm vm₁) g X.here.top, [.int n, .int k], as.map (am_cv K), rfl, hst, ?_⟩
  simp only [List.mapM_cons, List.mapM_nil, wp_bind', wp_pure']
  have eS : ((T.setTop g).setVm vm₁).setTop { g with stack := as.map (am_cv K) } = (T.setVm vm₁).setTop { g with stack := as.map (am_cv K) } := by
    show ((T.setVm vm₁).setTop g).setTop _ = _
    rw [State.setTop_setTop]
  rw [eS]
  refine mr_make (U := (T.setVm vm₁).setTop { g with stack := as.map (am_cv K) }) (K := K) (h := h) (kA := kA₁) (kC := kC₁) (comp := comp) N Mn hN hM hn hk hkA₁ hkindA₁ hkC₁ hkindC₁ hl1 hh1 hl2 hh2 (fun i => ?_) hr1 hr2 (fun d' acts' => ?_)
  · rw [mr_top]
    obtain ⟨-, -, -, Hi, vi, ui, -⟩ := all i
    refine ⟨vi, ui, ?_, ?_⟩
    · show (mr_st K h N Mn (T.setVm vm₁) i).heap.size = T.heap.size + 1 + i
      have z : T.heap.size = K.1 + am_sz h := hH.1
      rw [Hi.1, am_gr_sz]
      omega
    · have z : T.heap.size = K.1 + am_sz h := hH.1
      show (mr_st K h N Mn (T.setVm vm₁) i).heap[T.heap.size]? = _
      rw [z]
      exact mr_at Hi
  · rw [mr_top]
    simp only [wp_bind', W.mark, W.pushRef, State.topJava?_setTop' _ XN.here.top, Option.some.injEq, exists_eq_left', State.setTop_setTop, State.heap_setTop]
    intro acts
    simp [jvm, XN.here.top]
    rw [hpc]
    exact a1
