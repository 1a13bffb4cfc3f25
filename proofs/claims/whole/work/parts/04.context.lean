/-- the texts: class, entry, text, bytes -/
def am_SL : List (String × Nat × String × List Int32) := [
  ("SillHours$PortDraft", 53, "hw", [104, 119]),
  ("SillHours$PortDraft", 66, "lw", [108, 119]),
  ("SillHours$Sill", 26, "bar", [98, 97, 114]),
  ("SillHours$Sill", 34, "gate", [103, 97, 116, 101]),
  ("SillHours$Sill", 36, "flap", [102, 108, 97, 112]),
  ("SillHours$Sill", 38, "bridge", [98, 114, 105, 100, 103, 101]),
  ("SillHours$Page", 109, "shut", [115, 104, 117, 116]),
  ("SillHours$Page", 111, "open", [111, 112, 101, 110]),
  ("SillHours$Page", 113, ", ", [44, 32]),
  ("SillHours$Page", 31, "hw", [104, 119]),
  ("SillHours$Page", 33, "lw", [108, 119]),
  ("SillHours$Page", 124, "bar", [98, 97, 114]),
  ("SillHours$Page", 126, "gate", [103, 97, 116, 101]),
  ("SillHours$Page", 128, "flap", [102, 108, 97, 112]),
  ("SillHours$Page", 130, "bridge", [98, 114, 105, 100, 103, 101]),
  ("SillHours$Page", 91, " /", [32, 47]),
  ("SillHoursModel", 193, "hw", [104, 119]),
  ("SillHoursModel", 195, "lw", [108, 119]),
  ("SillHoursModel", 247, "bar", [98, 97, 114]),
  ("SillHoursModel", 249, "gate", [103, 97, 116, 101]),
  ("SillHoursModel", 251, "flap", [102, 108, 97, 112]),
  ("SillHoursModel", 253, "bridge", [98, 114, 105, 100, 103, 101]),
  ("SillHoursModel", 219, "shut", [115, 104, 117, 116]),
  ("SillHoursModel", 221, "open", [111, 112, 101, 110]),
  ("SillHoursModel", 223, ", ", [44, 32]),
  ("SillHoursModel", 207, "bar ", [98, 97, 114, 32]),
  ("SillHoursModel", 209, "gate ", [103, 97, 116, 101, 32]),
  ("SillHoursModel", 211, "flap ", [102, 108, 97, 112, 32]),
  ("SillHoursModel", 213, "bridge ", [98, 114, 105, 100, 103, 101, 32]),
  ("SillHoursModel", 215, " /", [32, 47])]
/-- links of nest mates -/
def am_NL : List (String × Nat × MethodName × String) := [
  ("SillHours", 9, ⟨"SillHours$Tape", "<init>", "()V"⟩, "SillHours"),
  ("SillHours", 18, ⟨"SillHours$PortDraft", "<init>", "()V"⟩, "SillHours"),
  ("SillHours$PortDraft", 26, ⟨"SillHours$Shift", "<init>", "()V"⟩, "SillHours"),
  ("SillHours", 56, ⟨"SillHours$Windows", "<init>", "()V"⟩, "SillHours"),
  ("SillHours$Planner", 11, ⟨"SillHours$Windows", "<init>", "()V"⟩, "SillHours"),
  ("SillHours", 77, ⟨"SillHours$Page", "<init>", "()V"⟩, "SillHours"),
  ("SillHours", 166, ⟨"SillHours$Ship", "<init>", "()V"⟩, "SillHours")]
def am_AOL : List String := [RX2, RX4, RX6, RX7, RX8]
/-- the types of the rows' classes -/
def am_tyK (k : Nat) : FieldType := match k with
  | 20 => .int | 21 => .boolean | 22 => .byte | 23 => .char | 32 => .object RX2 | 34 => .object RX4 | 36 => .object RX6 | 37 => .object RX7 | 38 => .object RX8 | _ => .array .boolean
def am_ks : List Nat := [20, 21, 22, 23, 32, 34, 36, 37, 38, 50]
def am_tys (K : am_K) : List (ClassId × FieldType) := am_ks.map (fun k => (K.2.2.1 k, am_tyK k))
def am_OV : List Int32 := [0, 1, 3, 6, 9, 11]
def am_NX : List Int32 := [1, 2, 3, 3, 2, 1]
/-- a text of the constants -/
def am_Sq (K : am_K) (U : State) (H : Heap) (j : Nat) (q : String × Nat × String × List Int32) : Prop := ∃ a v : Nat, K.2.2.2 j = .ref a ∧ K.2.2.2 (100 + j) = .ref v ∧ vk_R q.1 q.2.1 q.2.2.1 a U ∧ va_O "java/lang/String" a (am_A K) U H ∧ va_OF "java/lang/String" "value" "[B" (.ref v) a (am_A K) U H ∧ va_OF "java/lang/String" "coder" "B" (.int 0) a (am_A K) U H ∧ va_T .byte v q.2.2.2.length (fun i => .int (q.2.2.2.getD i 0)) (am_A K) U H
/-- a static row of ints -/
def am_Rq (K : am_K) (U : State) (H : Heap) (j : Nat) (n : String) (l : List Int32) : Prop := ∃ a : Nat, K.2.2.2 j = .ref a ∧ va_Z RX2 n "[I" (.ref a) (am_A K) U H ∧ va_T .int a l.length (fun i => .int (l.getD i 0)) (am_A K) U H
def am_Fq (K : am_K) (U : State) (H : Heap) : Prop := va_Z "jdk/internal/util/Preconditions" "SIOOBE_FORMATTER" "Ljava/util/function/BiFunction;" (K.2.2.2 300) (am_A K) U H ∧ (K.2.2.2 300 = .null ∨ ∃ a, K.2.2.2 300 = .ref a)
/-- rows of rows of booleans may be made -/
def am_AOA (U : State) : Prop := (Cond.arrayOver (.array .boolean)).before #[] U = true
theorem am_AOA.moved {u U : State} (hvm : u.vm.Alike U.vm) (h : am_AOA u) : am_AOA U := by
  have e : (Cond.arrayOver (.array .boolean)).before #[] U = (Cond.arrayOver (.array .boolean)).before #[] (u.setVm U.vm) := rfl
  unfold am_AOA
  rw [e, Cond.arrayOver_setVmC hvm]
  exact h
/-- what is known of the tables and the constants at a state U with heap H -/
def am_St (K : am_K) (U : State) (H : Heap) : Prop :=
  va_K K.2.1 vwCl (am_tys K) U ∧ (∀ q ∈ am_NL, va_Nw (.methodLinkNest q.1 q.2.1 q.2.2.1 q.2.2.2) U) ∧ ((∀ q ∈ am_AOL, va_AO q U) ∧ am_AOA U) ∧
  (∀ (j : Nat) (q : String × Nat × String × List Int32), am_SL[j]? = some q → am_Sq K U H j q) ∧ am_Rq K U H 200 "TWELFTHS_OVER" am_OV ∧ am_Rq K U H 201 "TWELFTHS_NEXT" am_NX ∧
  va_Z "java/lang/String" "COMPACT_STRINGS" "Z" (.int 1) (am_A K) U H ∧ am_Fq K U H
theorem am_St.kept {K : am_K} {U : State} {H H1 : Heap} (h : am_St K U H) (hq : ∀ a : Nat, a < H.size → ¬ am_A K a → H1[a]? = H[a]?) : am_St K U H1 := by
  obtain ⟨h1, h2, h3, h4, ⟨a5, b5, c5, d5⟩, ⟨a6, b6, c6, d6⟩, h7, h8, h9⟩ := h
  refine ⟨h1, h2, h3, fun j q hj => ?_, ⟨a5, b5, c5.kept hq, d5.kept hq⟩, ⟨a6, b6, c6.kept hq, d6.kept hq⟩, h7.kept hq, h8.kept hq, h9⟩
  obtain ⟨a, v, e1, e2, e3, e4, e5, e6, e7⟩ := h4 j q hj
  exact ⟨a, v, e1, e2, e3, e4.kept hq, e5.kept hq, e6.kept hq, e7.kept hq⟩
theorem am_St.warm {K : am_K} {s U : State} {H : Heap} (hW : s.WarmedH U.vm) (h : am_St K s H) : am_St K U H := by
  have hv := hW.alike
  obtain ⟨h1, h2, h3, h4, ⟨a5, b5, c5, d5⟩, ⟨a6, b6, c6, d6⟩, h7, h8, h9⟩ := h
  refine ⟨h1.moved hv, fun q hq => va_Nw.warmM hW (h2 q hq), ⟨fun q hq => (h3.1 q hq).moved hv, h3.2.moved hv⟩, fun j q hj => ?_, ⟨a5, b5, c5.moved hv, d5.moved hv⟩, ⟨a6, b6, c6.moved hv, d6.moved hv⟩, h7.moved hv, h8.moved hv, h9⟩
  obtain ⟨a, v, e1, e2, e3, e4, e5, e6, e7⟩ := h4 j q hj
  exact ⟨a, v, e1, e2, e3.warm hW, e4.moved hv, e5.moved hv, e6.moved hv, e7.moved hv⟩
theorem am_St.same {K : am_K} {u U : State} {H : Heap} (hv : U.vm = u.vm) (h : am_St K u H) : am_St K U H := by
  have ha : u.vm.Alike U.vm := by rw [hv]; exact Vm.Alike.refl u.vm
  obtain ⟨h1, h2, h3, h4, ⟨a5, b5, c5, d5⟩, ⟨a6, b6, c6, d6⟩, h7, h8, h9⟩ := h
  refine ⟨h1.moved ha, fun q hq => va_Nw.same rfl hv.symm (h2 q hq), ⟨fun q hq => (h3.1 q hq).moved ha, h3.2.moved ha⟩, fun j q hj => ?_, ⟨a5, b5, c5.moved ha, d5.moved ha⟩, ⟨a6, b6, c6.moved ha, d6.moved ha⟩, h7.moved ha, h8.moved ha, h9⟩
  obtain ⟨a, v, e1, e2, e3, e4, e5, e6, e7⟩ := h4 j q hj
  exact ⟨a, v, e1, e2, e3.same hv, e4.moved ha, e5.moved ha, e6.moved ha, e7.moved ha⟩
/-- a method: its name, its bytes, its locals, what it returns; the frames and words that its calls may want -/
abbrev am_M : Type := MethodName × ByteArray × Nat × Option FieldType × Nat × Nat
def am_wsM (M : am_M) : List Cond := Cond.code M.1 M.2.1 M.2.2.1 M.2.2.2.1 :: am_tbl
def am_rm (M : am_M) (kc ks : Nat) : Room := { frames := M.2.2.2.2.1, cells := kc, slots := ks, locals := M.2.2.2.2.2 }
def am_Pc (K : am_K) (args : List Value) (h : am_H) : Array Value → State → Prop := fun v U => v = (args.map (am_cv K)).toArray ∧ am_Hr K h U.heap ∧ am_St K U U.heap
def am_Qc (K : am_K) (Q : Option Value → am_H → Prop) : Array Value → State → Outcome → State → Prop := fun _ st o t =>
  ∃ (v : Option Value) (h' : am_H), o = .returned (v.map (am_cv K)) ∧ Q v h' ∧ am_Hr K h' t.heap ∧ va_F (am_A K) st t
/-- THE METHOD M, called with these arguments over this heap, returns; its answer and heap are as Q says; it makes at most kc cells of ks slots -/
def am_Ev (M : am_M) (kc ks : Nat) (args : List Value) (h : am_H) (Q : Option Value → am_H → Prop) : Prop :=
  ∀ (l : Launch) (K : am_K), Met l M.1 (am_wsM M) (am_rm M kc ks) (am_Pc K args h) (am_Qc K Q) kc ks (am_A K)
/-- the locals: of those that are unset (.float) nothing is known -/
def am_lp (K : am_K) (al : List Value) : List (Nat × Value) := (List.range al.length).filterMap (fun i => match (al[i]? : Option Value) with
  | some (Value.float _) => none
  | some w => some (i, am_cv K w)
  | none => none)
def am_lr (K : am_K) (al : List Value) (nL : Nat) (ls : Array Slot) : Prop := al.length = nL ∧ lv_has ls nL (am_lp K al) ∧ ∀ q ∈ am_lp K al, q.2.category = 1
/-- what a walk of M's body stands on -/
def am_Cx (K : am_K) (M : am_M) (p : Program) (R : Room) (s : State) (m : MethodId) (args : Array Value) (meth : Method) (c : Code) (bc bs : Nat) : Prop :=
  p.tables.exec = Jvm.exec ∧ c.code = M.2.1 ∧ c.maxLocals = M.2.2.1 ∧ s.vm.findClass M.1.cls = some m.cls ∧ (∀ w ∈ am_tbl, w.before args s = true) ∧ meth.name = M.1.name ∧ am_St K s s.heap ∧
  M.2.2.2.2.1 ≤ R.frames ∧ M.2.2.2.2.2 ≤ R.locals ∧ bc ≤ R.cells ∧ bs ≤ R.slots ∧ K.1 ≤ s.heap.size
/-- how a walk of M's body ends -/
def am_En (K : am_K) (M : am_M) (p : Program) (l : Launch) (e : Env) (R : Room) (s : State) (m : MethodId) (args : Array Value) (below : List Frame) (meth : Method) (c : Code) (bc bs : Nat) (QF : State → Prop) (Q : Option Value → am_H → Prop) : Prop :=
  ∀ (v : Option Value) (h' : am_H) (H : Heap) (locs : List Loc) (cells slots pc : Nat) (ls : Array Slot),
    (match v with
      | none => decode M.2.1 pc = .ok (.return_, 1) ∧ M.2.2.2.1 = none
      | some (.int x) => decode M.2.1 pc = .ok (.ireturn, 1) ∧ (∃ ty, M.2.2.2.1 = some ty ∧ narrow ty (.int x) = .int x)
      | some w => decode M.2.1 pc = .ok (.areturn, 1) ∧ (∃ ty, M.2.2.2.1 = some ty ∧ am_ir ty = true) ∧ (am_cv K w = .null ∨ ∃ a, am_cv K w = .ref a)) →
    Q v h' → am_Hr K h' H → va_S (am_A K) s.heap H locs → cells ≤ bc → slots ≤ bs →
    W p l e R s m args below meth c H locs cells slots QF (F0 m pc ls (v.map (am_cv K)).toList)
/-- FROM pc ON, with these locals and this stack over this heap, kc cells of ks slots left to make, the method M returns as Q says -/
def am_EI (M : am_M) (kc ks pc : Nat) (al as : List Value) (h : am_H) (Q : Option Value → am_H → Prop) : Prop :=
  ∀ ⦃K : am_K⦄ ⦃p : Program⦄ ⦃l : Launch⦄ ⦃e : Env⦄ ⦃R : Room⦄ ⦃s : State⦄ ⦃m : MethodId⦄ ⦃args : Array Value⦄ ⦃below : List Frame⦄ ⦃meth : Method⦄ ⦃c : Code⦄ ⦃H : Heap⦄ ⦃locs : List Loc⦄ ⦃cells slots : Nat⦄ ⦃ls : Array Slot⦄ ⦃bc bs : Nat⦄ ⦃QF : State → Prop⦄,
    am_Cx K M p R s m args meth c bc bs → am_En K M p l e R s m args below meth c bc bs QF Q → cells + kc ≤ bc → slots + ks ≤ bs → am_Hr K h H → va_S (am_A K) s.heap H locs → am_lr K al M.2.2.1 ls →
    W p l e R s m args below meth c H locs cells slots QF (F0 m pc ls (as.map (am_cv K)))
theorem am_lp_in {K : am_K} {al : List Value} {i : Nat} {w : Value} : (i, w) ∈ am_lp K al ↔ ∃ v, al[i]? = some v ∧ (∀ x, v ≠ .float x) ∧ w = am_cv K v := by
  unfold am_lp
  rw [List.mem_filterMap]
  constructor
  · rintro ⟨j, hj, h⟩
    cases hv : al[j]? with
    | none => rw [hv] at h; cases h
    | some v =>
      rw [hv] at h
      cases v <;> first | (cases h; exact ⟨_, hv, fun x => (by intro q; cases q), rfl⟩) | cases h
  · rintro ⟨v, hv, hf, rfl⟩
    refine ⟨i, List.mem_range.mpr (List.getElem?_eq_some_iff.mp hv).1, ?_⟩
    rw [hv]
    cases v <;> first | rfl | exact absurd rfl (hf _)
theorem am_lr.at {K : am_K} {al : List Value} {nL : Nat} {ls : Array Slot} (h : am_lr K al nL ls) {i : Nat} {v : Value} (hv : al[i]? = some v) (hf : ∀ x, v ≠ .float x) : ls[i]? = some (.val (am_cv K v)) :=
  h.2.1.2.2 (i, am_cv K v) (am_lp_in.mpr ⟨v, hv, hf, rfl⟩)
/-- behind a store -/
theorem am_lr.set {K : am_K} {al : List Value} {nL : Nat} {ls ls' : Array Slot} {i : Nat} {v : Value} (h : am_lr K al nL ls) (h' : lv_has ls' nL ((i, am_cv K v) :: (am_lp K al).filter (fun q => !(q.1 == i) && !(q.1 + 1 == i && q.2.category == 2)))) (hv : (am_cv K v).category = 1) : am_lr K (al.set i v) nL ls' := by
  have key : ∀ (j : Nat) (w : Value), (j, w) ∈ am_lp K (al.set i v) → (j, w) = (i, am_cv K v) ∨ ((j, w) ∈ am_lp K al ∧ j ≠ i) := by
    intro j w hq
    obtain ⟨u, hu, hf, rfl⟩ := am_lp_in.mp hq
    by_cases e : j = i
    · subst e
      have hl : j < al.length := by
        have := (List.getElem?_eq_some_iff.mp hu).1
        simpa using this
      rw [List.getElem?_set_self hl] at hu
      cases hu
      exact Or.inl rfl
    · rw [List.getElem?_set_ne (Ne.symm e)] at hu
      exact Or.inr ⟨am_lp_in.mpr ⟨u, hu, hf, rfl⟩, e⟩
  refine ⟨by rw [List.length_set]; exact h.1, ⟨h'.1, h'.2.1, fun q hq => ?_⟩, fun q hq => ?_⟩
  · rcases key q.1 q.2 hq with e | ⟨hm, e⟩
    · apply h'.2.2
      rw [show q = (i, am_cv K v) from e]
      exact List.mem_cons_self
    · apply h'.2.2
      refine List.mem_cons_of_mem _ (List.mem_filter.mpr ⟨hm, ?_⟩)
      have h1 := h.2.2 q hm
      simp [e, h1]
  · rcases key q.1 q.2 hq with e | ⟨hm, -⟩
    · rw [show q = (i, am_cv K v) from e]
      exact hv
    · exact h.2.2 q hm
