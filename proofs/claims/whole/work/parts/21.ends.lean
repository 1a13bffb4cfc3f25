/-! typed ends of a call -/
theorem am_Ev.mono {M : am_M} {kc ks : Nat} {args : List Value} {h : am_H} {Q Q' : Option Value → am_H → Prop} (hQ : ∀ v h', Q v h' → Q' v h') (k : am_Ev M kc ks args h Q) : am_Ev M kc ks args h Q' := by
  intro l K p e ha hc hk s m args' below hf happ hP hX
  obtain ⟨t, o, h1, h2, h3, ⟨v, h', e1, e2, e3, e4⟩, h5⟩ := k l K p e ha hc hk s m args' below hf happ hP hX
  exact ⟨t, o, h1, h2, h3, ⟨v, h', e1, hQ v h' e2, e3, e4⟩, h5⟩
theorem am_EI.more {M : am_M} {kc ks pc : Nat} {al as : List Value} {h : am_H} {Q : Option Value → am_H → Prop} (i j : Nat) (k : am_EI M kc ks pc al as h Q) : am_EI M (kc + i) (ks + j) pc al as h Q := by
  intro K p l e R s m args below meth c H locs cells slots ls bc bs QF C hE hc hs hH hS hl
  exact k C hE (by omega) (by omega) hH hS hl
theorem am_EI.mono {M : am_M} {kc ks pc : Nat} {al as : List Value} {h : am_H} {Q Q' : Option Value → am_H → Prop} (hQ : ∀ v h', Q v h' → Q' v h') (k : am_EI M kc ks pc al as h Q) : am_EI M kc ks pc al as h Q' := by
  intro K p l e R s m args below meth c H locs cells slots ls bc bs QF C hE hc hs hH hS hl
  exact k C (fun v h' H locs cells slots pc ls hm hq => hE v h' H locs cells slots pc ls hm (hQ v h' hq)) hc hs hH hS hl
def am_qi (Q : Int32 → am_H → Prop) (v : Option Value) (h : am_H) : Prop := match v with
  | some (.int r) => Q r h
  | _ => False
def am_qw (Q : am_H → Prop) (v : Option Value) (h : am_H) : Prop := match v with
  | none => Q h
  | _ => False
def am_qr (Q : Option Nat → am_H → Prop) (v : Option Value) (h : am_H) : Prop := match v with
  | some (.ref b) => Q (some b) h
  | some .null => Q none h
  | _ => False
def am_qc (Q : Nat → am_H → Prop) (v : Option Value) (h : am_H) : Prop := match v with
  | some (.retAddr j) => Q j h
  | _ => False
/-- answers an int -/
def am_Ei (M : am_M) (kc ks : Nat) (args : List Value) (h : am_H) (Q : Int32 → am_H → Prop) : Prop := am_Ev M kc ks args h (am_qi Q)
/-- answers nothing -/
def am_Ew (M : am_M) (kc ks : Nat) (args : List Value) (h : am_H) (Q : am_H → Prop) : Prop := am_Ev M kc ks args h (am_qw Q)
/-- answers a cell, or null -/
def am_Er (M : am_M) (kc ks : Nat) (args : List Value) (h : am_H) (Q : Option Nat → am_H → Prop) : Prop := am_Ev M kc ks args h (am_qr Q)
/-- answers a constant -/
def am_Ec (M : am_M) (kc ks : Nat) (args : List Value) (h : am_H) (Q : Nat → am_H → Prop) : Prop := am_Ev M kc ks args h (am_qc Q)
theorem am_qi_cases {Q : Int32 → am_H → Prop} {v : Option Value} {h : am_H} (q : am_qi Q v h) : ∃ r, v = some (.int r) ∧ Q r h := by
  match v, q with
  | some (.int r), q => exact ⟨r, rfl, q⟩
theorem am_qw_cases {Q : am_H → Prop} {v : Option Value} {h : am_H} (q : am_qw Q v h) : v = none ∧ Q h := by
  match v, q with
  | none, q => exact ⟨rfl, q⟩
theorem am_qr_cases {Q : Option Nat → am_H → Prop} {v : Option Value} {h : am_H} (q : am_qr Q v h) : ∃ o, v = some (am_rv o) ∧ Q o h := by
  match v, q with
  | some (.ref b), q => exact ⟨some b, rfl, q⟩
  | some .null, q => exact ⟨none, rfl, q⟩
theorem am_qr_of {Q : Option Nat → am_H → Prop} {o : Option Nat} {h : am_H} (q : Q o h) : am_qr Q (some (am_rv o)) h := by
  cases o <;> exact q
theorem am_qc_cases {Q : Nat → am_H → Prop} {v : Option Value} {h : am_H} (q : am_qc Q v h) : ∃ r, v = some (.retAddr r) ∧ Q r h := by
  match v, q with
  | some (.retAddr r), q => exact ⟨r, rfl, q⟩
theorem am_Ei.mono {M : am_M} {kc ks : Nat} {args : List Value} {h : am_H} {Q Q' : Int32 → am_H → Prop} (k : am_Ei M kc ks args h Q) (hQ : ∀ v h', Q v h' → Q' v h') : am_Ei M kc ks args h Q' := am_Ev.mono (fun _ _ q => by obtain ⟨r, rfl, q⟩ := am_qi_cases q; exact hQ _ _ q) k
theorem am_Ew.mono {M : am_M} {kc ks : Nat} {args : List Value} {h : am_H} {Q Q' : am_H → Prop} (k : am_Ew M kc ks args h Q) (hQ : ∀ h', Q h' → Q' h') : am_Ew M kc ks args h Q' := am_Ev.mono (fun _ _ q => by obtain ⟨rfl, q⟩ := am_qw_cases q; exact hQ _ q) k
theorem am_Er.mono {M : am_M} {kc ks : Nat} {args : List Value} {h : am_H} {Q Q' : Option Nat → am_H → Prop} (k : am_Er M kc ks args h Q) (hQ : ∀ v h', Q v h' → Q' v h') : am_Er M kc ks args h Q' := am_Ev.mono (fun _ _ q => by obtain ⟨r, rfl, q2⟩ := am_qr_cases q; exact am_qr_of (hQ _ _ q2)) k
theorem am_Ec.mono {M : am_M} {kc ks : Nat} {args : List Value} {h : am_H} {Q Q' : Nat → am_H → Prop} (k : am_Ec M kc ks args h Q) (hQ : ∀ v h', Q v h' → Q' v h') : am_Ec M kc ks args h Q' := am_Ev.mono (fun _ _ q => by obtain ⟨r, rfl, q⟩ := am_qc_cases q; exact hQ _ _ q) k
theorem am_Ei.end {M : am_M} {kc ks pc : Nat} {al as : List Value} {h : am_H} {Q : Option Value → am_H → Prop} {M2 : am_M} {k2c k2s : Nat} {args : List Value} (k : am_Ei M2 k2c k2s args h (fun r h' => am_EI M kc ks pc al (.int r :: as) h' Q)) : am_Ev M2 k2c k2s args h (fun v h' => am_EI M kc ks pc al (v.toList ++ as) h' Q) := am_Ev.mono (fun _ _ q => by obtain ⟨r, rfl, q⟩ := am_qi_cases q; exact q) k
theorem am_Ew.end {M : am_M} {kc ks pc : Nat} {al as : List Value} {h : am_H} {Q : Option Value → am_H → Prop} {M2 : am_M} {k2c k2s : Nat} {args : List Value} (k : am_Ew M2 k2c k2s args h (fun h' => am_EI M kc ks pc al as h' Q)) : am_Ev M2 k2c k2s args h (fun v h' => am_EI M kc ks pc al (v.toList ++ as) h' Q) := am_Ev.mono (fun _ _ q => by obtain ⟨rfl, q⟩ := am_qw_cases q; exact q) k
theorem am_Er.end {M : am_M} {kc ks pc : Nat} {al as : List Value} {h : am_H} {Q : Option Value → am_H → Prop} {M2 : am_M} {k2c k2s : Nat} {args : List Value} (k : am_Er M2 k2c k2s args h (fun o h' => (o = none → am_EI M kc ks pc al (.null :: as) h' Q) ∧ ∀ b, o = some b → am_EI M kc ks pc al (.ref b :: as) h' Q)) : am_Ev M2 k2c k2s args h (fun v h' => am_EI M kc ks pc al (v.toList ++ as) h' Q) := am_Ev.mono (fun _ _ q => by
  obtain ⟨o, rfl, q⟩ := am_qr_cases q
  cases o with
  | none => exact q.1 rfl
  | some b => exact q.2 b rfl) k
theorem am_Ec.end {M : am_M} {kc ks pc : Nat} {al as : List Value} {h : am_H} {Q : Option Value → am_H → Prop} {M2 : am_M} {k2c k2s : Nat} {args : List Value} (k : am_Ec M2 k2c k2s args h (fun j h' => am_EI M kc ks pc al (.retAddr j :: as) h' Q)) : am_Ev M2 k2c k2s args h (fun v h' => am_EI M kc ks pc al (v.toList ++ as) h' Q) := am_Ev.mono (fun _ _ q => by obtain ⟨j, rfl, q⟩ := am_qc_cases q; exact q) k
/-- a call whose answer is returned at once, and the like: a reference that may be null is put on the stack as it is -/
theorem am_short_nil : am_short [] := fun K => by simp
theorem am_short_1 {v : Value} (hv : (∃ x, v = .int x) ∨ (∃ x, v = .ref x) ∨ v = .null) {as : List Value} (h : as.length ≤ 7) (ha : ∀ w ∈ as, (∃ x, w = .int x) ∨ (∃ x, w = .ref x) ∨ w = .null) : am_short (v :: as) := by
  intro K
  have hc : ∀ w : Value, ((∃ x, w = .int x) ∨ (∃ x, w = .ref x) ∨ w = .null) → (am_cv K w).category = 1 := by
    intro w hw
    rcases hw with ⟨x, rfl⟩ | ⟨x, rfl⟩ | rfl <;> rfl
  have hs : ∀ l : List Value, (∀ w ∈ l, (∃ x, w = .int x) ∨ (∃ x, w = .ref x) ∨ w = .null) → ((l.map (am_cv K)).map fun v => v.category).sum = l.length := by
    intro l
    induction l with
    | nil => intro _; rfl
    | cons w l ih =>
      intro hl
      rw [List.map_cons, List.map_cons, List.sum_cons, hc w (hl w List.mem_cons_self), ih (fun z hz => hl z (List.mem_cons_of_mem _ hz)), List.length_cons]
      omega
  rw [hs (v :: as) (fun w hw => (List.mem_cons.mp hw).elim (fun e => e ▸ hv) (ha w)), List.length_cons]
  omega
