theorem am_s_iconst {M : am_M} {kc ks c : Nat} {Q : Option Value → am_H → Prop} {ini : Bool} {pc len x : Nat} {v : Int32} {al as : List Value} {h : am_H} (hc : c < 18) (hoc : M.1.cls = am_cR c) (hini : ini = true → M.1.name = "<init>") {n : Int} (hd : decode M.2.1 pc = .ok (.iconst n, len)) (hx : am_okx c ini (.iconst n) len x v = true) {k : List Value → List Value → am_H → Prop} (hk : ∀ al' as' h', k al' as' h' → am_EI M kc ks (am_nx (pc, .iconst n, len, x, v)) al' as' h' Q) (hs : am_stp (pc, .iconst n, len, x, v) al as h k) : am_EI M kc ks pc al as h Q := by
  simp only [am_okx, Bool.and_eq_true, decide_eq_true_eq] at hx
  obtain ⟨rfl, hx⟩ := hx
  exact am_iconst hd hx (hk _ _ _ hs)
theorem am_s_bipush {M : am_M} {kc ks c : Nat} {Q : Option Value → am_H → Prop} {ini : Bool} {pc len x : Nat} {v : Int32} {al as : List Value} {h : am_H} (hc : c < 18) (hoc : M.1.cls = am_cR c) (hini : ini = true → M.1.name = "<init>") {n : Int} (hd : decode M.2.1 pc = .ok (.bipush n, len)) (hx : am_okx c ini (.bipush n) len x v = true) {k : List Value → List Value → am_H → Prop} (hk : ∀ al' as' h', k al' as' h' → am_EI M kc ks (am_nx (pc, .bipush n, len, x, v)) al' as' h' Q) (hs : am_stp (pc, .bipush n, len, x, v) al as h k) : am_EI M kc ks pc al as h Q := by
  simp only [am_okx, Bool.and_eq_true, decide_eq_true_eq] at hx
  obtain ⟨rfl, hx⟩ := hx
  exact am_bipush hd hx (hk _ _ _ hs)
theorem am_s_sipush {M : am_M} {kc ks c : Nat} {Q : Option Value → am_H → Prop} {ini : Bool} {pc len x : Nat} {v : Int32} {al as : List Value} {h : am_H} (hc : c < 18) (hoc : M.1.cls = am_cR c) (hini : ini = true → M.1.name = "<init>") {n : Int} (hd : decode M.2.1 pc = .ok (.sipush n, len)) (hx : am_okx c ini (.sipush n) len x v = true) {k : List Value → List Value → am_H → Prop} (hk : ∀ al' as' h', k al' as' h' → am_EI M kc ks (am_nx (pc, .sipush n, len, x, v)) al' as' h' Q) (hs : am_stp (pc, .sipush n, len, x, v) al as h k) : am_EI M kc ks pc al as h Q := by
  simp only [am_okx, Bool.and_eq_true, decide_eq_true_eq] at hx
  obtain ⟨rfl, hx⟩ := hx
  exact am_sipush hd hx (hk _ _ _ hs)
theorem am_s_ldc {M : am_M} {kc ks c : Nat} {Q : Option Value → am_H → Prop} {ini : Bool} {pc len x : Nat} {v : Int32} {al as : List Value} {h : am_H} (hc : c < 18) (hoc : M.1.cls = am_cR c) (hini : ini = true → M.1.name = "<init>") {n : Nat} (hd : decode M.2.1 pc = .ok (.ldc n, len)) (hx : am_okx c ini (.ldc n) len x v = true) {k : List Value → List Value → am_H → Prop} (hk : ∀ al' as' h', k al' as' h' → am_EI M kc ks (am_nx (pc, .ldc n, len, x, v)) al' as' h' Q) (hs : am_stp (pc, .ldc n, len, x, v) al as h k) : am_EI M kc ks pc al as h Q := by
  simp only [am_okx, Bool.and_eq_true, decide_eq_true_eq] at hx
  obtain ⟨rfl, hx⟩ := hx
  by_cases e : x = 0
  · subst e
    rw [if_pos rfl] at hx
    exact am_ldc hd (by rw [hoc]; exact am_il_use hc hx) (hk _ _ _ hs)
  · rw [if_neg e] at hx
    have hs2 : if x = 0 then k al (.int v :: as) h else k al (.retAddr (x - 1) :: as) h := hs
    rw [if_neg e] at hs2
    cases hq : am_SL[x - 1]? with
    | none => rw [hq] at hx; cases hx
    | some q =>
      rw [hq] at hx
      simp only [Bool.and_eq_true, decide_eq_true_eq] at hx
      obtain ⟨q1, q2, q3, q4⟩ := q
      obtain ⟨h1, h2⟩ := hx
      dsimp only at h1 h2
      subst h2
      rw [h1, ← hoc] at hq
      exact am_ldcS hd hq (hk _ _ _ hs2)
theorem am_s_ldc_w {M : am_M} {kc ks c : Nat} {Q : Option Value → am_H → Prop} {ini : Bool} {pc len x : Nat} {v : Int32} {al as : List Value} {h : am_H} (hc : c < 18) (hoc : M.1.cls = am_cR c) (hini : ini = true → M.1.name = "<init>") {n : Nat} (hd : decode M.2.1 pc = .ok (.ldc_w n, len)) (hx : am_okx c ini (.ldc_w n) len x v = true) {k : List Value → List Value → am_H → Prop} (hk : ∀ al' as' h', k al' as' h' → am_EI M kc ks (am_nx (pc, .ldc_w n, len, x, v)) al' as' h' Q) (hs : am_stp (pc, .ldc_w n, len, x, v) al as h k) : am_EI M kc ks pc al as h Q := by
  simp only [am_okx, Bool.and_eq_true, decide_eq_true_eq] at hx
  obtain ⟨rfl, hx⟩ := hx
  exact am_ldcw hd (by rw [hoc]; exact am_il_use hc hx) (hk _ _ _ hs)
theorem am_s_aconst_null {M : am_M} {kc ks c : Nat} {Q : Option Value → am_H → Prop} {ini : Bool} {pc len x : Nat} {v : Int32} {al as : List Value} {h : am_H} (hc : c < 18) (hoc : M.1.cls = am_cR c) (hini : ini = true → M.1.name = "<init>") (hd : decode M.2.1 pc = .ok (.aconst_null, len)) (hx : am_okx c ini (.aconst_null) len x v = true) {k : List Value → List Value → am_H → Prop} (hk : ∀ al' as' h', k al' as' h' → am_EI M kc ks (am_nx (pc, .aconst_null, len, x, v)) al' as' h' Q) (hs : am_stp (pc, .aconst_null, len, x, v) al as h k) : am_EI M kc ks pc al as h Q := by
  obtain rfl : len = 1 := of_decide_eq_true hx
  exact am_null hd (hk _ _ _ hs)
theorem am_s_iload_n {M : am_M} {kc ks c : Nat} {Q : Option Value → am_H → Prop} {ini : Bool} {pc len x : Nat} {v : Int32} {al as : List Value} {h : am_H} (hc : c < 18) (hoc : M.1.cls = am_cR c) (hini : ini = true → M.1.name = "<init>") {n : Fin 4} (hd : decode M.2.1 pc = .ok (.iload_n n, len)) (hx : am_okx c ini (.iload_n n) len x v = true) {k : List Value → List Value → am_H → Prop} (hk : ∀ al' as' h', k al' as' h' → am_EI M kc ks (am_nx (pc, .iload_n n, len, x, v)) al' as' h' Q) (hs : am_stp (pc, .iload_n n, len, x, v) al as h k) : am_EI M kc ks pc al as h Q := by
  obtain rfl : len = 1 := of_decide_eq_true hx
  simp only [am_stp] at hs
  cases hw : al[n.val]? with
  | none => rw [hw] at hs; exact hs.elim
  | some w =>
    rw [hw] at hs
    cases w <;> first | exact hs.elim | exact am_iload_n hd hw (hk _ _ _ hs)
theorem am_s_iload {M : am_M} {kc ks c : Nat} {Q : Option Value → am_H → Prop} {ini : Bool} {pc len x : Nat} {v : Int32} {al as : List Value} {h : am_H} (hc : c < 18) (hoc : M.1.cls = am_cR c) (hini : ini = true → M.1.name = "<init>") {n : Nat} (hd : decode M.2.1 pc = .ok (.iload n, len)) (hx : am_okx c ini (.iload n) len x v = true) {k : List Value → List Value → am_H → Prop} (hk : ∀ al' as' h', k al' as' h' → am_EI M kc ks (am_nx (pc, .iload n, len, x, v)) al' as' h' Q) (hs : am_stp (pc, .iload n, len, x, v) al as h k) : am_EI M kc ks pc al as h Q := by
  obtain rfl : len = 2 := of_decide_eq_true hx
  simp only [am_stp] at hs
  cases hw : al[n]? with
  | none => rw [hw] at hs; exact hs.elim
  | some w =>
    rw [hw] at hs
    cases w <;> first | exact hs.elim | exact am_iload hd hw (hk _ _ _ hs)
theorem am_s_aload_n {M : am_M} {kc ks c : Nat} {Q : Option Value → am_H → Prop} {ini : Bool} {pc len x : Nat} {v : Int32} {al as : List Value} {h : am_H} (hc : c < 18) (hoc : M.1.cls = am_cR c) (hini : ini = true → M.1.name = "<init>") {n : Fin 4} (hd : decode M.2.1 pc = .ok (.aload_n n, len)) (hx : am_okx c ini (.aload_n n) len x v = true) {k : List Value → List Value → am_H → Prop} (hk : ∀ al' as' h', k al' as' h' → am_EI M kc ks (am_nx (pc, .aload_n n, len, x, v)) al' as' h' Q) (hs : am_stp (pc, .aload_n n, len, x, v) al as h k) : am_EI M kc ks pc al as h Q := by
  obtain rfl : len = 1 := of_decide_eq_true hx
  simp only [am_stp] at hs
  cases hw : al[n.val]? with
  | none => rw [hw] at hs; exact hs.elim
  | some w =>
    rw [hw] at hs
    cases w <;> first | exact hs.elim | exact am_aload_n hd hw (hk _ _ _ hs) | exact am_aload_nN hd hw (hk _ _ _ hs) | exact am_aload_nC hd hw hs.1 (hk _ _ _ hs.2)
theorem am_s_aload {M : am_M} {kc ks c : Nat} {Q : Option Value → am_H → Prop} {ini : Bool} {pc len x : Nat} {v : Int32} {al as : List Value} {h : am_H} (hc : c < 18) (hoc : M.1.cls = am_cR c) (hini : ini = true → M.1.name = "<init>") {n : Nat} (hd : decode M.2.1 pc = .ok (.aload n, len)) (hx : am_okx c ini (.aload n) len x v = true) {k : List Value → List Value → am_H → Prop} (hk : ∀ al' as' h', k al' as' h' → am_EI M kc ks (am_nx (pc, .aload n, len, x, v)) al' as' h' Q) (hs : am_stp (pc, .aload n, len, x, v) al as h k) : am_EI M kc ks pc al as h Q := by
  obtain rfl : len = 2 := of_decide_eq_true hx
  simp only [am_stp] at hs
  cases hw : al[n]? with
  | none => rw [hw] at hs; exact hs.elim
  | some w =>
    rw [hw] at hs
    cases w <;> first | exact hs.elim | exact am_aload hd hw (hk _ _ _ hs) | exact am_aloadN hd hw (hk _ _ _ hs)
theorem am_s_istore_n {M : am_M} {kc ks c : Nat} {Q : Option Value → am_H → Prop} {ini : Bool} {pc len x : Nat} {v : Int32} {al as : List Value} {h : am_H} (hc : c < 18) (hoc : M.1.cls = am_cR c) (hini : ini = true → M.1.name = "<init>") {n : Fin 4} (hd : decode M.2.1 pc = .ok (.istore_n n, len)) (hx : am_okx c ini (.istore_n n) len x v = true) {k : List Value → List Value → am_H → Prop} (hk : ∀ al' as' h', k al' as' h' → am_EI M kc ks (am_nx (pc, .istore_n n, len, x, v)) al' as' h' Q) (hs : am_stp (pc, .istore_n n, len, x, v) al as h k) : am_EI M kc ks pc al as h Q := by
  obtain rfl : len = 1 := of_decide_eq_true hx
  rcases as with _ | ⟨w0, as⟩
  · exact hs.elim
  cases w0 <;> try exact hs.elim
  simp only [am_stp] at hs
  split at hs
  · rename_i q
    exact am_istore_n hd q (hk _ _ _ hs)
  · exact hs.elim
theorem am_s_istore {M : am_M} {kc ks c : Nat} {Q : Option Value → am_H → Prop} {ini : Bool} {pc len x : Nat} {v : Int32} {al as : List Value} {h : am_H} (hc : c < 18) (hoc : M.1.cls = am_cR c) (hini : ini = true → M.1.name = "<init>") {n : Nat} (hd : decode M.2.1 pc = .ok (.istore n, len)) (hx : am_okx c ini (.istore n) len x v = true) {k : List Value → List Value → am_H → Prop} (hk : ∀ al' as' h', k al' as' h' → am_EI M kc ks (am_nx (pc, .istore n, len, x, v)) al' as' h' Q) (hs : am_stp (pc, .istore n, len, x, v) al as h k) : am_EI M kc ks pc al as h Q := by
  obtain rfl : len = 2 := of_decide_eq_true hx
  rcases as with _ | ⟨w0, as⟩
  · exact hs.elim
  cases w0 <;> try exact hs.elim
  simp only [am_stp] at hs
  split at hs
  · rename_i q
    exact am_istore hd q (hk _ _ _ hs)
  · exact hs.elim
theorem am_s_astore_n {M : am_M} {kc ks c : Nat} {Q : Option Value → am_H → Prop} {ini : Bool} {pc len x : Nat} {v : Int32} {al as : List Value} {h : am_H} (hc : c < 18) (hoc : M.1.cls = am_cR c) (hini : ini = true → M.1.name = "<init>") {n : Fin 4} (hd : decode M.2.1 pc = .ok (.astore_n n, len)) (hx : am_okx c ini (.astore_n n) len x v = true) {k : List Value → List Value → am_H → Prop} (hk : ∀ al' as' h', k al' as' h' → am_EI M kc ks (am_nx (pc, .astore_n n, len, x, v)) al' as' h' Q) (hs : am_stp (pc, .astore_n n, len, x, v) al as h k) : am_EI M kc ks pc al as h Q := by
  obtain rfl : len = 1 := of_decide_eq_true hx
  rcases as with _ | ⟨w0, as⟩
  · exact hs.elim
  cases w0 <;> try exact hs.elim
  all_goals
    simp only [am_stp] at hs
    split at hs
    · rename_i q
      first | exact am_astore_n hd q (hk _ _ _ hs) | exact am_astore_nN hd q (hk _ _ _ hs)
    · exact hs.elim
theorem am_s_astore {M : am_M} {kc ks c : Nat} {Q : Option Value → am_H → Prop} {ini : Bool} {pc len x : Nat} {v : Int32} {al as : List Value} {h : am_H} (hc : c < 18) (hoc : M.1.cls = am_cR c) (hini : ini = true → M.1.name = "<init>") {n : Nat} (hd : decode M.2.1 pc = .ok (.astore n, len)) (hx : am_okx c ini (.astore n) len x v = true) {k : List Value → List Value → am_H → Prop} (hk : ∀ al' as' h', k al' as' h' → am_EI M kc ks (am_nx (pc, .astore n, len, x, v)) al' as' h' Q) (hs : am_stp (pc, .astore n, len, x, v) al as h k) : am_EI M kc ks pc al as h Q := by
  obtain rfl : len = 2 := of_decide_eq_true hx
  rcases as with _ | ⟨w0, as⟩
  · exact hs.elim
  cases w0 <;> try exact hs.elim
  all_goals
    simp only [am_stp] at hs
    split at hs
    · rename_i q
      first | exact am_astore hd q (hk _ _ _ hs) | exact am_astoreN hd q (hk _ _ _ hs)
    · exact hs.elim
theorem am_s_iinc {M : am_M} {kc ks c : Nat} {Q : Option Value → am_H → Prop} {ini : Bool} {pc len x : Nat} {v : Int32} {al as : List Value} {h : am_H} (hc : c < 18) (hoc : M.1.cls = am_cR c) (hini : ini = true → M.1.name = "<init>") {n : Nat} {z : Int} (hd : decode M.2.1 pc = .ok (.iinc n z, len)) (hx : am_okx c ini (.iinc n z) len x v = true) {k : List Value → List Value → am_H → Prop} (hk : ∀ al' as' h', k al' as' h' → am_EI M kc ks (am_nx (pc, .iinc n z, len, x, v)) al' as' h' Q) (hs : am_stp (pc, .iinc n z, len, x, v) al as h k) : am_EI M kc ks pc al as h Q := by
  simp only [am_okx, Bool.and_eq_true, decide_eq_true_eq] at hx
  obtain ⟨rfl, hx⟩ := hx
  simp only [am_stp] at hs
  cases hw : al[n]? with
  | none => rw [hw] at hs; exact hs.elim
  | some w =>
    rw [hw] at hs
    cases w <;> first | exact hs.elim | exact am_iinc hd hw hx (hk _ _ _ hs)
theorem am_s_iadd {M : am_M} {kc ks c : Nat} {Q : Option Value → am_H → Prop} {ini : Bool} {pc len x : Nat} {v : Int32} {al as : List Value} {h : am_H} (hc : c < 18) (hoc : M.1.cls = am_cR c) (hini : ini = true → M.1.name = "<init>") (hd : decode M.2.1 pc = .ok (.iadd, len)) (hx : am_okx c ini (.iadd) len x v = true) {k : List Value → List Value → am_H → Prop} (hk : ∀ al' as' h', k al' as' h' → am_EI M kc ks (am_nx (pc, .iadd, len, x, v)) al' as' h' Q) (hs : am_stp (pc, .iadd, len, x, v) al as h k) : am_EI M kc ks pc al as h Q := by
  obtain rfl : len = 1 := of_decide_eq_true hx
  rcases as with _ | ⟨w0, as⟩
  · exact hs.elim
  cases w0 <;> try exact hs.elim
  rcases as with _ | ⟨w1, as⟩
  · exact hs.elim
  cases w1 <;> try exact hs.elim
  exact am_iadd hd (hk _ _ _ hs)
theorem am_s_isub {M : am_M} {kc ks c : Nat} {Q : Option Value → am_H → Prop} {ini : Bool} {pc len x : Nat} {v : Int32} {al as : List Value} {h : am_H} (hc : c < 18) (hoc : M.1.cls = am_cR c) (hini : ini = true → M.1.name = "<init>") (hd : decode M.2.1 pc = .ok (.isub, len)) (hx : am_okx c ini (.isub) len x v = true) {k : List Value → List Value → am_H → Prop} (hk : ∀ al' as' h', k al' as' h' → am_EI M kc ks (am_nx (pc, .isub, len, x, v)) al' as' h' Q) (hs : am_stp (pc, .isub, len, x, v) al as h k) : am_EI M kc ks pc al as h Q := by
  obtain rfl : len = 1 := of_decide_eq_true hx
  rcases as with _ | ⟨w0, as⟩
  · exact hs.elim
  cases w0 <;> try exact hs.elim
  rcases as with _ | ⟨w1, as⟩
  · exact hs.elim
  cases w1 <;> try exact hs.elim
  exact am_isub hd (hk _ _ _ hs)
theorem am_s_imul {M : am_M} {kc ks c : Nat} {Q : Option Value → am_H → Prop} {ini : Bool} {pc len x : Nat} {v : Int32} {al as : List Value} {h : am_H} (hc : c < 18) (hoc : M.1.cls = am_cR c) (hini : ini = true → M.1.name = "<init>") (hd : decode M.2.1 pc = .ok (.imul, len)) (hx : am_okx c ini (.imul) len x v = true) {k : List Value → List Value → am_H → Prop} (hk : ∀ al' as' h', k al' as' h' → am_EI M kc ks (am_nx (pc, .imul, len, x, v)) al' as' h' Q) (hs : am_stp (pc, .imul, len, x, v) al as h k) : am_EI M kc ks pc al as h Q := by
  obtain rfl : len = 1 := of_decide_eq_true hx
  rcases as with _ | ⟨w0, as⟩
  · exact hs.elim
  cases w0 <;> try exact hs.elim
  rcases as with _ | ⟨w1, as⟩
  · exact hs.elim
  cases w1 <;> try exact hs.elim
  exact am_imul hd (hk _ _ _ hs)
theorem am_s_iand {M : am_M} {kc ks c : Nat} {Q : Option Value → am_H → Prop} {ini : Bool} {pc len x : Nat} {v : Int32} {al as : List Value} {h : am_H} (hc : c < 18) (hoc : M.1.cls = am_cR c) (hini : ini = true → M.1.name = "<init>") (hd : decode M.2.1 pc = .ok (.iand, len)) (hx : am_okx c ini (.iand) len x v = true) {k : List Value → List Value → am_H → Prop} (hk : ∀ al' as' h', k al' as' h' → am_EI M kc ks (am_nx (pc, .iand, len, x, v)) al' as' h' Q) (hs : am_stp (pc, .iand, len, x, v) al as h k) : am_EI M kc ks pc al as h Q := by
  obtain rfl : len = 1 := of_decide_eq_true hx
  rcases as with _ | ⟨w0, as⟩
  · exact hs.elim
  cases w0 <;> try exact hs.elim
  rcases as with _ | ⟨w1, as⟩
  · exact hs.elim
  cases w1 <;> try exact hs.elim
  exact am_iand hd (hk _ _ _ hs)
theorem am_s_ixor {M : am_M} {kc ks c : Nat} {Q : Option Value → am_H → Prop} {ini : Bool} {pc len x : Nat} {v : Int32} {al as : List Value} {h : am_H} (hc : c < 18) (hoc : M.1.cls = am_cR c) (hini : ini = true → M.1.name = "<init>") (hd : decode M.2.1 pc = .ok (.ixor, len)) (hx : am_okx c ini (.ixor) len x v = true) {k : List Value → List Value → am_H → Prop} (hk : ∀ al' as' h', k al' as' h' → am_EI M kc ks (am_nx (pc, .ixor, len, x, v)) al' as' h' Q) (hs : am_stp (pc, .ixor, len, x, v) al as h k) : am_EI M kc ks pc al as h Q := by
  obtain rfl : len = 1 := of_decide_eq_true hx
  rcases as with _ | ⟨w0, as⟩
  · exact hs.elim
  cases w0 <;> try exact hs.elim
  rcases as with _ | ⟨w1, as⟩
  · exact hs.elim
  cases w1 <;> try exact hs.elim
  exact am_ixor hd (hk _ _ _ hs)
theorem am_s_ishr {M : am_M} {kc ks c : Nat} {Q : Option Value → am_H → Prop} {ini : Bool} {pc len x : Nat} {v : Int32} {al as : List Value} {h : am_H} (hc : c < 18) (hoc : M.1.cls = am_cR c) (hini : ini = true → M.1.name = "<init>") (hd : decode M.2.1 pc = .ok (.ishr, len)) (hx : am_okx c ini (.ishr) len x v = true) {k : List Value → List Value → am_H → Prop} (hk : ∀ al' as' h', k al' as' h' → am_EI M kc ks (am_nx (pc, .ishr, len, x, v)) al' as' h' Q) (hs : am_stp (pc, .ishr, len, x, v) al as h k) : am_EI M kc ks pc al as h Q := by
  obtain rfl : len = 1 := of_decide_eq_true hx
  rcases as with _ | ⟨w0, as⟩
  · exact hs.elim
  cases w0 <;> try exact hs.elim
  rcases as with _ | ⟨w1, as⟩
  · exact hs.elim
  cases w1 <;> try exact hs.elim
  exact am_ishr hd (hk _ _ _ hs)
theorem am_s_iushr {M : am_M} {kc ks c : Nat} {Q : Option Value → am_H → Prop} {ini : Bool} {pc len x : Nat} {v : Int32} {al as : List Value} {h : am_H} (hc : c < 18) (hoc : M.1.cls = am_cR c) (hini : ini = true → M.1.name = "<init>") (hd : decode M.2.1 pc = .ok (.iushr, len)) (hx : am_okx c ini (.iushr) len x v = true) {k : List Value → List Value → am_H → Prop} (hk : ∀ al' as' h', k al' as' h' → am_EI M kc ks (am_nx (pc, .iushr, len, x, v)) al' as' h' Q) (hs : am_stp (pc, .iushr, len, x, v) al as h k) : am_EI M kc ks pc al as h Q := by
  obtain rfl : len = 1 := of_decide_eq_true hx
  rcases as with _ | ⟨w0, as⟩
  · exact hs.elim
  cases w0 <;> try exact hs.elim
  rcases as with _ | ⟨w1, as⟩
  · exact hs.elim
  cases w1 <;> try exact hs.elim
  exact am_iushr hd (hk _ _ _ hs)
theorem am_s_idiv {M : am_M} {kc ks c : Nat} {Q : Option Value → am_H → Prop} {ini : Bool} {pc len x : Nat} {v : Int32} {al as : List Value} {h : am_H} (hc : c < 18) (hoc : M.1.cls = am_cR c) (hini : ini = true → M.1.name = "<init>") (hd : decode M.2.1 pc = .ok (.idiv, len)) (hx : am_okx c ini (.idiv) len x v = true) {k : List Value → List Value → am_H → Prop} (hk : ∀ al' as' h', k al' as' h' → am_EI M kc ks (am_nx (pc, .idiv, len, x, v)) al' as' h' Q) (hs : am_stp (pc, .idiv, len, x, v) al as h k) : am_EI M kc ks pc al as h Q := by
  obtain rfl : len = 1 := of_decide_eq_true hx
  rcases as with _ | ⟨w0, as⟩
  · exact hs.elim
  cases w0 <;> try exact hs.elim
  rcases as with _ | ⟨w1, as⟩
  · exact hs.elim
  cases w1 <;> try exact hs.elim
  exact am_idiv hd hs.1 (hk _ _ _ hs.2)
theorem am_s_irem {M : am_M} {kc ks c : Nat} {Q : Option Value → am_H → Prop} {ini : Bool} {pc len x : Nat} {v : Int32} {al as : List Value} {h : am_H} (hc : c < 18) (hoc : M.1.cls = am_cR c) (hini : ini = true → M.1.name = "<init>") (hd : decode M.2.1 pc = .ok (.irem, len)) (hx : am_okx c ini (.irem) len x v = true) {k : List Value → List Value → am_H → Prop} (hk : ∀ al' as' h', k al' as' h' → am_EI M kc ks (am_nx (pc, .irem, len, x, v)) al' as' h' Q) (hs : am_stp (pc, .irem, len, x, v) al as h k) : am_EI M kc ks pc al as h Q := by
  obtain rfl : len = 1 := of_decide_eq_true hx
  rcases as with _ | ⟨w0, as⟩
  · exact hs.elim
  cases w0 <;> try exact hs.elim
  rcases as with _ | ⟨w1, as⟩
  · exact hs.elim
  cases w1 <;> try exact hs.elim
  exact am_irem hd hs.1 (hk _ _ _ hs.2)
theorem am_s_ineg {M : am_M} {kc ks c : Nat} {Q : Option Value → am_H → Prop} {ini : Bool} {pc len x : Nat} {v : Int32} {al as : List Value} {h : am_H} (hc : c < 18) (hoc : M.1.cls = am_cR c) (hini : ini = true → M.1.name = "<init>") (hd : decode M.2.1 pc = .ok (.ineg, len)) (hx : am_okx c ini (.ineg) len x v = true) {k : List Value → List Value → am_H → Prop} (hk : ∀ al' as' h', k al' as' h' → am_EI M kc ks (am_nx (pc, .ineg, len, x, v)) al' as' h' Q) (hs : am_stp (pc, .ineg, len, x, v) al as h k) : am_EI M kc ks pc al as h Q := by
  obtain rfl : len = 1 := of_decide_eq_true hx
  rcases as with _ | ⟨w0, as⟩
  · exact hs.elim
  cases w0 <;> try exact hs.elim
  exact am_ineg hd (hk _ _ _ hs)
theorem am_s_i2b {M : am_M} {kc ks c : Nat} {Q : Option Value → am_H → Prop} {ini : Bool} {pc len x : Nat} {v : Int32} {al as : List Value} {h : am_H} (hc : c < 18) (hoc : M.1.cls = am_cR c) (hini : ini = true → M.1.name = "<init>") (hd : decode M.2.1 pc = .ok (.i2b, len)) (hx : am_okx c ini (.i2b) len x v = true) {k : List Value → List Value → am_H → Prop} (hk : ∀ al' as' h', k al' as' h' → am_EI M kc ks (am_nx (pc, .i2b, len, x, v)) al' as' h' Q) (hs : am_stp (pc, .i2b, len, x, v) al as h k) : am_EI M kc ks pc al as h Q := by
  obtain rfl : len = 1 := of_decide_eq_true hx
  rcases as with _ | ⟨w0, as⟩
  · exact hs.elim
  cases w0 <;> try exact hs.elim
  exact am_i2b hd (hk _ _ _ hs)
theorem am_s_i2c {M : am_M} {kc ks c : Nat} {Q : Option Value → am_H → Prop} {ini : Bool} {pc len x : Nat} {v : Int32} {al as : List Value} {h : am_H} (hc : c < 18) (hoc : M.1.cls = am_cR c) (hini : ini = true → M.1.name = "<init>") (hd : decode M.2.1 pc = .ok (.i2c, len)) (hx : am_okx c ini (.i2c) len x v = true) {k : List Value → List Value → am_H → Prop} (hk : ∀ al' as' h', k al' as' h' → am_EI M kc ks (am_nx (pc, .i2c, len, x, v)) al' as' h' Q) (hs : am_stp (pc, .i2c, len, x, v) al as h k) : am_EI M kc ks pc al as h Q := by
  obtain rfl : len = 1 := of_decide_eq_true hx
  rcases as with _ | ⟨w0, as⟩
  · exact hs.elim
  cases w0 <;> try exact hs.elim
  exact am_i2c hd (hk _ _ _ hs)
theorem am_s_pop {M : am_M} {kc ks c : Nat} {Q : Option Value → am_H → Prop} {ini : Bool} {pc len x : Nat} {v : Int32} {al as : List Value} {h : am_H} (hc : c < 18) (hoc : M.1.cls = am_cR c) (hini : ini = true → M.1.name = "<init>") (hd : decode M.2.1 pc = .ok (.pop, len)) (hx : am_okx c ini (.pop) len x v = true) {k : List Value → List Value → am_H → Prop} (hk : ∀ al' as' h', k al' as' h' → am_EI M kc ks (am_nx (pc, .pop, len, x, v)) al' as' h' Q) (hs : am_stp (pc, .pop, len, x, v) al as h k) : am_EI M kc ks pc al as h Q := by
  obtain rfl : len = 1 := of_decide_eq_true hx
  rcases as with _ | ⟨w0, as⟩
  · exact hs.elim
  cases w0 <;> try exact hs.elim
  exact am_pop hd (hk _ _ _ hs)
theorem am_s_dup {M : am_M} {kc ks c : Nat} {Q : Option Value → am_H → Prop} {ini : Bool} {pc len x : Nat} {v : Int32} {al as : List Value} {h : am_H} (hc : c < 18) (hoc : M.1.cls = am_cR c) (hini : ini = true → M.1.name = "<init>") (hd : decode M.2.1 pc = .ok (.dup, len)) (hx : am_okx c ini (.dup) len x v = true) {k : List Value → List Value → am_H → Prop} (hk : ∀ al' as' h', k al' as' h' → am_EI M kc ks (am_nx (pc, .dup, len, x, v)) al' as' h' Q) (hs : am_stp (pc, .dup, len, x, v) al as h k) : am_EI M kc ks pc al as h Q := by
  obtain rfl : len = 1 := of_decide_eq_true hx
  rcases as with _ | ⟨w0, as⟩
  · exact hs.elim
  cases w0 <;> try exact hs.elim
  · exact am_dup hd (Or.inl ⟨_, rfl⟩) (hk _ _ _ hs)
  · exact am_dup hd (Or.inr ⟨_, rfl⟩) (hk _ _ _ hs)
theorem am_s_getfield {M : am_M} {kc ks c : Nat} {Q : Option Value → am_H → Prop} {ini : Bool} {pc len x : Nat} {v : Int32} {al as : List Value} {h : am_H} (hc : c < 18) (hoc : M.1.cls = am_cR c) (hini : ini = true → M.1.name = "<init>") {n : Nat} (hd : decode M.2.1 pc = .ok (.getfield n, len)) (hx : am_okx c ini (.getfield n) len x v = true) {k : List Value → List Value → am_H → Prop} (hk : ∀ al' as' h', k al' as' h' → am_EI M kc ks (am_nx (pc, .getfield n, len, x, v)) al' as' h' Q) (hs : am_stp (pc, .getfield n, len, x, v) al as h k) : am_EI M kc ks pc al as h Q := by
  simp only [am_okx, Bool.and_eq_true, decide_eq_true_eq] at hx
  obtain ⟨rfl, hx⟩ := hx
  rcases as with _ | ⟨w0, as⟩
  · exact hs.elim
  cases w0 <;> try exact hs.elim
  · simp only [am_stp] at hs
    have e0 : x < 100000 := by
      rcases Nat.lt_or_ge x 100000 with q | q
      · exact q
      · rw [if_neg (by omega)] at hs
        exact hs.elim
    rw [if_pos e0] at hs
    obtain ⟨ht, hs⟩ := hs
    rw [if_neg (by omega), if_neg (by omega)] at hx
    obtain ⟨hw, hf⟩ := am_fl_use hc hx
    rw [← hoc] at hw
    simp only [am_flt, Bool.and_eq_true, decide_eq_true_eq] at hf
    obtain ⟨⟨h1, h2⟩, h3⟩ := hf
    by_cases e3 : x % 4 = 1
    · rw [if_pos e3] at h3 hs
      by_cases e4 : v = 0
      · rw [if_pos e4] at hs
        obtain ⟨b, hb, hs⟩ := hs
        refine am_getP hd hw h1 h2 h3 ht ?_
        rw [hb]
        exact hk _ _ _ hs
      · rw [if_neg e4] at hs
        exact am_getP hd hw h1 h2 h3 ht (hk _ _ _ hs)
    · rw [if_neg e3] at h3 hs
      refine am_getI hd hw h1 h2 ?_ ht (hk _ _ _ hs)
      by_cases e5 : x % 4 = 2
      · rw [if_pos e5] at h3
        rw [of_decide_eq_true h3]; rfl
      · rw [if_neg e5] at h3
        rw [of_decide_eq_true h3]; rfl
  · obtain ⟨hj, hs⟩ := hs
    dsimp only at hs
    by_cases e1 : x = 100001
    · subst e1
      simp only [if_pos, Bool.and_eq_true, decide_eq_true_eq] at hx
      obtain ⟨rfl, rfl⟩ := hx
      exact am_getV_C hd (by rw [hoc]; exact am_gsV) hj (hk _ _ _ hs)
    · rw [if_neg e1] at hx hs
      by_cases e2 : x = 100002
      · subst e2
        simp only [if_pos, Bool.and_eq_true, decide_eq_true_eq] at hx
        obtain ⟨rfl, rfl⟩ := hx
        exact am_getC_C hd (by rw [hoc]; exact am_gsC) hj (hk _ _ _ hs)
      · rw [if_neg e2] at hs
        exact hs.elim
theorem am_s_putfield {M : am_M} {kc ks c : Nat} {Q : Option Value → am_H → Prop} {ini : Bool} {pc len x : Nat} {v : Int32} {al as : List Value} {h : am_H} (hc : c < 18) (hoc : M.1.cls = am_cR c) (hini : ini = true → M.1.name = "<init>") {n : Nat} (hd : decode M.2.1 pc = .ok (.putfield n, len)) (hx : am_okx c ini (.putfield n) len x v = true) {k : List Value → List Value → am_H → Prop} (hk : ∀ al' as' h', k al' as' h' → am_EI M kc ks (am_nx (pc, .putfield n, len, x, v)) al' as' h' Q) (hs : am_stp (pc, .putfield n, len, x, v) al as h k) : am_EI M kc ks pc al as h Q := by
  simp only [am_okx, Bool.and_eq_true, decide_eq_true_eq, Bool.or_eq_true] at hx
  obtain ⟨⟨rfl, hx⟩, hfin⟩ := hx
  obtain ⟨hw, hf⟩ := am_fl_use hc hx
  rw [← hoc] at hw
  simp only [am_flt, Bool.and_eq_true, decide_eq_true_eq] at hf
  obtain ⟨⟨h1, h2⟩, h3⟩ := hf
  have hfin2 : (am_cT (am_xc x) (am_xs x)).2.2.2 = false ∨ ((am_cT (am_xc x) (am_xs x)).2.2.2 = true ∧ M.1.name = "<init>" ∧ (am_cT (am_xc x) (am_xs x)).1 = M.1.cls) := by
    rcases hfin with q | ⟨⟨q1, q2⟩, q3⟩
    · exact Or.inl q
    · exact Or.inr ⟨q2, hini q1, by rw [hoc]; exact q3⟩
  rcases as with _ | ⟨w0, as⟩
  · exact hs.elim
  cases w0 <;> try exact hs.elim
  · rcases as with _ | ⟨w1, as⟩
    · exact hs.elim
    cases w1 <;> try exact hs.elim
    obtain ⟨ht, hs⟩ := hs
    dsimp only at ht hs
    by_cases e3 : x % 4 = 1
    · rw [if_pos e3] at hs
      exact hs.elim
    · rw [if_neg e3] at h3 hs
      by_cases e5 : x % 4 = 2
      · rw [if_pos e5] at h3 hs
        exact am_putI hd hw h1 h2 hfin2 (Or.inr ⟨of_decide_eq_true h3, hs.1⟩) ht (hk _ _ _ hs.2)
      · rw [if_neg e5] at h3 hs
        exact am_putI hd hw h1 h2 hfin2 (Or.inl (of_decide_eq_true h3)) ht (hk _ _ _ hs)
  · rcases as with _ | ⟨w1, as⟩
    · exact hs.elim
    cases w1 <;> try exact hs.elim
    obtain ⟨ht, hs⟩ := hs
    dsimp only at ht hs
    by_cases e3 : x % 4 = 1
    · rw [if_pos e3] at h3 hs
      exact am_putP (v := none) hd hw h1 h2 hfin2 h3 ht (hk _ _ _ hs)
    · rw [if_neg e3] at hs
      exact hs.elim
  · rcases as with _ | ⟨w1, as⟩
    · exact hs.elim
    cases w1 <;> try exact hs.elim
    obtain ⟨ht, hs⟩ := hs
    dsimp only at ht hs
    by_cases e3 : x % 4 = 1
    · rw [if_pos e3] at h3 hs
      exact am_putP (v := some _) hd hw h1 h2 hfin2 h3 ht (hk _ _ _ hs)
    · rw [if_neg e3] at hs
      exact hs.elim
theorem am_s_getstatic {M : am_M} {kc ks c : Nat} {Q : Option Value → am_H → Prop} {ini : Bool} {pc len x : Nat} {v : Int32} {al as : List Value} {h : am_H} (hc : c < 18) (hoc : M.1.cls = am_cR c) (hini : ini = true → M.1.name = "<init>") {n : Nat} (hd : decode M.2.1 pc = .ok (.getstatic n, len)) (hx : am_okx c ini (.getstatic n) len x v = true) {k : List Value → List Value → am_H → Prop} (hk : ∀ al' as' h', k al' as' h' → am_EI M kc ks (am_nx (pc, .getstatic n, len, x, v)) al' as' h' Q) (hs : am_stp (pc, .getstatic n, len, x, v) al as h k) : am_EI M kc ks pc al as h Q := by
  simp only [am_okx, Bool.and_eq_true, decide_eq_true_eq, Bool.or_eq_true] at hx
  obtain ⟨rfl, hx⟩ := hx
  rcases hx with ((⟨⟨rfl, rfl⟩, rfl⟩ | ⟨⟨rfl, rfl⟩, rfl⟩) | ⟨⟨rfl, rfl⟩, rfl⟩) | ⟨⟨rfl, rfl⟩, rfl⟩
  · exact am_gets1 hd (by rw [hoc]; exact am_gs1) (hk _ _ _ hs)
  · exact am_getsF hd (by rw [hoc]; exact am_gs2) (hk _ _ _ hs)
  · exact am_getsO hd (by rw [hoc]; exact am_gs3) (hk _ _ _ hs)
  · exact am_getsN hd (by rw [hoc]; exact am_gs4) (hk _ _ _ hs)
theorem am_s_iaload {M : am_M} {kc ks c : Nat} {Q : Option Value → am_H → Prop} {ini : Bool} {pc len x : Nat} {v : Int32} {al as : List Value} {h : am_H} (hc : c < 18) (hoc : M.1.cls = am_cR c) (hini : ini = true → M.1.name = "<init>") (hd : decode M.2.1 pc = .ok (.iaload, len)) (hx : am_okx c ini (.iaload) len x v = true) {k : List Value → List Value → am_H → Prop} (hk : ∀ al' as' h', k al' as' h' → am_EI M kc ks (am_nx (pc, .iaload, len, x, v)) al' as' h' Q) (hs : am_stp (pc, .iaload, len, x, v) al as h k) : am_EI M kc ks pc al as h Q := by
  obtain rfl : len = 1 := of_decide_eq_true hx
  rcases as with _ | ⟨w0, as⟩
  · exact hs.elim
  cases w0 <;> try exact hs.elim
  rcases as with _ | ⟨w1, as⟩
  · exact hs.elim
  cases w1 <;> try exact hs.elim
  · obtain ⟨h1, h2, hs⟩ := hs
    exact am_iald hd (Prod.ext h1 rfl) h2 (hk _ _ _ hs)
  · obtain ⟨h1, h2, hs⟩ := hs
    exact am_iald_C hd h1 h2 (hk _ _ _ hs)
theorem am_s_baload {M : am_M} {kc ks c : Nat} {Q : Option Value → am_H → Prop} {ini : Bool} {pc len x : Nat} {v : Int32} {al as : List Value} {h : am_H} (hc : c < 18) (hoc : M.1.cls = am_cR c) (hini : ini = true → M.1.name = "<init>") (hd : decode M.2.1 pc = .ok (.baload, len)) (hx : am_okx c ini (.baload) len x v = true) {k : List Value → List Value → am_H → Prop} (hk : ∀ al' as' h', k al' as' h' → am_EI M kc ks (am_nx (pc, .baload, len, x, v)) al' as' h' Q) (hs : am_stp (pc, .baload, len, x, v) al as h k) : am_EI M kc ks pc al as h Q := by
  obtain rfl : len = 1 := of_decide_eq_true hx
  rcases as with _ | ⟨w0, as⟩
  · exact hs.elim
  cases w0 <;> try exact hs.elim
  rcases as with _ | ⟨w1, as⟩
  · exact hs.elim
  cases w1 <;> try exact hs.elim
  · obtain ⟨h1, h0, h2, hs⟩ := hs
    dsimp only at h1 h0
    rcases h0 with rfl | rfl
    · exact am_zald hd (Prod.ext h1 rfl) h2 (hk _ _ _ hs)
    · exact am_bald hd (Prod.ext h1 rfl) h2 (hk _ _ _ hs)
  · rename_i i j
    obtain ⟨h1, h2, hs⟩ := hs
    obtain ⟨k, rfl⟩ : ∃ k, j = 100 + k := ⟨j - 100, by omega⟩
    exact am_bald_C hd (by omega) h2 (hk _ _ _ hs)
theorem am_s_caload {M : am_M} {kc ks c : Nat} {Q : Option Value → am_H → Prop} {ini : Bool} {pc len x : Nat} {v : Int32} {al as : List Value} {h : am_H} (hc : c < 18) (hoc : M.1.cls = am_cR c) (hini : ini = true → M.1.name = "<init>") (hd : decode M.2.1 pc = .ok (.caload, len)) (hx : am_okx c ini (.caload) len x v = true) {k : List Value → List Value → am_H → Prop} (hk : ∀ al' as' h', k al' as' h' → am_EI M kc ks (am_nx (pc, .caload, len, x, v)) al' as' h' Q) (hs : am_stp (pc, .caload, len, x, v) al as h k) : am_EI M kc ks pc al as h Q := by
  obtain rfl : len = 1 := of_decide_eq_true hx
  rcases as with _ | ⟨w0, as⟩
  · exact hs.elim
  cases w0 <;> try exact hs.elim
  rcases as with _ | ⟨w1, as⟩
  · exact hs.elim
  cases w1 <;> try exact hs.elim
  obtain ⟨h1, h2, hs⟩ := hs
  exact am_cald hd (Prod.ext h1 rfl) h2 (hk _ _ _ hs)
theorem am_s_aaload {M : am_M} {kc ks c : Nat} {Q : Option Value → am_H → Prop} {ini : Bool} {pc len x : Nat} {v : Int32} {al as : List Value} {h : am_H} (hc : c < 18) (hoc : M.1.cls = am_cR c) (hini : ini = true → M.1.name = "<init>") (hd : decode M.2.1 pc = .ok (.aaload, len)) (hx : am_okx c ini (.aaload) len x v = true) {k : List Value → List Value → am_H → Prop} (hk : ∀ al' as' h', k al' as' h' → am_EI M kc ks (am_nx (pc, .aaload, len, x, v)) al' as' h' Q) (hs : am_stp (pc, .aaload, len, x, v) al as h k) : am_EI M kc ks pc al as h Q := by
  obtain rfl : len = 1 := of_decide_eq_true hx
  rcases as with _ | ⟨w0, as⟩
  · exact hs.elim
  cases w0 <;> try exact hs.elim
  rcases as with _ | ⟨w1, as⟩
  · exact hs.elim
  cases w1 <;> try exact hs.elim
  obtain ⟨h1, h0, h2, hs⟩ := hs
  dsimp only at h1 h0 hs
  by_cases e4 : v = 0
  · rw [if_pos e4] at hs
    obtain ⟨b, hb, hs⟩ := hs
    refine am_aald hd (Prod.ext h1 rfl) h0.1 h0.2 h2 ?_
    rw [hb]
    exact hk _ _ _ hs
  · rw [if_neg e4] at hs
    exact am_aald hd (Prod.ext h1 rfl) h0.1 h0.2 h2 (hk _ _ _ hs)
theorem am_s_iastore {M : am_M} {kc ks c : Nat} {Q : Option Value → am_H → Prop} {ini : Bool} {pc len x : Nat} {v : Int32} {al as : List Value} {h : am_H} (hc : c < 18) (hoc : M.1.cls = am_cR c) (hini : ini = true → M.1.name = "<init>") (hd : decode M.2.1 pc = .ok (.iastore, len)) (hx : am_okx c ini (.iastore) len x v = true) {k : List Value → List Value → am_H → Prop} (hk : ∀ al' as' h', k al' as' h' → am_EI M kc ks (am_nx (pc, .iastore, len, x, v)) al' as' h' Q) (hs : am_stp (pc, .iastore, len, x, v) al as h k) : am_EI M kc ks pc al as h Q := by
  obtain rfl : len = 1 := of_decide_eq_true hx
  rcases as with _ | ⟨w0, as⟩
  · exact hs.elim
  cases w0 <;> try exact hs.elim
  rcases as with _ | ⟨w1, as⟩
  · exact hs.elim
  cases w1 <;> try exact hs.elim
  rcases as with _ | ⟨w2, as⟩
  · exact hs.elim
  cases w2 <;> try exact hs.elim
  obtain ⟨h1, h2, hs⟩ := hs
  exact am_iast hd (Prod.ext h1 rfl) h2 (hk _ _ _ hs)
theorem am_s_bastore {M : am_M} {kc ks c : Nat} {Q : Option Value → am_H → Prop} {ini : Bool} {pc len x : Nat} {v : Int32} {al as : List Value} {h : am_H} (hc : c < 18) (hoc : M.1.cls = am_cR c) (hini : ini = true → M.1.name = "<init>") (hd : decode M.2.1 pc = .ok (.bastore, len)) (hx : am_okx c ini (.bastore) len x v = true) {k : List Value → List Value → am_H → Prop} (hk : ∀ al' as' h', k al' as' h' → am_EI M kc ks (am_nx (pc, .bastore, len, x, v)) al' as' h' Q) (hs : am_stp (pc, .bastore, len, x, v) al as h k) : am_EI M kc ks pc al as h Q := by
  obtain rfl : len = 1 := of_decide_eq_true hx
  rcases as with _ | ⟨w0, as⟩
  · exact hs.elim
  cases w0 <;> try exact hs.elim
  rcases as with _ | ⟨w1, as⟩
  · exact hs.elim
  cases w1 <;> try exact hs.elim
  rcases as with _ | ⟨w2, as⟩
  · exact hs.elim
  cases w2 <;> try exact hs.elim
  obtain ⟨h1, h2, hs⟩ := hs
  dsimp only at h1 hs
  by_cases e1 : x = 21
  · subst e1
    rw [if_pos rfl] at hs
    exact am_zast hd (Prod.ext h1 rfl) h2 (am_b01_nf hs.1).1 (hk _ _ _ hs.2)
  · rw [if_neg e1] at hs
    by_cases e2 : x = 22
    · subst e2
      rw [if_pos rfl] at hs
      exact am_bast hd (Prod.ext h1 rfl) h2 hs.1 (hk _ _ _ hs.2)
    · rw [if_neg e2] at hs
      exact hs.elim
theorem am_s_castore {M : am_M} {kc ks c : Nat} {Q : Option Value → am_H → Prop} {ini : Bool} {pc len x : Nat} {v : Int32} {al as : List Value} {h : am_H} (hc : c < 18) (hoc : M.1.cls = am_cR c) (hini : ini = true → M.1.name = "<init>") (hd : decode M.2.1 pc = .ok (.castore, len)) (hx : am_okx c ini (.castore) len x v = true) {k : List Value → List Value → am_H → Prop} (hk : ∀ al' as' h', k al' as' h' → am_EI M kc ks (am_nx (pc, .castore, len, x, v)) al' as' h' Q) (hs : am_stp (pc, .castore, len, x, v) al as h k) : am_EI M kc ks pc al as h Q := by
  obtain rfl : len = 1 := of_decide_eq_true hx
  rcases as with _ | ⟨w0, as⟩
  · exact hs.elim
  cases w0 <;> try exact hs.elim
  rcases as with _ | ⟨w1, as⟩
  · exact hs.elim
  cases w1 <;> try exact hs.elim
  rcases as with _ | ⟨w2, as⟩
  · exact hs.elim
  cases w2 <;> try exact hs.elim
  obtain ⟨h1, h2, h3, hs⟩ := hs
  exact am_cast hd (Prod.ext h1 rfl) h2 h3 (hk _ _ _ hs)
theorem am_s_aastore {M : am_M} {kc ks c : Nat} {Q : Option Value → am_H → Prop} {ini : Bool} {pc len x : Nat} {v : Int32} {al as : List Value} {h : am_H} (hc : c < 18) (hoc : M.1.cls = am_cR c) (hini : ini = true → M.1.name = "<init>") (hd : decode M.2.1 pc = .ok (.aastore, len)) (hx : am_okx c ini (.aastore) len x v = true) {k : List Value → List Value → am_H → Prop} (hk : ∀ al' as' h', k al' as' h' → am_EI M kc ks (am_nx (pc, .aastore, len, x, v)) al' as' h' Q) (hs : am_stp (pc, .aastore, len, x, v) al as h k) : am_EI M kc ks pc al as h Q := by
  obtain rfl : len = 1 := of_decide_eq_true hx
  rcases as with _ | ⟨w0, as⟩
  · exact hs.elim
  cases w0 <;> try exact hs.elim
  rcases as with _ | ⟨w1, as⟩
  · exact hs.elim
  cases w1 <;> try exact hs.elim
  rcases as with _ | ⟨w2, as⟩
  · exact hs.elim
  cases w2 <;> try exact hs.elim
  obtain ⟨h1, h2, h3, h4, hs⟩ := hs
  exact am_aast hd (Prod.ext h2 rfl) h1 h3 h4 (hk _ _ _ hs)
theorem am_s_arraylength {M : am_M} {kc ks c : Nat} {Q : Option Value → am_H → Prop} {ini : Bool} {pc len x : Nat} {v : Int32} {al as : List Value} {h : am_H} (hc : c < 18) (hoc : M.1.cls = am_cR c) (hini : ini = true → M.1.name = "<init>") (hd : decode M.2.1 pc = .ok (.arraylength, len)) (hx : am_okx c ini (.arraylength) len x v = true) {k : List Value → List Value → am_H → Prop} (hk : ∀ al' as' h', k al' as' h' → am_EI M kc ks (am_nx (pc, .arraylength, len, x, v)) al' as' h' Q) (hs : am_stp (pc, .arraylength, len, x, v) al as h k) : am_EI M kc ks pc al as h Q := by
  obtain rfl : len = 1 := of_decide_eq_true hx
  rcases as with _ | ⟨w0, as⟩
  · exact hs.elim
  cases w0 <;> try exact hs.elim
  obtain ⟨h1, hs⟩ := hs
  exact am_alen_C hd h1 (hk _ _ _ hs)
theorem am_stp_ok {M : am_M} {kc ks c : Nat} {Q : Option Value → am_H → Prop} {ini : Bool} {e : am_E} {al as : List Value} {h : am_H} (hc : c < 18) (hoc : M.1.cls = am_cR c) (hini : ini = true → M.1.name = "<init>") (hok : am_ok c ini M.2.1 e = true) {k : List Value → List Value → am_H → Prop} (hk : ∀ al' as' h', k al' as' h' → am_EI M kc ks (am_nx e) al' as' h' Q) (hs : am_stp e al as h k) : am_EI M kc ks e.1 al as h Q := by
  obtain ⟨pc, i, len, x, v⟩ := e
  obtain ⟨h0, hg⟩ := (Bool.and_eq_true _ _).mp hok
  obtain ⟨h1, hx⟩ := (Bool.and_eq_true _ _).mp h0
  have hd : decode M.2.1 pc = .ok (i, len) := of_decide_eq_true h1
  have hx : am_okx c ini i len x v = true := hx
  cases i with
  | iconst => exact am_s_iconst hc hoc hini hd hx hk hs
  | bipush => exact am_s_bipush hc hoc hini hd hx hk hs
  | sipush => exact am_s_sipush hc hoc hini hd hx hk hs
  | ldc => exact am_s_ldc hc hoc hini hd hx hk hs
  | ldc_w => exact am_s_ldc_w hc hoc hini hd hx hk hs
  | aconst_null => exact am_s_aconst_null hc hoc hini hd hx hk hs
  | iload_n => exact am_s_iload_n hc hoc hini hd hx hk hs
  | iload => exact am_s_iload hc hoc hini hd hx hk hs
  | aload_n => exact am_s_aload_n hc hoc hini hd hx hk hs
  | aload => exact am_s_aload hc hoc hini hd hx hk hs
  | istore_n => exact am_s_istore_n hc hoc hini hd hx hk hs
  | istore => exact am_s_istore hc hoc hini hd hx hk hs
  | astore_n => exact am_s_astore_n hc hoc hini hd hx hk hs
  | astore => exact am_s_astore hc hoc hini hd hx hk hs
  | iinc => exact am_s_iinc hc hoc hini hd hx hk hs
  | iadd => exact am_s_iadd hc hoc hini hd hx hk hs
  | isub => exact am_s_isub hc hoc hini hd hx hk hs
  | imul => exact am_s_imul hc hoc hini hd hx hk hs
  | iand => exact am_s_iand hc hoc hini hd hx hk hs
  | ixor => exact am_s_ixor hc hoc hini hd hx hk hs
  | ishr => exact am_s_ishr hc hoc hini hd hx hk hs
  | iushr => exact am_s_iushr hc hoc hini hd hx hk hs
  | idiv => exact am_s_idiv hc hoc hini hd hx hk hs
  | irem => exact am_s_irem hc hoc hini hd hx hk hs
  | ineg => exact am_s_ineg hc hoc hini hd hx hk hs
  | i2b => exact am_s_i2b hc hoc hini hd hx hk hs
  | i2c => exact am_s_i2c hc hoc hini hd hx hk hs
  | pop => exact am_s_pop hc hoc hini hd hx hk hs
  | dup => exact am_s_dup hc hoc hini hd hx hk hs
  | getfield => exact am_s_getfield hc hoc hini hd hx hk hs
  | putfield => exact am_s_putfield hc hoc hini hd hx hk hs
  | getstatic => exact am_s_getstatic hc hoc hini hd hx hk hs
  | iaload => exact am_s_iaload hc hoc hini hd hx hk hs
  | baload => exact am_s_baload hc hoc hini hd hx hk hs
  | caload => exact am_s_caload hc hoc hini hd hx hk hs
  | aaload => exact am_s_aaload hc hoc hini hd hx hk hs
  | iastore => exact am_s_iastore hc hoc hini hd hx hk hs
  | bastore => exact am_s_bastore hc hoc hini hd hx hk hs
  | castore => exact am_s_castore hc hoc hini hd hx hk hs
  | aastore => exact am_s_aastore hc hoc hini hd hx hk hs
  | arraylength => exact am_s_arraylength hc hoc hini hd hx hk hs
  | goto off =>
    simp only [am_okx, Bool.and_eq_true, decide_eq_true_eq] at hx
    obtain ⟨rfl, -⟩ := hx
    have hg : 0 ≤ (pc : Int) + off := of_decide_eq_true hg
    exact am_goto hd (Int.toNat_of_nonneg hg).symm (hk _ _ _ hs)
  | _ => exact hs.elim
theorem am_blk_ok {M : am_M} {kc ks c : Nat} {Q : Option Value → am_H → Prop} {ini : Bool} (hc : c < 18) (hoc : M.1.cls = am_cR c) (hini : ini = true → M.1.name = "<init>") : ∀ (es : List am_E) (pc pc' : Nat) (al as : List Value) (h : am_H), es.all (am_ok c ini M.2.1) = true → am_ch pc es pc' = true → am_blk es al as h (fun al' as' h' => am_EI M kc ks pc' al' as' h' Q) → am_EI M kc ks pc al as h Q
  | [], pc, pc', al, as, h, _, hch, hb => by
    have e : pc = pc' := by simpa [am_ch] using hch
    subst e
    exact hb
  | e :: es, pc, pc', al, as, h, hok, hch, hb => by
    simp only [List.all_cons, Bool.and_eq_true] at hok
    simp only [am_ch, Bool.and_eq_true, beq_iff_eq] at hch
    obtain ⟨rfl, hch⟩ := hch
    exact am_stp_ok hc hoc hini hok.1 (fun al' as' h' hh => am_blk_ok hc hoc hini es (am_nx e) pc' al' as' h' hok.2 hch hh) hb
