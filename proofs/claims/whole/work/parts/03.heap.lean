/-! AN ABSTRACT HEAP: cells 0, 1, .. in the order of their making; a cell is an object of class 0 .. 12 (its fields) or a row (20 int, 21 boolean, 22 byte, 23 char; 30 + class: rows of objects; 50: rows of boolean rows) -/
abbrev am_H : Type := Nat × (Nat → Nat × Nat) × (Nat → Nat → Int32) × (Nat → Nat → Option Nat)
def am_sz (h : am_H) : Nat := h.1
def am_tg (h : am_H) (a : Nat) : Nat × Nat := h.2.1 a
def am_I (h : am_H) (a : Nat) : Nat → Int32 := h.2.2.1 a
def am_P (h : am_H) (a : Nat) : Nat → Option Nat := h.2.2.2 a
def am_si (h : am_H) (a k : Nat) (v : Int32) : am_H := (h.1, h.2.1, va_up h.2.2.1 a (va_up (h.2.2.1 a) k v), h.2.2.2)
def am_sp (h : am_H) (a k : Nat) (v : Option Nat) : am_H := (h.1, h.2.1, h.2.2.1, va_up h.2.2.2 a (va_up (h.2.2.2 a) k v))
def am_nw (h : am_H) (kd n : Nat) : am_H := (h.1 + 1, va_up h.2.1 h.1 (kd, n), va_up h.2.2.1 h.1 (fun _ => 0), va_up h.2.2.2 h.1 (fun _ => none))
def am_rv (r : Option Nat) : Value := match r with
  | some b => .ref b
  | none => .null
def am_b01 (y : Int32) : Prop := y = 0 ∨ y = 1
/-- names of the classes, tables of their fields -/
def am_cR (c : Nat) : String := match c with
  | 0 => RX0 | 1 => RX1 | 2 => RX2 | 3 => RX3 | 4 => RX4 | 5 => RX5 | 6 => RX6 | 7 => RX7 | 8 => RX8 | 9 => RX9 | 10 => RX10 | 11 => RX11 | 12 => RX12
  | 13 => "SillHoursLaw" | 14 => "java/lang/Math" | 15 => "java/lang/String" | 16 => "java/lang/StringLatin1" | _ => "jdk/internal/util/Preconditions"
def am_cT (c : Nat) : u_T := match c with
  | 0 => TX0 | 1 => TX1 | 2 => TX2 | 3 => TX3 | 4 => TX4 | 5 => TX5 | 6 => TX6 | 7 => TX7 | 8 => TX8 | 9 => TX9 | 10 => TX10 | 11 => TX11 | _ => TX12
def am_cN (c : Nat) : Nat := match c with
  | 0 => 2 | 1 => 7 | 2 => 5 | 3 => 7 | 4 => 7 | 5 => 5 | 6 => 3 | 7 => 5 | 8 => 4 | 9 => 4 | 10 => 4 | 11 => 18 | _ => 56
def am_fy (c : Nat) : Nat → FieldType := match c with
  | 0 => tyX0 | 1 => tyX1 | 2 => tyX2 | 3 => tyX3 | 4 => tyX4 | 5 => tyX5 | 6 => tyX6 | 7 => tyX7 | 8 => tyX8 | 9 => tyX9 | 10 => tyX10 | 11 => tyX11 | _ => tyX12
def am_ir (ty : FieldType) : Bool := match ty with
  | .object _ => true | .array _ => true | _ => false
/-- the words that every call may use -/
def am_tbl : List Cond := lw_tbl.filter goodWord
theorem am_cl_ok : ∀ c, c < 13 → vwCl[c]? = some (am_cR c, am_cT c, am_cN c) := by
  intro c hc
  match c, hc with
  | 0, _ => rfl | 1, _ => rfl | 2, _ => rfl | 3, _ => rfl | 4, _ => rfl | 5, _ => rfl | 6, _ => rfl | 7, _ => rfl | 8, _ => rfl | 9, _ => rfl | 10, _ => rfl | 11, _ => rfl | 12, _ => rfl
theorem am_cl_nm : ∀ c, c < 13 → ∀ a, a < am_cN c → ∀ b, b < am_cN c → a ≠ b → (am_cT c a).2.1 ≠ (am_cT c b).2.1 := by
  intro c hc
  match c, hc with
  | 0, _ => exact nmX0 | 1, _ => exact nmX1 | 2, _ => exact nmX2 | 3, _ => exact nmX3 | 4, _ => exact nmX4 | 5, _ => exact nmX5 | 6, _ => exact nmX6 | 7, _ => exact nmX7 | 8, _ => exact nmX8 | 9, _ => exact nmX9 | 10, _ => exact nmX10 | 11, _ => exact nmX11 | 12, _ => exact nmX12
theorem am_cl_ty : ∀ c, c < 13 → ∀ k, k < am_cN c → parseFieldDescriptor (am_cT c k).2.2.1 = some (am_fy c k) := by
  intro c hc
  match c, hc with
  | 0, _ => exact tyX0_ok | 1, _ => exact tyX1_ok | 2, _ => exact tyX2_ok | 3, _ => exact tyX3_ok | 4, _ => exact tyX4_ok | 5, _ => exact tyX5_ok | 6, _ => exact tyX6_ok | 7, _ => exact tyX7_ok | 8, _ => exact tyX8_ok | 9, _ => exact tyX9_ok | 10, _ => exact tyX10_ok | 11, _ => exact tyX11_ok | 12, _ => exact tyX12_ok
theorem am_cl_in : ∀ c, c < 13 → ∀ w ∈ u_ws (am_cR c) (am_cT c) (am_cN c), w ∈ lw_tbl := by
  intro c hc
  match c, hc with
  | 0, _ => exact inX0 | 1, _ => exact inX1 | 2, _ => exact inX2 | 3, _ => exact inX3 | 4, _ => exact inX4 | 5, _ => exact inX5 | 6, _ => exact inX6 | 7, _ => exact inX7 | 8, _ => exact inX8 | 9, _ => exact inX9 | 10, _ => exact inX10 | 11, _ => exact inX11 | 12, _ => exact inX12
theorem am_cl_good : ∀ c, c < 13 → (u_ws (am_cR c) (am_cT c) (am_cN c)).all goodWord = true := by decide +kernel
theorem am_cl_tb {c : Nat} (hc : c < 13) : ∀ w ∈ u_ws (am_cR c) (am_cT c) (am_cN c), w ∈ am_tbl := fun w h =>
  List.mem_filter.mpr ⟨am_cl_in c hc w h, List.all_eq_true.mp (am_cl_good c hc) w h⟩
theorem am_tbl_gd {w : Cond} (h : w ∈ am_tbl) : (w.onTables && w.keeps) = true ∨ ∃ ty, w = .arrayClass ty := good_of_word (List.mem_filter.mp h).2
/-- a word of the tables, by its place -/
theorem am_wd {w : Cond} (i : Nat) (h : lw_tbl[i]? = some w) (hg : goodWord w = true) : w ∈ am_tbl := List.mem_filter.mpr ⟨List.mem_of_getElem? h, hg⟩
/-! the abstract heap and the machine's -/
abbrev am_K : Type := Nat × va_G × (Nat → ClassId) × (Nat → Value)
def am_A (K : am_K) : Nat → Prop := fun q => K.1 ≤ q
def am_cv (K : am_K) (v : Value) : Value := match v with
  | .ref i => .ref (K.1 + i)
  | .retAddr k => K.2.2.2 k
  | w => w
def am_fv (K : am_K) (h : am_H) (i j : Nat) : Value := if am_ir (am_fy (am_tg h i).1 j) = true then va_rf ((am_P h i j).map (K.1 + ·)) else .int (am_I h i j)
def am_ce (K : am_K) (h : am_H) (i : Nat) : va_E :=
  if (am_tg h i).1 < 13 then .inr ((am_tg h i).1, (List.range (am_tg h i).2).map (am_fv K h i))
  else if (am_tg h i).1 < 30 then .inl (K.2.2.1 (am_tg h i).1, (am_tg h i).2, .inl (am_I h i))
  else .inl (K.2.2.1 (am_tg h i).1, (am_tg h i).2, .inr (.inr (.inr (.inr (fun j => (am_P h i j).map (K.1 + ·))))))
def am_ws (K : am_K) (h : am_H) : va_W := (List.range (am_sz h)).map (fun i => (K.1 + i, am_ce K h i))
def am_Hr (K : am_K) (h : am_H) (H : Heap) : Prop := H.size = K.1 + am_sz h ∧ va_P K.2.1 vwCl (am_ws K h) H ∧ ∀ a, am_sz h ≤ a → am_tg h a = (99, 0)
theorem am_ws_at {K : am_K} {h : am_H} {i : Nat} (hi : i < am_sz h) : (am_ws K h)[i]? = some (K.1 + i, am_ce K h i) := by
  simp [am_ws, hi]
theorem am_ws_D (K : am_K) (h : am_H) : va_D (am_A K) (am_ws K h) := by
  have key : ∀ (i : Nat) (p : Nat × va_E), (am_ws K h)[i]? = some p → p.1 = K.1 + i := by
    intro i p hp
    have hi : i < am_sz h := by
      have := (List.getElem?_eq_some_iff.mp hp).1
      simpa [am_ws] using this
    rw [am_ws_at hi] at hp
    cases hp
    rfl
  refine ⟨fun i j p q hp hq e => ?_, fun k q hk => ?_⟩
  · have h1 := key i p hp
    have h2 := key j q hq
    omega
  · have h1 := key k q hk
    show K.1 ≤ q.1
    omega
theorem am_live {K : am_K} {h : am_H} {H : Heap} (hH : am_Hr K h H) {a c n : Nat} (ht : am_tg h a = (c, n)) (hc : c ≠ 99) : a < am_sz h := by
  rcases Nat.lt_or_ge a (am_sz h) with q | q
  · exact q
  · have := hH.2.2 a q
    rw [this] at ht
    cases ht
    exact absurd rfl hc
theorem am_ce_obj {K : am_K} {h : am_H} {a c n : Nat} (ht : am_tg h a = (c, n)) (hc : c < 13) : am_ce K h a = .inr (c, (List.range n).map (am_fv K h a)) := by
  simp [am_ce, ht, hc]
theorem am_ce_int {K : am_K} {h : am_H} {a c n : Nat} (ht : am_tg h a = (c, n)) (h1 : 13 ≤ c) (h2 : c < 30) : am_ce K h a = .inl (K.2.2.1 c, n, .inl (am_I h a)) := by
  have h3 : ¬ c < 13 := by omega
  simp [am_ce, ht, h2, h3]
theorem am_ce_ref {K : am_K} {h : am_H} {a c n : Nat} (ht : am_tg h a = (c, n)) (h1 : 30 ≤ c) : am_ce K h a = .inl (K.2.2.1 c, n, .inr (.inr (.inr (.inr (fun j => (am_P h a j).map (K.1 + ·)))))) := by
  have h3 : ¬ c < 13 := by omega
  have h4 : ¬ c < 30 := by omega
  simp [am_ce, ht, h3, h4]
/-- one cell is changed -/
theorem am_ws_set {K : am_K} {h h' : am_H} {a : Nat} (hs : am_sz h' = am_sz h) (ht : ∀ i, am_tg h' i = am_tg h i) (hI : ∀ i, i ≠ a → am_I h' i = am_I h i) (hP : ∀ i, i ≠ a → am_P h' i = am_P h i) : am_ws K h' = (am_ws K h).set a (K.1 + a, am_ce K h' a) := by
  apply List.ext_getElem?
  intro i
  by_cases hi : i < am_sz h
  · have hi' : i < am_sz h' := by omega
    rw [am_ws_at hi']
    by_cases e : i = a
    · subst e
      rw [List.getElem?_set_self (by simpa [am_ws] using hi)]
    · rw [List.getElem?_set_ne (Ne.symm e), am_ws_at hi]
      have h1 : am_ce K h' i = am_ce K h i := by
        have h2 : am_fv K h' i = am_fv K h i := by
          funext j
          simp [am_fv, ht i, hI i e, hP i e]
        simp [am_ce, ht i, hI i e, hP i e, h2]
      rw [h1]
  · have h1 : (am_ws K h').length ≤ i := by simp [am_ws]; omega
    have h2 : ((am_ws K h).set a (K.1 + a, am_ce K h' a)).length ≤ i := by simp [am_ws]; omega
    rw [List.getElem?_eq_none h1, List.getElem?_eq_none h2]
theorem am_sz_si {h : am_H} {a k : Nat} {v : Int32} : am_sz (am_si h a k v) = am_sz h := rfl
theorem am_sz_sp {h : am_H} {a k : Nat} {v : Option Nat} : am_sz (am_sp h a k v) = am_sz h := rfl
theorem am_tg_si {h : am_H} {a k : Nat} {v : Int32} {b : Nat} : am_tg (am_si h a k v) b = am_tg h b := rfl
theorem am_tg_sp {h : am_H} {a k : Nat} {v : Option Nat} {b : Nat} : am_tg (am_sp h a k v) b = am_tg h b := rfl
theorem am_P_si {h : am_H} {a k : Nat} {v : Int32} {b : Nat} : am_P (am_si h a k v) b = am_P h b := rfl
theorem am_I_sp {h : am_H} {a k : Nat} {v : Option Nat} {b : Nat} : am_I (am_sp h a k v) b = am_I h b := rfl
theorem am_I_si {h : am_H} {a k : Nat} {v : Int32} {b : Nat} : am_I (am_si h a k v) b = if b = a then va_up (am_I h a) k v else am_I h b := rfl
theorem am_P_sp {h : am_H} {a k : Nat} {v : Option Nat} {b : Nat} : am_P (am_sp h a k v) b = if b = a then va_up (am_P h a) k v else am_P h b := rfl
theorem am_I_sis {h : am_H} {a k : Nat} {v : Int32} : am_I (am_si h a k v) a = va_up (am_I h a) k v := by rw [am_I_si, if_pos rfl]
theorem am_P_sps {h : am_H} {a k : Nat} {v : Option Nat} : am_P (am_sp h a k v) a = va_up (am_P h a) k v := by rw [am_P_sp, if_pos rfl]
theorem am_I_sin {h : am_H} {a k : Nat} {v : Int32} {b : Nat} (e : b ≠ a) : am_I (am_si h a k v) b = am_I h b := by rw [am_I_si, if_neg e]
theorem am_P_spn {h : am_H} {a k : Nat} {v : Option Nat} {b : Nat} (e : b ≠ a) : am_P (am_sp h a k v) b = am_P h b := by rw [am_P_sp, if_neg e]
theorem am_sz_nw {h : am_H} {kd n : Nat} : am_sz (am_nw h kd n) = am_sz h + 1 := rfl
theorem am_tg_nw {h : am_H} {kd n b : Nat} : am_tg (am_nw h kd n) b = if b = am_sz h then (kd, n) else am_tg h b := rfl
theorem am_I_nw {h : am_H} {kd n b : Nat} : am_I (am_nw h kd n) b = if b = am_sz h then (fun _ => 0) else am_I h b := rfl
theorem am_P_nw {h : am_H} {kd n b : Nat} : am_P (am_nw h kd n) b = if b = am_sz h then (fun _ => none) else am_P h b := rfl
theorem am_ws_nw {K : am_K} {h : am_H} {kd n : Nat} : am_ws K (am_nw h kd n) = am_ws K h ++ [(K.1 + am_sz h, am_ce K (am_nw h kd n) (am_sz h))] := by
  unfold am_ws
  rw [am_sz_nw, List.range_succ, List.map_append]
  congr 1
  apply List.map_congr_left
  intro i hi
  have hi' : i ≠ am_sz h := by have := List.mem_range.mp hi; omega
  have ht : am_tg (am_nw h kd n) i = am_tg h i := by rw [am_tg_nw, if_neg hi']
  have hI : am_I (am_nw h kd n) i = am_I h i := by rw [am_I_nw, if_neg hi']
  have hP : am_P (am_nw h kd n) i = am_P h i := by rw [am_P_nw, if_neg hi']
  have h2 : am_fv K (am_nw h kd n) i = am_fv K h i := by
    funext j
    simp [am_fv, ht, hI, hP]
  simp [am_ce, ht, hI, hP, h2]
