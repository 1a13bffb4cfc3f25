/-! what the Statement gives: the tables and the constants at the start -/
abbrev gv_F : List Cond := flatC (Jvm.Cond.and given_1 narrow_1)
/-- what is said of a text -/
def sq_w (q : String × Nat × String × List Int32) : List Cond := [.exactly (.string q.1 q.2.1) "java/lang/String", .eq (.field (.string q.1 q.2.1) "java/lang/String" "coder" "B") (.int 0), .arrayOf (.field (.string q.1 q.2.1) "java/lang/String" "value" "[B") .byte, .eq (.length (.field (.string q.1 q.2.1) "java/lang/String" "value" "[B")) (.int (Int32.ofNat q.2.2.2.length))] ++ (List.range q.2.2.2.length).map (fun j => .eq (.elem (.field (.string q.1 q.2.1) "java/lang/String" "value" "[B") (.int (Int32.ofNat j))) (.int (q.2.2.2.getD j 0)))
def sq_i : List (Nat × Nat) := [(27, 453), (33, 513), (39, 715), (46, 717), (54, 718), (62, 719), (72, 1039), (80, 1050), (88, 1051), (94, 1206), (101, 1207), (108, 1218), (116, 1219), (125, 1220), (134, 1221), (145, 1241), (151, 1470), (159, 1477), (167, 1478), (176, 1479), (186, 1480), (196, 1481), (208, 1693), (217, 1702), (226, 1703), (233, 1793), (241, 1794), (250, 1795), (259, 1796), (270, 1805)]
theorem sq_0 : (gv_F.drop 27).take (sq_w (am_SL.getD 0 ("", 0, "", []))).length = sq_w (am_SL.getD 0 ("", 0, "", [])) := by decide +kernel
theorem sw_0 : lw_tbl[453]? = some (.stringRef (am_SL.getD 0 ("", 0, "", [])).1 (am_SL.getD 0 ("", 0, "", [])).2.1 (am_SL.getD 0 ("", 0, "", [])).2.2.1) := by decide +kernel
theorem sq_1 : (gv_F.drop 33).take (sq_w (am_SL.getD 1 ("", 0, "", []))).length = sq_w (am_SL.getD 1 ("", 0, "", [])) := by decide +kernel
theorem sw_1 : lw_tbl[513]? = some (.stringRef (am_SL.getD 1 ("", 0, "", [])).1 (am_SL.getD 1 ("", 0, "", [])).2.1 (am_SL.getD 1 ("", 0, "", [])).2.2.1) := by decide +kernel
theorem sq_2 : (gv_F.drop 39).take (sq_w (am_SL.getD 2 ("", 0, "", []))).length = sq_w (am_SL.getD 2 ("", 0, "", [])) := by decide +kernel
theorem sw_2 : lw_tbl[715]? = some (.stringRef (am_SL.getD 2 ("", 0, "", [])).1 (am_SL.getD 2 ("", 0, "", [])).2.1 (am_SL.getD 2 ("", 0, "", [])).2.2.1) := by decide +kernel
theorem sq_3 : (gv_F.drop 46).take (sq_w (am_SL.getD 3 ("", 0, "", []))).length = sq_w (am_SL.getD 3 ("", 0, "", [])) := by decide +kernel
theorem sw_3 : lw_tbl[717]? = some (.stringRef (am_SL.getD 3 ("", 0, "", [])).1 (am_SL.getD 3 ("", 0, "", [])).2.1 (am_SL.getD 3 ("", 0, "", [])).2.2.1) := by decide +kernel
theorem sq_4 : (gv_F.drop 54).take (sq_w (am_SL.getD 4 ("", 0, "", []))).length = sq_w (am_SL.getD 4 ("", 0, "", [])) := by decide +kernel
theorem sw_4 : lw_tbl[718]? = some (.stringRef (am_SL.getD 4 ("", 0, "", [])).1 (am_SL.getD 4 ("", 0, "", [])).2.1 (am_SL.getD 4 ("", 0, "", [])).2.2.1) := by decide +kernel
theorem sq_5 : (gv_F.drop 62).take (sq_w (am_SL.getD 5 ("", 0, "", []))).length = sq_w (am_SL.getD 5 ("", 0, "", [])) := by decide +kernel
theorem sw_5 : lw_tbl[719]? = some (.stringRef (am_SL.getD 5 ("", 0, "", [])).1 (am_SL.getD 5 ("", 0, "", [])).2.1 (am_SL.getD 5 ("", 0, "", [])).2.2.1) := by decide +kernel
theorem sq_6 : (gv_F.drop 72).take (sq_w (am_SL.getD 6 ("", 0, "", []))).length = sq_w (am_SL.getD 6 ("", 0, "", [])) := by decide +kernel
theorem sw_6 : lw_tbl[1039]? = some (.stringRef (am_SL.getD 6 ("", 0, "", [])).1 (am_SL.getD 6 ("", 0, "", [])).2.1 (am_SL.getD 6 ("", 0, "", [])).2.2.1) := by decide +kernel
theorem sq_7 : (gv_F.drop 80).take (sq_w (am_SL.getD 7 ("", 0, "", []))).length = sq_w (am_SL.getD 7 ("", 0, "", [])) := by decide +kernel
theorem sw_7 : lw_tbl[1050]? = some (.stringRef (am_SL.getD 7 ("", 0, "", [])).1 (am_SL.getD 7 ("", 0, "", [])).2.1 (am_SL.getD 7 ("", 0, "", [])).2.2.1) := by decide +kernel
theorem sq_8 : (gv_F.drop 88).take (sq_w (am_SL.getD 8 ("", 0, "", []))).length = sq_w (am_SL.getD 8 ("", 0, "", [])) := by decide +kernel
theorem sw_8 : lw_tbl[1051]? = some (.stringRef (am_SL.getD 8 ("", 0, "", [])).1 (am_SL.getD 8 ("", 0, "", [])).2.1 (am_SL.getD 8 ("", 0, "", [])).2.2.1) := by decide +kernel
theorem sq_9 : (gv_F.drop 94).take (sq_w (am_SL.getD 9 ("", 0, "", []))).length = sq_w (am_SL.getD 9 ("", 0, "", [])) := by decide +kernel
theorem sw_9 : lw_tbl[1206]? = some (.stringRef (am_SL.getD 9 ("", 0, "", [])).1 (am_SL.getD 9 ("", 0, "", [])).2.1 (am_SL.getD 9 ("", 0, "", [])).2.2.1) := by decide +kernel
theorem sq_10 : (gv_F.drop 101).take (sq_w (am_SL.getD 10 ("", 0, "", []))).length = sq_w (am_SL.getD 10 ("", 0, "", [])) := by decide +kernel
theorem sw_10 : lw_tbl[1207]? = some (.stringRef (am_SL.getD 10 ("", 0, "", [])).1 (am_SL.getD 10 ("", 0, "", [])).2.1 (am_SL.getD 10 ("", 0, "", [])).2.2.1) := by decide +kernel
theorem sq_11 : (gv_F.drop 108).take (sq_w (am_SL.getD 11 ("", 0, "", []))).length = sq_w (am_SL.getD 11 ("", 0, "", [])) := by decide +kernel
theorem sw_11 : lw_tbl[1218]? = some (.stringRef (am_SL.getD 11 ("", 0, "", [])).1 (am_SL.getD 11 ("", 0, "", [])).2.1 (am_SL.getD 11 ("", 0, "", [])).2.2.1) := by decide +kernel
theorem sq_12 : (gv_F.drop 116).take (sq_w (am_SL.getD 12 ("", 0, "", []))).length = sq_w (am_SL.getD 12 ("", 0, "", [])) := by decide +kernel
theorem sw_12 : lw_tbl[1219]? = some (.stringRef (am_SL.getD 12 ("", 0, "", [])).1 (am_SL.getD 12 ("", 0, "", [])).2.1 (am_SL.getD 12 ("", 0, "", [])).2.2.1) := by decide +kernel
theorem sq_13 : (gv_F.drop 125).take (sq_w (am_SL.getD 13 ("", 0, "", []))).length = sq_w (am_SL.getD 13 ("", 0, "", [])) := by decide +kernel
theorem sw_13 : lw_tbl[1220]? = some (.stringRef (am_SL.getD 13 ("", 0, "", [])).1 (am_SL.getD 13 ("", 0, "", [])).2.1 (am_SL.getD 13 ("", 0, "", [])).2.2.1) := by decide +kernel
theorem sq_14 : (gv_F.drop 134).take (sq_w (am_SL.getD 14 ("", 0, "", []))).length = sq_w (am_SL.getD 14 ("", 0, "", [])) := by decide +kernel
theorem sw_14 : lw_tbl[1221]? = some (.stringRef (am_SL.getD 14 ("", 0, "", [])).1 (am_SL.getD 14 ("", 0, "", [])).2.1 (am_SL.getD 14 ("", 0, "", [])).2.2.1) := by decide +kernel
theorem sq_15 : (gv_F.drop 145).take (sq_w (am_SL.getD 15 ("", 0, "", []))).length = sq_w (am_SL.getD 15 ("", 0, "", [])) := by decide +kernel
theorem sw_15 : lw_tbl[1241]? = some (.stringRef (am_SL.getD 15 ("", 0, "", [])).1 (am_SL.getD 15 ("", 0, "", [])).2.1 (am_SL.getD 15 ("", 0, "", [])).2.2.1) := by decide +kernel
theorem sq_16 : (gv_F.drop 151).take (sq_w (am_SL.getD 16 ("", 0, "", []))).length = sq_w (am_SL.getD 16 ("", 0, "", [])) := by decide +kernel
theorem sw_16 : lw_tbl[1470]? = some (.stringRef (am_SL.getD 16 ("", 0, "", [])).1 (am_SL.getD 16 ("", 0, "", [])).2.1 (am_SL.getD 16 ("", 0, "", [])).2.2.1) := by decide +kernel
theorem sq_17 : (gv_F.drop 159).take (sq_w (am_SL.getD 17 ("", 0, "", []))).length = sq_w (am_SL.getD 17 ("", 0, "", [])) := by decide +kernel
theorem sw_17 : lw_tbl[1477]? = some (.stringRef (am_SL.getD 17 ("", 0, "", [])).1 (am_SL.getD 17 ("", 0, "", [])).2.1 (am_SL.getD 17 ("", 0, "", [])).2.2.1) := by decide +kernel
theorem sq_18 : (gv_F.drop 167).take (sq_w (am_SL.getD 18 ("", 0, "", []))).length = sq_w (am_SL.getD 18 ("", 0, "", [])) := by decide +kernel
theorem sw_18 : lw_tbl[1478]? = some (.stringRef (am_SL.getD 18 ("", 0, "", [])).1 (am_SL.getD 18 ("", 0, "", [])).2.1 (am_SL.getD 18 ("", 0, "", [])).2.2.1) := by decide +kernel
theorem sq_19 : (gv_F.drop 176).take (sq_w (am_SL.getD 19 ("", 0, "", []))).length = sq_w (am_SL.getD 19 ("", 0, "", [])) := by decide +kernel
theorem sw_19 : lw_tbl[1479]? = some (.stringRef (am_SL.getD 19 ("", 0, "", [])).1 (am_SL.getD 19 ("", 0, "", [])).2.1 (am_SL.getD 19 ("", 0, "", [])).2.2.1) := by decide +kernel
theorem sq_20 : (gv_F.drop 186).take (sq_w (am_SL.getD 20 ("", 0, "", []))).length = sq_w (am_SL.getD 20 ("", 0, "", [])) := by decide +kernel
theorem sw_20 : lw_tbl[1480]? = some (.stringRef (am_SL.getD 20 ("", 0, "", [])).1 (am_SL.getD 20 ("", 0, "", [])).2.1 (am_SL.getD 20 ("", 0, "", [])).2.2.1) := by decide +kernel
theorem sq_21 : (gv_F.drop 196).take (sq_w (am_SL.getD 21 ("", 0, "", []))).length = sq_w (am_SL.getD 21 ("", 0, "", [])) := by decide +kernel
theorem sw_21 : lw_tbl[1481]? = some (.stringRef (am_SL.getD 21 ("", 0, "", [])).1 (am_SL.getD 21 ("", 0, "", [])).2.1 (am_SL.getD 21 ("", 0, "", [])).2.2.1) := by decide +kernel
theorem sq_22 : (gv_F.drop 208).take (sq_w (am_SL.getD 22 ("", 0, "", []))).length = sq_w (am_SL.getD 22 ("", 0, "", [])) := by decide +kernel
theorem sw_22 : lw_tbl[1693]? = some (.stringRef (am_SL.getD 22 ("", 0, "", [])).1 (am_SL.getD 22 ("", 0, "", [])).2.1 (am_SL.getD 22 ("", 0, "", [])).2.2.1) := by decide +kernel
theorem sq_23 : (gv_F.drop 217).take (sq_w (am_SL.getD 23 ("", 0, "", []))).length = sq_w (am_SL.getD 23 ("", 0, "", [])) := by decide +kernel
theorem sw_23 : lw_tbl[1702]? = some (.stringRef (am_SL.getD 23 ("", 0, "", [])).1 (am_SL.getD 23 ("", 0, "", [])).2.1 (am_SL.getD 23 ("", 0, "", [])).2.2.1) := by decide +kernel
theorem sq_24 : (gv_F.drop 226).take (sq_w (am_SL.getD 24 ("", 0, "", []))).length = sq_w (am_SL.getD 24 ("", 0, "", [])) := by decide +kernel
theorem sw_24 : lw_tbl[1703]? = some (.stringRef (am_SL.getD 24 ("", 0, "", [])).1 (am_SL.getD 24 ("", 0, "", [])).2.1 (am_SL.getD 24 ("", 0, "", [])).2.2.1) := by decide +kernel
theorem sq_25 : (gv_F.drop 233).take (sq_w (am_SL.getD 25 ("", 0, "", []))).length = sq_w (am_SL.getD 25 ("", 0, "", [])) := by decide +kernel
theorem sw_25 : lw_tbl[1793]? = some (.stringRef (am_SL.getD 25 ("", 0, "", [])).1 (am_SL.getD 25 ("", 0, "", [])).2.1 (am_SL.getD 25 ("", 0, "", [])).2.2.1) := by decide +kernel
theorem sq_26 : (gv_F.drop 241).take (sq_w (am_SL.getD 26 ("", 0, "", []))).length = sq_w (am_SL.getD 26 ("", 0, "", [])) := by decide +kernel
theorem sw_26 : lw_tbl[1794]? = some (.stringRef (am_SL.getD 26 ("", 0, "", [])).1 (am_SL.getD 26 ("", 0, "", [])).2.1 (am_SL.getD 26 ("", 0, "", [])).2.2.1) := by decide +kernel
theorem sq_27 : (gv_F.drop 250).take (sq_w (am_SL.getD 27 ("", 0, "", []))).length = sq_w (am_SL.getD 27 ("", 0, "", [])) := by decide +kernel
theorem sw_27 : lw_tbl[1795]? = some (.stringRef (am_SL.getD 27 ("", 0, "", [])).1 (am_SL.getD 27 ("", 0, "", [])).2.1 (am_SL.getD 27 ("", 0, "", [])).2.2.1) := by decide +kernel
theorem sq_28 : (gv_F.drop 259).take (sq_w (am_SL.getD 28 ("", 0, "", []))).length = sq_w (am_SL.getD 28 ("", 0, "", [])) := by decide +kernel
theorem sw_28 : lw_tbl[1796]? = some (.stringRef (am_SL.getD 28 ("", 0, "", [])).1 (am_SL.getD 28 ("", 0, "", [])).2.1 (am_SL.getD 28 ("", 0, "", [])).2.2.1) := by decide +kernel
theorem sq_29 : (gv_F.drop 270).take (sq_w (am_SL.getD 29 ("", 0, "", []))).length = sq_w (am_SL.getD 29 ("", 0, "", [])) := by decide +kernel
theorem sw_29 : lw_tbl[1805]? = some (.stringRef (am_SL.getD 29 ("", 0, "", [])).1 (am_SL.getD 29 ("", 0, "", [])).2.1 (am_SL.getD 29 ("", 0, "", [])).2.2.1) := by decide +kernel
theorem sq_in {q : String × Nat × String × List Int32} {n : Nat} (h : (gv_F.drop n).take (sq_w q).length = sq_w q) : ∀ c ∈ sq_w q, c ∈ gv_F := fun c hc => by
  rw [← h] at hc
  exact List.mem_of_mem_drop (List.mem_of_mem_take hc)
theorem sq_all : ∀ (j : Nat) (q : String × Nat × String × List Int32), am_SL[j]? = some q → (∀ c ∈ sq_w q, c ∈ gv_F) ∧ Cond.stringRef q.1 q.2.1 q.2.2.1 ∈ lw_tbl := by
  intro j q hq
  have hj : j < 30 := by have := (List.getElem?_eq_some_iff.mp hq).1; rw [am_SL_len] at this; exact this
  have e : q = am_SL.getD j ("", 0, "", []) := by rw [List.getD_eq_getElem?_getD, hq]; rfl
  rw [e]
  clear e hq
  match j, hj with
  | 0, _ => exact ⟨sq_in sq_0, List.mem_of_getElem? sw_0⟩
  | 1, _ => exact ⟨sq_in sq_1, List.mem_of_getElem? sw_1⟩
  | 2, _ => exact ⟨sq_in sq_2, List.mem_of_getElem? sw_2⟩
  | 3, _ => exact ⟨sq_in sq_3, List.mem_of_getElem? sw_3⟩
  | 4, _ => exact ⟨sq_in sq_4, List.mem_of_getElem? sw_4⟩
  | 5, _ => exact ⟨sq_in sq_5, List.mem_of_getElem? sw_5⟩
  | 6, _ => exact ⟨sq_in sq_6, List.mem_of_getElem? sw_6⟩
  | 7, _ => exact ⟨sq_in sq_7, List.mem_of_getElem? sw_7⟩
  | 8, _ => exact ⟨sq_in sq_8, List.mem_of_getElem? sw_8⟩
  | 9, _ => exact ⟨sq_in sq_9, List.mem_of_getElem? sw_9⟩
  | 10, _ => exact ⟨sq_in sq_10, List.mem_of_getElem? sw_10⟩
  | 11, _ => exact ⟨sq_in sq_11, List.mem_of_getElem? sw_11⟩
  | 12, _ => exact ⟨sq_in sq_12, List.mem_of_getElem? sw_12⟩
  | 13, _ => exact ⟨sq_in sq_13, List.mem_of_getElem? sw_13⟩
  | 14, _ => exact ⟨sq_in sq_14, List.mem_of_getElem? sw_14⟩
  | 15, _ => exact ⟨sq_in sq_15, List.mem_of_getElem? sw_15⟩
  | 16, _ => exact ⟨sq_in sq_16, List.mem_of_getElem? sw_16⟩
  | 17, _ => exact ⟨sq_in sq_17, List.mem_of_getElem? sw_17⟩
  | 18, _ => exact ⟨sq_in sq_18, List.mem_of_getElem? sw_18⟩
  | 19, _ => exact ⟨sq_in sq_19, List.mem_of_getElem? sw_19⟩
  | 20, _ => exact ⟨sq_in sq_20, List.mem_of_getElem? sw_20⟩
  | 21, _ => exact ⟨sq_in sq_21, List.mem_of_getElem? sw_21⟩
  | 22, _ => exact ⟨sq_in sq_22, List.mem_of_getElem? sw_22⟩
  | 23, _ => exact ⟨sq_in sq_23, List.mem_of_getElem? sw_23⟩
  | 24, _ => exact ⟨sq_in sq_24, List.mem_of_getElem? sw_24⟩
  | 25, _ => exact ⟨sq_in sq_25, List.mem_of_getElem? sw_25⟩
  | 26, _ => exact ⟨sq_in sq_26, List.mem_of_getElem? sw_26⟩
  | 27, _ => exact ⟨sq_in sq_27, List.mem_of_getElem? sw_27⟩
  | 28, _ => exact ⟨sq_in sq_28, List.mem_of_getElem? sw_28⟩
  | 29, _ => exact ⟨sq_in sq_29, List.mem_of_getElem? sw_29⟩
  | n + 30, h => exact absurd h (by omega)
theorem nl_all : ∀ q ∈ am_NL, Cond.methodLinkNest q.1 q.2.1 q.2.2.1 q.2.2.2 ∈ lw_tbl := by
  unfold am_NL
  exact List.forall_mem_cons.mpr ⟨List.mem_of_getElem? (i := 122) (by decide +kernel), List.forall_mem_cons.mpr ⟨List.mem_of_getElem? (i := 142) (by decide +kernel), List.forall_mem_cons.mpr ⟨List.mem_of_getElem? (i := 148) (by decide +kernel), List.forall_mem_cons.mpr ⟨List.mem_of_getElem? (i := 256) (by decide +kernel), List.forall_mem_cons.mpr ⟨List.mem_of_getElem? (i := 302) (by decide +kernel), List.forall_mem_cons.mpr ⟨List.mem_of_getElem? (i := 330) (by decide +kernel), List.forall_mem_cons.mpr ⟨List.mem_of_getElem? (i := 737) (by decide +kernel), fun _ h => absurd h List.not_mem_nil⟩⟩⟩⟩⟩⟩⟩
theorem ao_all : ∀ q ∈ am_AOL, Cond.arrayOver (.object q) ∈ lw_tbl := by
  unfold am_AOL
  exact List.forall_mem_cons.mpr ⟨List.mem_of_getElem? (i := 249) (by decide +kernel), List.forall_mem_cons.mpr ⟨List.mem_of_getElem? (i := 253) (by decide +kernel), List.forall_mem_cons.mpr ⟨List.mem_of_getElem? (i := 252) (by decide +kernel), List.forall_mem_cons.mpr ⟨List.mem_of_getElem? (i := 225) (by decide +kernel), List.forall_mem_cons.mpr ⟨List.mem_of_getElem? (i := 305) (by decide +kernel), fun _ h => absurd h List.not_mem_nil⟩⟩⟩⟩⟩
theorem aoa_in : Cond.arrayOver (.array .boolean) ∈ lw_tbl := List.mem_of_getElem? (i := 1265) (by decide +kernel)
theorem ly_over : Cond.laysStatic "SillHours$Port" "TWELFTHS_OVER" "[I" ∈ lw_tbl := List.mem_of_getElem? (i := 866) (by decide +kernel)
theorem ly_next : Cond.laysStatic "SillHours$Port" "TWELFTHS_NEXT" "[I" ∈ lw_tbl := List.mem_of_getElem? (i := 868) (by decide +kernel)
theorem ly_comp : Cond.laysStatic "java/lang/String" "COMPACT_STRINGS" "Z" ∈ lw_tbl := List.mem_of_getElem? (i := 467) (by decide +kernel)
theorem ly_fmt : Cond.laysStatic "jdk/internal/util/Preconditions" "SIOOBE_FORMATTER" "Ljava/util/function/BiFunction;" ∈ lw_tbl := List.mem_of_getElem? (i := 490) (by decide +kernel)
theorem it_port : Cond.initialized "SillHours$Port" ∈ lw_tbl := List.mem_of_getElem? (i := 98) (by decide +kernel)
theorem it_str : Cond.initialized "java/lang/String" ∈ lw_tbl := List.mem_of_getElem? (i := 106) (by decide +kernel)
theorem it_pre : Cond.initialized "jdk/internal/util/Preconditions" ∈ lw_tbl := List.mem_of_getElem? (i := 108) (by decide +kernel)
def rq_w (n : String) (l : List Int32) : List Cond := [.arrayOf (.static "SillHours$Port" n "[I") .int, .eq (.length (.static "SillHours$Port" n "[I")) (.int (Int32.ofNat l.length))] ++ (List.range l.length).map (fun j => .eq (.elem (.static "SillHours$Port" n "[I") (.int (Int32.ofNat j))) (.int (l.getD j 0)))
theorem rq_over : (gv_F.drop 10).take (rq_w "TWELFTHS_OVER" am_OV).length = rq_w "TWELFTHS_OVER" am_OV := by decide +kernel
theorem rq_next : (gv_F.drop 19).take (rq_w "TWELFTHS_NEXT" am_NX).length = rq_w "TWELFTHS_NEXT" am_NX := by decide +kernel
theorem cs_in : Cond.eq (.static "java/lang/String" "COMPACT_STRINGS" "Z") (.int 1) ∈ gv_F := List.mem_of_getElem? (i := 4) (by decide +kernel)
theorem fm_in : Cond.isRef (.static "jdk/internal/util/Preconditions" "SIOOBE_FORMATTER" "Ljava/util/function/BiFunction;") ∈ gv_F := List.mem_of_getElem? (i := 5) (by decide +kernel)
