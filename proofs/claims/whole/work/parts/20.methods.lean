theorem am_ne32 {x k : Int32} (h : ¬ x = k) : x.toInt ≠ k.toInt := fun e => h (Int32.toInt_inj.mp e)
theorem am_EI.fg {M : am_M} {kc ks pc : Nat} {al as : List Value} {h : am_H} {Q : Option Value → am_H → Prop} (i : Nat) (k : am_EI M kc ks pc (al.set i (.float 0)) as h Q) : am_EI M kc ks pc al as h Q := by
  intro K p l e R s m args below meth c H locs cells slots ls bc bs QF C hE hc hs hH hS hl
  have sub : ∀ q, q ∈ am_lp K (al.set i (.float 0)) → q ∈ am_lp K al := by
    rintro ⟨j, w⟩ hq
    obtain ⟨v, hv, hf, rfl⟩ := am_lp_in.mp hq
    by_cases e : j = i
    · subst e
      have hl : j < al.length := by
        have := (List.getElem?_eq_some_iff.mp hv).1
        simpa using this
      rw [List.getElem?_set_self hl] at hv
      cases hv
      exact absurd rfl (hf 0)
    · rw [List.getElem?_set_ne (Ne.symm e)] at hv
      exact am_lp_in.mpr ⟨v, hv, hf, rfl⟩
  exact k C hE hc hs hH hS ⟨by rw [List.length_set]; exact hl.1, ⟨hl.2.1.1, hl.2.1.2.1, fun q hq => hl.2.1.2.2 q (sub q hq)⟩, fun q hq => hl.2.2 q (sub q hq)⟩
/-- one list's words among another's, in their order -/
def am_sb : List Cond → List Cond → Bool
  | [], _ => true
  | _ :: _, [] => false
  | w :: ws, b :: bs => if w = b then am_sb ws bs else am_sb (w :: ws) bs
theorem am_sb_mem : ∀ (big ws : List Cond), am_sb ws big = true → ∀ w ∈ ws, w ∈ big
  | _, [], _, w, hw => by cases hw
  | [], _ :: _, h, w, hw => by cases h
  | b :: bs, v :: ws, h, w, hw => by
    unfold am_sb at h
    split at h
    · rename_i e
      subst e
      rcases List.mem_cons.mp hw with rfl | hw
      · exact List.mem_cons_self
      · exact List.mem_cons_of_mem _ (am_sb_mem bs ws h w hw)
    · exact List.mem_cons_of_mem _ (am_sb_mem bs (v :: ws) h w hw)
theorem am_sb_tb {ws : List Cond} (h : am_sb ws lw_tbl = true) (hg : ws.all goodWord = true) : ∀ w ∈ ws, w ∈ am_tbl := fun w hw => List.mem_filter.mpr ⟨am_sb_mem _ _ h w hw, List.all_eq_true.mp hg w hw⟩
def m_Page_init : am_M := (⟨"SillHours$Page", "<init>", "()V"⟩, prog_2_method_1_code, 1, none, 1, 20)
def m_Page_letterAt : am_M := (⟨"SillHours$Page", "letterAt", "(I)I"⟩, prog_2_method_3_code, 2, some .int, 0, 0)
def m_Page_put : am_M := (⟨"SillHours$Page", "put", "(C)V"⟩, prog_2_method_15_code, 2, none, 0, 0)
def m_Page_putDayAndTime : am_M := (⟨"SillHours$Page", "putDayAndTime", "(I)V"⟩, prog_2_method_10_code, 2, none, 3, 65)
def m_Page_putDigit : am_M := (⟨"SillHours$Page", "putDigit", "(I)V"⟩, prog_2_method_13_code, 2, none, 1, 21)
def m_Page_putNumber : am_M := (⟨"SillHours$Page", "putNumber", "(I)V"⟩, prog_2_method_12_code, 4, none, 2, 42)
def m_Page_putText : am_M := (⟨"SillHours$Page", "putText", "(Ljava/lang/String;)V"⟩, prog_2_method_14_code, 3, none, 4, 85)
def m_Page_putTime : am_M := (⟨"SillHours$Page", "putTime", "(I)V"⟩, prog_2_method_11_code, 4, none, 2, 42)
def m_Page_size : am_M := (⟨"SillHours$Page", "size", "()I"⟩, prog_2_method_2_code, 1, some .int, 0, 0)
def m_Page_wordOf : am_M := (⟨"SillHours$Page", "wordOf", "(I)Ljava/lang/String;"⟩, prog_2_method_9_code, 1, some (.object "java/lang/String"), 0, 0)
def m_Page_writeNote : am_M := (⟨"SillHours$Page", "writeNote", "(LSillHours$Spans;Z)V"⟩, prog_2_method_8_code, 4, none, 5, 107)
def m_Page_writePort : am_M := (⟨"SillHours$Page", "writePort", "(LSillHours$Port;)V"⟩, prog_2_method_4_code, 3, none, 5, 107)
def m_Page_writeRoute : am_M := (⟨"SillHours$Page", "writeRoute", "(LSillHours$Route;)V"⟩, prog_2_method_7_code, 3, none, 5, 107)
def m_Page_writeShip : am_M := (⟨"SillHours$Page", "writeShip", "(LSillHours$Ship;)V"⟩, prog_2_method_6_code, 2, none, 3, 65)
def m_Page_writeSill : am_M := (⟨"SillHours$Page", "writeSill", "(LSillHours$Sill;)V"⟩, prog_2_method_5_code, 2, none, 5, 107)
def m_Planner_allowEarlier : am_M := (⟨"SillHours$Planner", "allowEarlier", "(LSillHours$Route;ILSillHours$Sill;LSillHours$Ship;)V"⟩, prog_3_method_8_code, 9, none, 4, 106)
def m_Planner_allowLater : am_M := (⟨"SillHours$Planner", "allowLater", "(LSillHours$Route;ILSillHours$Sill;LSillHours$Ship;)V"⟩, prog_3_method_7_code, 8, none, 4, 106)
def m_Planner_choosePasses : am_M := (⟨"SillHours$Planner", "choosePasses", "(LSillHours$Route;LSillHours$Ship;I)V"⟩, prog_3_method_6_code, 6, none, 2, 43)
def m_Planner_findDeep : am_M := (⟨"SillHours$Planner", "findDeep", "(LSillHours$Sill;I)V"⟩, prog_3_method_9_code, 4, none, 3, 83)
def m_Planner_init : am_M := (⟨"SillHours$Planner", "<init>", "()V"⟩, prog_3_method_1_code, 2, none, 3, 62)
def m_Planner_latestStart : am_M := (⟨"SillHours$Planner", "latestStart", "(LSillHours$Route;LSillHours$Ship;I)I"⟩, prog_3_method_5_code, 8, some .int, 5, 134)
def m_Planner_passOf : am_M := (⟨"SillHours$Planner", "passOf", "(I)I"⟩, prog_3_method_2_code, 2, some .int, 0, 0)
def m_Planner_plan : am_M := (⟨"SillHours$Planner", "plan", "(LSillHours$Route;LSillHours$Ship;I)Z"⟩, prog_3_method_4_code, 7, some .boolean, 5, 133)
def m_Planner_waitedFrom : am_M := (⟨"SillHours$Planner", "waitedFrom", "(ILSillHours$Route;LSillHours$Ship;)I"⟩, prog_3_method_3_code, 6, some .int, 2, 42)
def m_Port_add : am_M := (⟨"SillHours$Port", "add", "(ZII)V"⟩, prog_4_method_12_code, 4, none, 0, 0)
def m_Port_clear : am_M := (⟨"SillHours$Port", "clear", "()V"⟩, prog_4_method_10_code, 1, none, 0, 0)
def m_Port_collect : am_M := (⟨"SillHours$Port", "collect", "(IILSillHours$Spans;)V"⟩, prog_4_method_19_code, 8, none, 2, 56)
def m_Port_copyFrom : am_M := (⟨"SillHours$Port", "copyFrom", "(LSillHours$Port;)V"⟩, prog_4_method_11_code, 3, none, 1, 23)
def m_Port_excess : am_M := (⟨"SillHours$Port", "excess", "(III)I"⟩, prog_4_method_22_code, 8, some .int, 0, 0)
def m_Port_faultOfHeight : am_M := (⟨"SillHours$Port", "faultOfHeight", "(ZI)I"⟩, prog_4_method_15_code, 5, some .int, 1, 21)
def m_Port_faultOfMinute : am_M := (⟨"SillHours$Port", "faultOfMinute", "(I)I"⟩, prog_4_method_16_code, 3, some .int, 2, 41)
def m_Port_faultOfNext : am_M := (⟨"SillHours$Port", "faultOfNext", "(ZII)I"⟩, prog_4_method_14_code, 5, some .int, 3, 64)
def m_Port_firstChange : am_M := (⟨"SillHours$Port", "firstChange", "(IIII)I"⟩, prog_4_method_20_code, 10, some .int, 1, 27)
def m_Port_firstMinute : am_M := (⟨"SillHours$Port", "firstMinute", "()I"⟩, prog_4_method_7_code, 1, some .int, 1, 21)
def m_Port_hasMinute : am_M := (⟨"SillHours$Port", "hasMinute", "(I)Z"⟩, prog_4_method_9_code, 2, some .boolean, 2, 41)
def m_Port_heightOf : am_M := (⟨"SillHours$Port", "heightOf", "(I)I"⟩, prog_4_method_6_code, 2, some .int, 0, 0)
def m_Port_init : am_M := (⟨"SillHours$Port", "<init>", "(I)V"⟩, prog_4_method_1_code, 2, none, 1, 21)
def m_Port_isHeight : am_M := (⟨"SillHours$Port", "isHeight", "(I)Z"⟩, prog_4_method_2_code, 1, some .boolean, 0, 0)
def m_Port_isHigh : am_M := (⟨"SillHours$Port", "isHigh", "(I)Z"⟩, prog_4_method_4_code, 2, some .boolean, 0, 0)
def m_Port_isOn : am_M := (⟨"SillHours$Port", "isOn", "(II)Z"⟩, prog_4_method_21_code, 2, some .boolean, 0, 0)
def m_Port_isWrittenAs : am_M := (⟨"SillHours$Port", "isWrittenAs", "(LSillHours$Port;)Z"⟩, prog_4_method_17_code, 4, some .boolean, 1, 21)
def m_Port_lastMinute : am_M := (⟨"SillHours$Port", "lastMinute", "()I"⟩, prog_4_method_8_code, 1, some .int, 1, 21)
def m_Port_minuteOf : am_M := (⟨"SillHours$Port", "minuteOf", "(I)I"⟩, prog_4_method_5_code, 2, some .int, 0, 0)
def m_Port_minuteOfNext : am_M := (⟨"SillHours$Port", "minuteOfNext", "(I)I"⟩, prog_4_method_13_code, 4, some .int, 2, 41)
def m_Port_turnCount : am_M := (⟨"SillHours$Port", "turnCount", "()I"⟩, prog_4_method_3_code, 1, some .int, 0, 0)
def m_Port_wholeHeightAt : am_M := (⟨"SillHours$Port", "wholeHeightAt", "(I)I"⟩, prog_4_method_18_code, 4, some .int, 1, 27)
def m_Draft_followOn : am_M := (⟨"SillHours$PortDraft", "followOn", "(LSillHours$Port;)I"⟩, prog_5_method_5_code, 4, some .int, 4, 88)
def m_Draft_init : am_M := (⟨"SillHours$PortDraft", "<init>", "()V"⟩, prog_5_method_1_code, 1, none, 2, 42)
def m_Draft_made : am_M := (⟨"SillHours$PortDraft", "made", "()LSillHours$Port;"⟩, prog_5_method_2_code, 1, some (.object "SillHours$Port"), 0, 0)
def m_Draft_readDifferences : am_M := (⟨"SillHours$PortDraft", "readDifferences", "(LSillHours$Tape;)V"⟩, prog_5_method_4_code, 2, none, 6, 128)
def m_Draft_readTable : am_M := (⟨"SillHours$PortDraft", "readTable", "(LSillHours$Tape;)V"⟩, prog_5_method_3_code, 3, none, 7, 152)
def m_Draft_readTurn : am_M := (⟨"SillHours$PortDraft", "readTurn", "(LSillHours$Tape;)V"⟩, prog_5_method_7_code, 5, none, 6, 128)
def m_Draft_shiftFrom : am_M := (⟨"SillHours$PortDraft", "shiftFrom", "(LSillHours$Port;)I"⟩, prog_5_method_6_code, 8, some .int, 3, 63)
def m_Route_add : am_M := (⟨"SillHours$Route", "add", "(IIII)V"⟩, prog_6_method_13_code, 5, none, 0, 0)
def m_Route_copyFrom : am_M := (⟨"SillHours$Route", "copyFrom", "(LSillHours$Route;)V"⟩, prog_6_method_9_code, 3, none, 2, 42)
def m_Route_findFault : am_M := (⟨"SillHours$Route", "findFault", "(I)I"⟩, prog_6_method_11_code, 3, some .int, 2, 42)
def m_Route_init : am_M := (⟨"SillHours$Route", "<init>", "(I)V"⟩, prog_6_method_1_code, 2, none, 1, 21)
def m_Route_isStop : am_M := (⟨"SillHours$Route", "isStop", "(I)Z"⟩, prog_6_method_14_code, 2, some .boolean, 0, 0)
def m_Route_kindOf : am_M := (⟨"SillHours$Route", "kindOf", "(I)I"⟩, prog_6_method_5_code, 2, some .int, 1, 21)
def m_Route_levelOf : am_M := (⟨"SillHours$Route", "levelOf", "(I)I"⟩, prog_6_method_6_code, 2, some .int, 1, 21)
def m_Route_milesTo : am_M := (⟨"SillHours$Route", "milesTo", "(I)I"⟩, prog_6_method_7_code, 2, some .int, 1, 21)
def m_Route_readFrom : am_M := (⟨"SillHours$Route", "readFrom", "(LSillHours$Tape;)V"⟩, prog_6_method_10_code, 3, none, 4, 90)
def m_Route_readStop : am_M := (⟨"SillHours$Route", "readStop", "(LSillHours$Tape;I)V"⟩, prog_6_method_12_code, 6, none, 3, 65)
def m_Route_setSill : am_M := (⟨"SillHours$Route", "setSill", "(ILSillHours$Sill;)V"⟩, prog_6_method_8_code, 3, none, 1, 21)
def m_Route_sillNumberOf : am_M := (⟨"SillHours$Route", "sillNumberOf", "(I)I"⟩, prog_6_method_4_code, 2, some .int, 1, 21)
def m_Route_sillOf : am_M := (⟨"SillHours$Route", "sillOf", "(I)LSillHours$Sill;"⟩, prog_6_method_3_code, 2, some (.object "SillHours$Sill"), 1, 21)
def m_Route_stopCount : am_M := (⟨"SillHours$Route", "stopCount", "()I"⟩, prog_6_method_2_code, 1, some .int, 0, 0)
def m_Shift_heightFor : am_M := (⟨"SillHours$Shift", "heightFor", "(I)I"⟩, prog_7_method_5_code, 3, some .int, 1, 22)
def m_Shift_init : am_M := (⟨"SillHours$Shift", "<init>", "()V"⟩, prog_7_method_1_code, 1, none, 1, 20)
def m_Shift_isSound : am_M := (⟨"SillHours$Shift", "isSound", "()Z"⟩, prog_7_method_3_code, 1, some .boolean, 1, 20)
def m_Shift_isStep : am_M := (⟨"SillHours$Shift", "isStep", "(I)Z"⟩, prog_7_method_6_code, 1, some .boolean, 0, 0)
def m_Shift_minuteFor : am_M := (⟨"SillHours$Shift", "minuteFor", "(I)I"⟩, prog_7_method_4_code, 2, some .int, 0, 0)
def m_Shift_readFrom : am_M := (⟨"SillHours$Shift", "readFrom", "(LSillHours$Tape;)V"⟩, prog_7_method_2_code, 2, none, 4, 83)
def m_Ship_draught : am_M := (⟨"SillHours$Ship", "draught", "()I"⟩, prog_8_method_2_code, 1, some .int, 0, 0)
def m_Ship_findFault : am_M := (⟨"SillHours$Ship", "findFault", "()I"⟩, prog_8_method_6_code, 2, some .int, 0, 0)
def m_Ship_init : am_M := (⟨"SillHours$Ship", "<init>", "()V"⟩, prog_8_method_1_code, 1, none, 1, 20)
def m_Ship_mast : am_M := (⟨"SillHours$Ship", "mast", "()I"⟩, prog_8_method_3_code, 1, some .int, 0, 0)
def m_Ship_minutesFor : am_M := (⟨"SillHours$Ship", "minutesFor", "(I)I"⟩, prog_8_method_7_code, 2, some .int, 0, 0)
def m_Ship_pace : am_M := (⟨"SillHours$Ship", "pace", "()I"⟩, prog_8_method_4_code, 1, some .int, 0, 0)
def m_Ship_readFrom : am_M := (⟨"SillHours$Ship", "readFrom", "(LSillHours$Tape;)V"⟩, prog_8_method_5_code, 2, none, 2, 43)
def m_Sill_findFault : am_M := (⟨"SillHours$Sill", "findFault", "()I"⟩, prog_9_method_9_code, 2, some .int, 1, 20)
def m_Sill_hasTwoNumbers : am_M := (⟨"SillHours$Sill", "hasTwoNumbers", "()Z"⟩, prog_9_method_7_code, 1, some .boolean, 0, 0)
def m_Sill_home : am_M := (⟨"SillHours$Sill", "home", "()LSillHours$Port;"⟩, prog_9_method_2_code, 1, some (.object "SillHours$Port"), 0, 0)
def m_Sill_init : am_M := (⟨"SillHours$Sill", "<init>", "(LSillHours$Port;)V"⟩, prog_9_method_1_code, 2, none, 1, 20)
def m_Sill_kind : am_M := (⟨"SillHours$Sill", "kind", "()I"⟩, prog_9_method_3_code, 1, some .int, 0, 0)
def m_Sill_level : am_M := (⟨"SillHours$Sill", "level", "()I"⟩, prog_9_method_4_code, 1, some .int, 0, 0)
def m_Sill_one : am_M := (⟨"SillHours$Sill", "one", "()I"⟩, prog_9_method_5_code, 1, some .int, 0, 0)
def m_Sill_readFrom : am_M := (⟨"SillHours$Sill", "readFrom", "(LSillHours$Tape;)V"⟩, prog_9_method_8_code, 2, none, 6, 128)
def m_Sill_two : am_M := (⟨"SillHours$Sill", "two", "()I"⟩, prog_9_method_6_code, 1, some .int, 0, 0)
def m_Spans_add : am_M := (⟨"SillHours$Spans", "add", "(II)V"⟩, prog_10_method_6_code, 3, none, 1, 21)
def m_Spans_clear : am_M := (⟨"SillHours$Spans", "clear", "()V"⟩, prog_10_method_5_code, 1, none, 0, 0)
def m_Spans_copyShifted : am_M := (⟨"SillHours$Spans", "copyShifted", "(LSillHours$Spans;I)V"⟩, prog_10_method_7_code, 4, none, 2, 43)
def m_Spans_countAll : am_M := (⟨"SillHours$Spans", "countAll", "()I"⟩, prog_10_method_13_code, 3, some .int, 1, 21)
def m_Spans_earliestFrom : am_M := (⟨"SillHours$Spans", "earliestFrom", "(I)I"⟩, prog_10_method_10_code, 3, some .int, 1, 21)
def m_Spans_firstOf : am_M := (⟨"SillHours$Spans", "firstOf", "(I)I"⟩, prog_10_method_3_code, 2, some .int, 0, 0)
def m_Spans_has : am_M := (⟨"SillHours$Spans", "has", "(I)Z"⟩, prog_10_method_12_code, 2, some .boolean, 2, 43)
def m_Spans_init : am_M := (⟨"SillHours$Spans", "<init>", "(I)V"⟩, prog_10_method_1_code, 2, none, 1, 21)
def m_Spans_intersect : am_M := (⟨"SillHours$Spans", "intersect", "(LSillHours$Spans;LSillHours$Spans;)V"⟩, prog_10_method_8_code, 5, none, 2, 43)
def m_Spans_lastOf : am_M := (⟨"SillHours$Spans", "lastOf", "(I)I"⟩, prog_10_method_4_code, 2, some .int, 0, 0)
def m_Spans_latestUpTo : am_M := (⟨"SillHours$Spans", "latestUpTo", "(I)I"⟩, prog_10_method_11_code, 3, some .int, 1, 21)
def m_Spans_size : am_M := (⟨"SillHours$Spans", "size", "()I"⟩, prog_10_method_2_code, 1, some .int, 0, 0)
def m_Spans_unite : am_M := (⟨"SillHours$Spans", "unite", "(LSillHours$Spans;LSillHours$Spans;)V"⟩, prog_10_method_9_code, 5, none, 2, 43)
def m_Tape_append : am_M := (⟨"SillHours$Tape", "append", "(I)V"⟩, prog_11_method_4_code, 3, none, 0, 0)
def m_Tape_byteAt : am_M := (⟨"SillHours$Tape", "byteAt", "(I)I"⟩, prog_11_method_17_code, 2, some .int, 0, 0)
def m_Tape_hasRoomFor : am_M := (⟨"SillHours$Tape", "hasRoomFor", "(I)Z"⟩, prog_11_method_3_code, 2, some .boolean, 0, 0)
def m_Tape_init : am_M := (⟨"SillHours$Tape", "<init>", "()V"⟩, prog_11_method_1_code, 1, none, 1, 20)
def m_Tape_isDigit : am_M := (⟨"SillHours$Tape", "isDigit", "(I)Z"⟩, prog_11_method_19_code, 1, some .boolean, 0, 0)
def m_Tape_isLetter : am_M := (⟨"SillHours$Tape", "isLetter", "(I)Z"⟩, prog_11_method_18_code, 1, some .boolean, 0, 0)
def m_Tape_isReadWhole : am_M := (⟨"SillHours$Tape", "isReadWhole", "()Z"⟩, prog_11_method_8_code, 1, some .boolean, 0, 0)
def m_Tape_keepFirst : am_M := (⟨"SillHours$Tape", "keepFirst", "(I)V"⟩, prog_11_method_5_code, 2, none, 0, 0)
def m_Tape_moveTo : am_M := (⟨"SillHours$Tape", "moveTo", "(I)V"⟩, prog_11_method_16_code, 2, none, 0, 0)
def m_Tape_readTo : am_M := (⟨"SillHours$Tape", "readTo", "()I"⟩, prog_11_method_7_code, 1, some .int, 0, 0)
def m_Tape_rewind : am_M := (⟨"SillHours$Tape", "rewind", "()V"⟩, prog_11_method_6_code, 1, none, 1, 21)
def m_Tape_size : am_M := (⟨"SillHours$Tape", "size", "()I"⟩, prog_11_method_2_code, 1, some .int, 0, 0)
def m_Tape_takeMark : am_M := (⟨"SillHours$Tape", "takeMark", "(C)Z"⟩, prog_11_method_9_code, 2, some .boolean, 1, 21)
def m_Tape_takeWord : am_M := (⟨"SillHours$Tape", "takeWord", "(Ljava/lang/String;)Z"⟩, prog_11_method_11_code, 3, some .boolean, 4, 85)
def m_Tape_wantMark : am_M := (⟨"SillHours$Tape", "wantMark", "(C)V"⟩, prog_11_method_10_code, 2, none, 2, 42)
def m_Tape_wantNumber : am_M := (⟨"SillHours$Tape", "wantNumber", "()I"⟩, prog_11_method_13_code, 3, some .int, 1, 21)
def m_Tape_wantSize : am_M := (⟨"SillHours$Tape", "wantSize", "()I"⟩, prog_11_method_14_code, 3, some .int, 2, 43)
def m_Tape_wantStep : am_M := (⟨"SillHours$Tape", "wantStep", "()I"⟩, prog_11_method_15_code, 1, some .int, 3, 63)
def m_Tape_wantWord : am_M := (⟨"SillHours$Tape", "wantWord", "(Ljava/lang/String;)V"⟩, prog_11_method_12_code, 2, none, 5, 107)
def m_Windows_areAlways : am_M := (⟨"SillHours$Windows", "areAlways", "()Z"⟩, prog_12_method_3_code, 1, some .boolean, 0, 0)
def m_Windows_find : am_M := (⟨"SillHours$Windows", "find", "(LSillHours$Sill;LSillHours$Ship;)V"⟩, prog_12_method_4_code, 4, none, 4, 107)
def m_Windows_findAtFlap : am_M := (⟨"SillHours$Windows", "findAtFlap", "(LSillHours$Port;LSillHours$Sill;LSillHours$Ship;)V"⟩, prog_12_method_6_code, 5, none, 3, 83)
def m_Windows_findAtGate : am_M := (⟨"SillHours$Windows", "findAtGate", "(LSillHours$Port;LSillHours$Sill;LSillHours$Ship;)V"⟩, prog_12_method_5_code, 5, none, 3, 83)
def m_Windows_found : am_M := (⟨"SillHours$Windows", "found", "()LSillHours$Spans;"⟩, prog_12_method_2_code, 1, some (.object "SillHours$Spans"), 0, 0)
def m_Windows_init : am_M := (⟨"SillHours$Windows", "<init>", "()V"⟩, prog_12_method_1_code, 1, none, 2, 42)
def m_Main_above : am_M := (⟨"SillHours", "above", "(III)I"⟩, prog_1_method_16_code, 5, some .int, 3, 62)
def m_Main_addTable : am_M := (⟨"SillHours", "addTable", "(LSillHours$Port;)I"⟩, prog_1_method_39_code, 2, some .int, 8, 174)
def m_Main_answer : am_M := (⟨"SillHours", "answer", "(I)I"⟩, prog_1_method_33_code, 2, some .int, 0, 0)
def m_Main_answerLetter : am_M := (⟨"SillHours", "answerLetter", "(I)I"⟩, prog_1_method_36_code, 2, some .int, 1, 21)
def m_Main_arrive : am_M := (⟨"SillHours", "arrive", "(III)I"⟩, prog_1_method_26_code, 7, some .int, 6, 159)
def m_Main_count : am_M := (⟨"SillHours", "count", "(I)I"⟩, prog_1_method_12_code, 2, some .int, 1, 21)
def m_Main_ebb : am_M := (⟨"SillHours", "ebb", "(III)I"⟩, prog_1_method_18_code, 4, some .int, 4, 109)
def m_Main_end : am_M := (⟨"SillHours", "end", "(I)I"⟩, prog_1_method_3_code, 2, some .int, 1, 21)
def m_Main_fault : am_M := (⟨"SillHours", "fault", "()I"⟩, prog_1_method_11_code, 1, some .int, 0, 0)
def m_Main_feed : am_M := (⟨"SillHours", "feed", "(IIIII)I"⟩, prog_1_method_2_code, 6, some .int, 1, 22)
def m_Main_findWindows : am_M := (⟨"SillHours", "findWindows", "(II)Z"⟩, prog_1_method_48_code, 5, some .boolean, 5, 130)
def m_Main_firstMinuteWhere : am_M := (⟨"SillHours", "firstMinuteWhere", "(IIII)I"⟩, prog_1_method_47_code, 7, some .int, 3, 83)
def m_Main_good : am_M := (⟨"SillHours", "good", "(III)I"⟩, prog_1_method_22_code, 4, some .int, 6, 154)
def m_Main_hour : am_M := (⟨"SillHours", "hour", "(IIII)I"⟩, prog_1_method_20_code, 5, some .int, 6, 154)
def m_Main_hours : am_M := (⟨"SillHours", "hours", "(II)I"⟩, prog_1_method_19_code, 3, some .int, 6, 154)
def m_Main_init : am_M := (⟨"SillHours", "<init>", "()V"⟩, prog_1_method_1_code, 1, none, 4, 83)
def m_Main_isHeightToAsk : am_M := (⟨"SillHours", "isHeightToAsk", "(I)Z"⟩, prog_1_method_45_code, 1, some .boolean, 0, 0)
def m_Main_isNumberToAsk : am_M := (⟨"SillHours", "isNumberToAsk", "(I)Z"⟩, prog_1_method_46_code, 1, some .boolean, 0, 0)
def m_Main_judge : am_M := (⟨"SillHours", "judge", "(IZ)I"⟩, prog_1_method_38_code, 3, some .int, 0, 0)
def m_Main_keepPort : am_M := (⟨"SillHours", "keepPort", "(I)I"⟩, prog_1_method_40_code, 6, some .int, 2, 45)
def m_Main_leg : am_M := (⟨"SillHours", "leg", "(III)I"⟩, prog_1_method_25_code, 6, some .int, 2, 42)
def m_Main_letter : am_M := (⟨"SillHours", "letter", "(III)I"⟩, prog_1_method_30_code, 4, some .int, 7, 151)
def m_Main_longer : am_M := (⟨"SillHours", "longer", "(I)I"⟩, prog_1_method_5_code, 3, some .int, 9, 195)
def m_Main_minutes : am_M := (⟨"SillHours", "minutes", "(II)I"⟩, prog_1_method_21_code, 3, some .int, 6, 154)
def m_Main_note : am_M := (⟨"SillHours", "note", "(III)I"⟩, prog_1_method_23_code, 4, some .int, 6, 154)
def m_Main_pass : am_M := (⟨"SillHours", "pass", "(IIII)I"⟩, prog_1_method_27_code, 8, some .int, 6, 159)
def m_Main_place : am_M := (⟨"SillHours", "place", "()I"⟩, prog_1_method_10_code, 1, some .int, 0, 0)
def m_Main_port : am_M := (⟨"SillHours", "port", "()I"⟩, prog_1_method_4_code, 1, some .int, 9, 195)
def m_Main_portAt : am_M := (⟨"SillHours", "portAt", "(I)LSillHours$Port;"⟩, prog_1_method_41_code, 2, some (.object "SillHours$Port"), 0, 0)
def m_Main_refuse : am_M := (⟨"SillHours", "refuse", "(I)I"⟩, prog_1_method_34_code, 2, some .int, 0, 0)
def m_Main_refuseUnread : am_M := (⟨"SillHours", "refuseUnread", "()I"⟩, prog_1_method_35_code, 1, some .int, 1, 21)
def m_Main_rise : am_M := (⟨"SillHours", "rise", "(III)I"⟩, prog_1_method_17_code, 4, some .int, 4, 109)
def m_Main_route : am_M := (⟨"SillHours", "route", "()I"⟩, prog_1_method_9_code, 5, some .int, 5, 112)
def m_Main_routeAt : am_M := (⟨"SillHours", "routeAt", "(I)LSillHours$Route;"⟩, prog_1_method_44_code, 2, some (.object "SillHours$Route"), 0, 0)
def m_Main_same : am_M := (⟨"SillHours", "same", "(II)I"⟩, prog_1_method_31_code, 5, some .int, 2, 44)
def m_Main_second : am_M := (⟨"SillHours", "second", "(I)I"⟩, prog_1_method_6_code, 3, some .int, 7, 149)
def m_Main_ship : am_M := (⟨"SillHours", "ship", "()I"⟩, prog_1_method_8_code, 3, some .int, 3, 64)
def m_Main_shipAt : am_M := (⟨"SillHours", "shipAt", "(I)LSillHours$Ship;"⟩, prog_1_method_43_code, 2, some (.object "SillHours$Ship"), 0, 0)
def m_Main_sill : am_M := (⟨"SillHours", "sill", "(I)I"⟩, prog_1_method_7_code, 5, some .int, 7, 149)
def m_Main_sillAt : am_M := (⟨"SillHours", "sillAt", "(I)LSillHours$Sill;"⟩, prog_1_method_42_code, 2, some (.object "SillHours$Sill"), 0, 0)
def m_Main_start : am_M := (⟨"SillHours", "start", "(III)I"⟩, prog_1_method_29_code, 7, some .int, 6, 161)
def m_Main_status : am_M := (⟨"SillHours", "status", "()I"⟩, prog_1_method_32_code, 1, some .int, 0, 0)
def m_Main_stops : am_M := (⟨"SillHours", "stops", "(I)I"⟩, prog_1_method_24_code, 3, some .int, 1, 21)
def m_Main_textWasRight : am_M := (⟨"SillHours", "textWasRight", "()Z"⟩, prog_1_method_37_code, 2, some .boolean, 1, 21)
def m_Main_turn : am_M := (⟨"SillHours", "turn", "(III)I"⟩, prog_1_method_14_code, 5, some .int, 1, 21)
def m_Main_turns : am_M := (⟨"SillHours", "turns", "(I)I"⟩, prog_1_method_13_code, 3, some .int, 1, 21)
def m_Main_waits : am_M := (⟨"SillHours", "waits", "(III)I"⟩, prog_1_method_28_code, 7, some .int, 6, 159)
def m_Main_water : am_M := (⟨"SillHours", "water", "(II)I"⟩, prog_1_method_15_code, 4, some .int, 3, 62)
def m_Main_writeOut : am_M := (⟨"SillHours", "writeOut", "(II)V"⟩, prog_1_method_49_code, 3, none, 6, 129)
def m_Ref_above : am_M := (⟨"SillHoursModel", "above", "(III)I"⟩, prog_14_method_73_code, 4, some .int, 3, 75)
def m_Ref_areTurns : am_M := (⟨"SillHoursModel", "areTurns", "()Z"⟩, prog_14_method_61_code, 3, some .boolean, 1, 22)
def m_Ref_arrive : am_M := (⟨"SillHoursModel", "arrive", "(III)I"⟩, prog_14_method_85_code, 5, some .int, 6, 156)
def m_Ref_begins : am_M := (⟨"SillHoursModel", "begins", "()V"⟩, prog_14_method_41_code, 1, none, 7, 149)
def m_Ref_canWait : am_M := (⟨"SillHoursModel", "canWait", "(IIII)Z"⟩, prog_14_method_23_code, 8, some .boolean, 0, 0)
def m_Ref_comeBack : am_M := (⟨"SillHoursModel", "comeBack", "(III)V"⟩, prog_14_method_26_code, 10, none, 0, 0)
def m_Ref_count : am_M := (⟨"SillHoursModel", "count", "(I)I"⟩, prog_14_method_69_code, 2, some .int, 1, 21)
def m_Ref_ebb : am_M := (⟨"SillHoursModel", "ebb", "(III)I"⟩, prog_14_method_76_code, 4, some .int, 4, 100)
def m_Ref_end : am_M := (⟨"SillHoursModel", "end", "(I)I"⟩, prog_14_method_56_code, 2, some .int, 1, 22)
def m_Ref_ends : am_M := (⟨"SillHoursModel", "ends", "()Z"⟩, prog_14_method_42_code, 1, some .boolean, 0, 0)
def m_Ref_fault : am_M := (⟨"SillHoursModel", "fault", "()I"⟩, prog_14_method_68_code, 1, some .int, 0, 0)
def m_Ref_faultOfTurns : am_M := (⟨"SillHoursModel", "faultOfTurns", "(I)I"⟩, prog_14_method_52_code, 9, some .int, 1, 22)
def m_Ref_faulty : am_M := (⟨"SillHoursModel", "faulty", "(I)I"⟩, prog_14_method_49_code, 2, some .int, 1, 21)
def m_Ref_feed : am_M := (⟨"SillHoursModel", "feed", "(IIIII)I"⟩, prog_14_method_55_code, 8, some .int, 1, 21)
def m_Ref_findGood2 : am_M := (⟨"SillHoursModel", "findGood", "(II)V"⟩, prog_14_method_16_code, 3, none, 4, 102)
def m_Ref_findGood3 : am_M := (⟨"SillHoursModel", "findGood", "(II[Z)V"⟩, prog_14_method_17_code, 8, none, 3, 75)
def m_Ref_findWindow : am_M := (⟨"SillHoursModel", "findWindow", "(I)Z"⟩, prog_14_method_18_code, 3, some .boolean, 0, 0)
def m_Ref_fine : am_M := (⟨"SillHoursModel", "fine", "(I)I"⟩, prog_14_method_1_code, 2, some .int, 0, 0)
def m_Ref_first : am_M := (⟨"SillHoursModel", "first", "(IIIZ)I"⟩, prog_14_method_74_code, 6, some .int, 3, 75)
def m_Ref_firstOf : am_M := (⟨"SillHoursModel", "firstOf", "(I)I"⟩, prog_14_method_8_code, 2, some .int, 0, 0)
def m_Ref_goOn : am_M := (⟨"SillHoursModel", "goOn", "(IIII)V"⟩, prog_14_method_22_code, 10, none, 0, 0)
def m_Ref_goes : am_M := (⟨"SillHoursModel", "goes", "(I)Z"⟩, prog_14_method_44_code, 3, some .boolean, 7, 149)
def m_Ref_good : am_M := (⟨"SillHoursModel", "good", "(III)I"⟩, prog_14_method_80_code, 4, some .int, 5, 124)
def m_Ref_heightAt : am_M := (⟨"SillHoursModel", "heightAt", "(II)V"⟩, prog_14_method_12_code, 10, none, 1, 23)
def m_Ref_hour : am_M := (⟨"SillHoursModel", "hour", "(IIII)I"⟩, prog_14_method_78_code, 7, some .int, 5, 124)
def m_Ref_hours : am_M := (⟨"SillHoursModel", "hours", "(II)I"⟩, prog_14_method_77_code, 3, some .int, 5, 124)
def m_Ref_init : am_M := (⟨"SillHoursModel", "<init>", "()V"⟩, prog_14_method_54_code, 1, none, 1, 20)
def m_Ref_isAt : am_M := (⟨"SillHoursModel", "isAt", "(III)Z"⟩, prog_14_method_13_code, 4, some .boolean, 2, 52)
def m_Ref_isIn : am_M := (⟨"SillHoursModel", "isIn", "(III)Z"⟩, prog_14_method_3_code, 3, some .boolean, 0, 0)
def m_Ref_isMinute : am_M := (⟨"SillHoursModel", "isMinute", "(II)Z"⟩, prog_14_method_10_code, 3, some .boolean, 1, 22)
def m_Ref_isNearHigh : am_M := (⟨"SillHoursModel", "isNearHigh", "(IIII)Z"⟩, prog_14_method_15_code, 8, some .boolean, 0, 0)
def m_Ref_isPort : am_M := (⟨"SillHoursModel", "isPort", "(I)Z"⟩, prog_14_method_4_code, 2, some .boolean, 1, 22)
def m_Ref_isRightShift : am_M := (⟨"SillHoursModel", "isRightShift", "(I)Z"⟩, prog_14_method_60_code, 3, some .boolean, 1, 22)
def m_Ref_isRoute : am_M := (⟨"SillHoursModel", "isRoute", "(I)Z"⟩, prog_14_method_7_code, 2, some .boolean, 1, 22)
def m_Ref_isShip : am_M := (⟨"SillHoursModel", "isShip", "(I)Z"⟩, prog_14_method_6_code, 2, some .boolean, 1, 22)
def m_Ref_isSill : am_M := (⟨"SillHoursModel", "isSill", "(I)Z"⟩, prog_14_method_5_code, 2, some .boolean, 1, 22)
def m_Ref_isSpelled : am_M := (⟨"SillHoursModel", "isSpelled", "(Ljava/lang/String;)Z"⟩, prog_14_method_38_code, 4, some .boolean, 4, 85)
def m_Ref_isUnder : am_M := (⟨"SillHoursModel", "isUnder", "(III)Z"⟩, prog_14_method_14_code, 4, some .boolean, 2, 52)
def m_Ref_lastOf : am_M := (⟨"SillHoursModel", "lastOf", "(I)I"⟩, prog_14_method_9_code, 2, some .int, 0, 0)
def m_Ref_latest : am_M := (⟨"SillHoursModel", "latest", "(III)I"⟩, prog_14_method_25_code, 7, some .int, 5, 128)
def m_Ref_leg : am_M := (⟨"SillHoursModel", "leg", "(III)I"⟩, prog_14_method_83_code, 4, some .int, 2, 43)
def m_Ref_legOf : am_M := (⟨"SillHoursModel", "legOf", "(III)I"⟩, prog_14_method_20_code, 4, some .int, 0, 0)
def m_Ref_letter : am_M := (⟨"SillHoursModel", "letter", "(III)I"⟩, prog_14_method_89_code, 4, some .int, 6, 130)
def m_Ref_longer : am_M := (⟨"SillHoursModel", "longer", "(I)I"⟩, prog_14_method_58_code, 3, some .int, 11, 233)
def m_Ref_made : am_M := (⟨"SillHoursModel", "made", "(I)I"⟩, prog_14_method_53_code, 5, some .int, 1, 21)
def m_Ref_minutes : am_M := (⟨"SillHoursModel", "minutes", "(II)I"⟩, prog_14_method_79_code, 5, some .int, 5, 124)
def m_Ref_must : am_M := (⟨"SillHoursModel", "must", "(Z)V"⟩, prog_14_method_45_code, 2, none, 0, 0)
def m_Ref_next : am_M := (⟨"SillHoursModel", "next", "()V"⟩, prog_14_method_40_code, 2, none, 6, 128)
def m_Ref_no : am_M := (⟨"SillHoursModel", "no", "(I)I"⟩, prog_14_method_2_code, 2, some .int, 0, 0)
def m_Ref_note : am_M := (⟨"SillHoursModel", "note", "(III)I"⟩, prog_14_method_81_code, 4, some .int, 6, 147)
def m_Ref_pass : am_M := (⟨"SillHoursModel", "pass", "(IIII)I"⟩, prog_14_method_86_code, 6, some .int, 6, 156)
def m_Ref_place : am_M := (⟨"SillHoursModel", "place", "()I"⟩, prog_14_method_67_code, 1, some .int, 0, 0)
def m_Ref_plan : am_M := (⟨"SillHoursModel", "plan", "(III)Z"⟩, prog_14_method_24_code, 9, some .boolean, 5, 128)
def m_Ref_port : am_M := (⟨"SillHoursModel", "port", "()I"⟩, prog_14_method_57_code, 2, some .int, 11, 233)
def m_Ref_prepare : am_M := (⟨"SillHoursModel", "prepare", "(II)V"⟩, prog_14_method_21_code, 7, none, 4, 102)
def m_Ref_readShift : am_M := (⟨"SillHoursModel", "readShift", "(I)V"⟩, prog_14_method_59_code, 2, none, 9, 193)
def m_Ref_readStop : am_M := (⟨"SillHoursModel", "readStop", "()V"⟩, prog_14_method_65_code, 1, none, 9, 193)
def m_Ref_readTable : am_M := (⟨"SillHoursModel", "readTable", "()V"⟩, prog_14_method_51_code, 1, none, 10, 213)
def m_Ref_readTurn : am_M := (⟨"SillHoursModel", "readTurn", "()V"⟩, prog_14_method_50_code, 1, none, 9, 193)
def m_Ref_refusedUnread : am_M := (⟨"SillHoursModel", "refusedUnread", "()I"⟩, prog_14_method_48_code, 1, some .int, 1, 21)
def m_Ref_rise : am_M := (⟨"SillHoursModel", "rise", "(III)I"⟩, prog_14_method_75_code, 4, some .int, 4, 100)
def m_Ref_route : am_M := (⟨"SillHoursModel", "route", "()I"⟩, prog_14_method_66_code, 4, some .int, 10, 213)
def m_Ref_routeWhy : am_M := (⟨"SillHoursModel", "routeWhy", "(III)I"⟩, prog_14_method_84_code, 4, some .int, 2, 43)
def m_Ref_same : am_M := (⟨"SillHoursModel", "same", "(II)I"⟩, prog_14_method_90_code, 6, some .int, 6, 130)
def m_Ref_second : am_M := (⟨"SillHoursModel", "second", "(I)I"⟩, prog_14_method_62_code, 5, some .int, 10, 214)
def m_Ref_ship : am_M := (⟨"SillHoursModel", "ship", "()I"⟩, prog_14_method_64_code, 4, some .int, 8, 171)
def m_Ref_sill : am_M := (⟨"SillHoursModel", "sill", "(I)I"⟩, prog_14_method_63_code, 6, some .int, 9, 193)
def m_Ref_size : am_M := (⟨"SillHoursModel", "size", "()I"⟩, prog_14_method_46_code, 3, some .int, 8, 171)
def m_Ref_start : am_M := (⟨"SillHoursModel", "start", "(III)I"⟩, prog_14_method_88_code, 5, some .int, 6, 154)
def m_Ref_status : am_M := (⟨"SillHoursModel", "status", "()I"⟩, prog_14_method_91_code, 1, some .int, 0, 0)
def m_Ref_step : am_M := (⟨"SillHoursModel", "step", "()I"⟩, prog_14_method_47_code, 3, some .int, 8, 171)
def m_Ref_stops : am_M := (⟨"SillHoursModel", "stops", "(I)I"⟩, prog_14_method_82_code, 2, some .int, 2, 43)
def m_Ref_take : am_M := (⟨"SillHoursModel", "take", "(I)I"⟩, prog_14_method_43_code, 3, some .int, 7, 149)
def m_Ref_tell : am_M := (⟨"SillHoursModel", "tell", "(I)I"⟩, prog_14_method_37_code, 2, some .int, 1, 22)
def m_Ref_turn : am_M := (⟨"SillHoursModel", "turn", "(III)I"⟩, prog_14_method_71_code, 5, some .int, 2, 43)
def m_Ref_turnAt : am_M := (⟨"SillHoursModel", "turnAt", "(II)I"⟩, prog_14_method_11_code, 4, some .int, 0, 0)
def m_Ref_turns : am_M := (⟨"SillHoursModel", "turns", "(I)I"⟩, prog_14_method_70_code, 2, some .int, 2, 43)
def m_Ref_waits : am_M := (⟨"SillHoursModel", "waits", "(III)I"⟩, prog_14_method_87_code, 7, some .int, 6, 156)
def m_Ref_water : am_M := (⟨"SillHoursModel", "water", "(II)I"⟩, prog_14_method_72_code, 3, some .int, 2, 52)
def m_Ref_windows : am_M := (⟨"SillHoursModel", "windows", "()I"⟩, prog_14_method_19_code, 3, some .int, 1, 22)
def m_Ref_wordHere : am_M := (⟨"SillHoursModel", "wordHere", "()I"⟩, prog_14_method_39_code, 1, some .int, 5, 108)
def m_Ref_write : am_M := (⟨"SillHoursModel", "write", "(I)V"⟩, prog_14_method_27_code, 2, none, 0, 0)
def m_Ref_writeMinute : am_M := (⟨"SillHoursModel", "writeMinute", "(I)V"⟩, prog_14_method_35_code, 2, none, 2, 44)
def m_Ref_writeNote : am_M := (⟨"SillHoursModel", "writeNote", "(II)V"⟩, prog_14_method_36_code, 4, none, 5, 124)
def m_Ref_writeNumber : am_M := (⟨"SillHoursModel", "writeNumber", "(I)V"⟩, prog_14_method_29_code, 4, none, 1, 21)
def m_Ref_writePort : am_M := (⟨"SillHoursModel", "writePort", "(I)V"⟩, prog_14_method_31_code, 4, none, 5, 107)
def m_Ref_writeRoute : am_M := (⟨"SillHoursModel", "writeRoute", "(I)V"⟩, prog_14_method_34_code, 4, none, 5, 107)
def m_Ref_writeShip : am_M := (⟨"SillHoursModel", "writeShip", "(I)V"⟩, prog_14_method_33_code, 2, none, 2, 44)
def m_Ref_writeSill : am_M := (⟨"SillHoursModel", "writeSill", "(I)V"⟩, prog_14_method_32_code, 3, none, 5, 107)
def m_Ref_writeTime : am_M := (⟨"SillHoursModel", "writeTime", "(I)V"⟩, prog_14_method_30_code, 4, none, 1, 21)
def m_Ref_writeWord : am_M := (⟨"SillHoursModel", "writeWord", "(Ljava/lang/String;)V"⟩, prog_14_method_28_code, 3, none, 4, 85)
def m_Math_abs : am_M := (⟨"java/lang/Math", "abs", "(I)I"⟩, prog_15_method_59_code, 1, some .int, 0, 0)
def m_Math_floorDiv : am_M := (⟨"java/lang/Math", "floorDiv", "(II)I"⟩, prog_15_method_47_code, 3, some .int, 0, 0)
def m_Math_floorMod : am_M := (⟨"java/lang/Math", "floorMod", "(II)I"⟩, prog_15_method_50_code, 3, some .int, 0, 0)
def m_Math_max : am_M := (⟨"java/lang/Math", "max", "(II)I"⟩, prog_15_method_65_code, 2, some .int, 0, 0)
def m_Math_min : am_M := (⟨"java/lang/Math", "min", "(II)I"⟩, prog_15_method_69_code, 2, some .int, 0, 0)
def m_Str_charAt : am_M := (⟨"java/lang/String", "charAt", "(I)C"⟩, prog_16_method_56_code, 2, some .char, 3, 64)
def m_Str_checkIndex : am_M := (⟨"java/lang/String", "checkIndex", "(II)V"⟩, prog_16_method_155_code, 2, none, 1, 22)
def m_Str_coder : am_M := (⟨"java/lang/String", "coder", "()B"⟩, prog_16_method_152_code, 1, some .byte, 0, 0)
def m_Str_isLatin1 : am_M := (⟨"java/lang/String", "isLatin1", "()Z"⟩, prog_16_method_154_code, 1, some .boolean, 0, 0)
def m_Str_length : am_M := (⟨"java/lang/String", "length", "()I"⟩, prog_16_method_54_code, 1, some .int, 1, 20)
def m_Lat_charAt : am_M := (⟨"java/lang/StringLatin1", "charAt", "([BI)C"⟩, prog_17_method_2_code, 2, some .char, 2, 43)
def m_Pre_checkIndex : am_M := (⟨"jdk/internal/util/Preconditions", "checkIndex", "(IILjava/util/function/BiFunction;)I"⟩, prog_19_method_11_code, 3, some .int, 0, 0)
def am_U0 : List Cond := [.selects "SillHours" m_Main_refuse.1 m_Main_refuse.1, .selects "SillHours" m_Main_answer.1 m_Main_answer.1, .selects "SillHours" m_Main_addTable.1 m_Main_addTable.1, .selects "SillHours$Tape" m_Tape_moveTo.1 m_Tape_moveTo.1, .selects "SillHours$PortDraft" m_Draft_readTurn.1 m_Draft_readTurn.1, .selects "SillHours$Tape" m_Tape_byteAt.1 m_Tape_byteAt.1, .selects "SillHours" m_Main_textWasRight.1 m_Main_textWasRight.1, .selects "SillHours" m_Main_keepPort.1 m_Main_keepPort.1, .selects "SillHours" m_Main_judge.1 m_Main_judge.1, .selects "SillHours" m_Main_portAt.1 m_Main_portAt.1, .selects "SillHours" m_Main_refuseUnread.1 m_Main_refuseUnread.1, .selects "SillHours$Route" m_Route_readStop.1 m_Route_readStop.1, .selects "SillHours$Route" m_Route_add.1 m_Route_add.1, .selects "SillHours$Route" m_Route_isStop.1 m_Route_isStop.1, .selects "SillHours" m_Main_sillAt.1 m_Main_sillAt.1, .selects "SillHours$Port" m_Port_excess.1 m_Port_excess.1, .selects "SillHours" m_Main_firstMinuteWhere.1 m_Main_firstMinuteWhere.1, .selects "SillHours$Port" m_Port_firstChange.1 m_Port_firstChange.1, .selects "SillHours" m_Main_findWindows.1 m_Main_findWindows.1, .selects "SillHours" m_Main_shipAt.1 m_Main_shipAt.1, .selects "SillHours$Windows" m_Windows_findAtGate.1 m_Windows_findAtGate.1, .selects "SillHours$Windows" m_Windows_findAtFlap.1 m_Windows_findAtFlap.1, .selects "SillHours$Page" m_Page_putText.1 m_Page_putText.1, .selects "SillHours$Page" m_Page_put.1 m_Page_put.1, .selects "SillHours$Page" m_Page_putDayAndTime.1 m_Page_putDayAndTime.1, .selects "SillHours$Page" m_Page_putTime.1 m_Page_putTime.1, .selects "SillHours$Page" m_Page_putDigit.1 m_Page_putDigit.1, .selects "SillHours$Page" m_Page_putNumber.1 m_Page_putNumber.1, .selects "SillHours" m_Main_answerLetter.1 m_Main_answerLetter.1, .selects "SillHours" m_Main_routeAt.1 m_Main_routeAt.1, .selects "SillHours$Planner" m_Planner_allowLater.1 m_Planner_allowLater.1, .selects "SillHours$Planner" m_Planner_findDeep.1 m_Planner_findDeep.1, .selects "SillHours$Planner" m_Planner_choosePasses.1 m_Planner_choosePasses.1, .selects "SillHours$Planner" m_Planner_allowEarlier.1 m_Planner_allowEarlier.1, .selects "SillHours" m_Main_writeOut.1 m_Main_writeOut.1, .selects "SillHoursModel" m_Ref_no.1 m_Ref_no.1, .selects "SillHoursModel" m_Ref_fine.1 m_Ref_fine.1, .selects "SillHoursModel" m_Ref_begins.1 m_Ref_begins.1, .selects "SillHoursModel" m_Ref_next.1 m_Ref_next.1, .selects "SillHoursModel" m_Ref_wordHere.1 m_Ref_wordHere.1]
set_option maxRecDepth 100000 in
theorem am_U0_ok : ∀ w ∈ am_U0, w ∈ am_tbl := am_sb_tb (by decide +kernel) (by decide +kernel)
def am_U1 : List Cond := [.selects "SillHoursModel" m_Ref_isSpelled.1 m_Ref_isSpelled.1, .selects "SillHoursModel" m_Ref_readTable.1 m_Ref_readTable.1, .selects "SillHoursModel" m_Ref_readTurn.1 m_Ref_readTurn.1, .selects "SillHoursModel" m_Ref_must.1 m_Ref_must.1, .selects "SillHoursModel" m_Ref_take.1 m_Ref_take.1, .selects "SillHoursModel" m_Ref_size.1 m_Ref_size.1, .selects "SillHoursModel" m_Ref_goes.1 m_Ref_goes.1, .selects "SillHoursModel" m_Ref_ends.1 m_Ref_ends.1, .selects "SillHoursModel" m_Ref_faultOfTurns.1 m_Ref_faultOfTurns.1, .selects "SillHoursModel" m_Ref_faulty.1 m_Ref_faulty.1, .selects "SillHoursModel" m_Ref_made.1 m_Ref_made.1, .selects "SillHoursModel" m_Ref_isPort.1 m_Ref_isPort.1, .selects "SillHoursModel" m_Ref_refusedUnread.1 m_Ref_refusedUnread.1, .selects "SillHoursModel" m_Ref_readShift.1 m_Ref_readShift.1, .selects "SillHoursModel" m_Ref_step.1 m_Ref_step.1, .selects "SillHoursModel" m_Ref_isRightShift.1 m_Ref_isRightShift.1, .selects "SillHoursModel" m_Ref_areTurns.1 m_Ref_areTurns.1, .selects "SillHoursModel" m_Ref_readStop.1 m_Ref_readStop.1, .selects "SillHoursModel" m_Ref_isSill.1 m_Ref_isSill.1, .selects "SillHoursModel" m_Ref_isMinute.1 m_Ref_isMinute.1, .selects "SillHoursModel" m_Ref_firstOf.1 m_Ref_firstOf.1, .selects "SillHoursModel" m_Ref_lastOf.1 m_Ref_lastOf.1, .selects "SillHoursModel" m_Ref_heightAt.1 m_Ref_heightAt.1, .selects "SillHoursModel" m_Ref_turnAt.1 m_Ref_turnAt.1, .selects "SillHoursModel" m_Ref_isAt.1 m_Ref_isAt.1, .selects "SillHoursModel" m_Ref_first.1 m_Ref_first.1, .selects "SillHoursModel" m_Ref_isShip.1 m_Ref_isShip.1, .selects "SillHoursModel" m_Ref_findGood2.1 m_Ref_findGood2.1, .selects "SillHoursModel" m_Ref_findGood3.1 m_Ref_findGood3.1, .selects "SillHoursModel" m_Ref_isNearHigh.1 m_Ref_isNearHigh.1, .selects "SillHoursModel" m_Ref_isUnder.1 m_Ref_isUnder.1, .selects "SillHoursModel" m_Ref_windows.1 m_Ref_windows.1, .selects "SillHoursModel" m_Ref_findWindow.1 m_Ref_findWindow.1, .selects "SillHoursModel" m_Ref_writeNote.1 m_Ref_writeNote.1, .selects "SillHoursModel" m_Ref_writeWord.1 m_Ref_writeWord.1, .selects "SillHoursModel" m_Ref_write.1 m_Ref_write.1, .selects "SillHoursModel" m_Ref_writeMinute.1 m_Ref_writeMinute.1, .selects "SillHoursModel" m_Ref_writeTime.1 m_Ref_writeTime.1, .selects "SillHoursModel" m_Ref_writeNumber.1 m_Ref_writeNumber.1, .selects "SillHoursModel" m_Ref_tell.1 m_Ref_tell.1]
set_option maxRecDepth 100000 in
theorem am_U1_ok : ∀ w ∈ am_U1, w ∈ am_tbl := am_sb_tb (by decide +kernel) (by decide +kernel)
def am_U2 : List Cond := [.selects "SillHoursModel" m_Ref_isRoute.1 m_Ref_isRoute.1, .selects "SillHoursModel" m_Ref_legOf.1 m_Ref_legOf.1, .selects "SillHoursModel" m_Ref_routeWhy.1 m_Ref_routeWhy.1, .selects "SillHoursModel" m_Ref_plan.1 m_Ref_plan.1, .selects "SillHoursModel" m_Ref_prepare.1 m_Ref_prepare.1, .selects "SillHoursModel" m_Ref_goOn.1 m_Ref_goOn.1, .selects "SillHoursModel" m_Ref_canWait.1 m_Ref_canWait.1, .selects "SillHoursModel" m_Ref_latest.1 m_Ref_latest.1, .selects "SillHoursModel" m_Ref_comeBack.1 m_Ref_comeBack.1, .selects "SillHoursModel" m_Ref_writePort.1 m_Ref_writePort.1, .selects "SillHoursModel" m_Ref_writeSill.1 m_Ref_writeSill.1, .selects "SillHoursModel" m_Ref_writeShip.1 m_Ref_writeShip.1, .selects "SillHoursModel" m_Ref_writeRoute.1 m_Ref_writeRoute.1, .initialized "SillHours", .initialized "SillHours$Tape", .initialized "SillHours$PortDraft", .initialized "SillHours$Shift", .initialized "SillHours$Port", .initialized "java/lang/Math", .initialized "SillHours$Route", .initialized "SillHours$Windows", .initialized "SillHours$Spans", .initialized "SillHours$Planner", .initialized "SillHours$Page", .initialized "SillHoursModel", .initialized "java/lang/String", .initialized "java/lang/StringLatin1", .initialized "jdk/internal/util/Preconditions", .initialized "SillHours$Sill", .initialized "SillHours$Ship", .classLink "SillHoursLaw" 7 (am_cR 11), .instantiable (am_cR 11) (am_cN 11), .methodLink "SillHoursLaw" 9 m_Main_init.1, .instanceMethod m_Main_init.1, .code m_Main_init.1 m_Main_init.2.1 m_Main_init.2.2.1 m_Main_init.2.2.2.1, .methodLink "SillHours" 1 Lib.objectInit, .instanceMethod Lib.objectInit, .code Lib.objectInit ⟨#[0xb1]⟩ 1 none, .classLink "SillHours" 7 (am_cR 9), .instantiable (am_cR 9) (am_cN 9)]
set_option maxRecDepth 100000 in
theorem am_U2_ok : ∀ w ∈ am_U2, w ∈ am_tbl := am_sb_tb (by decide +kernel) (by decide +kernel)
def am_U3 : List Cond := [.instanceMethod m_Tape_init.1, .code m_Tape_init.1 m_Tape_init.2.1 m_Tape_init.2.2.1 m_Tape_init.2.2.2.1, .methodLink "SillHours$Tape" 1 Lib.objectInit, .arrayClass .byte, .classLink "SillHours" 16 (am_cR 3), .instantiable (am_cR 3) (am_cN 3), .instanceMethod m_Draft_init.1, .code m_Draft_init.1 m_Draft_init.2.1 m_Draft_init.2.2.1 m_Draft_init.2.2.2.1, .methodLink "SillHours$PortDraft" 1 Lib.objectInit, .classLink "SillHours$PortDraft" 24 (am_cR 5), .instantiable (am_cR 5) (am_cN 5), .instanceMethod m_Shift_init.1, .code m_Shift_init.1 m_Shift_init.2.1 m_Shift_init.2.2.1 m_Shift_init.2.2.2.1, .methodLink "SillHours$Shift" 1 Lib.objectInit, .arrayClass .boolean, .arrayClass .int, .classLink "SillHours$PortDraft" 34 (am_cR 2), .instantiable (am_cR 2) (am_cN 2), .methodLink "SillHours$PortDraft" 36 m_Port_init.1, .instanceMethod m_Port_init.1, .code m_Port_init.1 m_Port_init.2.1 m_Port_init.2.2.1 m_Port_init.2.2.2.1, .methodLink "SillHours$Port" 1 Lib.objectInit, .methodLink "SillHours$Port" 13 m_Math_max.1, .static m_Math_max.1, .code m_Math_max.1 m_Math_max.2.1 m_Math_max.2.2.1 m_Math_max.2.2.2.1, .classLink "SillHours" 23 (am_cR 4), .instantiable (am_cR 4) (am_cN 4), .methodLink "SillHours" 25 m_Route_init.1, .instanceMethod m_Route_init.1, .code m_Route_init.1 m_Route_init.2.1 m_Route_init.2.2.1 m_Route_init.2.2.2.1, .methodLink "SillHours$Route" 1 Lib.objectInit, .methodLink "SillHours$Route" 13 m_Math_max.1, .classLink "SillHours$Route" 22 (am_cR 7), .classLink "SillHours" 32 (am_cR 2), .classLink "SillHours" 38 (am_cR 7), .classLink "SillHours" 44 (am_cR 6), .classLink "SillHours" 54 (am_cR 10), .instantiable (am_cR 10) (am_cN 10), .instanceMethod m_Windows_init.1, .code m_Windows_init.1 m_Windows_init.2.1 m_Windows_init.2.2.1 m_Windows_init.2.2.2.1]
set_option maxRecDepth 100000 in
theorem am_U3_ok : ∀ w ∈ am_U3, w ∈ am_tbl := am_sb_tb (by decide +kernel) (by decide +kernel)
def am_U4 : List Cond := [.methodLink "SillHours$Windows" 1 Lib.objectInit, .classLink "SillHours$Windows" 7 (am_cR 8), .instantiable (am_cR 8) (am_cN 8), .methodLink "SillHours$Windows" 11 m_Spans_init.1, .instanceMethod m_Spans_init.1, .code m_Spans_init.1 m_Spans_init.2.1 m_Spans_init.2.2.1 m_Spans_init.2.2.2.1, .methodLink "SillHours$Spans" 1 Lib.objectInit, .methodLink "SillHours$Spans" 13 m_Math_max.1, .classLink "SillHours" 61 (am_cR 8), .methodLink "SillHours" 63 m_Spans_init.1, .classLink "SillHours" 68 (am_cR 1), .instantiable (am_cR 1) (am_cN 1), .methodLink "SillHours" 70 m_Planner_init.1, .instanceMethod m_Planner_init.1, .code m_Planner_init.1 m_Planner_init.2.1 m_Planner_init.2.2.1 m_Planner_init.2.2.2.1, .methodLink "SillHours$Planner" 3 Lib.objectInit, .classLink "SillHours$Planner" 9 (am_cR 10), .classLink "SillHours$Planner" 18 (am_cR 8), .methodLink "SillHours$Planner" 20 m_Spans_init.1, .classLink "SillHours" 75 (am_cR 0), .instantiable (am_cR 0) (am_cN 0), .instanceMethod m_Page_init.1, .code m_Page_init.1 m_Page_init.2.1 m_Page_init.2.2.1 m_Page_init.2.2.2.1, .methodLink "SillHours$Page" 1 Lib.objectInit, .arrayClass .char, .methodLink "SillHoursLaw" 13 m_Main_feed.1, .instanceMethod m_Main_feed.1, .selects "SillHours" m_Main_feed.1 m_Main_feed.1, .code m_Main_feed.1 m_Main_feed.2.1 m_Main_feed.2.2.1 m_Main_feed.2.2.2.1, .methodLink "SillHours" 104 m_Tape_hasRoomFor.1, .instanceMethod m_Tape_hasRoomFor.1, .selects "SillHours$Tape" m_Tape_hasRoomFor.1 m_Tape_hasRoomFor.1, .code m_Tape_hasRoomFor.1 m_Tape_hasRoomFor.2.1 m_Tape_hasRoomFor.2.2.1 m_Tape_hasRoomFor.2.2.2.1, .methodLink "SillHours" 108 m_Main_refuse.1, .instanceMethod m_Main_refuse.1, .code m_Main_refuse.1 m_Main_refuse.2.1 m_Main_refuse.2.2.1 m_Main_refuse.2.2.2.1, .methodLink "SillHours" 112 m_Tape_append.1, .instanceMethod m_Tape_append.1, .selects "SillHours$Tape" m_Tape_append.1 m_Tape_append.1, .code m_Tape_append.1 m_Tape_append.2.1 m_Tape_append.2.2.1 m_Tape_append.2.2.2.1]
set_option maxRecDepth 100000 in
theorem am_U4_ok : ∀ w ∈ am_U4, w ∈ am_tbl := am_sb_tb (by decide +kernel) (by decide +kernel)
def am_U5 : List Cond := [.methodLink "SillHours" 115 m_Tape_size.1, .instanceMethod m_Tape_size.1, .selects "SillHours$Tape" m_Tape_size.1 m_Tape_size.1, .code m_Tape_size.1 m_Tape_size.2.1 m_Tape_size.2.2.1 m_Tape_size.2.2.2.1, .methodLink "SillHours" 119 m_Main_answer.1, .instanceMethod m_Main_answer.1, .code m_Main_answer.1 m_Main_answer.2.1 m_Main_answer.2.2.1 m_Main_answer.2.2.2.1, .methodLink "SillHoursLaw" 18 m_Main_end.1, .instanceMethod m_Main_end.1, .selects "SillHours" m_Main_end.1 m_Main_end.1, .code m_Main_end.1 m_Main_end.2.1 m_Main_end.2.2.1 m_Main_end.2.2.2.1, .methodLink "SillHours" 122 m_Tape_keepFirst.1, .instanceMethod m_Tape_keepFirst.1, .selects "SillHours$Tape" m_Tape_keepFirst.1 m_Tape_keepFirst.1, .code m_Tape_keepFirst.1 m_Tape_keepFirst.2.1 m_Tape_keepFirst.2.2.1 m_Tape_keepFirst.2.2.2.1, .methodLink "SillHoursLaw" 23 m_Main_port.1, .instanceMethod m_Main_port.1, .selects "SillHours" m_Main_port.1 m_Main_port.1, .code m_Main_port.1 m_Main_port.2.1 m_Main_port.2.2.1 m_Main_port.2.2.2.1, .methodLink "SillHours" 125 m_Main_addTable.1, .instanceMethod m_Main_addTable.1, .code m_Main_addTable.1 m_Main_addTable.2.1 m_Main_addTable.2.2.1 m_Main_addTable.2.2.2.1, .methodLink "SillHours" 136 m_Tape_rewind.1, .instanceMethod m_Tape_rewind.1, .selects "SillHours$Tape" m_Tape_rewind.1 m_Tape_rewind.1, .code m_Tape_rewind.1 m_Tape_rewind.2.1 m_Tape_rewind.2.2.1 m_Tape_rewind.2.2.2.1, .methodLink "SillHours$Tape" 24 m_Tape_moveTo.1, .instanceMethod m_Tape_moveTo.1, .code m_Tape_moveTo.1 m_Tape_moveTo.2.1 m_Tape_moveTo.2.2.1 m_Tape_moveTo.2.2.2.1, .methodLink "SillHours" 297 m_Draft_readTable.1, .instanceMethod m_Draft_readTable.1, .selects "SillHours$PortDraft" m_Draft_readTable.1 m_Draft_readTable.1, .code m_Draft_readTable.1 m_Draft_readTable.2.1 m_Draft_readTable.2.2.1 m_Draft_readTable.2.2.2.1, .methodLink "SillHours$PortDraft" 43 m_Draft_readTurn.1, .instanceMethod m_Draft_readTurn.1, .code m_Draft_readTurn.1 m_Draft_readTurn.2.1 m_Draft_readTurn.2.2.1 m_Draft_readTurn.2.2.2.1, .methodLink "SillHours$PortDraft" 118 m_Tape_takeWord.1, .instanceMethod m_Tape_takeWord.1, .selects "SillHours$Tape" m_Tape_takeWord.1 m_Tape_takeWord.1, .code m_Tape_takeWord.1 m_Tape_takeWord.2.1 m_Tape_takeWord.2.2.1 m_Tape_takeWord.2.2.2.1]
set_option maxRecDepth 100000 in
theorem am_U5_ok : ∀ w ∈ am_U5, w ∈ am_tbl := am_sb_tb (by decide +kernel) (by decide +kernel)
def am_U6 : List Cond := [.methodLink "SillHours$Tape" 36 m_Str_length.1, .instanceMethod m_Str_length.1, .selects "java/lang/String" m_Str_length.1 m_Str_length.1, .code m_Str_length.1 m_Str_length.2.1 m_Str_length.2.2.1 m_Str_length.2.2.2.1, .methodLink "java/lang/String" 335 m_Str_coder.1, .instanceMethod m_Str_coder.1, .selects "java/lang/String" m_Str_coder.1 m_Str_coder.1, .code m_Str_coder.1 m_Str_coder.2.1 m_Str_coder.2.2.1 m_Str_coder.2.2.2.1, .methodLink "SillHours$Tape" 28 m_Tape_byteAt.1, .instanceMethod m_Tape_byteAt.1, .code m_Tape_byteAt.1 m_Tape_byteAt.2.1 m_Tape_byteAt.2.2.1 m_Tape_byteAt.2.2.2.1, .methodLink "SillHours$Tape" 42 m_Tape_isLetter.1, .static m_Tape_isLetter.1, .code m_Tape_isLetter.1 m_Tape_isLetter.2.1 m_Tape_isLetter.2.2.1 m_Tape_isLetter.2.2.2.1, .methodLink "SillHours$Tape" 46 m_Str_charAt.1, .instanceMethod m_Str_charAt.1, .selects "java/lang/String" m_Str_charAt.1 m_Str_charAt.1, .code m_Str_charAt.1 m_Str_charAt.2.1 m_Str_charAt.2.2.1 m_Str_charAt.2.2.2.1, .methodLink "java/lang/String" 492 m_Str_isLatin1.1, .instanceMethod m_Str_isLatin1.1, .selects "java/lang/String" m_Str_isLatin1.1 m_Str_isLatin1.1, .code m_Str_isLatin1.1 m_Str_isLatin1.2.1 m_Str_isLatin1.2.2.1 m_Str_isLatin1.2.2.2.1, .methodLink "java/lang/String" 495 m_Lat_charAt.1, .static m_Lat_charAt.1, .code m_Lat_charAt.1 m_Lat_charAt.2.1 m_Lat_charAt.2.2.1 m_Lat_charAt.2.2.2.1, .methodLink "java/lang/StringLatin1" 9 m_Str_checkIndex.1, .static m_Str_checkIndex.1, .code m_Str_checkIndex.1 m_Str_checkIndex.2.1 m_Str_checkIndex.2.2.1 m_Str_checkIndex.2.2.2.1, .methodLink "java/lang/String" 1059 m_Pre_checkIndex.1, .static m_Pre_checkIndex.1, .code m_Pre_checkIndex.1 m_Pre_checkIndex.2.1 m_Pre_checkIndex.2.2.1 m_Pre_checkIndex.2.2.2.1, .methodLink "SillHours$PortDraft" 55 m_Tape_wantWord.1, .instanceMethod m_Tape_wantWord.1, .selects "SillHours$Tape" m_Tape_wantWord.1 m_Tape_wantWord.1, .code m_Tape_wantWord.1 m_Tape_wantWord.2.1 m_Tape_wantWord.2.2.1 m_Tape_wantWord.2.2.2.1, .methodLink "SillHours$Tape" 50 m_Tape_takeWord.1, .methodLink "SillHours$PortDraft" 122 m_Tape_wantNumber.1, .instanceMethod m_Tape_wantNumber.1, .selects "SillHours$Tape" m_Tape_wantNumber.1 m_Tape_wantNumber.1, .code m_Tape_wantNumber.1 m_Tape_wantNumber.2.1 m_Tape_wantNumber.2.2.1 m_Tape_wantNumber.2.2.2.1]
set_option maxRecDepth 100000 in
theorem am_U6_ok : ∀ w ∈ am_U6, w ∈ am_tbl := am_sb_tb (by decide +kernel) (by decide +kernel)
def am_U7 : List Cond := [.methodLink "SillHours$Tape" 54 m_Tape_isDigit.1, .static m_Tape_isDigit.1, .code m_Tape_isDigit.1 m_Tape_isDigit.2.1 m_Tape_isDigit.2.2.1 m_Tape_isDigit.2.2.2.1, .methodLink "SillHours$PortDraft" 125 m_Tape_wantSize.1, .instanceMethod m_Tape_wantSize.1, .selects "SillHours$Tape" m_Tape_wantSize.1 m_Tape_wantSize.1, .code m_Tape_wantSize.1 m_Tape_wantSize.2.1 m_Tape_wantSize.2.2.1 m_Tape_wantSize.2.2.2.1, .methodLink "SillHours$Tape" 32 m_Tape_takeMark.1, .instanceMethod m_Tape_takeMark.1, .selects "SillHours$Tape" m_Tape_takeMark.1 m_Tape_takeMark.1, .code m_Tape_takeMark.1 m_Tape_takeMark.2.1 m_Tape_takeMark.2.2.1 m_Tape_takeMark.2.2.2.1, .methodLink "SillHours$Tape" 57 m_Tape_wantNumber.1, .methodLink "SillHours$PortDraft" 47 m_Tape_takeMark.1, .methodLink "SillHours" 143 m_Main_textWasRight.1, .instanceMethod m_Main_textWasRight.1, .code m_Main_textWasRight.1 m_Main_textWasRight.2.1 m_Main_textWasRight.2.2.1 m_Main_textWasRight.2.2.2.1, .methodLink "SillHours" 291 m_Tape_isReadWhole.1, .instanceMethod m_Tape_isReadWhole.1, .selects "SillHours$Tape" m_Tape_isReadWhole.1 m_Tape_isReadWhole.1, .code m_Tape_isReadWhole.1 m_Tape_isReadWhole.2.1 m_Tape_isReadWhole.2.2.1 m_Tape_isReadWhole.2.2.2.1, .methodLink "SillHours" 294 m_Tape_readTo.1, .instanceMethod m_Tape_readTo.1, .selects "SillHours$Tape" m_Tape_readTo.1 m_Tape_readTo.1, .code m_Tape_readTo.1 m_Tape_readTo.2.1 m_Tape_readTo.2.2.1 m_Tape_readTo.2.2.2.1, .methodLink "SillHours" 300 m_Draft_followOn.1, .instanceMethod m_Draft_followOn.1, .selects "SillHours$PortDraft" m_Draft_followOn.1 m_Draft_followOn.1, .code m_Draft_followOn.1 m_Draft_followOn.2.1 m_Draft_followOn.2.2.1 m_Draft_followOn.2.2.2.1, .methodLink "SillHours$PortDraft" 68 m_Port_clear.1, .instanceMethod m_Port_clear.1, .selects "SillHours$Port" m_Port_clear.1 m_Port_clear.1, .code m_Port_clear.1 m_Port_clear.2.1 m_Port_clear.2.2.1 m_Port_clear.2.2.2.1, .methodLink "SillHours$PortDraft" 71 m_Port_copyFrom.1, .instanceMethod m_Port_copyFrom.1, .selects "SillHours$Port" m_Port_copyFrom.1 m_Port_copyFrom.1, .code m_Port_copyFrom.1 m_Port_copyFrom.2.1 m_Port_copyFrom.2.2.1 m_Port_copyFrom.2.2.2.1, .methodLink "SillHours$Port" 44 m_Port_turnCount.1, .instanceMethod m_Port_turnCount.1, .selects "SillHours$Port" m_Port_turnCount.1 m_Port_turnCount.1, .code m_Port_turnCount.1 m_Port_turnCount.2.1 m_Port_turnCount.2.2.1 m_Port_turnCount.2.2.2.1]
set_option maxRecDepth 100000 in
theorem am_U7_ok : ∀ w ∈ am_U7, w ∈ am_tbl := am_sb_tb (by decide +kernel) (by decide +kernel)
def am_U8 : List Cond := [.methodLink "SillHours$Port" 47 m_Port_isHigh.1, .instanceMethod m_Port_isHigh.1, .selects "SillHours$Port" m_Port_isHigh.1 m_Port_isHigh.1, .code m_Port_isHigh.1 m_Port_isHigh.2.1 m_Port_isHigh.2.2.1 m_Port_isHigh.2.2.2.1, .methodLink "SillHours$Port" 33 m_Port_minuteOf.1, .instanceMethod m_Port_minuteOf.1, .selects "SillHours$Port" m_Port_minuteOf.1 m_Port_minuteOf.1, .code m_Port_minuteOf.1 m_Port_minuteOf.2.1 m_Port_minuteOf.2.2.1 m_Port_minuteOf.2.2.2.1, .methodLink "SillHours$Port" 51 m_Port_heightOf.1, .instanceMethod m_Port_heightOf.1, .selects "SillHours$Port" m_Port_heightOf.1 m_Port_heightOf.1, .code m_Port_heightOf.1 m_Port_heightOf.2.1 m_Port_heightOf.2.2.1 m_Port_heightOf.2.2.2.1, .methodLink "SillHours$Port" 54 m_Port_add.1, .instanceMethod m_Port_add.1, .selects "SillHours$Port" m_Port_add.1 m_Port_add.1, .code m_Port_add.1 m_Port_add.2.1 m_Port_add.2.2.1 m_Port_add.2.2.2.1, .methodLink "SillHours$PortDraft" 75 m_Port_faultOfNext.1, .instanceMethod m_Port_faultOfNext.1, .selects "SillHours$Port" m_Port_faultOfNext.1 m_Port_faultOfNext.1, .code m_Port_faultOfNext.1 m_Port_faultOfNext.2.1 m_Port_faultOfNext.2.2.1 m_Port_faultOfNext.2.2.2.1, .methodLink "SillHours$Port" 61 m_Port_faultOfHeight.1, .instanceMethod m_Port_faultOfHeight.1, .selects "SillHours$Port" m_Port_faultOfHeight.1 m_Port_faultOfHeight.1, .code m_Port_faultOfHeight.1 m_Port_faultOfHeight.2.1 m_Port_faultOfHeight.2.2.1 m_Port_faultOfHeight.2.2.2.1, .methodLink "SillHours$Port" 71 m_Port_isHeight.1, .static m_Port_isHeight.1, .code m_Port_isHeight.1 m_Port_isHeight.2.1 m_Port_isHeight.2.2.1 m_Port_isHeight.2.2.2.1, .methodLink "SillHours$Port" 65 m_Port_minuteOfNext.1, .instanceMethod m_Port_minuteOfNext.1, .selects "SillHours$Port" m_Port_minuteOfNext.1 m_Port_minuteOfNext.1, .code m_Port_minuteOfNext.1 m_Port_minuteOfNext.2.1 m_Port_minuteOfNext.2.2.1 m_Port_minuteOfNext.2.2.2.1, .methodLink "SillHours$Port" 41 m_Port_lastMinute.1, .instanceMethod m_Port_lastMinute.1, .selects "SillHours$Port" m_Port_lastMinute.1 m_Port_lastMinute.1, .code m_Port_lastMinute.1 m_Port_lastMinute.2.1 m_Port_lastMinute.2.2.1 m_Port_lastMinute.2.2.2.1, .methodLink "SillHours$Port" 58 m_Math_floorMod.1, .static m_Math_floorMod.1, .code m_Math_floorMod.1 m_Math_floorMod.2.1 m_Math_floorMod.2.2.1 m_Math_floorMod.2.2.2.1, .methodLink "SillHours$Port" 68 m_Port_faultOfMinute.1, .instanceMethod m_Port_faultOfMinute.1]
set_option maxRecDepth 100000 in
theorem am_U8_ok : ∀ w ∈ am_U8, w ∈ am_tbl := am_sb_tb (by decide +kernel) (by decide +kernel)
def am_U9 : List Cond := [.selects "SillHours$Port" m_Port_faultOfMinute.1 m_Port_faultOfMinute.1, .code m_Port_faultOfMinute.1 m_Port_faultOfMinute.2.1 m_Port_faultOfMinute.2.2.1 m_Port_faultOfMinute.2.2.2.1, .methodLink "SillHours$PortDraft" 79 m_Port_minuteOfNext.1, .methodLink "SillHours$PortDraft" 83 m_Port_add.1, .methodLink "SillHours" 150 m_Main_keepPort.1, .instanceMethod m_Main_keepPort.1, .code m_Main_keepPort.1 m_Main_keepPort.2.1 m_Main_keepPort.2.2.1 m_Main_keepPort.2.2.2.1, .methodLink "SillHours" 303 m_Draft_made.1, .instanceMethod m_Draft_made.1, .selects "SillHours$PortDraft" m_Draft_made.1 m_Draft_made.1, .code m_Draft_made.1 m_Draft_made.2.1 m_Draft_made.2.2.1 m_Draft_made.2.2.2.1, .methodLink "SillHours" 190 m_Port_turnCount.1, .methodLink "SillHours" 162 m_Main_judge.1, .instanceMethod m_Main_judge.1, .code m_Main_judge.1 m_Main_judge.2.1 m_Main_judge.2.2.1 m_Main_judge.2.2.2.1, .methodLink "SillHours" 307 m_Port_init.1, .methodLink "SillHours" 308 m_Port_copyFrom.1, .methodLink "SillHoursLaw" 28 m_Main_longer.1, .instanceMethod m_Main_longer.1, .selects "SillHours" m_Main_longer.1 m_Main_longer.1, .code m_Main_longer.1 m_Main_longer.2.1 m_Main_longer.2.2.1 m_Main_longer.2.2.2.1, .methodLink "SillHours" 129 m_Main_portAt.1, .instanceMethod m_Main_portAt.1, .code m_Main_portAt.1 m_Main_portAt.2.1 m_Main_portAt.2.2.1 m_Main_portAt.2.2.2.1, .methodLink "SillHours" 133 m_Main_refuseUnread.1, .instanceMethod m_Main_refuseUnread.1, .code m_Main_refuseUnread.1 m_Main_refuseUnread.2.1 m_Main_refuseUnread.2.2.1 m_Main_refuseUnread.2.2.2.1, .methodLink "SillHoursLaw" 32 m_Main_second.1, .instanceMethod m_Main_second.1, .selects "SillHours" m_Main_second.1 m_Main_second.1, .code m_Main_second.1 m_Main_second.2.1 m_Main_second.2.2.1 m_Main_second.2.2.2.1, .methodLink "SillHours" 139 m_Draft_readDifferences.1, .instanceMethod m_Draft_readDifferences.1, .selects "SillHours$PortDraft" m_Draft_readDifferences.1 m_Draft_readDifferences.1, .code m_Draft_readDifferences.1 m_Draft_readDifferences.2.1 m_Draft_readDifferences.2.2.1 m_Draft_readDifferences.2.2.2.1, .methodLink "SillHours$PortDraft" 59 m_Shift_readFrom.1, .instanceMethod m_Shift_readFrom.1, .selects "SillHours$Shift" m_Shift_readFrom.1 m_Shift_readFrom.1, .code m_Shift_readFrom.1 m_Shift_readFrom.2.1 m_Shift_readFrom.2.2.1 m_Shift_readFrom.2.2.2.1, .methodLink "SillHours$Shift" 25 m_Tape_wantStep.1]
set_option maxRecDepth 100000 in
theorem am_U9_ok : ∀ w ∈ am_U9, w ∈ am_tbl := am_sb_tb (by decide +kernel) (by decide +kernel)
def am_U10 : List Cond := [.instanceMethod m_Tape_wantStep.1, .selects "SillHours$Tape" m_Tape_wantStep.1 m_Tape_wantStep.1, .code m_Tape_wantStep.1 m_Tape_wantStep.2.1 m_Tape_wantStep.2.2.1 m_Tape_wantStep.2.2.2.1, .methodLink "SillHours$Tape" 60 m_Tape_wantMark.1, .instanceMethod m_Tape_wantMark.1, .selects "SillHours$Tape" m_Tape_wantMark.1 m_Tape_wantMark.1, .code m_Tape_wantMark.1 m_Tape_wantMark.2.1 m_Tape_wantMark.2.2.1 m_Tape_wantMark.2.2.2.1, .methodLink "SillHours$Shift" 31 m_Tape_wantSize.1, .methodLink "SillHours$PortDraft" 62 m_Tape_wantMark.1, .methodLink "SillHours" 147 m_Draft_shiftFrom.1, .instanceMethod m_Draft_shiftFrom.1, .selects "SillHours$PortDraft" m_Draft_shiftFrom.1 m_Draft_shiftFrom.1, .code m_Draft_shiftFrom.1 m_Draft_shiftFrom.2.1 m_Draft_shiftFrom.2.2.1 m_Draft_shiftFrom.2.2.2.1, .methodLink "SillHours$PortDraft" 87 m_Shift_isSound.1, .instanceMethod m_Shift_isSound.1, .selects "SillHours$Shift" m_Shift_isSound.1 m_Shift_isSound.1, .code m_Shift_isSound.1 m_Shift_isSound.2.1 m_Shift_isSound.2.2.1 m_Shift_isSound.2.2.2.1, .methodLink "SillHours$Shift" 34 m_Port_isHeight.1, .methodLink "SillHours$Shift" 40 m_Shift_isStep.1, .static m_Shift_isStep.1, .code m_Shift_isStep.1 m_Shift_isStep.2.1 m_Shift_isStep.2.2.1 m_Shift_isStep.2.2.2.1, .methodLink "SillHours$PortDraft" 91 m_Port_turnCount.1, .methodLink "SillHours$PortDraft" 95 m_Port_isHigh.1, .methodLink "SillHours$PortDraft" 99 m_Port_minuteOf.1, .methodLink "SillHours$PortDraft" 102 m_Shift_minuteFor.1, .instanceMethod m_Shift_minuteFor.1, .selects "SillHours$Shift" m_Shift_minuteFor.1 m_Shift_minuteFor.1, .code m_Shift_minuteFor.1 m_Shift_minuteFor.2.1 m_Shift_minuteFor.2.2.1 m_Shift_minuteFor.2.2.2.1, .methodLink "SillHours$PortDraft" 105 m_Port_heightOf.1, .methodLink "SillHours$PortDraft" 108 m_Shift_heightFor.1, .instanceMethod m_Shift_heightFor.1, .selects "SillHours$Shift" m_Shift_heightFor.1 m_Shift_heightFor.1, .code m_Shift_heightFor.1 m_Shift_heightFor.2.1 m_Shift_heightFor.2.2.1 m_Shift_heightFor.2.2.2.1, .methodLink "SillHours$Shift" 43 m_Math_floorDiv.1, .static m_Math_floorDiv.1, .code m_Math_floorDiv.1 m_Math_floorDiv.2.1 m_Math_floorDiv.2.2.1 m_Math_floorDiv.2.2.2.1, .methodLink "SillHours$PortDraft" 111 m_Port_faultOfHeight.1, .methodLink "SillHours$PortDraft" 115 m_Port_faultOfMinute.1, .methodLink "SillHoursLaw" 36 m_Main_sill.1, .instanceMethod m_Main_sill.1]
set_option maxRecDepth 100000 in
theorem am_U10_ok : ∀ w ∈ am_U10, w ∈ am_tbl := am_sb_tb (by decide +kernel) (by decide +kernel)
def am_U11 : List Cond := [.selects "SillHours" m_Main_sill.1 m_Main_sill.1, .code m_Main_sill.1 m_Main_sill.2.1 m_Main_sill.2.2.1 m_Main_sill.2.2.2.1, .instantiable (am_cR 7) (am_cN 7), .methodLink "SillHours" 153 m_Sill_init.1, .instanceMethod m_Sill_init.1, .code m_Sill_init.1 m_Sill_init.2.1 m_Sill_init.2.2.1 m_Sill_init.2.2.2.1, .methodLink "SillHours$Sill" 1 Lib.objectInit, .methodLink "SillHours" 156 m_Sill_readFrom.1, .instanceMethod m_Sill_readFrom.1, .selects "SillHours$Sill" m_Sill_readFrom.1 m_Sill_readFrom.1, .code m_Sill_readFrom.1 m_Sill_readFrom.2.1 m_Sill_readFrom.2.2.1 m_Sill_readFrom.2.2.2.1, .methodLink "SillHours$Sill" 28 m_Tape_takeWord.1, .methodLink "SillHours$Sill" 40 m_Tape_wantWord.1, .methodLink "SillHours$Sill" 44 m_Tape_wantSize.1, .methodLink "SillHours$Sill" 48 m_Sill_hasTwoNumbers.1, .instanceMethod m_Sill_hasTwoNumbers.1, .selects "SillHours$Sill" m_Sill_hasTwoNumbers.1 m_Sill_hasTwoNumbers.1, .code m_Sill_hasTwoNumbers.1 m_Sill_hasTwoNumbers.2.1 m_Sill_hasTwoNumbers.2.2.1 m_Sill_hasTwoNumbers.2.2.2.1, .methodLink "SillHours$Sill" 52 m_Tape_wantNumber.1, .methodLink "SillHours" 159 m_Sill_findFault.1, .instanceMethod m_Sill_findFault.1, .selects "SillHours$Sill" m_Sill_findFault.1 m_Sill_findFault.1, .code m_Sill_findFault.1 m_Sill_findFault.2.1 m_Sill_findFault.2.2.1 m_Sill_findFault.2.2.2.1, .methodLink "SillHours$Sill" 55 m_Port_isHeight.1, .methodLink "SillHoursLaw" 40 m_Main_ship.1, .instanceMethod m_Main_ship.1, .selects "SillHours" m_Main_ship.1 m_Main_ship.1, .code m_Main_ship.1 m_Main_ship.2.1 m_Main_ship.2.2.1 m_Main_ship.2.2.2.1, .instantiable (am_cR 6) (am_cN 6), .instanceMethod m_Ship_init.1, .code m_Ship_init.1 m_Ship_init.2.1 m_Ship_init.2.2.1 m_Ship_init.2.2.2.1, .methodLink "SillHours$Ship" 1 Lib.objectInit, .methodLink "SillHours" 167 m_Ship_readFrom.1, .instanceMethod m_Ship_readFrom.1, .selects "SillHours$Ship" m_Ship_readFrom.1 m_Ship_readFrom.1, .code m_Ship_readFrom.1 m_Ship_readFrom.2.1 m_Ship_readFrom.2.2.1 m_Ship_readFrom.2.2.2.1, .methodLink "SillHours$Ship" 19 m_Tape_wantNumber.1, .methodLink "SillHours" 168 m_Ship_findFault.1, .instanceMethod m_Ship_findFault.1, .selects "SillHours$Ship" m_Ship_findFault.1 m_Ship_findFault.1]
set_option maxRecDepth 100000 in
theorem am_U11_ok : ∀ w ∈ am_U11, w ∈ am_tbl := am_sb_tb (by decide +kernel) (by decide +kernel)
def am_U12 : List Cond := [.code m_Ship_findFault.1 m_Ship_findFault.2.1 m_Ship_findFault.2.2.1 m_Ship_findFault.2.2.2.1, .methodLink "SillHoursLaw" 44 m_Main_route.1, .instanceMethod m_Main_route.1, .selects "SillHours" m_Main_route.1 m_Main_route.1, .code m_Main_route.1 m_Main_route.2.1 m_Main_route.2.2.1 m_Main_route.2.2.2.1, .methodLink "SillHours" 169 m_Route_readFrom.1, .instanceMethod m_Route_readFrom.1, .selects "SillHours$Route" m_Route_readFrom.1 m_Route_readFrom.1, .code m_Route_readFrom.1 m_Route_readFrom.2.1 m_Route_readFrom.2.2.1 m_Route_readFrom.2.2.2.1, .methodLink "SillHours$Route" 66 m_Route_readStop.1, .instanceMethod m_Route_readStop.1, .code m_Route_readStop.1 m_Route_readStop.2.1 m_Route_readStop.2.2.1 m_Route_readStop.2.2.2.1, .methodLink "SillHours$Route" 76 m_Tape_wantNumber.1, .methodLink "SillHours$Route" 70 m_Tape_takeMark.1, .methodLink "SillHours$Route" 84 m_Tape_wantSize.1, .methodLink "SillHours$Route" 62 m_Route_add.1, .instanceMethod m_Route_add.1, .code m_Route_add.1 m_Route_add.2.1 m_Route_add.2.2.1 m_Route_add.2.2.2.1, .methodLink "SillHours" 170 m_Route_stopCount.1, .instanceMethod m_Route_stopCount.1, .selects "SillHours$Route" m_Route_stopCount.1 m_Route_stopCount.1, .code m_Route_stopCount.1 m_Route_stopCount.2.1 m_Route_stopCount.2.2.1 m_Route_stopCount.2.2.2.1, .methodLink "SillHours" 173 m_Route_findFault.1, .instanceMethod m_Route_findFault.1, .selects "SillHours$Route" m_Route_findFault.1 m_Route_findFault.1, .code m_Route_findFault.1 m_Route_findFault.2.1 m_Route_findFault.2.2.1 m_Route_findFault.2.2.2.1, .methodLink "SillHours$Route" 53 m_Route_sillNumberOf.1, .instanceMethod m_Route_sillNumberOf.1, .selects "SillHours$Route" m_Route_sillNumberOf.1 m_Route_sillNumberOf.1, .code m_Route_sillNumberOf.1 m_Route_sillNumberOf.2.1 m_Route_sillNumberOf.2.2.1 m_Route_sillNumberOf.2.2.2.1, .methodLink "SillHours$Route" 41 m_Route_isStop.1, .instanceMethod m_Route_isStop.1, .code m_Route_isStop.1 m_Route_isStop.2.1 m_Route_isStop.2.2.1 m_Route_isStop.2.2.2.1, .methodLink "SillHours$Route" 59 m_Route_levelOf.1, .instanceMethod m_Route_levelOf.1, .selects "SillHours$Route" m_Route_levelOf.1 m_Route_levelOf.1, .code m_Route_levelOf.1 m_Route_levelOf.2.1 m_Route_levelOf.2.2.1 m_Route_levelOf.2.2.2.1, .methodLink "SillHours$Route" 79 m_Port_isHeight.1, .methodLink "SillHours" 175 m_Route_copyFrom.1, .instanceMethod m_Route_copyFrom.1]
set_option maxRecDepth 100000 in
theorem am_U12_ok : ∀ w ∈ am_U12, w ∈ am_tbl := am_sb_tb (by decide +kernel) (by decide +kernel)
def am_U13 : List Cond := [.selects "SillHours$Route" m_Route_copyFrom.1 m_Route_copyFrom.1, .code m_Route_copyFrom.1 m_Route_copyFrom.2.1 m_Route_copyFrom.2.2.1 m_Route_copyFrom.2.2.2.1, .methodLink "SillHours$Route" 45 m_Route_stopCount.1, .methodLink "SillHours$Route" 49 m_Route_milesTo.1, .instanceMethod m_Route_milesTo.1, .selects "SillHours$Route" m_Route_milesTo.1 m_Route_milesTo.1, .code m_Route_milesTo.1 m_Route_milesTo.2.1 m_Route_milesTo.2.2.1 m_Route_milesTo.2.2.2.1, .methodLink "SillHours$Route" 56 m_Route_kindOf.1, .instanceMethod m_Route_kindOf.1, .selects "SillHours$Route" m_Route_kindOf.1 m_Route_kindOf.1, .code m_Route_kindOf.1 m_Route_kindOf.2.1 m_Route_kindOf.2.2.1 m_Route_kindOf.2.2.2.1, .methodLink "SillHours" 179 m_Route_sillNumberOf.1, .methodLink "SillHours" 182 m_Main_sillAt.1, .instanceMethod m_Main_sillAt.1, .code m_Main_sillAt.1 m_Main_sillAt.2.1 m_Main_sillAt.2.2.1 m_Main_sillAt.2.2.2.1, .methodLink "SillHours" 186 m_Route_setSill.1, .instanceMethod m_Route_setSill.1, .selects "SillHours$Route" m_Route_setSill.1 m_Route_setSill.1, .code m_Route_setSill.1 m_Route_setSill.2.1 m_Route_setSill.2.2.1 m_Route_setSill.2.2.2.1, .methodLink "SillHoursLaw" 48 m_Main_place.1, .instanceMethod m_Main_place.1, .selects "SillHours" m_Main_place.1 m_Main_place.1, .code m_Main_place.1 m_Main_place.2.1 m_Main_place.2.2.1 m_Main_place.2.2.2.1, .methodLink "SillHoursLaw" 52 m_Main_fault.1, .instanceMethod m_Main_fault.1, .selects "SillHours" m_Main_fault.1 m_Main_fault.1, .code m_Main_fault.1 m_Main_fault.2.1 m_Main_fault.2.2.1 m_Main_fault.2.2.2.1, .methodLink "SillHoursLaw" 56 m_Main_count.1, .instanceMethod m_Main_count.1, .selects "SillHours" m_Main_count.1 m_Main_count.1, .code m_Main_count.1 m_Main_count.2.1 m_Main_count.2.2.1 m_Main_count.2.2.2.1, .methodLink "SillHoursLaw" 60 m_Main_turns.1, .instanceMethod m_Main_turns.1, .selects "SillHours" m_Main_turns.1 m_Main_turns.1, .code m_Main_turns.1 m_Main_turns.2.1 m_Main_turns.2.2.1 m_Main_turns.2.2.2.1, .methodLink "SillHoursLaw" 64 m_Main_turn.1, .instanceMethod m_Main_turn.1, .selects "SillHours" m_Main_turn.1 m_Main_turn.1, .code m_Main_turn.1 m_Main_turn.2.1 m_Main_turn.2.2.1 m_Main_turn.2.2.2.1, .methodLink "SillHours" 193 m_Port_minuteOf.1]
set_option maxRecDepth 100000 in
theorem am_U13_ok : ∀ w ∈ am_U13, w ∈ am_tbl := am_sb_tb (by decide +kernel) (by decide +kernel)
def am_U14 : List Cond := [.methodLink "SillHours" 196 m_Port_heightOf.1, .methodLink "SillHours" 199 m_Port_isHigh.1, .methodLink "SillHoursLaw" 69 m_Main_water.1, .instanceMethod m_Main_water.1, .selects "SillHours" m_Main_water.1 m_Main_water.1, .code m_Main_water.1 m_Main_water.2.1 m_Main_water.2.2.1 m_Main_water.2.2.2.1, .methodLink "SillHours" 202 m_Port_hasMinute.1, .instanceMethod m_Port_hasMinute.1, .selects "SillHours$Port" m_Port_hasMinute.1 m_Port_hasMinute.1, .code m_Port_hasMinute.1 m_Port_hasMinute.2.1 m_Port_hasMinute.2.2.1 m_Port_hasMinute.2.2.2.1, .methodLink "SillHours$Port" 37 m_Port_firstMinute.1, .instanceMethod m_Port_firstMinute.1, .selects "SillHours$Port" m_Port_firstMinute.1 m_Port_firstMinute.1, .code m_Port_firstMinute.1 m_Port_firstMinute.2.1 m_Port_firstMinute.2.2.1 m_Port_firstMinute.2.2.2.1, .methodLink "SillHours" 205 m_Port_wholeHeightAt.1, .instanceMethod m_Port_wholeHeightAt.1, .selects "SillHours$Port" m_Port_wholeHeightAt.1 m_Port_wholeHeightAt.1, .code m_Port_wholeHeightAt.1 m_Port_wholeHeightAt.2.1 m_Port_wholeHeightAt.2.2.1 m_Port_wholeHeightAt.2.2.2.1, .methodLink "SillHours$Port" 74 m_Port_excess.1, .instanceMethod m_Port_excess.1, .code m_Port_excess.1 m_Port_excess.2.1 m_Port_excess.2.2.1 m_Port_excess.2.2.2.1, .methodLink "SillHours$Port" 78 m_Math_floorDiv.1, .methodLink "SillHoursLaw" 74 m_Main_above.1, .instanceMethod m_Main_above.1, .selects "SillHours" m_Main_above.1 m_Main_above.1, .code m_Main_above.1 m_Main_above.2.1 m_Main_above.2.2.1 m_Main_above.2.2.2.1, .methodLink "SillHours" 208 m_Main_isHeightToAsk.1, .static m_Main_isHeightToAsk.1, .code m_Main_isHeightToAsk.1 m_Main_isHeightToAsk.2.1 m_Main_isHeightToAsk.2.2.1 m_Main_isHeightToAsk.2.2.2.1, .methodLink "SillHoursLaw" 78 m_Main_rise.1, .instanceMethod m_Main_rise.1, .selects "SillHours" m_Main_rise.1 m_Main_rise.1, .code m_Main_rise.1 m_Main_rise.2.1 m_Main_rise.2.2.1 m_Main_rise.2.2.2.1, .methodLink "SillHours" 211 m_Main_firstMinuteWhere.1, .instanceMethod m_Main_firstMinuteWhere.1, .code m_Main_firstMinuteWhere.1 m_Main_firstMinuteWhere.2.1 m_Main_firstMinuteWhere.2.2.1 m_Main_firstMinuteWhere.2.2.2.1, .methodLink "SillHours" 311 m_Port_collect.1, .instanceMethod m_Port_collect.1, .selects "SillHours$Port" m_Port_collect.1 m_Port_collect.1, .code m_Port_collect.1 m_Port_collect.2.1 m_Port_collect.2.2.1 m_Port_collect.2.2.2.1]
set_option maxRecDepth 100000 in
theorem am_U14_ok : ∀ w ∈ am_U14, w ∈ am_tbl := am_sb_tb (by decide +kernel) (by decide +kernel)
def am_U15 : List Cond := [.methodLink "SillHours$Port" 81 m_Spans_clear.1, .instanceMethod m_Spans_clear.1, .selects "SillHours$Spans" m_Spans_clear.1 m_Spans_clear.1, .code m_Spans_clear.1 m_Spans_clear.2.1 m_Spans_clear.2.2.1 m_Spans_clear.2.2.2.1, .methodLink "SillHours$Port" 86 m_Port_firstChange.1, .instanceMethod m_Port_firstChange.1, .code m_Port_firstChange.1 m_Port_firstChange.2.1 m_Port_firstChange.2.2.1 m_Port_firstChange.2.2.2.1, .methodLink "SillHours$Port" 90 m_Port_isOn.1, .static m_Port_isOn.1, .code m_Port_isOn.1 m_Port_isOn.2.1 m_Port_isOn.2.2.1 m_Port_isOn.2.2.2.1, .methodLink "SillHours$Port" 94 m_Spans_add.1, .instanceMethod m_Spans_add.1, .selects "SillHours$Spans" m_Spans_add.1 m_Spans_add.1, .code m_Spans_add.1 m_Spans_add.2.1 m_Spans_add.2.2.1 m_Spans_add.2.2.2.1, .methodLink "SillHours" 315 m_Spans_earliestFrom.1, .instanceMethod m_Spans_earliestFrom.1, .selects "SillHours$Spans" m_Spans_earliestFrom.1 m_Spans_earliestFrom.1, .code m_Spans_earliestFrom.1 m_Spans_earliestFrom.2.1 m_Spans_earliestFrom.2.2.1 m_Spans_earliestFrom.2.2.2.1, .methodLink "SillHours$Spans" 37 m_Spans_lastOf.1, .instanceMethod m_Spans_lastOf.1, .selects "SillHours$Spans" m_Spans_lastOf.1 m_Spans_lastOf.1, .code m_Spans_lastOf.1 m_Spans_lastOf.2.1 m_Spans_lastOf.2.2.1 m_Spans_lastOf.2.2.2.1, .methodLink "SillHours$Spans" 33 m_Spans_firstOf.1, .instanceMethod m_Spans_firstOf.1, .selects "SillHours$Spans" m_Spans_firstOf.1 m_Spans_firstOf.1, .code m_Spans_firstOf.1 m_Spans_firstOf.2.1 m_Spans_firstOf.2.2.1 m_Spans_firstOf.2.2.2.1, .methodLink "SillHoursLaw" 82 m_Main_ebb.1, .instanceMethod m_Main_ebb.1, .selects "SillHours" m_Main_ebb.1 m_Main_ebb.1, .code m_Main_ebb.1 m_Main_ebb.2.1 m_Main_ebb.2.2.1 m_Main_ebb.2.2.2.1, .methodLink "SillHoursLaw" 86 m_Main_hours.1, .instanceMethod m_Main_hours.1, .selects "SillHours" m_Main_hours.1 m_Main_hours.1, .code m_Main_hours.1 m_Main_hours.2.1 m_Main_hours.2.2.1 m_Main_hours.2.2.2.1, .methodLink "SillHours" 215 m_Main_findWindows.1, .instanceMethod m_Main_findWindows.1, .code m_Main_findWindows.1 m_Main_findWindows.2.1 m_Main_findWindows.2.2.1 m_Main_findWindows.2.2.2.1, .methodLink "SillHours" 250 m_Main_shipAt.1, .instanceMethod m_Main_shipAt.1, .code m_Main_shipAt.1 m_Main_shipAt.2.1 m_Main_shipAt.2.2.1 m_Main_shipAt.2.2.2.1]
set_option maxRecDepth 100000 in
theorem am_U15_ok : ∀ w ∈ am_U15, w ∈ am_tbl := am_sb_tb (by decide +kernel) (by decide +kernel)
def am_U16 : List Cond := [.methodLink "SillHours" 318 m_Windows_find.1, .instanceMethod m_Windows_find.1, .selects "SillHours$Windows" m_Windows_find.1 m_Windows_find.1, .code m_Windows_find.1 m_Windows_find.2.1 m_Windows_find.2.2.1 m_Windows_find.2.2.2.1, .methodLink "SillHours$Windows" 28 m_Spans_clear.1, .methodLink "SillHours$Windows" 31 m_Sill_home.1, .instanceMethod m_Sill_home.1, .selects "SillHours$Sill" m_Sill_home.1 m_Sill_home.1, .code m_Sill_home.1 m_Sill_home.2.1 m_Sill_home.2.2.1 m_Sill_home.2.2.2.1, .methodLink "SillHours$Windows" 37 m_Sill_kind.1, .instanceMethod m_Sill_kind.1, .selects "SillHours$Sill" m_Sill_kind.1 m_Sill_kind.1, .code m_Sill_kind.1 m_Sill_kind.2.1 m_Sill_kind.2.2.1 m_Sill_kind.2.2.2.1, .methodLink "SillHours$Windows" 43 m_Sill_level.1, .instanceMethod m_Sill_level.1, .selects "SillHours$Sill" m_Sill_level.1 m_Sill_level.1, .code m_Sill_level.1 m_Sill_level.2.1 m_Sill_level.2.2.1 m_Sill_level.2.2.2.1, .methodLink "SillHours$Windows" 46 m_Ship_draught.1, .instanceMethod m_Ship_draught.1, .selects "SillHours$Ship" m_Ship_draught.1 m_Ship_draught.1, .code m_Ship_draught.1 m_Ship_draught.2.1 m_Ship_draught.2.2.1 m_Ship_draught.2.2.2.1, .methodLink "SillHours$Windows" 51 m_Port_collect.1, .methodLink "SillHours$Windows" 55 m_Windows_findAtGate.1, .instanceMethod m_Windows_findAtGate.1, .code m_Windows_findAtGate.1 m_Windows_findAtGate.2.1 m_Windows_findAtGate.2.2.1 m_Windows_findAtGate.2.2.2.1, .methodLink "SillHours$Windows" 74 m_Port_turnCount.1, .methodLink "SillHours$Windows" 77 m_Port_isHigh.1, .methodLink "SillHours$Windows" 81 m_Port_minuteOf.1, .methodLink "SillHours$Windows" 85 m_Sill_one.1, .instanceMethod m_Sill_one.1, .selects "SillHours$Sill" m_Sill_one.1 m_Sill_one.1, .code m_Sill_one.1 m_Sill_one.2.1 m_Sill_one.2.2.1 m_Sill_one.2.2.2.1, .methodLink "SillHours$Windows" 88 m_Sill_two.1, .instanceMethod m_Sill_two.1, .selects "SillHours$Sill" m_Sill_two.1 m_Sill_two.1, .code m_Sill_two.1 m_Sill_two.2.1 m_Sill_two.2.2.1 m_Sill_two.2.2.2.1, .methodLink "SillHours$Windows" 91 m_Spans_add.1, .methodLink "SillHours$Windows" 95 m_Spans_intersect.1, .instanceMethod m_Spans_intersect.1, .selects "SillHours$Spans" m_Spans_intersect.1 m_Spans_intersect.1]
set_option maxRecDepth 100000 in
theorem am_U16_ok : ∀ w ∈ am_U16, w ∈ am_tbl := am_sb_tb (by decide +kernel) (by decide +kernel)
def am_U17 : List Cond := [.code m_Spans_intersect.1 m_Spans_intersect.2.1 m_Spans_intersect.2.2.1 m_Spans_intersect.2.2.2.1, .methodLink "SillHours$Spans" 30 m_Spans_size.1, .instanceMethod m_Spans_size.1, .selects "SillHours$Spans" m_Spans_size.1 m_Spans_size.1, .code m_Spans_size.1 m_Spans_size.2.1 m_Spans_size.2.2.1 m_Spans_size.2.2.2.1, .methodLink "SillHours$Spans" 44 m_Math_min.1, .static m_Math_min.1, .code m_Math_min.1 m_Math_min.2.1 m_Math_min.2.2.1 m_Math_min.2.2.2.1, .methodLink "SillHours$Spans" 40 m_Spans_add.1, .methodLink "SillHours$Windows" 59 m_Windows_findAtFlap.1, .instanceMethod m_Windows_findAtFlap.1, .code m_Windows_findAtFlap.1 m_Windows_findAtFlap.2.1 m_Windows_findAtFlap.2.2.1 m_Windows_findAtFlap.2.2.2.1, .methodLink "SillHours$Windows" 99 m_Spans_size.1, .methodLink "SillHours$Windows" 102 m_Spans_firstOf.1, .methodLink "SillHours$Windows" 105 m_Spans_lastOf.1, .methodLink "SillHours$Windows" 62 m_Ship_mast.1, .instanceMethod m_Ship_mast.1, .selects "SillHours$Ship" m_Ship_mast.1 m_Ship_mast.1, .code m_Ship_mast.1 m_Ship_mast.2.1 m_Ship_mast.2.2.1 m_Ship_mast.2.2.2.1, .methodLink "SillHours$Windows" 65 m_Spans_countAll.1, .instanceMethod m_Spans_countAll.1, .selects "SillHours$Spans" m_Spans_countAll.1 m_Spans_countAll.1, .code m_Spans_countAll.1 m_Spans_countAll.2.1 m_Spans_countAll.2.2.1 m_Spans_countAll.2.2.2.1, .methodLink "SillHours$Windows" 68 m_Port_lastMinute.1, .methodLink "SillHours$Windows" 71 m_Port_firstMinute.1, .methodLink "SillHours" 219 m_Windows_found.1, .instanceMethod m_Windows_found.1, .selects "SillHours$Windows" m_Windows_found.1 m_Windows_found.1, .code m_Windows_found.1 m_Windows_found.2.1 m_Windows_found.2.2.1 m_Windows_found.2.2.2.1, .methodLink "SillHours" 223 m_Spans_size.1, .methodLink "SillHoursLaw" 90 m_Main_hour.1, .instanceMethod m_Main_hour.1, .selects "SillHours" m_Main_hour.1 m_Main_hour.1, .code m_Main_hour.1 m_Main_hour.2.1 m_Main_hour.2.2.1 m_Main_hour.2.2.2.1, .methodLink "SillHours" 224 m_Spans_firstOf.1, .methodLink "SillHours" 227 m_Spans_lastOf.1, .methodLink "SillHoursLaw" 95 m_Main_minutes.1, .instanceMethod m_Main_minutes.1, .selects "SillHours" m_Main_minutes.1 m_Main_minutes.1, .code m_Main_minutes.1 m_Main_minutes.2.1 m_Main_minutes.2.2.1 m_Main_minutes.2.2.2.1]
set_option maxRecDepth 100000 in
theorem am_U17_ok : ∀ w ∈ am_U17, w ∈ am_tbl := am_sb_tb (by decide +kernel) (by decide +kernel)
def am_U18 : List Cond := [.methodLink "SillHours" 230 m_Spans_countAll.1, .methodLink "SillHoursLaw" 99 m_Main_good.1, .instanceMethod m_Main_good.1, .selects "SillHours" m_Main_good.1 m_Main_good.1, .code m_Main_good.1 m_Main_good.2.1 m_Main_good.2.2.1 m_Main_good.2.2.2.1, .methodLink "SillHours" 233 m_Spans_has.1, .instanceMethod m_Spans_has.1, .selects "SillHours$Spans" m_Spans_has.1 m_Spans_has.1, .code m_Spans_has.1 m_Spans_has.2.1 m_Spans_has.2.2.1 m_Spans_has.2.2.2.1, .methodLink "SillHours$Spans" 47 m_Spans_earliestFrom.1, .methodLink "SillHoursLaw" 103 m_Main_note.1, .instanceMethod m_Main_note.1, .selects "SillHours" m_Main_note.1 m_Main_note.1, .code m_Main_note.1 m_Main_note.2.1 m_Main_note.2.2.1 m_Main_note.2.2.2.1, .methodLink "SillHours" 236 m_Windows_areAlways.1, .instanceMethod m_Windows_areAlways.1, .selects "SillHours$Windows" m_Windows_areAlways.1 m_Windows_areAlways.1, .code m_Windows_areAlways.1 m_Windows_areAlways.2.1 m_Windows_areAlways.2.2.1 m_Windows_areAlways.2.2.2.1, .methodLink "SillHours" 239 m_Page_writeNote.1, .instanceMethod m_Page_writeNote.1, .selects "SillHours$Page" m_Page_writeNote.1 m_Page_writeNote.1, .code m_Page_writeNote.1 m_Page_writeNote.2.1 m_Page_writeNote.2.2.1 m_Page_writeNote.2.2.2.1, .methodLink "SillHours$Page" 105 m_Spans_size.1, .methodLink "SillHours$Page" 35 m_Page_putText.1, .instanceMethod m_Page_putText.1, .code m_Page_putText.1 m_Page_putText.2.1 m_Page_putText.2.2.1 m_Page_putText.2.2.2.1, .methodLink "SillHours$Page" 140 m_Str_length.1, .methodLink "SillHours$Page" 145 m_Str_charAt.1, .methodLink "SillHours$Page" 23 m_Page_put.1, .instanceMethod m_Page_put.1, .code m_Page_put.1 m_Page_put.2.1 m_Page_put.2.2.1 m_Page_put.2.2.2.1, .methodLink "SillHours$Page" 115 m_Spans_firstOf.1, .methodLink "SillHours$Page" 118 m_Page_putDayAndTime.1, .instanceMethod m_Page_putDayAndTime.1, .code m_Page_putDayAndTime.1 m_Page_putDayAndTime.2.1 m_Page_putDayAndTime.2.2.1 m_Page_putDayAndTime.2.2.2.1, .methodLink "SillHours$Page" 43 m_Page_putTime.1, .instanceMethod m_Page_putTime.1, .code m_Page_putTime.1 m_Page_putTime.2.1 m_Page_putTime.2.2.1 m_Page_putTime.2.2.2.1, .methodLink "SillHours$Page" 132 m_Page_putDigit.1, .instanceMethod m_Page_putDigit.1]
set_option maxRecDepth 100000 in
theorem am_U18_ok : ∀ w ∈ am_U18, w ∈ am_tbl := am_sb_tb (by decide +kernel) (by decide +kernel)
def am_U19 : List Cond := [.code m_Page_putDigit.1 m_Page_putDigit.2.1 m_Page_putDigit.2.2.1 m_Page_putDigit.2.2.2.1, .methodLink "SillHours$Page" 50 m_Page_putNumber.1, .instanceMethod m_Page_putNumber.1, .code m_Page_putNumber.1 m_Page_putNumber.2.1 m_Page_putNumber.2.2.1 m_Page_putNumber.2.2.2.1, .methodLink "SillHours$Page" 135 m_Math_abs.1, .static m_Math_abs.1, .code m_Math_abs.1 m_Math_abs.2.1 m_Math_abs.2.2.1 m_Math_abs.2.2.2.1, .methodLink "SillHours$Page" 121 m_Spans_lastOf.1, .methodLink "SillHours" 243 m_Main_answerLetter.1, .instanceMethod m_Main_answerLetter.1, .code m_Main_answerLetter.1 m_Main_answerLetter.2.1 m_Main_answerLetter.2.2.1 m_Main_answerLetter.2.2.2.1, .methodLink "SillHours" 287 m_Page_size.1, .instanceMethod m_Page_size.1, .selects "SillHours$Page" m_Page_size.1 m_Page_size.1, .code m_Page_size.1 m_Page_size.2.1 m_Page_size.2.2.1 m_Page_size.2.2.2.1, .methodLink "SillHours" 288 m_Page_letterAt.1, .instanceMethod m_Page_letterAt.1, .selects "SillHours$Page" m_Page_letterAt.1 m_Page_letterAt.1, .code m_Page_letterAt.1 m_Page_letterAt.2.1 m_Page_letterAt.2.2.1 m_Page_letterAt.2.2.2.1, .methodLink "SillHoursLaw" 107 m_Main_stops.1, .instanceMethod m_Main_stops.1, .selects "SillHours" m_Main_stops.1 m_Main_stops.1, .code m_Main_stops.1 m_Main_stops.2.1 m_Main_stops.2.2.1 m_Main_stops.2.2.2.1, .methodLink "SillHours" 246 m_Main_routeAt.1, .instanceMethod m_Main_routeAt.1, .code m_Main_routeAt.1 m_Main_routeAt.2.1 m_Main_routeAt.2.2.1 m_Main_routeAt.2.2.2.1, .methodLink "SillHoursLaw" 111 m_Main_leg.1, .instanceMethod m_Main_leg.1, .selects "SillHours" m_Main_leg.1 m_Main_leg.1, .code m_Main_leg.1 m_Main_leg.2.1 m_Main_leg.2.2.1 m_Main_leg.2.2.2.1, .methodLink "SillHours" 254 m_Route_milesTo.1, .methodLink "SillHours" 257 m_Ship_minutesFor.1, .instanceMethod m_Ship_minutesFor.1, .selects "SillHours$Ship" m_Ship_minutesFor.1 m_Ship_minutesFor.1, .code m_Ship_minutesFor.1 m_Ship_minutesFor.2.1 m_Ship_minutesFor.2.2.1 m_Ship_minutesFor.2.2.2.1, .methodLink "SillHoursLaw" 115 m_Main_arrive.1, .instanceMethod m_Main_arrive.1, .selects "SillHours" m_Main_arrive.1 m_Main_arrive.1, .code m_Main_arrive.1 m_Main_arrive.2.1 m_Main_arrive.2.2.1 m_Main_arrive.2.2.2.1, .methodLink "SillHours" 260 m_Main_isNumberToAsk.1]
set_option maxRecDepth 100000 in
theorem am_U19_ok : ∀ w ∈ am_U19, w ∈ am_tbl := am_sb_tb (by decide +kernel) (by decide +kernel)
def am_U20 : List Cond := [.static m_Main_isNumberToAsk.1, .code m_Main_isNumberToAsk.1 m_Main_isNumberToAsk.2.1 m_Main_isNumberToAsk.2.2.1 m_Main_isNumberToAsk.2.2.2.1, .methodLink "SillHours" 263 m_Planner_plan.1, .instanceMethod m_Planner_plan.1, .selects "SillHours$Planner" m_Planner_plan.1 m_Planner_plan.1, .code m_Planner_plan.1 m_Planner_plan.2.1 m_Planner_plan.2.2.1 m_Planner_plan.2.2.2.1, .methodLink "SillHours$Planner" 62 m_Spans_clear.1, .methodLink "SillHours$Planner" 65 m_Spans_add.1, .methodLink "SillHours$Planner" 46 m_Route_stopCount.1, .methodLink "SillHours$Planner" 69 m_Math_min.1, .methodLink "SillHours$Planner" 75 m_Route_sillOf.1, .instanceMethod m_Route_sillOf.1, .selects "SillHours$Route" m_Route_sillOf.1 m_Route_sillOf.1, .code m_Route_sillOf.1 m_Route_sillOf.2.1 m_Route_sillOf.2.2.1 m_Route_sillOf.2.2.2.1, .methodLink "SillHours$Planner" 79 m_Planner_allowLater.1, .instanceMethod m_Planner_allowLater.1, .code m_Planner_allowLater.1 m_Planner_allowLater.2.1 m_Planner_allowLater.2.2.1 m_Planner_allowLater.2.2.2.1, .methodLink "SillHours$Planner" 117 m_Route_kindOf.1, .methodLink "SillHours$Planner" 98 m_Spans_copyShifted.1, .instanceMethod m_Spans_copyShifted.1, .selects "SillHours$Spans" m_Spans_copyShifted.1 m_Spans_copyShifted.1, .code m_Spans_copyShifted.1 m_Spans_copyShifted.2.1 m_Spans_copyShifted.2.2.1 m_Spans_copyShifted.2.2.2.1, .methodLink "SillHours$Planner" 114 m_Spans_firstOf.1, .methodLink "SillHours$Planner" 120 m_Route_levelOf.1, .methodLink "SillHours$Planner" 123 m_Ship_draught.1, .methodLink "SillHours$Planner" 126 m_Planner_findDeep.1, .instanceMethod m_Planner_findDeep.1, .code m_Planner_findDeep.1 m_Planner_findDeep.2.1 m_Planner_findDeep.2.2.1 m_Planner_findDeep.2.2.2.1, .methodLink "SillHours$Planner" 140 m_Sill_home.1, .methodLink "SillHours$Planner" 148 m_Port_collect.1, .methodLink "SillHours$Planner" 95 m_Spans_size.1, .methodLink "SillHours$Planner" 130 m_Spans_earliestFrom.1, .methodLink "SillHours$Planner" 133 m_Spans_lastOf.1, .methodLink "SillHours$Planner" 136 m_Spans_unite.1, .instanceMethod m_Spans_unite.1, .selects "SillHours$Spans" m_Spans_unite.1 m_Spans_unite.1, .code m_Spans_unite.1 m_Spans_unite.2.1 m_Spans_unite.2.2.1 m_Spans_unite.2.2.2.1, .methodLink "SillHours$Planner" 83 m_Windows_find.1, .methodLink "SillHours$Planner" 87 m_Windows_found.1, .methodLink "SillHours$Planner" 91 m_Spans_intersect.1]
set_option maxRecDepth 100000 in
theorem am_U20_ok : ∀ w ∈ am_U20, w ∈ am_tbl := am_sb_tb (by decide +kernel) (by decide +kernel)
def am_U21 : List Cond := [.methodLink "SillHours$Planner" 54 m_Route_milesTo.1, .methodLink "SillHours$Planner" 57 m_Ship_minutesFor.1, .methodLink "SillHours$Planner" 102 m_Planner_choosePasses.1, .instanceMethod m_Planner_choosePasses.1, .code m_Planner_choosePasses.1 m_Planner_choosePasses.2.1 m_Planner_choosePasses.2.2.1 m_Planner_choosePasses.2.2.2.1, .methodLink "SillHours$Planner" 108 m_Spans_latestUpTo.1, .instanceMethod m_Spans_latestUpTo.1, .selects "SillHours$Spans" m_Spans_latestUpTo.1 m_Spans_latestUpTo.1, .code m_Spans_latestUpTo.1 m_Spans_latestUpTo.2.1 m_Spans_latestUpTo.2.2.1 m_Spans_latestUpTo.2.2.2.1, .methodLink "SillHours" 267 m_Planner_passOf.1, .instanceMethod m_Planner_passOf.1, .selects "SillHours$Planner" m_Planner_passOf.1 m_Planner_passOf.1, .code m_Planner_passOf.1 m_Planner_passOf.2.1 m_Planner_passOf.2.2.1 m_Planner_passOf.2.2.2.1, .methodLink "SillHoursLaw" 119 m_Main_pass.1, .instanceMethod m_Main_pass.1, .selects "SillHours" m_Main_pass.1 m_Main_pass.1, .code m_Main_pass.1 m_Main_pass.2.1 m_Main_pass.2.2.1 m_Main_pass.2.2.2.1, .methodLink "SillHoursLaw" 123 m_Main_waits.1, .instanceMethod m_Main_waits.1, .selects "SillHours" m_Main_waits.1 m_Main_waits.1, .code m_Main_waits.1 m_Main_waits.2.1 m_Main_waits.2.2.1 m_Main_waits.2.2.2.1, .methodLink "SillHours" 270 m_Planner_waitedFrom.1, .instanceMethod m_Planner_waitedFrom.1, .selects "SillHours$Planner" m_Planner_waitedFrom.1 m_Planner_waitedFrom.1, .code m_Planner_waitedFrom.1 m_Planner_waitedFrom.2.1 m_Planner_waitedFrom.2.2.1 m_Planner_waitedFrom.2.2.2.1, .methodLink "SillHours$Planner" 50 m_Planner_passOf.1, .methodLink "SillHoursLaw" 127 m_Main_start.1, .instanceMethod m_Main_start.1, .selects "SillHours" m_Main_start.1 m_Main_start.1, .code m_Main_start.1 m_Main_start.2.1 m_Main_start.2.2.1 m_Main_start.2.2.2.1, .methodLink "SillHours" 274 m_Planner_latestStart.1, .instanceMethod m_Planner_latestStart.1, .selects "SillHours$Planner" m_Planner_latestStart.1 m_Planner_latestStart.1, .code m_Planner_latestStart.1 m_Planner_latestStart.2.1 m_Planner_latestStart.2.2.1 m_Planner_latestStart.2.2.2.1, .methodLink "SillHours$Planner" 111 m_Planner_allowEarlier.1, .instanceMethod m_Planner_allowEarlier.1, .code m_Planner_allowEarlier.1 m_Planner_allowEarlier.2.1 m_Planner_allowEarlier.2.2.1 m_Planner_allowEarlier.2.2.2.1, .methodLink "SillHoursLaw" 131 m_Main_letter.1, .instanceMethod m_Main_letter.1, .selects "SillHours" m_Main_letter.1 m_Main_letter.1]
set_option maxRecDepth 100000 in
theorem am_U21_ok : ∀ w ∈ am_U21, w ∈ am_tbl := am_sb_tb (by decide +kernel) (by decide +kernel)
def am_U22 : List Cond := [.code m_Main_letter.1 m_Main_letter.2.1 m_Main_letter.2.2.1 m_Main_letter.2.2.2.1, .methodLink "SillHours" 279 m_Main_writeOut.1, .instanceMethod m_Main_writeOut.1, .code m_Main_writeOut.1 m_Main_writeOut.2.1 m_Main_writeOut.2.2.1 m_Main_writeOut.2.2.2.1, .methodLink "SillHours" 322 m_Page_writePort.1, .instanceMethod m_Page_writePort.1, .selects "SillHours$Page" m_Page_writePort.1 m_Page_writePort.1, .code m_Page_writePort.1 m_Page_writePort.2.1 m_Page_writePort.2.2.1 m_Page_writePort.2.2.2.1, .methodLink "SillHours$Page" 17 m_Port_turnCount.1, .methodLink "SillHours$Page" 27 m_Port_isHigh.1, .methodLink "SillHours$Page" 39 m_Port_minuteOf.1, .methodLink "SillHours$Page" 47 m_Port_heightOf.1, .methodLink "SillHours" 325 m_Page_writeSill.1, .instanceMethod m_Page_writeSill.1, .selects "SillHours$Page" m_Page_writeSill.1 m_Page_writeSill.1, .code m_Page_writeSill.1 m_Page_writeSill.2.1 m_Page_writeSill.2.2.1 m_Page_writeSill.2.2.2.1, .methodLink "SillHours$Page" 53 m_Sill_kind.1, .methodLink "SillHours$Page" 58 m_Page_wordOf.1, .static m_Page_wordOf.1, .code m_Page_wordOf.1 m_Page_wordOf.2.1 m_Page_wordOf.2.2.1 m_Page_wordOf.2.2.2.1, .methodLink "SillHours$Page" 62 m_Sill_level.1, .methodLink "SillHours$Page" 65 m_Sill_hasTwoNumbers.1, .methodLink "SillHours$Page" 69 m_Sill_one.1, .methodLink "SillHours$Page" 72 m_Sill_two.1, .methodLink "SillHours" 329 m_Page_writeShip.1, .instanceMethod m_Page_writeShip.1, .selects "SillHours$Page" m_Page_writeShip.1 m_Page_writeShip.1, .code m_Page_writeShip.1 m_Page_writeShip.2.1 m_Page_writeShip.2.2.1 m_Page_writeShip.2.2.2.1, .methodLink "SillHours$Page" 75 m_Ship_draught.1, .methodLink "SillHours$Page" 80 m_Ship_mast.1, .methodLink "SillHours$Page" 83 m_Ship_pace.1, .instanceMethod m_Ship_pace.1, .selects "SillHours$Ship" m_Ship_pace.1 m_Ship_pace.1, .code m_Ship_pace.1 m_Ship_pace.2.1 m_Ship_pace.2.2.1 m_Ship_pace.2.2.2.1, .methodLink "SillHours" 333 m_Page_writeRoute.1, .instanceMethod m_Page_writeRoute.1, .selects "SillHours$Page" m_Page_writeRoute.1 m_Page_writeRoute.1, .code m_Page_writeRoute.1 m_Page_writeRoute.2.1 m_Page_writeRoute.2.2.1 m_Page_writeRoute.2.2.2.1, .methodLink "SillHours$Page" 86 m_Route_stopCount.1, .methodLink "SillHours$Page" 93 m_Route_milesTo.1]
set_option maxRecDepth 100000 in
theorem am_U22_ok : ∀ w ∈ am_U22, w ∈ am_tbl := am_sb_tb (by decide +kernel) (by decide +kernel)
def am_U23 : List Cond := [.methodLink "SillHours$Page" 96 m_Route_sillNumberOf.1, .methodLink "SillHours$Page" 99 m_Route_kindOf.1, .methodLink "SillHours$Page" 102 m_Route_levelOf.1, .methodLink "SillHoursLaw" 135 m_Main_same.1, .instanceMethod m_Main_same.1, .selects "SillHours" m_Main_same.1 m_Main_same.1, .code m_Main_same.1 m_Main_same.2.1 m_Main_same.2.2.1 m_Main_same.2.2.2.1, .methodLink "SillHours" 283 m_Port_isWrittenAs.1, .instanceMethod m_Port_isWrittenAs.1, .selects "SillHours$Port" m_Port_isWrittenAs.1 m_Port_isWrittenAs.1, .code m_Port_isWrittenAs.1 m_Port_isWrittenAs.2.1 m_Port_isWrittenAs.2.2.1 m_Port_isWrittenAs.2.2.2.1, .methodLink "SillHoursLaw" 139 m_Main_status.1, .instanceMethod m_Main_status.1, .selects "SillHours" m_Main_status.1 m_Main_status.1, .code m_Main_status.1 m_Main_status.2.1 m_Main_status.2.2.1 m_Main_status.2.2.2.1, .classLink "SillHoursLaw" 10 (am_cR 12), .instantiable (am_cR 12) (am_cN 12), .methodLink "SillHoursLaw" 12 m_Ref_init.1, .instanceMethod m_Ref_init.1, .code m_Ref_init.1 m_Ref_init.2.1 m_Ref_init.2.2.1 m_Ref_init.2.2.2.1, .methodLink "SillHoursModel" 315 Lib.objectInit, .methodLink "SillHoursLaw" 17 m_Ref_feed.1, .instanceMethod m_Ref_feed.1, .selects "SillHoursModel" m_Ref_feed.1 m_Ref_feed.1, .code m_Ref_feed.1 m_Ref_feed.2.1 m_Ref_feed.2.2.1 m_Ref_feed.2.2.2.1, .methodLink "SillHoursModel" 231 m_Ref_no.1, .instanceMethod m_Ref_no.1, .code m_Ref_no.1 m_Ref_no.2.1 m_Ref_no.2.2.1 m_Ref_no.2.2.2.1, .methodLink "SillHoursModel" 228 m_Ref_fine.1, .instanceMethod m_Ref_fine.1, .code m_Ref_fine.1 m_Ref_fine.2.1 m_Ref_fine.2.2.1 m_Ref_fine.2.2.2.1, .methodLink "SillHoursLaw" 22 m_Ref_end.1, .instanceMethod m_Ref_end.1, .selects "SillHoursModel" m_Ref_end.1 m_Ref_end.1, .code m_Ref_end.1 m_Ref_end.2.1 m_Ref_end.2.2.1 m_Ref_end.2.2.2.1, .methodLink "SillHoursModel" 10 m_Ref_isIn.1, .static m_Ref_isIn.1, .code m_Ref_isIn.1 m_Ref_isIn.2.1 m_Ref_isIn.2.2.1 m_Ref_isIn.2.2.2.1, .methodLink "SillHoursLaw" 27 m_Ref_port.1, .instanceMethod m_Ref_port.1]
set_option maxRecDepth 100000 in
theorem am_U23_ok : ∀ w ∈ am_U23, w ∈ am_tbl := am_sb_tb (by decide +kernel) (by decide +kernel)
def am_U24 : List Cond := [.selects "SillHoursModel" m_Ref_port.1 m_Ref_port.1, .code m_Ref_port.1 m_Ref_port.2.1 m_Ref_port.2.2.1 m_Ref_port.2.2.2.1, .methodLink "SillHoursModel" 339 m_Ref_begins.1, .instanceMethod m_Ref_begins.1, .code m_Ref_begins.1 m_Ref_begins.2.1 m_Ref_begins.2.2.1 m_Ref_begins.2.2.2.1, .methodLink "SillHoursModel" 274 m_Ref_next.1, .instanceMethod m_Ref_next.1, .code m_Ref_next.1 m_Ref_next.2.1 m_Ref_next.2.2.1 m_Ref_next.2.2.2.1, .methodLink "SillHoursModel" 264 m_Ref_wordHere.1, .instanceMethod m_Ref_wordHere.1, .code m_Ref_wordHere.1 m_Ref_wordHere.2.1 m_Ref_wordHere.2.2.1 m_Ref_wordHere.2.2.2.1, .methodLink "SillHoursModel" 243 m_Ref_isSpelled.1, .instanceMethod m_Ref_isSpelled.1, .code m_Ref_isSpelled.1 m_Ref_isSpelled.2.1 m_Ref_isSpelled.2.2.1 m_Ref_isSpelled.2.2.2.1, .methodLink "SillHoursModel" 179 m_Str_length.1, .methodLink "SillHoursModel" 185 m_Str_charAt.1, .methodLink "SillHoursModel" 342 m_Ref_readTable.1, .instanceMethod m_Ref_readTable.1, .code m_Ref_readTable.1 m_Ref_readTable.2.1 m_Ref_readTable.2.2.1 m_Ref_readTable.2.2.2.1, .methodLink "SillHoursModel" 306 m_Ref_readTurn.1, .instanceMethod m_Ref_readTurn.1, .code m_Ref_readTurn.1 m_Ref_readTurn.2.1 m_Ref_readTurn.2.2.1 m_Ref_readTurn.2.2.2.1, .methodLink "SillHoursModel" 287 m_Ref_must.1, .instanceMethod m_Ref_must.1, .code m_Ref_must.1 m_Ref_must.2.1 m_Ref_must.2.2.1 m_Ref_must.2.2.2.1, .methodLink "SillHoursModel" 284 m_Ref_take.1, .instanceMethod m_Ref_take.1, .code m_Ref_take.1 m_Ref_take.2.1 m_Ref_take.2.2.1 m_Ref_take.2.2.2.1, .methodLink "SillHoursModel" 303 m_Ref_size.1, .instanceMethod m_Ref_size.1, .code m_Ref_size.1 m_Ref_size.2.1 m_Ref_size.2.2.1 m_Ref_size.2.2.2.1, .methodLink "SillHoursModel" 281 m_Ref_goes.1, .instanceMethod m_Ref_goes.1, .code m_Ref_goes.1 m_Ref_goes.2.1 m_Ref_goes.2.2.1 m_Ref_goes.2.2.2.1, .methodLink "SillHoursModel" 345 m_Ref_ends.1, .instanceMethod m_Ref_ends.1, .code m_Ref_ends.1 m_Ref_ends.2.1 m_Ref_ends.2.2.1 m_Ref_ends.2.2.2.1, .methodLink "SillHoursModel" 349 m_Ref_faultOfTurns.1, .instanceMethod m_Ref_faultOfTurns.1, .code m_Ref_faultOfTurns.1 m_Ref_faultOfTurns.2.1 m_Ref_faultOfTurns.2.2.1 m_Ref_faultOfTurns.2.2.2.1]
set_option maxRecDepth 100000 in
theorem am_U24_ok : ∀ w ∈ am_U24, w ∈ am_tbl := am_sb_tb (by decide +kernel) (by decide +kernel)
def am_U25 : List Cond := [.methodLink "SillHoursModel" 309 m_Math_floorMod.1, .methodLink "SillHoursModel" 352 m_Ref_faulty.1, .instanceMethod m_Ref_faulty.1, .code m_Ref_faulty.1 m_Ref_faulty.2.1 m_Ref_faulty.2.2.1 m_Ref_faulty.2.2.2.1, .methodLink "SillHoursModel" 355 m_Ref_made.1, .instanceMethod m_Ref_made.1, .code m_Ref_made.1 m_Ref_made.2.1 m_Ref_made.2.2.1 m_Ref_made.2.2.2.1, .methodLink "SillHoursLaw" 31 m_Ref_longer.1, .instanceMethod m_Ref_longer.1, .selects "SillHoursModel" m_Ref_longer.1 m_Ref_longer.1, .code m_Ref_longer.1 m_Ref_longer.2.1 m_Ref_longer.2.2.1 m_Ref_longer.2.2.2.1, .methodLink "SillHoursModel" 358 m_Ref_isPort.1, .instanceMethod m_Ref_isPort.1, .code m_Ref_isPort.1 m_Ref_isPort.2.1 m_Ref_isPort.2.2.1 m_Ref_isPort.2.2.2.1, .methodLink "SillHoursModel" 361 m_Ref_refusedUnread.1, .instanceMethod m_Ref_refusedUnread.1, .code m_Ref_refusedUnread.1 m_Ref_refusedUnread.2.1 m_Ref_refusedUnread.2.2.1 m_Ref_refusedUnread.2.2.2.1, .methodLink "SillHoursLaw" 35 m_Ref_second.1, .instanceMethod m_Ref_second.1, .selects "SillHoursModel" m_Ref_second.1 m_Ref_second.1, .code m_Ref_second.1 m_Ref_second.2.1 m_Ref_second.2.2.1 m_Ref_second.2.2.2.1, .methodLink "SillHoursModel" 367 m_Ref_readShift.1, .instanceMethod m_Ref_readShift.1, .code m_Ref_readShift.1 m_Ref_readShift.2.1 m_Ref_readShift.2.2.1 m_Ref_readShift.2.2.2.1, .methodLink "SillHoursModel" 364 m_Ref_step.1, .instanceMethod m_Ref_step.1, .code m_Ref_step.1 m_Ref_step.2.1 m_Ref_step.2.2.1 m_Ref_step.2.2.2.1, .methodLink "SillHoursModel" 370 m_Ref_isRightShift.1, .instanceMethod m_Ref_isRightShift.1, .code m_Ref_isRightShift.1 m_Ref_isRightShift.2.1 m_Ref_isRightShift.2.2.1 m_Ref_isRightShift.2.2.2.1, .methodLink "SillHoursModel" 373 m_Math_floorDiv.1, .methodLink "SillHoursModel" 376 m_Ref_areTurns.1, .instanceMethod m_Ref_areTurns.1, .code m_Ref_areTurns.1 m_Ref_areTurns.2.1 m_Ref_areTurns.2.2.1 m_Ref_areTurns.2.2.2.1, .methodLink "SillHoursLaw" 39 m_Ref_sill.1, .instanceMethod m_Ref_sill.1, .selects "SillHoursModel" m_Ref_sill.1 m_Ref_sill.1, .code m_Ref_sill.1 m_Ref_sill.2.1 m_Ref_sill.2.2.1 m_Ref_sill.2.2.2.1, .methodLink "SillHoursLaw" 43 m_Ref_ship.1, .instanceMethod m_Ref_ship.1]
set_option maxRecDepth 100000 in
theorem am_U25_ok : ∀ w ∈ am_U25, w ∈ am_tbl := am_sb_tb (by decide +kernel) (by decide +kernel)
def am_U26 : List Cond := [.selects "SillHoursModel" m_Ref_ship.1 m_Ref_ship.1, .code m_Ref_ship.1 m_Ref_ship.2.1 m_Ref_ship.2.2.1 m_Ref_ship.2.2.2.1, .methodLink "SillHoursLaw" 47 m_Ref_route.1, .instanceMethod m_Ref_route.1, .selects "SillHoursModel" m_Ref_route.1 m_Ref_route.1, .code m_Ref_route.1 m_Ref_route.2.1 m_Ref_route.2.2.1 m_Ref_route.2.2.2.1, .methodLink "SillHoursModel" 379 m_Ref_readStop.1, .instanceMethod m_Ref_readStop.1, .code m_Ref_readStop.1 m_Ref_readStop.2.1 m_Ref_readStop.2.2.1 m_Ref_readStop.2.2.2.1, .methodLink "SillHoursModel" 382 m_Ref_isSill.1, .instanceMethod m_Ref_isSill.1, .code m_Ref_isSill.1 m_Ref_isSill.2.1 m_Ref_isSill.2.2.1 m_Ref_isSill.2.2.2.1, .methodLink "SillHoursLaw" 51 m_Ref_place.1, .instanceMethod m_Ref_place.1, .selects "SillHoursModel" m_Ref_place.1 m_Ref_place.1, .code m_Ref_place.1 m_Ref_place.2.1 m_Ref_place.2.2.1 m_Ref_place.2.2.2.1, .methodLink "SillHoursLaw" 55 m_Ref_fault.1, .instanceMethod m_Ref_fault.1, .selects "SillHoursModel" m_Ref_fault.1 m_Ref_fault.1, .code m_Ref_fault.1 m_Ref_fault.2.1 m_Ref_fault.2.2.1 m_Ref_fault.2.2.2.1, .methodLink "SillHoursLaw" 59 m_Ref_count.1, .instanceMethod m_Ref_count.1, .selects "SillHoursModel" m_Ref_count.1 m_Ref_count.1, .code m_Ref_count.1 m_Ref_count.2.1 m_Ref_count.2.2.1 m_Ref_count.2.2.2.1, .methodLink "SillHoursLaw" 63 m_Ref_turns.1, .instanceMethod m_Ref_turns.1, .selects "SillHoursModel" m_Ref_turns.1 m_Ref_turns.1, .code m_Ref_turns.1 m_Ref_turns.2.1 m_Ref_turns.2.2.1 m_Ref_turns.2.2.2.1, .methodLink "SillHoursLaw" 68 m_Ref_turn.1, .instanceMethod m_Ref_turn.1, .selects "SillHoursModel" m_Ref_turn.1 m_Ref_turn.1, .code m_Ref_turn.1 m_Ref_turn.2.1 m_Ref_turn.2.2.1 m_Ref_turn.2.2.2.1, .methodLink "SillHoursLaw" 73 m_Ref_water.1, .instanceMethod m_Ref_water.1, .selects "SillHoursModel" m_Ref_water.1 m_Ref_water.1, .code m_Ref_water.1 m_Ref_water.2.1 m_Ref_water.2.2.1 m_Ref_water.2.2.2.1, .methodLink "SillHoursModel" 142 m_Ref_isMinute.1, .instanceMethod m_Ref_isMinute.1, .code m_Ref_isMinute.1 m_Ref_isMinute.2.1 m_Ref_isMinute.2.2.1 m_Ref_isMinute.2.2.2.1, .methodLink "SillHoursModel" 30 m_Ref_firstOf.1]
set_option maxRecDepth 100000 in
theorem am_U26_ok : ∀ w ∈ am_U26, w ∈ am_tbl := am_sb_tb (by decide +kernel) (by decide +kernel)
def am_U27 : List Cond := [.instanceMethod m_Ref_firstOf.1, .code m_Ref_firstOf.1 m_Ref_firstOf.2.1 m_Ref_firstOf.2.2.1 m_Ref_firstOf.2.2.2.1, .methodLink "SillHoursModel" 34 m_Ref_lastOf.1, .instanceMethod m_Ref_lastOf.1, .code m_Ref_lastOf.1 m_Ref_lastOf.2.1 m_Ref_lastOf.2.2.1 m_Ref_lastOf.2.2.2.1, .methodLink "SillHoursModel" 50 m_Ref_heightAt.1, .instanceMethod m_Ref_heightAt.1, .code m_Ref_heightAt.1 m_Ref_heightAt.2.1 m_Ref_heightAt.2.2.1 m_Ref_heightAt.2.2.2.1, .methodLink "SillHoursModel" 37 m_Ref_turnAt.1, .instanceMethod m_Ref_turnAt.1, .code m_Ref_turnAt.1 m_Ref_turnAt.2.1 m_Ref_turnAt.2.2.1 m_Ref_turnAt.2.2.2.1, .methodLink "SillHoursLaw" 77 m_Ref_above.1, .instanceMethod m_Ref_above.1, .selects "SillHoursModel" m_Ref_above.1 m_Ref_above.1, .code m_Ref_above.1 m_Ref_above.2.1 m_Ref_above.2.2.1 m_Ref_above.2.2.2.1, .methodLink "SillHoursModel" 86 m_Ref_isAt.1, .instanceMethod m_Ref_isAt.1, .code m_Ref_isAt.1 m_Ref_isAt.2.1 m_Ref_isAt.2.2.1 m_Ref_isAt.2.2.2.1, .methodLink "SillHoursLaw" 81 m_Ref_rise.1, .instanceMethod m_Ref_rise.1, .selects "SillHoursModel" m_Ref_rise.1 m_Ref_rise.1, .code m_Ref_rise.1 m_Ref_rise.2.1 m_Ref_rise.2.2.1 m_Ref_rise.2.2.2.1, .methodLink "SillHoursModel" 385 m_Ref_first.1, .instanceMethod m_Ref_first.1, .code m_Ref_first.1 m_Ref_first.2.1 m_Ref_first.2.2.1 m_Ref_first.2.2.2.1, .methodLink "SillHoursModel" 127 m_Math_max.1, .methodLink "SillHoursLaw" 85 m_Ref_ebb.1, .instanceMethod m_Ref_ebb.1, .selects "SillHoursModel" m_Ref_ebb.1 m_Ref_ebb.1, .code m_Ref_ebb.1 m_Ref_ebb.2.1 m_Ref_ebb.2.2.1 m_Ref_ebb.2.2.2.1, .methodLink "SillHoursLaw" 89 m_Ref_hours.1, .instanceMethod m_Ref_hours.1, .selects "SillHoursModel" m_Ref_hours.1 m_Ref_hours.1, .code m_Ref_hours.1 m_Ref_hours.2.1 m_Ref_hours.2.2.1 m_Ref_hours.2.2.2.1, .methodLink "SillHoursModel" 389 m_Ref_isShip.1, .instanceMethod m_Ref_isShip.1, .code m_Ref_isShip.1 m_Ref_isShip.2.1 m_Ref_isShip.2.2.1 m_Ref_isShip.2.2.2.1, .methodLink "SillHoursModel" 217 m_Ref_findGood2.1, .instanceMethod m_Ref_findGood2.1, .code m_Ref_findGood2.1 m_Ref_findGood2.2.1 m_Ref_findGood2.2.2.1 m_Ref_findGood2.2.2.2.1]
set_option maxRecDepth 100000 in
theorem am_U27_ok : ∀ w ∈ am_U27, w ∈ am_tbl := am_sb_tb (by decide +kernel) (by decide +kernel)
def am_U28 : List Cond := [.methodLink "SillHoursModel" 67 m_Ref_findGood3.1, .instanceMethod m_Ref_findGood3.1, .code m_Ref_findGood3.1 m_Ref_findGood3.2.1 m_Ref_findGood3.2.2.1 m_Ref_findGood3.2.2.2.1, .methodLink "SillHoursModel" 95 m_Ref_isNearHigh.1, .instanceMethod m_Ref_isNearHigh.1, .code m_Ref_isNearHigh.1 m_Ref_isNearHigh.2.1 m_Ref_isNearHigh.2.2.1 m_Ref_isNearHigh.2.2.2.1, .methodLink "SillHoursModel" 102 m_Ref_isUnder.1, .instanceMethod m_Ref_isUnder.1, .code m_Ref_isUnder.1 m_Ref_isUnder.2.1 m_Ref_isUnder.2.2.1 m_Ref_isUnder.2.2.2.1, .methodLink "SillHoursModel" 392 m_Ref_windows.1, .instanceMethod m_Ref_windows.1, .code m_Ref_windows.1 m_Ref_windows.2.1 m_Ref_windows.2.2.1 m_Ref_windows.2.2.2.1, .methodLink "SillHoursModel" 111 m_Ref_findWindow.1, .instanceMethod m_Ref_findWindow.1, .code m_Ref_findWindow.1 m_Ref_findWindow.2.1 m_Ref_findWindow.2.2.1 m_Ref_findWindow.2.2.2.1, .methodLink "SillHoursLaw" 94 m_Ref_hour.1, .instanceMethod m_Ref_hour.1, .selects "SillHoursModel" m_Ref_hour.1 m_Ref_hour.1, .code m_Ref_hour.1 m_Ref_hour.2.1 m_Ref_hour.2.2.1 m_Ref_hour.2.2.2.1, .methodLink "SillHoursLaw" 98 m_Ref_minutes.1, .instanceMethod m_Ref_minutes.1, .selects "SillHoursModel" m_Ref_minutes.1 m_Ref_minutes.1, .code m_Ref_minutes.1 m_Ref_minutes.2.1 m_Ref_minutes.2.2.1 m_Ref_minutes.2.2.2.1, .methodLink "SillHoursLaw" 102 m_Ref_good.1, .instanceMethod m_Ref_good.1, .selects "SillHoursModel" m_Ref_good.1 m_Ref_good.1, .code m_Ref_good.1 m_Ref_good.2.1 m_Ref_good.2.2.1 m_Ref_good.2.2.2.1, .methodLink "SillHoursLaw" 106 m_Ref_note.1, .instanceMethod m_Ref_note.1, .selects "SillHoursModel" m_Ref_note.1 m_Ref_note.1, .code m_Ref_note.1 m_Ref_note.2.1 m_Ref_note.2.2.1 m_Ref_note.2.2.2.1, .methodLink "SillHoursModel" 395 m_Ref_writeNote.1, .instanceMethod m_Ref_writeNote.1, .code m_Ref_writeNote.1 m_Ref_writeNote.2.1 m_Ref_writeNote.2.2.1 m_Ref_writeNote.2.2.2.1, .methodLink "SillHoursModel" 197 m_Ref_writeWord.1, .instanceMethod m_Ref_writeWord.1, .code m_Ref_writeWord.1 m_Ref_writeWord.2.1 m_Ref_writeWord.2.2.1 m_Ref_writeWord.2.2.2.1, .methodLink "SillHoursModel" 189 m_Ref_write.1, .instanceMethod m_Ref_write.1, .code m_Ref_write.1 m_Ref_write.2.1 m_Ref_write.2.2.1 m_Ref_write.2.2.2.1]
set_option maxRecDepth 100000 in
theorem am_U28_ok : ∀ w ∈ am_U28, w ∈ am_tbl := am_sb_tb (by decide +kernel) (by decide +kernel)
def am_U29 : List Cond := [.methodLink "SillHoursModel" 225 m_Ref_writeMinute.1, .instanceMethod m_Ref_writeMinute.1, .code m_Ref_writeMinute.1 m_Ref_writeMinute.2.1 m_Ref_writeMinute.2.2.1 m_Ref_writeMinute.2.2.2.1, .methodLink "SillHoursModel" 201 m_Ref_writeTime.1, .instanceMethod m_Ref_writeTime.1, .code m_Ref_writeTime.1 m_Ref_writeTime.2.1 m_Ref_writeTime.2.2.1 m_Ref_writeTime.2.2.2.1, .methodLink "SillHoursModel" 204 m_Ref_writeNumber.1, .instanceMethod m_Ref_writeNumber.1, .code m_Ref_writeNumber.1 m_Ref_writeNumber.2.1 m_Ref_writeNumber.2.2.1 m_Ref_writeNumber.2.2.2.1, .methodLink "SillHoursModel" 398 m_Ref_tell.1, .instanceMethod m_Ref_tell.1, .code m_Ref_tell.1 m_Ref_tell.2.1 m_Ref_tell.2.2.1 m_Ref_tell.2.2.2.1, .methodLink "SillHoursLaw" 110 m_Ref_stops.1, .instanceMethod m_Ref_stops.1, .selects "SillHoursModel" m_Ref_stops.1 m_Ref_stops.1, .code m_Ref_stops.1 m_Ref_stops.2.1 m_Ref_stops.2.2.1 m_Ref_stops.2.2.2.1, .methodLink "SillHoursModel" 401 m_Ref_isRoute.1, .instanceMethod m_Ref_isRoute.1, .code m_Ref_isRoute.1 m_Ref_isRoute.2.1 m_Ref_isRoute.2.2.1 m_Ref_isRoute.2.2.2.1, .methodLink "SillHoursLaw" 114 m_Ref_leg.1, .instanceMethod m_Ref_leg.1, .selects "SillHoursModel" m_Ref_leg.1 m_Ref_leg.1, .code m_Ref_leg.1 m_Ref_leg.2.1 m_Ref_leg.2.2.1 m_Ref_leg.2.2.2.1, .methodLink "SillHoursModel" 155 m_Ref_legOf.1, .instanceMethod m_Ref_legOf.1, .code m_Ref_legOf.1 m_Ref_legOf.2.1 m_Ref_legOf.2.2.1 m_Ref_legOf.2.2.2.1, .methodLink "SillHoursLaw" 118 m_Ref_arrive.1, .instanceMethod m_Ref_arrive.1, .selects "SillHoursModel" m_Ref_arrive.1 m_Ref_arrive.1, .code m_Ref_arrive.1 m_Ref_arrive.2.1 m_Ref_arrive.2.2.1 m_Ref_arrive.2.2.2.1, .methodLink "SillHoursModel" 405 m_Ref_routeWhy.1, .instanceMethod m_Ref_routeWhy.1, .code m_Ref_routeWhy.1 m_Ref_routeWhy.2.1 m_Ref_routeWhy.2.2.1 m_Ref_routeWhy.2.2.2.1, .methodLink "SillHoursModel" 408 m_Ref_plan.1, .instanceMethod m_Ref_plan.1, .code m_Ref_plan.1 m_Ref_plan.2.1 m_Ref_plan.2.2.1 m_Ref_plan.2.2.2.1, .methodLink "SillHoursModel" 152 m_Ref_prepare.1, .instanceMethod m_Ref_prepare.1, .code m_Ref_prepare.1 m_Ref_prepare.2.1 m_Ref_prepare.2.2.1 m_Ref_prepare.2.2.2.1, .methodLink "SillHoursModel" 159 m_Ref_goOn.1]
set_option maxRecDepth 100000 in
theorem am_U29_ok : ∀ w ∈ am_U29, w ∈ am_tbl := am_sb_tb (by decide +kernel) (by decide +kernel)
def am_U30 : List Cond := [.instanceMethod m_Ref_goOn.1, .code m_Ref_goOn.1 m_Ref_goOn.2.1 m_Ref_goOn.2.2.1 m_Ref_goOn.2.2.2.1, .methodLink "SillHoursModel" 166 m_Ref_canWait.1, .instanceMethod m_Ref_canWait.1, .code m_Ref_canWait.1 m_Ref_canWait.2.1 m_Ref_canWait.2.2.1 m_Ref_canWait.2.2.2.1, .methodLink "SillHoursLaw" 122 m_Ref_pass.1, .instanceMethod m_Ref_pass.1, .selects "SillHoursModel" m_Ref_pass.1 m_Ref_pass.1, .code m_Ref_pass.1 m_Ref_pass.2.1 m_Ref_pass.2.2.1 m_Ref_pass.2.2.2.1, .methodLink "SillHoursLaw" 126 m_Ref_waits.1, .instanceMethod m_Ref_waits.1, .selects "SillHoursModel" m_Ref_waits.1 m_Ref_waits.1, .code m_Ref_waits.1 m_Ref_waits.2.1 m_Ref_waits.2.2.1 m_Ref_waits.2.2.2.1, .methodLink "SillHoursLaw" 130 m_Ref_start.1, .instanceMethod m_Ref_start.1, .selects "SillHoursModel" m_Ref_start.1 m_Ref_start.1, .code m_Ref_start.1 m_Ref_start.2.1 m_Ref_start.2.2.1 m_Ref_start.2.2.2.1, .methodLink "SillHoursModel" 411 m_Ref_latest.1, .instanceMethod m_Ref_latest.1, .code m_Ref_latest.1 m_Ref_latest.2.1 m_Ref_latest.2.2.1 m_Ref_latest.2.2.2.1, .methodLink "SillHoursModel" 169 m_Ref_comeBack.1, .instanceMethod m_Ref_comeBack.1, .code m_Ref_comeBack.1 m_Ref_comeBack.2.1 m_Ref_comeBack.2.2.1 m_Ref_comeBack.2.2.2.1, .methodLink "SillHoursLaw" 134 m_Ref_letter.1, .instanceMethod m_Ref_letter.1, .selects "SillHoursModel" m_Ref_letter.1 m_Ref_letter.1, .code m_Ref_letter.1 m_Ref_letter.2.1 m_Ref_letter.2.2.1 m_Ref_letter.2.2.2.1, .methodLink "SillHoursModel" 414 m_Ref_writePort.1, .instanceMethod m_Ref_writePort.1, .code m_Ref_writePort.1 m_Ref_writePort.2.1 m_Ref_writePort.2.2.1 m_Ref_writePort.2.2.2.1, .methodLink "SillHoursModel" 417 m_Ref_writeSill.1, .instanceMethod m_Ref_writeSill.1, .code m_Ref_writeSill.1 m_Ref_writeSill.2.1 m_Ref_writeSill.2.2.1 m_Ref_writeSill.2.2.2.1, .methodLink "SillHoursModel" 420 m_Ref_writeShip.1, .instanceMethod m_Ref_writeShip.1, .code m_Ref_writeShip.1 m_Ref_writeShip.2.1 m_Ref_writeShip.2.2.1 m_Ref_writeShip.2.2.2.1, .methodLink "SillHoursModel" 423 m_Ref_writeRoute.1, .instanceMethod m_Ref_writeRoute.1, .code m_Ref_writeRoute.1 m_Ref_writeRoute.2.1 m_Ref_writeRoute.2.2.1 m_Ref_writeRoute.2.2.2.1, .methodLink "SillHoursLaw" 138 m_Ref_same.1]
set_option maxRecDepth 100000 in
theorem am_U30_ok : ∀ w ∈ am_U30, w ∈ am_tbl := am_sb_tb (by decide +kernel) (by decide +kernel)
def am_U31 : List Cond := [.instanceMethod m_Ref_same.1, .selects "SillHoursModel" m_Ref_same.1 m_Ref_same.1, .code m_Ref_same.1 m_Ref_same.2.1 m_Ref_same.2.2.1 m_Ref_same.2.2.2.1, .methodLink "SillHoursLaw" 142 m_Ref_status.1, .instanceMethod m_Ref_status.1, .selects "SillHoursModel" m_Ref_status.1 m_Ref_status.1, .code m_Ref_status.1 m_Ref_status.2.1 m_Ref_status.2.2.1 m_Ref_status.2.2.2.1]
set_option maxRecDepth 100000 in
theorem am_U31_ok : ∀ w ∈ am_U31, w ∈ am_tbl := am_sb_tb (by decide +kernel) (by decide +kernel)
theorem lm_Page_init : am_LM m_Page_init := ⟨(am_U4_ok _ (List.mem_of_getElem? (i := 22) rfl)), (am_U2_ok _ (List.mem_of_getElem? (i := 23) rfl)), ⟨by decide +kernel, by decide +kernel⟩, by decide +kernel⟩
theorem np_Page_init : am_np m_Page_init 0 := by unfold am_np; decide +kernel
theorem im_Page_init : Cond.instanceMethod m_Page_init.1 ∈ am_tbl := (am_U4_ok _ (List.mem_of_getElem? (i := 21) rfl))
theorem lm_Page_letterAt : am_LM m_Page_letterAt := ⟨(am_U19_ok _ (List.mem_of_getElem? (i := 18) rfl)), (am_U2_ok _ (List.mem_of_getElem? (i := 23) rfl)), ⟨by decide +kernel, by decide +kernel⟩, by decide +kernel⟩
theorem np_Page_letterAt : am_np m_Page_letterAt 1 := by unfold am_np; decide +kernel
theorem im_Page_letterAt : Cond.instanceMethod m_Page_letterAt.1 ∈ am_tbl := (am_U19_ok _ (List.mem_of_getElem? (i := 16) rfl))
theorem se_Page_letterAt : Cond.selects m_Page_letterAt.1.cls m_Page_letterAt.1 m_Page_letterAt.1 ∈ am_tbl := (am_U19_ok _ (List.mem_of_getElem? (i := 17) rfl))
theorem lm_Page_put : am_LM m_Page_put := ⟨(am_U18_ok _ (List.mem_of_getElem? (i := 30) rfl)), (am_U2_ok _ (List.mem_of_getElem? (i := 23) rfl)), ⟨by decide +kernel, by decide +kernel⟩, by decide +kernel⟩
theorem np_Page_put : am_np m_Page_put 1 := by unfold am_np; decide +kernel
theorem im_Page_put : Cond.instanceMethod m_Page_put.1 ∈ am_tbl := (am_U18_ok _ (List.mem_of_getElem? (i := 29) rfl))
theorem se_Page_put : Cond.selects m_Page_put.1.cls m_Page_put.1 m_Page_put.1 ∈ am_tbl := (am_U0_ok _ (List.mem_of_getElem? (i := 23) rfl))
theorem lm_Page_putDayAndTime : am_LM m_Page_putDayAndTime := ⟨(am_U18_ok _ (List.mem_of_getElem? (i := 34) rfl)), (am_U2_ok _ (List.mem_of_getElem? (i := 23) rfl)), ⟨by decide +kernel, by decide +kernel⟩, by decide +kernel⟩
theorem np_Page_putDayAndTime : am_np m_Page_putDayAndTime 1 := by unfold am_np; decide +kernel
theorem im_Page_putDayAndTime : Cond.instanceMethod m_Page_putDayAndTime.1 ∈ am_tbl := (am_U18_ok _ (List.mem_of_getElem? (i := 33) rfl))
theorem se_Page_putDayAndTime : Cond.selects m_Page_putDayAndTime.1.cls m_Page_putDayAndTime.1 m_Page_putDayAndTime.1 ∈ am_tbl := (am_U0_ok _ (List.mem_of_getElem? (i := 24) rfl))
theorem lm_Page_putDigit : am_LM m_Page_putDigit := ⟨(am_U19_ok _ (List.mem_of_getElem? (i := 0) rfl)), (am_U2_ok _ (List.mem_of_getElem? (i := 23) rfl)), ⟨by decide +kernel, by decide +kernel⟩, by decide +kernel⟩
theorem np_Page_putDigit : am_np m_Page_putDigit 1 := by unfold am_np; decide +kernel
theorem im_Page_putDigit : Cond.instanceMethod m_Page_putDigit.1 ∈ am_tbl := (am_U18_ok _ (List.mem_of_getElem? (i := 39) rfl))
theorem se_Page_putDigit : Cond.selects m_Page_putDigit.1.cls m_Page_putDigit.1 m_Page_putDigit.1 ∈ am_tbl := (am_U0_ok _ (List.mem_of_getElem? (i := 26) rfl))
theorem lm_Page_putNumber : am_LM m_Page_putNumber := ⟨(am_U19_ok _ (List.mem_of_getElem? (i := 3) rfl)), (am_U2_ok _ (List.mem_of_getElem? (i := 23) rfl)), ⟨by decide +kernel, by decide +kernel⟩, by decide +kernel⟩
theorem np_Page_putNumber : am_np m_Page_putNumber 1 := by unfold am_np; decide +kernel
theorem im_Page_putNumber : Cond.instanceMethod m_Page_putNumber.1 ∈ am_tbl := (am_U19_ok _ (List.mem_of_getElem? (i := 2) rfl))
theorem se_Page_putNumber : Cond.selects m_Page_putNumber.1.cls m_Page_putNumber.1 m_Page_putNumber.1 ∈ am_tbl := (am_U0_ok _ (List.mem_of_getElem? (i := 27) rfl))
theorem lm_Page_putText : am_LM m_Page_putText := ⟨(am_U18_ok _ (List.mem_of_getElem? (i := 25) rfl)), (am_U2_ok _ (List.mem_of_getElem? (i := 23) rfl)), ⟨by decide +kernel, by decide +kernel⟩, by decide +kernel⟩
theorem np_Page_putText : am_np m_Page_putText 1 := by unfold am_np; decide +kernel
theorem im_Page_putText : Cond.instanceMethod m_Page_putText.1 ∈ am_tbl := (am_U18_ok _ (List.mem_of_getElem? (i := 24) rfl))
theorem se_Page_putText : Cond.selects m_Page_putText.1.cls m_Page_putText.1 m_Page_putText.1 ∈ am_tbl := (am_U0_ok _ (List.mem_of_getElem? (i := 22) rfl))
theorem lm_Page_putTime : am_LM m_Page_putTime := ⟨(am_U18_ok _ (List.mem_of_getElem? (i := 37) rfl)), (am_U2_ok _ (List.mem_of_getElem? (i := 23) rfl)), ⟨by decide +kernel, by decide +kernel⟩, by decide +kernel⟩
theorem np_Page_putTime : am_np m_Page_putTime 1 := by unfold am_np; decide +kernel
theorem im_Page_putTime : Cond.instanceMethod m_Page_putTime.1 ∈ am_tbl := (am_U18_ok _ (List.mem_of_getElem? (i := 36) rfl))
theorem se_Page_putTime : Cond.selects m_Page_putTime.1.cls m_Page_putTime.1 m_Page_putTime.1 ∈ am_tbl := (am_U0_ok _ (List.mem_of_getElem? (i := 25) rfl))
theorem lm_Page_size : am_LM m_Page_size := ⟨(am_U19_ok _ (List.mem_of_getElem? (i := 14) rfl)), (am_U2_ok _ (List.mem_of_getElem? (i := 23) rfl)), ⟨by decide +kernel, by decide +kernel⟩, by decide +kernel⟩
theorem np_Page_size : am_np m_Page_size 0 := by unfold am_np; decide +kernel
theorem im_Page_size : Cond.instanceMethod m_Page_size.1 ∈ am_tbl := (am_U19_ok _ (List.mem_of_getElem? (i := 12) rfl))
theorem se_Page_size : Cond.selects m_Page_size.1.cls m_Page_size.1 m_Page_size.1 ∈ am_tbl := (am_U19_ok _ (List.mem_of_getElem? (i := 13) rfl))
theorem lm_Page_wordOf : am_LM m_Page_wordOf := ⟨(am_U22_ok _ (List.mem_of_getElem? (i := 19) rfl)), (am_U2_ok _ (List.mem_of_getElem? (i := 23) rfl)), ⟨by decide +kernel, by decide +kernel⟩, by decide +kernel⟩
theorem np_Page_wordOf : am_np m_Page_wordOf 1 := by unfold am_np; decide +kernel
theorem st_Page_wordOf : Cond.static m_Page_wordOf.1 ∈ am_tbl := (am_U22_ok _ (List.mem_of_getElem? (i := 18) rfl))
theorem lm_Page_writeNote : am_LM m_Page_writeNote := ⟨(am_U18_ok _ (List.mem_of_getElem? (i := 21) rfl)), (am_U2_ok _ (List.mem_of_getElem? (i := 23) rfl)), ⟨by decide +kernel, by decide +kernel⟩, by decide +kernel⟩
theorem np_Page_writeNote : am_np m_Page_writeNote 2 := by unfold am_np; decide +kernel
theorem im_Page_writeNote : Cond.instanceMethod m_Page_writeNote.1 ∈ am_tbl := (am_U18_ok _ (List.mem_of_getElem? (i := 19) rfl))
theorem se_Page_writeNote : Cond.selects m_Page_writeNote.1.cls m_Page_writeNote.1 m_Page_writeNote.1 ∈ am_tbl := (am_U18_ok _ (List.mem_of_getElem? (i := 20) rfl))
theorem lm_Page_writePort : am_LM m_Page_writePort := ⟨(am_U22_ok _ (List.mem_of_getElem? (i := 7) rfl)), (am_U2_ok _ (List.mem_of_getElem? (i := 23) rfl)), ⟨by decide +kernel, by decide +kernel⟩, by decide +kernel⟩
theorem np_Page_writePort : am_np m_Page_writePort 1 := by unfold am_np; decide +kernel
theorem im_Page_writePort : Cond.instanceMethod m_Page_writePort.1 ∈ am_tbl := (am_U22_ok _ (List.mem_of_getElem? (i := 5) rfl))
theorem se_Page_writePort : Cond.selects m_Page_writePort.1.cls m_Page_writePort.1 m_Page_writePort.1 ∈ am_tbl := (am_U22_ok _ (List.mem_of_getElem? (i := 6) rfl))
theorem lm_Page_writeRoute : am_LM m_Page_writeRoute := ⟨(am_U22_ok _ (List.mem_of_getElem? (i := 37) rfl)), (am_U2_ok _ (List.mem_of_getElem? (i := 23) rfl)), ⟨by decide +kernel, by decide +kernel⟩, by decide +kernel⟩
theorem np_Page_writeRoute : am_np m_Page_writeRoute 1 := by unfold am_np; decide +kernel
theorem im_Page_writeRoute : Cond.instanceMethod m_Page_writeRoute.1 ∈ am_tbl := (am_U22_ok _ (List.mem_of_getElem? (i := 35) rfl))
theorem se_Page_writeRoute : Cond.selects m_Page_writeRoute.1.cls m_Page_writeRoute.1 m_Page_writeRoute.1 ∈ am_tbl := (am_U22_ok _ (List.mem_of_getElem? (i := 36) rfl))
theorem lm_Page_writeShip : am_LM m_Page_writeShip := ⟨(am_U22_ok _ (List.mem_of_getElem? (i := 27) rfl)), (am_U2_ok _ (List.mem_of_getElem? (i := 23) rfl)), ⟨by decide +kernel, by decide +kernel⟩, by decide +kernel⟩
theorem np_Page_writeShip : am_np m_Page_writeShip 1 := by unfold am_np; decide +kernel
theorem im_Page_writeShip : Cond.instanceMethod m_Page_writeShip.1 ∈ am_tbl := (am_U22_ok _ (List.mem_of_getElem? (i := 25) rfl))
theorem se_Page_writeShip : Cond.selects m_Page_writeShip.1.cls m_Page_writeShip.1 m_Page_writeShip.1 ∈ am_tbl := (am_U22_ok _ (List.mem_of_getElem? (i := 26) rfl))
theorem lm_Page_writeSill : am_LM m_Page_writeSill := ⟨(am_U22_ok _ (List.mem_of_getElem? (i := 15) rfl)), (am_U2_ok _ (List.mem_of_getElem? (i := 23) rfl)), ⟨by decide +kernel, by decide +kernel⟩, by decide +kernel⟩
theorem np_Page_writeSill : am_np m_Page_writeSill 1 := by unfold am_np; decide +kernel
theorem im_Page_writeSill : Cond.instanceMethod m_Page_writeSill.1 ∈ am_tbl := (am_U22_ok _ (List.mem_of_getElem? (i := 13) rfl))
theorem se_Page_writeSill : Cond.selects m_Page_writeSill.1.cls m_Page_writeSill.1 m_Page_writeSill.1 ∈ am_tbl := (am_U22_ok _ (List.mem_of_getElem? (i := 14) rfl))
theorem lm_Planner_allowEarlier : am_LM m_Planner_allowEarlier := ⟨(am_U21_ok _ (List.mem_of_getElem? (i := 36) rfl)), (am_U2_ok _ (List.mem_of_getElem? (i := 22) rfl)), ⟨by decide +kernel, by decide +kernel⟩, by decide +kernel⟩
theorem np_Planner_allowEarlier : am_np m_Planner_allowEarlier 4 := by unfold am_np; decide +kernel
theorem im_Planner_allowEarlier : Cond.instanceMethod m_Planner_allowEarlier.1 ∈ am_tbl := (am_U21_ok _ (List.mem_of_getElem? (i := 35) rfl))
theorem se_Planner_allowEarlier : Cond.selects m_Planner_allowEarlier.1.cls m_Planner_allowEarlier.1 m_Planner_allowEarlier.1 ∈ am_tbl := (am_U0_ok _ (List.mem_of_getElem? (i := 33) rfl))
theorem lm_Planner_allowLater : am_LM m_Planner_allowLater := ⟨(am_U20_ok _ (List.mem_of_getElem? (i := 16) rfl)), (am_U2_ok _ (List.mem_of_getElem? (i := 22) rfl)), ⟨by decide +kernel, by decide +kernel⟩, by decide +kernel⟩
theorem np_Planner_allowLater : am_np m_Planner_allowLater 4 := by unfold am_np; decide +kernel
theorem im_Planner_allowLater : Cond.instanceMethod m_Planner_allowLater.1 ∈ am_tbl := (am_U20_ok _ (List.mem_of_getElem? (i := 15) rfl))
theorem se_Planner_allowLater : Cond.selects m_Planner_allowLater.1.cls m_Planner_allowLater.1 m_Planner_allowLater.1 ∈ am_tbl := (am_U0_ok _ (List.mem_of_getElem? (i := 30) rfl))
theorem lm_Planner_choosePasses : am_LM m_Planner_choosePasses := ⟨(am_U21_ok _ (List.mem_of_getElem? (i := 4) rfl)), (am_U2_ok _ (List.mem_of_getElem? (i := 22) rfl)), ⟨by decide +kernel, by decide +kernel⟩, by decide +kernel⟩
theorem np_Planner_choosePasses : am_np m_Planner_choosePasses 3 := by unfold am_np; decide +kernel
theorem im_Planner_choosePasses : Cond.instanceMethod m_Planner_choosePasses.1 ∈ am_tbl := (am_U21_ok _ (List.mem_of_getElem? (i := 3) rfl))
theorem se_Planner_choosePasses : Cond.selects m_Planner_choosePasses.1.cls m_Planner_choosePasses.1 m_Planner_choosePasses.1 ∈ am_tbl := (am_U0_ok _ (List.mem_of_getElem? (i := 32) rfl))
theorem lm_Planner_findDeep : am_LM m_Planner_findDeep := ⟨(am_U20_ok _ (List.mem_of_getElem? (i := 27) rfl)), (am_U2_ok _ (List.mem_of_getElem? (i := 22) rfl)), ⟨by decide +kernel, by decide +kernel⟩, by decide +kernel⟩
theorem np_Planner_findDeep : am_np m_Planner_findDeep 2 := by unfold am_np; decide +kernel
theorem im_Planner_findDeep : Cond.instanceMethod m_Planner_findDeep.1 ∈ am_tbl := (am_U20_ok _ (List.mem_of_getElem? (i := 26) rfl))
theorem se_Planner_findDeep : Cond.selects m_Planner_findDeep.1.cls m_Planner_findDeep.1 m_Planner_findDeep.1 ∈ am_tbl := (am_U0_ok _ (List.mem_of_getElem? (i := 31) rfl))
theorem lm_Planner_init : am_LM m_Planner_init := ⟨(am_U4_ok _ (List.mem_of_getElem? (i := 14) rfl)), (am_U2_ok _ (List.mem_of_getElem? (i := 22) rfl)), ⟨by decide +kernel, by decide +kernel⟩, by decide +kernel⟩
theorem np_Planner_init : am_np m_Planner_init 0 := by unfold am_np; decide +kernel
theorem im_Planner_init : Cond.instanceMethod m_Planner_init.1 ∈ am_tbl := (am_U4_ok _ (List.mem_of_getElem? (i := 13) rfl))
theorem lm_Planner_latestStart : am_LM m_Planner_latestStart := ⟨(am_U21_ok _ (List.mem_of_getElem? (i := 33) rfl)), (am_U2_ok _ (List.mem_of_getElem? (i := 22) rfl)), ⟨by decide +kernel, by decide +kernel⟩, by decide +kernel⟩
theorem np_Planner_latestStart : am_np m_Planner_latestStart 3 := by unfold am_np; decide +kernel
theorem im_Planner_latestStart : Cond.instanceMethod m_Planner_latestStart.1 ∈ am_tbl := (am_U21_ok _ (List.mem_of_getElem? (i := 31) rfl))
theorem se_Planner_latestStart : Cond.selects m_Planner_latestStart.1.cls m_Planner_latestStart.1 m_Planner_latestStart.1 ∈ am_tbl := (am_U21_ok _ (List.mem_of_getElem? (i := 32) rfl))
theorem lm_Planner_passOf : am_LM m_Planner_passOf := ⟨(am_U21_ok _ (List.mem_of_getElem? (i := 12) rfl)), (am_U2_ok _ (List.mem_of_getElem? (i := 22) rfl)), ⟨by decide +kernel, by decide +kernel⟩, by decide +kernel⟩
theorem np_Planner_passOf : am_np m_Planner_passOf 1 := by unfold am_np; decide +kernel
theorem im_Planner_passOf : Cond.instanceMethod m_Planner_passOf.1 ∈ am_tbl := (am_U21_ok _ (List.mem_of_getElem? (i := 10) rfl))
theorem se_Planner_passOf : Cond.selects m_Planner_passOf.1.cls m_Planner_passOf.1 m_Planner_passOf.1 ∈ am_tbl := (am_U21_ok _ (List.mem_of_getElem? (i := 11) rfl))
theorem lm_Planner_plan : am_LM m_Planner_plan := ⟨(am_U20_ok _ (List.mem_of_getElem? (i := 5) rfl)), (am_U2_ok _ (List.mem_of_getElem? (i := 22) rfl)), ⟨by decide +kernel, by decide +kernel⟩, by decide +kernel⟩
theorem np_Planner_plan : am_np m_Planner_plan 3 := by unfold am_np; decide +kernel
theorem im_Planner_plan : Cond.instanceMethod m_Planner_plan.1 ∈ am_tbl := (am_U20_ok _ (List.mem_of_getElem? (i := 3) rfl))
theorem se_Planner_plan : Cond.selects m_Planner_plan.1.cls m_Planner_plan.1 m_Planner_plan.1 ∈ am_tbl := (am_U20_ok _ (List.mem_of_getElem? (i := 4) rfl))
theorem lm_Planner_waitedFrom : am_LM m_Planner_waitedFrom := ⟨(am_U21_ok _ (List.mem_of_getElem? (i := 24) rfl)), (am_U2_ok _ (List.mem_of_getElem? (i := 22) rfl)), ⟨by decide +kernel, by decide +kernel⟩, by decide +kernel⟩
theorem np_Planner_waitedFrom : am_np m_Planner_waitedFrom 3 := by unfold am_np; decide +kernel
theorem im_Planner_waitedFrom : Cond.instanceMethod m_Planner_waitedFrom.1 ∈ am_tbl := (am_U21_ok _ (List.mem_of_getElem? (i := 22) rfl))
theorem se_Planner_waitedFrom : Cond.selects m_Planner_waitedFrom.1.cls m_Planner_waitedFrom.1 m_Planner_waitedFrom.1 ∈ am_tbl := (am_U21_ok _ (List.mem_of_getElem? (i := 23) rfl))
theorem lm_Port_add : am_LM m_Port_add := ⟨(am_U8_ok _ (List.mem_of_getElem? (i := 15) rfl)), (am_U2_ok _ (List.mem_of_getElem? (i := 17) rfl)), ⟨by decide +kernel, by decide +kernel⟩, by decide +kernel⟩
theorem np_Port_add : am_np m_Port_add 3 := by unfold am_np; decide +kernel
theorem im_Port_add : Cond.instanceMethod m_Port_add.1 ∈ am_tbl := (am_U8_ok _ (List.mem_of_getElem? (i := 13) rfl))
theorem se_Port_add : Cond.selects m_Port_add.1.cls m_Port_add.1 m_Port_add.1 ∈ am_tbl := (am_U8_ok _ (List.mem_of_getElem? (i := 14) rfl))
theorem lm_Port_clear : am_LM m_Port_clear := ⟨(am_U7_ok _ (List.mem_of_getElem? (i := 31) rfl)), (am_U2_ok _ (List.mem_of_getElem? (i := 17) rfl)), ⟨by decide +kernel, by decide +kernel⟩, by decide +kernel⟩
theorem np_Port_clear : am_np m_Port_clear 0 := by unfold am_np; decide +kernel
theorem im_Port_clear : Cond.instanceMethod m_Port_clear.1 ∈ am_tbl := (am_U7_ok _ (List.mem_of_getElem? (i := 29) rfl))
theorem se_Port_clear : Cond.selects m_Port_clear.1.cls m_Port_clear.1 m_Port_clear.1 ∈ am_tbl := (am_U7_ok _ (List.mem_of_getElem? (i := 30) rfl))
theorem lm_Port_collect : am_LM m_Port_collect := ⟨(am_U14_ok _ (List.mem_of_getElem? (i := 39) rfl)), (am_U2_ok _ (List.mem_of_getElem? (i := 17) rfl)), ⟨by decide +kernel, by decide +kernel⟩, by decide +kernel⟩
theorem np_Port_collect : am_np m_Port_collect 3 := by unfold am_np; decide +kernel
theorem im_Port_collect : Cond.instanceMethod m_Port_collect.1 ∈ am_tbl := (am_U14_ok _ (List.mem_of_getElem? (i := 37) rfl))
theorem se_Port_collect : Cond.selects m_Port_collect.1.cls m_Port_collect.1 m_Port_collect.1 ∈ am_tbl := (am_U14_ok _ (List.mem_of_getElem? (i := 38) rfl))
theorem lm_Port_copyFrom : am_LM m_Port_copyFrom := ⟨(am_U7_ok _ (List.mem_of_getElem? (i := 35) rfl)), (am_U2_ok _ (List.mem_of_getElem? (i := 17) rfl)), ⟨by decide +kernel, by decide +kernel⟩, by decide +kernel⟩
theorem np_Port_copyFrom : am_np m_Port_copyFrom 1 := by unfold am_np; decide +kernel
theorem im_Port_copyFrom : Cond.instanceMethod m_Port_copyFrom.1 ∈ am_tbl := (am_U7_ok _ (List.mem_of_getElem? (i := 33) rfl))
theorem se_Port_copyFrom : Cond.selects m_Port_copyFrom.1.cls m_Port_copyFrom.1 m_Port_copyFrom.1 ∈ am_tbl := (am_U7_ok _ (List.mem_of_getElem? (i := 34) rfl))
theorem lm_Port_excess : am_LM m_Port_excess := ⟨(am_U14_ok _ (List.mem_of_getElem? (i := 20) rfl)), (am_U2_ok _ (List.mem_of_getElem? (i := 17) rfl)), ⟨by decide +kernel, by decide +kernel⟩, by decide +kernel⟩
theorem np_Port_excess : am_np m_Port_excess 3 := by unfold am_np; decide +kernel
theorem im_Port_excess : Cond.instanceMethod m_Port_excess.1 ∈ am_tbl := (am_U14_ok _ (List.mem_of_getElem? (i := 19) rfl))
theorem se_Port_excess : Cond.selects m_Port_excess.1.cls m_Port_excess.1 m_Port_excess.1 ∈ am_tbl := (am_U0_ok _ (List.mem_of_getElem? (i := 15) rfl))
theorem lm_Port_faultOfHeight : am_LM m_Port_faultOfHeight := ⟨(am_U8_ok _ (List.mem_of_getElem? (i := 23) rfl)), (am_U2_ok _ (List.mem_of_getElem? (i := 17) rfl)), ⟨by decide +kernel, by decide +kernel⟩, by decide +kernel⟩
theorem np_Port_faultOfHeight : am_np m_Port_faultOfHeight 2 := by unfold am_np; decide +kernel
theorem im_Port_faultOfHeight : Cond.instanceMethod m_Port_faultOfHeight.1 ∈ am_tbl := (am_U8_ok _ (List.mem_of_getElem? (i := 21) rfl))
theorem se_Port_faultOfHeight : Cond.selects m_Port_faultOfHeight.1.cls m_Port_faultOfHeight.1 m_Port_faultOfHeight.1 ∈ am_tbl := (am_U8_ok _ (List.mem_of_getElem? (i := 22) rfl))
theorem lm_Port_faultOfMinute : am_LM m_Port_faultOfMinute := ⟨(am_U9_ok _ (List.mem_of_getElem? (i := 1) rfl)), (am_U2_ok _ (List.mem_of_getElem? (i := 17) rfl)), ⟨by decide +kernel, by decide +kernel⟩, by decide +kernel⟩
theorem np_Port_faultOfMinute : am_np m_Port_faultOfMinute 1 := by unfold am_np; decide +kernel
theorem im_Port_faultOfMinute : Cond.instanceMethod m_Port_faultOfMinute.1 ∈ am_tbl := (am_U8_ok _ (List.mem_of_getElem? (i := 39) rfl))
theorem se_Port_faultOfMinute : Cond.selects m_Port_faultOfMinute.1.cls m_Port_faultOfMinute.1 m_Port_faultOfMinute.1 ∈ am_tbl := (am_U9_ok _ (List.mem_of_getElem? (i := 0) rfl))
theorem lm_Port_faultOfNext : am_LM m_Port_faultOfNext := ⟨(am_U8_ok _ (List.mem_of_getElem? (i := 19) rfl)), (am_U2_ok _ (List.mem_of_getElem? (i := 17) rfl)), ⟨by decide +kernel, by decide +kernel⟩, by decide +kernel⟩
theorem np_Port_faultOfNext : am_np m_Port_faultOfNext 3 := by unfold am_np; decide +kernel
theorem im_Port_faultOfNext : Cond.instanceMethod m_Port_faultOfNext.1 ∈ am_tbl := (am_U8_ok _ (List.mem_of_getElem? (i := 17) rfl))
theorem se_Port_faultOfNext : Cond.selects m_Port_faultOfNext.1.cls m_Port_faultOfNext.1 m_Port_faultOfNext.1 ∈ am_tbl := (am_U8_ok _ (List.mem_of_getElem? (i := 18) rfl))
theorem lm_Port_firstChange : am_LM m_Port_firstChange := ⟨(am_U15_ok _ (List.mem_of_getElem? (i := 6) rfl)), (am_U2_ok _ (List.mem_of_getElem? (i := 17) rfl)), ⟨by decide +kernel, by decide +kernel⟩, by decide +kernel⟩
theorem np_Port_firstChange : am_np m_Port_firstChange 4 := by unfold am_np; decide +kernel
theorem im_Port_firstChange : Cond.instanceMethod m_Port_firstChange.1 ∈ am_tbl := (am_U15_ok _ (List.mem_of_getElem? (i := 5) rfl))
theorem se_Port_firstChange : Cond.selects m_Port_firstChange.1.cls m_Port_firstChange.1 m_Port_firstChange.1 ∈ am_tbl := (am_U0_ok _ (List.mem_of_getElem? (i := 17) rfl))
theorem lm_Port_firstMinute : am_LM m_Port_firstMinute := ⟨(am_U14_ok _ (List.mem_of_getElem? (i := 13) rfl)), (am_U2_ok _ (List.mem_of_getElem? (i := 17) rfl)), ⟨by decide +kernel, by decide +kernel⟩, by decide +kernel⟩
theorem np_Port_firstMinute : am_np m_Port_firstMinute 0 := by unfold am_np; decide +kernel
theorem im_Port_firstMinute : Cond.instanceMethod m_Port_firstMinute.1 ∈ am_tbl := (am_U14_ok _ (List.mem_of_getElem? (i := 11) rfl))
theorem se_Port_firstMinute : Cond.selects m_Port_firstMinute.1.cls m_Port_firstMinute.1 m_Port_firstMinute.1 ∈ am_tbl := (am_U14_ok _ (List.mem_of_getElem? (i := 12) rfl))
theorem lm_Port_hasMinute : am_LM m_Port_hasMinute := ⟨(am_U14_ok _ (List.mem_of_getElem? (i := 9) rfl)), (am_U2_ok _ (List.mem_of_getElem? (i := 17) rfl)), ⟨by decide +kernel, by decide +kernel⟩, by decide +kernel⟩
theorem np_Port_hasMinute : am_np m_Port_hasMinute 1 := by unfold am_np; decide +kernel
theorem im_Port_hasMinute : Cond.instanceMethod m_Port_hasMinute.1 ∈ am_tbl := (am_U14_ok _ (List.mem_of_getElem? (i := 7) rfl))
theorem se_Port_hasMinute : Cond.selects m_Port_hasMinute.1.cls m_Port_hasMinute.1 m_Port_hasMinute.1 ∈ am_tbl := (am_U14_ok _ (List.mem_of_getElem? (i := 8) rfl))
theorem lm_Port_heightOf : am_LM m_Port_heightOf := ⟨(am_U8_ok _ (List.mem_of_getElem? (i := 11) rfl)), (am_U2_ok _ (List.mem_of_getElem? (i := 17) rfl)), ⟨by decide +kernel, by decide +kernel⟩, by decide +kernel⟩
theorem np_Port_heightOf : am_np m_Port_heightOf 1 := by unfold am_np; decide +kernel
theorem im_Port_heightOf : Cond.instanceMethod m_Port_heightOf.1 ∈ am_tbl := (am_U8_ok _ (List.mem_of_getElem? (i := 9) rfl))
theorem se_Port_heightOf : Cond.selects m_Port_heightOf.1.cls m_Port_heightOf.1 m_Port_heightOf.1 ∈ am_tbl := (am_U8_ok _ (List.mem_of_getElem? (i := 10) rfl))
theorem lm_Port_init : am_LM m_Port_init := ⟨(am_U3_ok _ (List.mem_of_getElem? (i := 20) rfl)), (am_U2_ok _ (List.mem_of_getElem? (i := 17) rfl)), ⟨by decide +kernel, by decide +kernel⟩, by decide +kernel⟩
theorem np_Port_init : am_np m_Port_init 1 := by unfold am_np; decide +kernel
theorem im_Port_init : Cond.instanceMethod m_Port_init.1 ∈ am_tbl := (am_U3_ok _ (List.mem_of_getElem? (i := 19) rfl))
theorem lm_Port_isHeight : am_LM m_Port_isHeight := ⟨(am_U8_ok _ (List.mem_of_getElem? (i := 26) rfl)), (am_U2_ok _ (List.mem_of_getElem? (i := 17) rfl)), ⟨by decide +kernel, by decide +kernel⟩, by decide +kernel⟩
theorem np_Port_isHeight : am_np m_Port_isHeight 1 := by unfold am_np; decide +kernel
theorem st_Port_isHeight : Cond.static m_Port_isHeight.1 ∈ am_tbl := (am_U8_ok _ (List.mem_of_getElem? (i := 25) rfl))
theorem lm_Port_isHigh : am_LM m_Port_isHigh := ⟨(am_U8_ok _ (List.mem_of_getElem? (i := 3) rfl)), (am_U2_ok _ (List.mem_of_getElem? (i := 17) rfl)), ⟨by decide +kernel, by decide +kernel⟩, by decide +kernel⟩
theorem np_Port_isHigh : am_np m_Port_isHigh 1 := by unfold am_np; decide +kernel
theorem im_Port_isHigh : Cond.instanceMethod m_Port_isHigh.1 ∈ am_tbl := (am_U8_ok _ (List.mem_of_getElem? (i := 1) rfl))
theorem se_Port_isHigh : Cond.selects m_Port_isHigh.1.cls m_Port_isHigh.1 m_Port_isHigh.1 ∈ am_tbl := (am_U8_ok _ (List.mem_of_getElem? (i := 2) rfl))
theorem lm_Port_isOn : am_LM m_Port_isOn := ⟨(am_U15_ok _ (List.mem_of_getElem? (i := 9) rfl)), (am_U2_ok _ (List.mem_of_getElem? (i := 17) rfl)), ⟨by decide +kernel, by decide +kernel⟩, by decide +kernel⟩
theorem np_Port_isOn : am_np m_Port_isOn 2 := by unfold am_np; decide +kernel
theorem st_Port_isOn : Cond.static m_Port_isOn.1 ∈ am_tbl := (am_U15_ok _ (List.mem_of_getElem? (i := 8) rfl))
theorem lm_Port_isWrittenAs : am_LM m_Port_isWrittenAs := ⟨(am_U23_ok _ (List.mem_of_getElem? (i := 10) rfl)), (am_U2_ok _ (List.mem_of_getElem? (i := 17) rfl)), ⟨by decide +kernel, by decide +kernel⟩, by decide +kernel⟩
theorem np_Port_isWrittenAs : am_np m_Port_isWrittenAs 1 := by unfold am_np; decide +kernel
theorem im_Port_isWrittenAs : Cond.instanceMethod m_Port_isWrittenAs.1 ∈ am_tbl := (am_U23_ok _ (List.mem_of_getElem? (i := 8) rfl))
theorem se_Port_isWrittenAs : Cond.selects m_Port_isWrittenAs.1.cls m_Port_isWrittenAs.1 m_Port_isWrittenAs.1 ∈ am_tbl := (am_U23_ok _ (List.mem_of_getElem? (i := 9) rfl))
theorem lm_Port_lastMinute : am_LM m_Port_lastMinute := ⟨(am_U8_ok _ (List.mem_of_getElem? (i := 34) rfl)), (am_U2_ok _ (List.mem_of_getElem? (i := 17) rfl)), ⟨by decide +kernel, by decide +kernel⟩, by decide +kernel⟩
theorem np_Port_lastMinute : am_np m_Port_lastMinute 0 := by unfold am_np; decide +kernel
theorem im_Port_lastMinute : Cond.instanceMethod m_Port_lastMinute.1 ∈ am_tbl := (am_U8_ok _ (List.mem_of_getElem? (i := 32) rfl))
theorem se_Port_lastMinute : Cond.selects m_Port_lastMinute.1.cls m_Port_lastMinute.1 m_Port_lastMinute.1 ∈ am_tbl := (am_U8_ok _ (List.mem_of_getElem? (i := 33) rfl))
theorem lm_Port_minuteOf : am_LM m_Port_minuteOf := ⟨(am_U8_ok _ (List.mem_of_getElem? (i := 7) rfl)), (am_U2_ok _ (List.mem_of_getElem? (i := 17) rfl)), ⟨by decide +kernel, by decide +kernel⟩, by decide +kernel⟩
theorem np_Port_minuteOf : am_np m_Port_minuteOf 1 := by unfold am_np; decide +kernel
theorem im_Port_minuteOf : Cond.instanceMethod m_Port_minuteOf.1 ∈ am_tbl := (am_U8_ok _ (List.mem_of_getElem? (i := 5) rfl))
theorem se_Port_minuteOf : Cond.selects m_Port_minuteOf.1.cls m_Port_minuteOf.1 m_Port_minuteOf.1 ∈ am_tbl := (am_U8_ok _ (List.mem_of_getElem? (i := 6) rfl))
theorem lm_Port_minuteOfNext : am_LM m_Port_minuteOfNext := ⟨(am_U8_ok _ (List.mem_of_getElem? (i := 30) rfl)), (am_U2_ok _ (List.mem_of_getElem? (i := 17) rfl)), ⟨by decide +kernel, by decide +kernel⟩, by decide +kernel⟩
theorem np_Port_minuteOfNext : am_np m_Port_minuteOfNext 1 := by unfold am_np; decide +kernel
theorem im_Port_minuteOfNext : Cond.instanceMethod m_Port_minuteOfNext.1 ∈ am_tbl := (am_U8_ok _ (List.mem_of_getElem? (i := 28) rfl))
theorem se_Port_minuteOfNext : Cond.selects m_Port_minuteOfNext.1.cls m_Port_minuteOfNext.1 m_Port_minuteOfNext.1 ∈ am_tbl := (am_U8_ok _ (List.mem_of_getElem? (i := 29) rfl))
theorem lm_Port_turnCount : am_LM m_Port_turnCount := ⟨(am_U7_ok _ (List.mem_of_getElem? (i := 39) rfl)), (am_U2_ok _ (List.mem_of_getElem? (i := 17) rfl)), ⟨by decide +kernel, by decide +kernel⟩, by decide +kernel⟩
theorem np_Port_turnCount : am_np m_Port_turnCount 0 := by unfold am_np; decide +kernel
theorem im_Port_turnCount : Cond.instanceMethod m_Port_turnCount.1 ∈ am_tbl := (am_U7_ok _ (List.mem_of_getElem? (i := 37) rfl))
theorem se_Port_turnCount : Cond.selects m_Port_turnCount.1.cls m_Port_turnCount.1 m_Port_turnCount.1 ∈ am_tbl := (am_U7_ok _ (List.mem_of_getElem? (i := 38) rfl))
theorem lm_Port_wholeHeightAt : am_LM m_Port_wholeHeightAt := ⟨(am_U14_ok _ (List.mem_of_getElem? (i := 17) rfl)), (am_U2_ok _ (List.mem_of_getElem? (i := 17) rfl)), ⟨by decide +kernel, by decide +kernel⟩, by decide +kernel⟩
theorem np_Port_wholeHeightAt : am_np m_Port_wholeHeightAt 1 := by unfold am_np; decide +kernel
theorem im_Port_wholeHeightAt : Cond.instanceMethod m_Port_wholeHeightAt.1 ∈ am_tbl := (am_U14_ok _ (List.mem_of_getElem? (i := 15) rfl))
theorem se_Port_wholeHeightAt : Cond.selects m_Port_wholeHeightAt.1.cls m_Port_wholeHeightAt.1 m_Port_wholeHeightAt.1 ∈ am_tbl := (am_U14_ok _ (List.mem_of_getElem? (i := 16) rfl))
theorem lm_Draft_followOn : am_LM m_Draft_followOn := ⟨(am_U7_ok _ (List.mem_of_getElem? (i := 27) rfl)), (am_U2_ok _ (List.mem_of_getElem? (i := 15) rfl)), ⟨by decide +kernel, by decide +kernel⟩, by decide +kernel⟩
theorem np_Draft_followOn : am_np m_Draft_followOn 1 := by unfold am_np; decide +kernel
theorem im_Draft_followOn : Cond.instanceMethod m_Draft_followOn.1 ∈ am_tbl := (am_U7_ok _ (List.mem_of_getElem? (i := 25) rfl))
theorem se_Draft_followOn : Cond.selects m_Draft_followOn.1.cls m_Draft_followOn.1 m_Draft_followOn.1 ∈ am_tbl := (am_U7_ok _ (List.mem_of_getElem? (i := 26) rfl))
theorem lm_Draft_init : am_LM m_Draft_init := ⟨(am_U3_ok _ (List.mem_of_getElem? (i := 7) rfl)), (am_U2_ok _ (List.mem_of_getElem? (i := 15) rfl)), ⟨by decide +kernel, by decide +kernel⟩, by decide +kernel⟩
theorem np_Draft_init : am_np m_Draft_init 0 := by unfold am_np; decide +kernel
theorem im_Draft_init : Cond.instanceMethod m_Draft_init.1 ∈ am_tbl := (am_U3_ok _ (List.mem_of_getElem? (i := 6) rfl))
theorem lm_Draft_made : am_LM m_Draft_made := ⟨(am_U9_ok _ (List.mem_of_getElem? (i := 10) rfl)), (am_U2_ok _ (List.mem_of_getElem? (i := 15) rfl)), ⟨by decide +kernel, by decide +kernel⟩, by decide +kernel⟩
theorem np_Draft_made : am_np m_Draft_made 0 := by unfold am_np; decide +kernel
theorem im_Draft_made : Cond.instanceMethod m_Draft_made.1 ∈ am_tbl := (am_U9_ok _ (List.mem_of_getElem? (i := 8) rfl))
theorem se_Draft_made : Cond.selects m_Draft_made.1.cls m_Draft_made.1 m_Draft_made.1 ∈ am_tbl := (am_U9_ok _ (List.mem_of_getElem? (i := 9) rfl))
theorem lm_Draft_readDifferences : am_LM m_Draft_readDifferences := ⟨(am_U9_ok _ (List.mem_of_getElem? (i := 34) rfl)), (am_U2_ok _ (List.mem_of_getElem? (i := 15) rfl)), ⟨by decide +kernel, by decide +kernel⟩, by decide +kernel⟩
theorem np_Draft_readDifferences : am_np m_Draft_readDifferences 1 := by unfold am_np; decide +kernel
theorem im_Draft_readDifferences : Cond.instanceMethod m_Draft_readDifferences.1 ∈ am_tbl := (am_U9_ok _ (List.mem_of_getElem? (i := 32) rfl))
theorem se_Draft_readDifferences : Cond.selects m_Draft_readDifferences.1.cls m_Draft_readDifferences.1 m_Draft_readDifferences.1 ∈ am_tbl := (am_U9_ok _ (List.mem_of_getElem? (i := 33) rfl))
theorem lm_Draft_readTable : am_LM m_Draft_readTable := ⟨(am_U5_ok _ (List.mem_of_getElem? (i := 32) rfl)), (am_U2_ok _ (List.mem_of_getElem? (i := 15) rfl)), ⟨by decide +kernel, by decide +kernel⟩, by decide +kernel⟩
theorem np_Draft_readTable : am_np m_Draft_readTable 1 := by unfold am_np; decide +kernel
theorem im_Draft_readTable : Cond.instanceMethod m_Draft_readTable.1 ∈ am_tbl := (am_U5_ok _ (List.mem_of_getElem? (i := 30) rfl))
theorem se_Draft_readTable : Cond.selects m_Draft_readTable.1.cls m_Draft_readTable.1 m_Draft_readTable.1 ∈ am_tbl := (am_U5_ok _ (List.mem_of_getElem? (i := 31) rfl))
theorem lm_Draft_readTurn : am_LM m_Draft_readTurn := ⟨(am_U5_ok _ (List.mem_of_getElem? (i := 35) rfl)), (am_U2_ok _ (List.mem_of_getElem? (i := 15) rfl)), ⟨by decide +kernel, by decide +kernel⟩, by decide +kernel⟩
theorem np_Draft_readTurn : am_np m_Draft_readTurn 1 := by unfold am_np; decide +kernel
theorem im_Draft_readTurn : Cond.instanceMethod m_Draft_readTurn.1 ∈ am_tbl := (am_U5_ok _ (List.mem_of_getElem? (i := 34) rfl))
theorem se_Draft_readTurn : Cond.selects m_Draft_readTurn.1.cls m_Draft_readTurn.1 m_Draft_readTurn.1 ∈ am_tbl := (am_U0_ok _ (List.mem_of_getElem? (i := 4) rfl))
theorem lm_Draft_shiftFrom : am_LM m_Draft_shiftFrom := ⟨(am_U10_ok _ (List.mem_of_getElem? (i := 12) rfl)), (am_U2_ok _ (List.mem_of_getElem? (i := 15) rfl)), ⟨by decide +kernel, by decide +kernel⟩, by decide +kernel⟩
theorem np_Draft_shiftFrom : am_np m_Draft_shiftFrom 1 := by unfold am_np; decide +kernel
theorem im_Draft_shiftFrom : Cond.instanceMethod m_Draft_shiftFrom.1 ∈ am_tbl := (am_U10_ok _ (List.mem_of_getElem? (i := 10) rfl))
theorem se_Draft_shiftFrom : Cond.selects m_Draft_shiftFrom.1.cls m_Draft_shiftFrom.1 m_Draft_shiftFrom.1 ∈ am_tbl := (am_U10_ok _ (List.mem_of_getElem? (i := 11) rfl))
theorem lm_Route_add : am_LM m_Route_add := ⟨(am_U12_ok _ (List.mem_of_getElem? (i := 17) rfl)), (am_U2_ok _ (List.mem_of_getElem? (i := 19) rfl)), ⟨by decide +kernel, by decide +kernel⟩, by decide +kernel⟩
theorem np_Route_add : am_np m_Route_add 4 := by unfold am_np; decide +kernel
theorem im_Route_add : Cond.instanceMethod m_Route_add.1 ∈ am_tbl := (am_U12_ok _ (List.mem_of_getElem? (i := 16) rfl))
theorem se_Route_add : Cond.selects m_Route_add.1.cls m_Route_add.1 m_Route_add.1 ∈ am_tbl := (am_U0_ok _ (List.mem_of_getElem? (i := 12) rfl))
theorem lm_Route_copyFrom : am_LM m_Route_copyFrom := ⟨(am_U13_ok _ (List.mem_of_getElem? (i := 1) rfl)), (am_U2_ok _ (List.mem_of_getElem? (i := 19) rfl)), ⟨by decide +kernel, by decide +kernel⟩, by decide +kernel⟩
theorem np_Route_copyFrom : am_np m_Route_copyFrom 1 := by unfold am_np; decide +kernel
theorem im_Route_copyFrom : Cond.instanceMethod m_Route_copyFrom.1 ∈ am_tbl := (am_U12_ok _ (List.mem_of_getElem? (i := 39) rfl))
theorem se_Route_copyFrom : Cond.selects m_Route_copyFrom.1.cls m_Route_copyFrom.1 m_Route_copyFrom.1 ∈ am_tbl := (am_U13_ok _ (List.mem_of_getElem? (i := 0) rfl))
theorem lm_Route_findFault : am_LM m_Route_findFault := ⟨(am_U12_ok _ (List.mem_of_getElem? (i := 25) rfl)), (am_U2_ok _ (List.mem_of_getElem? (i := 19) rfl)), ⟨by decide +kernel, by decide +kernel⟩, by decide +kernel⟩
theorem np_Route_findFault : am_np m_Route_findFault 1 := by unfold am_np; decide +kernel
theorem im_Route_findFault : Cond.instanceMethod m_Route_findFault.1 ∈ am_tbl := (am_U12_ok _ (List.mem_of_getElem? (i := 23) rfl))
theorem se_Route_findFault : Cond.selects m_Route_findFault.1.cls m_Route_findFault.1 m_Route_findFault.1 ∈ am_tbl := (am_U12_ok _ (List.mem_of_getElem? (i := 24) rfl))
theorem lm_Route_init : am_LM m_Route_init := ⟨(am_U3_ok _ (List.mem_of_getElem? (i := 29) rfl)), (am_U2_ok _ (List.mem_of_getElem? (i := 19) rfl)), ⟨by decide +kernel, by decide +kernel⟩, by decide +kernel⟩
theorem np_Route_init : am_np m_Route_init 1 := by unfold am_np; decide +kernel
theorem im_Route_init : Cond.instanceMethod m_Route_init.1 ∈ am_tbl := (am_U3_ok _ (List.mem_of_getElem? (i := 28) rfl))
theorem lm_Route_isStop : am_LM m_Route_isStop := ⟨(am_U12_ok _ (List.mem_of_getElem? (i := 32) rfl)), (am_U2_ok _ (List.mem_of_getElem? (i := 19) rfl)), ⟨by decide +kernel, by decide +kernel⟩, by decide +kernel⟩
theorem np_Route_isStop : am_np m_Route_isStop 1 := by unfold am_np; decide +kernel
theorem im_Route_isStop : Cond.instanceMethod m_Route_isStop.1 ∈ am_tbl := (am_U12_ok _ (List.mem_of_getElem? (i := 31) rfl))
theorem se_Route_isStop : Cond.selects m_Route_isStop.1.cls m_Route_isStop.1 m_Route_isStop.1 ∈ am_tbl := (am_U0_ok _ (List.mem_of_getElem? (i := 13) rfl))
theorem lm_Route_kindOf : am_LM m_Route_kindOf := ⟨(am_U13_ok _ (List.mem_of_getElem? (i := 10) rfl)), (am_U2_ok _ (List.mem_of_getElem? (i := 19) rfl)), ⟨by decide +kernel, by decide +kernel⟩, by decide +kernel⟩
theorem np_Route_kindOf : am_np m_Route_kindOf 1 := by unfold am_np; decide +kernel
theorem im_Route_kindOf : Cond.instanceMethod m_Route_kindOf.1 ∈ am_tbl := (am_U13_ok _ (List.mem_of_getElem? (i := 8) rfl))
theorem se_Route_kindOf : Cond.selects m_Route_kindOf.1.cls m_Route_kindOf.1 m_Route_kindOf.1 ∈ am_tbl := (am_U13_ok _ (List.mem_of_getElem? (i := 9) rfl))
theorem lm_Route_levelOf : am_LM m_Route_levelOf := ⟨(am_U12_ok _ (List.mem_of_getElem? (i := 36) rfl)), (am_U2_ok _ (List.mem_of_getElem? (i := 19) rfl)), ⟨by decide +kernel, by decide +kernel⟩, by decide +kernel⟩
theorem np_Route_levelOf : am_np m_Route_levelOf 1 := by unfold am_np; decide +kernel
theorem im_Route_levelOf : Cond.instanceMethod m_Route_levelOf.1 ∈ am_tbl := (am_U12_ok _ (List.mem_of_getElem? (i := 34) rfl))
theorem se_Route_levelOf : Cond.selects m_Route_levelOf.1.cls m_Route_levelOf.1 m_Route_levelOf.1 ∈ am_tbl := (am_U12_ok _ (List.mem_of_getElem? (i := 35) rfl))
theorem lm_Route_milesTo : am_LM m_Route_milesTo := ⟨(am_U13_ok _ (List.mem_of_getElem? (i := 6) rfl)), (am_U2_ok _ (List.mem_of_getElem? (i := 19) rfl)), ⟨by decide +kernel, by decide +kernel⟩, by decide +kernel⟩
theorem np_Route_milesTo : am_np m_Route_milesTo 1 := by unfold am_np; decide +kernel
theorem im_Route_milesTo : Cond.instanceMethod m_Route_milesTo.1 ∈ am_tbl := (am_U13_ok _ (List.mem_of_getElem? (i := 4) rfl))
theorem se_Route_milesTo : Cond.selects m_Route_milesTo.1.cls m_Route_milesTo.1 m_Route_milesTo.1 ∈ am_tbl := (am_U13_ok _ (List.mem_of_getElem? (i := 5) rfl))
theorem lm_Route_readFrom : am_LM m_Route_readFrom := ⟨(am_U12_ok _ (List.mem_of_getElem? (i := 8) rfl)), (am_U2_ok _ (List.mem_of_getElem? (i := 19) rfl)), ⟨by decide +kernel, by decide +kernel⟩, by decide +kernel⟩
theorem np_Route_readFrom : am_np m_Route_readFrom 1 := by unfold am_np; decide +kernel
theorem im_Route_readFrom : Cond.instanceMethod m_Route_readFrom.1 ∈ am_tbl := (am_U12_ok _ (List.mem_of_getElem? (i := 6) rfl))
theorem se_Route_readFrom : Cond.selects m_Route_readFrom.1.cls m_Route_readFrom.1 m_Route_readFrom.1 ∈ am_tbl := (am_U12_ok _ (List.mem_of_getElem? (i := 7) rfl))
theorem lm_Route_readStop : am_LM m_Route_readStop := ⟨(am_U12_ok _ (List.mem_of_getElem? (i := 11) rfl)), (am_U2_ok _ (List.mem_of_getElem? (i := 19) rfl)), ⟨by decide +kernel, by decide +kernel⟩, by decide +kernel⟩
theorem np_Route_readStop : am_np m_Route_readStop 2 := by unfold am_np; decide +kernel
theorem im_Route_readStop : Cond.instanceMethod m_Route_readStop.1 ∈ am_tbl := (am_U12_ok _ (List.mem_of_getElem? (i := 10) rfl))
theorem se_Route_readStop : Cond.selects m_Route_readStop.1.cls m_Route_readStop.1 m_Route_readStop.1 ∈ am_tbl := (am_U0_ok _ (List.mem_of_getElem? (i := 11) rfl))
theorem lm_Route_setSill : am_LM m_Route_setSill := ⟨(am_U13_ok _ (List.mem_of_getElem? (i := 18) rfl)), (am_U2_ok _ (List.mem_of_getElem? (i := 19) rfl)), ⟨by decide +kernel, by decide +kernel⟩, by decide +kernel⟩
theorem np_Route_setSill : am_np m_Route_setSill 2 := by unfold am_np; decide +kernel
theorem im_Route_setSill : Cond.instanceMethod m_Route_setSill.1 ∈ am_tbl := (am_U13_ok _ (List.mem_of_getElem? (i := 16) rfl))
theorem se_Route_setSill : Cond.selects m_Route_setSill.1.cls m_Route_setSill.1 m_Route_setSill.1 ∈ am_tbl := (am_U13_ok _ (List.mem_of_getElem? (i := 17) rfl))
theorem lm_Route_sillNumberOf : am_LM m_Route_sillNumberOf := ⟨(am_U12_ok _ (List.mem_of_getElem? (i := 29) rfl)), (am_U2_ok _ (List.mem_of_getElem? (i := 19) rfl)), ⟨by decide +kernel, by decide +kernel⟩, by decide +kernel⟩
theorem np_Route_sillNumberOf : am_np m_Route_sillNumberOf 1 := by unfold am_np; decide +kernel
theorem im_Route_sillNumberOf : Cond.instanceMethod m_Route_sillNumberOf.1 ∈ am_tbl := (am_U12_ok _ (List.mem_of_getElem? (i := 27) rfl))
theorem se_Route_sillNumberOf : Cond.selects m_Route_sillNumberOf.1.cls m_Route_sillNumberOf.1 m_Route_sillNumberOf.1 ∈ am_tbl := (am_U12_ok _ (List.mem_of_getElem? (i := 28) rfl))
theorem lm_Route_sillOf : am_LM m_Route_sillOf := ⟨(am_U20_ok _ (List.mem_of_getElem? (i := 13) rfl)), (am_U2_ok _ (List.mem_of_getElem? (i := 19) rfl)), ⟨by decide +kernel, by decide +kernel⟩, by decide +kernel⟩
theorem np_Route_sillOf : am_np m_Route_sillOf 1 := by unfold am_np; decide +kernel
theorem im_Route_sillOf : Cond.instanceMethod m_Route_sillOf.1 ∈ am_tbl := (am_U20_ok _ (List.mem_of_getElem? (i := 11) rfl))
theorem se_Route_sillOf : Cond.selects m_Route_sillOf.1.cls m_Route_sillOf.1 m_Route_sillOf.1 ∈ am_tbl := (am_U20_ok _ (List.mem_of_getElem? (i := 12) rfl))
theorem lm_Route_stopCount : am_LM m_Route_stopCount := ⟨(am_U12_ok _ (List.mem_of_getElem? (i := 21) rfl)), (am_U2_ok _ (List.mem_of_getElem? (i := 19) rfl)), ⟨by decide +kernel, by decide +kernel⟩, by decide +kernel⟩
theorem np_Route_stopCount : am_np m_Route_stopCount 0 := by unfold am_np; decide +kernel
theorem im_Route_stopCount : Cond.instanceMethod m_Route_stopCount.1 ∈ am_tbl := (am_U12_ok _ (List.mem_of_getElem? (i := 19) rfl))
theorem se_Route_stopCount : Cond.selects m_Route_stopCount.1.cls m_Route_stopCount.1 m_Route_stopCount.1 ∈ am_tbl := (am_U12_ok _ (List.mem_of_getElem? (i := 20) rfl))
theorem lm_Shift_heightFor : am_LM m_Shift_heightFor := ⟨(am_U10_ok _ (List.mem_of_getElem? (i := 32) rfl)), (am_U2_ok _ (List.mem_of_getElem? (i := 16) rfl)), ⟨by decide +kernel, by decide +kernel⟩, by decide +kernel⟩
theorem np_Shift_heightFor : am_np m_Shift_heightFor 1 := by unfold am_np; decide +kernel
theorem im_Shift_heightFor : Cond.instanceMethod m_Shift_heightFor.1 ∈ am_tbl := (am_U10_ok _ (List.mem_of_getElem? (i := 30) rfl))
theorem se_Shift_heightFor : Cond.selects m_Shift_heightFor.1.cls m_Shift_heightFor.1 m_Shift_heightFor.1 ∈ am_tbl := (am_U10_ok _ (List.mem_of_getElem? (i := 31) rfl))
theorem lm_Shift_init : am_LM m_Shift_init := ⟨(am_U3_ok _ (List.mem_of_getElem? (i := 12) rfl)), (am_U2_ok _ (List.mem_of_getElem? (i := 16) rfl)), ⟨by decide +kernel, by decide +kernel⟩, by decide +kernel⟩
theorem np_Shift_init : am_np m_Shift_init 0 := by unfold am_np; decide +kernel
theorem im_Shift_init : Cond.instanceMethod m_Shift_init.1 ∈ am_tbl := (am_U3_ok _ (List.mem_of_getElem? (i := 11) rfl))
theorem lm_Shift_isSound : am_LM m_Shift_isSound := ⟨(am_U10_ok _ (List.mem_of_getElem? (i := 16) rfl)), (am_U2_ok _ (List.mem_of_getElem? (i := 16) rfl)), ⟨by decide +kernel, by decide +kernel⟩, by decide +kernel⟩
theorem np_Shift_isSound : am_np m_Shift_isSound 0 := by unfold am_np; decide +kernel
theorem im_Shift_isSound : Cond.instanceMethod m_Shift_isSound.1 ∈ am_tbl := (am_U10_ok _ (List.mem_of_getElem? (i := 14) rfl))
theorem se_Shift_isSound : Cond.selects m_Shift_isSound.1.cls m_Shift_isSound.1 m_Shift_isSound.1 ∈ am_tbl := (am_U10_ok _ (List.mem_of_getElem? (i := 15) rfl))
theorem lm_Shift_isStep : am_LM m_Shift_isStep := ⟨(am_U10_ok _ (List.mem_of_getElem? (i := 20) rfl)), (am_U2_ok _ (List.mem_of_getElem? (i := 16) rfl)), ⟨by decide +kernel, by decide +kernel⟩, by decide +kernel⟩
theorem np_Shift_isStep : am_np m_Shift_isStep 1 := by unfold am_np; decide +kernel
theorem st_Shift_isStep : Cond.static m_Shift_isStep.1 ∈ am_tbl := (am_U10_ok _ (List.mem_of_getElem? (i := 19) rfl))
theorem lm_Shift_minuteFor : am_LM m_Shift_minuteFor := ⟨(am_U10_ok _ (List.mem_of_getElem? (i := 27) rfl)), (am_U2_ok _ (List.mem_of_getElem? (i := 16) rfl)), ⟨by decide +kernel, by decide +kernel⟩, by decide +kernel⟩
theorem np_Shift_minuteFor : am_np m_Shift_minuteFor 1 := by unfold am_np; decide +kernel
theorem im_Shift_minuteFor : Cond.instanceMethod m_Shift_minuteFor.1 ∈ am_tbl := (am_U10_ok _ (List.mem_of_getElem? (i := 25) rfl))
theorem se_Shift_minuteFor : Cond.selects m_Shift_minuteFor.1.cls m_Shift_minuteFor.1 m_Shift_minuteFor.1 ∈ am_tbl := (am_U10_ok _ (List.mem_of_getElem? (i := 26) rfl))
theorem lm_Shift_readFrom : am_LM m_Shift_readFrom := ⟨(am_U9_ok _ (List.mem_of_getElem? (i := 38) rfl)), (am_U2_ok _ (List.mem_of_getElem? (i := 16) rfl)), ⟨by decide +kernel, by decide +kernel⟩, by decide +kernel⟩
theorem np_Shift_readFrom : am_np m_Shift_readFrom 1 := by unfold am_np; decide +kernel
theorem im_Shift_readFrom : Cond.instanceMethod m_Shift_readFrom.1 ∈ am_tbl := (am_U9_ok _ (List.mem_of_getElem? (i := 36) rfl))
theorem se_Shift_readFrom : Cond.selects m_Shift_readFrom.1.cls m_Shift_readFrom.1 m_Shift_readFrom.1 ∈ am_tbl := (am_U9_ok _ (List.mem_of_getElem? (i := 37) rfl))
theorem lm_Ship_draught : am_LM m_Ship_draught := ⟨(am_U16_ok _ (List.mem_of_getElem? (i := 20) rfl)), (am_U2_ok _ (List.mem_of_getElem? (i := 29) rfl)), ⟨by decide +kernel, by decide +kernel⟩, by decide +kernel⟩
theorem np_Ship_draught : am_np m_Ship_draught 0 := by unfold am_np; decide +kernel
theorem im_Ship_draught : Cond.instanceMethod m_Ship_draught.1 ∈ am_tbl := (am_U16_ok _ (List.mem_of_getElem? (i := 18) rfl))
theorem se_Ship_draught : Cond.selects m_Ship_draught.1.cls m_Ship_draught.1 m_Ship_draught.1 ∈ am_tbl := (am_U16_ok _ (List.mem_of_getElem? (i := 19) rfl))
theorem lm_Ship_findFault : am_LM m_Ship_findFault := ⟨(am_U12_ok _ (List.mem_of_getElem? (i := 0) rfl)), (am_U2_ok _ (List.mem_of_getElem? (i := 29) rfl)), ⟨by decide +kernel, by decide +kernel⟩, by decide +kernel⟩
theorem np_Ship_findFault : am_np m_Ship_findFault 0 := by unfold am_np; decide +kernel
theorem im_Ship_findFault : Cond.instanceMethod m_Ship_findFault.1 ∈ am_tbl := (am_U11_ok _ (List.mem_of_getElem? (i := 38) rfl))
theorem se_Ship_findFault : Cond.selects m_Ship_findFault.1.cls m_Ship_findFault.1 m_Ship_findFault.1 ∈ am_tbl := (am_U11_ok _ (List.mem_of_getElem? (i := 39) rfl))
theorem lm_Ship_init : am_LM m_Ship_init := ⟨(am_U11_ok _ (List.mem_of_getElem? (i := 30) rfl)), (am_U2_ok _ (List.mem_of_getElem? (i := 29) rfl)), ⟨by decide +kernel, by decide +kernel⟩, by decide +kernel⟩
theorem np_Ship_init : am_np m_Ship_init 0 := by unfold am_np; decide +kernel
theorem im_Ship_init : Cond.instanceMethod m_Ship_init.1 ∈ am_tbl := (am_U11_ok _ (List.mem_of_getElem? (i := 29) rfl))
theorem lm_Ship_mast : am_LM m_Ship_mast := ⟨(am_U17_ok _ (List.mem_of_getElem? (i := 18) rfl)), (am_U2_ok _ (List.mem_of_getElem? (i := 29) rfl)), ⟨by decide +kernel, by decide +kernel⟩, by decide +kernel⟩
theorem np_Ship_mast : am_np m_Ship_mast 0 := by unfold am_np; decide +kernel
theorem im_Ship_mast : Cond.instanceMethod m_Ship_mast.1 ∈ am_tbl := (am_U17_ok _ (List.mem_of_getElem? (i := 16) rfl))
theorem se_Ship_mast : Cond.selects m_Ship_mast.1.cls m_Ship_mast.1 m_Ship_mast.1 ∈ am_tbl := (am_U17_ok _ (List.mem_of_getElem? (i := 17) rfl))
theorem lm_Ship_minutesFor : am_LM m_Ship_minutesFor := ⟨(am_U19_ok _ (List.mem_of_getElem? (i := 34) rfl)), (am_U2_ok _ (List.mem_of_getElem? (i := 29) rfl)), ⟨by decide +kernel, by decide +kernel⟩, by decide +kernel⟩
theorem np_Ship_minutesFor : am_np m_Ship_minutesFor 1 := by unfold am_np; decide +kernel
theorem im_Ship_minutesFor : Cond.instanceMethod m_Ship_minutesFor.1 ∈ am_tbl := (am_U19_ok _ (List.mem_of_getElem? (i := 32) rfl))
theorem se_Ship_minutesFor : Cond.selects m_Ship_minutesFor.1.cls m_Ship_minutesFor.1 m_Ship_minutesFor.1 ∈ am_tbl := (am_U19_ok _ (List.mem_of_getElem? (i := 33) rfl))
theorem lm_Ship_pace : am_LM m_Ship_pace := ⟨(am_U22_ok _ (List.mem_of_getElem? (i := 33) rfl)), (am_U2_ok _ (List.mem_of_getElem? (i := 29) rfl)), ⟨by decide +kernel, by decide +kernel⟩, by decide +kernel⟩
theorem np_Ship_pace : am_np m_Ship_pace 0 := by unfold am_np; decide +kernel
theorem im_Ship_pace : Cond.instanceMethod m_Ship_pace.1 ∈ am_tbl := (am_U22_ok _ (List.mem_of_getElem? (i := 31) rfl))
theorem se_Ship_pace : Cond.selects m_Ship_pace.1.cls m_Ship_pace.1 m_Ship_pace.1 ∈ am_tbl := (am_U22_ok _ (List.mem_of_getElem? (i := 32) rfl))
theorem lm_Ship_readFrom : am_LM m_Ship_readFrom := ⟨(am_U11_ok _ (List.mem_of_getElem? (i := 35) rfl)), (am_U2_ok _ (List.mem_of_getElem? (i := 29) rfl)), ⟨by decide +kernel, by decide +kernel⟩, by decide +kernel⟩
theorem np_Ship_readFrom : am_np m_Ship_readFrom 1 := by unfold am_np; decide +kernel
theorem im_Ship_readFrom : Cond.instanceMethod m_Ship_readFrom.1 ∈ am_tbl := (am_U11_ok _ (List.mem_of_getElem? (i := 33) rfl))
theorem se_Ship_readFrom : Cond.selects m_Ship_readFrom.1.cls m_Ship_readFrom.1 m_Ship_readFrom.1 ∈ am_tbl := (am_U11_ok _ (List.mem_of_getElem? (i := 34) rfl))
theorem lm_Sill_findFault : am_LM m_Sill_findFault := ⟨(am_U11_ok _ (List.mem_of_getElem? (i := 22) rfl)), (am_U2_ok _ (List.mem_of_getElem? (i := 28) rfl)), ⟨by decide +kernel, by decide +kernel⟩, by decide +kernel⟩
theorem np_Sill_findFault : am_np m_Sill_findFault 0 := by unfold am_np; decide +kernel
theorem im_Sill_findFault : Cond.instanceMethod m_Sill_findFault.1 ∈ am_tbl := (am_U11_ok _ (List.mem_of_getElem? (i := 20) rfl))
theorem se_Sill_findFault : Cond.selects m_Sill_findFault.1.cls m_Sill_findFault.1 m_Sill_findFault.1 ∈ am_tbl := (am_U11_ok _ (List.mem_of_getElem? (i := 21) rfl))
theorem lm_Sill_hasTwoNumbers : am_LM m_Sill_hasTwoNumbers := ⟨(am_U11_ok _ (List.mem_of_getElem? (i := 17) rfl)), (am_U2_ok _ (List.mem_of_getElem? (i := 28) rfl)), ⟨by decide +kernel, by decide +kernel⟩, by decide +kernel⟩
theorem np_Sill_hasTwoNumbers : am_np m_Sill_hasTwoNumbers 0 := by unfold am_np; decide +kernel
theorem im_Sill_hasTwoNumbers : Cond.instanceMethod m_Sill_hasTwoNumbers.1 ∈ am_tbl := (am_U11_ok _ (List.mem_of_getElem? (i := 15) rfl))
theorem se_Sill_hasTwoNumbers : Cond.selects m_Sill_hasTwoNumbers.1.cls m_Sill_hasTwoNumbers.1 m_Sill_hasTwoNumbers.1 ∈ am_tbl := (am_U11_ok _ (List.mem_of_getElem? (i := 16) rfl))
theorem lm_Sill_home : am_LM m_Sill_home := ⟨(am_U16_ok _ (List.mem_of_getElem? (i := 8) rfl)), (am_U2_ok _ (List.mem_of_getElem? (i := 28) rfl)), ⟨by decide +kernel, by decide +kernel⟩, by decide +kernel⟩
theorem np_Sill_home : am_np m_Sill_home 0 := by unfold am_np; decide +kernel
theorem im_Sill_home : Cond.instanceMethod m_Sill_home.1 ∈ am_tbl := (am_U16_ok _ (List.mem_of_getElem? (i := 6) rfl))
theorem se_Sill_home : Cond.selects m_Sill_home.1.cls m_Sill_home.1 m_Sill_home.1 ∈ am_tbl := (am_U16_ok _ (List.mem_of_getElem? (i := 7) rfl))
theorem lm_Sill_init : am_LM m_Sill_init := ⟨(am_U11_ok _ (List.mem_of_getElem? (i := 5) rfl)), (am_U2_ok _ (List.mem_of_getElem? (i := 28) rfl)), ⟨by decide +kernel, by decide +kernel⟩, by decide +kernel⟩
theorem np_Sill_init : am_np m_Sill_init 1 := by unfold am_np; decide +kernel
theorem im_Sill_init : Cond.instanceMethod m_Sill_init.1 ∈ am_tbl := (am_U11_ok _ (List.mem_of_getElem? (i := 4) rfl))
theorem lm_Sill_kind : am_LM m_Sill_kind := ⟨(am_U16_ok _ (List.mem_of_getElem? (i := 12) rfl)), (am_U2_ok _ (List.mem_of_getElem? (i := 28) rfl)), ⟨by decide +kernel, by decide +kernel⟩, by decide +kernel⟩
theorem np_Sill_kind : am_np m_Sill_kind 0 := by unfold am_np; decide +kernel
theorem im_Sill_kind : Cond.instanceMethod m_Sill_kind.1 ∈ am_tbl := (am_U16_ok _ (List.mem_of_getElem? (i := 10) rfl))
theorem se_Sill_kind : Cond.selects m_Sill_kind.1.cls m_Sill_kind.1 m_Sill_kind.1 ∈ am_tbl := (am_U16_ok _ (List.mem_of_getElem? (i := 11) rfl))
theorem lm_Sill_level : am_LM m_Sill_level := ⟨(am_U16_ok _ (List.mem_of_getElem? (i := 16) rfl)), (am_U2_ok _ (List.mem_of_getElem? (i := 28) rfl)), ⟨by decide +kernel, by decide +kernel⟩, by decide +kernel⟩
theorem np_Sill_level : am_np m_Sill_level 0 := by unfold am_np; decide +kernel
theorem im_Sill_level : Cond.instanceMethod m_Sill_level.1 ∈ am_tbl := (am_U16_ok _ (List.mem_of_getElem? (i := 14) rfl))
theorem se_Sill_level : Cond.selects m_Sill_level.1.cls m_Sill_level.1 m_Sill_level.1 ∈ am_tbl := (am_U16_ok _ (List.mem_of_getElem? (i := 15) rfl))
theorem lm_Sill_one : am_LM m_Sill_one := ⟨(am_U16_ok _ (List.mem_of_getElem? (i := 31) rfl)), (am_U2_ok _ (List.mem_of_getElem? (i := 28) rfl)), ⟨by decide +kernel, by decide +kernel⟩, by decide +kernel⟩
theorem np_Sill_one : am_np m_Sill_one 0 := by unfold am_np; decide +kernel
theorem im_Sill_one : Cond.instanceMethod m_Sill_one.1 ∈ am_tbl := (am_U16_ok _ (List.mem_of_getElem? (i := 29) rfl))
theorem se_Sill_one : Cond.selects m_Sill_one.1.cls m_Sill_one.1 m_Sill_one.1 ∈ am_tbl := (am_U16_ok _ (List.mem_of_getElem? (i := 30) rfl))
theorem lm_Sill_readFrom : am_LM m_Sill_readFrom := ⟨(am_U11_ok _ (List.mem_of_getElem? (i := 10) rfl)), (am_U2_ok _ (List.mem_of_getElem? (i := 28) rfl)), ⟨by decide +kernel, by decide +kernel⟩, by decide +kernel⟩
theorem np_Sill_readFrom : am_np m_Sill_readFrom 1 := by unfold am_np; decide +kernel
theorem im_Sill_readFrom : Cond.instanceMethod m_Sill_readFrom.1 ∈ am_tbl := (am_U11_ok _ (List.mem_of_getElem? (i := 8) rfl))
theorem se_Sill_readFrom : Cond.selects m_Sill_readFrom.1.cls m_Sill_readFrom.1 m_Sill_readFrom.1 ∈ am_tbl := (am_U11_ok _ (List.mem_of_getElem? (i := 9) rfl))
theorem lm_Sill_two : am_LM m_Sill_two := ⟨(am_U16_ok _ (List.mem_of_getElem? (i := 35) rfl)), (am_U2_ok _ (List.mem_of_getElem? (i := 28) rfl)), ⟨by decide +kernel, by decide +kernel⟩, by decide +kernel⟩
theorem np_Sill_two : am_np m_Sill_two 0 := by unfold am_np; decide +kernel
theorem im_Sill_two : Cond.instanceMethod m_Sill_two.1 ∈ am_tbl := (am_U16_ok _ (List.mem_of_getElem? (i := 33) rfl))
theorem se_Sill_two : Cond.selects m_Sill_two.1.cls m_Sill_two.1 m_Sill_two.1 ∈ am_tbl := (am_U16_ok _ (List.mem_of_getElem? (i := 34) rfl))
theorem lm_Spans_add : am_LM m_Spans_add := ⟨(am_U15_ok _ (List.mem_of_getElem? (i := 13) rfl)), (am_U2_ok _ (List.mem_of_getElem? (i := 21) rfl)), ⟨by decide +kernel, by decide +kernel⟩, by decide +kernel⟩
theorem np_Spans_add : am_np m_Spans_add 2 := by unfold am_np; decide +kernel
theorem im_Spans_add : Cond.instanceMethod m_Spans_add.1 ∈ am_tbl := (am_U15_ok _ (List.mem_of_getElem? (i := 11) rfl))
theorem se_Spans_add : Cond.selects m_Spans_add.1.cls m_Spans_add.1 m_Spans_add.1 ∈ am_tbl := (am_U15_ok _ (List.mem_of_getElem? (i := 12) rfl))
theorem lm_Spans_clear : am_LM m_Spans_clear := ⟨(am_U15_ok _ (List.mem_of_getElem? (i := 3) rfl)), (am_U2_ok _ (List.mem_of_getElem? (i := 21) rfl)), ⟨by decide +kernel, by decide +kernel⟩, by decide +kernel⟩
theorem np_Spans_clear : am_np m_Spans_clear 0 := by unfold am_np; decide +kernel
theorem im_Spans_clear : Cond.instanceMethod m_Spans_clear.1 ∈ am_tbl := (am_U15_ok _ (List.mem_of_getElem? (i := 1) rfl))
theorem se_Spans_clear : Cond.selects m_Spans_clear.1.cls m_Spans_clear.1 m_Spans_clear.1 ∈ am_tbl := (am_U15_ok _ (List.mem_of_getElem? (i := 2) rfl))
theorem lm_Spans_copyShifted : am_LM m_Spans_copyShifted := ⟨(am_U20_ok _ (List.mem_of_getElem? (i := 21) rfl)), (am_U2_ok _ (List.mem_of_getElem? (i := 21) rfl)), ⟨by decide +kernel, by decide +kernel⟩, by decide +kernel⟩
theorem np_Spans_copyShifted : am_np m_Spans_copyShifted 2 := by unfold am_np; decide +kernel
theorem im_Spans_copyShifted : Cond.instanceMethod m_Spans_copyShifted.1 ∈ am_tbl := (am_U20_ok _ (List.mem_of_getElem? (i := 19) rfl))
theorem se_Spans_copyShifted : Cond.selects m_Spans_copyShifted.1.cls m_Spans_copyShifted.1 m_Spans_copyShifted.1 ∈ am_tbl := (am_U20_ok _ (List.mem_of_getElem? (i := 20) rfl))
theorem lm_Spans_countAll : am_LM m_Spans_countAll := ⟨(am_U17_ok _ (List.mem_of_getElem? (i := 22) rfl)), (am_U2_ok _ (List.mem_of_getElem? (i := 21) rfl)), ⟨by decide +kernel, by decide +kernel⟩, by decide +kernel⟩
theorem np_Spans_countAll : am_np m_Spans_countAll 0 := by unfold am_np; decide +kernel
theorem im_Spans_countAll : Cond.instanceMethod m_Spans_countAll.1 ∈ am_tbl := (am_U17_ok _ (List.mem_of_getElem? (i := 20) rfl))
theorem se_Spans_countAll : Cond.selects m_Spans_countAll.1.cls m_Spans_countAll.1 m_Spans_countAll.1 ∈ am_tbl := (am_U17_ok _ (List.mem_of_getElem? (i := 21) rfl))
theorem lm_Spans_earliestFrom : am_LM m_Spans_earliestFrom := ⟨(am_U15_ok _ (List.mem_of_getElem? (i := 17) rfl)), (am_U2_ok _ (List.mem_of_getElem? (i := 21) rfl)), ⟨by decide +kernel, by decide +kernel⟩, by decide +kernel⟩
theorem np_Spans_earliestFrom : am_np m_Spans_earliestFrom 1 := by unfold am_np; decide +kernel
theorem im_Spans_earliestFrom : Cond.instanceMethod m_Spans_earliestFrom.1 ∈ am_tbl := (am_U15_ok _ (List.mem_of_getElem? (i := 15) rfl))
theorem se_Spans_earliestFrom : Cond.selects m_Spans_earliestFrom.1.cls m_Spans_earliestFrom.1 m_Spans_earliestFrom.1 ∈ am_tbl := (am_U15_ok _ (List.mem_of_getElem? (i := 16) rfl))
theorem lm_Spans_firstOf : am_LM m_Spans_firstOf := ⟨(am_U15_ok _ (List.mem_of_getElem? (i := 25) rfl)), (am_U2_ok _ (List.mem_of_getElem? (i := 21) rfl)), ⟨by decide +kernel, by decide +kernel⟩, by decide +kernel⟩
theorem np_Spans_firstOf : am_np m_Spans_firstOf 1 := by unfold am_np; decide +kernel
theorem im_Spans_firstOf : Cond.instanceMethod m_Spans_firstOf.1 ∈ am_tbl := (am_U15_ok _ (List.mem_of_getElem? (i := 23) rfl))
theorem se_Spans_firstOf : Cond.selects m_Spans_firstOf.1.cls m_Spans_firstOf.1 m_Spans_firstOf.1 ∈ am_tbl := (am_U15_ok _ (List.mem_of_getElem? (i := 24) rfl))
theorem lm_Spans_has : am_LM m_Spans_has := ⟨(am_U18_ok _ (List.mem_of_getElem? (i := 8) rfl)), (am_U2_ok _ (List.mem_of_getElem? (i := 21) rfl)), ⟨by decide +kernel, by decide +kernel⟩, by decide +kernel⟩
theorem np_Spans_has : am_np m_Spans_has 1 := by unfold am_np; decide +kernel
theorem im_Spans_has : Cond.instanceMethod m_Spans_has.1 ∈ am_tbl := (am_U18_ok _ (List.mem_of_getElem? (i := 6) rfl))
theorem se_Spans_has : Cond.selects m_Spans_has.1.cls m_Spans_has.1 m_Spans_has.1 ∈ am_tbl := (am_U18_ok _ (List.mem_of_getElem? (i := 7) rfl))
theorem lm_Spans_init : am_LM m_Spans_init := ⟨(am_U4_ok _ (List.mem_of_getElem? (i := 5) rfl)), (am_U2_ok _ (List.mem_of_getElem? (i := 21) rfl)), ⟨by decide +kernel, by decide +kernel⟩, by decide +kernel⟩
theorem np_Spans_init : am_np m_Spans_init 1 := by unfold am_np; decide +kernel
theorem im_Spans_init : Cond.instanceMethod m_Spans_init.1 ∈ am_tbl := (am_U4_ok _ (List.mem_of_getElem? (i := 4) rfl))
theorem lm_Spans_intersect : am_LM m_Spans_intersect := ⟨(am_U17_ok _ (List.mem_of_getElem? (i := 0) rfl)), (am_U2_ok _ (List.mem_of_getElem? (i := 21) rfl)), ⟨by decide +kernel, by decide +kernel⟩, by decide +kernel⟩
theorem np_Spans_intersect : am_np m_Spans_intersect 2 := by unfold am_np; decide +kernel
theorem im_Spans_intersect : Cond.instanceMethod m_Spans_intersect.1 ∈ am_tbl := (am_U16_ok _ (List.mem_of_getElem? (i := 38) rfl))
theorem se_Spans_intersect : Cond.selects m_Spans_intersect.1.cls m_Spans_intersect.1 m_Spans_intersect.1 ∈ am_tbl := (am_U16_ok _ (List.mem_of_getElem? (i := 39) rfl))
theorem lm_Spans_lastOf : am_LM m_Spans_lastOf := ⟨(am_U15_ok _ (List.mem_of_getElem? (i := 21) rfl)), (am_U2_ok _ (List.mem_of_getElem? (i := 21) rfl)), ⟨by decide +kernel, by decide +kernel⟩, by decide +kernel⟩
theorem np_Spans_lastOf : am_np m_Spans_lastOf 1 := by unfold am_np; decide +kernel
theorem im_Spans_lastOf : Cond.instanceMethod m_Spans_lastOf.1 ∈ am_tbl := (am_U15_ok _ (List.mem_of_getElem? (i := 19) rfl))
theorem se_Spans_lastOf : Cond.selects m_Spans_lastOf.1.cls m_Spans_lastOf.1 m_Spans_lastOf.1 ∈ am_tbl := (am_U15_ok _ (List.mem_of_getElem? (i := 20) rfl))
theorem lm_Spans_latestUpTo : am_LM m_Spans_latestUpTo := ⟨(am_U21_ok _ (List.mem_of_getElem? (i := 8) rfl)), (am_U2_ok _ (List.mem_of_getElem? (i := 21) rfl)), ⟨by decide +kernel, by decide +kernel⟩, by decide +kernel⟩
theorem np_Spans_latestUpTo : am_np m_Spans_latestUpTo 1 := by unfold am_np; decide +kernel
theorem im_Spans_latestUpTo : Cond.instanceMethod m_Spans_latestUpTo.1 ∈ am_tbl := (am_U21_ok _ (List.mem_of_getElem? (i := 6) rfl))
theorem se_Spans_latestUpTo : Cond.selects m_Spans_latestUpTo.1.cls m_Spans_latestUpTo.1 m_Spans_latestUpTo.1 ∈ am_tbl := (am_U21_ok _ (List.mem_of_getElem? (i := 7) rfl))
theorem lm_Spans_size : am_LM m_Spans_size := ⟨(am_U17_ok _ (List.mem_of_getElem? (i := 4) rfl)), (am_U2_ok _ (List.mem_of_getElem? (i := 21) rfl)), ⟨by decide +kernel, by decide +kernel⟩, by decide +kernel⟩
theorem np_Spans_size : am_np m_Spans_size 0 := by unfold am_np; decide +kernel
theorem im_Spans_size : Cond.instanceMethod m_Spans_size.1 ∈ am_tbl := (am_U17_ok _ (List.mem_of_getElem? (i := 2) rfl))
theorem se_Spans_size : Cond.selects m_Spans_size.1.cls m_Spans_size.1 m_Spans_size.1 ∈ am_tbl := (am_U17_ok _ (List.mem_of_getElem? (i := 3) rfl))
theorem lm_Spans_unite : am_LM m_Spans_unite := ⟨(am_U20_ok _ (List.mem_of_getElem? (i := 36) rfl)), (am_U2_ok _ (List.mem_of_getElem? (i := 21) rfl)), ⟨by decide +kernel, by decide +kernel⟩, by decide +kernel⟩
theorem np_Spans_unite : am_np m_Spans_unite 2 := by unfold am_np; decide +kernel
theorem im_Spans_unite : Cond.instanceMethod m_Spans_unite.1 ∈ am_tbl := (am_U20_ok _ (List.mem_of_getElem? (i := 34) rfl))
theorem se_Spans_unite : Cond.selects m_Spans_unite.1.cls m_Spans_unite.1 m_Spans_unite.1 ∈ am_tbl := (am_U20_ok _ (List.mem_of_getElem? (i := 35) rfl))
theorem lm_Tape_append : am_LM m_Tape_append := ⟨(am_U4_ok _ (List.mem_of_getElem? (i := 39) rfl)), (am_U2_ok _ (List.mem_of_getElem? (i := 14) rfl)), ⟨by decide +kernel, by decide +kernel⟩, by decide +kernel⟩
theorem np_Tape_append : am_np m_Tape_append 1 := by unfold am_np; decide +kernel
theorem im_Tape_append : Cond.instanceMethod m_Tape_append.1 ∈ am_tbl := (am_U4_ok _ (List.mem_of_getElem? (i := 37) rfl))
theorem se_Tape_append : Cond.selects m_Tape_append.1.cls m_Tape_append.1 m_Tape_append.1 ∈ am_tbl := (am_U4_ok _ (List.mem_of_getElem? (i := 38) rfl))
theorem lm_Tape_byteAt : am_LM m_Tape_byteAt := ⟨(am_U6_ok _ (List.mem_of_getElem? (i := 10) rfl)), (am_U2_ok _ (List.mem_of_getElem? (i := 14) rfl)), ⟨by decide +kernel, by decide +kernel⟩, by decide +kernel⟩
theorem np_Tape_byteAt : am_np m_Tape_byteAt 1 := by unfold am_np; decide +kernel
theorem im_Tape_byteAt : Cond.instanceMethod m_Tape_byteAt.1 ∈ am_tbl := (am_U6_ok _ (List.mem_of_getElem? (i := 9) rfl))
theorem se_Tape_byteAt : Cond.selects m_Tape_byteAt.1.cls m_Tape_byteAt.1 m_Tape_byteAt.1 ∈ am_tbl := (am_U0_ok _ (List.mem_of_getElem? (i := 5) rfl))
theorem lm_Tape_hasRoomFor : am_LM m_Tape_hasRoomFor := ⟨(am_U4_ok _ (List.mem_of_getElem? (i := 32) rfl)), (am_U2_ok _ (List.mem_of_getElem? (i := 14) rfl)), ⟨by decide +kernel, by decide +kernel⟩, by decide +kernel⟩
theorem np_Tape_hasRoomFor : am_np m_Tape_hasRoomFor 1 := by unfold am_np; decide +kernel
theorem im_Tape_hasRoomFor : Cond.instanceMethod m_Tape_hasRoomFor.1 ∈ am_tbl := (am_U4_ok _ (List.mem_of_getElem? (i := 30) rfl))
theorem se_Tape_hasRoomFor : Cond.selects m_Tape_hasRoomFor.1.cls m_Tape_hasRoomFor.1 m_Tape_hasRoomFor.1 ∈ am_tbl := (am_U4_ok _ (List.mem_of_getElem? (i := 31) rfl))
theorem lm_Tape_init : am_LM m_Tape_init := ⟨(am_U3_ok _ (List.mem_of_getElem? (i := 1) rfl)), (am_U2_ok _ (List.mem_of_getElem? (i := 14) rfl)), ⟨by decide +kernel, by decide +kernel⟩, by decide +kernel⟩
theorem np_Tape_init : am_np m_Tape_init 0 := by unfold am_np; decide +kernel
theorem im_Tape_init : Cond.instanceMethod m_Tape_init.1 ∈ am_tbl := (am_U3_ok _ (List.mem_of_getElem? (i := 0) rfl))
theorem lm_Tape_isDigit : am_LM m_Tape_isDigit := ⟨(am_U7_ok _ (List.mem_of_getElem? (i := 2) rfl)), (am_U2_ok _ (List.mem_of_getElem? (i := 14) rfl)), ⟨by decide +kernel, by decide +kernel⟩, by decide +kernel⟩
theorem np_Tape_isDigit : am_np m_Tape_isDigit 1 := by unfold am_np; decide +kernel
theorem st_Tape_isDigit : Cond.static m_Tape_isDigit.1 ∈ am_tbl := (am_U7_ok _ (List.mem_of_getElem? (i := 1) rfl))
theorem lm_Tape_isLetter : am_LM m_Tape_isLetter := ⟨(am_U6_ok _ (List.mem_of_getElem? (i := 13) rfl)), (am_U2_ok _ (List.mem_of_getElem? (i := 14) rfl)), ⟨by decide +kernel, by decide +kernel⟩, by decide +kernel⟩
theorem np_Tape_isLetter : am_np m_Tape_isLetter 1 := by unfold am_np; decide +kernel
theorem st_Tape_isLetter : Cond.static m_Tape_isLetter.1 ∈ am_tbl := (am_U6_ok _ (List.mem_of_getElem? (i := 12) rfl))
theorem lm_Tape_isReadWhole : am_LM m_Tape_isReadWhole := ⟨(am_U7_ok _ (List.mem_of_getElem? (i := 19) rfl)), (am_U2_ok _ (List.mem_of_getElem? (i := 14) rfl)), ⟨by decide +kernel, by decide +kernel⟩, by decide +kernel⟩
theorem np_Tape_isReadWhole : am_np m_Tape_isReadWhole 0 := by unfold am_np; decide +kernel
theorem im_Tape_isReadWhole : Cond.instanceMethod m_Tape_isReadWhole.1 ∈ am_tbl := (am_U7_ok _ (List.mem_of_getElem? (i := 17) rfl))
theorem se_Tape_isReadWhole : Cond.selects m_Tape_isReadWhole.1.cls m_Tape_isReadWhole.1 m_Tape_isReadWhole.1 ∈ am_tbl := (am_U7_ok _ (List.mem_of_getElem? (i := 18) rfl))
theorem lm_Tape_keepFirst : am_LM m_Tape_keepFirst := ⟨(am_U5_ok _ (List.mem_of_getElem? (i := 14) rfl)), (am_U2_ok _ (List.mem_of_getElem? (i := 14) rfl)), ⟨by decide +kernel, by decide +kernel⟩, by decide +kernel⟩
theorem np_Tape_keepFirst : am_np m_Tape_keepFirst 1 := by unfold am_np; decide +kernel
theorem im_Tape_keepFirst : Cond.instanceMethod m_Tape_keepFirst.1 ∈ am_tbl := (am_U5_ok _ (List.mem_of_getElem? (i := 12) rfl))
theorem se_Tape_keepFirst : Cond.selects m_Tape_keepFirst.1.cls m_Tape_keepFirst.1 m_Tape_keepFirst.1 ∈ am_tbl := (am_U5_ok _ (List.mem_of_getElem? (i := 13) rfl))
theorem lm_Tape_moveTo : am_LM m_Tape_moveTo := ⟨(am_U5_ok _ (List.mem_of_getElem? (i := 28) rfl)), (am_U2_ok _ (List.mem_of_getElem? (i := 14) rfl)), ⟨by decide +kernel, by decide +kernel⟩, by decide +kernel⟩
theorem np_Tape_moveTo : am_np m_Tape_moveTo 1 := by unfold am_np; decide +kernel
theorem im_Tape_moveTo : Cond.instanceMethod m_Tape_moveTo.1 ∈ am_tbl := (am_U5_ok _ (List.mem_of_getElem? (i := 27) rfl))
theorem se_Tape_moveTo : Cond.selects m_Tape_moveTo.1.cls m_Tape_moveTo.1 m_Tape_moveTo.1 ∈ am_tbl := (am_U0_ok _ (List.mem_of_getElem? (i := 3) rfl))
theorem lm_Tape_readTo : am_LM m_Tape_readTo := ⟨(am_U7_ok _ (List.mem_of_getElem? (i := 23) rfl)), (am_U2_ok _ (List.mem_of_getElem? (i := 14) rfl)), ⟨by decide +kernel, by decide +kernel⟩, by decide +kernel⟩
theorem np_Tape_readTo : am_np m_Tape_readTo 0 := by unfold am_np; decide +kernel
theorem im_Tape_readTo : Cond.instanceMethod m_Tape_readTo.1 ∈ am_tbl := (am_U7_ok _ (List.mem_of_getElem? (i := 21) rfl))
theorem se_Tape_readTo : Cond.selects m_Tape_readTo.1.cls m_Tape_readTo.1 m_Tape_readTo.1 ∈ am_tbl := (am_U7_ok _ (List.mem_of_getElem? (i := 22) rfl))
theorem lm_Tape_rewind : am_LM m_Tape_rewind := ⟨(am_U5_ok _ (List.mem_of_getElem? (i := 25) rfl)), (am_U2_ok _ (List.mem_of_getElem? (i := 14) rfl)), ⟨by decide +kernel, by decide +kernel⟩, by decide +kernel⟩
theorem np_Tape_rewind : am_np m_Tape_rewind 0 := by unfold am_np; decide +kernel
theorem im_Tape_rewind : Cond.instanceMethod m_Tape_rewind.1 ∈ am_tbl := (am_U5_ok _ (List.mem_of_getElem? (i := 23) rfl))
theorem se_Tape_rewind : Cond.selects m_Tape_rewind.1.cls m_Tape_rewind.1 m_Tape_rewind.1 ∈ am_tbl := (am_U5_ok _ (List.mem_of_getElem? (i := 24) rfl))
theorem lm_Tape_size : am_LM m_Tape_size := ⟨(am_U5_ok _ (List.mem_of_getElem? (i := 3) rfl)), (am_U2_ok _ (List.mem_of_getElem? (i := 14) rfl)), ⟨by decide +kernel, by decide +kernel⟩, by decide +kernel⟩
theorem np_Tape_size : am_np m_Tape_size 0 := by unfold am_np; decide +kernel
theorem im_Tape_size : Cond.instanceMethod m_Tape_size.1 ∈ am_tbl := (am_U5_ok _ (List.mem_of_getElem? (i := 1) rfl))
theorem se_Tape_size : Cond.selects m_Tape_size.1.cls m_Tape_size.1 m_Tape_size.1 ∈ am_tbl := (am_U5_ok _ (List.mem_of_getElem? (i := 2) rfl))
theorem lm_Tape_takeMark : am_LM m_Tape_takeMark := ⟨(am_U7_ok _ (List.mem_of_getElem? (i := 10) rfl)), (am_U2_ok _ (List.mem_of_getElem? (i := 14) rfl)), ⟨by decide +kernel, by decide +kernel⟩, by decide +kernel⟩
theorem np_Tape_takeMark : am_np m_Tape_takeMark 1 := by unfold am_np; decide +kernel
theorem im_Tape_takeMark : Cond.instanceMethod m_Tape_takeMark.1 ∈ am_tbl := (am_U7_ok _ (List.mem_of_getElem? (i := 8) rfl))
theorem se_Tape_takeMark : Cond.selects m_Tape_takeMark.1.cls m_Tape_takeMark.1 m_Tape_takeMark.1 ∈ am_tbl := (am_U7_ok _ (List.mem_of_getElem? (i := 9) rfl))
theorem lm_Tape_takeWord : am_LM m_Tape_takeWord := ⟨(am_U5_ok _ (List.mem_of_getElem? (i := 39) rfl)), (am_U2_ok _ (List.mem_of_getElem? (i := 14) rfl)), ⟨by decide +kernel, by decide +kernel⟩, by decide +kernel⟩
theorem np_Tape_takeWord : am_np m_Tape_takeWord 1 := by unfold am_np; decide +kernel
theorem im_Tape_takeWord : Cond.instanceMethod m_Tape_takeWord.1 ∈ am_tbl := (am_U5_ok _ (List.mem_of_getElem? (i := 37) rfl))
theorem se_Tape_takeWord : Cond.selects m_Tape_takeWord.1.cls m_Tape_takeWord.1 m_Tape_takeWord.1 ∈ am_tbl := (am_U5_ok _ (List.mem_of_getElem? (i := 38) rfl))
theorem lm_Tape_wantMark : am_LM m_Tape_wantMark := ⟨(am_U10_ok _ (List.mem_of_getElem? (i := 6) rfl)), (am_U2_ok _ (List.mem_of_getElem? (i := 14) rfl)), ⟨by decide +kernel, by decide +kernel⟩, by decide +kernel⟩
theorem np_Tape_wantMark : am_np m_Tape_wantMark 1 := by unfold am_np; decide +kernel
theorem im_Tape_wantMark : Cond.instanceMethod m_Tape_wantMark.1 ∈ am_tbl := (am_U10_ok _ (List.mem_of_getElem? (i := 4) rfl))
theorem se_Tape_wantMark : Cond.selects m_Tape_wantMark.1.cls m_Tape_wantMark.1 m_Tape_wantMark.1 ∈ am_tbl := (am_U10_ok _ (List.mem_of_getElem? (i := 5) rfl))
theorem lm_Tape_wantNumber : am_LM m_Tape_wantNumber := ⟨(am_U6_ok _ (List.mem_of_getElem? (i := 39) rfl)), (am_U2_ok _ (List.mem_of_getElem? (i := 14) rfl)), ⟨by decide +kernel, by decide +kernel⟩, by decide +kernel⟩
theorem np_Tape_wantNumber : am_np m_Tape_wantNumber 0 := by unfold am_np; decide +kernel
theorem im_Tape_wantNumber : Cond.instanceMethod m_Tape_wantNumber.1 ∈ am_tbl := (am_U6_ok _ (List.mem_of_getElem? (i := 37) rfl))
theorem se_Tape_wantNumber : Cond.selects m_Tape_wantNumber.1.cls m_Tape_wantNumber.1 m_Tape_wantNumber.1 ∈ am_tbl := (am_U6_ok _ (List.mem_of_getElem? (i := 38) rfl))
theorem lm_Tape_wantSize : am_LM m_Tape_wantSize := ⟨(am_U7_ok _ (List.mem_of_getElem? (i := 6) rfl)), (am_U2_ok _ (List.mem_of_getElem? (i := 14) rfl)), ⟨by decide +kernel, by decide +kernel⟩, by decide +kernel⟩
theorem np_Tape_wantSize : am_np m_Tape_wantSize 0 := by unfold am_np; decide +kernel
theorem im_Tape_wantSize : Cond.instanceMethod m_Tape_wantSize.1 ∈ am_tbl := (am_U7_ok _ (List.mem_of_getElem? (i := 4) rfl))
theorem se_Tape_wantSize : Cond.selects m_Tape_wantSize.1.cls m_Tape_wantSize.1 m_Tape_wantSize.1 ∈ am_tbl := (am_U7_ok _ (List.mem_of_getElem? (i := 5) rfl))
theorem lm_Tape_wantStep : am_LM m_Tape_wantStep := ⟨(am_U10_ok _ (List.mem_of_getElem? (i := 2) rfl)), (am_U2_ok _ (List.mem_of_getElem? (i := 14) rfl)), ⟨by decide +kernel, by decide +kernel⟩, by decide +kernel⟩
theorem np_Tape_wantStep : am_np m_Tape_wantStep 0 := by unfold am_np; decide +kernel
theorem im_Tape_wantStep : Cond.instanceMethod m_Tape_wantStep.1 ∈ am_tbl := (am_U10_ok _ (List.mem_of_getElem? (i := 0) rfl))
theorem se_Tape_wantStep : Cond.selects m_Tape_wantStep.1.cls m_Tape_wantStep.1 m_Tape_wantStep.1 ∈ am_tbl := (am_U10_ok _ (List.mem_of_getElem? (i := 1) rfl))
theorem lm_Tape_wantWord : am_LM m_Tape_wantWord := ⟨(am_U6_ok _ (List.mem_of_getElem? (i := 34) rfl)), (am_U2_ok _ (List.mem_of_getElem? (i := 14) rfl)), ⟨by decide +kernel, by decide +kernel⟩, by decide +kernel⟩
theorem np_Tape_wantWord : am_np m_Tape_wantWord 1 := by unfold am_np; decide +kernel
theorem im_Tape_wantWord : Cond.instanceMethod m_Tape_wantWord.1 ∈ am_tbl := (am_U6_ok _ (List.mem_of_getElem? (i := 32) rfl))
theorem se_Tape_wantWord : Cond.selects m_Tape_wantWord.1.cls m_Tape_wantWord.1 m_Tape_wantWord.1 ∈ am_tbl := (am_U6_ok _ (List.mem_of_getElem? (i := 33) rfl))
theorem lm_Windows_areAlways : am_LM m_Windows_areAlways := ⟨(am_U18_ok _ (List.mem_of_getElem? (i := 17) rfl)), (am_U2_ok _ (List.mem_of_getElem? (i := 20) rfl)), ⟨by decide +kernel, by decide +kernel⟩, by decide +kernel⟩
theorem np_Windows_areAlways : am_np m_Windows_areAlways 0 := by unfold am_np; decide +kernel
theorem im_Windows_areAlways : Cond.instanceMethod m_Windows_areAlways.1 ∈ am_tbl := (am_U18_ok _ (List.mem_of_getElem? (i := 15) rfl))
theorem se_Windows_areAlways : Cond.selects m_Windows_areAlways.1.cls m_Windows_areAlways.1 m_Windows_areAlways.1 ∈ am_tbl := (am_U18_ok _ (List.mem_of_getElem? (i := 16) rfl))
theorem lm_Windows_find : am_LM m_Windows_find := ⟨(am_U16_ok _ (List.mem_of_getElem? (i := 3) rfl)), (am_U2_ok _ (List.mem_of_getElem? (i := 20) rfl)), ⟨by decide +kernel, by decide +kernel⟩, by decide +kernel⟩
theorem np_Windows_find : am_np m_Windows_find 2 := by unfold am_np; decide +kernel
theorem im_Windows_find : Cond.instanceMethod m_Windows_find.1 ∈ am_tbl := (am_U16_ok _ (List.mem_of_getElem? (i := 1) rfl))
theorem se_Windows_find : Cond.selects m_Windows_find.1.cls m_Windows_find.1 m_Windows_find.1 ∈ am_tbl := (am_U16_ok _ (List.mem_of_getElem? (i := 2) rfl))
theorem lm_Windows_findAtFlap : am_LM m_Windows_findAtFlap := ⟨(am_U17_ok _ (List.mem_of_getElem? (i := 11) rfl)), (am_U2_ok _ (List.mem_of_getElem? (i := 20) rfl)), ⟨by decide +kernel, by decide +kernel⟩, by decide +kernel⟩
theorem np_Windows_findAtFlap : am_np m_Windows_findAtFlap 3 := by unfold am_np; decide +kernel
theorem im_Windows_findAtFlap : Cond.instanceMethod m_Windows_findAtFlap.1 ∈ am_tbl := (am_U17_ok _ (List.mem_of_getElem? (i := 10) rfl))
theorem se_Windows_findAtFlap : Cond.selects m_Windows_findAtFlap.1.cls m_Windows_findAtFlap.1 m_Windows_findAtFlap.1 ∈ am_tbl := (am_U0_ok _ (List.mem_of_getElem? (i := 21) rfl))
theorem lm_Windows_findAtGate : am_LM m_Windows_findAtGate := ⟨(am_U16_ok _ (List.mem_of_getElem? (i := 24) rfl)), (am_U2_ok _ (List.mem_of_getElem? (i := 20) rfl)), ⟨by decide +kernel, by decide +kernel⟩, by decide +kernel⟩
theorem np_Windows_findAtGate : am_np m_Windows_findAtGate 3 := by unfold am_np; decide +kernel
theorem im_Windows_findAtGate : Cond.instanceMethod m_Windows_findAtGate.1 ∈ am_tbl := (am_U16_ok _ (List.mem_of_getElem? (i := 23) rfl))
theorem se_Windows_findAtGate : Cond.selects m_Windows_findAtGate.1.cls m_Windows_findAtGate.1 m_Windows_findAtGate.1 ∈ am_tbl := (am_U0_ok _ (List.mem_of_getElem? (i := 20) rfl))
theorem lm_Windows_found : am_LM m_Windows_found := ⟨(am_U17_ok _ (List.mem_of_getElem? (i := 28) rfl)), (am_U2_ok _ (List.mem_of_getElem? (i := 20) rfl)), ⟨by decide +kernel, by decide +kernel⟩, by decide +kernel⟩
theorem np_Windows_found : am_np m_Windows_found 0 := by unfold am_np; decide +kernel
theorem im_Windows_found : Cond.instanceMethod m_Windows_found.1 ∈ am_tbl := (am_U17_ok _ (List.mem_of_getElem? (i := 26) rfl))
theorem se_Windows_found : Cond.selects m_Windows_found.1.cls m_Windows_found.1 m_Windows_found.1 ∈ am_tbl := (am_U17_ok _ (List.mem_of_getElem? (i := 27) rfl))
theorem lm_Windows_init : am_LM m_Windows_init := ⟨(am_U3_ok _ (List.mem_of_getElem? (i := 39) rfl)), (am_U2_ok _ (List.mem_of_getElem? (i := 20) rfl)), ⟨by decide +kernel, by decide +kernel⟩, by decide +kernel⟩
theorem np_Windows_init : am_np m_Windows_init 0 := by unfold am_np; decide +kernel
theorem im_Windows_init : Cond.instanceMethod m_Windows_init.1 ∈ am_tbl := (am_U3_ok _ (List.mem_of_getElem? (i := 38) rfl))
theorem lm_Main_above : am_LM m_Main_above := ⟨(am_U14_ok _ (List.mem_of_getElem? (i := 25) rfl)), (am_U2_ok _ (List.mem_of_getElem? (i := 13) rfl)), ⟨by decide +kernel, by decide +kernel⟩, by decide +kernel⟩
theorem np_Main_above : am_np m_Main_above 3 := by unfold am_np; decide +kernel
theorem im_Main_above : Cond.instanceMethod m_Main_above.1 ∈ am_tbl := (am_U14_ok _ (List.mem_of_getElem? (i := 23) rfl))
theorem se_Main_above : Cond.selects m_Main_above.1.cls m_Main_above.1 m_Main_above.1 ∈ am_tbl := (am_U14_ok _ (List.mem_of_getElem? (i := 24) rfl))
theorem lm_Main_addTable : am_LM m_Main_addTable := ⟨(am_U5_ok _ (List.mem_of_getElem? (i := 21) rfl)), (am_U2_ok _ (List.mem_of_getElem? (i := 13) rfl)), ⟨by decide +kernel, by decide +kernel⟩, by decide +kernel⟩
theorem np_Main_addTable : am_np m_Main_addTable 1 := by unfold am_np; decide +kernel
theorem im_Main_addTable : Cond.instanceMethod m_Main_addTable.1 ∈ am_tbl := (am_U5_ok _ (List.mem_of_getElem? (i := 20) rfl))
theorem se_Main_addTable : Cond.selects m_Main_addTable.1.cls m_Main_addTable.1 m_Main_addTable.1 ∈ am_tbl := (am_U0_ok _ (List.mem_of_getElem? (i := 2) rfl))
theorem lm_Main_answer : am_LM m_Main_answer := ⟨(am_U5_ok _ (List.mem_of_getElem? (i := 6) rfl)), (am_U2_ok _ (List.mem_of_getElem? (i := 13) rfl)), ⟨by decide +kernel, by decide +kernel⟩, by decide +kernel⟩
theorem np_Main_answer : am_np m_Main_answer 1 := by unfold am_np; decide +kernel
theorem im_Main_answer : Cond.instanceMethod m_Main_answer.1 ∈ am_tbl := (am_U5_ok _ (List.mem_of_getElem? (i := 5) rfl))
theorem se_Main_answer : Cond.selects m_Main_answer.1.cls m_Main_answer.1 m_Main_answer.1 ∈ am_tbl := (am_U0_ok _ (List.mem_of_getElem? (i := 1) rfl))
theorem lm_Main_answerLetter : am_LM m_Main_answerLetter := ⟨(am_U19_ok _ (List.mem_of_getElem? (i := 10) rfl)), (am_U2_ok _ (List.mem_of_getElem? (i := 13) rfl)), ⟨by decide +kernel, by decide +kernel⟩, by decide +kernel⟩
theorem np_Main_answerLetter : am_np m_Main_answerLetter 1 := by unfold am_np; decide +kernel
theorem im_Main_answerLetter : Cond.instanceMethod m_Main_answerLetter.1 ∈ am_tbl := (am_U19_ok _ (List.mem_of_getElem? (i := 9) rfl))
theorem se_Main_answerLetter : Cond.selects m_Main_answerLetter.1.cls m_Main_answerLetter.1 m_Main_answerLetter.1 ∈ am_tbl := (am_U0_ok _ (List.mem_of_getElem? (i := 28) rfl))
theorem lm_Main_arrive : am_LM m_Main_arrive := ⟨(am_U19_ok _ (List.mem_of_getElem? (i := 38) rfl)), (am_U2_ok _ (List.mem_of_getElem? (i := 13) rfl)), ⟨by decide +kernel, by decide +kernel⟩, by decide +kernel⟩
theorem np_Main_arrive : am_np m_Main_arrive 3 := by unfold am_np; decide +kernel
theorem im_Main_arrive : Cond.instanceMethod m_Main_arrive.1 ∈ am_tbl := (am_U19_ok _ (List.mem_of_getElem? (i := 36) rfl))
theorem se_Main_arrive : Cond.selects m_Main_arrive.1.cls m_Main_arrive.1 m_Main_arrive.1 ∈ am_tbl := (am_U19_ok _ (List.mem_of_getElem? (i := 37) rfl))
theorem lm_Main_count : am_LM m_Main_count := ⟨(am_U13_ok _ (List.mem_of_getElem? (i := 30) rfl)), (am_U2_ok _ (List.mem_of_getElem? (i := 13) rfl)), ⟨by decide +kernel, by decide +kernel⟩, by decide +kernel⟩
theorem np_Main_count : am_np m_Main_count 1 := by unfold am_np; decide +kernel
theorem im_Main_count : Cond.instanceMethod m_Main_count.1 ∈ am_tbl := (am_U13_ok _ (List.mem_of_getElem? (i := 28) rfl))
theorem se_Main_count : Cond.selects m_Main_count.1.cls m_Main_count.1 m_Main_count.1 ∈ am_tbl := (am_U13_ok _ (List.mem_of_getElem? (i := 29) rfl))
theorem lm_Main_ebb : am_LM m_Main_ebb := ⟨(am_U15_ok _ (List.mem_of_getElem? (i := 29) rfl)), (am_U2_ok _ (List.mem_of_getElem? (i := 13) rfl)), ⟨by decide +kernel, by decide +kernel⟩, by decide +kernel⟩
theorem np_Main_ebb : am_np m_Main_ebb 3 := by unfold am_np; decide +kernel
theorem im_Main_ebb : Cond.instanceMethod m_Main_ebb.1 ∈ am_tbl := (am_U15_ok _ (List.mem_of_getElem? (i := 27) rfl))
theorem se_Main_ebb : Cond.selects m_Main_ebb.1.cls m_Main_ebb.1 m_Main_ebb.1 ∈ am_tbl := (am_U15_ok _ (List.mem_of_getElem? (i := 28) rfl))
theorem lm_Main_end : am_LM m_Main_end := ⟨(am_U5_ok _ (List.mem_of_getElem? (i := 10) rfl)), (am_U2_ok _ (List.mem_of_getElem? (i := 13) rfl)), ⟨by decide +kernel, by decide +kernel⟩, by decide +kernel⟩
theorem np_Main_end : am_np m_Main_end 1 := by unfold am_np; decide +kernel
theorem im_Main_end : Cond.instanceMethod m_Main_end.1 ∈ am_tbl := (am_U5_ok _ (List.mem_of_getElem? (i := 8) rfl))
theorem se_Main_end : Cond.selects m_Main_end.1.cls m_Main_end.1 m_Main_end.1 ∈ am_tbl := (am_U5_ok _ (List.mem_of_getElem? (i := 9) rfl))
theorem lm_Main_fault : am_LM m_Main_fault := ⟨(am_U13_ok _ (List.mem_of_getElem? (i := 26) rfl)), (am_U2_ok _ (List.mem_of_getElem? (i := 13) rfl)), ⟨by decide +kernel, by decide +kernel⟩, by decide +kernel⟩
theorem np_Main_fault : am_np m_Main_fault 0 := by unfold am_np; decide +kernel
theorem im_Main_fault : Cond.instanceMethod m_Main_fault.1 ∈ am_tbl := (am_U13_ok _ (List.mem_of_getElem? (i := 24) rfl))
theorem se_Main_fault : Cond.selects m_Main_fault.1.cls m_Main_fault.1 m_Main_fault.1 ∈ am_tbl := (am_U13_ok _ (List.mem_of_getElem? (i := 25) rfl))
theorem lm_Main_feed : am_LM m_Main_feed := ⟨(am_U4_ok _ (List.mem_of_getElem? (i := 28) rfl)), (am_U2_ok _ (List.mem_of_getElem? (i := 13) rfl)), ⟨by decide +kernel, by decide +kernel⟩, by decide +kernel⟩
theorem np_Main_feed : am_np m_Main_feed 5 := by unfold am_np; decide +kernel
theorem im_Main_feed : Cond.instanceMethod m_Main_feed.1 ∈ am_tbl := (am_U4_ok _ (List.mem_of_getElem? (i := 26) rfl))
theorem se_Main_feed : Cond.selects m_Main_feed.1.cls m_Main_feed.1 m_Main_feed.1 ∈ am_tbl := (am_U4_ok _ (List.mem_of_getElem? (i := 27) rfl))
theorem lm_Main_findWindows : am_LM m_Main_findWindows := ⟨(am_U15_ok _ (List.mem_of_getElem? (i := 36) rfl)), (am_U2_ok _ (List.mem_of_getElem? (i := 13) rfl)), ⟨by decide +kernel, by decide +kernel⟩, by decide +kernel⟩
theorem np_Main_findWindows : am_np m_Main_findWindows 2 := by unfold am_np; decide +kernel
theorem im_Main_findWindows : Cond.instanceMethod m_Main_findWindows.1 ∈ am_tbl := (am_U15_ok _ (List.mem_of_getElem? (i := 35) rfl))
theorem se_Main_findWindows : Cond.selects m_Main_findWindows.1.cls m_Main_findWindows.1 m_Main_findWindows.1 ∈ am_tbl := (am_U0_ok _ (List.mem_of_getElem? (i := 18) rfl))
theorem lm_Main_firstMinuteWhere : am_LM m_Main_firstMinuteWhere := ⟨(am_U14_ok _ (List.mem_of_getElem? (i := 35) rfl)), (am_U2_ok _ (List.mem_of_getElem? (i := 13) rfl)), ⟨by decide +kernel, by decide +kernel⟩, by decide +kernel⟩
theorem np_Main_firstMinuteWhere : am_np m_Main_firstMinuteWhere 4 := by unfold am_np; decide +kernel
theorem im_Main_firstMinuteWhere : Cond.instanceMethod m_Main_firstMinuteWhere.1 ∈ am_tbl := (am_U14_ok _ (List.mem_of_getElem? (i := 34) rfl))
theorem se_Main_firstMinuteWhere : Cond.selects m_Main_firstMinuteWhere.1.cls m_Main_firstMinuteWhere.1 m_Main_firstMinuteWhere.1 ∈ am_tbl := (am_U0_ok _ (List.mem_of_getElem? (i := 16) rfl))
theorem lm_Main_good : am_LM m_Main_good := ⟨(am_U18_ok _ (List.mem_of_getElem? (i := 4) rfl)), (am_U2_ok _ (List.mem_of_getElem? (i := 13) rfl)), ⟨by decide +kernel, by decide +kernel⟩, by decide +kernel⟩
theorem np_Main_good : am_np m_Main_good 3 := by unfold am_np; decide +kernel
theorem im_Main_good : Cond.instanceMethod m_Main_good.1 ∈ am_tbl := (am_U18_ok _ (List.mem_of_getElem? (i := 2) rfl))
theorem se_Main_good : Cond.selects m_Main_good.1.cls m_Main_good.1 m_Main_good.1 ∈ am_tbl := (am_U18_ok _ (List.mem_of_getElem? (i := 3) rfl))
theorem lm_Main_hour : am_LM m_Main_hour := ⟨(am_U17_ok _ (List.mem_of_getElem? (i := 33) rfl)), (am_U2_ok _ (List.mem_of_getElem? (i := 13) rfl)), ⟨by decide +kernel, by decide +kernel⟩, by decide +kernel⟩
theorem np_Main_hour : am_np m_Main_hour 4 := by unfold am_np; decide +kernel
theorem im_Main_hour : Cond.instanceMethod m_Main_hour.1 ∈ am_tbl := (am_U17_ok _ (List.mem_of_getElem? (i := 31) rfl))
theorem se_Main_hour : Cond.selects m_Main_hour.1.cls m_Main_hour.1 m_Main_hour.1 ∈ am_tbl := (am_U17_ok _ (List.mem_of_getElem? (i := 32) rfl))
theorem lm_Main_hours : am_LM m_Main_hours := ⟨(am_U15_ok _ (List.mem_of_getElem? (i := 33) rfl)), (am_U2_ok _ (List.mem_of_getElem? (i := 13) rfl)), ⟨by decide +kernel, by decide +kernel⟩, by decide +kernel⟩
theorem np_Main_hours : am_np m_Main_hours 2 := by unfold am_np; decide +kernel
theorem im_Main_hours : Cond.instanceMethod m_Main_hours.1 ∈ am_tbl := (am_U15_ok _ (List.mem_of_getElem? (i := 31) rfl))
theorem se_Main_hours : Cond.selects m_Main_hours.1.cls m_Main_hours.1 m_Main_hours.1 ∈ am_tbl := (am_U15_ok _ (List.mem_of_getElem? (i := 32) rfl))
theorem lm_Main_init : am_LM m_Main_init := ⟨(am_U2_ok _ (List.mem_of_getElem? (i := 34) rfl)), (am_U2_ok _ (List.mem_of_getElem? (i := 13) rfl)), ⟨by decide +kernel, by decide +kernel⟩, by decide +kernel⟩
theorem np_Main_init : am_np m_Main_init 0 := by unfold am_np; decide +kernel
theorem im_Main_init : Cond.instanceMethod m_Main_init.1 ∈ am_tbl := (am_U2_ok _ (List.mem_of_getElem? (i := 33) rfl))
theorem lm_Main_isHeightToAsk : am_LM m_Main_isHeightToAsk := ⟨(am_U14_ok _ (List.mem_of_getElem? (i := 28) rfl)), (am_U2_ok _ (List.mem_of_getElem? (i := 13) rfl)), ⟨by decide +kernel, by decide +kernel⟩, by decide +kernel⟩
theorem np_Main_isHeightToAsk : am_np m_Main_isHeightToAsk 1 := by unfold am_np; decide +kernel
theorem st_Main_isHeightToAsk : Cond.static m_Main_isHeightToAsk.1 ∈ am_tbl := (am_U14_ok _ (List.mem_of_getElem? (i := 27) rfl))
theorem lm_Main_isNumberToAsk : am_LM m_Main_isNumberToAsk := ⟨(am_U20_ok _ (List.mem_of_getElem? (i := 1) rfl)), (am_U2_ok _ (List.mem_of_getElem? (i := 13) rfl)), ⟨by decide +kernel, by decide +kernel⟩, by decide +kernel⟩
theorem np_Main_isNumberToAsk : am_np m_Main_isNumberToAsk 1 := by unfold am_np; decide +kernel
theorem st_Main_isNumberToAsk : Cond.static m_Main_isNumberToAsk.1 ∈ am_tbl := (am_U20_ok _ (List.mem_of_getElem? (i := 0) rfl))
theorem lm_Main_judge : am_LM m_Main_judge := ⟨(am_U9_ok _ (List.mem_of_getElem? (i := 14) rfl)), (am_U2_ok _ (List.mem_of_getElem? (i := 13) rfl)), ⟨by decide +kernel, by decide +kernel⟩, by decide +kernel⟩
theorem np_Main_judge : am_np m_Main_judge 2 := by unfold am_np; decide +kernel
theorem im_Main_judge : Cond.instanceMethod m_Main_judge.1 ∈ am_tbl := (am_U9_ok _ (List.mem_of_getElem? (i := 13) rfl))
theorem se_Main_judge : Cond.selects m_Main_judge.1.cls m_Main_judge.1 m_Main_judge.1 ∈ am_tbl := (am_U0_ok _ (List.mem_of_getElem? (i := 8) rfl))
theorem lm_Main_keepPort : am_LM m_Main_keepPort := ⟨(am_U9_ok _ (List.mem_of_getElem? (i := 6) rfl)), (am_U2_ok _ (List.mem_of_getElem? (i := 13) rfl)), ⟨by decide +kernel, by decide +kernel⟩, by decide +kernel⟩
theorem np_Main_keepPort : am_np m_Main_keepPort 1 := by unfold am_np; decide +kernel
theorem im_Main_keepPort : Cond.instanceMethod m_Main_keepPort.1 ∈ am_tbl := (am_U9_ok _ (List.mem_of_getElem? (i := 5) rfl))
theorem se_Main_keepPort : Cond.selects m_Main_keepPort.1.cls m_Main_keepPort.1 m_Main_keepPort.1 ∈ am_tbl := (am_U0_ok _ (List.mem_of_getElem? (i := 7) rfl))
theorem lm_Main_leg : am_LM m_Main_leg := ⟨(am_U19_ok _ (List.mem_of_getElem? (i := 29) rfl)), (am_U2_ok _ (List.mem_of_getElem? (i := 13) rfl)), ⟨by decide +kernel, by decide +kernel⟩, by decide +kernel⟩
theorem np_Main_leg : am_np m_Main_leg 3 := by unfold am_np; decide +kernel
theorem im_Main_leg : Cond.instanceMethod m_Main_leg.1 ∈ am_tbl := (am_U19_ok _ (List.mem_of_getElem? (i := 27) rfl))
theorem se_Main_leg : Cond.selects m_Main_leg.1.cls m_Main_leg.1 m_Main_leg.1 ∈ am_tbl := (am_U19_ok _ (List.mem_of_getElem? (i := 28) rfl))
theorem lm_Main_letter : am_LM m_Main_letter := ⟨(am_U22_ok _ (List.mem_of_getElem? (i := 0) rfl)), (am_U2_ok _ (List.mem_of_getElem? (i := 13) rfl)), ⟨by decide +kernel, by decide +kernel⟩, by decide +kernel⟩
theorem np_Main_letter : am_np m_Main_letter 3 := by unfold am_np; decide +kernel
theorem im_Main_letter : Cond.instanceMethod m_Main_letter.1 ∈ am_tbl := (am_U21_ok _ (List.mem_of_getElem? (i := 38) rfl))
theorem se_Main_letter : Cond.selects m_Main_letter.1.cls m_Main_letter.1 m_Main_letter.1 ∈ am_tbl := (am_U21_ok _ (List.mem_of_getElem? (i := 39) rfl))
theorem lm_Main_longer : am_LM m_Main_longer := ⟨(am_U9_ok _ (List.mem_of_getElem? (i := 20) rfl)), (am_U2_ok _ (List.mem_of_getElem? (i := 13) rfl)), ⟨by decide +kernel, by decide +kernel⟩, by decide +kernel⟩
theorem np_Main_longer : am_np m_Main_longer 1 := by unfold am_np; decide +kernel
theorem im_Main_longer : Cond.instanceMethod m_Main_longer.1 ∈ am_tbl := (am_U9_ok _ (List.mem_of_getElem? (i := 18) rfl))
theorem se_Main_longer : Cond.selects m_Main_longer.1.cls m_Main_longer.1 m_Main_longer.1 ∈ am_tbl := (am_U9_ok _ (List.mem_of_getElem? (i := 19) rfl))
theorem lm_Main_minutes : am_LM m_Main_minutes := ⟨(am_U17_ok _ (List.mem_of_getElem? (i := 39) rfl)), (am_U2_ok _ (List.mem_of_getElem? (i := 13) rfl)), ⟨by decide +kernel, by decide +kernel⟩, by decide +kernel⟩
theorem np_Main_minutes : am_np m_Main_minutes 2 := by unfold am_np; decide +kernel
theorem im_Main_minutes : Cond.instanceMethod m_Main_minutes.1 ∈ am_tbl := (am_U17_ok _ (List.mem_of_getElem? (i := 37) rfl))
theorem se_Main_minutes : Cond.selects m_Main_minutes.1.cls m_Main_minutes.1 m_Main_minutes.1 ∈ am_tbl := (am_U17_ok _ (List.mem_of_getElem? (i := 38) rfl))
theorem lm_Main_note : am_LM m_Main_note := ⟨(am_U18_ok _ (List.mem_of_getElem? (i := 13) rfl)), (am_U2_ok _ (List.mem_of_getElem? (i := 13) rfl)), ⟨by decide +kernel, by decide +kernel⟩, by decide +kernel⟩
theorem np_Main_note : am_np m_Main_note 3 := by unfold am_np; decide +kernel
theorem im_Main_note : Cond.instanceMethod m_Main_note.1 ∈ am_tbl := (am_U18_ok _ (List.mem_of_getElem? (i := 11) rfl))
theorem se_Main_note : Cond.selects m_Main_note.1.cls m_Main_note.1 m_Main_note.1 ∈ am_tbl := (am_U18_ok _ (List.mem_of_getElem? (i := 12) rfl))
theorem lm_Main_pass : am_LM m_Main_pass := ⟨(am_U21_ok _ (List.mem_of_getElem? (i := 16) rfl)), (am_U2_ok _ (List.mem_of_getElem? (i := 13) rfl)), ⟨by decide +kernel, by decide +kernel⟩, by decide +kernel⟩
theorem np_Main_pass : am_np m_Main_pass 4 := by unfold am_np; decide +kernel
theorem im_Main_pass : Cond.instanceMethod m_Main_pass.1 ∈ am_tbl := (am_U21_ok _ (List.mem_of_getElem? (i := 14) rfl))
theorem se_Main_pass : Cond.selects m_Main_pass.1.cls m_Main_pass.1 m_Main_pass.1 ∈ am_tbl := (am_U21_ok _ (List.mem_of_getElem? (i := 15) rfl))
theorem lm_Main_place : am_LM m_Main_place := ⟨(am_U13_ok _ (List.mem_of_getElem? (i := 22) rfl)), (am_U2_ok _ (List.mem_of_getElem? (i := 13) rfl)), ⟨by decide +kernel, by decide +kernel⟩, by decide +kernel⟩
theorem np_Main_place : am_np m_Main_place 0 := by unfold am_np; decide +kernel
theorem im_Main_place : Cond.instanceMethod m_Main_place.1 ∈ am_tbl := (am_U13_ok _ (List.mem_of_getElem? (i := 20) rfl))
theorem se_Main_place : Cond.selects m_Main_place.1.cls m_Main_place.1 m_Main_place.1 ∈ am_tbl := (am_U13_ok _ (List.mem_of_getElem? (i := 21) rfl))
theorem lm_Main_port : am_LM m_Main_port := ⟨(am_U5_ok _ (List.mem_of_getElem? (i := 18) rfl)), (am_U2_ok _ (List.mem_of_getElem? (i := 13) rfl)), ⟨by decide +kernel, by decide +kernel⟩, by decide +kernel⟩
theorem np_Main_port : am_np m_Main_port 0 := by unfold am_np; decide +kernel
theorem im_Main_port : Cond.instanceMethod m_Main_port.1 ∈ am_tbl := (am_U5_ok _ (List.mem_of_getElem? (i := 16) rfl))
theorem se_Main_port : Cond.selects m_Main_port.1.cls m_Main_port.1 m_Main_port.1 ∈ am_tbl := (am_U5_ok _ (List.mem_of_getElem? (i := 17) rfl))
theorem lm_Main_portAt : am_LM m_Main_portAt := ⟨(am_U9_ok _ (List.mem_of_getElem? (i := 23) rfl)), (am_U2_ok _ (List.mem_of_getElem? (i := 13) rfl)), ⟨by decide +kernel, by decide +kernel⟩, by decide +kernel⟩
theorem np_Main_portAt : am_np m_Main_portAt 1 := by unfold am_np; decide +kernel
theorem im_Main_portAt : Cond.instanceMethod m_Main_portAt.1 ∈ am_tbl := (am_U9_ok _ (List.mem_of_getElem? (i := 22) rfl))
theorem se_Main_portAt : Cond.selects m_Main_portAt.1.cls m_Main_portAt.1 m_Main_portAt.1 ∈ am_tbl := (am_U0_ok _ (List.mem_of_getElem? (i := 9) rfl))
theorem lm_Main_refuse : am_LM m_Main_refuse := ⟨(am_U4_ok _ (List.mem_of_getElem? (i := 35) rfl)), (am_U2_ok _ (List.mem_of_getElem? (i := 13) rfl)), ⟨by decide +kernel, by decide +kernel⟩, by decide +kernel⟩
theorem np_Main_refuse : am_np m_Main_refuse 1 := by unfold am_np; decide +kernel
theorem im_Main_refuse : Cond.instanceMethod m_Main_refuse.1 ∈ am_tbl := (am_U4_ok _ (List.mem_of_getElem? (i := 34) rfl))
theorem se_Main_refuse : Cond.selects m_Main_refuse.1.cls m_Main_refuse.1 m_Main_refuse.1 ∈ am_tbl := (am_U0_ok _ (List.mem_of_getElem? (i := 0) rfl))
theorem lm_Main_refuseUnread : am_LM m_Main_refuseUnread := ⟨(am_U9_ok _ (List.mem_of_getElem? (i := 26) rfl)), (am_U2_ok _ (List.mem_of_getElem? (i := 13) rfl)), ⟨by decide +kernel, by decide +kernel⟩, by decide +kernel⟩
theorem np_Main_refuseUnread : am_np m_Main_refuseUnread 0 := by unfold am_np; decide +kernel
theorem im_Main_refuseUnread : Cond.instanceMethod m_Main_refuseUnread.1 ∈ am_tbl := (am_U9_ok _ (List.mem_of_getElem? (i := 25) rfl))
theorem se_Main_refuseUnread : Cond.selects m_Main_refuseUnread.1.cls m_Main_refuseUnread.1 m_Main_refuseUnread.1 ∈ am_tbl := (am_U0_ok _ (List.mem_of_getElem? (i := 10) rfl))
theorem lm_Main_rise : am_LM m_Main_rise := ⟨(am_U14_ok _ (List.mem_of_getElem? (i := 32) rfl)), (am_U2_ok _ (List.mem_of_getElem? (i := 13) rfl)), ⟨by decide +kernel, by decide +kernel⟩, by decide +kernel⟩
theorem np_Main_rise : am_np m_Main_rise 3 := by unfold am_np; decide +kernel
theorem im_Main_rise : Cond.instanceMethod m_Main_rise.1 ∈ am_tbl := (am_U14_ok _ (List.mem_of_getElem? (i := 30) rfl))
theorem se_Main_rise : Cond.selects m_Main_rise.1.cls m_Main_rise.1 m_Main_rise.1 ∈ am_tbl := (am_U14_ok _ (List.mem_of_getElem? (i := 31) rfl))
theorem lm_Main_route : am_LM m_Main_route := ⟨(am_U12_ok _ (List.mem_of_getElem? (i := 4) rfl)), (am_U2_ok _ (List.mem_of_getElem? (i := 13) rfl)), ⟨by decide +kernel, by decide +kernel⟩, by decide +kernel⟩
theorem np_Main_route : am_np m_Main_route 0 := by unfold am_np; decide +kernel
theorem im_Main_route : Cond.instanceMethod m_Main_route.1 ∈ am_tbl := (am_U12_ok _ (List.mem_of_getElem? (i := 2) rfl))
theorem se_Main_route : Cond.selects m_Main_route.1.cls m_Main_route.1 m_Main_route.1 ∈ am_tbl := (am_U12_ok _ (List.mem_of_getElem? (i := 3) rfl))
theorem lm_Main_routeAt : am_LM m_Main_routeAt := ⟨(am_U19_ok _ (List.mem_of_getElem? (i := 25) rfl)), (am_U2_ok _ (List.mem_of_getElem? (i := 13) rfl)), ⟨by decide +kernel, by decide +kernel⟩, by decide +kernel⟩
theorem np_Main_routeAt : am_np m_Main_routeAt 1 := by unfold am_np; decide +kernel
theorem im_Main_routeAt : Cond.instanceMethod m_Main_routeAt.1 ∈ am_tbl := (am_U19_ok _ (List.mem_of_getElem? (i := 24) rfl))
theorem se_Main_routeAt : Cond.selects m_Main_routeAt.1.cls m_Main_routeAt.1 m_Main_routeAt.1 ∈ am_tbl := (am_U0_ok _ (List.mem_of_getElem? (i := 29) rfl))
theorem lm_Main_same : am_LM m_Main_same := ⟨(am_U23_ok _ (List.mem_of_getElem? (i := 6) rfl)), (am_U2_ok _ (List.mem_of_getElem? (i := 13) rfl)), ⟨by decide +kernel, by decide +kernel⟩, by decide +kernel⟩
theorem np_Main_same : am_np m_Main_same 2 := by unfold am_np; decide +kernel
theorem im_Main_same : Cond.instanceMethod m_Main_same.1 ∈ am_tbl := (am_U23_ok _ (List.mem_of_getElem? (i := 4) rfl))
theorem se_Main_same : Cond.selects m_Main_same.1.cls m_Main_same.1 m_Main_same.1 ∈ am_tbl := (am_U23_ok _ (List.mem_of_getElem? (i := 5) rfl))
theorem lm_Main_second : am_LM m_Main_second := ⟨(am_U9_ok _ (List.mem_of_getElem? (i := 30) rfl)), (am_U2_ok _ (List.mem_of_getElem? (i := 13) rfl)), ⟨by decide +kernel, by decide +kernel⟩, by decide +kernel⟩
theorem np_Main_second : am_np m_Main_second 1 := by unfold am_np; decide +kernel
theorem im_Main_second : Cond.instanceMethod m_Main_second.1 ∈ am_tbl := (am_U9_ok _ (List.mem_of_getElem? (i := 28) rfl))
theorem se_Main_second : Cond.selects m_Main_second.1.cls m_Main_second.1 m_Main_second.1 ∈ am_tbl := (am_U9_ok _ (List.mem_of_getElem? (i := 29) rfl))
theorem lm_Main_ship : am_LM m_Main_ship := ⟨(am_U11_ok _ (List.mem_of_getElem? (i := 27) rfl)), (am_U2_ok _ (List.mem_of_getElem? (i := 13) rfl)), ⟨by decide +kernel, by decide +kernel⟩, by decide +kernel⟩
theorem np_Main_ship : am_np m_Main_ship 0 := by unfold am_np; decide +kernel
theorem im_Main_ship : Cond.instanceMethod m_Main_ship.1 ∈ am_tbl := (am_U11_ok _ (List.mem_of_getElem? (i := 25) rfl))
theorem se_Main_ship : Cond.selects m_Main_ship.1.cls m_Main_ship.1 m_Main_ship.1 ∈ am_tbl := (am_U11_ok _ (List.mem_of_getElem? (i := 26) rfl))
theorem lm_Main_shipAt : am_LM m_Main_shipAt := ⟨(am_U15_ok _ (List.mem_of_getElem? (i := 39) rfl)), (am_U2_ok _ (List.mem_of_getElem? (i := 13) rfl)), ⟨by decide +kernel, by decide +kernel⟩, by decide +kernel⟩
theorem np_Main_shipAt : am_np m_Main_shipAt 1 := by unfold am_np; decide +kernel
theorem im_Main_shipAt : Cond.instanceMethod m_Main_shipAt.1 ∈ am_tbl := (am_U15_ok _ (List.mem_of_getElem? (i := 38) rfl))
theorem se_Main_shipAt : Cond.selects m_Main_shipAt.1.cls m_Main_shipAt.1 m_Main_shipAt.1 ∈ am_tbl := (am_U0_ok _ (List.mem_of_getElem? (i := 19) rfl))
theorem lm_Main_sill : am_LM m_Main_sill := ⟨(am_U11_ok _ (List.mem_of_getElem? (i := 1) rfl)), (am_U2_ok _ (List.mem_of_getElem? (i := 13) rfl)), ⟨by decide +kernel, by decide +kernel⟩, by decide +kernel⟩
theorem np_Main_sill : am_np m_Main_sill 1 := by unfold am_np; decide +kernel
theorem im_Main_sill : Cond.instanceMethod m_Main_sill.1 ∈ am_tbl := (am_U10_ok _ (List.mem_of_getElem? (i := 39) rfl))
theorem se_Main_sill : Cond.selects m_Main_sill.1.cls m_Main_sill.1 m_Main_sill.1 ∈ am_tbl := (am_U11_ok _ (List.mem_of_getElem? (i := 0) rfl))
theorem lm_Main_sillAt : am_LM m_Main_sillAt := ⟨(am_U13_ok _ (List.mem_of_getElem? (i := 14) rfl)), (am_U2_ok _ (List.mem_of_getElem? (i := 13) rfl)), ⟨by decide +kernel, by decide +kernel⟩, by decide +kernel⟩
theorem np_Main_sillAt : am_np m_Main_sillAt 1 := by unfold am_np; decide +kernel
theorem im_Main_sillAt : Cond.instanceMethod m_Main_sillAt.1 ∈ am_tbl := (am_U13_ok _ (List.mem_of_getElem? (i := 13) rfl))
theorem se_Main_sillAt : Cond.selects m_Main_sillAt.1.cls m_Main_sillAt.1 m_Main_sillAt.1 ∈ am_tbl := (am_U0_ok _ (List.mem_of_getElem? (i := 14) rfl))
theorem lm_Main_start : am_LM m_Main_start := ⟨(am_U21_ok _ (List.mem_of_getElem? (i := 29) rfl)), (am_U2_ok _ (List.mem_of_getElem? (i := 13) rfl)), ⟨by decide +kernel, by decide +kernel⟩, by decide +kernel⟩
theorem np_Main_start : am_np m_Main_start 3 := by unfold am_np; decide +kernel
theorem im_Main_start : Cond.instanceMethod m_Main_start.1 ∈ am_tbl := (am_U21_ok _ (List.mem_of_getElem? (i := 27) rfl))
theorem se_Main_start : Cond.selects m_Main_start.1.cls m_Main_start.1 m_Main_start.1 ∈ am_tbl := (am_U21_ok _ (List.mem_of_getElem? (i := 28) rfl))
theorem lm_Main_status : am_LM m_Main_status := ⟨(am_U23_ok _ (List.mem_of_getElem? (i := 14) rfl)), (am_U2_ok _ (List.mem_of_getElem? (i := 13) rfl)), ⟨by decide +kernel, by decide +kernel⟩, by decide +kernel⟩
theorem np_Main_status : am_np m_Main_status 0 := by unfold am_np; decide +kernel
theorem im_Main_status : Cond.instanceMethod m_Main_status.1 ∈ am_tbl := (am_U23_ok _ (List.mem_of_getElem? (i := 12) rfl))
theorem se_Main_status : Cond.selects m_Main_status.1.cls m_Main_status.1 m_Main_status.1 ∈ am_tbl := (am_U23_ok _ (List.mem_of_getElem? (i := 13) rfl))
theorem lm_Main_stops : am_LM m_Main_stops := ⟨(am_U19_ok _ (List.mem_of_getElem? (i := 22) rfl)), (am_U2_ok _ (List.mem_of_getElem? (i := 13) rfl)), ⟨by decide +kernel, by decide +kernel⟩, by decide +kernel⟩
theorem np_Main_stops : am_np m_Main_stops 1 := by unfold am_np; decide +kernel
theorem im_Main_stops : Cond.instanceMethod m_Main_stops.1 ∈ am_tbl := (am_U19_ok _ (List.mem_of_getElem? (i := 20) rfl))
theorem se_Main_stops : Cond.selects m_Main_stops.1.cls m_Main_stops.1 m_Main_stops.1 ∈ am_tbl := (am_U19_ok _ (List.mem_of_getElem? (i := 21) rfl))
theorem lm_Main_textWasRight : am_LM m_Main_textWasRight := ⟨(am_U7_ok _ (List.mem_of_getElem? (i := 15) rfl)), (am_U2_ok _ (List.mem_of_getElem? (i := 13) rfl)), ⟨by decide +kernel, by decide +kernel⟩, by decide +kernel⟩
theorem np_Main_textWasRight : am_np m_Main_textWasRight 0 := by unfold am_np; decide +kernel
theorem im_Main_textWasRight : Cond.instanceMethod m_Main_textWasRight.1 ∈ am_tbl := (am_U7_ok _ (List.mem_of_getElem? (i := 14) rfl))
theorem se_Main_textWasRight : Cond.selects m_Main_textWasRight.1.cls m_Main_textWasRight.1 m_Main_textWasRight.1 ∈ am_tbl := (am_U0_ok _ (List.mem_of_getElem? (i := 6) rfl))
theorem lm_Main_turn : am_LM m_Main_turn := ⟨(am_U13_ok _ (List.mem_of_getElem? (i := 38) rfl)), (am_U2_ok _ (List.mem_of_getElem? (i := 13) rfl)), ⟨by decide +kernel, by decide +kernel⟩, by decide +kernel⟩
theorem np_Main_turn : am_np m_Main_turn 3 := by unfold am_np; decide +kernel
theorem im_Main_turn : Cond.instanceMethod m_Main_turn.1 ∈ am_tbl := (am_U13_ok _ (List.mem_of_getElem? (i := 36) rfl))
theorem se_Main_turn : Cond.selects m_Main_turn.1.cls m_Main_turn.1 m_Main_turn.1 ∈ am_tbl := (am_U13_ok _ (List.mem_of_getElem? (i := 37) rfl))
theorem lm_Main_turns : am_LM m_Main_turns := ⟨(am_U13_ok _ (List.mem_of_getElem? (i := 34) rfl)), (am_U2_ok _ (List.mem_of_getElem? (i := 13) rfl)), ⟨by decide +kernel, by decide +kernel⟩, by decide +kernel⟩
theorem np_Main_turns : am_np m_Main_turns 1 := by unfold am_np; decide +kernel
theorem im_Main_turns : Cond.instanceMethod m_Main_turns.1 ∈ am_tbl := (am_U13_ok _ (List.mem_of_getElem? (i := 32) rfl))
theorem se_Main_turns : Cond.selects m_Main_turns.1.cls m_Main_turns.1 m_Main_turns.1 ∈ am_tbl := (am_U13_ok _ (List.mem_of_getElem? (i := 33) rfl))
theorem lm_Main_waits : am_LM m_Main_waits := ⟨(am_U21_ok _ (List.mem_of_getElem? (i := 20) rfl)), (am_U2_ok _ (List.mem_of_getElem? (i := 13) rfl)), ⟨by decide +kernel, by decide +kernel⟩, by decide +kernel⟩
theorem np_Main_waits : am_np m_Main_waits 3 := by unfold am_np; decide +kernel
theorem im_Main_waits : Cond.instanceMethod m_Main_waits.1 ∈ am_tbl := (am_U21_ok _ (List.mem_of_getElem? (i := 18) rfl))
theorem se_Main_waits : Cond.selects m_Main_waits.1.cls m_Main_waits.1 m_Main_waits.1 ∈ am_tbl := (am_U21_ok _ (List.mem_of_getElem? (i := 19) rfl))
theorem lm_Main_water : am_LM m_Main_water := ⟨(am_U14_ok _ (List.mem_of_getElem? (i := 5) rfl)), (am_U2_ok _ (List.mem_of_getElem? (i := 13) rfl)), ⟨by decide +kernel, by decide +kernel⟩, by decide +kernel⟩
theorem np_Main_water : am_np m_Main_water 2 := by unfold am_np; decide +kernel
theorem im_Main_water : Cond.instanceMethod m_Main_water.1 ∈ am_tbl := (am_U14_ok _ (List.mem_of_getElem? (i := 3) rfl))
theorem se_Main_water : Cond.selects m_Main_water.1.cls m_Main_water.1 m_Main_water.1 ∈ am_tbl := (am_U14_ok _ (List.mem_of_getElem? (i := 4) rfl))
theorem lm_Main_writeOut : am_LM m_Main_writeOut := ⟨(am_U22_ok _ (List.mem_of_getElem? (i := 3) rfl)), (am_U2_ok _ (List.mem_of_getElem? (i := 13) rfl)), ⟨by decide +kernel, by decide +kernel⟩, by decide +kernel⟩
theorem np_Main_writeOut : am_np m_Main_writeOut 2 := by unfold am_np; decide +kernel
theorem im_Main_writeOut : Cond.instanceMethod m_Main_writeOut.1 ∈ am_tbl := (am_U22_ok _ (List.mem_of_getElem? (i := 2) rfl))
theorem se_Main_writeOut : Cond.selects m_Main_writeOut.1.cls m_Main_writeOut.1 m_Main_writeOut.1 ∈ am_tbl := (am_U0_ok _ (List.mem_of_getElem? (i := 34) rfl))
theorem lm_Ref_above : am_LM m_Ref_above := ⟨(am_U27_ok _ (List.mem_of_getElem? (i := 14) rfl)), (am_U2_ok _ (List.mem_of_getElem? (i := 24) rfl)), ⟨by decide +kernel, by decide +kernel⟩, by decide +kernel⟩
theorem np_Ref_above : am_np m_Ref_above 3 := by unfold am_np; decide +kernel
theorem im_Ref_above : Cond.instanceMethod m_Ref_above.1 ∈ am_tbl := (am_U27_ok _ (List.mem_of_getElem? (i := 12) rfl))
theorem se_Ref_above : Cond.selects m_Ref_above.1.cls m_Ref_above.1 m_Ref_above.1 ∈ am_tbl := (am_U27_ok _ (List.mem_of_getElem? (i := 13) rfl))
theorem lm_Ref_areTurns : am_LM m_Ref_areTurns := ⟨(am_U25_ok _ (List.mem_of_getElem? (i := 33) rfl)), (am_U2_ok _ (List.mem_of_getElem? (i := 24) rfl)), ⟨by decide +kernel, by decide +kernel⟩, by decide +kernel⟩
theorem np_Ref_areTurns : am_np m_Ref_areTurns 0 := by unfold am_np; decide +kernel
theorem im_Ref_areTurns : Cond.instanceMethod m_Ref_areTurns.1 ∈ am_tbl := (am_U25_ok _ (List.mem_of_getElem? (i := 32) rfl))
theorem se_Ref_areTurns : Cond.selects m_Ref_areTurns.1.cls m_Ref_areTurns.1 m_Ref_areTurns.1 ∈ am_tbl := (am_U1_ok _ (List.mem_of_getElem? (i := 16) rfl))
theorem lm_Ref_arrive : am_LM m_Ref_arrive := ⟨(am_U29_ok _ (List.mem_of_getElem? (i := 29) rfl)), (am_U2_ok _ (List.mem_of_getElem? (i := 24) rfl)), ⟨by decide +kernel, by decide +kernel⟩, by decide +kernel⟩
theorem np_Ref_arrive : am_np m_Ref_arrive 3 := by unfold am_np; decide +kernel
theorem im_Ref_arrive : Cond.instanceMethod m_Ref_arrive.1 ∈ am_tbl := (am_U29_ok _ (List.mem_of_getElem? (i := 27) rfl))
theorem se_Ref_arrive : Cond.selects m_Ref_arrive.1.cls m_Ref_arrive.1 m_Ref_arrive.1 ∈ am_tbl := (am_U29_ok _ (List.mem_of_getElem? (i := 28) rfl))
theorem lm_Ref_begins : am_LM m_Ref_begins := ⟨(am_U24_ok _ (List.mem_of_getElem? (i := 4) rfl)), (am_U2_ok _ (List.mem_of_getElem? (i := 24) rfl)), ⟨by decide +kernel, by decide +kernel⟩, by decide +kernel⟩
theorem np_Ref_begins : am_np m_Ref_begins 0 := by unfold am_np; decide +kernel
theorem im_Ref_begins : Cond.instanceMethod m_Ref_begins.1 ∈ am_tbl := (am_U24_ok _ (List.mem_of_getElem? (i := 3) rfl))
theorem se_Ref_begins : Cond.selects m_Ref_begins.1.cls m_Ref_begins.1 m_Ref_begins.1 ∈ am_tbl := (am_U0_ok _ (List.mem_of_getElem? (i := 37) rfl))
theorem lm_Ref_canWait : am_LM m_Ref_canWait := ⟨(am_U30_ok _ (List.mem_of_getElem? (i := 4) rfl)), (am_U2_ok _ (List.mem_of_getElem? (i := 24) rfl)), ⟨by decide +kernel, by decide +kernel⟩, by decide +kernel⟩
theorem np_Ref_canWait : am_np m_Ref_canWait 4 := by unfold am_np; decide +kernel
theorem im_Ref_canWait : Cond.instanceMethod m_Ref_canWait.1 ∈ am_tbl := (am_U30_ok _ (List.mem_of_getElem? (i := 3) rfl))
theorem se_Ref_canWait : Cond.selects m_Ref_canWait.1.cls m_Ref_canWait.1 m_Ref_canWait.1 ∈ am_tbl := (am_U2_ok _ (List.mem_of_getElem? (i := 6) rfl))
theorem lm_Ref_comeBack : am_LM m_Ref_comeBack := ⟨(am_U30_ok _ (List.mem_of_getElem? (i := 22) rfl)), (am_U2_ok _ (List.mem_of_getElem? (i := 24) rfl)), ⟨by decide +kernel, by decide +kernel⟩, by decide +kernel⟩
theorem np_Ref_comeBack : am_np m_Ref_comeBack 3 := by unfold am_np; decide +kernel
theorem im_Ref_comeBack : Cond.instanceMethod m_Ref_comeBack.1 ∈ am_tbl := (am_U30_ok _ (List.mem_of_getElem? (i := 21) rfl))
theorem se_Ref_comeBack : Cond.selects m_Ref_comeBack.1.cls m_Ref_comeBack.1 m_Ref_comeBack.1 ∈ am_tbl := (am_U2_ok _ (List.mem_of_getElem? (i := 8) rfl))
theorem lm_Ref_count : am_LM m_Ref_count := ⟨(am_U26_ok _ (List.mem_of_getElem? (i := 23) rfl)), (am_U2_ok _ (List.mem_of_getElem? (i := 24) rfl)), ⟨by decide +kernel, by decide +kernel⟩, by decide +kernel⟩
theorem np_Ref_count : am_np m_Ref_count 1 := by unfold am_np; decide +kernel
theorem im_Ref_count : Cond.instanceMethod m_Ref_count.1 ∈ am_tbl := (am_U26_ok _ (List.mem_of_getElem? (i := 21) rfl))
theorem se_Ref_count : Cond.selects m_Ref_count.1.cls m_Ref_count.1 m_Ref_count.1 ∈ am_tbl := (am_U26_ok _ (List.mem_of_getElem? (i := 22) rfl))
theorem lm_Ref_ebb : am_LM m_Ref_ebb := ⟨(am_U27_ok _ (List.mem_of_getElem? (i := 29) rfl)), (am_U2_ok _ (List.mem_of_getElem? (i := 24) rfl)), ⟨by decide +kernel, by decide +kernel⟩, by decide +kernel⟩
theorem np_Ref_ebb : am_np m_Ref_ebb 3 := by unfold am_np; decide +kernel
theorem im_Ref_ebb : Cond.instanceMethod m_Ref_ebb.1 ∈ am_tbl := (am_U27_ok _ (List.mem_of_getElem? (i := 27) rfl))
theorem se_Ref_ebb : Cond.selects m_Ref_ebb.1.cls m_Ref_ebb.1 m_Ref_ebb.1 ∈ am_tbl := (am_U27_ok _ (List.mem_of_getElem? (i := 28) rfl))
theorem lm_Ref_end : am_LM m_Ref_end := ⟨(am_U23_ok _ (List.mem_of_getElem? (i := 34) rfl)), (am_U2_ok _ (List.mem_of_getElem? (i := 24) rfl)), ⟨by decide +kernel, by decide +kernel⟩, by decide +kernel⟩
theorem np_Ref_end : am_np m_Ref_end 1 := by unfold am_np; decide +kernel
theorem im_Ref_end : Cond.instanceMethod m_Ref_end.1 ∈ am_tbl := (am_U23_ok _ (List.mem_of_getElem? (i := 32) rfl))
theorem se_Ref_end : Cond.selects m_Ref_end.1.cls m_Ref_end.1 m_Ref_end.1 ∈ am_tbl := (am_U23_ok _ (List.mem_of_getElem? (i := 33) rfl))
theorem lm_Ref_ends : am_LM m_Ref_ends := ⟨(am_U24_ok _ (List.mem_of_getElem? (i := 36) rfl)), (am_U2_ok _ (List.mem_of_getElem? (i := 24) rfl)), ⟨by decide +kernel, by decide +kernel⟩, by decide +kernel⟩
theorem np_Ref_ends : am_np m_Ref_ends 0 := by unfold am_np; decide +kernel
theorem im_Ref_ends : Cond.instanceMethod m_Ref_ends.1 ∈ am_tbl := (am_U24_ok _ (List.mem_of_getElem? (i := 35) rfl))
theorem se_Ref_ends : Cond.selects m_Ref_ends.1.cls m_Ref_ends.1 m_Ref_ends.1 ∈ am_tbl := (am_U1_ok _ (List.mem_of_getElem? (i := 7) rfl))
theorem lm_Ref_fault : am_LM m_Ref_fault := ⟨(am_U26_ok _ (List.mem_of_getElem? (i := 19) rfl)), (am_U2_ok _ (List.mem_of_getElem? (i := 24) rfl)), ⟨by decide +kernel, by decide +kernel⟩, by decide +kernel⟩
theorem np_Ref_fault : am_np m_Ref_fault 0 := by unfold am_np; decide +kernel
theorem im_Ref_fault : Cond.instanceMethod m_Ref_fault.1 ∈ am_tbl := (am_U26_ok _ (List.mem_of_getElem? (i := 17) rfl))
theorem se_Ref_fault : Cond.selects m_Ref_fault.1.cls m_Ref_fault.1 m_Ref_fault.1 ∈ am_tbl := (am_U26_ok _ (List.mem_of_getElem? (i := 18) rfl))
theorem lm_Ref_faultOfTurns : am_LM m_Ref_faultOfTurns := ⟨(am_U24_ok _ (List.mem_of_getElem? (i := 39) rfl)), (am_U2_ok _ (List.mem_of_getElem? (i := 24) rfl)), ⟨by decide +kernel, by decide +kernel⟩, by decide +kernel⟩
theorem np_Ref_faultOfTurns : am_np m_Ref_faultOfTurns 1 := by unfold am_np; decide +kernel
theorem im_Ref_faultOfTurns : Cond.instanceMethod m_Ref_faultOfTurns.1 ∈ am_tbl := (am_U24_ok _ (List.mem_of_getElem? (i := 38) rfl))
theorem se_Ref_faultOfTurns : Cond.selects m_Ref_faultOfTurns.1.cls m_Ref_faultOfTurns.1 m_Ref_faultOfTurns.1 ∈ am_tbl := (am_U1_ok _ (List.mem_of_getElem? (i := 8) rfl))
theorem lm_Ref_faulty : am_LM m_Ref_faulty := ⟨(am_U25_ok _ (List.mem_of_getElem? (i := 3) rfl)), (am_U2_ok _ (List.mem_of_getElem? (i := 24) rfl)), ⟨by decide +kernel, by decide +kernel⟩, by decide +kernel⟩
theorem np_Ref_faulty : am_np m_Ref_faulty 1 := by unfold am_np; decide +kernel
theorem im_Ref_faulty : Cond.instanceMethod m_Ref_faulty.1 ∈ am_tbl := (am_U25_ok _ (List.mem_of_getElem? (i := 2) rfl))
theorem se_Ref_faulty : Cond.selects m_Ref_faulty.1.cls m_Ref_faulty.1 m_Ref_faulty.1 ∈ am_tbl := (am_U1_ok _ (List.mem_of_getElem? (i := 9) rfl))
theorem lm_Ref_feed : am_LM m_Ref_feed := ⟨(am_U23_ok _ (List.mem_of_getElem? (i := 24) rfl)), (am_U2_ok _ (List.mem_of_getElem? (i := 24) rfl)), ⟨by decide +kernel, by decide +kernel⟩, by decide +kernel⟩
theorem np_Ref_feed : am_np m_Ref_feed 5 := by unfold am_np; decide +kernel
theorem im_Ref_feed : Cond.instanceMethod m_Ref_feed.1 ∈ am_tbl := (am_U23_ok _ (List.mem_of_getElem? (i := 22) rfl))
theorem se_Ref_feed : Cond.selects m_Ref_feed.1.cls m_Ref_feed.1 m_Ref_feed.1 ∈ am_tbl := (am_U23_ok _ (List.mem_of_getElem? (i := 23) rfl))
theorem lm_Ref_findGood2 : am_LM m_Ref_findGood2 := ⟨(am_U27_ok _ (List.mem_of_getElem? (i := 39) rfl)), (am_U2_ok _ (List.mem_of_getElem? (i := 24) rfl)), ⟨by decide +kernel, by decide +kernel⟩, by decide +kernel⟩
theorem np_Ref_findGood2 : am_np m_Ref_findGood2 2 := by unfold am_np; decide +kernel
theorem im_Ref_findGood2 : Cond.instanceMethod m_Ref_findGood2.1 ∈ am_tbl := (am_U27_ok _ (List.mem_of_getElem? (i := 38) rfl))
theorem se_Ref_findGood2 : Cond.selects m_Ref_findGood2.1.cls m_Ref_findGood2.1 m_Ref_findGood2.1 ∈ am_tbl := (am_U1_ok _ (List.mem_of_getElem? (i := 27) rfl))
theorem lm_Ref_findGood3 : am_LM m_Ref_findGood3 := ⟨(am_U28_ok _ (List.mem_of_getElem? (i := 2) rfl)), (am_U2_ok _ (List.mem_of_getElem? (i := 24) rfl)), ⟨by decide +kernel, by decide +kernel⟩, by decide +kernel⟩
theorem np_Ref_findGood3 : am_np m_Ref_findGood3 3 := by unfold am_np; decide +kernel
theorem im_Ref_findGood3 : Cond.instanceMethod m_Ref_findGood3.1 ∈ am_tbl := (am_U28_ok _ (List.mem_of_getElem? (i := 1) rfl))
theorem se_Ref_findGood3 : Cond.selects m_Ref_findGood3.1.cls m_Ref_findGood3.1 m_Ref_findGood3.1 ∈ am_tbl := (am_U1_ok _ (List.mem_of_getElem? (i := 28) rfl))
theorem lm_Ref_findWindow : am_LM m_Ref_findWindow := ⟨(am_U28_ok _ (List.mem_of_getElem? (i := 14) rfl)), (am_U2_ok _ (List.mem_of_getElem? (i := 24) rfl)), ⟨by decide +kernel, by decide +kernel⟩, by decide +kernel⟩
theorem np_Ref_findWindow : am_np m_Ref_findWindow 1 := by unfold am_np; decide +kernel
theorem im_Ref_findWindow : Cond.instanceMethod m_Ref_findWindow.1 ∈ am_tbl := (am_U28_ok _ (List.mem_of_getElem? (i := 13) rfl))
theorem se_Ref_findWindow : Cond.selects m_Ref_findWindow.1.cls m_Ref_findWindow.1 m_Ref_findWindow.1 ∈ am_tbl := (am_U1_ok _ (List.mem_of_getElem? (i := 32) rfl))
theorem lm_Ref_fine : am_LM m_Ref_fine := ⟨(am_U23_ok _ (List.mem_of_getElem? (i := 30) rfl)), (am_U2_ok _ (List.mem_of_getElem? (i := 24) rfl)), ⟨by decide +kernel, by decide +kernel⟩, by decide +kernel⟩
theorem np_Ref_fine : am_np m_Ref_fine 1 := by unfold am_np; decide +kernel
theorem im_Ref_fine : Cond.instanceMethod m_Ref_fine.1 ∈ am_tbl := (am_U23_ok _ (List.mem_of_getElem? (i := 29) rfl))
theorem se_Ref_fine : Cond.selects m_Ref_fine.1.cls m_Ref_fine.1 m_Ref_fine.1 ∈ am_tbl := (am_U0_ok _ (List.mem_of_getElem? (i := 36) rfl))
theorem lm_Ref_first : am_LM m_Ref_first := ⟨(am_U27_ok _ (List.mem_of_getElem? (i := 24) rfl)), (am_U2_ok _ (List.mem_of_getElem? (i := 24) rfl)), ⟨by decide +kernel, by decide +kernel⟩, by decide +kernel⟩
theorem np_Ref_first : am_np m_Ref_first 4 := by unfold am_np; decide +kernel
theorem im_Ref_first : Cond.instanceMethod m_Ref_first.1 ∈ am_tbl := (am_U27_ok _ (List.mem_of_getElem? (i := 23) rfl))
theorem se_Ref_first : Cond.selects m_Ref_first.1.cls m_Ref_first.1 m_Ref_first.1 ∈ am_tbl := (am_U1_ok _ (List.mem_of_getElem? (i := 25) rfl))
theorem lm_Ref_firstOf : am_LM m_Ref_firstOf := ⟨(am_U27_ok _ (List.mem_of_getElem? (i := 1) rfl)), (am_U2_ok _ (List.mem_of_getElem? (i := 24) rfl)), ⟨by decide +kernel, by decide +kernel⟩, by decide +kernel⟩
theorem np_Ref_firstOf : am_np m_Ref_firstOf 1 := by unfold am_np; decide +kernel
theorem im_Ref_firstOf : Cond.instanceMethod m_Ref_firstOf.1 ∈ am_tbl := (am_U27_ok _ (List.mem_of_getElem? (i := 0) rfl))
theorem se_Ref_firstOf : Cond.selects m_Ref_firstOf.1.cls m_Ref_firstOf.1 m_Ref_firstOf.1 ∈ am_tbl := (am_U1_ok _ (List.mem_of_getElem? (i := 20) rfl))
theorem lm_Ref_goOn : am_LM m_Ref_goOn := ⟨(am_U30_ok _ (List.mem_of_getElem? (i := 1) rfl)), (am_U2_ok _ (List.mem_of_getElem? (i := 24) rfl)), ⟨by decide +kernel, by decide +kernel⟩, by decide +kernel⟩
theorem np_Ref_goOn : am_np m_Ref_goOn 4 := by unfold am_np; decide +kernel
theorem im_Ref_goOn : Cond.instanceMethod m_Ref_goOn.1 ∈ am_tbl := (am_U30_ok _ (List.mem_of_getElem? (i := 0) rfl))
theorem se_Ref_goOn : Cond.selects m_Ref_goOn.1.cls m_Ref_goOn.1 m_Ref_goOn.1 ∈ am_tbl := (am_U2_ok _ (List.mem_of_getElem? (i := 5) rfl))
theorem lm_Ref_goes : am_LM m_Ref_goes := ⟨(am_U24_ok _ (List.mem_of_getElem? (i := 33) rfl)), (am_U2_ok _ (List.mem_of_getElem? (i := 24) rfl)), ⟨by decide +kernel, by decide +kernel⟩, by decide +kernel⟩
theorem np_Ref_goes : am_np m_Ref_goes 1 := by unfold am_np; decide +kernel
theorem im_Ref_goes : Cond.instanceMethod m_Ref_goes.1 ∈ am_tbl := (am_U24_ok _ (List.mem_of_getElem? (i := 32) rfl))
theorem se_Ref_goes : Cond.selects m_Ref_goes.1.cls m_Ref_goes.1 m_Ref_goes.1 ∈ am_tbl := (am_U1_ok _ (List.mem_of_getElem? (i := 6) rfl))
theorem lm_Ref_good : am_LM m_Ref_good := ⟨(am_U28_ok _ (List.mem_of_getElem? (i := 26) rfl)), (am_U2_ok _ (List.mem_of_getElem? (i := 24) rfl)), ⟨by decide +kernel, by decide +kernel⟩, by decide +kernel⟩
theorem np_Ref_good : am_np m_Ref_good 3 := by unfold am_np; decide +kernel
theorem im_Ref_good : Cond.instanceMethod m_Ref_good.1 ∈ am_tbl := (am_U28_ok _ (List.mem_of_getElem? (i := 24) rfl))
theorem se_Ref_good : Cond.selects m_Ref_good.1.cls m_Ref_good.1 m_Ref_good.1 ∈ am_tbl := (am_U28_ok _ (List.mem_of_getElem? (i := 25) rfl))
theorem lm_Ref_heightAt : am_LM m_Ref_heightAt := ⟨(am_U27_ok _ (List.mem_of_getElem? (i := 7) rfl)), (am_U2_ok _ (List.mem_of_getElem? (i := 24) rfl)), ⟨by decide +kernel, by decide +kernel⟩, by decide +kernel⟩
theorem np_Ref_heightAt : am_np m_Ref_heightAt 2 := by unfold am_np; decide +kernel
theorem im_Ref_heightAt : Cond.instanceMethod m_Ref_heightAt.1 ∈ am_tbl := (am_U27_ok _ (List.mem_of_getElem? (i := 6) rfl))
theorem se_Ref_heightAt : Cond.selects m_Ref_heightAt.1.cls m_Ref_heightAt.1 m_Ref_heightAt.1 ∈ am_tbl := (am_U1_ok _ (List.mem_of_getElem? (i := 22) rfl))
theorem lm_Ref_hour : am_LM m_Ref_hour := ⟨(am_U28_ok _ (List.mem_of_getElem? (i := 18) rfl)), (am_U2_ok _ (List.mem_of_getElem? (i := 24) rfl)), ⟨by decide +kernel, by decide +kernel⟩, by decide +kernel⟩
theorem np_Ref_hour : am_np m_Ref_hour 4 := by unfold am_np; decide +kernel
theorem im_Ref_hour : Cond.instanceMethod m_Ref_hour.1 ∈ am_tbl := (am_U28_ok _ (List.mem_of_getElem? (i := 16) rfl))
theorem se_Ref_hour : Cond.selects m_Ref_hour.1.cls m_Ref_hour.1 m_Ref_hour.1 ∈ am_tbl := (am_U28_ok _ (List.mem_of_getElem? (i := 17) rfl))
theorem lm_Ref_hours : am_LM m_Ref_hours := ⟨(am_U27_ok _ (List.mem_of_getElem? (i := 33) rfl)), (am_U2_ok _ (List.mem_of_getElem? (i := 24) rfl)), ⟨by decide +kernel, by decide +kernel⟩, by decide +kernel⟩
theorem np_Ref_hours : am_np m_Ref_hours 2 := by unfold am_np; decide +kernel
theorem im_Ref_hours : Cond.instanceMethod m_Ref_hours.1 ∈ am_tbl := (am_U27_ok _ (List.mem_of_getElem? (i := 31) rfl))
theorem se_Ref_hours : Cond.selects m_Ref_hours.1.cls m_Ref_hours.1 m_Ref_hours.1 ∈ am_tbl := (am_U27_ok _ (List.mem_of_getElem? (i := 32) rfl))
theorem lm_Ref_init : am_LM m_Ref_init := ⟨(am_U23_ok _ (List.mem_of_getElem? (i := 19) rfl)), (am_U2_ok _ (List.mem_of_getElem? (i := 24) rfl)), ⟨by decide +kernel, by decide +kernel⟩, by decide +kernel⟩
theorem np_Ref_init : am_np m_Ref_init 0 := by unfold am_np; decide +kernel
theorem im_Ref_init : Cond.instanceMethod m_Ref_init.1 ∈ am_tbl := (am_U23_ok _ (List.mem_of_getElem? (i := 18) rfl))
theorem lm_Ref_isAt : am_LM m_Ref_isAt := ⟨(am_U27_ok _ (List.mem_of_getElem? (i := 17) rfl)), (am_U2_ok _ (List.mem_of_getElem? (i := 24) rfl)), ⟨by decide +kernel, by decide +kernel⟩, by decide +kernel⟩
theorem np_Ref_isAt : am_np m_Ref_isAt 3 := by unfold am_np; decide +kernel
theorem im_Ref_isAt : Cond.instanceMethod m_Ref_isAt.1 ∈ am_tbl := (am_U27_ok _ (List.mem_of_getElem? (i := 16) rfl))
theorem se_Ref_isAt : Cond.selects m_Ref_isAt.1.cls m_Ref_isAt.1 m_Ref_isAt.1 ∈ am_tbl := (am_U1_ok _ (List.mem_of_getElem? (i := 24) rfl))
theorem lm_Ref_isIn : am_LM m_Ref_isIn := ⟨(am_U23_ok _ (List.mem_of_getElem? (i := 37) rfl)), (am_U2_ok _ (List.mem_of_getElem? (i := 24) rfl)), ⟨by decide +kernel, by decide +kernel⟩, by decide +kernel⟩
theorem np_Ref_isIn : am_np m_Ref_isIn 3 := by unfold am_np; decide +kernel
theorem st_Ref_isIn : Cond.static m_Ref_isIn.1 ∈ am_tbl := (am_U23_ok _ (List.mem_of_getElem? (i := 36) rfl))
theorem lm_Ref_isMinute : am_LM m_Ref_isMinute := ⟨(am_U26_ok _ (List.mem_of_getElem? (i := 38) rfl)), (am_U2_ok _ (List.mem_of_getElem? (i := 24) rfl)), ⟨by decide +kernel, by decide +kernel⟩, by decide +kernel⟩
theorem np_Ref_isMinute : am_np m_Ref_isMinute 2 := by unfold am_np; decide +kernel
theorem im_Ref_isMinute : Cond.instanceMethod m_Ref_isMinute.1 ∈ am_tbl := (am_U26_ok _ (List.mem_of_getElem? (i := 37) rfl))
theorem se_Ref_isMinute : Cond.selects m_Ref_isMinute.1.cls m_Ref_isMinute.1 m_Ref_isMinute.1 ∈ am_tbl := (am_U1_ok _ (List.mem_of_getElem? (i := 19) rfl))
theorem lm_Ref_isNearHigh : am_LM m_Ref_isNearHigh := ⟨(am_U28_ok _ (List.mem_of_getElem? (i := 5) rfl)), (am_U2_ok _ (List.mem_of_getElem? (i := 24) rfl)), ⟨by decide +kernel, by decide +kernel⟩, by decide +kernel⟩
theorem np_Ref_isNearHigh : am_np m_Ref_isNearHigh 4 := by unfold am_np; decide +kernel
theorem im_Ref_isNearHigh : Cond.instanceMethod m_Ref_isNearHigh.1 ∈ am_tbl := (am_U28_ok _ (List.mem_of_getElem? (i := 4) rfl))
theorem se_Ref_isNearHigh : Cond.selects m_Ref_isNearHigh.1.cls m_Ref_isNearHigh.1 m_Ref_isNearHigh.1 ∈ am_tbl := (am_U1_ok _ (List.mem_of_getElem? (i := 29) rfl))
theorem lm_Ref_isPort : am_LM m_Ref_isPort := ⟨(am_U25_ok _ (List.mem_of_getElem? (i := 13) rfl)), (am_U2_ok _ (List.mem_of_getElem? (i := 24) rfl)), ⟨by decide +kernel, by decide +kernel⟩, by decide +kernel⟩
theorem np_Ref_isPort : am_np m_Ref_isPort 1 := by unfold am_np; decide +kernel
theorem im_Ref_isPort : Cond.instanceMethod m_Ref_isPort.1 ∈ am_tbl := (am_U25_ok _ (List.mem_of_getElem? (i := 12) rfl))
theorem se_Ref_isPort : Cond.selects m_Ref_isPort.1.cls m_Ref_isPort.1 m_Ref_isPort.1 ∈ am_tbl := (am_U1_ok _ (List.mem_of_getElem? (i := 11) rfl))
theorem lm_Ref_isRightShift : am_LM m_Ref_isRightShift := ⟨(am_U25_ok _ (List.mem_of_getElem? (i := 29) rfl)), (am_U2_ok _ (List.mem_of_getElem? (i := 24) rfl)), ⟨by decide +kernel, by decide +kernel⟩, by decide +kernel⟩
theorem np_Ref_isRightShift : am_np m_Ref_isRightShift 1 := by unfold am_np; decide +kernel
theorem im_Ref_isRightShift : Cond.instanceMethod m_Ref_isRightShift.1 ∈ am_tbl := (am_U25_ok _ (List.mem_of_getElem? (i := 28) rfl))
theorem se_Ref_isRightShift : Cond.selects m_Ref_isRightShift.1.cls m_Ref_isRightShift.1 m_Ref_isRightShift.1 ∈ am_tbl := (am_U1_ok _ (List.mem_of_getElem? (i := 15) rfl))
theorem lm_Ref_isRoute : am_LM m_Ref_isRoute := ⟨(am_U29_ok _ (List.mem_of_getElem? (i := 18) rfl)), (am_U2_ok _ (List.mem_of_getElem? (i := 24) rfl)), ⟨by decide +kernel, by decide +kernel⟩, by decide +kernel⟩
theorem np_Ref_isRoute : am_np m_Ref_isRoute 1 := by unfold am_np; decide +kernel
theorem im_Ref_isRoute : Cond.instanceMethod m_Ref_isRoute.1 ∈ am_tbl := (am_U29_ok _ (List.mem_of_getElem? (i := 17) rfl))
theorem se_Ref_isRoute : Cond.selects m_Ref_isRoute.1.cls m_Ref_isRoute.1 m_Ref_isRoute.1 ∈ am_tbl := (am_U2_ok _ (List.mem_of_getElem? (i := 0) rfl))
theorem lm_Ref_isShip : am_LM m_Ref_isShip := ⟨(am_U27_ok _ (List.mem_of_getElem? (i := 36) rfl)), (am_U2_ok _ (List.mem_of_getElem? (i := 24) rfl)), ⟨by decide +kernel, by decide +kernel⟩, by decide +kernel⟩
theorem np_Ref_isShip : am_np m_Ref_isShip 1 := by unfold am_np; decide +kernel
theorem im_Ref_isShip : Cond.instanceMethod m_Ref_isShip.1 ∈ am_tbl := (am_U27_ok _ (List.mem_of_getElem? (i := 35) rfl))
theorem se_Ref_isShip : Cond.selects m_Ref_isShip.1.cls m_Ref_isShip.1 m_Ref_isShip.1 ∈ am_tbl := (am_U1_ok _ (List.mem_of_getElem? (i := 26) rfl))
theorem lm_Ref_isSill : am_LM m_Ref_isSill := ⟨(am_U26_ok _ (List.mem_of_getElem? (i := 11) rfl)), (am_U2_ok _ (List.mem_of_getElem? (i := 24) rfl)), ⟨by decide +kernel, by decide +kernel⟩, by decide +kernel⟩
theorem np_Ref_isSill : am_np m_Ref_isSill 1 := by unfold am_np; decide +kernel
theorem im_Ref_isSill : Cond.instanceMethod m_Ref_isSill.1 ∈ am_tbl := (am_U26_ok _ (List.mem_of_getElem? (i := 10) rfl))
theorem se_Ref_isSill : Cond.selects m_Ref_isSill.1.cls m_Ref_isSill.1 m_Ref_isSill.1 ∈ am_tbl := (am_U1_ok _ (List.mem_of_getElem? (i := 18) rfl))
theorem lm_Ref_isSpelled : am_LM m_Ref_isSpelled := ⟨(am_U24_ok _ (List.mem_of_getElem? (i := 13) rfl)), (am_U2_ok _ (List.mem_of_getElem? (i := 24) rfl)), ⟨by decide +kernel, by decide +kernel⟩, by decide +kernel⟩
theorem np_Ref_isSpelled : am_np m_Ref_isSpelled 1 := by unfold am_np; decide +kernel
theorem im_Ref_isSpelled : Cond.instanceMethod m_Ref_isSpelled.1 ∈ am_tbl := (am_U24_ok _ (List.mem_of_getElem? (i := 12) rfl))
theorem se_Ref_isSpelled : Cond.selects m_Ref_isSpelled.1.cls m_Ref_isSpelled.1 m_Ref_isSpelled.1 ∈ am_tbl := (am_U1_ok _ (List.mem_of_getElem? (i := 0) rfl))
theorem lm_Ref_isUnder : am_LM m_Ref_isUnder := ⟨(am_U28_ok _ (List.mem_of_getElem? (i := 8) rfl)), (am_U2_ok _ (List.mem_of_getElem? (i := 24) rfl)), ⟨by decide +kernel, by decide +kernel⟩, by decide +kernel⟩
theorem np_Ref_isUnder : am_np m_Ref_isUnder 3 := by unfold am_np; decide +kernel
theorem im_Ref_isUnder : Cond.instanceMethod m_Ref_isUnder.1 ∈ am_tbl := (am_U28_ok _ (List.mem_of_getElem? (i := 7) rfl))
theorem se_Ref_isUnder : Cond.selects m_Ref_isUnder.1.cls m_Ref_isUnder.1 m_Ref_isUnder.1 ∈ am_tbl := (am_U1_ok _ (List.mem_of_getElem? (i := 30) rfl))
theorem lm_Ref_lastOf : am_LM m_Ref_lastOf := ⟨(am_U27_ok _ (List.mem_of_getElem? (i := 4) rfl)), (am_U2_ok _ (List.mem_of_getElem? (i := 24) rfl)), ⟨by decide +kernel, by decide +kernel⟩, by decide +kernel⟩
theorem np_Ref_lastOf : am_np m_Ref_lastOf 1 := by unfold am_np; decide +kernel
theorem im_Ref_lastOf : Cond.instanceMethod m_Ref_lastOf.1 ∈ am_tbl := (am_U27_ok _ (List.mem_of_getElem? (i := 3) rfl))
theorem se_Ref_lastOf : Cond.selects m_Ref_lastOf.1.cls m_Ref_lastOf.1 m_Ref_lastOf.1 ∈ am_tbl := (am_U1_ok _ (List.mem_of_getElem? (i := 21) rfl))
theorem lm_Ref_latest : am_LM m_Ref_latest := ⟨(am_U30_ok _ (List.mem_of_getElem? (i := 19) rfl)), (am_U2_ok _ (List.mem_of_getElem? (i := 24) rfl)), ⟨by decide +kernel, by decide +kernel⟩, by decide +kernel⟩
theorem np_Ref_latest : am_np m_Ref_latest 3 := by unfold am_np; decide +kernel
theorem im_Ref_latest : Cond.instanceMethod m_Ref_latest.1 ∈ am_tbl := (am_U30_ok _ (List.mem_of_getElem? (i := 18) rfl))
theorem se_Ref_latest : Cond.selects m_Ref_latest.1.cls m_Ref_latest.1 m_Ref_latest.1 ∈ am_tbl := (am_U2_ok _ (List.mem_of_getElem? (i := 7) rfl))
theorem lm_Ref_leg : am_LM m_Ref_leg := ⟨(am_U29_ok _ (List.mem_of_getElem? (i := 22) rfl)), (am_U2_ok _ (List.mem_of_getElem? (i := 24) rfl)), ⟨by decide +kernel, by decide +kernel⟩, by decide +kernel⟩
theorem np_Ref_leg : am_np m_Ref_leg 3 := by unfold am_np; decide +kernel
theorem im_Ref_leg : Cond.instanceMethod m_Ref_leg.1 ∈ am_tbl := (am_U29_ok _ (List.mem_of_getElem? (i := 20) rfl))
theorem se_Ref_leg : Cond.selects m_Ref_leg.1.cls m_Ref_leg.1 m_Ref_leg.1 ∈ am_tbl := (am_U29_ok _ (List.mem_of_getElem? (i := 21) rfl))
theorem lm_Ref_legOf : am_LM m_Ref_legOf := ⟨(am_U29_ok _ (List.mem_of_getElem? (i := 25) rfl)), (am_U2_ok _ (List.mem_of_getElem? (i := 24) rfl)), ⟨by decide +kernel, by decide +kernel⟩, by decide +kernel⟩
theorem np_Ref_legOf : am_np m_Ref_legOf 3 := by unfold am_np; decide +kernel
theorem im_Ref_legOf : Cond.instanceMethod m_Ref_legOf.1 ∈ am_tbl := (am_U29_ok _ (List.mem_of_getElem? (i := 24) rfl))
theorem se_Ref_legOf : Cond.selects m_Ref_legOf.1.cls m_Ref_legOf.1 m_Ref_legOf.1 ∈ am_tbl := (am_U2_ok _ (List.mem_of_getElem? (i := 1) rfl))
theorem lm_Ref_letter : am_LM m_Ref_letter := ⟨(am_U30_ok _ (List.mem_of_getElem? (i := 26) rfl)), (am_U2_ok _ (List.mem_of_getElem? (i := 24) rfl)), ⟨by decide +kernel, by decide +kernel⟩, by decide +kernel⟩
theorem np_Ref_letter : am_np m_Ref_letter 3 := by unfold am_np; decide +kernel
theorem im_Ref_letter : Cond.instanceMethod m_Ref_letter.1 ∈ am_tbl := (am_U30_ok _ (List.mem_of_getElem? (i := 24) rfl))
theorem se_Ref_letter : Cond.selects m_Ref_letter.1.cls m_Ref_letter.1 m_Ref_letter.1 ∈ am_tbl := (am_U30_ok _ (List.mem_of_getElem? (i := 25) rfl))
theorem lm_Ref_longer : am_LM m_Ref_longer := ⟨(am_U25_ok _ (List.mem_of_getElem? (i := 10) rfl)), (am_U2_ok _ (List.mem_of_getElem? (i := 24) rfl)), ⟨by decide +kernel, by decide +kernel⟩, by decide +kernel⟩
theorem np_Ref_longer : am_np m_Ref_longer 1 := by unfold am_np; decide +kernel
theorem im_Ref_longer : Cond.instanceMethod m_Ref_longer.1 ∈ am_tbl := (am_U25_ok _ (List.mem_of_getElem? (i := 8) rfl))
theorem se_Ref_longer : Cond.selects m_Ref_longer.1.cls m_Ref_longer.1 m_Ref_longer.1 ∈ am_tbl := (am_U25_ok _ (List.mem_of_getElem? (i := 9) rfl))
theorem lm_Ref_made : am_LM m_Ref_made := ⟨(am_U25_ok _ (List.mem_of_getElem? (i := 6) rfl)), (am_U2_ok _ (List.mem_of_getElem? (i := 24) rfl)), ⟨by decide +kernel, by decide +kernel⟩, by decide +kernel⟩
theorem np_Ref_made : am_np m_Ref_made 1 := by unfold am_np; decide +kernel
theorem im_Ref_made : Cond.instanceMethod m_Ref_made.1 ∈ am_tbl := (am_U25_ok _ (List.mem_of_getElem? (i := 5) rfl))
theorem se_Ref_made : Cond.selects m_Ref_made.1.cls m_Ref_made.1 m_Ref_made.1 ∈ am_tbl := (am_U1_ok _ (List.mem_of_getElem? (i := 10) rfl))
theorem lm_Ref_minutes : am_LM m_Ref_minutes := ⟨(am_U28_ok _ (List.mem_of_getElem? (i := 22) rfl)), (am_U2_ok _ (List.mem_of_getElem? (i := 24) rfl)), ⟨by decide +kernel, by decide +kernel⟩, by decide +kernel⟩
theorem np_Ref_minutes : am_np m_Ref_minutes 2 := by unfold am_np; decide +kernel
theorem im_Ref_minutes : Cond.instanceMethod m_Ref_minutes.1 ∈ am_tbl := (am_U28_ok _ (List.mem_of_getElem? (i := 20) rfl))
theorem se_Ref_minutes : Cond.selects m_Ref_minutes.1.cls m_Ref_minutes.1 m_Ref_minutes.1 ∈ am_tbl := (am_U28_ok _ (List.mem_of_getElem? (i := 21) rfl))
theorem lm_Ref_must : am_LM m_Ref_must := ⟨(am_U24_ok _ (List.mem_of_getElem? (i := 24) rfl)), (am_U2_ok _ (List.mem_of_getElem? (i := 24) rfl)), ⟨by decide +kernel, by decide +kernel⟩, by decide +kernel⟩
theorem np_Ref_must : am_np m_Ref_must 1 := by unfold am_np; decide +kernel
theorem im_Ref_must : Cond.instanceMethod m_Ref_must.1 ∈ am_tbl := (am_U24_ok _ (List.mem_of_getElem? (i := 23) rfl))
theorem se_Ref_must : Cond.selects m_Ref_must.1.cls m_Ref_must.1 m_Ref_must.1 ∈ am_tbl := (am_U1_ok _ (List.mem_of_getElem? (i := 3) rfl))
theorem lm_Ref_next : am_LM m_Ref_next := ⟨(am_U24_ok _ (List.mem_of_getElem? (i := 7) rfl)), (am_U2_ok _ (List.mem_of_getElem? (i := 24) rfl)), ⟨by decide +kernel, by decide +kernel⟩, by decide +kernel⟩
theorem np_Ref_next : am_np m_Ref_next 0 := by unfold am_np; decide +kernel
theorem im_Ref_next : Cond.instanceMethod m_Ref_next.1 ∈ am_tbl := (am_U24_ok _ (List.mem_of_getElem? (i := 6) rfl))
theorem se_Ref_next : Cond.selects m_Ref_next.1.cls m_Ref_next.1 m_Ref_next.1 ∈ am_tbl := (am_U0_ok _ (List.mem_of_getElem? (i := 38) rfl))
theorem lm_Ref_no : am_LM m_Ref_no := ⟨(am_U23_ok _ (List.mem_of_getElem? (i := 27) rfl)), (am_U2_ok _ (List.mem_of_getElem? (i := 24) rfl)), ⟨by decide +kernel, by decide +kernel⟩, by decide +kernel⟩
theorem np_Ref_no : am_np m_Ref_no 1 := by unfold am_np; decide +kernel
theorem im_Ref_no : Cond.instanceMethod m_Ref_no.1 ∈ am_tbl := (am_U23_ok _ (List.mem_of_getElem? (i := 26) rfl))
theorem se_Ref_no : Cond.selects m_Ref_no.1.cls m_Ref_no.1 m_Ref_no.1 ∈ am_tbl := (am_U0_ok _ (List.mem_of_getElem? (i := 35) rfl))
theorem lm_Ref_note : am_LM m_Ref_note := ⟨(am_U28_ok _ (List.mem_of_getElem? (i := 30) rfl)), (am_U2_ok _ (List.mem_of_getElem? (i := 24) rfl)), ⟨by decide +kernel, by decide +kernel⟩, by decide +kernel⟩
theorem np_Ref_note : am_np m_Ref_note 3 := by unfold am_np; decide +kernel
theorem im_Ref_note : Cond.instanceMethod m_Ref_note.1 ∈ am_tbl := (am_U28_ok _ (List.mem_of_getElem? (i := 28) rfl))
theorem se_Ref_note : Cond.selects m_Ref_note.1.cls m_Ref_note.1 m_Ref_note.1 ∈ am_tbl := (am_U28_ok _ (List.mem_of_getElem? (i := 29) rfl))
theorem lm_Ref_pass : am_LM m_Ref_pass := ⟨(am_U30_ok _ (List.mem_of_getElem? (i := 8) rfl)), (am_U2_ok _ (List.mem_of_getElem? (i := 24) rfl)), ⟨by decide +kernel, by decide +kernel⟩, by decide +kernel⟩
theorem np_Ref_pass : am_np m_Ref_pass 4 := by unfold am_np; decide +kernel
theorem im_Ref_pass : Cond.instanceMethod m_Ref_pass.1 ∈ am_tbl := (am_U30_ok _ (List.mem_of_getElem? (i := 6) rfl))
theorem se_Ref_pass : Cond.selects m_Ref_pass.1.cls m_Ref_pass.1 m_Ref_pass.1 ∈ am_tbl := (am_U30_ok _ (List.mem_of_getElem? (i := 7) rfl))
theorem lm_Ref_place : am_LM m_Ref_place := ⟨(am_U26_ok _ (List.mem_of_getElem? (i := 15) rfl)), (am_U2_ok _ (List.mem_of_getElem? (i := 24) rfl)), ⟨by decide +kernel, by decide +kernel⟩, by decide +kernel⟩
theorem np_Ref_place : am_np m_Ref_place 0 := by unfold am_np; decide +kernel
theorem im_Ref_place : Cond.instanceMethod m_Ref_place.1 ∈ am_tbl := (am_U26_ok _ (List.mem_of_getElem? (i := 13) rfl))
theorem se_Ref_place : Cond.selects m_Ref_place.1.cls m_Ref_place.1 m_Ref_place.1 ∈ am_tbl := (am_U26_ok _ (List.mem_of_getElem? (i := 14) rfl))
theorem lm_Ref_plan : am_LM m_Ref_plan := ⟨(am_U29_ok _ (List.mem_of_getElem? (i := 35) rfl)), (am_U2_ok _ (List.mem_of_getElem? (i := 24) rfl)), ⟨by decide +kernel, by decide +kernel⟩, by decide +kernel⟩
theorem np_Ref_plan : am_np m_Ref_plan 3 := by unfold am_np; decide +kernel
theorem im_Ref_plan : Cond.instanceMethod m_Ref_plan.1 ∈ am_tbl := (am_U29_ok _ (List.mem_of_getElem? (i := 34) rfl))
theorem se_Ref_plan : Cond.selects m_Ref_plan.1.cls m_Ref_plan.1 m_Ref_plan.1 ∈ am_tbl := (am_U2_ok _ (List.mem_of_getElem? (i := 3) rfl))
theorem lm_Ref_port : am_LM m_Ref_port := ⟨(am_U24_ok _ (List.mem_of_getElem? (i := 1) rfl)), (am_U2_ok _ (List.mem_of_getElem? (i := 24) rfl)), ⟨by decide +kernel, by decide +kernel⟩, by decide +kernel⟩
theorem np_Ref_port : am_np m_Ref_port 0 := by unfold am_np; decide +kernel
theorem im_Ref_port : Cond.instanceMethod m_Ref_port.1 ∈ am_tbl := (am_U23_ok _ (List.mem_of_getElem? (i := 39) rfl))
theorem se_Ref_port : Cond.selects m_Ref_port.1.cls m_Ref_port.1 m_Ref_port.1 ∈ am_tbl := (am_U24_ok _ (List.mem_of_getElem? (i := 0) rfl))
theorem lm_Ref_prepare : am_LM m_Ref_prepare := ⟨(am_U29_ok _ (List.mem_of_getElem? (i := 38) rfl)), (am_U2_ok _ (List.mem_of_getElem? (i := 24) rfl)), ⟨by decide +kernel, by decide +kernel⟩, by decide +kernel⟩
theorem np_Ref_prepare : am_np m_Ref_prepare 2 := by unfold am_np; decide +kernel
theorem im_Ref_prepare : Cond.instanceMethod m_Ref_prepare.1 ∈ am_tbl := (am_U29_ok _ (List.mem_of_getElem? (i := 37) rfl))
theorem se_Ref_prepare : Cond.selects m_Ref_prepare.1.cls m_Ref_prepare.1 m_Ref_prepare.1 ∈ am_tbl := (am_U2_ok _ (List.mem_of_getElem? (i := 4) rfl))
theorem lm_Ref_readShift : am_LM m_Ref_readShift := ⟨(am_U25_ok _ (List.mem_of_getElem? (i := 23) rfl)), (am_U2_ok _ (List.mem_of_getElem? (i := 24) rfl)), ⟨by decide +kernel, by decide +kernel⟩, by decide +kernel⟩
theorem np_Ref_readShift : am_np m_Ref_readShift 1 := by unfold am_np; decide +kernel
theorem im_Ref_readShift : Cond.instanceMethod m_Ref_readShift.1 ∈ am_tbl := (am_U25_ok _ (List.mem_of_getElem? (i := 22) rfl))
theorem se_Ref_readShift : Cond.selects m_Ref_readShift.1.cls m_Ref_readShift.1 m_Ref_readShift.1 ∈ am_tbl := (am_U1_ok _ (List.mem_of_getElem? (i := 13) rfl))
theorem lm_Ref_readStop : am_LM m_Ref_readStop := ⟨(am_U26_ok _ (List.mem_of_getElem? (i := 8) rfl)), (am_U2_ok _ (List.mem_of_getElem? (i := 24) rfl)), ⟨by decide +kernel, by decide +kernel⟩, by decide +kernel⟩
theorem np_Ref_readStop : am_np m_Ref_readStop 0 := by unfold am_np; decide +kernel
theorem im_Ref_readStop : Cond.instanceMethod m_Ref_readStop.1 ∈ am_tbl := (am_U26_ok _ (List.mem_of_getElem? (i := 7) rfl))
theorem se_Ref_readStop : Cond.selects m_Ref_readStop.1.cls m_Ref_readStop.1 m_Ref_readStop.1 ∈ am_tbl := (am_U1_ok _ (List.mem_of_getElem? (i := 17) rfl))
theorem lm_Ref_readTable : am_LM m_Ref_readTable := ⟨(am_U24_ok _ (List.mem_of_getElem? (i := 18) rfl)), (am_U2_ok _ (List.mem_of_getElem? (i := 24) rfl)), ⟨by decide +kernel, by decide +kernel⟩, by decide +kernel⟩
theorem np_Ref_readTable : am_np m_Ref_readTable 0 := by unfold am_np; decide +kernel
theorem im_Ref_readTable : Cond.instanceMethod m_Ref_readTable.1 ∈ am_tbl := (am_U24_ok _ (List.mem_of_getElem? (i := 17) rfl))
theorem se_Ref_readTable : Cond.selects m_Ref_readTable.1.cls m_Ref_readTable.1 m_Ref_readTable.1 ∈ am_tbl := (am_U1_ok _ (List.mem_of_getElem? (i := 1) rfl))
theorem lm_Ref_readTurn : am_LM m_Ref_readTurn := ⟨(am_U24_ok _ (List.mem_of_getElem? (i := 21) rfl)), (am_U2_ok _ (List.mem_of_getElem? (i := 24) rfl)), ⟨by decide +kernel, by decide +kernel⟩, by decide +kernel⟩
theorem np_Ref_readTurn : am_np m_Ref_readTurn 0 := by unfold am_np; decide +kernel
theorem im_Ref_readTurn : Cond.instanceMethod m_Ref_readTurn.1 ∈ am_tbl := (am_U24_ok _ (List.mem_of_getElem? (i := 20) rfl))
theorem se_Ref_readTurn : Cond.selects m_Ref_readTurn.1.cls m_Ref_readTurn.1 m_Ref_readTurn.1 ∈ am_tbl := (am_U1_ok _ (List.mem_of_getElem? (i := 2) rfl))
theorem lm_Ref_refusedUnread : am_LM m_Ref_refusedUnread := ⟨(am_U25_ok _ (List.mem_of_getElem? (i := 16) rfl)), (am_U2_ok _ (List.mem_of_getElem? (i := 24) rfl)), ⟨by decide +kernel, by decide +kernel⟩, by decide +kernel⟩
theorem np_Ref_refusedUnread : am_np m_Ref_refusedUnread 0 := by unfold am_np; decide +kernel
theorem im_Ref_refusedUnread : Cond.instanceMethod m_Ref_refusedUnread.1 ∈ am_tbl := (am_U25_ok _ (List.mem_of_getElem? (i := 15) rfl))
theorem se_Ref_refusedUnread : Cond.selects m_Ref_refusedUnread.1.cls m_Ref_refusedUnread.1 m_Ref_refusedUnread.1 ∈ am_tbl := (am_U1_ok _ (List.mem_of_getElem? (i := 12) rfl))
theorem lm_Ref_rise : am_LM m_Ref_rise := ⟨(am_U27_ok _ (List.mem_of_getElem? (i := 21) rfl)), (am_U2_ok _ (List.mem_of_getElem? (i := 24) rfl)), ⟨by decide +kernel, by decide +kernel⟩, by decide +kernel⟩
theorem np_Ref_rise : am_np m_Ref_rise 3 := by unfold am_np; decide +kernel
theorem im_Ref_rise : Cond.instanceMethod m_Ref_rise.1 ∈ am_tbl := (am_U27_ok _ (List.mem_of_getElem? (i := 19) rfl))
theorem se_Ref_rise : Cond.selects m_Ref_rise.1.cls m_Ref_rise.1 m_Ref_rise.1 ∈ am_tbl := (am_U27_ok _ (List.mem_of_getElem? (i := 20) rfl))
theorem lm_Ref_route : am_LM m_Ref_route := ⟨(am_U26_ok _ (List.mem_of_getElem? (i := 5) rfl)), (am_U2_ok _ (List.mem_of_getElem? (i := 24) rfl)), ⟨by decide +kernel, by decide +kernel⟩, by decide +kernel⟩
theorem np_Ref_route : am_np m_Ref_route 0 := by unfold am_np; decide +kernel
theorem im_Ref_route : Cond.instanceMethod m_Ref_route.1 ∈ am_tbl := (am_U26_ok _ (List.mem_of_getElem? (i := 3) rfl))
theorem se_Ref_route : Cond.selects m_Ref_route.1.cls m_Ref_route.1 m_Ref_route.1 ∈ am_tbl := (am_U26_ok _ (List.mem_of_getElem? (i := 4) rfl))
theorem lm_Ref_routeWhy : am_LM m_Ref_routeWhy := ⟨(am_U29_ok _ (List.mem_of_getElem? (i := 32) rfl)), (am_U2_ok _ (List.mem_of_getElem? (i := 24) rfl)), ⟨by decide +kernel, by decide +kernel⟩, by decide +kernel⟩
theorem np_Ref_routeWhy : am_np m_Ref_routeWhy 3 := by unfold am_np; decide +kernel
theorem im_Ref_routeWhy : Cond.instanceMethod m_Ref_routeWhy.1 ∈ am_tbl := (am_U29_ok _ (List.mem_of_getElem? (i := 31) rfl))
theorem se_Ref_routeWhy : Cond.selects m_Ref_routeWhy.1.cls m_Ref_routeWhy.1 m_Ref_routeWhy.1 ∈ am_tbl := (am_U2_ok _ (List.mem_of_getElem? (i := 2) rfl))
theorem lm_Ref_same : am_LM m_Ref_same := ⟨(am_U31_ok _ (List.mem_of_getElem? (i := 2) rfl)), (am_U2_ok _ (List.mem_of_getElem? (i := 24) rfl)), ⟨by decide +kernel, by decide +kernel⟩, by decide +kernel⟩
theorem np_Ref_same : am_np m_Ref_same 2 := by unfold am_np; decide +kernel
theorem im_Ref_same : Cond.instanceMethod m_Ref_same.1 ∈ am_tbl := (am_U31_ok _ (List.mem_of_getElem? (i := 0) rfl))
theorem se_Ref_same : Cond.selects m_Ref_same.1.cls m_Ref_same.1 m_Ref_same.1 ∈ am_tbl := (am_U31_ok _ (List.mem_of_getElem? (i := 1) rfl))
theorem lm_Ref_second : am_LM m_Ref_second := ⟨(am_U25_ok _ (List.mem_of_getElem? (i := 20) rfl)), (am_U2_ok _ (List.mem_of_getElem? (i := 24) rfl)), ⟨by decide +kernel, by decide +kernel⟩, by decide +kernel⟩
theorem np_Ref_second : am_np m_Ref_second 1 := by unfold am_np; decide +kernel
theorem im_Ref_second : Cond.instanceMethod m_Ref_second.1 ∈ am_tbl := (am_U25_ok _ (List.mem_of_getElem? (i := 18) rfl))
theorem se_Ref_second : Cond.selects m_Ref_second.1.cls m_Ref_second.1 m_Ref_second.1 ∈ am_tbl := (am_U25_ok _ (List.mem_of_getElem? (i := 19) rfl))
theorem lm_Ref_ship : am_LM m_Ref_ship := ⟨(am_U26_ok _ (List.mem_of_getElem? (i := 1) rfl)), (am_U2_ok _ (List.mem_of_getElem? (i := 24) rfl)), ⟨by decide +kernel, by decide +kernel⟩, by decide +kernel⟩
theorem np_Ref_ship : am_np m_Ref_ship 0 := by unfold am_np; decide +kernel
theorem im_Ref_ship : Cond.instanceMethod m_Ref_ship.1 ∈ am_tbl := (am_U25_ok _ (List.mem_of_getElem? (i := 39) rfl))
theorem se_Ref_ship : Cond.selects m_Ref_ship.1.cls m_Ref_ship.1 m_Ref_ship.1 ∈ am_tbl := (am_U26_ok _ (List.mem_of_getElem? (i := 0) rfl))
theorem lm_Ref_sill : am_LM m_Ref_sill := ⟨(am_U25_ok _ (List.mem_of_getElem? (i := 37) rfl)), (am_U2_ok _ (List.mem_of_getElem? (i := 24) rfl)), ⟨by decide +kernel, by decide +kernel⟩, by decide +kernel⟩
theorem np_Ref_sill : am_np m_Ref_sill 1 := by unfold am_np; decide +kernel
theorem im_Ref_sill : Cond.instanceMethod m_Ref_sill.1 ∈ am_tbl := (am_U25_ok _ (List.mem_of_getElem? (i := 35) rfl))
theorem se_Ref_sill : Cond.selects m_Ref_sill.1.cls m_Ref_sill.1 m_Ref_sill.1 ∈ am_tbl := (am_U25_ok _ (List.mem_of_getElem? (i := 36) rfl))
theorem lm_Ref_size : am_LM m_Ref_size := ⟨(am_U24_ok _ (List.mem_of_getElem? (i := 30) rfl)), (am_U2_ok _ (List.mem_of_getElem? (i := 24) rfl)), ⟨by decide +kernel, by decide +kernel⟩, by decide +kernel⟩
theorem np_Ref_size : am_np m_Ref_size 0 := by unfold am_np; decide +kernel
theorem im_Ref_size : Cond.instanceMethod m_Ref_size.1 ∈ am_tbl := (am_U24_ok _ (List.mem_of_getElem? (i := 29) rfl))
theorem se_Ref_size : Cond.selects m_Ref_size.1.cls m_Ref_size.1 m_Ref_size.1 ∈ am_tbl := (am_U1_ok _ (List.mem_of_getElem? (i := 5) rfl))
theorem lm_Ref_start : am_LM m_Ref_start := ⟨(am_U30_ok _ (List.mem_of_getElem? (i := 16) rfl)), (am_U2_ok _ (List.mem_of_getElem? (i := 24) rfl)), ⟨by decide +kernel, by decide +kernel⟩, by decide +kernel⟩
theorem np_Ref_start : am_np m_Ref_start 3 := by unfold am_np; decide +kernel
theorem im_Ref_start : Cond.instanceMethod m_Ref_start.1 ∈ am_tbl := (am_U30_ok _ (List.mem_of_getElem? (i := 14) rfl))
theorem se_Ref_start : Cond.selects m_Ref_start.1.cls m_Ref_start.1 m_Ref_start.1 ∈ am_tbl := (am_U30_ok _ (List.mem_of_getElem? (i := 15) rfl))
theorem lm_Ref_status : am_LM m_Ref_status := ⟨(am_U31_ok _ (List.mem_of_getElem? (i := 6) rfl)), (am_U2_ok _ (List.mem_of_getElem? (i := 24) rfl)), ⟨by decide +kernel, by decide +kernel⟩, by decide +kernel⟩
theorem np_Ref_status : am_np m_Ref_status 0 := by unfold am_np; decide +kernel
theorem im_Ref_status : Cond.instanceMethod m_Ref_status.1 ∈ am_tbl := (am_U31_ok _ (List.mem_of_getElem? (i := 4) rfl))
theorem se_Ref_status : Cond.selects m_Ref_status.1.cls m_Ref_status.1 m_Ref_status.1 ∈ am_tbl := (am_U31_ok _ (List.mem_of_getElem? (i := 5) rfl))
theorem lm_Ref_step : am_LM m_Ref_step := ⟨(am_U25_ok _ (List.mem_of_getElem? (i := 26) rfl)), (am_U2_ok _ (List.mem_of_getElem? (i := 24) rfl)), ⟨by decide +kernel, by decide +kernel⟩, by decide +kernel⟩
theorem np_Ref_step : am_np m_Ref_step 0 := by unfold am_np; decide +kernel
theorem im_Ref_step : Cond.instanceMethod m_Ref_step.1 ∈ am_tbl := (am_U25_ok _ (List.mem_of_getElem? (i := 25) rfl))
theorem se_Ref_step : Cond.selects m_Ref_step.1.cls m_Ref_step.1 m_Ref_step.1 ∈ am_tbl := (am_U1_ok _ (List.mem_of_getElem? (i := 14) rfl))
theorem lm_Ref_stops : am_LM m_Ref_stops := ⟨(am_U29_ok _ (List.mem_of_getElem? (i := 15) rfl)), (am_U2_ok _ (List.mem_of_getElem? (i := 24) rfl)), ⟨by decide +kernel, by decide +kernel⟩, by decide +kernel⟩
theorem np_Ref_stops : am_np m_Ref_stops 1 := by unfold am_np; decide +kernel
theorem im_Ref_stops : Cond.instanceMethod m_Ref_stops.1 ∈ am_tbl := (am_U29_ok _ (List.mem_of_getElem? (i := 13) rfl))
theorem se_Ref_stops : Cond.selects m_Ref_stops.1.cls m_Ref_stops.1 m_Ref_stops.1 ∈ am_tbl := (am_U29_ok _ (List.mem_of_getElem? (i := 14) rfl))
theorem lm_Ref_take : am_LM m_Ref_take := ⟨(am_U24_ok _ (List.mem_of_getElem? (i := 27) rfl)), (am_U2_ok _ (List.mem_of_getElem? (i := 24) rfl)), ⟨by decide +kernel, by decide +kernel⟩, by decide +kernel⟩
theorem np_Ref_take : am_np m_Ref_take 1 := by unfold am_np; decide +kernel
theorem im_Ref_take : Cond.instanceMethod m_Ref_take.1 ∈ am_tbl := (am_U24_ok _ (List.mem_of_getElem? (i := 26) rfl))
theorem se_Ref_take : Cond.selects m_Ref_take.1.cls m_Ref_take.1 m_Ref_take.1 ∈ am_tbl := (am_U1_ok _ (List.mem_of_getElem? (i := 4) rfl))
theorem lm_Ref_tell : am_LM m_Ref_tell := ⟨(am_U29_ok _ (List.mem_of_getElem? (i := 11) rfl)), (am_U2_ok _ (List.mem_of_getElem? (i := 24) rfl)), ⟨by decide +kernel, by decide +kernel⟩, by decide +kernel⟩
theorem np_Ref_tell : am_np m_Ref_tell 1 := by unfold am_np; decide +kernel
theorem im_Ref_tell : Cond.instanceMethod m_Ref_tell.1 ∈ am_tbl := (am_U29_ok _ (List.mem_of_getElem? (i := 10) rfl))
theorem se_Ref_tell : Cond.selects m_Ref_tell.1.cls m_Ref_tell.1 m_Ref_tell.1 ∈ am_tbl := (am_U1_ok _ (List.mem_of_getElem? (i := 39) rfl))
theorem lm_Ref_turn : am_LM m_Ref_turn := ⟨(am_U26_ok _ (List.mem_of_getElem? (i := 31) rfl)), (am_U2_ok _ (List.mem_of_getElem? (i := 24) rfl)), ⟨by decide +kernel, by decide +kernel⟩, by decide +kernel⟩
theorem np_Ref_turn : am_np m_Ref_turn 3 := by unfold am_np; decide +kernel
theorem im_Ref_turn : Cond.instanceMethod m_Ref_turn.1 ∈ am_tbl := (am_U26_ok _ (List.mem_of_getElem? (i := 29) rfl))
theorem se_Ref_turn : Cond.selects m_Ref_turn.1.cls m_Ref_turn.1 m_Ref_turn.1 ∈ am_tbl := (am_U26_ok _ (List.mem_of_getElem? (i := 30) rfl))
theorem lm_Ref_turnAt : am_LM m_Ref_turnAt := ⟨(am_U27_ok _ (List.mem_of_getElem? (i := 10) rfl)), (am_U2_ok _ (List.mem_of_getElem? (i := 24) rfl)), ⟨by decide +kernel, by decide +kernel⟩, by decide +kernel⟩
theorem np_Ref_turnAt : am_np m_Ref_turnAt 2 := by unfold am_np; decide +kernel
theorem im_Ref_turnAt : Cond.instanceMethod m_Ref_turnAt.1 ∈ am_tbl := (am_U27_ok _ (List.mem_of_getElem? (i := 9) rfl))
theorem se_Ref_turnAt : Cond.selects m_Ref_turnAt.1.cls m_Ref_turnAt.1 m_Ref_turnAt.1 ∈ am_tbl := (am_U1_ok _ (List.mem_of_getElem? (i := 23) rfl))
theorem lm_Ref_turns : am_LM m_Ref_turns := ⟨(am_U26_ok _ (List.mem_of_getElem? (i := 27) rfl)), (am_U2_ok _ (List.mem_of_getElem? (i := 24) rfl)), ⟨by decide +kernel, by decide +kernel⟩, by decide +kernel⟩
theorem np_Ref_turns : am_np m_Ref_turns 1 := by unfold am_np; decide +kernel
theorem im_Ref_turns : Cond.instanceMethod m_Ref_turns.1 ∈ am_tbl := (am_U26_ok _ (List.mem_of_getElem? (i := 25) rfl))
theorem se_Ref_turns : Cond.selects m_Ref_turns.1.cls m_Ref_turns.1 m_Ref_turns.1 ∈ am_tbl := (am_U26_ok _ (List.mem_of_getElem? (i := 26) rfl))
theorem lm_Ref_waits : am_LM m_Ref_waits := ⟨(am_U30_ok _ (List.mem_of_getElem? (i := 12) rfl)), (am_U2_ok _ (List.mem_of_getElem? (i := 24) rfl)), ⟨by decide +kernel, by decide +kernel⟩, by decide +kernel⟩
theorem np_Ref_waits : am_np m_Ref_waits 3 := by unfold am_np; decide +kernel
theorem im_Ref_waits : Cond.instanceMethod m_Ref_waits.1 ∈ am_tbl := (am_U30_ok _ (List.mem_of_getElem? (i := 10) rfl))
theorem se_Ref_waits : Cond.selects m_Ref_waits.1.cls m_Ref_waits.1 m_Ref_waits.1 ∈ am_tbl := (am_U30_ok _ (List.mem_of_getElem? (i := 11) rfl))
theorem lm_Ref_water : am_LM m_Ref_water := ⟨(am_U26_ok _ (List.mem_of_getElem? (i := 35) rfl)), (am_U2_ok _ (List.mem_of_getElem? (i := 24) rfl)), ⟨by decide +kernel, by decide +kernel⟩, by decide +kernel⟩
theorem np_Ref_water : am_np m_Ref_water 2 := by unfold am_np; decide +kernel
theorem im_Ref_water : Cond.instanceMethod m_Ref_water.1 ∈ am_tbl := (am_U26_ok _ (List.mem_of_getElem? (i := 33) rfl))
theorem se_Ref_water : Cond.selects m_Ref_water.1.cls m_Ref_water.1 m_Ref_water.1 ∈ am_tbl := (am_U26_ok _ (List.mem_of_getElem? (i := 34) rfl))
theorem lm_Ref_windows : am_LM m_Ref_windows := ⟨(am_U28_ok _ (List.mem_of_getElem? (i := 11) rfl)), (am_U2_ok _ (List.mem_of_getElem? (i := 24) rfl)), ⟨by decide +kernel, by decide +kernel⟩, by decide +kernel⟩
theorem np_Ref_windows : am_np m_Ref_windows 0 := by unfold am_np; decide +kernel
theorem im_Ref_windows : Cond.instanceMethod m_Ref_windows.1 ∈ am_tbl := (am_U28_ok _ (List.mem_of_getElem? (i := 10) rfl))
theorem se_Ref_windows : Cond.selects m_Ref_windows.1.cls m_Ref_windows.1 m_Ref_windows.1 ∈ am_tbl := (am_U1_ok _ (List.mem_of_getElem? (i := 31) rfl))
theorem lm_Ref_wordHere : am_LM m_Ref_wordHere := ⟨(am_U24_ok _ (List.mem_of_getElem? (i := 10) rfl)), (am_U2_ok _ (List.mem_of_getElem? (i := 24) rfl)), ⟨by decide +kernel, by decide +kernel⟩, by decide +kernel⟩
theorem np_Ref_wordHere : am_np m_Ref_wordHere 0 := by unfold am_np; decide +kernel
theorem im_Ref_wordHere : Cond.instanceMethod m_Ref_wordHere.1 ∈ am_tbl := (am_U24_ok _ (List.mem_of_getElem? (i := 9) rfl))
theorem se_Ref_wordHere : Cond.selects m_Ref_wordHere.1.cls m_Ref_wordHere.1 m_Ref_wordHere.1 ∈ am_tbl := (am_U0_ok _ (List.mem_of_getElem? (i := 39) rfl))
theorem lm_Ref_write : am_LM m_Ref_write := ⟨(am_U28_ok _ (List.mem_of_getElem? (i := 39) rfl)), (am_U2_ok _ (List.mem_of_getElem? (i := 24) rfl)), ⟨by decide +kernel, by decide +kernel⟩, by decide +kernel⟩
theorem np_Ref_write : am_np m_Ref_write 1 := by unfold am_np; decide +kernel
theorem im_Ref_write : Cond.instanceMethod m_Ref_write.1 ∈ am_tbl := (am_U28_ok _ (List.mem_of_getElem? (i := 38) rfl))
theorem se_Ref_write : Cond.selects m_Ref_write.1.cls m_Ref_write.1 m_Ref_write.1 ∈ am_tbl := (am_U1_ok _ (List.mem_of_getElem? (i := 35) rfl))
theorem lm_Ref_writeMinute : am_LM m_Ref_writeMinute := ⟨(am_U29_ok _ (List.mem_of_getElem? (i := 2) rfl)), (am_U2_ok _ (List.mem_of_getElem? (i := 24) rfl)), ⟨by decide +kernel, by decide +kernel⟩, by decide +kernel⟩
theorem np_Ref_writeMinute : am_np m_Ref_writeMinute 1 := by unfold am_np; decide +kernel
theorem im_Ref_writeMinute : Cond.instanceMethod m_Ref_writeMinute.1 ∈ am_tbl := (am_U29_ok _ (List.mem_of_getElem? (i := 1) rfl))
theorem se_Ref_writeMinute : Cond.selects m_Ref_writeMinute.1.cls m_Ref_writeMinute.1 m_Ref_writeMinute.1 ∈ am_tbl := (am_U1_ok _ (List.mem_of_getElem? (i := 36) rfl))
theorem lm_Ref_writeNote : am_LM m_Ref_writeNote := ⟨(am_U28_ok _ (List.mem_of_getElem? (i := 33) rfl)), (am_U2_ok _ (List.mem_of_getElem? (i := 24) rfl)), ⟨by decide +kernel, by decide +kernel⟩, by decide +kernel⟩
theorem np_Ref_writeNote : am_np m_Ref_writeNote 2 := by unfold am_np; decide +kernel
theorem im_Ref_writeNote : Cond.instanceMethod m_Ref_writeNote.1 ∈ am_tbl := (am_U28_ok _ (List.mem_of_getElem? (i := 32) rfl))
theorem se_Ref_writeNote : Cond.selects m_Ref_writeNote.1.cls m_Ref_writeNote.1 m_Ref_writeNote.1 ∈ am_tbl := (am_U1_ok _ (List.mem_of_getElem? (i := 33) rfl))
theorem lm_Ref_writeNumber : am_LM m_Ref_writeNumber := ⟨(am_U29_ok _ (List.mem_of_getElem? (i := 8) rfl)), (am_U2_ok _ (List.mem_of_getElem? (i := 24) rfl)), ⟨by decide +kernel, by decide +kernel⟩, by decide +kernel⟩
theorem np_Ref_writeNumber : am_np m_Ref_writeNumber 1 := by unfold am_np; decide +kernel
theorem im_Ref_writeNumber : Cond.instanceMethod m_Ref_writeNumber.1 ∈ am_tbl := (am_U29_ok _ (List.mem_of_getElem? (i := 7) rfl))
theorem se_Ref_writeNumber : Cond.selects m_Ref_writeNumber.1.cls m_Ref_writeNumber.1 m_Ref_writeNumber.1 ∈ am_tbl := (am_U1_ok _ (List.mem_of_getElem? (i := 38) rfl))
theorem lm_Ref_writePort : am_LM m_Ref_writePort := ⟨(am_U30_ok _ (List.mem_of_getElem? (i := 29) rfl)), (am_U2_ok _ (List.mem_of_getElem? (i := 24) rfl)), ⟨by decide +kernel, by decide +kernel⟩, by decide +kernel⟩
theorem np_Ref_writePort : am_np m_Ref_writePort 1 := by unfold am_np; decide +kernel
theorem im_Ref_writePort : Cond.instanceMethod m_Ref_writePort.1 ∈ am_tbl := (am_U30_ok _ (List.mem_of_getElem? (i := 28) rfl))
theorem se_Ref_writePort : Cond.selects m_Ref_writePort.1.cls m_Ref_writePort.1 m_Ref_writePort.1 ∈ am_tbl := (am_U2_ok _ (List.mem_of_getElem? (i := 9) rfl))
theorem lm_Ref_writeRoute : am_LM m_Ref_writeRoute := ⟨(am_U30_ok _ (List.mem_of_getElem? (i := 38) rfl)), (am_U2_ok _ (List.mem_of_getElem? (i := 24) rfl)), ⟨by decide +kernel, by decide +kernel⟩, by decide +kernel⟩
theorem np_Ref_writeRoute : am_np m_Ref_writeRoute 1 := by unfold am_np; decide +kernel
theorem im_Ref_writeRoute : Cond.instanceMethod m_Ref_writeRoute.1 ∈ am_tbl := (am_U30_ok _ (List.mem_of_getElem? (i := 37) rfl))
theorem se_Ref_writeRoute : Cond.selects m_Ref_writeRoute.1.cls m_Ref_writeRoute.1 m_Ref_writeRoute.1 ∈ am_tbl := (am_U2_ok _ (List.mem_of_getElem? (i := 12) rfl))
theorem lm_Ref_writeShip : am_LM m_Ref_writeShip := ⟨(am_U30_ok _ (List.mem_of_getElem? (i := 35) rfl)), (am_U2_ok _ (List.mem_of_getElem? (i := 24) rfl)), ⟨by decide +kernel, by decide +kernel⟩, by decide +kernel⟩
theorem np_Ref_writeShip : am_np m_Ref_writeShip 1 := by unfold am_np; decide +kernel
theorem im_Ref_writeShip : Cond.instanceMethod m_Ref_writeShip.1 ∈ am_tbl := (am_U30_ok _ (List.mem_of_getElem? (i := 34) rfl))
theorem se_Ref_writeShip : Cond.selects m_Ref_writeShip.1.cls m_Ref_writeShip.1 m_Ref_writeShip.1 ∈ am_tbl := (am_U2_ok _ (List.mem_of_getElem? (i := 11) rfl))
theorem lm_Ref_writeSill : am_LM m_Ref_writeSill := ⟨(am_U30_ok _ (List.mem_of_getElem? (i := 32) rfl)), (am_U2_ok _ (List.mem_of_getElem? (i := 24) rfl)), ⟨by decide +kernel, by decide +kernel⟩, by decide +kernel⟩
theorem np_Ref_writeSill : am_np m_Ref_writeSill 1 := by unfold am_np; decide +kernel
theorem im_Ref_writeSill : Cond.instanceMethod m_Ref_writeSill.1 ∈ am_tbl := (am_U30_ok _ (List.mem_of_getElem? (i := 31) rfl))
theorem se_Ref_writeSill : Cond.selects m_Ref_writeSill.1.cls m_Ref_writeSill.1 m_Ref_writeSill.1 ∈ am_tbl := (am_U2_ok _ (List.mem_of_getElem? (i := 10) rfl))
theorem lm_Ref_writeTime : am_LM m_Ref_writeTime := ⟨(am_U29_ok _ (List.mem_of_getElem? (i := 5) rfl)), (am_U2_ok _ (List.mem_of_getElem? (i := 24) rfl)), ⟨by decide +kernel, by decide +kernel⟩, by decide +kernel⟩
theorem np_Ref_writeTime : am_np m_Ref_writeTime 1 := by unfold am_np; decide +kernel
theorem im_Ref_writeTime : Cond.instanceMethod m_Ref_writeTime.1 ∈ am_tbl := (am_U29_ok _ (List.mem_of_getElem? (i := 4) rfl))
theorem se_Ref_writeTime : Cond.selects m_Ref_writeTime.1.cls m_Ref_writeTime.1 m_Ref_writeTime.1 ∈ am_tbl := (am_U1_ok _ (List.mem_of_getElem? (i := 37) rfl))
theorem lm_Ref_writeWord : am_LM m_Ref_writeWord := ⟨(am_U28_ok _ (List.mem_of_getElem? (i := 36) rfl)), (am_U2_ok _ (List.mem_of_getElem? (i := 24) rfl)), ⟨by decide +kernel, by decide +kernel⟩, by decide +kernel⟩
theorem np_Ref_writeWord : am_np m_Ref_writeWord 1 := by unfold am_np; decide +kernel
theorem im_Ref_writeWord : Cond.instanceMethod m_Ref_writeWord.1 ∈ am_tbl := (am_U28_ok _ (List.mem_of_getElem? (i := 35) rfl))
theorem se_Ref_writeWord : Cond.selects m_Ref_writeWord.1.cls m_Ref_writeWord.1 m_Ref_writeWord.1 ∈ am_tbl := (am_U1_ok _ (List.mem_of_getElem? (i := 34) rfl))
theorem lm_Math_abs : am_LM m_Math_abs := ⟨(am_U19_ok _ (List.mem_of_getElem? (i := 6) rfl)), (am_U2_ok _ (List.mem_of_getElem? (i := 18) rfl)), ⟨by decide +kernel, by decide +kernel⟩, by decide +kernel⟩
theorem np_Math_abs : am_np m_Math_abs 1 := by unfold am_np; decide +kernel
theorem st_Math_abs : Cond.static m_Math_abs.1 ∈ am_tbl := (am_U19_ok _ (List.mem_of_getElem? (i := 5) rfl))
theorem lm_Math_floorDiv : am_LM m_Math_floorDiv := ⟨(am_U10_ok _ (List.mem_of_getElem? (i := 35) rfl)), (am_U2_ok _ (List.mem_of_getElem? (i := 18) rfl)), ⟨by decide +kernel, by decide +kernel⟩, by decide +kernel⟩
theorem np_Math_floorDiv : am_np m_Math_floorDiv 2 := by unfold am_np; decide +kernel
theorem st_Math_floorDiv : Cond.static m_Math_floorDiv.1 ∈ am_tbl := (am_U10_ok _ (List.mem_of_getElem? (i := 34) rfl))
theorem lm_Math_floorMod : am_LM m_Math_floorMod := ⟨(am_U8_ok _ (List.mem_of_getElem? (i := 37) rfl)), (am_U2_ok _ (List.mem_of_getElem? (i := 18) rfl)), ⟨by decide +kernel, by decide +kernel⟩, by decide +kernel⟩
theorem np_Math_floorMod : am_np m_Math_floorMod 2 := by unfold am_np; decide +kernel
theorem st_Math_floorMod : Cond.static m_Math_floorMod.1 ∈ am_tbl := (am_U8_ok _ (List.mem_of_getElem? (i := 36) rfl))
theorem lm_Math_max : am_LM m_Math_max := ⟨(am_U3_ok _ (List.mem_of_getElem? (i := 24) rfl)), (am_U2_ok _ (List.mem_of_getElem? (i := 18) rfl)), ⟨by decide +kernel, by decide +kernel⟩, by decide +kernel⟩
theorem np_Math_max : am_np m_Math_max 2 := by unfold am_np; decide +kernel
theorem st_Math_max : Cond.static m_Math_max.1 ∈ am_tbl := (am_U3_ok _ (List.mem_of_getElem? (i := 23) rfl))
theorem lm_Math_min : am_LM m_Math_min := ⟨(am_U17_ok _ (List.mem_of_getElem? (i := 7) rfl)), (am_U2_ok _ (List.mem_of_getElem? (i := 18) rfl)), ⟨by decide +kernel, by decide +kernel⟩, by decide +kernel⟩
theorem np_Math_min : am_np m_Math_min 2 := by unfold am_np; decide +kernel
theorem st_Math_min : Cond.static m_Math_min.1 ∈ am_tbl := (am_U17_ok _ (List.mem_of_getElem? (i := 6) rfl))
theorem lm_Str_charAt : am_LM m_Str_charAt := ⟨(am_U6_ok _ (List.mem_of_getElem? (i := 17) rfl)), (am_U2_ok _ (List.mem_of_getElem? (i := 25) rfl)), ⟨by decide +kernel, by decide +kernel⟩, by decide +kernel⟩
theorem np_Str_charAt : am_np m_Str_charAt 1 := by unfold am_np; decide +kernel
theorem im_Str_charAt : Cond.instanceMethod m_Str_charAt.1 ∈ am_tbl := (am_U6_ok _ (List.mem_of_getElem? (i := 15) rfl))
theorem se_Str_charAt : Cond.selects m_Str_charAt.1.cls m_Str_charAt.1 m_Str_charAt.1 ∈ am_tbl := (am_U6_ok _ (List.mem_of_getElem? (i := 16) rfl))
theorem lm_Str_checkIndex : am_LM m_Str_checkIndex := ⟨(am_U6_ok _ (List.mem_of_getElem? (i := 27) rfl)), (am_U2_ok _ (List.mem_of_getElem? (i := 25) rfl)), ⟨by decide +kernel, by decide +kernel⟩, by decide +kernel⟩
theorem np_Str_checkIndex : am_np m_Str_checkIndex 2 := by unfold am_np; decide +kernel
theorem st_Str_checkIndex : Cond.static m_Str_checkIndex.1 ∈ am_tbl := (am_U6_ok _ (List.mem_of_getElem? (i := 26) rfl))
theorem lm_Str_coder : am_LM m_Str_coder := ⟨(am_U6_ok _ (List.mem_of_getElem? (i := 7) rfl)), (am_U2_ok _ (List.mem_of_getElem? (i := 25) rfl)), ⟨by decide +kernel, by decide +kernel⟩, by decide +kernel⟩
theorem np_Str_coder : am_np m_Str_coder 0 := by unfold am_np; decide +kernel
theorem im_Str_coder : Cond.instanceMethod m_Str_coder.1 ∈ am_tbl := (am_U6_ok _ (List.mem_of_getElem? (i := 5) rfl))
theorem se_Str_coder : Cond.selects m_Str_coder.1.cls m_Str_coder.1 m_Str_coder.1 ∈ am_tbl := (am_U6_ok _ (List.mem_of_getElem? (i := 6) rfl))
theorem lm_Str_isLatin1 : am_LM m_Str_isLatin1 := ⟨(am_U6_ok _ (List.mem_of_getElem? (i := 21) rfl)), (am_U2_ok _ (List.mem_of_getElem? (i := 25) rfl)), ⟨by decide +kernel, by decide +kernel⟩, by decide +kernel⟩
theorem np_Str_isLatin1 : am_np m_Str_isLatin1 0 := by unfold am_np; decide +kernel
theorem im_Str_isLatin1 : Cond.instanceMethod m_Str_isLatin1.1 ∈ am_tbl := (am_U6_ok _ (List.mem_of_getElem? (i := 19) rfl))
theorem se_Str_isLatin1 : Cond.selects m_Str_isLatin1.1.cls m_Str_isLatin1.1 m_Str_isLatin1.1 ∈ am_tbl := (am_U6_ok _ (List.mem_of_getElem? (i := 20) rfl))
theorem lm_Str_length : am_LM m_Str_length := ⟨(am_U6_ok _ (List.mem_of_getElem? (i := 3) rfl)), (am_U2_ok _ (List.mem_of_getElem? (i := 25) rfl)), ⟨by decide +kernel, by decide +kernel⟩, by decide +kernel⟩
theorem np_Str_length : am_np m_Str_length 0 := by unfold am_np; decide +kernel
theorem im_Str_length : Cond.instanceMethod m_Str_length.1 ∈ am_tbl := (am_U6_ok _ (List.mem_of_getElem? (i := 1) rfl))
theorem se_Str_length : Cond.selects m_Str_length.1.cls m_Str_length.1 m_Str_length.1 ∈ am_tbl := (am_U6_ok _ (List.mem_of_getElem? (i := 2) rfl))
theorem lm_Lat_charAt : am_LM m_Lat_charAt := ⟨(am_U6_ok _ (List.mem_of_getElem? (i := 24) rfl)), (am_U2_ok _ (List.mem_of_getElem? (i := 26) rfl)), ⟨by decide +kernel, by decide +kernel⟩, by decide +kernel⟩
theorem np_Lat_charAt : am_np m_Lat_charAt 2 := by unfold am_np; decide +kernel
theorem st_Lat_charAt : Cond.static m_Lat_charAt.1 ∈ am_tbl := (am_U6_ok _ (List.mem_of_getElem? (i := 23) rfl))
theorem lm_Pre_checkIndex : am_LM m_Pre_checkIndex := ⟨(am_U6_ok _ (List.mem_of_getElem? (i := 30) rfl)), (am_U2_ok _ (List.mem_of_getElem? (i := 27) rfl)), ⟨by decide +kernel, by decide +kernel⟩, by decide +kernel⟩
theorem np_Pre_checkIndex : am_np m_Pre_checkIndex 3 := by unfold am_np; decide +kernel
theorem st_Pre_checkIndex : Cond.static m_Pre_checkIndex.1 ∈ am_tbl := (am_U6_ok _ (List.mem_of_getElem? (i := 29) rfl))
theorem lk_11_1 : Cond.methodLink "SillHours" 1 Lib.objectInit ∈ am_tbl := (am_U2_ok _ (List.mem_of_getElem? (i := 35) rfl))
theorem lk_11_25 : Cond.methodLink "SillHours" 25 m_Route_init.1 ∈ am_tbl := (am_U3_ok _ (List.mem_of_getElem? (i := 27) rfl))
theorem lk_11_63 : Cond.methodLink "SillHours" 63 m_Spans_init.1 ∈ am_tbl := (am_U4_ok _ (List.mem_of_getElem? (i := 9) rfl))
theorem lk_11_70 : Cond.methodLink "SillHours" 70 m_Planner_init.1 ∈ am_tbl := (am_U4_ok _ (List.mem_of_getElem? (i := 12) rfl))
theorem lk_11_104 : Cond.methodLink "SillHours" 104 m_Tape_hasRoomFor.1 ∈ am_tbl := (am_U4_ok _ (List.mem_of_getElem? (i := 29) rfl))
theorem lk_11_108 : Cond.methodLink "SillHours" 108 m_Main_refuse.1 ∈ am_tbl := (am_U4_ok _ (List.mem_of_getElem? (i := 33) rfl))
theorem lk_11_112 : Cond.methodLink "SillHours" 112 m_Tape_append.1 ∈ am_tbl := (am_U4_ok _ (List.mem_of_getElem? (i := 36) rfl))
theorem lk_11_115 : Cond.methodLink "SillHours" 115 m_Tape_size.1 ∈ am_tbl := (am_U5_ok _ (List.mem_of_getElem? (i := 0) rfl))
theorem lk_11_119 : Cond.methodLink "SillHours" 119 m_Main_answer.1 ∈ am_tbl := (am_U5_ok _ (List.mem_of_getElem? (i := 4) rfl))
theorem lk_11_122 : Cond.methodLink "SillHours" 122 m_Tape_keepFirst.1 ∈ am_tbl := (am_U5_ok _ (List.mem_of_getElem? (i := 11) rfl))
theorem lk_11_125 : Cond.methodLink "SillHours" 125 m_Main_addTable.1 ∈ am_tbl := (am_U5_ok _ (List.mem_of_getElem? (i := 19) rfl))
theorem lk_11_129 : Cond.methodLink "SillHours" 129 m_Main_portAt.1 ∈ am_tbl := (am_U9_ok _ (List.mem_of_getElem? (i := 21) rfl))
theorem lk_11_133 : Cond.methodLink "SillHours" 133 m_Main_refuseUnread.1 ∈ am_tbl := (am_U9_ok _ (List.mem_of_getElem? (i := 24) rfl))
theorem lk_11_136 : Cond.methodLink "SillHours" 136 m_Tape_rewind.1 ∈ am_tbl := (am_U5_ok _ (List.mem_of_getElem? (i := 22) rfl))
theorem lk_11_139 : Cond.methodLink "SillHours" 139 m_Draft_readDifferences.1 ∈ am_tbl := (am_U9_ok _ (List.mem_of_getElem? (i := 31) rfl))
theorem lk_11_143 : Cond.methodLink "SillHours" 143 m_Main_textWasRight.1 ∈ am_tbl := (am_U7_ok _ (List.mem_of_getElem? (i := 13) rfl))
theorem lk_11_147 : Cond.methodLink "SillHours" 147 m_Draft_shiftFrom.1 ∈ am_tbl := (am_U10_ok _ (List.mem_of_getElem? (i := 9) rfl))
theorem lk_11_150 : Cond.methodLink "SillHours" 150 m_Main_keepPort.1 ∈ am_tbl := (am_U9_ok _ (List.mem_of_getElem? (i := 4) rfl))
theorem lk_11_153 : Cond.methodLink "SillHours" 153 m_Sill_init.1 ∈ am_tbl := (am_U11_ok _ (List.mem_of_getElem? (i := 3) rfl))
theorem lk_11_156 : Cond.methodLink "SillHours" 156 m_Sill_readFrom.1 ∈ am_tbl := (am_U11_ok _ (List.mem_of_getElem? (i := 7) rfl))
theorem lk_11_159 : Cond.methodLink "SillHours" 159 m_Sill_findFault.1 ∈ am_tbl := (am_U11_ok _ (List.mem_of_getElem? (i := 19) rfl))
theorem lk_11_162 : Cond.methodLink "SillHours" 162 m_Main_judge.1 ∈ am_tbl := (am_U9_ok _ (List.mem_of_getElem? (i := 12) rfl))
theorem lk_11_167 : Cond.methodLink "SillHours" 167 m_Ship_readFrom.1 ∈ am_tbl := (am_U11_ok _ (List.mem_of_getElem? (i := 32) rfl))
theorem lk_11_168 : Cond.methodLink "SillHours" 168 m_Ship_findFault.1 ∈ am_tbl := (am_U11_ok _ (List.mem_of_getElem? (i := 37) rfl))
theorem lk_11_169 : Cond.methodLink "SillHours" 169 m_Route_readFrom.1 ∈ am_tbl := (am_U12_ok _ (List.mem_of_getElem? (i := 5) rfl))
theorem lk_11_170 : Cond.methodLink "SillHours" 170 m_Route_stopCount.1 ∈ am_tbl := (am_U12_ok _ (List.mem_of_getElem? (i := 18) rfl))
theorem lk_11_173 : Cond.methodLink "SillHours" 173 m_Route_findFault.1 ∈ am_tbl := (am_U12_ok _ (List.mem_of_getElem? (i := 22) rfl))
theorem lk_11_175 : Cond.methodLink "SillHours" 175 m_Route_copyFrom.1 ∈ am_tbl := (am_U12_ok _ (List.mem_of_getElem? (i := 38) rfl))
theorem lk_11_179 : Cond.methodLink "SillHours" 179 m_Route_sillNumberOf.1 ∈ am_tbl := (am_U13_ok _ (List.mem_of_getElem? (i := 11) rfl))
theorem lk_11_182 : Cond.methodLink "SillHours" 182 m_Main_sillAt.1 ∈ am_tbl := (am_U13_ok _ (List.mem_of_getElem? (i := 12) rfl))
theorem lk_11_186 : Cond.methodLink "SillHours" 186 m_Route_setSill.1 ∈ am_tbl := (am_U13_ok _ (List.mem_of_getElem? (i := 15) rfl))
theorem lk_11_190 : Cond.methodLink "SillHours" 190 m_Port_turnCount.1 ∈ am_tbl := (am_U9_ok _ (List.mem_of_getElem? (i := 11) rfl))
theorem lk_11_193 : Cond.methodLink "SillHours" 193 m_Port_minuteOf.1 ∈ am_tbl := (am_U13_ok _ (List.mem_of_getElem? (i := 39) rfl))
theorem lk_11_196 : Cond.methodLink "SillHours" 196 m_Port_heightOf.1 ∈ am_tbl := (am_U14_ok _ (List.mem_of_getElem? (i := 0) rfl))
theorem lk_11_199 : Cond.methodLink "SillHours" 199 m_Port_isHigh.1 ∈ am_tbl := (am_U14_ok _ (List.mem_of_getElem? (i := 1) rfl))
theorem lk_11_202 : Cond.methodLink "SillHours" 202 m_Port_hasMinute.1 ∈ am_tbl := (am_U14_ok _ (List.mem_of_getElem? (i := 6) rfl))
theorem lk_11_205 : Cond.methodLink "SillHours" 205 m_Port_wholeHeightAt.1 ∈ am_tbl := (am_U14_ok _ (List.mem_of_getElem? (i := 14) rfl))
theorem lk_11_208 : Cond.methodLink "SillHours" 208 m_Main_isHeightToAsk.1 ∈ am_tbl := (am_U14_ok _ (List.mem_of_getElem? (i := 26) rfl))
theorem lk_11_211 : Cond.methodLink "SillHours" 211 m_Main_firstMinuteWhere.1 ∈ am_tbl := (am_U14_ok _ (List.mem_of_getElem? (i := 33) rfl))
theorem lk_11_215 : Cond.methodLink "SillHours" 215 m_Main_findWindows.1 ∈ am_tbl := (am_U15_ok _ (List.mem_of_getElem? (i := 34) rfl))
theorem lk_11_219 : Cond.methodLink "SillHours" 219 m_Windows_found.1 ∈ am_tbl := (am_U17_ok _ (List.mem_of_getElem? (i := 25) rfl))
theorem lk_11_223 : Cond.methodLink "SillHours" 223 m_Spans_size.1 ∈ am_tbl := (am_U17_ok _ (List.mem_of_getElem? (i := 29) rfl))
theorem lk_11_224 : Cond.methodLink "SillHours" 224 m_Spans_firstOf.1 ∈ am_tbl := (am_U17_ok _ (List.mem_of_getElem? (i := 34) rfl))
theorem lk_11_227 : Cond.methodLink "SillHours" 227 m_Spans_lastOf.1 ∈ am_tbl := (am_U17_ok _ (List.mem_of_getElem? (i := 35) rfl))
theorem lk_11_230 : Cond.methodLink "SillHours" 230 m_Spans_countAll.1 ∈ am_tbl := (am_U18_ok _ (List.mem_of_getElem? (i := 0) rfl))
theorem lk_11_233 : Cond.methodLink "SillHours" 233 m_Spans_has.1 ∈ am_tbl := (am_U18_ok _ (List.mem_of_getElem? (i := 5) rfl))
theorem lk_11_236 : Cond.methodLink "SillHours" 236 m_Windows_areAlways.1 ∈ am_tbl := (am_U18_ok _ (List.mem_of_getElem? (i := 14) rfl))
theorem lk_11_239 : Cond.methodLink "SillHours" 239 m_Page_writeNote.1 ∈ am_tbl := (am_U18_ok _ (List.mem_of_getElem? (i := 18) rfl))
theorem lk_11_243 : Cond.methodLink "SillHours" 243 m_Main_answerLetter.1 ∈ am_tbl := (am_U19_ok _ (List.mem_of_getElem? (i := 8) rfl))
theorem lk_11_246 : Cond.methodLink "SillHours" 246 m_Main_routeAt.1 ∈ am_tbl := (am_U19_ok _ (List.mem_of_getElem? (i := 23) rfl))
theorem lk_11_250 : Cond.methodLink "SillHours" 250 m_Main_shipAt.1 ∈ am_tbl := (am_U15_ok _ (List.mem_of_getElem? (i := 37) rfl))
theorem lk_11_254 : Cond.methodLink "SillHours" 254 m_Route_milesTo.1 ∈ am_tbl := (am_U19_ok _ (List.mem_of_getElem? (i := 30) rfl))
theorem lk_11_257 : Cond.methodLink "SillHours" 257 m_Ship_minutesFor.1 ∈ am_tbl := (am_U19_ok _ (List.mem_of_getElem? (i := 31) rfl))
theorem lk_11_260 : Cond.methodLink "SillHours" 260 m_Main_isNumberToAsk.1 ∈ am_tbl := (am_U19_ok _ (List.mem_of_getElem? (i := 39) rfl))
theorem lk_11_263 : Cond.methodLink "SillHours" 263 m_Planner_plan.1 ∈ am_tbl := (am_U20_ok _ (List.mem_of_getElem? (i := 2) rfl))
theorem lk_11_267 : Cond.methodLink "SillHours" 267 m_Planner_passOf.1 ∈ am_tbl := (am_U21_ok _ (List.mem_of_getElem? (i := 9) rfl))
theorem lk_11_270 : Cond.methodLink "SillHours" 270 m_Planner_waitedFrom.1 ∈ am_tbl := (am_U21_ok _ (List.mem_of_getElem? (i := 21) rfl))
theorem lk_11_274 : Cond.methodLink "SillHours" 274 m_Planner_latestStart.1 ∈ am_tbl := (am_U21_ok _ (List.mem_of_getElem? (i := 30) rfl))
theorem lk_11_279 : Cond.methodLink "SillHours" 279 m_Main_writeOut.1 ∈ am_tbl := (am_U22_ok _ (List.mem_of_getElem? (i := 1) rfl))
theorem lk_11_283 : Cond.methodLink "SillHours" 283 m_Port_isWrittenAs.1 ∈ am_tbl := (am_U23_ok _ (List.mem_of_getElem? (i := 7) rfl))
theorem lk_11_287 : Cond.methodLink "SillHours" 287 m_Page_size.1 ∈ am_tbl := (am_U19_ok _ (List.mem_of_getElem? (i := 11) rfl))
theorem lk_11_288 : Cond.methodLink "SillHours" 288 m_Page_letterAt.1 ∈ am_tbl := (am_U19_ok _ (List.mem_of_getElem? (i := 15) rfl))
theorem lk_11_291 : Cond.methodLink "SillHours" 291 m_Tape_isReadWhole.1 ∈ am_tbl := (am_U7_ok _ (List.mem_of_getElem? (i := 16) rfl))
theorem lk_11_294 : Cond.methodLink "SillHours" 294 m_Tape_readTo.1 ∈ am_tbl := (am_U7_ok _ (List.mem_of_getElem? (i := 20) rfl))
theorem lk_11_297 : Cond.methodLink "SillHours" 297 m_Draft_readTable.1 ∈ am_tbl := (am_U5_ok _ (List.mem_of_getElem? (i := 29) rfl))
theorem lk_11_300 : Cond.methodLink "SillHours" 300 m_Draft_followOn.1 ∈ am_tbl := (am_U7_ok _ (List.mem_of_getElem? (i := 24) rfl))
theorem lk_11_303 : Cond.methodLink "SillHours" 303 m_Draft_made.1 ∈ am_tbl := (am_U9_ok _ (List.mem_of_getElem? (i := 7) rfl))
theorem lk_11_307 : Cond.methodLink "SillHours" 307 m_Port_init.1 ∈ am_tbl := (am_U9_ok _ (List.mem_of_getElem? (i := 15) rfl))
theorem lk_11_308 : Cond.methodLink "SillHours" 308 m_Port_copyFrom.1 ∈ am_tbl := (am_U9_ok _ (List.mem_of_getElem? (i := 16) rfl))
theorem lk_11_311 : Cond.methodLink "SillHours" 311 m_Port_collect.1 ∈ am_tbl := (am_U14_ok _ (List.mem_of_getElem? (i := 36) rfl))
theorem lk_11_315 : Cond.methodLink "SillHours" 315 m_Spans_earliestFrom.1 ∈ am_tbl := (am_U15_ok _ (List.mem_of_getElem? (i := 14) rfl))
theorem lk_11_318 : Cond.methodLink "SillHours" 318 m_Windows_find.1 ∈ am_tbl := (am_U16_ok _ (List.mem_of_getElem? (i := 0) rfl))
theorem lk_11_322 : Cond.methodLink "SillHours" 322 m_Page_writePort.1 ∈ am_tbl := (am_U22_ok _ (List.mem_of_getElem? (i := 4) rfl))
theorem lk_11_325 : Cond.methodLink "SillHours" 325 m_Page_writeSill.1 ∈ am_tbl := (am_U22_ok _ (List.mem_of_getElem? (i := 12) rfl))
theorem lk_11_329 : Cond.methodLink "SillHours" 329 m_Page_writeShip.1 ∈ am_tbl := (am_U22_ok _ (List.mem_of_getElem? (i := 24) rfl))
theorem lk_11_333 : Cond.methodLink "SillHours" 333 m_Page_writeRoute.1 ∈ am_tbl := (am_U22_ok _ (List.mem_of_getElem? (i := 34) rfl))
theorem lk_0_1 : Cond.methodLink "SillHours$Page" 1 Lib.objectInit ∈ am_tbl := (am_U4_ok _ (List.mem_of_getElem? (i := 23) rfl))
theorem lk_0_17 : Cond.methodLink "SillHours$Page" 17 m_Port_turnCount.1 ∈ am_tbl := (am_U22_ok _ (List.mem_of_getElem? (i := 8) rfl))
theorem lk_0_23 : Cond.methodLink "SillHours$Page" 23 m_Page_put.1 ∈ am_tbl := (am_U18_ok _ (List.mem_of_getElem? (i := 28) rfl))
theorem lk_0_27 : Cond.methodLink "SillHours$Page" 27 m_Port_isHigh.1 ∈ am_tbl := (am_U22_ok _ (List.mem_of_getElem? (i := 9) rfl))
theorem lk_0_35 : Cond.methodLink "SillHours$Page" 35 m_Page_putText.1 ∈ am_tbl := (am_U18_ok _ (List.mem_of_getElem? (i := 23) rfl))
theorem lk_0_39 : Cond.methodLink "SillHours$Page" 39 m_Port_minuteOf.1 ∈ am_tbl := (am_U22_ok _ (List.mem_of_getElem? (i := 10) rfl))
theorem lk_0_43 : Cond.methodLink "SillHours$Page" 43 m_Page_putTime.1 ∈ am_tbl := (am_U18_ok _ (List.mem_of_getElem? (i := 35) rfl))
theorem lk_0_47 : Cond.methodLink "SillHours$Page" 47 m_Port_heightOf.1 ∈ am_tbl := (am_U22_ok _ (List.mem_of_getElem? (i := 11) rfl))
theorem lk_0_50 : Cond.methodLink "SillHours$Page" 50 m_Page_putNumber.1 ∈ am_tbl := (am_U19_ok _ (List.mem_of_getElem? (i := 1) rfl))
theorem lk_0_53 : Cond.methodLink "SillHours$Page" 53 m_Sill_kind.1 ∈ am_tbl := (am_U22_ok _ (List.mem_of_getElem? (i := 16) rfl))
theorem lk_0_58 : Cond.methodLink "SillHours$Page" 58 m_Page_wordOf.1 ∈ am_tbl := (am_U22_ok _ (List.mem_of_getElem? (i := 17) rfl))
theorem lk_0_62 : Cond.methodLink "SillHours$Page" 62 m_Sill_level.1 ∈ am_tbl := (am_U22_ok _ (List.mem_of_getElem? (i := 20) rfl))
theorem lk_0_65 : Cond.methodLink "SillHours$Page" 65 m_Sill_hasTwoNumbers.1 ∈ am_tbl := (am_U22_ok _ (List.mem_of_getElem? (i := 21) rfl))
theorem lk_0_69 : Cond.methodLink "SillHours$Page" 69 m_Sill_one.1 ∈ am_tbl := (am_U22_ok _ (List.mem_of_getElem? (i := 22) rfl))
theorem lk_0_72 : Cond.methodLink "SillHours$Page" 72 m_Sill_two.1 ∈ am_tbl := (am_U22_ok _ (List.mem_of_getElem? (i := 23) rfl))
theorem lk_0_75 : Cond.methodLink "SillHours$Page" 75 m_Ship_draught.1 ∈ am_tbl := (am_U22_ok _ (List.mem_of_getElem? (i := 28) rfl))
theorem lk_0_80 : Cond.methodLink "SillHours$Page" 80 m_Ship_mast.1 ∈ am_tbl := (am_U22_ok _ (List.mem_of_getElem? (i := 29) rfl))
theorem lk_0_83 : Cond.methodLink "SillHours$Page" 83 m_Ship_pace.1 ∈ am_tbl := (am_U22_ok _ (List.mem_of_getElem? (i := 30) rfl))
theorem lk_0_86 : Cond.methodLink "SillHours$Page" 86 m_Route_stopCount.1 ∈ am_tbl := (am_U22_ok _ (List.mem_of_getElem? (i := 38) rfl))
theorem lk_0_93 : Cond.methodLink "SillHours$Page" 93 m_Route_milesTo.1 ∈ am_tbl := (am_U22_ok _ (List.mem_of_getElem? (i := 39) rfl))
theorem lk_0_96 : Cond.methodLink "SillHours$Page" 96 m_Route_sillNumberOf.1 ∈ am_tbl := (am_U23_ok _ (List.mem_of_getElem? (i := 0) rfl))
theorem lk_0_99 : Cond.methodLink "SillHours$Page" 99 m_Route_kindOf.1 ∈ am_tbl := (am_U23_ok _ (List.mem_of_getElem? (i := 1) rfl))
theorem lk_0_102 : Cond.methodLink "SillHours$Page" 102 m_Route_levelOf.1 ∈ am_tbl := (am_U23_ok _ (List.mem_of_getElem? (i := 2) rfl))
theorem lk_0_105 : Cond.methodLink "SillHours$Page" 105 m_Spans_size.1 ∈ am_tbl := (am_U18_ok _ (List.mem_of_getElem? (i := 22) rfl))
theorem lk_0_115 : Cond.methodLink "SillHours$Page" 115 m_Spans_firstOf.1 ∈ am_tbl := (am_U18_ok _ (List.mem_of_getElem? (i := 31) rfl))
theorem lk_0_118 : Cond.methodLink "SillHours$Page" 118 m_Page_putDayAndTime.1 ∈ am_tbl := (am_U18_ok _ (List.mem_of_getElem? (i := 32) rfl))
theorem lk_0_121 : Cond.methodLink "SillHours$Page" 121 m_Spans_lastOf.1 ∈ am_tbl := (am_U19_ok _ (List.mem_of_getElem? (i := 7) rfl))
theorem lk_0_132 : Cond.methodLink "SillHours$Page" 132 m_Page_putDigit.1 ∈ am_tbl := (am_U18_ok _ (List.mem_of_getElem? (i := 38) rfl))
theorem lk_0_135 : Cond.methodLink "SillHours$Page" 135 m_Math_abs.1 ∈ am_tbl := (am_U19_ok _ (List.mem_of_getElem? (i := 4) rfl))
theorem lk_0_140 : Cond.methodLink "SillHours$Page" 140 m_Str_length.1 ∈ am_tbl := (am_U18_ok _ (List.mem_of_getElem? (i := 26) rfl))
theorem lk_0_145 : Cond.methodLink "SillHours$Page" 145 m_Str_charAt.1 ∈ am_tbl := (am_U18_ok _ (List.mem_of_getElem? (i := 27) rfl))
theorem lk_1_3 : Cond.methodLink "SillHours$Planner" 3 Lib.objectInit ∈ am_tbl := (am_U4_ok _ (List.mem_of_getElem? (i := 15) rfl))
theorem lk_1_20 : Cond.methodLink "SillHours$Planner" 20 m_Spans_init.1 ∈ am_tbl := (am_U4_ok _ (List.mem_of_getElem? (i := 18) rfl))
theorem lk_1_46 : Cond.methodLink "SillHours$Planner" 46 m_Route_stopCount.1 ∈ am_tbl := (am_U20_ok _ (List.mem_of_getElem? (i := 8) rfl))
theorem lk_1_50 : Cond.methodLink "SillHours$Planner" 50 m_Planner_passOf.1 ∈ am_tbl := (am_U21_ok _ (List.mem_of_getElem? (i := 25) rfl))
theorem lk_1_54 : Cond.methodLink "SillHours$Planner" 54 m_Route_milesTo.1 ∈ am_tbl := (am_U21_ok _ (List.mem_of_getElem? (i := 0) rfl))
theorem lk_1_57 : Cond.methodLink "SillHours$Planner" 57 m_Ship_minutesFor.1 ∈ am_tbl := (am_U21_ok _ (List.mem_of_getElem? (i := 1) rfl))
theorem lk_1_62 : Cond.methodLink "SillHours$Planner" 62 m_Spans_clear.1 ∈ am_tbl := (am_U20_ok _ (List.mem_of_getElem? (i := 6) rfl))
theorem lk_1_65 : Cond.methodLink "SillHours$Planner" 65 m_Spans_add.1 ∈ am_tbl := (am_U20_ok _ (List.mem_of_getElem? (i := 7) rfl))
theorem lk_1_69 : Cond.methodLink "SillHours$Planner" 69 m_Math_min.1 ∈ am_tbl := (am_U20_ok _ (List.mem_of_getElem? (i := 9) rfl))
theorem lk_1_75 : Cond.methodLink "SillHours$Planner" 75 m_Route_sillOf.1 ∈ am_tbl := (am_U20_ok _ (List.mem_of_getElem? (i := 10) rfl))
theorem lk_1_79 : Cond.methodLink "SillHours$Planner" 79 m_Planner_allowLater.1 ∈ am_tbl := (am_U20_ok _ (List.mem_of_getElem? (i := 14) rfl))
theorem lk_1_83 : Cond.methodLink "SillHours$Planner" 83 m_Windows_find.1 ∈ am_tbl := (am_U20_ok _ (List.mem_of_getElem? (i := 37) rfl))
theorem lk_1_87 : Cond.methodLink "SillHours$Planner" 87 m_Windows_found.1 ∈ am_tbl := (am_U20_ok _ (List.mem_of_getElem? (i := 38) rfl))
theorem lk_1_91 : Cond.methodLink "SillHours$Planner" 91 m_Spans_intersect.1 ∈ am_tbl := (am_U20_ok _ (List.mem_of_getElem? (i := 39) rfl))
theorem lk_1_95 : Cond.methodLink "SillHours$Planner" 95 m_Spans_size.1 ∈ am_tbl := (am_U20_ok _ (List.mem_of_getElem? (i := 30) rfl))
theorem lk_1_98 : Cond.methodLink "SillHours$Planner" 98 m_Spans_copyShifted.1 ∈ am_tbl := (am_U20_ok _ (List.mem_of_getElem? (i := 18) rfl))
theorem lk_1_102 : Cond.methodLink "SillHours$Planner" 102 m_Planner_choosePasses.1 ∈ am_tbl := (am_U21_ok _ (List.mem_of_getElem? (i := 2) rfl))
theorem lk_1_108 : Cond.methodLink "SillHours$Planner" 108 m_Spans_latestUpTo.1 ∈ am_tbl := (am_U21_ok _ (List.mem_of_getElem? (i := 5) rfl))
theorem lk_1_111 : Cond.methodLink "SillHours$Planner" 111 m_Planner_allowEarlier.1 ∈ am_tbl := (am_U21_ok _ (List.mem_of_getElem? (i := 34) rfl))
theorem lk_1_114 : Cond.methodLink "SillHours$Planner" 114 m_Spans_firstOf.1 ∈ am_tbl := (am_U20_ok _ (List.mem_of_getElem? (i := 22) rfl))
theorem lk_1_117 : Cond.methodLink "SillHours$Planner" 117 m_Route_kindOf.1 ∈ am_tbl := (am_U20_ok _ (List.mem_of_getElem? (i := 17) rfl))
theorem lk_1_120 : Cond.methodLink "SillHours$Planner" 120 m_Route_levelOf.1 ∈ am_tbl := (am_U20_ok _ (List.mem_of_getElem? (i := 23) rfl))
theorem lk_1_123 : Cond.methodLink "SillHours$Planner" 123 m_Ship_draught.1 ∈ am_tbl := (am_U20_ok _ (List.mem_of_getElem? (i := 24) rfl))
theorem lk_1_126 : Cond.methodLink "SillHours$Planner" 126 m_Planner_findDeep.1 ∈ am_tbl := (am_U20_ok _ (List.mem_of_getElem? (i := 25) rfl))
theorem lk_1_130 : Cond.methodLink "SillHours$Planner" 130 m_Spans_earliestFrom.1 ∈ am_tbl := (am_U20_ok _ (List.mem_of_getElem? (i := 31) rfl))
theorem lk_1_133 : Cond.methodLink "SillHours$Planner" 133 m_Spans_lastOf.1 ∈ am_tbl := (am_U20_ok _ (List.mem_of_getElem? (i := 32) rfl))
theorem lk_1_136 : Cond.methodLink "SillHours$Planner" 136 m_Spans_unite.1 ∈ am_tbl := (am_U20_ok _ (List.mem_of_getElem? (i := 33) rfl))
theorem lk_1_140 : Cond.methodLink "SillHours$Planner" 140 m_Sill_home.1 ∈ am_tbl := (am_U20_ok _ (List.mem_of_getElem? (i := 28) rfl))
theorem lk_1_148 : Cond.methodLink "SillHours$Planner" 148 m_Port_collect.1 ∈ am_tbl := (am_U20_ok _ (List.mem_of_getElem? (i := 29) rfl))
theorem lk_2_1 : Cond.methodLink "SillHours$Port" 1 Lib.objectInit ∈ am_tbl := (am_U3_ok _ (List.mem_of_getElem? (i := 21) rfl))
theorem lk_2_13 : Cond.methodLink "SillHours$Port" 13 m_Math_max.1 ∈ am_tbl := (am_U3_ok _ (List.mem_of_getElem? (i := 22) rfl))
theorem lk_2_33 : Cond.methodLink "SillHours$Port" 33 m_Port_minuteOf.1 ∈ am_tbl := (am_U8_ok _ (List.mem_of_getElem? (i := 4) rfl))
theorem lk_2_37 : Cond.methodLink "SillHours$Port" 37 m_Port_firstMinute.1 ∈ am_tbl := (am_U14_ok _ (List.mem_of_getElem? (i := 10) rfl))
theorem lk_2_41 : Cond.methodLink "SillHours$Port" 41 m_Port_lastMinute.1 ∈ am_tbl := (am_U8_ok _ (List.mem_of_getElem? (i := 31) rfl))
theorem lk_2_44 : Cond.methodLink "SillHours$Port" 44 m_Port_turnCount.1 ∈ am_tbl := (am_U7_ok _ (List.mem_of_getElem? (i := 36) rfl))
theorem lk_2_47 : Cond.methodLink "SillHours$Port" 47 m_Port_isHigh.1 ∈ am_tbl := (am_U8_ok _ (List.mem_of_getElem? (i := 0) rfl))
theorem lk_2_51 : Cond.methodLink "SillHours$Port" 51 m_Port_heightOf.1 ∈ am_tbl := (am_U8_ok _ (List.mem_of_getElem? (i := 8) rfl))
theorem lk_2_54 : Cond.methodLink "SillHours$Port" 54 m_Port_add.1 ∈ am_tbl := (am_U8_ok _ (List.mem_of_getElem? (i := 12) rfl))
theorem lk_2_58 : Cond.methodLink "SillHours$Port" 58 m_Math_floorMod.1 ∈ am_tbl := (am_U8_ok _ (List.mem_of_getElem? (i := 35) rfl))
theorem lk_2_61 : Cond.methodLink "SillHours$Port" 61 m_Port_faultOfHeight.1 ∈ am_tbl := (am_U8_ok _ (List.mem_of_getElem? (i := 20) rfl))
theorem lk_2_65 : Cond.methodLink "SillHours$Port" 65 m_Port_minuteOfNext.1 ∈ am_tbl := (am_U8_ok _ (List.mem_of_getElem? (i := 27) rfl))
theorem lk_2_68 : Cond.methodLink "SillHours$Port" 68 m_Port_faultOfMinute.1 ∈ am_tbl := (am_U8_ok _ (List.mem_of_getElem? (i := 38) rfl))
theorem lk_2_71 : Cond.methodLink "SillHours$Port" 71 m_Port_isHeight.1 ∈ am_tbl := (am_U8_ok _ (List.mem_of_getElem? (i := 24) rfl))
theorem lk_2_74 : Cond.methodLink "SillHours$Port" 74 m_Port_excess.1 ∈ am_tbl := (am_U14_ok _ (List.mem_of_getElem? (i := 18) rfl))
theorem lk_2_78 : Cond.methodLink "SillHours$Port" 78 m_Math_floorDiv.1 ∈ am_tbl := (am_U14_ok _ (List.mem_of_getElem? (i := 21) rfl))
theorem lk_2_81 : Cond.methodLink "SillHours$Port" 81 m_Spans_clear.1 ∈ am_tbl := (am_U15_ok _ (List.mem_of_getElem? (i := 0) rfl))
theorem lk_2_86 : Cond.methodLink "SillHours$Port" 86 m_Port_firstChange.1 ∈ am_tbl := (am_U15_ok _ (List.mem_of_getElem? (i := 4) rfl))
theorem lk_2_90 : Cond.methodLink "SillHours$Port" 90 m_Port_isOn.1 ∈ am_tbl := (am_U15_ok _ (List.mem_of_getElem? (i := 7) rfl))
theorem lk_2_94 : Cond.methodLink "SillHours$Port" 94 m_Spans_add.1 ∈ am_tbl := (am_U15_ok _ (List.mem_of_getElem? (i := 10) rfl))
theorem lk_3_1 : Cond.methodLink "SillHours$PortDraft" 1 Lib.objectInit ∈ am_tbl := (am_U3_ok _ (List.mem_of_getElem? (i := 8) rfl))
theorem lk_3_36 : Cond.methodLink "SillHours$PortDraft" 36 m_Port_init.1 ∈ am_tbl := (am_U3_ok _ (List.mem_of_getElem? (i := 18) rfl))
theorem lk_3_43 : Cond.methodLink "SillHours$PortDraft" 43 m_Draft_readTurn.1 ∈ am_tbl := (am_U5_ok _ (List.mem_of_getElem? (i := 33) rfl))
theorem lk_3_47 : Cond.methodLink "SillHours$PortDraft" 47 m_Tape_takeMark.1 ∈ am_tbl := (am_U7_ok _ (List.mem_of_getElem? (i := 12) rfl))
theorem lk_3_55 : Cond.methodLink "SillHours$PortDraft" 55 m_Tape_wantWord.1 ∈ am_tbl := (am_U6_ok _ (List.mem_of_getElem? (i := 31) rfl))
theorem lk_3_59 : Cond.methodLink "SillHours$PortDraft" 59 m_Shift_readFrom.1 ∈ am_tbl := (am_U9_ok _ (List.mem_of_getElem? (i := 35) rfl))
theorem lk_3_62 : Cond.methodLink "SillHours$PortDraft" 62 m_Tape_wantMark.1 ∈ am_tbl := (am_U10_ok _ (List.mem_of_getElem? (i := 8) rfl))
theorem lk_3_68 : Cond.methodLink "SillHours$PortDraft" 68 m_Port_clear.1 ∈ am_tbl := (am_U7_ok _ (List.mem_of_getElem? (i := 28) rfl))
theorem lk_3_71 : Cond.methodLink "SillHours$PortDraft" 71 m_Port_copyFrom.1 ∈ am_tbl := (am_U7_ok _ (List.mem_of_getElem? (i := 32) rfl))
theorem lk_3_75 : Cond.methodLink "SillHours$PortDraft" 75 m_Port_faultOfNext.1 ∈ am_tbl := (am_U8_ok _ (List.mem_of_getElem? (i := 16) rfl))
theorem lk_3_79 : Cond.methodLink "SillHours$PortDraft" 79 m_Port_minuteOfNext.1 ∈ am_tbl := (am_U9_ok _ (List.mem_of_getElem? (i := 2) rfl))
theorem lk_3_83 : Cond.methodLink "SillHours$PortDraft" 83 m_Port_add.1 ∈ am_tbl := (am_U9_ok _ (List.mem_of_getElem? (i := 3) rfl))
theorem lk_3_87 : Cond.methodLink "SillHours$PortDraft" 87 m_Shift_isSound.1 ∈ am_tbl := (am_U10_ok _ (List.mem_of_getElem? (i := 13) rfl))
theorem lk_3_91 : Cond.methodLink "SillHours$PortDraft" 91 m_Port_turnCount.1 ∈ am_tbl := (am_U10_ok _ (List.mem_of_getElem? (i := 21) rfl))
theorem lk_3_95 : Cond.methodLink "SillHours$PortDraft" 95 m_Port_isHigh.1 ∈ am_tbl := (am_U10_ok _ (List.mem_of_getElem? (i := 22) rfl))
theorem lk_3_99 : Cond.methodLink "SillHours$PortDraft" 99 m_Port_minuteOf.1 ∈ am_tbl := (am_U10_ok _ (List.mem_of_getElem? (i := 23) rfl))
theorem lk_3_102 : Cond.methodLink "SillHours$PortDraft" 102 m_Shift_minuteFor.1 ∈ am_tbl := (am_U10_ok _ (List.mem_of_getElem? (i := 24) rfl))
theorem lk_3_105 : Cond.methodLink "SillHours$PortDraft" 105 m_Port_heightOf.1 ∈ am_tbl := (am_U10_ok _ (List.mem_of_getElem? (i := 28) rfl))
theorem lk_3_108 : Cond.methodLink "SillHours$PortDraft" 108 m_Shift_heightFor.1 ∈ am_tbl := (am_U10_ok _ (List.mem_of_getElem? (i := 29) rfl))
theorem lk_3_111 : Cond.methodLink "SillHours$PortDraft" 111 m_Port_faultOfHeight.1 ∈ am_tbl := (am_U10_ok _ (List.mem_of_getElem? (i := 36) rfl))
theorem lk_3_115 : Cond.methodLink "SillHours$PortDraft" 115 m_Port_faultOfMinute.1 ∈ am_tbl := (am_U10_ok _ (List.mem_of_getElem? (i := 37) rfl))
theorem lk_3_118 : Cond.methodLink "SillHours$PortDraft" 118 m_Tape_takeWord.1 ∈ am_tbl := (am_U5_ok _ (List.mem_of_getElem? (i := 36) rfl))
theorem lk_3_122 : Cond.methodLink "SillHours$PortDraft" 122 m_Tape_wantNumber.1 ∈ am_tbl := (am_U6_ok _ (List.mem_of_getElem? (i := 36) rfl))
theorem lk_3_125 : Cond.methodLink "SillHours$PortDraft" 125 m_Tape_wantSize.1 ∈ am_tbl := (am_U7_ok _ (List.mem_of_getElem? (i := 3) rfl))
theorem lk_4_1 : Cond.methodLink "SillHours$Route" 1 Lib.objectInit ∈ am_tbl := (am_U3_ok _ (List.mem_of_getElem? (i := 30) rfl))
theorem lk_4_13 : Cond.methodLink "SillHours$Route" 13 m_Math_max.1 ∈ am_tbl := (am_U3_ok _ (List.mem_of_getElem? (i := 31) rfl))
theorem lk_4_41 : Cond.methodLink "SillHours$Route" 41 m_Route_isStop.1 ∈ am_tbl := (am_U12_ok _ (List.mem_of_getElem? (i := 30) rfl))
theorem lk_4_45 : Cond.methodLink "SillHours$Route" 45 m_Route_stopCount.1 ∈ am_tbl := (am_U13_ok _ (List.mem_of_getElem? (i := 2) rfl))
theorem lk_4_49 : Cond.methodLink "SillHours$Route" 49 m_Route_milesTo.1 ∈ am_tbl := (am_U13_ok _ (List.mem_of_getElem? (i := 3) rfl))
theorem lk_4_53 : Cond.methodLink "SillHours$Route" 53 m_Route_sillNumberOf.1 ∈ am_tbl := (am_U12_ok _ (List.mem_of_getElem? (i := 26) rfl))
theorem lk_4_56 : Cond.methodLink "SillHours$Route" 56 m_Route_kindOf.1 ∈ am_tbl := (am_U13_ok _ (List.mem_of_getElem? (i := 7) rfl))
theorem lk_4_59 : Cond.methodLink "SillHours$Route" 59 m_Route_levelOf.1 ∈ am_tbl := (am_U12_ok _ (List.mem_of_getElem? (i := 33) rfl))
theorem lk_4_62 : Cond.methodLink "SillHours$Route" 62 m_Route_add.1 ∈ am_tbl := (am_U12_ok _ (List.mem_of_getElem? (i := 15) rfl))
theorem lk_4_66 : Cond.methodLink "SillHours$Route" 66 m_Route_readStop.1 ∈ am_tbl := (am_U12_ok _ (List.mem_of_getElem? (i := 9) rfl))
theorem lk_4_70 : Cond.methodLink "SillHours$Route" 70 m_Tape_takeMark.1 ∈ am_tbl := (am_U12_ok _ (List.mem_of_getElem? (i := 13) rfl))
theorem lk_4_76 : Cond.methodLink "SillHours$Route" 76 m_Tape_wantNumber.1 ∈ am_tbl := (am_U12_ok _ (List.mem_of_getElem? (i := 12) rfl))
theorem lk_4_79 : Cond.methodLink "SillHours$Route" 79 m_Port_isHeight.1 ∈ am_tbl := (am_U12_ok _ (List.mem_of_getElem? (i := 37) rfl))
theorem lk_4_84 : Cond.methodLink "SillHours$Route" 84 m_Tape_wantSize.1 ∈ am_tbl := (am_U12_ok _ (List.mem_of_getElem? (i := 14) rfl))
theorem lk_5_1 : Cond.methodLink "SillHours$Shift" 1 Lib.objectInit ∈ am_tbl := (am_U3_ok _ (List.mem_of_getElem? (i := 13) rfl))
theorem lk_5_25 : Cond.methodLink "SillHours$Shift" 25 m_Tape_wantStep.1 ∈ am_tbl := (am_U9_ok _ (List.mem_of_getElem? (i := 39) rfl))
theorem lk_5_31 : Cond.methodLink "SillHours$Shift" 31 m_Tape_wantSize.1 ∈ am_tbl := (am_U10_ok _ (List.mem_of_getElem? (i := 7) rfl))
theorem lk_5_34 : Cond.methodLink "SillHours$Shift" 34 m_Port_isHeight.1 ∈ am_tbl := (am_U10_ok _ (List.mem_of_getElem? (i := 17) rfl))
theorem lk_5_40 : Cond.methodLink "SillHours$Shift" 40 m_Shift_isStep.1 ∈ am_tbl := (am_U10_ok _ (List.mem_of_getElem? (i := 18) rfl))
theorem lk_5_43 : Cond.methodLink "SillHours$Shift" 43 m_Math_floorDiv.1 ∈ am_tbl := (am_U10_ok _ (List.mem_of_getElem? (i := 33) rfl))
theorem lk_6_1 : Cond.methodLink "SillHours$Ship" 1 Lib.objectInit ∈ am_tbl := (am_U11_ok _ (List.mem_of_getElem? (i := 31) rfl))
theorem lk_6_19 : Cond.methodLink "SillHours$Ship" 19 m_Tape_wantNumber.1 ∈ am_tbl := (am_U11_ok _ (List.mem_of_getElem? (i := 36) rfl))
theorem lk_7_1 : Cond.methodLink "SillHours$Sill" 1 Lib.objectInit ∈ am_tbl := (am_U11_ok _ (List.mem_of_getElem? (i := 6) rfl))
theorem lk_7_28 : Cond.methodLink "SillHours$Sill" 28 m_Tape_takeWord.1 ∈ am_tbl := (am_U11_ok _ (List.mem_of_getElem? (i := 11) rfl))
theorem lk_7_40 : Cond.methodLink "SillHours$Sill" 40 m_Tape_wantWord.1 ∈ am_tbl := (am_U11_ok _ (List.mem_of_getElem? (i := 12) rfl))
theorem lk_7_44 : Cond.methodLink "SillHours$Sill" 44 m_Tape_wantSize.1 ∈ am_tbl := (am_U11_ok _ (List.mem_of_getElem? (i := 13) rfl))
theorem lk_7_48 : Cond.methodLink "SillHours$Sill" 48 m_Sill_hasTwoNumbers.1 ∈ am_tbl := (am_U11_ok _ (List.mem_of_getElem? (i := 14) rfl))
theorem lk_7_52 : Cond.methodLink "SillHours$Sill" 52 m_Tape_wantNumber.1 ∈ am_tbl := (am_U11_ok _ (List.mem_of_getElem? (i := 18) rfl))
theorem lk_7_55 : Cond.methodLink "SillHours$Sill" 55 m_Port_isHeight.1 ∈ am_tbl := (am_U11_ok _ (List.mem_of_getElem? (i := 23) rfl))
theorem lk_8_1 : Cond.methodLink "SillHours$Spans" 1 Lib.objectInit ∈ am_tbl := (am_U4_ok _ (List.mem_of_getElem? (i := 6) rfl))
theorem lk_8_13 : Cond.methodLink "SillHours$Spans" 13 m_Math_max.1 ∈ am_tbl := (am_U4_ok _ (List.mem_of_getElem? (i := 7) rfl))
theorem lk_8_30 : Cond.methodLink "SillHours$Spans" 30 m_Spans_size.1 ∈ am_tbl := (am_U17_ok _ (List.mem_of_getElem? (i := 1) rfl))
theorem lk_8_33 : Cond.methodLink "SillHours$Spans" 33 m_Spans_firstOf.1 ∈ am_tbl := (am_U15_ok _ (List.mem_of_getElem? (i := 22) rfl))
theorem lk_8_37 : Cond.methodLink "SillHours$Spans" 37 m_Spans_lastOf.1 ∈ am_tbl := (am_U15_ok _ (List.mem_of_getElem? (i := 18) rfl))
theorem lk_8_40 : Cond.methodLink "SillHours$Spans" 40 m_Spans_add.1 ∈ am_tbl := (am_U17_ok _ (List.mem_of_getElem? (i := 8) rfl))
theorem lk_8_44 : Cond.methodLink "SillHours$Spans" 44 m_Math_min.1 ∈ am_tbl := (am_U17_ok _ (List.mem_of_getElem? (i := 5) rfl))
theorem lk_8_47 : Cond.methodLink "SillHours$Spans" 47 m_Spans_earliestFrom.1 ∈ am_tbl := (am_U18_ok _ (List.mem_of_getElem? (i := 9) rfl))
theorem lk_9_1 : Cond.methodLink "SillHours$Tape" 1 Lib.objectInit ∈ am_tbl := (am_U3_ok _ (List.mem_of_getElem? (i := 2) rfl))
theorem lk_9_24 : Cond.methodLink "SillHours$Tape" 24 m_Tape_moveTo.1 ∈ am_tbl := (am_U5_ok _ (List.mem_of_getElem? (i := 26) rfl))
theorem lk_9_28 : Cond.methodLink "SillHours$Tape" 28 m_Tape_byteAt.1 ∈ am_tbl := (am_U6_ok _ (List.mem_of_getElem? (i := 8) rfl))
theorem lk_9_32 : Cond.methodLink "SillHours$Tape" 32 m_Tape_takeMark.1 ∈ am_tbl := (am_U7_ok _ (List.mem_of_getElem? (i := 7) rfl))
theorem lk_9_36 : Cond.methodLink "SillHours$Tape" 36 m_Str_length.1 ∈ am_tbl := (am_U6_ok _ (List.mem_of_getElem? (i := 0) rfl))
theorem lk_9_42 : Cond.methodLink "SillHours$Tape" 42 m_Tape_isLetter.1 ∈ am_tbl := (am_U6_ok _ (List.mem_of_getElem? (i := 11) rfl))
theorem lk_9_46 : Cond.methodLink "SillHours$Tape" 46 m_Str_charAt.1 ∈ am_tbl := (am_U6_ok _ (List.mem_of_getElem? (i := 14) rfl))
theorem lk_9_50 : Cond.methodLink "SillHours$Tape" 50 m_Tape_takeWord.1 ∈ am_tbl := (am_U6_ok _ (List.mem_of_getElem? (i := 35) rfl))
theorem lk_9_54 : Cond.methodLink "SillHours$Tape" 54 m_Tape_isDigit.1 ∈ am_tbl := (am_U7_ok _ (List.mem_of_getElem? (i := 0) rfl))
theorem lk_9_57 : Cond.methodLink "SillHours$Tape" 57 m_Tape_wantNumber.1 ∈ am_tbl := (am_U7_ok _ (List.mem_of_getElem? (i := 11) rfl))
theorem lk_9_60 : Cond.methodLink "SillHours$Tape" 60 m_Tape_wantMark.1 ∈ am_tbl := (am_U10_ok _ (List.mem_of_getElem? (i := 3) rfl))
theorem lk_10_1 : Cond.methodLink "SillHours$Windows" 1 Lib.objectInit ∈ am_tbl := (am_U4_ok _ (List.mem_of_getElem? (i := 0) rfl))
theorem lk_10_11 : Cond.methodLink "SillHours$Windows" 11 m_Spans_init.1 ∈ am_tbl := (am_U4_ok _ (List.mem_of_getElem? (i := 3) rfl))
theorem lk_10_28 : Cond.methodLink "SillHours$Windows" 28 m_Spans_clear.1 ∈ am_tbl := (am_U16_ok _ (List.mem_of_getElem? (i := 4) rfl))
theorem lk_10_31 : Cond.methodLink "SillHours$Windows" 31 m_Sill_home.1 ∈ am_tbl := (am_U16_ok _ (List.mem_of_getElem? (i := 5) rfl))
theorem lk_10_37 : Cond.methodLink "SillHours$Windows" 37 m_Sill_kind.1 ∈ am_tbl := (am_U16_ok _ (List.mem_of_getElem? (i := 9) rfl))
theorem lk_10_43 : Cond.methodLink "SillHours$Windows" 43 m_Sill_level.1 ∈ am_tbl := (am_U16_ok _ (List.mem_of_getElem? (i := 13) rfl))
theorem lk_10_46 : Cond.methodLink "SillHours$Windows" 46 m_Ship_draught.1 ∈ am_tbl := (am_U16_ok _ (List.mem_of_getElem? (i := 17) rfl))
theorem lk_10_51 : Cond.methodLink "SillHours$Windows" 51 m_Port_collect.1 ∈ am_tbl := (am_U16_ok _ (List.mem_of_getElem? (i := 21) rfl))
theorem lk_10_55 : Cond.methodLink "SillHours$Windows" 55 m_Windows_findAtGate.1 ∈ am_tbl := (am_U16_ok _ (List.mem_of_getElem? (i := 22) rfl))
theorem lk_10_59 : Cond.methodLink "SillHours$Windows" 59 m_Windows_findAtFlap.1 ∈ am_tbl := (am_U17_ok _ (List.mem_of_getElem? (i := 9) rfl))
theorem lk_10_62 : Cond.methodLink "SillHours$Windows" 62 m_Ship_mast.1 ∈ am_tbl := (am_U17_ok _ (List.mem_of_getElem? (i := 15) rfl))
theorem lk_10_65 : Cond.methodLink "SillHours$Windows" 65 m_Spans_countAll.1 ∈ am_tbl := (am_U17_ok _ (List.mem_of_getElem? (i := 19) rfl))
theorem lk_10_68 : Cond.methodLink "SillHours$Windows" 68 m_Port_lastMinute.1 ∈ am_tbl := (am_U17_ok _ (List.mem_of_getElem? (i := 23) rfl))
theorem lk_10_71 : Cond.methodLink "SillHours$Windows" 71 m_Port_firstMinute.1 ∈ am_tbl := (am_U17_ok _ (List.mem_of_getElem? (i := 24) rfl))
theorem lk_10_74 : Cond.methodLink "SillHours$Windows" 74 m_Port_turnCount.1 ∈ am_tbl := (am_U16_ok _ (List.mem_of_getElem? (i := 25) rfl))
theorem lk_10_77 : Cond.methodLink "SillHours$Windows" 77 m_Port_isHigh.1 ∈ am_tbl := (am_U16_ok _ (List.mem_of_getElem? (i := 26) rfl))
theorem lk_10_81 : Cond.methodLink "SillHours$Windows" 81 m_Port_minuteOf.1 ∈ am_tbl := (am_U16_ok _ (List.mem_of_getElem? (i := 27) rfl))
theorem lk_10_85 : Cond.methodLink "SillHours$Windows" 85 m_Sill_one.1 ∈ am_tbl := (am_U16_ok _ (List.mem_of_getElem? (i := 28) rfl))
theorem lk_10_88 : Cond.methodLink "SillHours$Windows" 88 m_Sill_two.1 ∈ am_tbl := (am_U16_ok _ (List.mem_of_getElem? (i := 32) rfl))
theorem lk_10_91 : Cond.methodLink "SillHours$Windows" 91 m_Spans_add.1 ∈ am_tbl := (am_U16_ok _ (List.mem_of_getElem? (i := 36) rfl))
theorem lk_10_95 : Cond.methodLink "SillHours$Windows" 95 m_Spans_intersect.1 ∈ am_tbl := (am_U16_ok _ (List.mem_of_getElem? (i := 37) rfl))
theorem lk_10_99 : Cond.methodLink "SillHours$Windows" 99 m_Spans_size.1 ∈ am_tbl := (am_U17_ok _ (List.mem_of_getElem? (i := 12) rfl))
theorem lk_10_102 : Cond.methodLink "SillHours$Windows" 102 m_Spans_firstOf.1 ∈ am_tbl := (am_U17_ok _ (List.mem_of_getElem? (i := 13) rfl))
theorem lk_10_105 : Cond.methodLink "SillHours$Windows" 105 m_Spans_lastOf.1 ∈ am_tbl := (am_U17_ok _ (List.mem_of_getElem? (i := 14) rfl))
theorem lk_13_9 : Cond.methodLink "SillHoursLaw" 9 m_Main_init.1 ∈ am_tbl := (am_U2_ok _ (List.mem_of_getElem? (i := 32) rfl))
theorem lk_13_12 : Cond.methodLink "SillHoursLaw" 12 m_Ref_init.1 ∈ am_tbl := (am_U23_ok _ (List.mem_of_getElem? (i := 17) rfl))
theorem lk_13_13 : Cond.methodLink "SillHoursLaw" 13 m_Main_feed.1 ∈ am_tbl := (am_U4_ok _ (List.mem_of_getElem? (i := 25) rfl))
theorem lk_13_17 : Cond.methodLink "SillHoursLaw" 17 m_Ref_feed.1 ∈ am_tbl := (am_U23_ok _ (List.mem_of_getElem? (i := 21) rfl))
theorem lk_13_18 : Cond.methodLink "SillHoursLaw" 18 m_Main_end.1 ∈ am_tbl := (am_U5_ok _ (List.mem_of_getElem? (i := 7) rfl))
theorem lk_13_22 : Cond.methodLink "SillHoursLaw" 22 m_Ref_end.1 ∈ am_tbl := (am_U23_ok _ (List.mem_of_getElem? (i := 31) rfl))
theorem lk_13_23 : Cond.methodLink "SillHoursLaw" 23 m_Main_port.1 ∈ am_tbl := (am_U5_ok _ (List.mem_of_getElem? (i := 15) rfl))
theorem lk_13_27 : Cond.methodLink "SillHoursLaw" 27 m_Ref_port.1 ∈ am_tbl := (am_U23_ok _ (List.mem_of_getElem? (i := 38) rfl))
theorem lk_13_28 : Cond.methodLink "SillHoursLaw" 28 m_Main_longer.1 ∈ am_tbl := (am_U9_ok _ (List.mem_of_getElem? (i := 17) rfl))
theorem lk_13_31 : Cond.methodLink "SillHoursLaw" 31 m_Ref_longer.1 ∈ am_tbl := (am_U25_ok _ (List.mem_of_getElem? (i := 7) rfl))
theorem lk_13_32 : Cond.methodLink "SillHoursLaw" 32 m_Main_second.1 ∈ am_tbl := (am_U9_ok _ (List.mem_of_getElem? (i := 27) rfl))
theorem lk_13_35 : Cond.methodLink "SillHoursLaw" 35 m_Ref_second.1 ∈ am_tbl := (am_U25_ok _ (List.mem_of_getElem? (i := 17) rfl))
theorem lk_13_36 : Cond.methodLink "SillHoursLaw" 36 m_Main_sill.1 ∈ am_tbl := (am_U10_ok _ (List.mem_of_getElem? (i := 38) rfl))
theorem lk_13_39 : Cond.methodLink "SillHoursLaw" 39 m_Ref_sill.1 ∈ am_tbl := (am_U25_ok _ (List.mem_of_getElem? (i := 34) rfl))
theorem lk_13_40 : Cond.methodLink "SillHoursLaw" 40 m_Main_ship.1 ∈ am_tbl := (am_U11_ok _ (List.mem_of_getElem? (i := 24) rfl))
theorem lk_13_43 : Cond.methodLink "SillHoursLaw" 43 m_Ref_ship.1 ∈ am_tbl := (am_U25_ok _ (List.mem_of_getElem? (i := 38) rfl))
theorem lk_13_44 : Cond.methodLink "SillHoursLaw" 44 m_Main_route.1 ∈ am_tbl := (am_U12_ok _ (List.mem_of_getElem? (i := 1) rfl))
theorem lk_13_47 : Cond.methodLink "SillHoursLaw" 47 m_Ref_route.1 ∈ am_tbl := (am_U26_ok _ (List.mem_of_getElem? (i := 2) rfl))
theorem lk_13_48 : Cond.methodLink "SillHoursLaw" 48 m_Main_place.1 ∈ am_tbl := (am_U13_ok _ (List.mem_of_getElem? (i := 19) rfl))
theorem lk_13_51 : Cond.methodLink "SillHoursLaw" 51 m_Ref_place.1 ∈ am_tbl := (am_U26_ok _ (List.mem_of_getElem? (i := 12) rfl))
theorem lk_13_52 : Cond.methodLink "SillHoursLaw" 52 m_Main_fault.1 ∈ am_tbl := (am_U13_ok _ (List.mem_of_getElem? (i := 23) rfl))
theorem lk_13_55 : Cond.methodLink "SillHoursLaw" 55 m_Ref_fault.1 ∈ am_tbl := (am_U26_ok _ (List.mem_of_getElem? (i := 16) rfl))
theorem lk_13_56 : Cond.methodLink "SillHoursLaw" 56 m_Main_count.1 ∈ am_tbl := (am_U13_ok _ (List.mem_of_getElem? (i := 27) rfl))
theorem lk_13_59 : Cond.methodLink "SillHoursLaw" 59 m_Ref_count.1 ∈ am_tbl := (am_U26_ok _ (List.mem_of_getElem? (i := 20) rfl))
theorem lk_13_60 : Cond.methodLink "SillHoursLaw" 60 m_Main_turns.1 ∈ am_tbl := (am_U13_ok _ (List.mem_of_getElem? (i := 31) rfl))
theorem lk_13_63 : Cond.methodLink "SillHoursLaw" 63 m_Ref_turns.1 ∈ am_tbl := (am_U26_ok _ (List.mem_of_getElem? (i := 24) rfl))
theorem lk_13_64 : Cond.methodLink "SillHoursLaw" 64 m_Main_turn.1 ∈ am_tbl := (am_U13_ok _ (List.mem_of_getElem? (i := 35) rfl))
theorem lk_13_68 : Cond.methodLink "SillHoursLaw" 68 m_Ref_turn.1 ∈ am_tbl := (am_U26_ok _ (List.mem_of_getElem? (i := 28) rfl))
theorem lk_13_69 : Cond.methodLink "SillHoursLaw" 69 m_Main_water.1 ∈ am_tbl := (am_U14_ok _ (List.mem_of_getElem? (i := 2) rfl))
theorem lk_13_73 : Cond.methodLink "SillHoursLaw" 73 m_Ref_water.1 ∈ am_tbl := (am_U26_ok _ (List.mem_of_getElem? (i := 32) rfl))
theorem lk_13_74 : Cond.methodLink "SillHoursLaw" 74 m_Main_above.1 ∈ am_tbl := (am_U14_ok _ (List.mem_of_getElem? (i := 22) rfl))
theorem lk_13_77 : Cond.methodLink "SillHoursLaw" 77 m_Ref_above.1 ∈ am_tbl := (am_U27_ok _ (List.mem_of_getElem? (i := 11) rfl))
theorem lk_13_78 : Cond.methodLink "SillHoursLaw" 78 m_Main_rise.1 ∈ am_tbl := (am_U14_ok _ (List.mem_of_getElem? (i := 29) rfl))
theorem lk_13_81 : Cond.methodLink "SillHoursLaw" 81 m_Ref_rise.1 ∈ am_tbl := (am_U27_ok _ (List.mem_of_getElem? (i := 18) rfl))
theorem lk_13_82 : Cond.methodLink "SillHoursLaw" 82 m_Main_ebb.1 ∈ am_tbl := (am_U15_ok _ (List.mem_of_getElem? (i := 26) rfl))
theorem lk_13_85 : Cond.methodLink "SillHoursLaw" 85 m_Ref_ebb.1 ∈ am_tbl := (am_U27_ok _ (List.mem_of_getElem? (i := 26) rfl))
theorem lk_13_86 : Cond.methodLink "SillHoursLaw" 86 m_Main_hours.1 ∈ am_tbl := (am_U15_ok _ (List.mem_of_getElem? (i := 30) rfl))
theorem lk_13_89 : Cond.methodLink "SillHoursLaw" 89 m_Ref_hours.1 ∈ am_tbl := (am_U27_ok _ (List.mem_of_getElem? (i := 30) rfl))
theorem lk_13_90 : Cond.methodLink "SillHoursLaw" 90 m_Main_hour.1 ∈ am_tbl := (am_U17_ok _ (List.mem_of_getElem? (i := 30) rfl))
theorem lk_13_94 : Cond.methodLink "SillHoursLaw" 94 m_Ref_hour.1 ∈ am_tbl := (am_U28_ok _ (List.mem_of_getElem? (i := 15) rfl))
theorem lk_13_95 : Cond.methodLink "SillHoursLaw" 95 m_Main_minutes.1 ∈ am_tbl := (am_U17_ok _ (List.mem_of_getElem? (i := 36) rfl))
theorem lk_13_98 : Cond.methodLink "SillHoursLaw" 98 m_Ref_minutes.1 ∈ am_tbl := (am_U28_ok _ (List.mem_of_getElem? (i := 19) rfl))
theorem lk_13_99 : Cond.methodLink "SillHoursLaw" 99 m_Main_good.1 ∈ am_tbl := (am_U18_ok _ (List.mem_of_getElem? (i := 1) rfl))
theorem lk_13_102 : Cond.methodLink "SillHoursLaw" 102 m_Ref_good.1 ∈ am_tbl := (am_U28_ok _ (List.mem_of_getElem? (i := 23) rfl))
theorem lk_13_103 : Cond.methodLink "SillHoursLaw" 103 m_Main_note.1 ∈ am_tbl := (am_U18_ok _ (List.mem_of_getElem? (i := 10) rfl))
theorem lk_13_106 : Cond.methodLink "SillHoursLaw" 106 m_Ref_note.1 ∈ am_tbl := (am_U28_ok _ (List.mem_of_getElem? (i := 27) rfl))
theorem lk_13_107 : Cond.methodLink "SillHoursLaw" 107 m_Main_stops.1 ∈ am_tbl := (am_U19_ok _ (List.mem_of_getElem? (i := 19) rfl))
theorem lk_13_110 : Cond.methodLink "SillHoursLaw" 110 m_Ref_stops.1 ∈ am_tbl := (am_U29_ok _ (List.mem_of_getElem? (i := 12) rfl))
theorem lk_13_111 : Cond.methodLink "SillHoursLaw" 111 m_Main_leg.1 ∈ am_tbl := (am_U19_ok _ (List.mem_of_getElem? (i := 26) rfl))
theorem lk_13_114 : Cond.methodLink "SillHoursLaw" 114 m_Ref_leg.1 ∈ am_tbl := (am_U29_ok _ (List.mem_of_getElem? (i := 19) rfl))
theorem lk_13_115 : Cond.methodLink "SillHoursLaw" 115 m_Main_arrive.1 ∈ am_tbl := (am_U19_ok _ (List.mem_of_getElem? (i := 35) rfl))
theorem lk_13_118 : Cond.methodLink "SillHoursLaw" 118 m_Ref_arrive.1 ∈ am_tbl := (am_U29_ok _ (List.mem_of_getElem? (i := 26) rfl))
theorem lk_13_119 : Cond.methodLink "SillHoursLaw" 119 m_Main_pass.1 ∈ am_tbl := (am_U21_ok _ (List.mem_of_getElem? (i := 13) rfl))
theorem lk_13_122 : Cond.methodLink "SillHoursLaw" 122 m_Ref_pass.1 ∈ am_tbl := (am_U30_ok _ (List.mem_of_getElem? (i := 5) rfl))
theorem lk_13_123 : Cond.methodLink "SillHoursLaw" 123 m_Main_waits.1 ∈ am_tbl := (am_U21_ok _ (List.mem_of_getElem? (i := 17) rfl))
theorem lk_13_126 : Cond.methodLink "SillHoursLaw" 126 m_Ref_waits.1 ∈ am_tbl := (am_U30_ok _ (List.mem_of_getElem? (i := 9) rfl))
theorem lk_13_127 : Cond.methodLink "SillHoursLaw" 127 m_Main_start.1 ∈ am_tbl := (am_U21_ok _ (List.mem_of_getElem? (i := 26) rfl))
theorem lk_13_130 : Cond.methodLink "SillHoursLaw" 130 m_Ref_start.1 ∈ am_tbl := (am_U30_ok _ (List.mem_of_getElem? (i := 13) rfl))
theorem lk_13_131 : Cond.methodLink "SillHoursLaw" 131 m_Main_letter.1 ∈ am_tbl := (am_U21_ok _ (List.mem_of_getElem? (i := 37) rfl))
theorem lk_13_134 : Cond.methodLink "SillHoursLaw" 134 m_Ref_letter.1 ∈ am_tbl := (am_U30_ok _ (List.mem_of_getElem? (i := 23) rfl))
theorem lk_13_135 : Cond.methodLink "SillHoursLaw" 135 m_Main_same.1 ∈ am_tbl := (am_U23_ok _ (List.mem_of_getElem? (i := 3) rfl))
theorem lk_13_138 : Cond.methodLink "SillHoursLaw" 138 m_Ref_same.1 ∈ am_tbl := (am_U30_ok _ (List.mem_of_getElem? (i := 39) rfl))
theorem lk_13_139 : Cond.methodLink "SillHoursLaw" 139 m_Main_status.1 ∈ am_tbl := (am_U23_ok _ (List.mem_of_getElem? (i := 11) rfl))
theorem lk_13_142 : Cond.methodLink "SillHoursLaw" 142 m_Ref_status.1 ∈ am_tbl := (am_U31_ok _ (List.mem_of_getElem? (i := 3) rfl))
theorem lk_12_10 : Cond.methodLink "SillHoursModel" 10 m_Ref_isIn.1 ∈ am_tbl := (am_U23_ok _ (List.mem_of_getElem? (i := 35) rfl))
theorem lk_12_30 : Cond.methodLink "SillHoursModel" 30 m_Ref_firstOf.1 ∈ am_tbl := (am_U26_ok _ (List.mem_of_getElem? (i := 39) rfl))
theorem lk_12_34 : Cond.methodLink "SillHoursModel" 34 m_Ref_lastOf.1 ∈ am_tbl := (am_U27_ok _ (List.mem_of_getElem? (i := 2) rfl))
theorem lk_12_37 : Cond.methodLink "SillHoursModel" 37 m_Ref_turnAt.1 ∈ am_tbl := (am_U27_ok _ (List.mem_of_getElem? (i := 8) rfl))
theorem lk_12_50 : Cond.methodLink "SillHoursModel" 50 m_Ref_heightAt.1 ∈ am_tbl := (am_U27_ok _ (List.mem_of_getElem? (i := 5) rfl))
theorem lk_12_67 : Cond.methodLink "SillHoursModel" 67 m_Ref_findGood3.1 ∈ am_tbl := (am_U28_ok _ (List.mem_of_getElem? (i := 0) rfl))
theorem lk_12_86 : Cond.methodLink "SillHoursModel" 86 m_Ref_isAt.1 ∈ am_tbl := (am_U27_ok _ (List.mem_of_getElem? (i := 15) rfl))
theorem lk_12_95 : Cond.methodLink "SillHoursModel" 95 m_Ref_isNearHigh.1 ∈ am_tbl := (am_U28_ok _ (List.mem_of_getElem? (i := 3) rfl))
theorem lk_12_102 : Cond.methodLink "SillHoursModel" 102 m_Ref_isUnder.1 ∈ am_tbl := (am_U28_ok _ (List.mem_of_getElem? (i := 6) rfl))
theorem lk_12_111 : Cond.methodLink "SillHoursModel" 111 m_Ref_findWindow.1 ∈ am_tbl := (am_U28_ok _ (List.mem_of_getElem? (i := 12) rfl))
theorem lk_12_127 : Cond.methodLink "SillHoursModel" 127 m_Math_max.1 ∈ am_tbl := (am_U27_ok _ (List.mem_of_getElem? (i := 25) rfl))
theorem lk_12_142 : Cond.methodLink "SillHoursModel" 142 m_Ref_isMinute.1 ∈ am_tbl := (am_U26_ok _ (List.mem_of_getElem? (i := 36) rfl))
theorem lk_12_152 : Cond.methodLink "SillHoursModel" 152 m_Ref_prepare.1 ∈ am_tbl := (am_U29_ok _ (List.mem_of_getElem? (i := 36) rfl))
theorem lk_12_155 : Cond.methodLink "SillHoursModel" 155 m_Ref_legOf.1 ∈ am_tbl := (am_U29_ok _ (List.mem_of_getElem? (i := 23) rfl))
theorem lk_12_159 : Cond.methodLink "SillHoursModel" 159 m_Ref_goOn.1 ∈ am_tbl := (am_U29_ok _ (List.mem_of_getElem? (i := 39) rfl))
theorem lk_12_166 : Cond.methodLink "SillHoursModel" 166 m_Ref_canWait.1 ∈ am_tbl := (am_U30_ok _ (List.mem_of_getElem? (i := 2) rfl))
theorem lk_12_169 : Cond.methodLink "SillHoursModel" 169 m_Ref_comeBack.1 ∈ am_tbl := (am_U30_ok _ (List.mem_of_getElem? (i := 20) rfl))
theorem lk_12_179 : Cond.methodLink "SillHoursModel" 179 m_Str_length.1 ∈ am_tbl := (am_U24_ok _ (List.mem_of_getElem? (i := 14) rfl))
theorem lk_12_185 : Cond.methodLink "SillHoursModel" 185 m_Str_charAt.1 ∈ am_tbl := (am_U24_ok _ (List.mem_of_getElem? (i := 15) rfl))
theorem lk_12_189 : Cond.methodLink "SillHoursModel" 189 m_Ref_write.1 ∈ am_tbl := (am_U28_ok _ (List.mem_of_getElem? (i := 37) rfl))
theorem lk_12_197 : Cond.methodLink "SillHoursModel" 197 m_Ref_writeWord.1 ∈ am_tbl := (am_U28_ok _ (List.mem_of_getElem? (i := 34) rfl))
theorem lk_12_201 : Cond.methodLink "SillHoursModel" 201 m_Ref_writeTime.1 ∈ am_tbl := (am_U29_ok _ (List.mem_of_getElem? (i := 3) rfl))
theorem lk_12_204 : Cond.methodLink "SillHoursModel" 204 m_Ref_writeNumber.1 ∈ am_tbl := (am_U29_ok _ (List.mem_of_getElem? (i := 6) rfl))
theorem lk_12_217 : Cond.methodLink "SillHoursModel" 217 m_Ref_findGood2.1 ∈ am_tbl := (am_U27_ok _ (List.mem_of_getElem? (i := 37) rfl))
theorem lk_12_225 : Cond.methodLink "SillHoursModel" 225 m_Ref_writeMinute.1 ∈ am_tbl := (am_U29_ok _ (List.mem_of_getElem? (i := 0) rfl))
theorem lk_12_228 : Cond.methodLink "SillHoursModel" 228 m_Ref_fine.1 ∈ am_tbl := (am_U23_ok _ (List.mem_of_getElem? (i := 28) rfl))
theorem lk_12_231 : Cond.methodLink "SillHoursModel" 231 m_Ref_no.1 ∈ am_tbl := (am_U23_ok _ (List.mem_of_getElem? (i := 25) rfl))
theorem lk_12_243 : Cond.methodLink "SillHoursModel" 243 m_Ref_isSpelled.1 ∈ am_tbl := (am_U24_ok _ (List.mem_of_getElem? (i := 11) rfl))
theorem lk_12_264 : Cond.methodLink "SillHoursModel" 264 m_Ref_wordHere.1 ∈ am_tbl := (am_U24_ok _ (List.mem_of_getElem? (i := 8) rfl))
theorem lk_12_274 : Cond.methodLink "SillHoursModel" 274 m_Ref_next.1 ∈ am_tbl := (am_U24_ok _ (List.mem_of_getElem? (i := 5) rfl))
theorem lk_12_281 : Cond.methodLink "SillHoursModel" 281 m_Ref_goes.1 ∈ am_tbl := (am_U24_ok _ (List.mem_of_getElem? (i := 31) rfl))
theorem lk_12_284 : Cond.methodLink "SillHoursModel" 284 m_Ref_take.1 ∈ am_tbl := (am_U24_ok _ (List.mem_of_getElem? (i := 25) rfl))
theorem lk_12_287 : Cond.methodLink "SillHoursModel" 287 m_Ref_must.1 ∈ am_tbl := (am_U24_ok _ (List.mem_of_getElem? (i := 22) rfl))
theorem lk_12_303 : Cond.methodLink "SillHoursModel" 303 m_Ref_size.1 ∈ am_tbl := (am_U24_ok _ (List.mem_of_getElem? (i := 28) rfl))
theorem lk_12_306 : Cond.methodLink "SillHoursModel" 306 m_Ref_readTurn.1 ∈ am_tbl := (am_U24_ok _ (List.mem_of_getElem? (i := 19) rfl))
theorem lk_12_309 : Cond.methodLink "SillHoursModel" 309 m_Math_floorMod.1 ∈ am_tbl := (am_U25_ok _ (List.mem_of_getElem? (i := 0) rfl))
theorem lk_12_315 : Cond.methodLink "SillHoursModel" 315 Lib.objectInit ∈ am_tbl := (am_U23_ok _ (List.mem_of_getElem? (i := 20) rfl))
theorem lk_12_339 : Cond.methodLink "SillHoursModel" 339 m_Ref_begins.1 ∈ am_tbl := (am_U24_ok _ (List.mem_of_getElem? (i := 2) rfl))
theorem lk_12_342 : Cond.methodLink "SillHoursModel" 342 m_Ref_readTable.1 ∈ am_tbl := (am_U24_ok _ (List.mem_of_getElem? (i := 16) rfl))
theorem lk_12_345 : Cond.methodLink "SillHoursModel" 345 m_Ref_ends.1 ∈ am_tbl := (am_U24_ok _ (List.mem_of_getElem? (i := 34) rfl))
theorem lk_12_349 : Cond.methodLink "SillHoursModel" 349 m_Ref_faultOfTurns.1 ∈ am_tbl := (am_U24_ok _ (List.mem_of_getElem? (i := 37) rfl))
theorem lk_12_352 : Cond.methodLink "SillHoursModel" 352 m_Ref_faulty.1 ∈ am_tbl := (am_U25_ok _ (List.mem_of_getElem? (i := 1) rfl))
theorem lk_12_355 : Cond.methodLink "SillHoursModel" 355 m_Ref_made.1 ∈ am_tbl := (am_U25_ok _ (List.mem_of_getElem? (i := 4) rfl))
theorem lk_12_358 : Cond.methodLink "SillHoursModel" 358 m_Ref_isPort.1 ∈ am_tbl := (am_U25_ok _ (List.mem_of_getElem? (i := 11) rfl))
theorem lk_12_361 : Cond.methodLink "SillHoursModel" 361 m_Ref_refusedUnread.1 ∈ am_tbl := (am_U25_ok _ (List.mem_of_getElem? (i := 14) rfl))
theorem lk_12_364 : Cond.methodLink "SillHoursModel" 364 m_Ref_step.1 ∈ am_tbl := (am_U25_ok _ (List.mem_of_getElem? (i := 24) rfl))
theorem lk_12_367 : Cond.methodLink "SillHoursModel" 367 m_Ref_readShift.1 ∈ am_tbl := (am_U25_ok _ (List.mem_of_getElem? (i := 21) rfl))
theorem lk_12_370 : Cond.methodLink "SillHoursModel" 370 m_Ref_isRightShift.1 ∈ am_tbl := (am_U25_ok _ (List.mem_of_getElem? (i := 27) rfl))
theorem lk_12_373 : Cond.methodLink "SillHoursModel" 373 m_Math_floorDiv.1 ∈ am_tbl := (am_U25_ok _ (List.mem_of_getElem? (i := 30) rfl))
theorem lk_12_376 : Cond.methodLink "SillHoursModel" 376 m_Ref_areTurns.1 ∈ am_tbl := (am_U25_ok _ (List.mem_of_getElem? (i := 31) rfl))
theorem lk_12_379 : Cond.methodLink "SillHoursModel" 379 m_Ref_readStop.1 ∈ am_tbl := (am_U26_ok _ (List.mem_of_getElem? (i := 6) rfl))
theorem lk_12_382 : Cond.methodLink "SillHoursModel" 382 m_Ref_isSill.1 ∈ am_tbl := (am_U26_ok _ (List.mem_of_getElem? (i := 9) rfl))
theorem lk_12_385 : Cond.methodLink "SillHoursModel" 385 m_Ref_first.1 ∈ am_tbl := (am_U27_ok _ (List.mem_of_getElem? (i := 22) rfl))
theorem lk_12_389 : Cond.methodLink "SillHoursModel" 389 m_Ref_isShip.1 ∈ am_tbl := (am_U27_ok _ (List.mem_of_getElem? (i := 34) rfl))
theorem lk_12_392 : Cond.methodLink "SillHoursModel" 392 m_Ref_windows.1 ∈ am_tbl := (am_U28_ok _ (List.mem_of_getElem? (i := 9) rfl))
theorem lk_12_395 : Cond.methodLink "SillHoursModel" 395 m_Ref_writeNote.1 ∈ am_tbl := (am_U28_ok _ (List.mem_of_getElem? (i := 31) rfl))
theorem lk_12_398 : Cond.methodLink "SillHoursModel" 398 m_Ref_tell.1 ∈ am_tbl := (am_U29_ok _ (List.mem_of_getElem? (i := 9) rfl))
theorem lk_12_401 : Cond.methodLink "SillHoursModel" 401 m_Ref_isRoute.1 ∈ am_tbl := (am_U29_ok _ (List.mem_of_getElem? (i := 16) rfl))
theorem lk_12_405 : Cond.methodLink "SillHoursModel" 405 m_Ref_routeWhy.1 ∈ am_tbl := (am_U29_ok _ (List.mem_of_getElem? (i := 30) rfl))
theorem lk_12_408 : Cond.methodLink "SillHoursModel" 408 m_Ref_plan.1 ∈ am_tbl := (am_U29_ok _ (List.mem_of_getElem? (i := 33) rfl))
theorem lk_12_411 : Cond.methodLink "SillHoursModel" 411 m_Ref_latest.1 ∈ am_tbl := (am_U30_ok _ (List.mem_of_getElem? (i := 17) rfl))
theorem lk_12_414 : Cond.methodLink "SillHoursModel" 414 m_Ref_writePort.1 ∈ am_tbl := (am_U30_ok _ (List.mem_of_getElem? (i := 27) rfl))
theorem lk_12_417 : Cond.methodLink "SillHoursModel" 417 m_Ref_writeSill.1 ∈ am_tbl := (am_U30_ok _ (List.mem_of_getElem? (i := 30) rfl))
theorem lk_12_420 : Cond.methodLink "SillHoursModel" 420 m_Ref_writeShip.1 ∈ am_tbl := (am_U30_ok _ (List.mem_of_getElem? (i := 33) rfl))
theorem lk_12_423 : Cond.methodLink "SillHoursModel" 423 m_Ref_writeRoute.1 ∈ am_tbl := (am_U30_ok _ (List.mem_of_getElem? (i := 36) rfl))
theorem lk_15_335 : Cond.methodLink "java/lang/String" 335 m_Str_coder.1 ∈ am_tbl := (am_U6_ok _ (List.mem_of_getElem? (i := 4) rfl))
theorem lk_15_492 : Cond.methodLink "java/lang/String" 492 m_Str_isLatin1.1 ∈ am_tbl := (am_U6_ok _ (List.mem_of_getElem? (i := 18) rfl))
theorem lk_15_495 : Cond.methodLink "java/lang/String" 495 m_Lat_charAt.1 ∈ am_tbl := (am_U6_ok _ (List.mem_of_getElem? (i := 22) rfl))
theorem lk_15_1059 : Cond.methodLink "java/lang/String" 1059 m_Pre_checkIndex.1 ∈ am_tbl := (am_U6_ok _ (List.mem_of_getElem? (i := 28) rfl))
theorem lk_16_9 : Cond.methodLink "java/lang/StringLatin1" 9 m_Str_checkIndex.1 ∈ am_tbl := (am_U6_ok _ (List.mem_of_getElem? (i := 25) rfl))
theorem oi_2 : Cond.instanceMethod Lib.objectInit ∈ am_tbl := (am_U2_ok _ (List.mem_of_getElem? (i := 36) rfl))
theorem oi_3 : Cond.code Lib.objectInit ⟨#[0xb1]⟩ 1 none ∈ am_tbl := (am_U2_ok _ (List.mem_of_getElem? (i := 37) rfl))
theorem cl_11_7 : Cond.classLink "SillHours" 7 (am_cR 9) ∈ am_tbl := (am_U2_ok _ (List.mem_of_getElem? (i := 38) rfl))
theorem cl_11_16 : Cond.classLink "SillHours" 16 (am_cR 3) ∈ am_tbl := (am_U3_ok _ (List.mem_of_getElem? (i := 4) rfl))
theorem cl_11_23 : Cond.classLink "SillHours" 23 (am_cR 4) ∈ am_tbl := (am_U3_ok _ (List.mem_of_getElem? (i := 25) rfl))
theorem cl_11_32 : Cond.classLink "SillHours" 32 (am_cR 2) ∈ am_tbl := (am_U3_ok _ (List.mem_of_getElem? (i := 33) rfl))
theorem cl_11_38 : Cond.classLink "SillHours" 38 (am_cR 7) ∈ am_tbl := (am_U3_ok _ (List.mem_of_getElem? (i := 34) rfl))
theorem cl_11_44 : Cond.classLink "SillHours" 44 (am_cR 6) ∈ am_tbl := (am_U3_ok _ (List.mem_of_getElem? (i := 35) rfl))
theorem cl_11_54 : Cond.classLink "SillHours" 54 (am_cR 10) ∈ am_tbl := (am_U3_ok _ (List.mem_of_getElem? (i := 36) rfl))
theorem cl_11_61 : Cond.classLink "SillHours" 61 (am_cR 8) ∈ am_tbl := (am_U4_ok _ (List.mem_of_getElem? (i := 8) rfl))
theorem cl_11_68 : Cond.classLink "SillHours" 68 (am_cR 1) ∈ am_tbl := (am_U4_ok _ (List.mem_of_getElem? (i := 10) rfl))
theorem cl_11_75 : Cond.classLink "SillHours" 75 (am_cR 0) ∈ am_tbl := (am_U4_ok _ (List.mem_of_getElem? (i := 19) rfl))
theorem cl_1_9 : Cond.classLink "SillHours$Planner" 9 (am_cR 10) ∈ am_tbl := (am_U4_ok _ (List.mem_of_getElem? (i := 16) rfl))
theorem cl_1_18 : Cond.classLink "SillHours$Planner" 18 (am_cR 8) ∈ am_tbl := (am_U4_ok _ (List.mem_of_getElem? (i := 17) rfl))
theorem cl_3_24 : Cond.classLink "SillHours$PortDraft" 24 (am_cR 5) ∈ am_tbl := (am_U3_ok _ (List.mem_of_getElem? (i := 9) rfl))
theorem cl_3_34 : Cond.classLink "SillHours$PortDraft" 34 (am_cR 2) ∈ am_tbl := (am_U3_ok _ (List.mem_of_getElem? (i := 16) rfl))
theorem cl_4_22 : Cond.classLink "SillHours$Route" 22 (am_cR 7) ∈ am_tbl := (am_U3_ok _ (List.mem_of_getElem? (i := 32) rfl))
theorem cl_10_7 : Cond.classLink "SillHours$Windows" 7 (am_cR 8) ∈ am_tbl := (am_U4_ok _ (List.mem_of_getElem? (i := 1) rfl))
theorem cl_13_7 : Cond.classLink "SillHoursLaw" 7 (am_cR 11) ∈ am_tbl := (am_U2_ok _ (List.mem_of_getElem? (i := 30) rfl))
theorem cl_13_10 : Cond.classLink "SillHoursLaw" 10 (am_cR 12) ∈ am_tbl := (am_U23_ok _ (List.mem_of_getElem? (i := 15) rfl))
theorem in_0 : Cond.instantiable (am_cR 0) (am_cN 0) ∈ am_tbl := (am_U4_ok _ (List.mem_of_getElem? (i := 20) rfl))
theorem ii_0 : Cond.initialized (am_cR 0) ∈ am_tbl := (am_U2_ok _ (List.mem_of_getElem? (i := 23) rfl))
theorem in_1 : Cond.instantiable (am_cR 1) (am_cN 1) ∈ am_tbl := (am_U4_ok _ (List.mem_of_getElem? (i := 11) rfl))
theorem ii_1 : Cond.initialized (am_cR 1) ∈ am_tbl := (am_U2_ok _ (List.mem_of_getElem? (i := 22) rfl))
theorem in_2 : Cond.instantiable (am_cR 2) (am_cN 2) ∈ am_tbl := (am_U3_ok _ (List.mem_of_getElem? (i := 17) rfl))
theorem ii_2 : Cond.initialized (am_cR 2) ∈ am_tbl := (am_U2_ok _ (List.mem_of_getElem? (i := 17) rfl))
theorem in_3 : Cond.instantiable (am_cR 3) (am_cN 3) ∈ am_tbl := (am_U3_ok _ (List.mem_of_getElem? (i := 5) rfl))
theorem ii_3 : Cond.initialized (am_cR 3) ∈ am_tbl := (am_U2_ok _ (List.mem_of_getElem? (i := 15) rfl))
theorem in_4 : Cond.instantiable (am_cR 4) (am_cN 4) ∈ am_tbl := (am_U3_ok _ (List.mem_of_getElem? (i := 26) rfl))
theorem ii_4 : Cond.initialized (am_cR 4) ∈ am_tbl := (am_U2_ok _ (List.mem_of_getElem? (i := 19) rfl))
theorem in_5 : Cond.instantiable (am_cR 5) (am_cN 5) ∈ am_tbl := (am_U3_ok _ (List.mem_of_getElem? (i := 10) rfl))
theorem ii_5 : Cond.initialized (am_cR 5) ∈ am_tbl := (am_U2_ok _ (List.mem_of_getElem? (i := 16) rfl))
theorem in_6 : Cond.instantiable (am_cR 6) (am_cN 6) ∈ am_tbl := (am_U11_ok _ (List.mem_of_getElem? (i := 28) rfl))
theorem ii_6 : Cond.initialized (am_cR 6) ∈ am_tbl := (am_U2_ok _ (List.mem_of_getElem? (i := 29) rfl))
theorem in_7 : Cond.instantiable (am_cR 7) (am_cN 7) ∈ am_tbl := (am_U11_ok _ (List.mem_of_getElem? (i := 2) rfl))
theorem ii_7 : Cond.initialized (am_cR 7) ∈ am_tbl := (am_U2_ok _ (List.mem_of_getElem? (i := 28) rfl))
theorem in_8 : Cond.instantiable (am_cR 8) (am_cN 8) ∈ am_tbl := (am_U4_ok _ (List.mem_of_getElem? (i := 2) rfl))
theorem ii_8 : Cond.initialized (am_cR 8) ∈ am_tbl := (am_U2_ok _ (List.mem_of_getElem? (i := 21) rfl))
theorem in_9 : Cond.instantiable (am_cR 9) (am_cN 9) ∈ am_tbl := (am_U2_ok _ (List.mem_of_getElem? (i := 39) rfl))
theorem ii_9 : Cond.initialized (am_cR 9) ∈ am_tbl := (am_U2_ok _ (List.mem_of_getElem? (i := 14) rfl))
theorem in_10 : Cond.instantiable (am_cR 10) (am_cN 10) ∈ am_tbl := (am_U3_ok _ (List.mem_of_getElem? (i := 37) rfl))
theorem ii_10 : Cond.initialized (am_cR 10) ∈ am_tbl := (am_U2_ok _ (List.mem_of_getElem? (i := 20) rfl))
theorem in_11 : Cond.instantiable (am_cR 11) (am_cN 11) ∈ am_tbl := (am_U2_ok _ (List.mem_of_getElem? (i := 31) rfl))
theorem ii_11 : Cond.initialized (am_cR 11) ∈ am_tbl := (am_U2_ok _ (List.mem_of_getElem? (i := 13) rfl))
theorem in_12 : Cond.instantiable (am_cR 12) (am_cN 12) ∈ am_tbl := (am_U23_ok _ (List.mem_of_getElem? (i := 16) rfl))
theorem ii_12 : Cond.initialized (am_cR 12) ∈ am_tbl := (am_U2_ok _ (List.mem_of_getElem? (i := 24) rfl))
theorem ac_int : Cond.arrayClass (newarray.typeOf .int) ∈ am_tbl := (am_U3_ok _ (List.mem_of_getElem? (i := 15) rfl))
theorem ac_boolean : Cond.arrayClass (newarray.typeOf .boolean) ∈ am_tbl := (am_U3_ok _ (List.mem_of_getElem? (i := 14) rfl))
theorem ac_byte : Cond.arrayClass (newarray.typeOf .byte) ∈ am_tbl := (am_U3_ok _ (List.mem_of_getElem? (i := 3) rfl))
theorem ac_char : Cond.arrayClass (newarray.typeOf .char) ∈ am_tbl := (am_U4_ok _ (List.mem_of_getElem? (i := 24) rfl))
