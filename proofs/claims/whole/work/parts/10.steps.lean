/-- links of fields: entry, (class * 100 + field) * 4 + kind (0 int, 1 reference, 2 boolean), place of the word -/
def am_fl (c : Nat) : List (Nat × Nat × Nat) := match c with
  | 0 => [(9, 1, 334), (13, 4, 335)]
  | 1 => [(12, 401, 306), (23, 405, 307), (27, 409, 308), (30, 413, 309), (33, 417, 310), (38, 421, 311), (42, 425, 312)]
  | 2 => [(19, 800, 179), (22, 805, 180), (26, 809, 181), (30, 813, 182), (7, 816, 183)]
  | 3 => [(9, 1201, 195), (13, 1205, 196), (17, 1209, 197), (20, 1212, 198), (27, 1217, 199), (31, 1221, 200), (39, 1225, 201)]
  | 4 => [(19, 1600, 226), (24, 1605, 227), (28, 1609, 228), (32, 1613, 229), (35, 1617, 230), (38, 1621, 231), (7, 1624, 232)]
  | 5 => [(7, 2000, 152), (13, 2004, 153), (16, 2008, 154), (19, 2012, 155), (22, 2016, 156)]
  | 6 => [(7, 2400, 741), (13, 2404, 742), (16, 2408, 743)]
  | 7 => [(22, 2801, 695), (9, 2804, 696), (13, 2808, 697), (16, 2812, 698), (19, 2816, 699)]
  | 8 => [(19, 3200, 267), (22, 3205, 268), (26, 3209, 269), (7, 3212, 270)]
  | 9 => [(9, 3601, 126), (13, 3604, 127), (17, 3608, 128), (20, 3614, 129)]
  | 10 => [(14, 4001, 280), (18, 4005, 281), (21, 4009, 282), (24, 4014, 283)]
  | 11 => [(10, 4401, 342), (19, 4405, 343), (28, 4409, 344), (34, 4413, 345), (40, 4417, 346), (46, 4421, 347), (50, 4425, 348), (57, 4429, 349), (64, 4433, 350), (71, 4437, 351), (78, 4441, 352), (82, 4444, 353), (86, 4448, 354), (89, 4452, 355), (92, 4456, 356), (95, 4460, 357), (98, 4464, 358), (101, 4468, 359)]
  | 12 => [(240, 4801, 1266), (255, 4804, 1267), (1, 4808, 1268), (278, 4812, 1269), (271, 4816, 1270), (7, 4820, 1271), (27, 4825, 1272), (23, 4829, 1273), (41, 4833, 1274), (54, 4837, 1275), (14, 4840, 1276), (58, 4845, 1277), (80, 4849, 1278), (71, 4853, 1279), (89, 4857, 1280), (92, 4861, 1281), (17, 4864, 1282), (83, 4869, 1283), (99, 4873, 1284), (118, 4877, 1285), (20, 4880, 1286), (121, 4885, 1287), (124, 4889, 1288), (139, 4893, 1289), (146, 4897, 1290), (115, 4901, 1291), (44, 4904, 1292), (47, 4908, 1293), (64, 4913, 1294), (74, 4916, 1295), (77, 4920, 1296), (61, 4924, 1297), (105, 4928, 1298), (108, 4932, 1299), (132, 4937, 1300), (136, 4941, 1301), (149, 4945, 1302), (163, 4949, 1303), (173, 4953, 1304), (176, 4956, 1305), (321, 4961, 1306), (234, 4964, 1307), (237, 4968, 1308), (258, 4972, 1309), (261, 4976, 1310), (267, 4982, 1311), (294, 4984, 1312), (291, 4989, 1313), (297, 4993, 1314), (300, 4997, 1315), (312, 5001, 1316), (324, 5005, 1317), (327, 5009, 1318), (330, 5013, 1319), (333, 5017, 1320), (336, 5021, 1321)]
  | _ => []
def am_il (c : Nat) : List (Nat × Int32 × Nat) := match c with
  | 1 => [(107, 1000000, 1132), (106, -2147483648, 1143), (139, -1000000, 1191)]
  | 8 => [(29, -2147483648, 912)]
  | 11 => [(278, -2147483648, 917), (310, 99999, 1109)]
  | 12 => [(404, 99999, 1744)]
  | _ => []
def am_xc (x : Nat) : Nat := x / 4 / 100
def am_xs (x : Nat) : Nat := x / 4 % 100
def am_flw (c : Nat) (q : Nat × Nat × Nat) : Cond := .fieldLink (am_cR c) q.1 (am_cT (am_xc q.2.1) (am_xs q.2.1)).1 (am_cT (am_xc q.2.1) (am_xs q.2.1)).2.1 (am_cT (am_xc q.2.1) (am_xs q.2.1)).2.2.1
def am_flt (x : Nat) : Bool := decide (am_xc x < 13) && decide (am_xs x < am_cN (am_xc x)) && (if x % 4 = 1 then am_ir (am_fy (am_xc x) (am_xs x)) else if x % 4 = 2 then decide (am_fy (am_xc x) (am_xs x) = .boolean) else decide (am_fy (am_xc x) (am_xs x) = .int))
set_option maxRecDepth 100000 in
theorem am_fl_ok : ∀ c, c < 18 → ((am_fl c).all (fun q => decide (lw_tbl[q.2.2]? = some (am_flw c q)) && goodWord (am_flw c q) && am_flt q.2.1)) = true := by decide +kernel
theorem am_fl_use {c : Nat} (hc : c < 18) {idx x : Nat} (h : (am_fl c).any (fun q => q.1 == idx && q.2.1 == x) = true) : Cond.fieldLink (am_cR c) idx (am_cT (am_xc x) (am_xs x)).1 (am_cT (am_xc x) (am_xs x)).2.1 (am_cT (am_xc x) (am_xs x)).2.2.1 ∈ am_tbl ∧ am_flt x = true := by
  obtain ⟨q, hq, h2⟩ := List.any_eq_true.mp h
  have h3 := List.all_eq_true.mp (am_fl_ok c hc) q hq
  obtain ⟨i, y, pl⟩ := q
  simp only [Bool.and_eq_true, beq_iff_eq] at h2 h3
  obtain ⟨rfl, rfl⟩ := h2
  exact ⟨am_wd pl (of_decide_eq_true h3.1.1) h3.1.2, h3.2⟩
set_option maxRecDepth 100000 in
theorem am_il_ok : ∀ c, c < 18 → ((am_il c).all (fun q => decide (lw_tbl[q.2.2]? = some (.constant (am_cR c) q.1 q.2.1)) && goodWord (.constant (am_cR c) q.1 q.2.1))) = true := by decide +kernel
theorem am_il_use {c : Nat} (hc : c < 18) {idx : Nat} {v : Int32} (h : (am_il c).any (fun q => q.1 == idx && q.2.1 == v) = true) : Cond.constant (am_cR c) idx v ∈ am_tbl := by
  obtain ⟨q, hq, h2⟩ := List.any_eq_true.mp h
  have h3 := List.all_eq_true.mp (am_il_ok c hc) q hq
  obtain ⟨i, y, pl⟩ := q
  simp only [Bool.and_eq_true, beq_iff_eq] at h2 h3
  obtain ⟨rfl, rfl⟩ := h2
  exact am_wd pl (of_decide_eq_true h3.1) h3.2
theorem am_gs1 : Cond.fieldLink "java/lang/String" 38 "java/lang/String" "COMPACT_STRINGS" "Z" ∈ am_tbl := am_wd 466 (by decide +kernel) (by decide +kernel)
theorem am_gs2 : Cond.fieldLink "java/lang/String" 1053 "jdk/internal/util/Preconditions" "SIOOBE_FORMATTER" "Ljava/util/function/BiFunction;" ∈ am_tbl := am_wd 489 (by decide +kernel) (by decide +kernel)
theorem am_gs3 : Cond.fieldLink RX2 97 RX2 "TWELFTHS_OVER" "[I" ∈ am_tbl := am_wd 865 (by decide +kernel) (by decide +kernel)
theorem am_gs4 : Cond.fieldLink RX2 100 RX2 "TWELFTHS_NEXT" "[I" ∈ am_tbl := am_wd 867 (by decide +kernel) (by decide +kernel)
theorem am_gsV : Cond.fieldLink "java/lang/String" 9 "java/lang/String" "value" "[B" ∈ am_tbl := am_wd 1814 (by decide +kernel) (by decide +kernel)
theorem am_gsC : Cond.fieldLink "java/lang/String" 15 "java/lang/String" "coder" "B" ∈ am_tbl := am_wd 1815 (by decide +kernel) (by decide +kernel)
/-- an instruction at its place: pc, instruction, length, a number of mine, a value of mine -/
abbrev am_E : Type := Nat × Instr × Nat × Nat × Int32
def am_okx (c : Nat) (ini : Bool) (i : Instr) (len x : Nat) (v : Int32) : Bool := match i with
  | .iconst n => decide (len = 1) && decide (Int32.ofInt n = v)
  | .bipush n => decide (len = 2) && decide ((Int8.ofInt n).toInt32 = v)
  | .sipush n => decide (len = 3) && decide ((Int16.ofInt n).toInt32 = v)
  | .ldc k => decide (len = 2) && (if x = 0 then (am_il c).any (fun q => q.1 == k && q.2.1 == v) else (match am_SL[x - 1]? with | some q => decide (q.1 = am_cR c) && decide (q.2.1 = k) | none => false))
  | .ldc_w k => decide (len = 3) && (am_il c).any (fun q => q.1 == k && q.2.1 == v)
  | .aconst_null => decide (len = 1)
  | .iload_n _ => decide (len = 1)
  | .aload_n _ => decide (len = 1)
  | .iload _ => decide (len = 2)
  | .aload _ => decide (len = 2)
  | .istore_n _ => decide (len = 1)
  | .astore_n _ => decide (len = 1)
  | .istore _ => decide (len = 2)
  | .astore _ => decide (len = 2)
  | .iinc _ z => decide (len = 3) && decide (Int32.ofInt z = v)
  | .iadd => decide (len = 1)
  | .isub => decide (len = 1)
  | .imul => decide (len = 1)
  | .idiv => decide (len = 1)
  | .irem => decide (len = 1)
  | .ineg => decide (len = 1)
  | .iand => decide (len = 1)
  | .ixor => decide (len = 1)
  | .ishr => decide (len = 1)
  | .iushr => decide (len = 1)
  | .i2b => decide (len = 1)
  | .i2c => decide (len = 1)
  | .dup => decide (len = 1)
  | .pop => decide (len = 1)
  | .goto off => decide (len = 3) && decide (v = Int32.ofInt off)
  | .getfield k => decide (len = 3) && (if x = 100001 then decide (c = 15) && decide (k = 9) else if x = 100002 then decide (c = 15) && decide (k = 15) else (am_fl c).any (fun q => q.1 == k && q.2.1 == x))
  | .putfield k => decide (len = 3) && (am_fl c).any (fun q => q.1 == k && q.2.1 == x) && (decide ((am_cT (am_xc x) (am_xs x)).2.2.2 = false) || (ini && decide ((am_cT (am_xc x) (am_xs x)).2.2.2 = true) && decide ((am_cT (am_xc x) (am_xs x)).1 = am_cR c)))
  | .getstatic k => decide (len = 3) && ((decide (x = 1) && decide (c = 15) && decide (k = 38)) || (decide (x = 2) && decide (c = 15) && decide (k = 1053)) || (decide (x = 3) && decide (c = 2) && decide (k = 97)) || (decide (x = 4) && decide (c = 2) && decide (k = 100)))
  | .iaload => decide (len = 1)
  | .baload => decide (len = 1)
  | .caload => decide (len = 1)
  | .aaload => decide (len = 1)
  | .iastore => decide (len = 1)
  | .bastore => decide (len = 1)
  | .castore => decide (len = 1)
  | .aastore => decide (len = 1)
  | .arraylength => decide (len = 1)
  | _ => false
def am_ok (c : Nat) (ini : Bool) (cc : ByteArray) (e : am_E) : Bool := decide (decode cc e.1 = .ok (e.2.1, e.2.2.1)) && am_okx c ini e.2.1 e.2.2.1 e.2.2.2.1 e.2.2.2.2 && (match e.2.1 with | .goto off => decide (0 ≤ (e.1 : Int) + off) | _ => true)
/-- where it goes on -/
def am_nx (e : am_E) : Nat := match e.2.1 with
  | .goto off => ((e.1 : Int) + off).toNat
  | _ => e.1 + e.2.2.1
/-- what it does to locals, stack and heap, and what it asks -/
def am_stp (e : am_E) (al as : List Value) (h : am_H) (k : List Value → List Value → am_H → Prop) : Prop := match e.2.1 with
  | .iconst _ => k al (.int e.2.2.2.2 :: as) h
  | .bipush _ => k al (.int e.2.2.2.2 :: as) h
  | .sipush _ => k al (.int e.2.2.2.2 :: as) h
  | .ldc _ => if e.2.2.2.1 = 0 then k al (.int e.2.2.2.2 :: as) h else k al (.retAddr (e.2.2.2.1 - 1) :: as) h
  | .ldc_w _ => k al (.int e.2.2.2.2 :: as) h
  | .aconst_null => k al (.null :: as) h
  | .iload_n n => match al[n.val]? with | some (.int y) => k al (.int y :: as) h | _ => False
  | .iload n => match al[n]? with | some (.int y) => k al (.int y :: as) h | _ => False
  | .aload_n n => match al[n.val]? with | some (.ref y) => k al (.ref y :: as) h | some .null => k al (.null :: as) h | some (.retAddr y) => am_isC y = true ∧ k al (.retAddr y :: as) h | _ => False
  | .aload n => match al[n]? with | some (.ref y) => k al (.ref y :: as) h | some .null => k al (.null :: as) h | _ => False
  | .istore_n n => match as with | .int y :: r => if n.val < al.length then k (al.set n.val (.int y)) r h else False | _ => False
  | .istore n => match as with | .int y :: r => if n < al.length then k (al.set n (.int y)) r h else False | _ => False
  | .astore_n n => match as with | .ref y :: r => if n.val < al.length then k (al.set n.val (.ref y)) r h else False | .null :: r => if n.val < al.length then k (al.set n.val .null) r h else False | _ => False
  | .astore n => match as with | .ref y :: r => if n < al.length then k (al.set n (.ref y)) r h else False | .null :: r => if n < al.length then k (al.set n .null) r h else False | _ => False
  | .iinc n _ => match al[n]? with | some (.int y) => k (al.set n (.int (y + e.2.2.2.2))) as h | _ => False
  | .iadd => match as with | .int y :: .int x :: r => k al (.int (x + y) :: r) h | _ => False
  | .isub => match as with | .int y :: .int x :: r => k al (.int (x - y) :: r) h | _ => False
  | .imul => match as with | .int y :: .int x :: r => k al (.int (x * y) :: r) h | _ => False
  | .idiv => match as with | .int y :: .int x :: r => ¬ y = 0 ∧ k al (.int (x / y) :: r) h | _ => False
  | .irem => match as with | .int y :: .int x :: r => ¬ y = 0 ∧ k al (.int (x % y) :: r) h | _ => False
  | .ineg => match as with | .int x :: r => k al (.int (-x) :: r) h | _ => False
  | .iand => match as with | .int y :: .int x :: r => k al (.int (x &&& y) :: r) h | _ => False
  | .ixor => match as with | .int y :: .int x :: r => k al (.int (x ^^^ y) :: r) h | _ => False
  | .ishr => match as with | .int y :: .int x :: r => k al (.int (x >>> (y &&& 31)) :: r) h | _ => False
  | .iushr => match as with | .int y :: .int x :: r => k al (.int (x.toUInt32 >>> (y.toUInt32 &&& Int32.toUInt32 31)).toInt32 :: r) h | _ => False
  | .i2b => match as with | .int x :: r => k al (.int x.toInt8.toInt32 :: r) h | _ => False
  | .i2c => match as with | .int x :: r => k al (.int (x.toUInt32 % 65536).toInt32 :: r) h | _ => False
  | .dup => match as with | .int x :: r => k al (.int x :: .int x :: r) h | .ref x :: r => k al (.ref x :: .ref x :: r) h | _ => False
  | .pop => match as with | .int _ :: r => k al r h | _ => False
  | .goto _ => k al as h
  | .getfield _ => match as with
    | .ref a :: r => if e.2.2.2.1 < 100000 then am_tg h a = (am_xc e.2.2.2.1, am_cN (am_xc e.2.2.2.1)) ∧ (if e.2.2.2.1 % 4 = 1 then (if e.2.2.2.2 = 0 then ∃ b, am_P h a (am_xs e.2.2.2.1) = some b ∧ k al (.ref b :: r) h else k al (am_rv (am_P h a (am_xs e.2.2.2.1)) :: r) h) else k al (.int (am_I h a (am_xs e.2.2.2.1)) :: r) h) else False
    | .retAddr j :: r => j < 30 ∧ (if e.2.2.2.1 = 100001 then k al (.retAddr (100 + j) :: r) h else if e.2.2.2.1 = 100002 then k al (.int 0 :: r) h else False)
    | _ => False
  | .putfield _ => match as with
    | .int y :: .ref a :: r => am_tg h a = (am_xc e.2.2.2.1, am_cN (am_xc e.2.2.2.1)) ∧ (if e.2.2.2.1 % 4 = 1 then False else if e.2.2.2.1 % 4 = 2 then am_b01 y ∧ k al r (am_si h a (am_xs e.2.2.2.1) y) else k al r (am_si h a (am_xs e.2.2.2.1) y))
    | .ref b :: .ref a :: r => am_tg h a = (am_xc e.2.2.2.1, am_cN (am_xc e.2.2.2.1)) ∧ (if e.2.2.2.1 % 4 = 1 then k al r (am_sp h a (am_xs e.2.2.2.1) (some b)) else False)
    | .null :: .ref a :: r => am_tg h a = (am_xc e.2.2.2.1, am_cN (am_xc e.2.2.2.1)) ∧ (if e.2.2.2.1 % 4 = 1 then k al r (am_sp h a (am_xs e.2.2.2.1) none) else False)
    | _ => False
  | .getstatic _ => if e.2.2.2.1 = 1 then k al (.int 1 :: as) h else if e.2.2.2.1 = 2 then k al (.retAddr 300 :: as) h else if e.2.2.2.1 = 3 then k al (.retAddr 200 :: as) h else k al (.retAddr 201 :: as) h
  | .iaload => match as with
    | .int i :: .ref a :: r => (am_tg h a).1 = 20 ∧ vp_in i (am_tg h a).2 ∧ k al (.int (am_I h a i.toNatClampNeg) :: r) h
    | .int i :: .retAddr c :: r => (c = 200 ∨ c = 201) ∧ vp_in i (am_cb c).length ∧ k al (.int ((am_cb c).getD i.toNatClampNeg 0) :: r) h
    | _ => False
  | .baload => match as with
    | .int i :: .ref a :: r => (am_tg h a).1 = e.2.2.2.1 ∧ (e.2.2.2.1 = 21 ∨ e.2.2.2.1 = 22) ∧ vp_in i (am_tg h a).2 ∧ k al (.int (am_I h a i.toNatClampNeg) :: r) h
    | .int i :: .retAddr c :: r => (100 ≤ c ∧ c < 130) ∧ vp_in i (am_cb c).length ∧ k al (.int ((am_cb c).getD i.toNatClampNeg 0) :: r) h
    | _ => False
  | .caload => match as with | .int i :: .ref a :: r => (am_tg h a).1 = 23 ∧ vp_in i (am_tg h a).2 ∧ k al (.int (am_I h a i.toNatClampNeg) :: r) h | _ => False
  | .aaload => match as with
    | .int i :: .ref a :: r => (am_tg h a).1 = e.2.2.2.1 ∧ (e.2.2.2.1 ∈ am_ks ∧ 30 ≤ e.2.2.2.1) ∧ vp_in i (am_tg h a).2 ∧ (if e.2.2.2.2 = 0 then ∃ b, am_P h a i.toNatClampNeg = some b ∧ k al (.ref b :: r) h else k al (am_rv (am_P h a i.toNatClampNeg) :: r) h)
    | _ => False
  | .iastore => match as with | .int y :: .int i :: .ref a :: r => (am_tg h a).1 = 20 ∧ vp_in i (am_tg h a).2 ∧ k al r (am_si h a i.toNatClampNeg y) | _ => False
  | .bastore => match as with
    | .int y :: .int i :: .ref a :: r => (am_tg h a).1 = e.2.2.2.1 ∧ vp_in i (am_tg h a).2 ∧ (if e.2.2.2.1 = 21 then am_b01 y ∧ k al r (am_si h a i.toNatClampNeg y) else if e.2.2.2.1 = 22 then narrow .byte (.int y) = .int y ∧ k al r (am_si h a i.toNatClampNeg y) else False)
    | _ => False
  | .castore => match as with | .int y :: .int i :: .ref a :: r => (am_tg h a).1 = 23 ∧ vp_in i (am_tg h a).2 ∧ narrow .char (.int y) = .int y ∧ k al r (am_si h a i.toNatClampNeg y) | _ => False
  | .aastore => match as with
    | .ref b :: .int i :: .ref a :: r => am_tg h b = (e.2.2.2.1, (am_tg h b).2) ∧ (am_tg h a).1 = 30 + e.2.2.2.1 ∧ (e.2.2.2.1 = 2 ∨ e.2.2.2.1 = 4 ∨ e.2.2.2.1 = 6 ∨ e.2.2.2.1 = 7 ∨ e.2.2.2.1 = 8) ∧ vp_in i (am_tg h a).2 ∧ k al r (am_sp h a i.toNatClampNeg (some b))
    | _ => False
  | .arraylength => match as with | .retAddr c :: r => (c = 200 ∨ c = 201 ∨ (100 ≤ c ∧ c < 130)) ∧ k al (.int (Int32.ofNat (am_cb c).length) :: r) h | _ => False
  | _ => False
def am_blk : List am_E → List Value → List Value → am_H → (List Value → List Value → am_H → Prop) → Prop
  | [], al, as, h, k => k al as h
  | e :: es, al, as, h, k => am_stp e al as h (fun al' as' h' => am_blk es al' as' h' k)
def am_ch : Nat → List am_E → Nat → Bool
  | pc, [], pc' => pc == pc'
  | pc, e :: es, pc' => e.1 == pc && am_ch (am_nx e) es pc'
