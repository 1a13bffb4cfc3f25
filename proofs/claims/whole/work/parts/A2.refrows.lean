/-! the reference's constructor -/
theorem cl_12_320 : Cond.classLink m_Ref_init.1.cls 320 "[[Z" ∈ am_tbl := am_wd 1264 (by decide +kernel) (by decide +kernel)
theorem dc_Ref_init_173 : decode m_Ref_init.2.1 173 = .ok (.multianewarray 320 2, 4) := by decide +kernel
def bk_Ref_init_177_1 : List am_E := [(177, .putfield 132, 3, 4937, 0)]
theorem bk_Ref_init_177_1_ok : bk_Ref_init_177_1.all (am_ok 12 true m_Ref_init.2.1) = true := by decide +kernel
set_option maxRecDepth 20000 in
theorem sr_167 {kc ks : Nat} (a0 : Nat) (h : am_H) (Q : Option Value → am_H → Prop) (t : (am_tg (am_gr h 8 13500 8) a0 = (12, 56) ∧ am_EI m_Ref_init kc ks 180 [.ref a0] [] (am_sp (am_gr h 8 13500 8) a0 34 (some (am_sz h))) Q)) : am_EI m_Ref_init (kc + (1 + 8)) (ks + (8 + 8 * 13500)) 167 [.ref a0] [] h Q := by
  refine am_blk_ok (c := 12) (ini := true) (by decide) rfl (fun _ => rfl) bk_Ref_init_167_3 _ 173 _ _ _ bk_Ref_init_167_3_ok rfl ?_
  show am_EI m_Ref_init (kc + (1 + 8)) (ks + (8 + 8 * 13500)) 173 [.ref a0] [.int 13500, .int 8, .ref a0] h Q
  refine am_grid (kc := kc) (ks := ks) (N := 8) (Mn := 13500) dc_Ref_init_173 cl_12_320 ac_boolean (by decide) (by decide) (by decide) (by decide) (by decide) (by decide) ?_
  refine am_blk_ok (c := 12) (ini := true) (by decide) rfl (fun _ => rfl) bk_Ref_init_177_1 _ 180 _ _ _ bk_Ref_init_177_1_ok rfl ?_
  exact t
theorem dc_Ref_init_186 : decode m_Ref_init.2.1 186 = .ok (.multianewarray 320 2, 4) := by decide +kernel
def bk_Ref_init_180_3 : List am_E := [(180, .aload_n 0, 1, 0, 0), (181, .bipush 8, 2, 0, 8), (183, .sipush 13500, 3, 0, 13500)]
theorem bk_Ref_init_180_3_ok : bk_Ref_init_180_3.all (am_ok 12 true m_Ref_init.2.1) = true := by decide +kernel
def bk_Ref_init_190_1 : List am_E := [(190, .putfield 136, 3, 4941, 0)]
theorem bk_Ref_init_190_1_ok : bk_Ref_init_190_1.all (am_ok 12 true m_Ref_init.2.1) = true := by decide +kernel
set_option maxRecDepth 20000 in
theorem sr_180 {kc ks : Nat} (a0 : Nat) (h : am_H) (Q : Option Value → am_H → Prop) (t : (am_tg (am_gr h 8 13500 8) a0 = (12, 56) ∧ am_EI m_Ref_init kc ks 193 [.ref a0] [] (am_sp (am_gr h 8 13500 8) a0 35 (some (am_sz h))) Q)) : am_EI m_Ref_init (kc + (1 + 8)) (ks + (8 + 8 * 13500)) 180 [.ref a0] [] h Q := by
  refine am_blk_ok (c := 12) (ini := true) (by decide) rfl (fun _ => rfl) bk_Ref_init_180_3 _ 186 _ _ _ bk_Ref_init_180_3_ok rfl ?_
  show am_EI m_Ref_init (kc + (1 + 8)) (ks + (8 + 8 * 13500)) 186 [.ref a0] [.int 13500, .int 8, .ref a0] h Q
  refine am_grid (kc := kc) (ks := ks) (N := 8) (Mn := 13500) dc_Ref_init_186 cl_12_320 ac_boolean (by decide) (by decide) (by decide) (by decide) (by decide) (by decide) ?_
  refine am_blk_ok (c := 12) (ini := true) (by decide) rfl (fun _ => rfl) bk_Ref_init_190_1 _ 193 _ _ _ bk_Ref_init_190_1_ok rfl ?_
  exact t
theorem dc_Ref_init_199 : decode m_Ref_init.2.1 199 = .ok (.multianewarray 320 2, 4) := by decide +kernel
def bk_Ref_init_193_3 : List am_E := [(193, .aload_n 0, 1, 0, 0), (194, .bipush 8, 2, 0, 8), (196, .sipush 13500, 3, 0, 13500)]
theorem bk_Ref_init_193_3_ok : bk_Ref_init_193_3.all (am_ok 12 true m_Ref_init.2.1) = true := by decide +kernel
def bk_Ref_init_203_1 : List am_E := [(203, .putfield 149, 3, 4945, 0)]
theorem bk_Ref_init_203_1_ok : bk_Ref_init_203_1.all (am_ok 12 true m_Ref_init.2.1) = true := by decide +kernel
set_option maxRecDepth 20000 in
theorem sr_193 {kc ks : Nat} (a0 : Nat) (h : am_H) (Q : Option Value → am_H → Prop) (t : (am_tg (am_gr h 8 13500 8) a0 = (12, 56) ∧ am_EI m_Ref_init kc ks 206 [.ref a0] [] (am_sp (am_gr h 8 13500 8) a0 36 (some (am_sz h))) Q)) : am_EI m_Ref_init (kc + (1 + 8)) (ks + (8 + 8 * 13500)) 193 [.ref a0] [] h Q := by
  refine am_blk_ok (c := 12) (ini := true) (by decide) rfl (fun _ => rfl) bk_Ref_init_193_3 _ 199 _ _ _ bk_Ref_init_193_3_ok rfl ?_
  show am_EI m_Ref_init (kc + (1 + 8)) (ks + (8 + 8 * 13500)) 199 [.ref a0] [.int 13500, .int 8, .ref a0] h Q
  refine am_grid (kc := kc) (ks := ks) (N := 8) (Mn := 13500) dc_Ref_init_199 cl_12_320 ac_boolean (by decide) (by decide) (by decide) (by decide) (by decide) (by decide) ?_
  refine am_blk_ok (c := 12) (ini := true) (by decide) rfl (fun _ => rfl) bk_Ref_init_203_1 _ 206 _ _ _ bk_Ref_init_203_1_ok rfl ?_
  exact t
def bk_Ref_init_206_2 : List am_E := [(206, .aload_n 0, 1, 0, 0), (207, .bipush 8, 2, 0, 8)]
theorem bk_Ref_init_206_2_ok : bk_Ref_init_206_2.all (am_ok 12 true m_Ref_init.2.1) = true := by decide +kernel
theorem dc_Ref_init_209 : decode m_Ref_init.2.1 209 = .ok (.newarray .int, 2) := by decide +kernel
def bk_Ref_init_211_1 : List am_E := [(211, .putfield 163, 3, 4949, 0)]
theorem bk_Ref_init_211_1_ok : bk_Ref_init_211_1.all (am_ok 12 true m_Ref_init.2.1) = true := by decide +kernel
set_option maxRecDepth 20000 in
theorem sr_206 {kc ks : Nat} (a0 : Nat) (h : am_H) (Q : Option Value → am_H → Prop) (t : (am_tg (am_nw h 20 8) a0 = (12, 56) ∧ am_EI m_Ref_init kc ks 214 [.ref a0] [] (am_sp (am_nw h 20 8) a0 37 (some (am_sz h))) Q)) : am_EI m_Ref_init (kc + 1) (ks + 8) 206 [.ref a0] [] h Q := by
  refine am_blk_ok (c := 12) (ini := true) (by decide) rfl (fun _ => rfl) bk_Ref_init_206_2 _ 209 _ _ _ bk_Ref_init_206_2_ok rfl ?_
  show am_EI m_Ref_init (kc + 1) (ks + 8) 209 [.ref a0] [.int 8, .ref a0] h Q
  refine am_newa (kc := kc) (ks := ks) (kd := 20) (N := 8) dc_Ref_init_209 (by decide) ac_int (by decide) (by decide) (by decide) ?_
  refine am_blk_ok (c := 12) (ini := true) (by decide) rfl (fun _ => rfl) bk_Ref_init_211_1 _ 214 _ _ _ bk_Ref_init_211_1_ok rfl ?_
  exact t
def bk_Ref_init_214_2 : List am_E := [(214, .aload_n 0, 1, 0, 0), (215, .sipush 4000, 3, 0, 4000)]
theorem bk_Ref_init_214_2_ok : bk_Ref_init_214_2.all (am_ok 12 true m_Ref_init.2.1) = true := by decide +kernel
theorem dc_Ref_init_218 : decode m_Ref_init.2.1 218 = .ok (.newarray .int, 2) := by decide +kernel
def bk_Ref_init_220_1 : List am_E := [(220, .putfield 173, 3, 4953, 0)]
theorem bk_Ref_init_220_1_ok : bk_Ref_init_220_1.all (am_ok 12 true m_Ref_init.2.1) = true := by decide +kernel
set_option maxRecDepth 20000 in
theorem sr_214 {kc ks : Nat} (a0 : Nat) (h : am_H) (Q : Option Value → am_H → Prop) (t : (am_tg (am_nw h 20 4000) a0 = (12, 56) ∧ am_EI m_Ref_init kc ks 223 [.ref a0] [] (am_sp (am_nw h 20 4000) a0 38 (some (am_sz h))) Q)) : am_EI m_Ref_init (kc + 1) (ks + 4000) 214 [.ref a0] [] h Q := by
  refine am_blk_ok (c := 12) (ini := true) (by decide) rfl (fun _ => rfl) bk_Ref_init_214_2 _ 218 _ _ _ bk_Ref_init_214_2_ok rfl ?_
  show am_EI m_Ref_init (kc + 1) (ks + 4000) 218 [.ref a0] [.int 4000, .ref a0] h Q
  refine am_newa (kc := kc) (ks := ks) (kd := 20) (N := 4000) dc_Ref_init_218 (by decide) ac_int (by decide) (by decide) (by decide) ?_
  refine am_blk_ok (c := 12) (ini := true) (by decide) rfl (fun _ => rfl) bk_Ref_init_220_1 _ 223 _ _ _ bk_Ref_init_220_1_ok rfl ?_
  exact t
def bk_Ref_init_223_2 : List am_E := [(223, .aload_n 0, 1, 0, 0), (224, .sipush 4000, 3, 0, 4000)]
theorem bk_Ref_init_223_2_ok : bk_Ref_init_223_2.all (am_ok 12 true m_Ref_init.2.1) = true := by decide +kernel
theorem dc_Ref_init_227 : decode m_Ref_init.2.1 227 = .ok (.newarray .int, 2) := by decide +kernel
def bk_Ref_init_229_1 : List am_E := [(229, .putfield 321, 3, 4961, 0)]
theorem bk_Ref_init_229_1_ok : bk_Ref_init_229_1.all (am_ok 12 true m_Ref_init.2.1) = true := by decide +kernel
set_option maxRecDepth 20000 in
theorem sr_223 {kc ks : Nat} (a0 : Nat) (h : am_H) (Q : Option Value → am_H → Prop) (t : (am_tg (am_nw h 20 4000) a0 = (12, 56) ∧ am_EI m_Ref_init kc ks 232 [.ref a0] [] (am_sp (am_nw h 20 4000) a0 40 (some (am_sz h))) Q)) : am_EI m_Ref_init (kc + 1) (ks + 4000) 223 [.ref a0] [] h Q := by
  refine am_blk_ok (c := 12) (ini := true) (by decide) rfl (fun _ => rfl) bk_Ref_init_223_2 _ 227 _ _ _ bk_Ref_init_223_2_ok rfl ?_
  show am_EI m_Ref_init (kc + 1) (ks + 4000) 227 [.ref a0] [.int 4000, .ref a0] h Q
  refine am_newa (kc := kc) (ks := ks) (kd := 20) (N := 4000) dc_Ref_init_227 (by decide) ac_int (by decide) (by decide) (by decide) ?_
  refine am_blk_ok (c := 12) (ini := true) (by decide) rfl (fun _ => rfl) bk_Ref_init_229_1 _ 232 _ _ _ bk_Ref_init_229_1_ok rfl ?_
  exact t
def bk_Ref_init_232_2 : List am_E := [(232, .aload_n 0, 1, 0, 0), (233, .sipush 130, 3, 0, 130)]
theorem bk_Ref_init_232_2_ok : bk_Ref_init_232_2.all (am_ok 12 true m_Ref_init.2.1) = true := by decide +kernel
theorem dc_Ref_init_236 : decode m_Ref_init.2.1 236 = .ok (.newarray .boolean, 2) := by decide +kernel
def bk_Ref_init_238_1 : List am_E := [(238, .putfield 291, 3, 4989, 0)]
theorem bk_Ref_init_238_1_ok : bk_Ref_init_238_1.all (am_ok 12 true m_Ref_init.2.1) = true := by decide +kernel
set_option maxRecDepth 20000 in
theorem sr_232 {kc ks : Nat} (a0 : Nat) (h : am_H) (Q : Option Value → am_H → Prop) (t : (am_tg (am_nw h 21 130) a0 = (12, 56) ∧ am_EI m_Ref_init kc ks 241 [.ref a0] [] (am_sp (am_nw h 21 130) a0 47 (some (am_sz h))) Q)) : am_EI m_Ref_init (kc + 1) (ks + 130) 232 [.ref a0] [] h Q := by
  refine am_blk_ok (c := 12) (ini := true) (by decide) rfl (fun _ => rfl) bk_Ref_init_232_2 _ 236 _ _ _ bk_Ref_init_232_2_ok rfl ?_
  show am_EI m_Ref_init (kc + 1) (ks + 130) 236 [.ref a0] [.int 130, .ref a0] h Q
  refine am_newa (kc := kc) (ks := ks) (kd := 21) (N := 130) dc_Ref_init_236 (by decide) ac_boolean (by decide) (by decide) (by decide) ?_
  refine am_blk_ok (c := 12) (ini := true) (by decide) rfl (fun _ => rfl) bk_Ref_init_238_1 _ 241 _ _ _ bk_Ref_init_238_1_ok rfl ?_
  exact t
def bk_Ref_init_241_2 : List am_E := [(241, .aload_n 0, 1, 0, 0), (242, .sipush 130, 3, 0, 130)]
theorem bk_Ref_init_241_2_ok : bk_Ref_init_241_2.all (am_ok 12 true m_Ref_init.2.1) = true := by decide +kernel
theorem dc_Ref_init_245 : decode m_Ref_init.2.1 245 = .ok (.newarray .int, 2) := by decide +kernel
def bk_Ref_init_247_1 : List am_E := [(247, .putfield 297, 3, 4993, 0)]
theorem bk_Ref_init_247_1_ok : bk_Ref_init_247_1.all (am_ok 12 true m_Ref_init.2.1) = true := by decide +kernel
set_option maxRecDepth 20000 in
theorem sr_241 {kc ks : Nat} (a0 : Nat) (h : am_H) (Q : Option Value → am_H → Prop) (t : (am_tg (am_nw h 20 130) a0 = (12, 56) ∧ am_EI m_Ref_init kc ks 250 [.ref a0] [] (am_sp (am_nw h 20 130) a0 48 (some (am_sz h))) Q)) : am_EI m_Ref_init (kc + 1) (ks + 130) 241 [.ref a0] [] h Q := by
  refine am_blk_ok (c := 12) (ini := true) (by decide) rfl (fun _ => rfl) bk_Ref_init_241_2 _ 245 _ _ _ bk_Ref_init_241_2_ok rfl ?_
  show am_EI m_Ref_init (kc + 1) (ks + 130) 245 [.ref a0] [.int 130, .ref a0] h Q
  refine am_newa (kc := kc) (ks := ks) (kd := 20) (N := 130) dc_Ref_init_245 (by decide) ac_int (by decide) (by decide) (by decide) ?_
  refine am_blk_ok (c := 12) (ini := true) (by decide) rfl (fun _ => rfl) bk_Ref_init_247_1 _ 250 _ _ _ bk_Ref_init_247_1_ok rfl ?_
  exact t
def bk_Ref_init_250_2 : List am_E := [(250, .aload_n 0, 1, 0, 0), (251, .sipush 130, 3, 0, 130)]
theorem bk_Ref_init_250_2_ok : bk_Ref_init_250_2.all (am_ok 12 true m_Ref_init.2.1) = true := by decide +kernel
theorem dc_Ref_init_254 : decode m_Ref_init.2.1 254 = .ok (.newarray .int, 2) := by decide +kernel
def bk_Ref_init_256_1 : List am_E := [(256, .putfield 300, 3, 4997, 0)]
theorem bk_Ref_init_256_1_ok : bk_Ref_init_256_1.all (am_ok 12 true m_Ref_init.2.1) = true := by decide +kernel
set_option maxRecDepth 20000 in
theorem sr_250 {kc ks : Nat} (a0 : Nat) (h : am_H) (Q : Option Value → am_H → Prop) (t : (am_tg (am_nw h 20 130) a0 = (12, 56) ∧ am_EI m_Ref_init kc ks 259 [.ref a0] [] (am_sp (am_nw h 20 130) a0 49 (some (am_sz h))) Q)) : am_EI m_Ref_init (kc + 1) (ks + 130) 250 [.ref a0] [] h Q := by
  refine am_blk_ok (c := 12) (ini := true) (by decide) rfl (fun _ => rfl) bk_Ref_init_250_2 _ 254 _ _ _ bk_Ref_init_250_2_ok rfl ?_
  show am_EI m_Ref_init (kc + 1) (ks + 130) 254 [.ref a0] [.int 130, .ref a0] h Q
  refine am_newa (kc := kc) (ks := ks) (kd := 20) (N := 130) dc_Ref_init_254 (by decide) ac_int (by decide) (by decide) (by decide) ?_
  refine am_blk_ok (c := 12) (ini := true) (by decide) rfl (fun _ => rfl) bk_Ref_init_256_1 _ 259 _ _ _ bk_Ref_init_256_1_ok rfl ?_
  exact t
def bk_Ref_init_259_2 : List am_E := [(259, .aload_n 0, 1, 0, 0), (260, .sipush 130, 3, 0, 130)]
theorem bk_Ref_init_259_2_ok : bk_Ref_init_259_2.all (am_ok 12 true m_Ref_init.2.1) = true := by decide +kernel
theorem dc_Ref_init_263 : decode m_Ref_init.2.1 263 = .ok (.newarray .int, 2) := by decide +kernel
def bk_Ref_init_265_1 : List am_E := [(265, .putfield 312, 3, 5001, 0)]
theorem bk_Ref_init_265_1_ok : bk_Ref_init_265_1.all (am_ok 12 true m_Ref_init.2.1) = true := by decide +kernel
set_option maxRecDepth 20000 in
theorem sr_259 {kc ks : Nat} (a0 : Nat) (h : am_H) (Q : Option Value → am_H → Prop) (t : (am_tg (am_nw h 20 130) a0 = (12, 56) ∧ am_EI m_Ref_init kc ks 268 [.ref a0] [] (am_sp (am_nw h 20 130) a0 50 (some (am_sz h))) Q)) : am_EI m_Ref_init (kc + 1) (ks + 130) 259 [.ref a0] [] h Q := by
  refine am_blk_ok (c := 12) (ini := true) (by decide) rfl (fun _ => rfl) bk_Ref_init_259_2 _ 263 _ _ _ bk_Ref_init_259_2_ok rfl ?_
  show am_EI m_Ref_init (kc + 1) (ks + 130) 263 [.ref a0] [.int 130, .ref a0] h Q
  refine am_newa (kc := kc) (ks := ks) (kd := 20) (N := 130) dc_Ref_init_263 (by decide) ac_int (by decide) (by decide) (by decide) ?_
  refine am_blk_ok (c := 12) (ini := true) (by decide) rfl (fun _ => rfl) bk_Ref_init_265_1 _ 268 _ _ _ bk_Ref_init_265_1_ok rfl ?_
  exact t
def bk_Ref_init_268_2 : List am_E := [(268, .aload_n 0, 1, 0, 0), (269, .bipush 10, 2, 0, 10)]
theorem bk_Ref_init_268_2_ok : bk_Ref_init_268_2.all (am_ok 12 true m_Ref_init.2.1) = true := by decide +kernel
theorem dc_Ref_init_271 : decode m_Ref_init.2.1 271 = .ok (.newarray .int, 2) := by decide +kernel
def bk_Ref_init_273_1 : List am_E := [(273, .putfield 324, 3, 5005, 0)]
theorem bk_Ref_init_273_1_ok : bk_Ref_init_273_1.all (am_ok 12 true m_Ref_init.2.1) = true := by decide +kernel
set_option maxRecDepth 20000 in
theorem sr_268 {kc ks : Nat} (a0 : Nat) (h : am_H) (Q : Option Value → am_H → Prop) (t : (am_tg (am_nw h 20 10) a0 = (12, 56) ∧ am_EI m_Ref_init kc ks 276 [.ref a0] [] (am_sp (am_nw h 20 10) a0 51 (some (am_sz h))) Q)) : am_EI m_Ref_init (kc + 1) (ks + 10) 268 [.ref a0] [] h Q := by
  refine am_blk_ok (c := 12) (ini := true) (by decide) rfl (fun _ => rfl) bk_Ref_init_268_2 _ 271 _ _ _ bk_Ref_init_268_2_ok rfl ?_
  show am_EI m_Ref_init (kc + 1) (ks + 10) 271 [.ref a0] [.int 10, .ref a0] h Q
  refine am_newa (kc := kc) (ks := ks) (kd := 20) (N := 10) dc_Ref_init_271 (by decide) ac_int (by decide) (by decide) (by decide) ?_
  refine am_blk_ok (c := 12) (ini := true) (by decide) rfl (fun _ => rfl) bk_Ref_init_273_1 _ 276 _ _ _ bk_Ref_init_273_1_ok rfl ?_
  exact t
def bk_Ref_init_276_2 : List am_E := [(276, .aload_n 0, 1, 0, 0), (277, .sipush 130, 3, 0, 130)]
theorem bk_Ref_init_276_2_ok : bk_Ref_init_276_2.all (am_ok 12 true m_Ref_init.2.1) = true := by decide +kernel
theorem dc_Ref_init_280 : decode m_Ref_init.2.1 280 = .ok (.newarray .int, 2) := by decide +kernel
def bk_Ref_init_282_1 : List am_E := [(282, .putfield 327, 3, 5009, 0)]
theorem bk_Ref_init_282_1_ok : bk_Ref_init_282_1.all (am_ok 12 true m_Ref_init.2.1) = true := by decide +kernel
set_option maxRecDepth 20000 in
theorem sr_276 {kc ks : Nat} (a0 : Nat) (h : am_H) (Q : Option Value → am_H → Prop) (t : (am_tg (am_nw h 20 130) a0 = (12, 56) ∧ am_EI m_Ref_init kc ks 285 [.ref a0] [] (am_sp (am_nw h 20 130) a0 52 (some (am_sz h))) Q)) : am_EI m_Ref_init (kc + 1) (ks + 130) 276 [.ref a0] [] h Q := by
  refine am_blk_ok (c := 12) (ini := true) (by decide) rfl (fun _ => rfl) bk_Ref_init_276_2 _ 280 _ _ _ bk_Ref_init_276_2_ok rfl ?_
  show am_EI m_Ref_init (kc + 1) (ks + 130) 280 [.ref a0] [.int 130, .ref a0] h Q
  refine am_newa (kc := kc) (ks := ks) (kd := 20) (N := 130) dc_Ref_init_280 (by decide) ac_int (by decide) (by decide) (by decide) ?_
  refine am_blk_ok (c := 12) (ini := true) (by decide) rfl (fun _ => rfl) bk_Ref_init_282_1 _ 285 _ _ _ bk_Ref_init_282_1_ok rfl ?_
  exact t
def bk_Ref_init_285_2 : List am_E := [(285, .aload_n 0, 1, 0, 0), (286, .sipush 130, 3, 0, 130)]
theorem bk_Ref_init_285_2_ok : bk_Ref_init_285_2.all (am_ok 12 true m_Ref_init.2.1) = true := by decide +kernel
theorem dc_Ref_init_289 : decode m_Ref_init.2.1 289 = .ok (.newarray .int, 2) := by decide +kernel
def bk_Ref_init_291_1 : List am_E := [(291, .putfield 330, 3, 5013, 0)]
theorem bk_Ref_init_291_1_ok : bk_Ref_init_291_1.all (am_ok 12 true m_Ref_init.2.1) = true := by decide +kernel
set_option maxRecDepth 20000 in
theorem sr_285 {kc ks : Nat} (a0 : Nat) (h : am_H) (Q : Option Value → am_H → Prop) (t : (am_tg (am_nw h 20 130) a0 = (12, 56) ∧ am_EI m_Ref_init kc ks 294 [.ref a0] [] (am_sp (am_nw h 20 130) a0 53 (some (am_sz h))) Q)) : am_EI m_Ref_init (kc + 1) (ks + 130) 285 [.ref a0] [] h Q := by
  refine am_blk_ok (c := 12) (ini := true) (by decide) rfl (fun _ => rfl) bk_Ref_init_285_2 _ 289 _ _ _ bk_Ref_init_285_2_ok rfl ?_
  show am_EI m_Ref_init (kc + 1) (ks + 130) 289 [.ref a0] [.int 130, .ref a0] h Q
  refine am_newa (kc := kc) (ks := ks) (kd := 20) (N := 130) dc_Ref_init_289 (by decide) ac_int (by decide) (by decide) (by decide) ?_
  refine am_blk_ok (c := 12) (ini := true) (by decide) rfl (fun _ => rfl) bk_Ref_init_291_1 _ 294 _ _ _ bk_Ref_init_291_1_ok rfl ?_
  exact t
def bk_Ref_init_294_2 : List am_E := [(294, .aload_n 0, 1, 0, 0), (295, .sipush 130, 3, 0, 130)]
theorem bk_Ref_init_294_2_ok : bk_Ref_init_294_2.all (am_ok 12 true m_Ref_init.2.1) = true := by decide +kernel
theorem dc_Ref_init_298 : decode m_Ref_init.2.1 298 = .ok (.newarray .int, 2) := by decide +kernel
def bk_Ref_init_300_1 : List am_E := [(300, .putfield 333, 3, 5017, 0)]
theorem bk_Ref_init_300_1_ok : bk_Ref_init_300_1.all (am_ok 12 true m_Ref_init.2.1) = true := by decide +kernel
set_option maxRecDepth 20000 in
theorem sr_294 {kc ks : Nat} (a0 : Nat) (h : am_H) (Q : Option Value → am_H → Prop) (t : (am_tg (am_nw h 20 130) a0 = (12, 56) ∧ am_EI m_Ref_init kc ks 303 [.ref a0] [] (am_sp (am_nw h 20 130) a0 54 (some (am_sz h))) Q)) : am_EI m_Ref_init (kc + 1) (ks + 130) 294 [.ref a0] [] h Q := by
  refine am_blk_ok (c := 12) (ini := true) (by decide) rfl (fun _ => rfl) bk_Ref_init_294_2 _ 298 _ _ _ bk_Ref_init_294_2_ok rfl ?_
  show am_EI m_Ref_init (kc + 1) (ks + 130) 298 [.ref a0] [.int 130, .ref a0] h Q
  refine am_newa (kc := kc) (ks := ks) (kd := 20) (N := 130) dc_Ref_init_298 (by decide) ac_int (by decide) (by decide) (by decide) ?_
  refine am_blk_ok (c := 12) (ini := true) (by decide) rfl (fun _ => rfl) bk_Ref_init_300_1 _ 303 _ _ _ bk_Ref_init_300_1_ok rfl ?_
  exact t
def bk_Ref_init_303_2 : List am_E := [(303, .aload_n 0, 1, 0, 0), (304, .sipush 130, 3, 0, 130)]
theorem bk_Ref_init_303_2_ok : bk_Ref_init_303_2.all (am_ok 12 true m_Ref_init.2.1) = true := by decide +kernel
theorem dc_Ref_init_307 : decode m_Ref_init.2.1 307 = .ok (.newarray .int, 2) := by decide +kernel
def bk_Ref_init_309_1 : List am_E := [(309, .putfield 336, 3, 5021, 0)]
theorem bk_Ref_init_309_1_ok : bk_Ref_init_309_1.all (am_ok 12 true m_Ref_init.2.1) = true := by decide +kernel
set_option maxRecDepth 20000 in
theorem sr_303 {kc ks : Nat} (a0 : Nat) (h : am_H) (Q : Option Value → am_H → Prop) (t : (am_tg (am_nw h 20 130) a0 = (12, 56) ∧ am_EI m_Ref_init kc ks 312 [.ref a0] [] (am_sp (am_nw h 20 130) a0 55 (some (am_sz h))) Q)) : am_EI m_Ref_init (kc + 1) (ks + 130) 303 [.ref a0] [] h Q := by
  refine am_blk_ok (c := 12) (ini := true) (by decide) rfl (fun _ => rfl) bk_Ref_init_303_2 _ 307 _ _ _ bk_Ref_init_303_2_ok rfl ?_
  show am_EI m_Ref_init (kc + 1) (ks + 130) 307 [.ref a0] [.int 130, .ref a0] h Q
  refine am_newa (kc := kc) (ks := ks) (kd := 20) (N := 130) dc_Ref_init_307 (by decide) ac_int (by decide) (by decide) (by decide) ?_
  refine am_blk_ok (c := 12) (ini := true) (by decide) rfl (fun _ => rfl) bk_Ref_init_309_1 _ 312 _ _ _ bk_Ref_init_309_1_ok rfl ?_
  exact t
theorem dc_Ref_init_312 : decode m_Ref_init.2.1 312 = .ok (.return_, 1) := by decide +kernel
