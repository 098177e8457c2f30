def f_X9_fault  (a0 : Nat) (h : HS) : Option (Int32 × HS) :=
  nn (some a0) (fun n1 => gd (ck h n1 7) (nn (some a0) (fun n2 => gd (ck h n2 7) (nn (hP h n1 0) (fun n4 => gd (rk h n4 5) (bd (f_X7_readInto n4 (hP h n2 2) h) (fun r3 => some (r3.1, r3.2))))))))
set_option maxHeartbeats 4000000 in
set_option maxRecDepth 100000 in
theorem c_X9_fault (g : GG) (l : Launch) (a0 : Nat) (h : HS) (o : Int32 × HS) (hB : f_X9_fault a0 h = some o) : Ct g l mX9_fault [va_rf (some a0)] h (QI o) := by
  refine Ct.of2 (lv0 := [some (va_rf (some a0))]) (by decide +kernel) (by simp [lg_sl, rf_cat, cat_i, cat_l]) rfl ?_
  unfold f_X9_fault at hB
  refine q_aload_n dX9_fault_0 rfl rfl ?_
  refine q_getP (j := 0) hB dX9_fault_1 fc_7 (by decide) rfl wd_240 (fun n1 hB => ?_)
  refine q_aload_n dX9_fault_4 rfl rfl ?_
  refine q_getP (j := 2) hB dX9_fault_5 fc_7 (by decide) rfl wd_242 (fun n2 hB => ?_)
  refine q_callVI (k' := 0) (w' := 0) hB (fun b a hf => c_X7_readInto g l b _ _ a hf) rfl rfl dX9_fault_8 wd_290 cs_X7_readInto wd_291 wd_292 rfl ⟨⟨Nat.le_of_ble_eq_true rfl, Nat.le_of_ble_eq_true rfl⟩, ⟨Nat.le_of_ble_eq_true rfl, Nat.le_of_ble_eq_true rfl⟩, Nat.le_of_ble_eq_true rfl⟩ rfl rfl (fun n4 r3 hB => ?_)
  exact q_iret hB dX9_fault_11 rfl (by decide) (by decide)

def b_X10_fieldOf_50  (h : HS) : Option (Int32 × HS) :=
  some ((3 : Int32), h)
def b_X10_fieldOf_44  (h : HS) : Option (Int32 × HS) :=
  some ((0 : Int32), h)
def b_X10_fieldOf_46  (h : HS) : Option (Int32 × HS) :=
  some ((1 : Int32), h)
def b_X10_fieldOf_48  (h : HS) : Option (Int32 × HS) :=
  some ((2 : Int32), h)
def b_X10_fieldOf_52  (h : HS) : Option (Int32 × HS) :=
  some ((-9 : Int32), h)
def f_X10_fieldOf  (a0 : Int32) (h : HS) : Option (Int32 × HS) :=
  sw a0 [((45 : Int32), b_X10_fieldOf_50 h), ((97 : Int32), b_X10_fieldOf_44 h), ((98 : Int32), b_X10_fieldOf_46 h), ((118 : Int32), b_X10_fieldOf_48 h)] (b_X10_fieldOf_52 h)
set_option maxHeartbeats 4000000 in
set_option maxRecDepth 100000 in
theorem wb_X10_fieldOf_50 (g : GG) (l : Launch) (h : HS) (o : Int32 × HS) (hB : b_X10_fieldOf_50  h = some o) : Wq g l mX10_fieldOf 0 0 50 [none] [] h (QI o) := by
  unfold b_X10_fieldOf_50 at hB
  refine q_iconst (v := 3) dX10_fieldOf_50 (by decide) ?_
  exact q_iret hB dX10_fieldOf_51 rfl (by decide) (by decide)
set_option maxHeartbeats 4000000 in
set_option maxRecDepth 100000 in
theorem wb_X10_fieldOf_44 (g : GG) (l : Launch) (h : HS) (o : Int32 × HS) (hB : b_X10_fieldOf_44  h = some o) : Wq g l mX10_fieldOf 0 0 44 [none] [] h (QI o) := by
  unfold b_X10_fieldOf_44 at hB
  refine q_iconst (v := 0) dX10_fieldOf_44 (by decide) ?_
  exact q_iret hB dX10_fieldOf_45 rfl (by decide) (by decide)
set_option maxHeartbeats 4000000 in
set_option maxRecDepth 100000 in
theorem wb_X10_fieldOf_46 (g : GG) (l : Launch) (h : HS) (o : Int32 × HS) (hB : b_X10_fieldOf_46  h = some o) : Wq g l mX10_fieldOf 0 0 46 [none] [] h (QI o) := by
  unfold b_X10_fieldOf_46 at hB
  refine q_iconst (v := 1) dX10_fieldOf_46 (by decide) ?_
  exact q_iret hB dX10_fieldOf_47 rfl (by decide) (by decide)
set_option maxHeartbeats 4000000 in
set_option maxRecDepth 100000 in
theorem wb_X10_fieldOf_48 (g : GG) (l : Launch) (h : HS) (o : Int32 × HS) (hB : b_X10_fieldOf_48  h = some o) : Wq g l mX10_fieldOf 0 0 48 [none] [] h (QI o) := by
  unfold b_X10_fieldOf_48 at hB
  refine q_iconst (v := 2) dX10_fieldOf_48 (by decide) ?_
  exact q_iret hB dX10_fieldOf_49 rfl (by decide) (by decide)
set_option maxHeartbeats 4000000 in
set_option maxRecDepth 100000 in
theorem wb_X10_fieldOf_52 (g : GG) (l : Launch) (h : HS) (o : Int32 × HS) (hB : b_X10_fieldOf_52  h = some o) : Wq g l mX10_fieldOf 0 0 52 [none] [] h (QI o) := by
  unfold b_X10_fieldOf_52 at hB
  refine q_bipush (v := -9) dX10_fieldOf_52 (by decide) ?_
  exact q_iret hB dX10_fieldOf_54 rfl (by decide) (by decide)
set_option maxHeartbeats 4000000 in
set_option maxRecDepth 100000 in
theorem c_X10_fieldOf (g : GG) (l : Launch) (a0 : Int32) (h : HS) (o : Int32 × HS) (hB : f_X10_fieldOf a0 h = some o) : Ct g l mX10_fieldOf [.int a0] h (QI o) := by
  refine Ct.of2 (lv0 := [some (.int a0)]) (by decide +kernel) (by simp [lg_sl, rf_cat, cat_i, cat_l]) rfl ?_
  unfold f_X10_fieldOf at hB
  refine q_iload_n dX10_fieldOf_0 rfl rfl ?_
  refine q_look (dt := 52) [50, 44, 46, 48] hB dX10_fieldOf_1 (by decide) rfl (by decide) (by decide) (fun hB => ?_) (fun i hi hB => ?_)
  · exact Wq.mask [false] rfl (wb_X10_fieldOf_52 g l _ o hB)
  · match i, hi, hB with
    | 0, _, hB =>
      simp only [List.map_cons, List.map_nil, List.getD_cons_zero, List.getD_cons_succ] at hB
      exact Wq.mask [false] rfl (wb_X10_fieldOf_50 g l _ o hB)
    | 1, _, hB =>
      simp only [List.map_cons, List.map_nil, List.getD_cons_zero, List.getD_cons_succ] at hB
      exact Wq.mask [false] rfl (wb_X10_fieldOf_44 g l _ o hB)
    | 2, _, hB =>
      simp only [List.map_cons, List.map_nil, List.getD_cons_zero, List.getD_cons_succ] at hB
      exact Wq.mask [false] rfl (wb_X10_fieldOf_46 g l _ o hB)
    | 3, _, hB =>
      simp only [List.map_cons, List.map_nil, List.getD_cons_zero, List.getD_cons_succ] at hB
      exact Wq.mask [false] rfl (wb_X10_fieldOf_48 g l _ o hB)
    | n + 4, hi, _ => exact absurd hi (by simp only [List.length_cons, List.length_nil]; omega)

def b_X10_letterOf_200  (h : HS) : Option (Int32 × HS) :=
  some ((99 : Int32), h)
def b_X10_letterOf_203  (h : HS) : Option (Int32 × HS) :=
  some ((111 : Int32), h)
def b_X10_letterOf_206  (h : HS) : Option (Int32 × HS) :=
  some ((117 : Int32), h)
def b_X10_letterOf_209  (h : HS) : Option (Int32 × HS) :=
  some ((110 : Int32), h)
def b_X10_letterOf_212  (h : HS) : Option (Int32 × HS) :=
  some ((116 : Int32), h)
def b_X10_letterOf_266  (h : HS) : Option (Int32 × HS) :=
  some ((-9 : Int32), h)
def b_X10_letterOf_215  (h : HS) : Option (Int32 × HS) :=
  some ((115 : Int32), h)
def b_X10_letterOf_218  (h : HS) : Option (Int32 × HS) :=
  some ((117 : Int32), h)
def b_X10_letterOf_221  (h : HS) : Option (Int32 × HS) :=
  some ((109 : Int32), h)
def b_X10_letterOf_224  (h : HS) : Option (Int32 × HS) :=
  some ((109 : Int32), h)
def b_X10_letterOf_227  (h : HS) : Option (Int32 × HS) :=
  some ((111 : Int32), h)
def b_X10_letterOf_230  (h : HS) : Option (Int32 × HS) :=
  some ((115 : Int32), h)
def b_X10_letterOf_233  (h : HS) : Option (Int32 × HS) :=
  some ((116 : Int32), h)
def b_X10_letterOf_236  (h : HS) : Option (Int32 × HS) :=
  some ((108 : Int32), h)
def b_X10_letterOf_239  (h : HS) : Option (Int32 × HS) :=
  some ((101 : Int32), h)
def b_X10_letterOf_242  (h : HS) : Option (Int32 × HS) :=
  some ((97 : Int32), h)
def b_X10_letterOf_245  (h : HS) : Option (Int32 × HS) :=
  some ((115 : Int32), h)
def b_X10_letterOf_248  (h : HS) : Option (Int32 × HS) :=
  some ((116 : Int32), h)
def b_X10_letterOf_251  (h : HS) : Option (Int32 × HS) :=
  some ((107 : Int32), h)
def b_X10_letterOf_254  (h : HS) : Option (Int32 × HS) :=
  some ((105 : Int32), h)
def b_X10_letterOf_257  (h : HS) : Option (Int32 × HS) :=
  some ((110 : Int32), h)
def b_X10_letterOf_260  (h : HS) : Option (Int32 × HS) :=
  some ((100 : Int32), h)
def b_X10_letterOf_263  (h : HS) : Option (Int32 × HS) :=
  some ((115 : Int32), h)
def f_X10_letterOf  (a0 : Int32) (a1 : Int32) (h : HS) : Option (Int32 × HS) :=
  swT (((10 : Int32) * a0) + a1) 0 [b_X10_letterOf_200 h, b_X10_letterOf_203 h, b_X10_letterOf_206 h, b_X10_letterOf_209 h, b_X10_letterOf_212 h, b_X10_letterOf_266 h, b_X10_letterOf_266 h, b_X10_letterOf_266 h, b_X10_letterOf_266 h, b_X10_letterOf_266 h, b_X10_letterOf_215 h, b_X10_letterOf_218 h, b_X10_letterOf_221 h, b_X10_letterOf_266 h, b_X10_letterOf_266 h, b_X10_letterOf_266 h, b_X10_letterOf_266 h, b_X10_letterOf_266 h, b_X10_letterOf_266 h, b_X10_letterOf_266 h, b_X10_letterOf_224 h, b_X10_letterOf_227 h, b_X10_letterOf_230 h, b_X10_letterOf_233 h, b_X10_letterOf_266 h, b_X10_letterOf_266 h, b_X10_letterOf_266 h, b_X10_letterOf_266 h, b_X10_letterOf_266 h, b_X10_letterOf_266 h, b_X10_letterOf_236 h, b_X10_letterOf_239 h, b_X10_letterOf_242 h, b_X10_letterOf_245 h, b_X10_letterOf_248 h, b_X10_letterOf_266 h, b_X10_letterOf_266 h, b_X10_letterOf_266 h, b_X10_letterOf_266 h, b_X10_letterOf_266 h, b_X10_letterOf_251 h, b_X10_letterOf_254 h, b_X10_letterOf_257 h, b_X10_letterOf_260 h, b_X10_letterOf_263 h] (b_X10_letterOf_266 h)
set_option maxHeartbeats 4000000 in
set_option maxRecDepth 100000 in
theorem wb_X10_letterOf_200 (g : GG) (l : Launch) (h : HS) (o : Int32 × HS) (hB : b_X10_letterOf_200  h = some o) : Wq g l mX10_letterOf 0 0 200 [none, none] [] h (QI o) := by
  unfold b_X10_letterOf_200 at hB
  refine q_bipush (v := 99) dX10_letterOf_200 (by decide) ?_
  exact q_iret hB dX10_letterOf_202 rfl (by decide) (by decide)
set_option maxHeartbeats 4000000 in
set_option maxRecDepth 100000 in
theorem wb_X10_letterOf_203 (g : GG) (l : Launch) (h : HS) (o : Int32 × HS) (hB : b_X10_letterOf_203  h = some o) : Wq g l mX10_letterOf 0 0 203 [none, none] [] h (QI o) := by
  unfold b_X10_letterOf_203 at hB
  refine q_bipush (v := 111) dX10_letterOf_203 (by decide) ?_
  exact q_iret hB dX10_letterOf_205 rfl (by decide) (by decide)
set_option maxHeartbeats 4000000 in
set_option maxRecDepth 100000 in
theorem wb_X10_letterOf_206 (g : GG) (l : Launch) (h : HS) (o : Int32 × HS) (hB : b_X10_letterOf_206  h = some o) : Wq g l mX10_letterOf 0 0 206 [none, none] [] h (QI o) := by
  unfold b_X10_letterOf_206 at hB
  refine q_bipush (v := 117) dX10_letterOf_206 (by decide) ?_
  exact q_iret hB dX10_letterOf_208 rfl (by decide) (by decide)
set_option maxHeartbeats 4000000 in
set_option maxRecDepth 100000 in
theorem wb_X10_letterOf_209 (g : GG) (l : Launch) (h : HS) (o : Int32 × HS) (hB : b_X10_letterOf_209  h = some o) : Wq g l mX10_letterOf 0 0 209 [none, none] [] h (QI o) := by
  unfold b_X10_letterOf_209 at hB
  refine q_bipush (v := 110) dX10_letterOf_209 (by decide) ?_
  exact q_iret hB dX10_letterOf_211 rfl (by decide) (by decide)
set_option maxHeartbeats 4000000 in
set_option maxRecDepth 100000 in
theorem wb_X10_letterOf_212 (g : GG) (l : Launch) (h : HS) (o : Int32 × HS) (hB : b_X10_letterOf_212  h = some o) : Wq g l mX10_letterOf 0 0 212 [none, none] [] h (QI o) := by
  unfold b_X10_letterOf_212 at hB
  refine q_bipush (v := 116) dX10_letterOf_212 (by decide) ?_
  exact q_iret hB dX10_letterOf_214 rfl (by decide) (by decide)
set_option maxHeartbeats 4000000 in
set_option maxRecDepth 100000 in
theorem wb_X10_letterOf_266 (g : GG) (l : Launch) (h : HS) (o : Int32 × HS) (hB : b_X10_letterOf_266  h = some o) : Wq g l mX10_letterOf 0 0 266 [none, none] [] h (QI o) := by
  unfold b_X10_letterOf_266 at hB
  refine q_bipush (v := -9) dX10_letterOf_266 (by decide) ?_
  exact q_iret hB dX10_letterOf_268 rfl (by decide) (by decide)
set_option maxHeartbeats 4000000 in
set_option maxRecDepth 100000 in
theorem wb_X10_letterOf_215 (g : GG) (l : Launch) (h : HS) (o : Int32 × HS) (hB : b_X10_letterOf_215  h = some o) : Wq g l mX10_letterOf 0 0 215 [none, none] [] h (QI o) := by
  unfold b_X10_letterOf_215 at hB
  refine q_bipush (v := 115) dX10_letterOf_215 (by decide) ?_
  exact q_iret hB dX10_letterOf_217 rfl (by decide) (by decide)
set_option maxHeartbeats 4000000 in
set_option maxRecDepth 100000 in
theorem wb_X10_letterOf_218 (g : GG) (l : Launch) (h : HS) (o : Int32 × HS) (hB : b_X10_letterOf_218  h = some o) : Wq g l mX10_letterOf 0 0 218 [none, none] [] h (QI o) := by
  unfold b_X10_letterOf_218 at hB
  refine q_bipush (v := 117) dX10_letterOf_218 (by decide) ?_
  exact q_iret hB dX10_letterOf_220 rfl (by decide) (by decide)
set_option maxHeartbeats 4000000 in
set_option maxRecDepth 100000 in
theorem wb_X10_letterOf_221 (g : GG) (l : Launch) (h : HS) (o : Int32 × HS) (hB : b_X10_letterOf_221  h = some o) : Wq g l mX10_letterOf 0 0 221 [none, none] [] h (QI o) := by
  unfold b_X10_letterOf_221 at hB
  refine q_bipush (v := 109) dX10_letterOf_221 (by decide) ?_
  exact q_iret hB dX10_letterOf_223 rfl (by decide) (by decide)
set_option maxHeartbeats 4000000 in
set_option maxRecDepth 100000 in
theorem wb_X10_letterOf_224 (g : GG) (l : Launch) (h : HS) (o : Int32 × HS) (hB : b_X10_letterOf_224  h = some o) : Wq g l mX10_letterOf 0 0 224 [none, none] [] h (QI o) := by
  unfold b_X10_letterOf_224 at hB
  refine q_bipush (v := 109) dX10_letterOf_224 (by decide) ?_
  exact q_iret hB dX10_letterOf_226 rfl (by decide) (by decide)
set_option maxHeartbeats 4000000 in
set_option maxRecDepth 100000 in
theorem wb_X10_letterOf_227 (g : GG) (l : Launch) (h : HS) (o : Int32 × HS) (hB : b_X10_letterOf_227  h = some o) : Wq g l mX10_letterOf 0 0 227 [none, none] [] h (QI o) := by
  unfold b_X10_letterOf_227 at hB
  refine q_bipush (v := 111) dX10_letterOf_227 (by decide) ?_
  exact q_iret hB dX10_letterOf_229 rfl (by decide) (by decide)
set_option maxHeartbeats 4000000 in
set_option maxRecDepth 100000 in
theorem wb_X10_letterOf_230 (g : GG) (l : Launch) (h : HS) (o : Int32 × HS) (hB : b_X10_letterOf_230  h = some o) : Wq g l mX10_letterOf 0 0 230 [none, none] [] h (QI o) := by
  unfold b_X10_letterOf_230 at hB
  refine q_bipush (v := 115) dX10_letterOf_230 (by decide) ?_
  exact q_iret hB dX10_letterOf_232 rfl (by decide) (by decide)
set_option maxHeartbeats 4000000 in
set_option maxRecDepth 100000 in
theorem wb_X10_letterOf_233 (g : GG) (l : Launch) (h : HS) (o : Int32 × HS) (hB : b_X10_letterOf_233  h = some o) : Wq g l mX10_letterOf 0 0 233 [none, none] [] h (QI o) := by
  unfold b_X10_letterOf_233 at hB
  refine q_bipush (v := 116) dX10_letterOf_233 (by decide) ?_
  exact q_iret hB dX10_letterOf_235 rfl (by decide) (by decide)
set_option maxHeartbeats 4000000 in
set_option maxRecDepth 100000 in
theorem wb_X10_letterOf_236 (g : GG) (l : Launch) (h : HS) (o : Int32 × HS) (hB : b_X10_letterOf_236  h = some o) : Wq g l mX10_letterOf 0 0 236 [none, none] [] h (QI o) := by
  unfold b_X10_letterOf_236 at hB
  refine q_bipush (v := 108) dX10_letterOf_236 (by decide) ?_
  exact q_iret hB dX10_letterOf_238 rfl (by decide) (by decide)
set_option maxHeartbeats 4000000 in
set_option maxRecDepth 100000 in
theorem wb_X10_letterOf_239 (g : GG) (l : Launch) (h : HS) (o : Int32 × HS) (hB : b_X10_letterOf_239  h = some o) : Wq g l mX10_letterOf 0 0 239 [none, none] [] h (QI o) := by
  unfold b_X10_letterOf_239 at hB
  refine q_bipush (v := 101) dX10_letterOf_239 (by decide) ?_
  exact q_iret hB dX10_letterOf_241 rfl (by decide) (by decide)
set_option maxHeartbeats 4000000 in
set_option maxRecDepth 100000 in
theorem wb_X10_letterOf_242 (g : GG) (l : Launch) (h : HS) (o : Int32 × HS) (hB : b_X10_letterOf_242  h = some o) : Wq g l mX10_letterOf 0 0 242 [none, none] [] h (QI o) := by
  unfold b_X10_letterOf_242 at hB
  refine q_bipush (v := 97) dX10_letterOf_242 (by decide) ?_
  exact q_iret hB dX10_letterOf_244 rfl (by decide) (by decide)
set_option maxHeartbeats 4000000 in
set_option maxRecDepth 100000 in
theorem wb_X10_letterOf_245 (g : GG) (l : Launch) (h : HS) (o : Int32 × HS) (hB : b_X10_letterOf_245  h = some o) : Wq g l mX10_letterOf 0 0 245 [none, none] [] h (QI o) := by
  unfold b_X10_letterOf_245 at hB
  refine q_bipush (v := 115) dX10_letterOf_245 (by decide) ?_
  exact q_iret hB dX10_letterOf_247 rfl (by decide) (by decide)
set_option maxHeartbeats 4000000 in
set_option maxRecDepth 100000 in
theorem wb_X10_letterOf_248 (g : GG) (l : Launch) (h : HS) (o : Int32 × HS) (hB : b_X10_letterOf_248  h = some o) : Wq g l mX10_letterOf 0 0 248 [none, none] [] h (QI o) := by
  unfold b_X10_letterOf_248 at hB
  refine q_bipush (v := 116) dX10_letterOf_248 (by decide) ?_
  exact q_iret hB dX10_letterOf_250 rfl (by decide) (by decide)
set_option maxHeartbeats 4000000 in
set_option maxRecDepth 100000 in
theorem wb_X10_letterOf_251 (g : GG) (l : Launch) (h : HS) (o : Int32 × HS) (hB : b_X10_letterOf_251  h = some o) : Wq g l mX10_letterOf 0 0 251 [none, none] [] h (QI o) := by
  unfold b_X10_letterOf_251 at hB
  refine q_bipush (v := 107) dX10_letterOf_251 (by decide) ?_
  exact q_iret hB dX10_letterOf_253 rfl (by decide) (by decide)
set_option maxHeartbeats 4000000 in
set_option maxRecDepth 100000 in
theorem wb_X10_letterOf_254 (g : GG) (l : Launch) (h : HS) (o : Int32 × HS) (hB : b_X10_letterOf_254  h = some o) : Wq g l mX10_letterOf 0 0 254 [none, none] [] h (QI o) := by
  unfold b_X10_letterOf_254 at hB
  refine q_bipush (v := 105) dX10_letterOf_254 (by decide) ?_
  exact q_iret hB dX10_letterOf_256 rfl (by decide) (by decide)
set_option maxHeartbeats 4000000 in
set_option maxRecDepth 100000 in
theorem wb_X10_letterOf_257 (g : GG) (l : Launch) (h : HS) (o : Int32 × HS) (hB : b_X10_letterOf_257  h = some o) : Wq g l mX10_letterOf 0 0 257 [none, none] [] h (QI o) := by
  unfold b_X10_letterOf_257 at hB
  refine q_bipush (v := 110) dX10_letterOf_257 (by decide) ?_
  exact q_iret hB dX10_letterOf_259 rfl (by decide) (by decide)
set_option maxHeartbeats 4000000 in
set_option maxRecDepth 100000 in
theorem wb_X10_letterOf_260 (g : GG) (l : Launch) (h : HS) (o : Int32 × HS) (hB : b_X10_letterOf_260  h = some o) : Wq g l mX10_letterOf 0 0 260 [none, none] [] h (QI o) := by
  unfold b_X10_letterOf_260 at hB
  refine q_bipush (v := 100) dX10_letterOf_260 (by decide) ?_
  exact q_iret hB dX10_letterOf_262 rfl (by decide) (by decide)
set_option maxHeartbeats 4000000 in
set_option maxRecDepth 100000 in
theorem wb_X10_letterOf_263 (g : GG) (l : Launch) (h : HS) (o : Int32 × HS) (hB : b_X10_letterOf_263  h = some o) : Wq g l mX10_letterOf 0 0 263 [none, none] [] h (QI o) := by
  unfold b_X10_letterOf_263 at hB
  refine q_bipush (v := 115) dX10_letterOf_263 (by decide) ?_
  exact q_iret hB dX10_letterOf_265 rfl (by decide) (by decide)
set_option maxHeartbeats 4000000 in
set_option maxRecDepth 100000 in
theorem c_X10_letterOf (g : GG) (l : Launch) (a0 : Int32) (a1 : Int32) (h : HS) (o : Int32 × HS) (hB : f_X10_letterOf a0 a1 h = some o) : Ct g l mX10_letterOf [.int a0, .int a1] h (QI o) := by
  refine Ct.of2 (lv0 := [some (.int a0), some (.int a1)]) (by decide +kernel) (by simp [lg_sl, rf_cat, cat_i, cat_l]) rfl ?_
  unfold f_X10_letterOf at hB
  refine q_bipush (v := 10) dX10_letterOf_0 (by decide) ?_
  refine q_iload_n dX10_letterOf_2 rfl rfl ?_
  refine q_imul dX10_letterOf_3 ?_
  refine q_iload_n dX10_letterOf_4 rfl rfl ?_
  refine q_iadd dX10_letterOf_5 ?_
  refine q_tab (dt := 266) [200, 203, 206, 209, 212, 266, 266, 266, 266, 266, 215, 218, 221, 266, 266, 266, 266, 266, 266, 266, 224, 227, 230, 233, 266, 266, 266, 266, 266, 266, 236, 239, 242, 245, 248, 266, 266, 266, 266, 266, 251, 254, 257, 260, 263] hB dX10_letterOf_6 rfl rfl (by decide) (by decide) (fun hB => ?_) (fun i hi hB => ?_)
  · exact Wq.mask [false, false] rfl (wb_X10_letterOf_266 g l _ o hB)
  · match i, hi, hB with
    | 0, _, hB =>
      simp only [List.getD_cons_zero, List.getD_cons_succ] at hB
      exact Wq.mask [false, false] rfl (wb_X10_letterOf_200 g l _ o hB)
    | 1, _, hB =>
      simp only [List.getD_cons_zero, List.getD_cons_succ] at hB
      exact Wq.mask [false, false] rfl (wb_X10_letterOf_203 g l _ o hB)
    | 2, _, hB =>
      simp only [List.getD_cons_zero, List.getD_cons_succ] at hB
      exact Wq.mask [false, false] rfl (wb_X10_letterOf_206 g l _ o hB)
    | 3, _, hB =>
      simp only [List.getD_cons_zero, List.getD_cons_succ] at hB
      exact Wq.mask [false, false] rfl (wb_X10_letterOf_209 g l _ o hB)
    | 4, _, hB =>
      simp only [List.getD_cons_zero, List.getD_cons_succ] at hB
      exact Wq.mask [false, false] rfl (wb_X10_letterOf_212 g l _ o hB)
    | 5, _, hB =>
      simp only [List.getD_cons_zero, List.getD_cons_succ] at hB
      exact Wq.mask [false, false] rfl (wb_X10_letterOf_266 g l _ o hB)
    | 6, _, hB =>
      simp only [List.getD_cons_zero, List.getD_cons_succ] at hB
      exact Wq.mask [false, false] rfl (wb_X10_letterOf_266 g l _ o hB)
    | 7, _, hB =>
      simp only [List.getD_cons_zero, List.getD_cons_succ] at hB
      exact Wq.mask [false, false] rfl (wb_X10_letterOf_266 g l _ o hB)
    | 8, _, hB =>
      simp only [List.getD_cons_zero, List.getD_cons_succ] at hB
      exact Wq.mask [false, false] rfl (wb_X10_letterOf_266 g l _ o hB)
    | 9, _, hB =>
      simp only [List.getD_cons_zero, List.getD_cons_succ] at hB
      exact Wq.mask [false, false] rfl (wb_X10_letterOf_266 g l _ o hB)
    | 10, _, hB =>
      simp only [List.getD_cons_zero, List.getD_cons_succ] at hB
      exact Wq.mask [false, false] rfl (wb_X10_letterOf_215 g l _ o hB)
    | 11, _, hB =>
      simp only [List.getD_cons_zero, List.getD_cons_succ] at hB
      exact Wq.mask [false, false] rfl (wb_X10_letterOf_218 g l _ o hB)
    | 12, _, hB =>
      simp only [List.getD_cons_zero, List.getD_cons_succ] at hB
      exact Wq.mask [false, false] rfl (wb_X10_letterOf_221 g l _ o hB)
    | 13, _, hB =>
      simp only [List.getD_cons_zero, List.getD_cons_succ] at hB
      exact Wq.mask [false, false] rfl (wb_X10_letterOf_266 g l _ o hB)
    | 14, _, hB =>
      simp only [List.getD_cons_zero, List.getD_cons_succ] at hB
      exact Wq.mask [false, false] rfl (wb_X10_letterOf_266 g l _ o hB)
    | 15, _, hB =>
      simp only [List.getD_cons_zero, List.getD_cons_succ] at hB
      exact Wq.mask [false, false] rfl (wb_X10_letterOf_266 g l _ o hB)
    | 16, _, hB =>
      simp only [List.getD_cons_zero, List.getD_cons_succ] at hB
      exact Wq.mask [false, false] rfl (wb_X10_letterOf_266 g l _ o hB)
    | 17, _, hB =>
      simp only [List.getD_cons_zero, List.getD_cons_succ] at hB
      exact Wq.mask [false, false] rfl (wb_X10_letterOf_266 g l _ o hB)
    | 18, _, hB =>
      simp only [List.getD_cons_zero, List.getD_cons_succ] at hB
      exact Wq.mask [false, false] rfl (wb_X10_letterOf_266 g l _ o hB)
    | 19, _, hB =>
      simp only [List.getD_cons_zero, List.getD_cons_succ] at hB
      exact Wq.mask [false, false] rfl (wb_X10_letterOf_266 g l _ o hB)
    | 20, _, hB =>
      simp only [List.getD_cons_zero, List.getD_cons_succ] at hB
      exact Wq.mask [false, false] rfl (wb_X10_letterOf_224 g l _ o hB)
    | 21, _, hB =>
      simp only [List.getD_cons_zero, List.getD_cons_succ] at hB
      exact Wq.mask [false, false] rfl (wb_X10_letterOf_227 g l _ o hB)
    | 22, _, hB =>
      simp only [List.getD_cons_zero, List.getD_cons_succ] at hB
      exact Wq.mask [false, false] rfl (wb_X10_letterOf_230 g l _ o hB)
    | 23, _, hB =>
      simp only [List.getD_cons_zero, List.getD_cons_succ] at hB
      exact Wq.mask [false, false] rfl (wb_X10_letterOf_233 g l _ o hB)
    | 24, _, hB =>
      simp only [List.getD_cons_zero, List.getD_cons_succ] at hB
      exact Wq.mask [false, false] rfl (wb_X10_letterOf_266 g l _ o hB)
    | 25, _, hB =>
      simp only [List.getD_cons_zero, List.getD_cons_succ] at hB
      exact Wq.mask [false, false] rfl (wb_X10_letterOf_266 g l _ o hB)
    | 26, _, hB =>
      simp only [List.getD_cons_zero, List.getD_cons_succ] at hB
      exact Wq.mask [false, false] rfl (wb_X10_letterOf_266 g l _ o hB)
    | 27, _, hB =>
      simp only [List.getD_cons_zero, List.getD_cons_succ] at hB
      exact Wq.mask [false, false] rfl (wb_X10_letterOf_266 g l _ o hB)
    | 28, _, hB =>
      simp only [List.getD_cons_zero, List.getD_cons_succ] at hB
      exact Wq.mask [false, false] rfl (wb_X10_letterOf_266 g l _ o hB)
    | 29, _, hB =>
      simp only [List.getD_cons_zero, List.getD_cons_succ] at hB
      exact Wq.mask [false, false] rfl (wb_X10_letterOf_266 g l _ o hB)
    | 30, _, hB =>
      simp only [List.getD_cons_zero, List.getD_cons_succ] at hB
      exact Wq.mask [false, false] rfl (wb_X10_letterOf_236 g l _ o hB)
    | 31, _, hB =>
      simp only [List.getD_cons_zero, List.getD_cons_succ] at hB
      exact Wq.mask [false, false] rfl (wb_X10_letterOf_239 g l _ o hB)
    | 32, _, hB =>
      simp only [List.getD_cons_zero, List.getD_cons_succ] at hB
      exact Wq.mask [false, false] rfl (wb_X10_letterOf_242 g l _ o hB)
    | 33, _, hB =>
      simp only [List.getD_cons_zero, List.getD_cons_succ] at hB
      exact Wq.mask [false, false] rfl (wb_X10_letterOf_245 g l _ o hB)
    | 34, _, hB =>
      simp only [List.getD_cons_zero, List.getD_cons_succ] at hB
      exact Wq.mask [false, false] rfl (wb_X10_letterOf_248 g l _ o hB)
    | 35, _, hB =>
      simp only [List.getD_cons_zero, List.getD_cons_succ] at hB
      exact Wq.mask [false, false] rfl (wb_X10_letterOf_266 g l _ o hB)
    | 36, _, hB =>
      simp only [List.getD_cons_zero, List.getD_cons_succ] at hB
      exact Wq.mask [false, false] rfl (wb_X10_letterOf_266 g l _ o hB)
    | 37, _, hB =>
      simp only [List.getD_cons_zero, List.getD_cons_succ] at hB
      exact Wq.mask [false, false] rfl (wb_X10_letterOf_266 g l _ o hB)
    | 38, _, hB =>
      simp only [List.getD_cons_zero, List.getD_cons_succ] at hB
      exact Wq.mask [false, false] rfl (wb_X10_letterOf_266 g l _ o hB)
    | 39, _, hB =>
      simp only [List.getD_cons_zero, List.getD_cons_succ] at hB
      exact Wq.mask [false, false] rfl (wb_X10_letterOf_266 g l _ o hB)
    | 40, _, hB =>
      simp only [List.getD_cons_zero, List.getD_cons_succ] at hB
      exact Wq.mask [false, false] rfl (wb_X10_letterOf_251 g l _ o hB)
    | 41, _, hB =>
      simp only [List.getD_cons_zero, List.getD_cons_succ] at hB
      exact Wq.mask [false, false] rfl (wb_X10_letterOf_254 g l _ o hB)
    | 42, _, hB =>
      simp only [List.getD_cons_zero, List.getD_cons_succ] at hB
      exact Wq.mask [false, false] rfl (wb_X10_letterOf_257 g l _ o hB)
    | 43, _, hB =>
      simp only [List.getD_cons_zero, List.getD_cons_succ] at hB
      exact Wq.mask [false, false] rfl (wb_X10_letterOf_260 g l _ o hB)
    | 44, _, hB =>
      simp only [List.getD_cons_zero, List.getD_cons_succ] at hB
      exact Wq.mask [false, false] rfl (wb_X10_letterOf_263 g l _ o hB)
    | n + 45, hi, _ => exact absurd hi (by simp only [List.length_cons, List.length_nil]; omega)

def b_X10_readEnd_19  (a1 : Int32) (h : HS) : Option (Int32 × HS) :=
  some (a1, h)
def b_X10_readEnd_52  (a1 : Int32) (h : HS) : Option (Int32 × HS) :=
  some ((a1 + (1 : Int32)), h)
def b_X10_readEnd_87  (a1 : Int32) (h : HS) : Option (Int32 × HS) :=
  some ((a1 + (2 : Int32)), h)
def b_X10_readEnd_139  (s0 : Int32) (h : HS) : Option (Int32 × HS) :=
  some (s0, h)
def f_X10_readEnd  (a0 : Nat) (a1 : Int32) (h : HS) : Option (Int32 × HS) :=
  nn (some a0) (fun n1 => gd (ck h n1 8) ((if (hI h n1 11) ≤ a1 then b_X10_readEnd_19 a1 h else nn (some a0) (fun n2 => gd (ck h n2 8) (nn (hP h n2 10) (fun n3 => gd (ca h n3 9 a1) ((if (hI h n3 a1.toNatClampNeg) = (46 : Int32) then nn (some a0) (fun n4 => gd (ck h n4 8) ((if (hI h n4 11) ≤ (a1 + (1 : Int32)) then b_X10_readEnd_52 a1 h else nn (some a0) (fun n5 => gd (ck h n5 8) (nn (hP h n5 10) (fun n6 => gd (ca h n6 9 (a1 + (1 : Int32))) (bd (f_X10_in (hI h n6 (a1 + (1 : Int32)).toNatClampNeg).toInt64 (48 : Int64) (52 : Int64) h) (fun r7 => (if r7.1 = 0 then b_X10_readEnd_52 a1 r7.2 else nn (some a0) (fun n8 => gd (ck r7.2 n8 8) ((if (hI r7.2 n8 11) ≤ (a1 + (2 : Int32)) then b_X10_readEnd_87 a1 r7.2 else nn (some a0) (fun n9 => gd (ck r7.2 n9 8) (nn (hP r7.2 n9 10) (fun n10 => gd (ca r7.2 n10 9 (a1 + (2 : Int32))) (bd (f_X10_in (hI r7.2 n10 (a1 + (2 : Int32)).toNatClampNeg).toInt64 (49 : Int64) (57 : Int64) r7.2) (fun r11 => (if r11.1 = 0 then b_X10_readEnd_87 a1 r11.2 else nn (some a0) (fun n12 => gd (ck r11.2 n12 8) (nn (hP r11.2 n12 10) (fun n13 => gd (ca r11.2 n13 9 (a1 + (1 : Int32))) (nn (some a0) (fun n14 => gd (ck r11.2 n14 8) (hl (sI r11.2 n14 8 ((hI r11.2 n13 (a1 + (1 : Int32)).toNatClampNeg) - (48 : Int32))) (fun h15 => nn (some a0) (fun n16 => gd (ck h15 n16 8) (nn (hP h15 n16 10) (fun n17 => gd (ca h15 n17 9 (a1 + (2 : Int32))) (nn (some a0) (fun n18 => gd (ck h15 n18 8) (hl (sI h15 n18 9 ((hI h15 n17 (a1 + (2 : Int32)).toNatClampNeg) - (48 : Int32))) (fun h19 => nn (some a0) (fun n20 => gd (ck h19 n20 8) ((if (hI h19 n20 11) ≤ (a1 + (3 : Int32)) then b_X10_readEnd_139 (-9 : Int32) h19 else b_X10_readEnd_139 (a1 + (3 : Int32)) h19))))))))))))))))))))))))))))))))))) else b_X10_readEnd_19 a1 h))))))))
set_option maxHeartbeats 4000000 in
set_option maxRecDepth 100000 in
theorem wb_X10_readEnd_19 (g : GG) (l : Launch) (a1 : Int32) (h : HS) (o : Int32 × HS) (hB : b_X10_readEnd_19 a1 h = some o) : Wq g l mX10_readEnd 0 0 19 [none, some (.int a1)] [] h (QI o) := by
  unfold b_X10_readEnd_19 at hB
  refine q_iload_n dX10_readEnd_19 rfl rfl ?_
  exact q_iret hB dX10_readEnd_20 rfl (by decide) (by decide)
set_option maxHeartbeats 4000000 in
set_option maxRecDepth 100000 in
theorem wb_X10_readEnd_52 (g : GG) (l : Launch) (a1 : Int32) (h : HS) (o : Int32 × HS) (hB : b_X10_readEnd_52 a1 h = some o) : Wq g l mX10_readEnd 0 0 52 [none, some (.int a1)] [] h (QI o) := by
  unfold b_X10_readEnd_52 at hB
  refine q_iload_n dX10_readEnd_52 rfl rfl ?_
  refine q_iconst (v := 1) dX10_readEnd_53 (by decide) ?_
  refine q_iadd dX10_readEnd_54 ?_
  exact q_iret hB dX10_readEnd_55 rfl (by decide) (by decide)
set_option maxHeartbeats 4000000 in
set_option maxRecDepth 100000 in
theorem wb_X10_readEnd_87 (g : GG) (l : Launch) (a1 : Int32) (h : HS) (o : Int32 × HS) (hB : b_X10_readEnd_87 a1 h = some o) : Wq g l mX10_readEnd 0 0 87 [none, some (.int a1)] [] h (QI o) := by
  unfold b_X10_readEnd_87 at hB
  refine q_iload_n dX10_readEnd_87 rfl rfl ?_
  refine q_iconst (v := 2) dX10_readEnd_88 (by decide) ?_
  refine q_iadd dX10_readEnd_89 ?_
  exact q_iret hB dX10_readEnd_90 rfl (by decide) (by decide)
set_option maxHeartbeats 4000000 in
set_option maxRecDepth 100000 in
theorem wb_X10_readEnd_139 (g : GG) (l : Launch) (s0 : Int32) (h : HS) (o : Int32 × HS) (hB : b_X10_readEnd_139 s0 h = some o) : Wq g l mX10_readEnd 0 0 139 [none, none] [.int s0] h (QI o) := by
  unfold b_X10_readEnd_139 at hB
  exact q_iret hB dX10_readEnd_139 rfl (by decide) (by decide)
set_option maxHeartbeats 4000000 in
set_option maxRecDepth 100000 in
theorem c_X10_readEnd (g : GG) (l : Launch) (a0 : Nat) (a1 : Int32) (h : HS) (o : Int32 × HS) (hB : f_X10_readEnd a0 a1 h = some o) : Ct g l mX10_readEnd [va_rf (some a0), .int a1] h (QI o) := by
  refine Ct.of2 (lv0 := [some (va_rf (some a0)), some (.int a1)]) (by decide +kernel) (by simp [lg_sl, rf_cat, cat_i, cat_l]) rfl ?_
  unfold f_X10_readEnd at hB
  refine q_iload_n dX10_readEnd_0 rfl rfl ?_
  refine q_aload_n dX10_readEnd_1 rfl rfl ?_
  refine q_getI (j := 11) hB dX10_readEnd_2 fc_8 (by decide) rfl wd_740 (fun n1 hB => ?_)
  refine q_icmp_ge (tgt := 19) hB dX10_readEnd_5 (by decide) (fun hB => ?_) (fun hB => ?_)
  · exact Wq.mask [false, true] rfl (wb_X10_readEnd_19 g l _ _ o hB)
  · refine q_aload_n dX10_readEnd_8 rfl rfl ?_
    refine q_getP (j := 10) hB dX10_readEnd_9 fc_8 (by decide) rfl wd_739 (fun n2 hB => ?_)
    refine q_iload_n dX10_readEnd_12 rfl rfl ?_
    refine q_iald hB dX10_readEnd_13 (fun n3 hB => ?_)
    refine q_bipush (v := 46) dX10_readEnd_14 (by decide) ?_
    refine q_icmp_eq (tgt := 21) hB dX10_readEnd_16 (by decide) (fun hB => ?_) (fun hB => ?_)
    · refine q_iload_n dX10_readEnd_21 rfl rfl ?_
      refine q_iconst (v := 1) dX10_readEnd_22 (by decide) ?_
      refine q_iadd dX10_readEnd_23 ?_
      refine q_aload_n dX10_readEnd_24 rfl rfl ?_
      refine q_getI (j := 11) hB dX10_readEnd_25 fc_8 (by decide) rfl wd_740 (fun n4 hB => ?_)
      refine q_icmp_ge (tgt := 52) hB dX10_readEnd_28 (by decide) (fun hB => ?_) (fun hB => ?_)
      · exact Wq.mask [false, true] rfl (wb_X10_readEnd_52 g l _ _ o hB)
      · refine q_aload_n dX10_readEnd_31 rfl rfl ?_
        refine q_getP (j := 10) hB dX10_readEnd_32 fc_8 (by decide) rfl wd_739 (fun n5 hB => ?_)
        refine q_iload_n dX10_readEnd_35 rfl rfl ?_
        refine q_iconst (v := 1) dX10_readEnd_36 (by decide) ?_
        refine q_iadd dX10_readEnd_37 ?_
        refine q_iald hB dX10_readEnd_38 (fun n6 hB => ?_)
        refine q_i2l dX10_readEnd_39 ?_
        refine q_ldc2 dX10_readEnd_40 wd_851 ?_
        refine q_ldc2 dX10_readEnd_43 wd_852 ?_
        refine q_callSI (k' := 0) (w' := 0) hB (fun a hf => c_X10_in g l _ _ _ _ a hf) rfl dX10_readEnd_46 wd_825 cs_X10_in wd_826 rfl ⟨⟨Nat.le_of_ble_eq_true rfl, Nat.le_of_ble_eq_true rfl⟩, ⟨Nat.le_of_ble_eq_true rfl, Nat.le_of_ble_eq_true rfl⟩, Nat.le_of_ble_eq_true rfl⟩ rfl rfl (fun r7 hB => ?_)
        refine q_if_ne (tgt := 56) hB dX10_readEnd_49 (by decide) (fun hB => ?_) (fun hB => ?_)
        · refine q_iload_n dX10_readEnd_56 rfl rfl ?_
          refine q_iconst (v := 2) dX10_readEnd_57 (by decide) ?_
          refine q_iadd dX10_readEnd_58 ?_
          refine q_aload_n dX10_readEnd_59 rfl rfl ?_
          refine q_getI (j := 11) hB dX10_readEnd_60 fc_8 (by decide) rfl wd_740 (fun n8 hB => ?_)
          refine q_icmp_ge (tgt := 87) hB dX10_readEnd_63 (by decide) (fun hB => ?_) (fun hB => ?_)
          · exact Wq.mask [false, true] rfl (wb_X10_readEnd_87 g l _ _ o hB)
          · refine q_aload_n dX10_readEnd_66 rfl rfl ?_
            refine q_getP (j := 10) hB dX10_readEnd_67 fc_8 (by decide) rfl wd_739 (fun n9 hB => ?_)
            refine q_iload_n dX10_readEnd_70 rfl rfl ?_
            refine q_iconst (v := 2) dX10_readEnd_71 (by decide) ?_
            refine q_iadd dX10_readEnd_72 ?_
            refine q_iald hB dX10_readEnd_73 (fun n10 hB => ?_)
            refine q_i2l dX10_readEnd_74 ?_
            refine q_ldc2 dX10_readEnd_75 wd_853 ?_
            refine q_ldc2 dX10_readEnd_78 wd_854 ?_
            refine q_callSI (k' := 0) (w' := 0) hB (fun a hf => c_X10_in g l _ _ _ _ a hf) rfl dX10_readEnd_81 wd_825 cs_X10_in wd_826 rfl ⟨⟨Nat.le_of_ble_eq_true rfl, Nat.le_of_ble_eq_true rfl⟩, ⟨Nat.le_of_ble_eq_true rfl, Nat.le_of_ble_eq_true rfl⟩, Nat.le_of_ble_eq_true rfl⟩ rfl rfl (fun r11 hB => ?_)
            refine q_if_ne (tgt := 91) hB dX10_readEnd_84 (by decide) (fun hB => ?_) (fun hB => ?_)
            · refine q_aload_n dX10_readEnd_91 rfl rfl ?_
              refine q_aload_n dX10_readEnd_92 rfl rfl ?_
              refine q_getP (j := 10) hB dX10_readEnd_93 fc_8 (by decide) rfl wd_739 (fun n12 hB => ?_)
              refine q_iload_n dX10_readEnd_96 rfl rfl ?_
              refine q_iconst (v := 1) dX10_readEnd_97 (by decide) ?_
              refine q_iadd dX10_readEnd_98 ?_
              refine q_iald hB dX10_readEnd_99 (fun n13 hB => ?_)
              refine q_bipush (v := 48) dX10_readEnd_100 (by decide) ?_
              refine q_isub dX10_readEnd_102 ?_
              refine q_putI (j := 8) hB dX10_readEnd_103 fc_8 (by decide) rfl wd_737 rfl (fun n14 hB => ?_)
              refine q_nm hB (fun h15 hB => ?_)
              refine q_aload_n dX10_readEnd_106 rfl rfl ?_
              refine q_aload_n dX10_readEnd_107 rfl rfl ?_
              refine q_getP (j := 10) hB dX10_readEnd_108 fc_8 (by decide) rfl wd_739 (fun n16 hB => ?_)
              refine q_iload_n dX10_readEnd_111 rfl rfl ?_
              refine q_iconst (v := 2) dX10_readEnd_112 (by decide) ?_
              refine q_iadd dX10_readEnd_113 ?_
              refine q_iald hB dX10_readEnd_114 (fun n17 hB => ?_)
              refine q_bipush (v := 48) dX10_readEnd_115 (by decide) ?_
              refine q_isub dX10_readEnd_117 ?_
              refine q_putI (j := 9) hB dX10_readEnd_118 fc_8 (by decide) rfl wd_738 rfl (fun n18 hB => ?_)
              refine q_nm hB (fun h19 hB => ?_)
              refine q_iload_n dX10_readEnd_121 rfl rfl ?_
              refine q_iconst (v := 3) dX10_readEnd_122 (by decide) ?_
              refine q_iadd dX10_readEnd_123 ?_
              refine q_aload_n dX10_readEnd_124 rfl rfl ?_
              refine q_getI (j := 11) hB dX10_readEnd_125 fc_8 (by decide) rfl wd_740 (fun n20 hB => ?_)
              refine q_icmp_ge (tgt := 137) hB dX10_readEnd_128 (by decide) (fun hB => ?_) (fun hB => ?_)
              · refine q_bipush (v := -9) dX10_readEnd_137 (by decide) ?_
                exact Wq.mask [false, false] rfl (wb_X10_readEnd_139 g l _ _ o hB)
              · refine q_iload_n dX10_readEnd_131 rfl rfl ?_
                refine q_iconst (v := 3) dX10_readEnd_132 (by decide) ?_
                refine q_iadd dX10_readEnd_133 ?_
                refine q_goto (tgt := 139) dX10_readEnd_134 (by decide) ?_
                exact Wq.mask [false, false] rfl (wb_X10_readEnd_139 g l _ _ o hB)
            · exact Wq.mask [false, true] rfl (wb_X10_readEnd_87 g l _ _ o hB)
        · exact Wq.mask [false, true] rfl (wb_X10_readEnd_52 g l _ _ o hB)
    · exact Wq.mask [false, true] rfl (wb_X10_readEnd_19 g l _ _ o hB)

def b_X10_readText_27  (h : HS) : Option (Int32 × HS) :=
  some ((0 : Int32), h)
def b_X10_readText_80  (h : HS) : Option (Int32 × HS) :=
  some ((1 : Int32), h)
def b_X10_readText_203  (a1 : Int32) (h : HS) : Option (Int32 × HS) :=
  some (a1, h)
def b_X10_readText_161  (k161 : Nat → Int32 → HS → Option (Int32 × HS)) (a0 : Nat) (a1 : Int32) (h : HS) : Option (Int32 × HS) :=
  nn (some a0) (fun n1 => gd (ck h n1 8) (bd (f_X10_letterOf (hI h n1 7) (a1 - (2 : Int32)) h) (fun r2 => (if r2.1 = (-9 : Int32) then nn (some a0) (fun n4 => gd (rk r2.2 n4 8) (bd (f_X10_readEnd n4 a1 r2.2) (fun r3 => some (r3.1, r3.2)))) else nn (some a0) (fun n5 => gd (ck r2.2 n5 8) ((if (hI r2.2 n5 11) ≤ a1 then b_X10_readText_203 a1 r2.2 else nn (some a0) (fun n6 => gd (ck r2.2 n6 8) (nn (hP r2.2 n6 10) (fun n7 => gd (ca r2.2 n7 9 a1) (nn (some a0) (fun n8 => gd (ck r2.2 n8 8) (bd (f_X10_letterOf (hI r2.2 n8 7) (a1 - (2 : Int32)) r2.2) (fun r9 => (if (hI r2.2 n7 a1.toNatClampNeg) = r9.1 then k161 a0 (a1 + (1 : Int32)) r9.2 else b_X10_readText_203 a1 r9.2)))))))))))))))
def l_X10_readText_161  : Nat → Nat → Int32 → HS → Option (Int32 × HS)
  | 0 => fun _ _ _ => none
  | n + 1 => b_X10_readText_161 (l_X10_readText_161 n)
def b_X10_readText_139  (k103 : Nat → Int32 → HS → Option (Int32 × HS)) (a0 : Nat) (a1 : Int32) (s0 : Option Nat) (s1 : Int32) (h : HS) : Option (Int32 × HS) :=
  nn s0 (fun n1 => gd (ck h n1 8) (hl (sI h n1 7 s1) (fun h2 => k103 a0 (a1 + (1 : Int32)) h2)))
def b_X10_readText_135  (k103 : Nat → Int32 → HS → Option (Int32 × HS)) (a0 : Nat) (a1 : Int32) (s0 : Option Nat) (h : HS) : Option (Int32 × HS) :=
  nn (some a0) (fun n1 => gd (ck h n1 8) (b_X10_readText_139 k103 a0 a1 s0 (hI h n1 7) h))
def b_X10_readText_103  (k103 : Nat → Int32 → HS → Option (Int32 × HS)) (a0 : Nat) (a1 : Int32) (h : HS) : Option (Int32 × HS) :=
  (if (5 : Int32) ≤ a1 then nn (some a0) (fun n1 => gd (ck h n1 8) ((if (hI h n1 7) = (-9 : Int32) then some ((2 : Int32), h) else l_X10_readText_161 FU a0 (2 : Int32) h))) else nn (some a0) (fun n2 => gd (ck h n2 8) ((if (hI h n2 11) ≤ (2 : Int32) then b_X10_readText_135 k103 a0 a1 (some a0) h else bd (f_X10_letterOf a1 (0 : Int32) h) (fun r3 => nn (some a0) (fun n4 => gd (ck r3.2 n4 8) (nn (hP r3.2 n4 10) (fun n5 => gd (ca r3.2 n5 9 (2 : Int32)) ((if r3.1 = (hI r3.2 n5 (2 : Int32).toNatClampNeg) then b_X10_readText_139 k103 a0 a1 (some a0) a1 r3.2 else b_X10_readText_135 k103 a0 a1 (some a0) r3.2))))))))))
def l_X10_readText_103  : Nat → Nat → Int32 → HS → Option (Int32 × HS)
  | 0 => fun _ _ _ => none
  | n + 1 => b_X10_readText_103 (l_X10_readText_103 n)
def f_X10_readText  (a0 : Nat) (h : HS) : Option (Int32 × HS) :=
  nn (some a0) (fun n1 => gd (ck h n1 8) ((if (hI h n1 11) = 0 then b_X10_readText_27 h else nn (some a0) (fun n2 => gd (ck h n2 8) (nn (hP h n2 10) (fun n3 => gd (ca h n3 9 (0 : Int32)) (bd (f_X10_fieldOf (hI h n3 (0 : Int32).toNatClampNeg) h) (fun r4 => bd (f_X10_in r4.1.toInt64 (0 : Int64) (2 : Int64) r4.2) (fun r5 => (if r5.1 = 0 then b_X10_readText_27 r5.2 else nn (some a0) (fun n6 => gd (ck r5.2 n6 8) (nn (hP r5.2 n6 10) (fun n7 => gd (ca r5.2 n7 9 (0 : Int32)) (bd (f_X10_fieldOf (hI r5.2 n7 (0 : Int32).toNatClampNeg) r5.2) (fun r8 => nn (some a0) (fun n9 => gd (ck r8.2 n9 8) (hl (sI r8.2 n9 5 r8.1) (fun h10 => nn (some a0) (fun n11 => gd (ck h10 n11 8) ((if (hI h10 n11 11) = (1 : Int32) then b_X10_readText_80 h10 else nn (some a0) (fun n12 => gd (ck h10 n12 8) (nn (hP h10 n12 10) (fun n13 => gd (ca h10 n13 9 (1 : Int32)) (bd (f_X10_fieldOf (hI h10 n13 (1 : Int32).toNatClampNeg) h10) (fun r14 => (if r14.1 = (-9 : Int32) then b_X10_readText_80 r14.2 else nn (some a0) (fun n15 => gd (ck r14.2 n15 8) (nn (hP r14.2 n15 10) (fun n16 => gd (ca r14.2 n16 9 (1 : Int32)) (bd (f_X10_fieldOf (hI r14.2 n16 (1 : Int32).toNatClampNeg) r14.2) (fun r17 => nn (some a0) (fun n18 => gd (ck r17.2 n18 8) ((if r17.1 = (hI r17.2 n18 5) then b_X10_readText_80 r17.2 else nn (some a0) (fun n19 => gd (ck r17.2 n19 8) (nn (hP r17.2 n19 10) (fun n20 => gd (ca r17.2 n20 9 (1 : Int32)) (bd (f_X10_fieldOf (hI r17.2 n20 (1 : Int32).toNatClampNeg) r17.2) (fun r21 => nn (some a0) (fun n22 => gd (ck r21.2 n22 8) (hl (sI r21.2 n22 6 r21.1) (fun h23 => nn (some a0) (fun n24 => gd (ck h23 n24 8) (hl (sI h23 n24 7 (-9 : Int32)) (fun h25 => l_X10_readText_103 FU a0 (0 : Int32) h25))))))))))))))))))))))))))))))))))))))))))))))
set_option maxHeartbeats 4000000 in
set_option maxRecDepth 100000 in
theorem wb_X10_readText_27 (g : GG) (l : Launch) (h : HS) (o : Int32 × HS) (hB : b_X10_readText_27  h = some o) : Wq g l mX10_readText 0 0 27 [none, none] [] h (QI o) := by
  unfold b_X10_readText_27 at hB
  refine q_iconst (v := 0) dX10_readText_27 (by decide) ?_
  exact q_iret hB dX10_readText_28 rfl (by decide) (by decide)
set_option maxHeartbeats 4000000 in
set_option maxRecDepth 100000 in
theorem wb_X10_readText_80 (g : GG) (l : Launch) (h : HS) (o : Int32 × HS) (hB : b_X10_readText_80  h = some o) : Wq g l mX10_readText 0 0 80 [none, none] [] h (QI o) := by
  unfold b_X10_readText_80 at hB
  refine q_iconst (v := 1) dX10_readText_80 (by decide) ?_
  exact q_iret hB dX10_readText_81 rfl (by decide) (by decide)
set_option maxHeartbeats 4000000 in
set_option maxRecDepth 100000 in
theorem wb_X10_readText_203 (g : GG) (l : Launch) (a1 : Int32) (h : HS) (o : Int32 × HS) (hB : b_X10_readText_203 a1 h = some o) : Wq g l mX10_readText 0 0 203 [none, some (.int a1)] [] h (QI o) := by
  unfold b_X10_readText_203 at hB
  refine q_iload_n dX10_readText_203 rfl rfl ?_
  exact q_iret hB dX10_readText_204 rfl (by decide) (by decide)
set_option maxHeartbeats 4000000 in
set_option maxRecDepth 100000 in
theorem wb_X10_readText_161 (g : GG) (l : Launch) (k161 : Nat → Int32 → HS → Option (Int32 × HS)) (a0 : Nat) (a1 : Int32) (h : HS) (o : Int32 × HS) (hB : b_X10_readText_161 k161 a0 a1 h = some o) (hk161 : ∀ (a0 : Nat) (a1 : Int32) (h : HS), k161 a0 a1 h = some o → Wq g l mX10_readText 0 0 161 [some (va_rf (some a0)), some (.int a1)] [] h (QI o)) : Wq g l mX10_readText 0 0 161 [some (va_rf (some a0)), some (.int a1)] [] h (QI o) := by
  unfold b_X10_readText_161 at hB
  refine q_aload_n dX10_readText_161 rfl rfl ?_
  refine q_getI (j := 7) hB dX10_readText_162 fc_8 (by decide) rfl wd_736 (fun n1 hB => ?_)
  refine q_iload_n dX10_readText_165 rfl rfl ?_
  refine q_iconst (v := 2) dX10_readText_166 (by decide) ?_
  refine q_isub dX10_readText_167 ?_
  refine q_callSI (k' := 0) (w' := 0) hB (fun a hf => c_X10_letterOf g l _ _ _ a hf) rfl dX10_readText_168 wd_844 cs_X10_letterOf wd_845 rfl ⟨⟨Nat.le_of_ble_eq_true rfl, Nat.le_of_ble_eq_true rfl⟩, ⟨Nat.le_of_ble_eq_true rfl, Nat.le_of_ble_eq_true rfl⟩, Nat.le_of_ble_eq_true rfl⟩ rfl rfl (fun r2 hB => ?_)
  refine q_bipush (v := -9) dX10_readText_171 (by decide) ?_
  refine q_icmp_eq (tgt := 211) hB dX10_readText_173 (by decide) (fun hB => ?_) (fun hB => ?_)
  · refine q_aload_n dX10_readText_211 rfl rfl ?_
    refine q_iload_n dX10_readText_212 rfl rfl ?_
    refine q_callVI (k' := 0) (w' := 0) hB (fun b a hf => c_X10_readEnd g l b _ _ a hf) rfl rfl dX10_readText_213 wd_847 cs_X10_readEnd wd_849 wd_20 rfl ⟨⟨Nat.le_of_ble_eq_true rfl, Nat.le_of_ble_eq_true rfl⟩, ⟨Nat.le_of_ble_eq_true rfl, Nat.le_of_ble_eq_true rfl⟩, Nat.le_of_ble_eq_true rfl⟩ rfl rfl (fun n4 r3 hB => ?_)
    exact q_iret hB dX10_readText_216 rfl (by decide) (by decide)
  · refine q_iload_n dX10_readText_176 rfl rfl ?_
    refine q_aload_n dX10_readText_177 rfl rfl ?_
    refine q_getI (j := 11) hB dX10_readText_178 fc_8 (by decide) rfl wd_740 (fun n5 hB => ?_)
    refine q_icmp_ge (tgt := 203) hB dX10_readText_181 (by decide) (fun hB => ?_) (fun hB => ?_)
    · exact Wq.mask [false, true] rfl (wb_X10_readText_203 g l _ _ o hB)
    · refine q_aload_n dX10_readText_184 rfl rfl ?_
      refine q_getP (j := 10) hB dX10_readText_185 fc_8 (by decide) rfl wd_739 (fun n6 hB => ?_)
      refine q_iload_n dX10_readText_188 rfl rfl ?_
      refine q_iald hB dX10_readText_189 (fun n7 hB => ?_)
      refine q_aload_n dX10_readText_190 rfl rfl ?_
      refine q_getI (j := 7) hB dX10_readText_191 fc_8 (by decide) rfl wd_736 (fun n8 hB => ?_)
      refine q_iload_n dX10_readText_194 rfl rfl ?_
      refine q_iconst (v := 2) dX10_readText_195 (by decide) ?_
      refine q_isub dX10_readText_196 ?_
      refine q_callSI (k' := 0) (w' := 0) hB (fun a hf => c_X10_letterOf g l _ _ _ a hf) rfl dX10_readText_197 wd_844 cs_X10_letterOf wd_845 rfl ⟨⟨Nat.le_of_ble_eq_true rfl, Nat.le_of_ble_eq_true rfl⟩, ⟨Nat.le_of_ble_eq_true rfl, Nat.le_of_ble_eq_true rfl⟩, by simp [rf_cat, cat_i, cat_l]⟩ rfl rfl (fun r9 hB => ?_)
      refine q_icmp_eq (tgt := 205) hB dX10_readText_200 (by decide) (fun hB => ?_) (fun hB => ?_)
      · refine q_iinc dX10_readText_205 rfl (show _ = (a1 + (1 : Int32)) from rfl) (by decide) (nb_r (j := 0) rfl) ?_
        refine q_goto (tgt := 161) dX10_readText_208 (by decide) ?_
        exact Wq.mask [true, true] rfl (hk161 _ _ _ hB)
      · exact Wq.mask [false, true] rfl (wb_X10_readText_203 g l _ _ o hB)
set_option maxHeartbeats 4000000 in
theorem wl_X10_readText_161 (g : GG) (l : Launch) (o : Int32 × HS) : ∀ (n : Nat) (a0 : Nat) (a1 : Int32) (h : HS), l_X10_readText_161 n a0 a1 h = some o → Wq g l mX10_readText 0 0 161 [some (va_rf (some a0)), some (.int a1)] [] h (QI o) := by
  intro n
  induction n with
  | zero =>
    intro a0 a1  h hB
    have q : (none : Option (Int32 × HS)) = some o := hB
    cases q
  | succ n ih =>
    intro a0 a1  h hB
    exact wb_X10_readText_161 g l (l_X10_readText_161 n) a0 a1 h o hB ih
set_option maxHeartbeats 4000000 in
set_option maxRecDepth 100000 in
theorem wb_X10_readText_139 (g : GG) (l : Launch) (k103 : Nat → Int32 → HS → Option (Int32 × HS)) (a0 : Nat) (a1 : Int32) (s0 : Option Nat) (s1 : Int32) (h : HS) (o : Int32 × HS) (hB : b_X10_readText_139 k103 a0 a1 s0 s1 h = some o) (hk103 : ∀ (a0 : Nat) (a1 : Int32) (h : HS), k103 a0 a1 h = some o → Wq g l mX10_readText 0 0 103 [some (va_rf (some a0)), some (.int a1)] [] h (QI o)) : Wq g l mX10_readText 0 0 139 [some (va_rf (some a0)), some (.int a1)] [.int s1, va_rf s0] h (QI o) := by
  unfold b_X10_readText_139 at hB
  refine q_putI (j := 7) hB dX10_readText_139 fc_8 (by decide) rfl wd_736 rfl (fun n1 hB => ?_)
  refine q_nm hB (fun h2 hB => ?_)
  refine q_iinc dX10_readText_142 rfl (show _ = (a1 + (1 : Int32)) from rfl) (by decide) (nb_r (j := 0) rfl) ?_
  refine q_goto (tgt := 103) dX10_readText_145 (by decide) ?_
  exact Wq.mask [true, true] rfl (hk103 _ _ _ hB)
set_option maxHeartbeats 4000000 in
set_option maxRecDepth 100000 in
theorem wb_X10_readText_135 (g : GG) (l : Launch) (k103 : Nat → Int32 → HS → Option (Int32 × HS)) (a0 : Nat) (a1 : Int32) (s0 : Option Nat) (h : HS) (o : Int32 × HS) (hB : b_X10_readText_135 k103 a0 a1 s0 h = some o) (hk103 : ∀ (a0 : Nat) (a1 : Int32) (h : HS), k103 a0 a1 h = some o → Wq g l mX10_readText 0 0 103 [some (va_rf (some a0)), some (.int a1)] [] h (QI o)) : Wq g l mX10_readText 0 0 135 [some (va_rf (some a0)), some (.int a1)] [va_rf s0] h (QI o) := by
  unfold b_X10_readText_135 at hB
  refine q_aload_n dX10_readText_135 rfl rfl ?_
  refine q_getI (j := 7) hB dX10_readText_136 fc_8 (by decide) rfl wd_736 (fun n1 hB => ?_)
  exact Wq.mask [true, true] rfl (wb_X10_readText_139 g l k103 _ _ _ _ _ o hB hk103)
set_option maxHeartbeats 4000000 in
set_option maxRecDepth 100000 in
theorem wb_X10_readText_103 (g : GG) (l : Launch) (k103 : Nat → Int32 → HS → Option (Int32 × HS)) (a0 : Nat) (a1 : Int32) (h : HS) (o : Int32 × HS) (hB : b_X10_readText_103 k103 a0 a1 h = some o) (hk103 : ∀ (a0 : Nat) (a1 : Int32) (h : HS), k103 a0 a1 h = some o → Wq g l mX10_readText 0 0 103 [some (va_rf (some a0)), some (.int a1)] [] h (QI o)) : Wq g l mX10_readText 0 0 103 [some (va_rf (some a0)), some (.int a1)] [] h (QI o) := by
  unfold b_X10_readText_103 at hB
  refine q_iload_n dX10_readText_103 rfl rfl ?_
  refine q_iconst (v := 5) dX10_readText_104 (by decide) ?_
  refine q_icmp_ge (tgt := 148) hB dX10_readText_105 (by decide) (fun hB => ?_) (fun hB => ?_)
  · refine q_aload_n dX10_readText_148 rfl rfl ?_
    refine q_getI (j := 7) hB dX10_readText_149 fc_8 (by decide) rfl wd_736 (fun n1 hB => ?_)
    refine q_bipush (v := -9) dX10_readText_152 (by decide) ?_
    refine q_icmp_ne (tgt := 159) hB dX10_readText_154 (by decide) (fun hB => ?_) (fun hB => ?_)
    · refine q_iconst (v := 2) dX10_readText_159 (by decide) ?_
      refine q_istore_n dX10_readText_160 rfl (by decide) (nb_r (j := 0) rfl) ?_
      exact Wq.mask [true, true] rfl (wl_X10_readText_161 g l o FU _ _ _ hB)
    · refine q_iconst (v := 2) dX10_readText_157 (by decide) ?_
      exact q_iret hB dX10_readText_158 rfl (by decide) (by decide)
  · refine q_aload_n dX10_readText_108 rfl rfl ?_
    refine q_aload_n dX10_readText_109 rfl rfl ?_
    refine q_getI (j := 11) hB dX10_readText_110 fc_8 (by decide) rfl wd_740 (fun n2 hB => ?_)
    refine q_iconst (v := 2) dX10_readText_113 (by decide) ?_
    refine q_icmp_le (tgt := 135) hB dX10_readText_114 (by decide) (fun hB => ?_) (fun hB => ?_)
    · exact Wq.mask [true, true] rfl (wb_X10_readText_135 g l k103 _ _ _ _ o hB hk103)
    · refine q_iload_n dX10_readText_117 rfl rfl ?_
      refine q_iconst (v := 0) dX10_readText_118 (by decide) ?_
      refine q_callSI (k' := 0) (w' := 0) hB (fun a hf => c_X10_letterOf g l _ _ _ a hf) rfl dX10_readText_119 wd_844 cs_X10_letterOf wd_845 rfl ⟨⟨Nat.le_of_ble_eq_true rfl, Nat.le_of_ble_eq_true rfl⟩, ⟨Nat.le_of_ble_eq_true rfl, Nat.le_of_ble_eq_true rfl⟩, by simp [rf_cat, cat_i, cat_l]⟩ rfl rfl (fun r3 hB => ?_)
      refine q_aload_n dX10_readText_122 rfl rfl ?_
      refine q_getP (j := 10) hB dX10_readText_123 fc_8 (by decide) rfl wd_739 (fun n4 hB => ?_)
      refine q_iconst (v := 2) dX10_readText_126 (by decide) ?_
      refine q_iald hB dX10_readText_127 (fun n5 hB => ?_)
      refine q_icmp_ne (tgt := 135) hB dX10_readText_128 (by decide) (fun hB => ?_) (fun hB => ?_)
      · exact Wq.mask [true, true] rfl (wb_X10_readText_135 g l k103 _ _ _ _ o hB hk103)
      · refine q_iload_n dX10_readText_131 rfl rfl ?_
        refine q_goto (tgt := 139) dX10_readText_132 (by decide) ?_
        exact Wq.mask [true, true] rfl (wb_X10_readText_139 g l k103 _ _ _ _ _ o hB hk103)
set_option maxHeartbeats 4000000 in
theorem wl_X10_readText_103 (g : GG) (l : Launch) (o : Int32 × HS) : ∀ (n : Nat) (a0 : Nat) (a1 : Int32) (h : HS), l_X10_readText_103 n a0 a1 h = some o → Wq g l mX10_readText 0 0 103 [some (va_rf (some a0)), some (.int a1)] [] h (QI o) := by
  intro n
  induction n with
  | zero =>
    intro a0 a1  h hB
    have q : (none : Option (Int32 × HS)) = some o := hB
    cases q
  | succ n ih =>
    intro a0 a1  h hB
    exact wb_X10_readText_103 g l (l_X10_readText_103 n) a0 a1 h o hB ih
set_option maxHeartbeats 4000000 in
set_option maxRecDepth 100000 in
theorem c_X10_readText (g : GG) (l : Launch) (a0 : Nat) (h : HS) (o : Int32 × HS) (hB : f_X10_readText a0 h = some o) : Ct g l mX10_readText [va_rf (some a0)] h (QI o) := by
  refine Ct.of2 (lv0 := [some (va_rf (some a0)), none]) (by decide +kernel) (by simp [lg_sl, rf_cat, cat_i, cat_l]) rfl ?_
  unfold f_X10_readText at hB
  refine q_aload_n dX10_readText_0 rfl rfl ?_
  refine q_getI (j := 11) hB dX10_readText_1 fc_8 (by decide) rfl wd_740 (fun n1 hB => ?_)
  refine q_if_eq (tgt := 27) hB dX10_readText_4 (by decide) (fun hB => ?_) (fun hB => ?_)
  · exact Wq.mask [false, false] rfl (wb_X10_readText_27 g l _ o hB)
  · refine q_aload_n dX10_readText_7 rfl rfl ?_
    refine q_getP (j := 10) hB dX10_readText_8 fc_8 (by decide) rfl wd_739 (fun n2 hB => ?_)
    refine q_iconst (v := 0) dX10_readText_11 (by decide) ?_
    refine q_iald hB dX10_readText_12 (fun n3 hB => ?_)
    refine q_callSI (k' := 0) (w' := 0) hB (fun a hf => c_X10_fieldOf g l _ _ a hf) rfl dX10_readText_13 wd_840 cs_X10_fieldOf wd_841 rfl ⟨⟨Nat.le_of_ble_eq_true rfl, Nat.le_of_ble_eq_true rfl⟩, ⟨Nat.le_of_ble_eq_true rfl, Nat.le_of_ble_eq_true rfl⟩, Nat.le_of_ble_eq_true rfl⟩ rfl rfl (fun r4 hB => ?_)
    refine q_i2l dX10_readText_16 ?_
    refine q_lconst (v := 0) dX10_readText_17 (by decide) ?_
    refine q_ldc2 dX10_readText_18 wd_843 ?_
    refine q_callSI (k' := 0) (w' := 0) hB (fun a hf => c_X10_in g l _ _ _ _ a hf) rfl dX10_readText_21 wd_825 cs_X10_in wd_826 rfl ⟨⟨Nat.le_of_ble_eq_true rfl, Nat.le_of_ble_eq_true rfl⟩, ⟨Nat.le_of_ble_eq_true rfl, Nat.le_of_ble_eq_true rfl⟩, Nat.le_of_ble_eq_true rfl⟩ rfl rfl (fun r5 hB => ?_)
    refine q_if_ne (tgt := 29) hB dX10_readText_24 (by decide) (fun hB => ?_) (fun hB => ?_)
    · refine q_aload_n dX10_readText_29 rfl rfl ?_
      refine q_aload_n dX10_readText_30 rfl rfl ?_
      refine q_getP (j := 10) hB dX10_readText_31 fc_8 (by decide) rfl wd_739 (fun n6 hB => ?_)
      refine q_iconst (v := 0) dX10_readText_34 (by decide) ?_
      refine q_iald hB dX10_readText_35 (fun n7 hB => ?_)
      refine q_callSI (k' := 0) (w' := 0) hB (fun a hf => c_X10_fieldOf g l _ _ a hf) rfl dX10_readText_36 wd_840 cs_X10_fieldOf wd_841 rfl ⟨⟨Nat.le_of_ble_eq_true rfl, Nat.le_of_ble_eq_true rfl⟩, ⟨Nat.le_of_ble_eq_true rfl, Nat.le_of_ble_eq_true rfl⟩, by simp [rf_cat, cat_i, cat_l]⟩ rfl rfl (fun r8 hB => ?_)
      refine q_putI (j := 5) hB dX10_readText_39 fc_8 (by decide) rfl wd_734 rfl (fun n9 hB => ?_)
      refine q_nm hB (fun h10 hB => ?_)
      refine q_aload_n dX10_readText_42 rfl rfl ?_
      refine q_getI (j := 11) hB dX10_readText_43 fc_8 (by decide) rfl wd_740 (fun n11 hB => ?_)
      refine q_iconst (v := 1) dX10_readText_46 (by decide) ?_
      refine q_icmp_eq (tgt := 80) hB dX10_readText_47 (by decide) (fun hB => ?_) (fun hB => ?_)
      · exact Wq.mask [false, false] rfl (wb_X10_readText_80 g l _ o hB)
      · refine q_aload_n dX10_readText_50 rfl rfl ?_
        refine q_getP (j := 10) hB dX10_readText_51 fc_8 (by decide) rfl wd_739 (fun n12 hB => ?_)
        refine q_iconst (v := 1) dX10_readText_54 (by decide) ?_
        refine q_iald hB dX10_readText_55 (fun n13 hB => ?_)
        refine q_callSI (k' := 0) (w' := 0) hB (fun a hf => c_X10_fieldOf g l _ _ a hf) rfl dX10_readText_56 wd_840 cs_X10_fieldOf wd_841 rfl ⟨⟨Nat.le_of_ble_eq_true rfl, Nat.le_of_ble_eq_true rfl⟩, ⟨Nat.le_of_ble_eq_true rfl, Nat.le_of_ble_eq_true rfl⟩, Nat.le_of_ble_eq_true rfl⟩ rfl rfl (fun r14 hB => ?_)
        refine q_bipush (v := -9) dX10_readText_59 (by decide) ?_
        refine q_icmp_eq (tgt := 80) hB dX10_readText_61 (by decide) (fun hB => ?_) (fun hB => ?_)
        · exact Wq.mask [false, false] rfl (wb_X10_readText_80 g l _ o hB)
        · refine q_aload_n dX10_readText_64 rfl rfl ?_
          refine q_getP (j := 10) hB dX10_readText_65 fc_8 (by decide) rfl wd_739 (fun n15 hB => ?_)
          refine q_iconst (v := 1) dX10_readText_68 (by decide) ?_
          refine q_iald hB dX10_readText_69 (fun n16 hB => ?_)
          refine q_callSI (k' := 0) (w' := 0) hB (fun a hf => c_X10_fieldOf g l _ _ a hf) rfl dX10_readText_70 wd_840 cs_X10_fieldOf wd_841 rfl ⟨⟨Nat.le_of_ble_eq_true rfl, Nat.le_of_ble_eq_true rfl⟩, ⟨Nat.le_of_ble_eq_true rfl, Nat.le_of_ble_eq_true rfl⟩, Nat.le_of_ble_eq_true rfl⟩ rfl rfl (fun r17 hB => ?_)
          refine q_aload_n dX10_readText_73 rfl rfl ?_
          refine q_getI (j := 5) hB dX10_readText_74 fc_8 (by decide) rfl wd_734 (fun n18 hB => ?_)
          refine q_icmp_ne (tgt := 82) hB dX10_readText_77 (by decide) (fun hB => ?_) (fun hB => ?_)
          · refine q_aload_n dX10_readText_82 rfl rfl ?_
            refine q_aload_n dX10_readText_83 rfl rfl ?_
            refine q_getP (j := 10) hB dX10_readText_84 fc_8 (by decide) rfl wd_739 (fun n19 hB => ?_)
            refine q_iconst (v := 1) dX10_readText_87 (by decide) ?_
            refine q_iald hB dX10_readText_88 (fun n20 hB => ?_)
            refine q_callSI (k' := 0) (w' := 0) hB (fun a hf => c_X10_fieldOf g l _ _ a hf) rfl dX10_readText_89 wd_840 cs_X10_fieldOf wd_841 rfl ⟨⟨Nat.le_of_ble_eq_true rfl, Nat.le_of_ble_eq_true rfl⟩, ⟨Nat.le_of_ble_eq_true rfl, Nat.le_of_ble_eq_true rfl⟩, by simp [rf_cat, cat_i, cat_l]⟩ rfl rfl (fun r21 hB => ?_)
            refine q_putI (j := 6) hB dX10_readText_92 fc_8 (by decide) rfl wd_735 rfl (fun n22 hB => ?_)
            refine q_nm hB (fun h23 hB => ?_)
            refine q_aload_n dX10_readText_95 rfl rfl ?_
            refine q_bipush (v := -9) dX10_readText_96 (by decide) ?_
            refine q_putI (j := 7) hB dX10_readText_98 fc_8 (by decide) rfl wd_736 rfl (fun n24 hB => ?_)
            refine q_nm hB (fun h25 hB => ?_)
            refine q_iconst (v := 0) dX10_readText_101 (by decide) ?_
            refine q_istore_n dX10_readText_102 rfl (by decide) (nb_r (j := 0) rfl) ?_
            exact Wq.mask [true, true] rfl (wl_X10_readText_103 g l o FU _ _ _ hB)
          · exact Wq.mask [false, false] rfl (wb_X10_readText_80 g l _ o hB)
    · exact Wq.mask [false, false] rfl (wb_X10_readText_27 g l _ o hB)

def f_X10_fault  (a0 : Nat) (h : HS) : Option (Int32 × HS) :=
  nn (some a0) (fun n2 => gd (rk h n2 8) (bd (f_X10_readText n2 h) (fun r1 => some (r1.1, r1.2))))
set_option maxHeartbeats 4000000 in
set_option maxRecDepth 100000 in
theorem c_X10_fault (g : GG) (l : Launch) (a0 : Nat) (h : HS) (o : Int32 × HS) (hB : f_X10_fault a0 h = some o) : Ct g l mX10_fault [va_rf (some a0)] h (QI o) := by
  refine Ct.of2 (lv0 := [some (va_rf (some a0))]) (by decide +kernel) (by simp [lg_sl, rf_cat, cat_i, cat_l]) rfl ?_
  unfold f_X10_fault at hB
  refine q_aload_n dX10_fault_0 rfl rfl ?_
  refine q_callVI (k' := 0) (w' := 0) hB (fun b a hf => c_X10_readText g l b _ a hf) rfl rfl dX10_fault_1 wd_836 cs_X10_readText wd_838 wd_19 rfl ⟨⟨Nat.le_of_ble_eq_true rfl, Nat.le_of_ble_eq_true rfl⟩, ⟨Nat.le_of_ble_eq_true rfl, Nat.le_of_ble_eq_true rfl⟩, Nat.le_of_ble_eq_true rfl⟩ rfl rfl (fun n2 r1 hB => ?_)
  exact q_iret hB dX10_fault_4 rfl (by decide) (by decide)

def b_J7_fill_53178_5  (k5 : Option Nat → Int32 → Int32 → Int32 → HS → Option (Unit × HS)) (a0 : Option Nat) (a1 : Int32) (a2 : Int32) (a3 : Int32) (h : HS) : Option (Unit × HS) :=
  (if a3 ≤ a2 then some ((), h) else nn a0 (fun n1 => gd (ca h n1 9 a2) (k5 a0 a1 (a2 + (1 : Int32)) a3 (sI h n1 a2.toNatClampNeg a1))))
def l_J7_fill_53178_5  : Nat → Option Nat → Int32 → Int32 → Int32 → HS → Option (Unit × HS)
  | 0 => fun _ _ _ _ _ => none
  | n + 1 => b_J7_fill_53178_5 (l_J7_fill_53178_5 n)
def f_J7_fill_53178  (a0 : Option Nat) (a1 : Int32) (h : HS) : Option (Unit × HS) :=
  nn a0 (fun n1 => gd (ck h n1 9) (l_J7_fill_53178_5 FU a0 a1 (0 : Int32) (Int32.ofNat (al n1)) h))
set_option maxHeartbeats 4000000 in
set_option maxRecDepth 100000 in
theorem wb_J7_fill_53178_5 (g : GG) (l : Launch) (k5 : Option Nat → Int32 → Int32 → Int32 → HS → Option (Unit × HS)) (a0 : Option Nat) (a1 : Int32) (a2 : Int32) (a3 : Int32) (h : HS) (o : Unit × HS) (hB : b_J7_fill_53178_5 k5 a0 a1 a2 a3 h = some o) (hk5 : ∀ (a0 : Option Nat) (a1 : Int32) (a2 : Int32) (a3 : Int32) (h : HS), k5 a0 a1 a2 a3 h = some o → Wq g l mJ7_fill_53178 0 0 5 [some (va_rf a0), some (.int a1), some (.int a2), some (.int a3)] [] h (QV o)) : Wq g l mJ7_fill_53178 0 0 5 [some (va_rf a0), some (.int a1), some (.int a2), some (.int a3)] [] h (QV o) := by
  unfold b_J7_fill_53178_5 at hB
  refine q_iload_n dJ7_fill_53178_5 rfl rfl ?_
  refine q_iload_n dJ7_fill_53178_6 rfl rfl ?_
  refine q_icmp_ge (tgt := 20) hB dJ7_fill_53178_7 (by decide) (fun hB => ?_) (fun hB => ?_)
  · exact q_vret hB dJ7_fill_53178_20 rfl (by decide) (by decide)
  · refine q_aload_n dJ7_fill_53178_10 rfl rfl ?_
    refine q_iload_n dJ7_fill_53178_11 rfl rfl ?_
    refine q_iload_n dJ7_fill_53178_12 rfl rfl ?_
    refine q_iast hB dJ7_fill_53178_13 (fun n1 hB => ?_)
    refine q_iinc dJ7_fill_53178_14 rfl (show _ = (a2 + (1 : Int32)) from rfl) (by decide) (nb_i (j := 1) rfl) ?_
    refine q_goto (tgt := 5) dJ7_fill_53178_17 (by decide) ?_
    exact Wq.mask [true, true, true, true] rfl (hk5 _ _ _ _ _ hB)
set_option maxHeartbeats 4000000 in
theorem wl_J7_fill_53178_5 (g : GG) (l : Launch) (o : Unit × HS) : ∀ (n : Nat) (a0 : Option Nat) (a1 : Int32) (a2 : Int32) (a3 : Int32) (h : HS), l_J7_fill_53178_5 n a0 a1 a2 a3 h = some o → Wq g l mJ7_fill_53178 0 0 5 [some (va_rf a0), some (.int a1), some (.int a2), some (.int a3)] [] h (QV o) := by
  intro n
  induction n with
  | zero =>
    intro a0 a1 a2 a3  h hB
    have q : (none : Option (Unit × HS)) = some o := hB
    cases q
  | succ n ih =>
    intro a0 a1 a2 a3  h hB
    exact wb_J7_fill_53178_5 g l (l_J7_fill_53178_5 n) a0 a1 a2 a3 h o hB ih
set_option maxHeartbeats 4000000 in
set_option maxRecDepth 100000 in
theorem c_J7_fill_53178 (g : GG) (l : Launch) (a0 : Option Nat) (a1 : Int32) (h : HS) (o : Unit × HS) (hB : f_J7_fill_53178 a0 a1 h = some o) : Ct g l mJ7_fill_53178 [va_rf a0, .int a1] h (QV o) := by
  refine Ct.of2 (lv0 := [some (va_rf a0), some (.int a1), none, none]) (by decide +kernel) (by simp [lg_sl, rf_cat, cat_i, cat_l]) (by simp only [entL_r, entL_i, entL_l]; rfl) ?_
  unfold f_J7_fill_53178 at hB
  refine q_iconst (v := 0) dJ7_fill_53178_0 (by decide) ?_
  refine q_istore_n dJ7_fill_53178_1 rfl (by decide) (nb_i (j := 1) rfl) ?_
  refine q_aload_n dJ7_fill_53178_2 rfl rfl ?_
  refine q_alenI hB dJ7_fill_53178_3 (fun n1 hB => ?_)
  refine q_istore_n dJ7_fill_53178_4 rfl (by decide) (nb_i (j := 2) rfl) ?_
  exact Wq.mask [true, true, true, true] rfl (wl_J7_fill_53178_5 g l o FU _ _ _ _ _ hB)

def b_X4_binOf_14  (s0 : Int32) (h : HS) : Option (Int32 × HS) :=
  some (s0, h)
def f_X4_binOf  (a0 : Int32) (a1 : Int32) (h : HS) : Option (Int32 × HS) :=
  (if a0 = (100 : Int32) then b_X4_binOf_14 (20 : Int32) h else gd (decide (¬ a1 = 0)) (b_X4_binOf_14 (a0 / a1) h))
set_option maxHeartbeats 4000000 in
set_option maxRecDepth 100000 in
theorem wb_X4_binOf_14 (g : GG) (l : Launch) (s0 : Int32) (h : HS) (o : Int32 × HS) (hB : b_X4_binOf_14 s0 h = some o) : Wq g l mX4_binOf 0 0 14 [none, none] [.int s0] h (QI o) := by
  unfold b_X4_binOf_14 at hB
  exact q_iret hB dX4_binOf_14 rfl (by decide) (by decide)
set_option maxHeartbeats 4000000 in
set_option maxRecDepth 100000 in
theorem c_X4_binOf (g : GG) (l : Launch) (a0 : Int32) (a1 : Int32) (h : HS) (o : Int32 × HS) (hB : f_X4_binOf a0 a1 h = some o) : Ct g l mX4_binOf [.int a0, .int a1] h (QI o) := by
  refine Ct.of2 (lv0 := [some (.int a0), some (.int a1)]) (by decide +kernel) (by simp [lg_sl, rf_cat, cat_i, cat_l]) rfl ?_
  unfold f_X4_binOf at hB
  refine q_iload_n dX4_binOf_0 rfl rfl ?_
  refine q_bipush (v := 100) dX4_binOf_1 (by decide) ?_
  refine q_icmp_ne (tgt := 11) hB dX4_binOf_3 (by decide) (fun hB => ?_) (fun hB => ?_)
  · refine q_iload_n dX4_binOf_11 rfl rfl ?_
    refine q_iload_n dX4_binOf_12 rfl rfl ?_
    refine q_idiv hB dX4_binOf_13 (fun hB => ?_)
    exact Wq.mask [false, false] rfl (wb_X4_binOf_14 g l _ _ o hB)
  · refine q_bipush (v := 20) dX4_binOf_6 (by decide) ?_
    refine q_goto (tgt := 14) dX4_binOf_8 (by decide) ?_
    exact Wq.mask [false, false] rfl (wb_X4_binOf_14 g l _ _ o hB)

def f_X4_keyOf  (a0 : Nat) (a1 : Option Nat) (a2 : Int32) (a3 : Int32) (h : HS) : Option (Int32 × HS) :=
  gd (en1 (some a0) && en1 (some 1000) || en2 (some a0) && en2 (some 1000)) ((if (some a0) = (some 1000) then nn a1 (fun n6 => gd (ck h n6 3) (nn (hP h n6 0) (fun n7 => gd (ca h n7 9 a2) (some ((hI h n7 a2.toNatClampNeg), h))))) else gd (en1 (some a0) && en1 (some 1001) || en2 (some a0) && en2 (some 1001)) ((if (some a0) = (some 1001) then nn a1 (fun n4 => gd (ck h n4 3) (nn (hP h n4 1) (fun n5 => gd (ca h n5 9 a2) (some ((hI h n5 a2.toNatClampNeg), h))))) else gd (en1 (some a0) && en1 (some 1002) || en2 (some a0) && en2 (some 1002)) ((if (some a0) = (some 1002) then nn a1 (fun n1 => gd (ck h n1 3) (nn (hP h n1 2) (fun n2 => gd (ca h n2 9 a2) (bd (f_X4_binOf (hI h n2 a2.toNatClampNeg) (if (1 : Int32) < ((5 : Int32) * a3) then ((5 : Int32) * a3) else (1 : Int32)) h) (fun r3 => some (r3.1, r3.2)))))) else some ((0 : Int32), h)))))))
set_option maxHeartbeats 4000000 in
set_option maxRecDepth 100000 in
theorem c_X4_keyOf (g : GG) (l : Launch) (a0 : Nat) (a1 : Option Nat) (a2 : Int32) (a3 : Int32) (h : HS) (o : Int32 × HS) (hB : f_X4_keyOf a0 a1 a2 a3 h = some o) : Ct g l mX4_keyOf [va_rf (some a0), va_rf a1, .int a2, .int a3] h (QI o) := by
  refine Ct.of2 (lv0 := [some (va_rf (some a0)), some (va_rf a1), some (.int a2), some (.int a3)]) (by decide +kernel) (by simp [lg_sl, rf_cat, cat_i, cat_l]) (by simp only [entL_r, entL_i, entL_l]; rfl) ?_
  unfold f_X4_keyOf at hB
  refine q_aload_n dX4_keyOf_0 rfl rfl ?_
  refine q_static (v := va_rf (some 1000)) (fun s hK => z_F 0 (by decide) hK) dX4_keyOf_1 wd_301 ?_
  refine q_acmp_ne (tgt := 14) hB dX4_keyOf_4 (by decide) (fun hB => ?_) (fun hB => ?_)
  · refine q_aload_n dX4_keyOf_14 rfl rfl ?_
    refine q_static (v := va_rf (some 1001)) (fun s hK => z_F 1 (by decide) hK) dX4_keyOf_15 wd_302 ?_
    refine q_acmp_ne (tgt := 28) hB dX4_keyOf_18 (by decide) (fun hB => ?_) (fun hB => ?_)
    · refine q_aload_n dX4_keyOf_28 rfl rfl ?_
      refine q_static (v := va_rf (some 1002)) (fun s hK => z_F 2 (by decide) hK) dX4_keyOf_29 wd_303 ?_
      refine q_acmp_ne (tgt := 52) hB dX4_keyOf_32 (by decide) (fun hB => ?_) (fun hB => ?_)
      · refine q_iconst (v := 0) dX4_keyOf_52 (by decide) ?_
        exact q_iret hB dX4_keyOf_53 rfl (by decide) (by decide)
      · refine q_aload_n dX4_keyOf_35 rfl rfl ?_
        refine q_getP (j := 2) hB dX4_keyOf_36 fc_3 (by decide) rfl wd_143 (fun n1 hB => ?_)
        refine q_iload_n dX4_keyOf_39 rfl rfl ?_
        refine q_iald hB dX4_keyOf_40 (fun n2 hB => ?_)
        refine q_iconst (v := 1) dX4_keyOf_41 (by decide) ?_
        refine q_iconst (v := 5) dX4_keyOf_42 (by decide) ?_
        refine q_iload_n dX4_keyOf_43 rfl rfl ?_
        refine q_imul dX4_keyOf_44 ?_
        refine q_mmax dX4_keyOf_45 wm_max_395 (by decide) (by simp [rf_cat, cat_i, cat_l]) (by decide) (by decide) ?_
        refine q_callSI (k' := 0) (w' := 0) hB (fun a hf => c_X4_binOf g l _ _ _ a hf) rfl dX4_keyOf_48 wd_398 cs_X4_binOf wd_399 rfl ⟨⟨Nat.le_of_ble_eq_true rfl, Nat.le_of_ble_eq_true rfl⟩, ⟨Nat.le_of_ble_eq_true rfl, Nat.le_of_ble_eq_true rfl⟩, Nat.le_of_ble_eq_true rfl⟩ rfl rfl (fun r3 hB => ?_)
        exact q_iret hB dX4_keyOf_51 rfl (by decide) (by decide)
    · refine q_aload_n dX4_keyOf_21 rfl rfl ?_
      refine q_getP (j := 1) hB dX4_keyOf_22 fc_3 (by decide) rfl wd_139 (fun n4 hB => ?_)
      refine q_iload_n dX4_keyOf_25 rfl rfl ?_
      refine q_iald hB dX4_keyOf_26 (fun n5 hB => ?_)
      exact q_iret hB dX4_keyOf_27 rfl (by decide) (by decide)
  · refine q_aload_n dX4_keyOf_7 rfl rfl ?_
    refine q_getP (j := 0) hB dX4_keyOf_8 fc_3 (by decide) rfl wd_136 (fun n6 hB => ?_)
    refine q_iload_n dX4_keyOf_11 rfl rfl ?_
    refine q_iald hB dX4_keyOf_12 (fun n7 hB => ?_)
    exact q_iret hB dX4_keyOf_13 rfl (by decide) (by decide)

def b_X2_gather_130  (k73 : Nat → Int32 → HS → Option (Unit × HS)) (a0 : Nat) (a4 : Int32) (h : HS) : Option (Unit × HS) :=
  k73 a0 (a4 + (1 : Int32)) h
def b_X2_gather_73  (k73 : Nat → Int32 → HS → Option (Unit × HS)) (a0 : Nat) (a4 : Int32) (h : HS) : Option (Unit × HS) :=
  nn (some a0) (fun n1 => gd (ck h n1 2) (nn (hP h n1 1) (fun n2 => gd (ck h n2 9) ((if (Int32.ofNat (al n2)) ≤ a4 then some ((), h) else nn (some a0) (fun n3 => gd (ck h n3 2) (nn (hP h n3 1) (fun n4 => gd (ca h n4 9 a4) ((if (hI h n4 a4.toNatClampNeg) = 0 then b_X2_gather_130 k73 a0 a4 h else nn (some a0) (fun n5 => gd (ck h n5 2) (nn (some a0) (fun n6 => gd (ck h n6 2) (nn (hP h n5 0) (fun n7 => gd (ca h n7 9 (hI h n6 3)) (hl (sI h n7 (hI h n6 3).toNatClampNeg a4) (fun h8 => nn (some a0) (fun n9 => gd (ck h8 n9 2) (nn (some a0) (fun n10 => gd (ck h8 n10 2) (nn (some a0) (fun n11 => gd (ck h8 n11 2) (nn (hP h8 n11 1) (fun n12 => gd (ca h8 n12 9 a4) (nn (hP h8 n9 1) (fun n13 => gd (ca h8 n13 9 (hI h8 n10 3)) (hl (sI h8 n13 (hI h8 n10 3).toNatClampNeg (hI h8 n12 a4.toNatClampNeg)) (fun h14 => nn (some a0) (fun n15 => gd (ck h14 n15 2) (nn (some a0) (fun n16 => gd (ck h14 n16 2) (hl (sI h14 n16 3 ((hI h14 n15 3) + (1 : Int32))) (fun h17 => b_X2_gather_130 k73 a0 a4 h17)))))))))))))))))))))))))))))))))
def l_X2_gather_73  : Nat → Nat → Int32 → HS → Option (Unit × HS)
  | 0 => fun _ _ _ => none
  | n + 1 => b_X2_gather_73 (l_X2_gather_73 n)
def b_X2_gather_59  (k11 : Nat → Option Nat → Option Nat → Int32 → Int32 → HS → Option (Unit × HS)) (a0 : Nat) (a1 : Option Nat) (a2 : Option Nat) (a3 : Int32) (a4 : Int32) (h : HS) : Option (Unit × HS) :=
  k11 a0 a1 a2 a3 (a4 + (1 : Int32)) h
def b_X2_gather_11  (k11 : Nat → Option Nat → Option Nat → Int32 → Int32 → HS → Option (Unit × HS)) (a0 : Nat) (a1 : Option Nat) (a2 : Option Nat) (a3 : Int32) (a4 : Int32) (h : HS) : Option (Unit × HS) :=
  nn a1 (fun n1 => gd (ck h n1 3) ((if (hI h n1 3) ≤ a4 then nn (some a0) (fun n2 => gd (ck h n2 2) (hl (sI h n2 3 (0 : Int32)) (fun h3 => l_X2_gather_73 FU a0 (0 : Int32) h3))) else nn a2 (fun n5 => gd (rk h n5 20) (bd (f_X4_keyOf n5 a1 a4 a3 h) (fun r4 => (if r4.1 < 0 then b_X2_gather_59 k11 a0 a1 a2 a3 a4 r4.2 else nn (some a0) (fun n6 => gd (ck r4.2 n6 2) (nn (hP r4.2 n6 1) (fun n7 => gd (ck r4.2 n7 9) ((if (Int32.ofNat (al n7)) ≤ r4.1 then b_X2_gather_59 k11 a0 a1 a2 a3 a4 r4.2 else nn (some a0) (fun n8 => gd (ck r4.2 n8 2) (nn (hP r4.2 n8 1) (fun n9 => gd (ca r4.2 n9 9 r4.1) (nn (hP r4.2 n8 1) (fun n10 => gd (ca r4.2 n10 9 r4.1) (hl (sI r4.2 n10 r4.1.toNatClampNeg ((hI r4.2 n9 r4.1.toNatClampNeg) ||| ((1 : Int32) <<< (a4 &&& 31)))) (fun h11 => b_X2_gather_59 k11 a0 a1 a2 a3 a4 h11)))))))))))))))))))
def l_X2_gather_11  : Nat → Nat → Option Nat → Option Nat → Int32 → Int32 → HS → Option (Unit × HS)
  | 0 => fun _ _ _ _ _ _ => none
  | n + 1 => b_X2_gather_11 (l_X2_gather_11 n)
def f_X2_gather  (a0 : Nat) (a1 : Option Nat) (a2 : Option Nat) (a3 : Int32) (h : HS) : Option (Unit × HS) :=
  nn (some a0) (fun n1 => gd (ck h n1 2) (bd (f_J7_fill_53178 (hP h n1 1) (0 : Int32) h) (fun r2 => l_X2_gather_11 FU a0 a1 a2 a3 (0 : Int32) r2.2)))
set_option maxHeartbeats 4000000 in
set_option maxRecDepth 100000 in
theorem wb_X2_gather_130 (g : GG) (l : Launch) (k73 : Nat → Int32 → HS → Option (Unit × HS)) (a0 : Nat) (a4 : Int32) (h : HS) (o : Unit × HS) (hB : b_X2_gather_130 k73 a0 a4 h = some o) (hk73 : ∀ (a0 : Nat) (a4 : Int32) (h : HS), k73 a0 a4 h = some o → Wq g l mX2_gather 0 0 73 [some (va_rf (some a0)), none, none, none, some (.int a4), none] [] h (QV o)) : Wq g l mX2_gather 0 0 130 [some (va_rf (some a0)), none, none, none, some (.int a4), none] [] h (QV o) := by
  unfold b_X2_gather_130 at hB
  refine q_iinc dX2_gather_130 rfl (show _ = (a4 + (1 : Int32)) from rfl) (by decide) (nb_n (j := 3) rfl) ?_
  refine q_goto (tgt := 73) dX2_gather_133 (by decide) ?_
  exact Wq.mask [true, false, false, false, true, false] rfl (hk73 _ _ _ hB)
set_option maxHeartbeats 4000000 in
set_option maxRecDepth 100000 in
theorem wb_X2_gather_73 (g : GG) (l : Launch) (k73 : Nat → Int32 → HS → Option (Unit × HS)) (a0 : Nat) (a4 : Int32) (h : HS) (o : Unit × HS) (hB : b_X2_gather_73 k73 a0 a4 h = some o) (hk73 : ∀ (a0 : Nat) (a4 : Int32) (h : HS), k73 a0 a4 h = some o → Wq g l mX2_gather 0 0 73 [some (va_rf (some a0)), none, none, none, some (.int a4), none] [] h (QV o)) : Wq g l mX2_gather 0 0 73 [some (va_rf (some a0)), none, none, none, some (.int a4), none] [] h (QV o) := by
  unfold b_X2_gather_73 at hB
  refine q_iload dX2_gather_73 rfl ?_
  refine q_aload_n dX2_gather_75 rfl rfl ?_
  refine q_getP (j := 1) hB dX2_gather_76 fc_2 (by decide) rfl wd_202 (fun n1 hB => ?_)
  refine q_alenI hB dX2_gather_79 (fun n2 hB => ?_)
  refine q_icmp_ge (tgt := 136) hB dX2_gather_80 (by decide) (fun hB => ?_) (fun hB => ?_)
  · exact q_vret hB dX2_gather_136 rfl (by decide) (by decide)
  · refine q_aload_n dX2_gather_83 rfl rfl ?_
    refine q_getP (j := 1) hB dX2_gather_84 fc_2 (by decide) rfl wd_202 (fun n3 hB => ?_)
    refine q_iload dX2_gather_87 rfl ?_
    refine q_iald hB dX2_gather_89 (fun n4 hB => ?_)
    refine q_if_eq (tgt := 130) hB dX2_gather_90 (by decide) (fun hB => ?_) (fun hB => ?_)
    · exact Wq.mask [true, false, false, false, true, false] rfl (wb_X2_gather_130 g l k73 _ _ _ o hB hk73)
    · refine q_aload_n dX2_gather_93 rfl rfl ?_
      refine q_getP (j := 0) hB dX2_gather_94 fc_2 (by decide) rfl wd_200 (fun n5 hB => ?_)
      refine q_aload_n dX2_gather_97 rfl rfl ?_
      refine q_getI (j := 3) hB dX2_gather_98 fc_2 (by decide) rfl wd_204 (fun n6 hB => ?_)
      refine q_iload dX2_gather_101 rfl ?_
      refine q_iast hB dX2_gather_103 (fun n7 hB => ?_)
      refine q_nm hB (fun h8 hB => ?_)
      refine q_aload_n dX2_gather_104 rfl rfl ?_
      refine q_getP (j := 1) hB dX2_gather_105 fc_2 (by decide) rfl wd_202 (fun n9 hB => ?_)
      refine q_aload_n dX2_gather_108 rfl rfl ?_
      refine q_getI (j := 3) hB dX2_gather_109 fc_2 (by decide) rfl wd_204 (fun n10 hB => ?_)
      refine q_aload_n dX2_gather_112 rfl rfl ?_
      refine q_getP (j := 1) hB dX2_gather_113 fc_2 (by decide) rfl wd_202 (fun n11 hB => ?_)
      refine q_iload dX2_gather_116 rfl ?_
      refine q_iald hB dX2_gather_118 (fun n12 hB => ?_)
      refine q_iast hB dX2_gather_119 (fun n13 hB => ?_)
      refine q_nm hB (fun h14 hB => ?_)
      refine q_aload_n dX2_gather_120 rfl rfl ?_
      refine q_dup dX2_gather_121 (rf_cat _) ?_
      refine q_getI (j := 3) hB dX2_gather_122 fc_2 (by decide) rfl wd_204 (fun n15 hB => ?_)
      refine q_iconst (v := 1) dX2_gather_125 (by decide) ?_
      refine q_iadd dX2_gather_126 ?_
      refine q_putI (j := 3) hB dX2_gather_127 fc_2 (by decide) rfl wd_204 rfl (fun n16 hB => ?_)
      refine q_nm hB (fun h17 hB => ?_)
      exact Wq.mask [true, false, false, false, true, false] rfl (wb_X2_gather_130 g l k73 _ _ _ o hB hk73)
set_option maxHeartbeats 4000000 in
theorem wl_X2_gather_73 (g : GG) (l : Launch) (o : Unit × HS) : ∀ (n : Nat) (a0 : Nat) (a4 : Int32) (h : HS), l_X2_gather_73 n a0 a4 h = some o → Wq g l mX2_gather 0 0 73 [some (va_rf (some a0)), none, none, none, some (.int a4), none] [] h (QV o) := by
  intro n
  induction n with
  | zero =>
    intro a0 a4  h hB
    have q : (none : Option (Unit × HS)) = some o := hB
    cases q
  | succ n ih =>
    intro a0 a4  h hB
    exact wb_X2_gather_73 g l (l_X2_gather_73 n) a0 a4 h o hB ih
set_option maxHeartbeats 4000000 in
set_option maxRecDepth 100000 in
theorem wb_X2_gather_59 (g : GG) (l : Launch) (k11 : Nat → Option Nat → Option Nat → Int32 → Int32 → HS → Option (Unit × HS)) (a0 : Nat) (a1 : Option Nat) (a2 : Option Nat) (a3 : Int32) (a4 : Int32) (h : HS) (o : Unit × HS) (hB : b_X2_gather_59 k11 a0 a1 a2 a3 a4 h = some o) (hk11 : ∀ (a0 : Nat) (a1 : Option Nat) (a2 : Option Nat) (a3 : Int32) (a4 : Int32) (h : HS), k11 a0 a1 a2 a3 a4 h = some o → Wq g l mX2_gather 0 0 11 [some (va_rf (some a0)), some (va_rf a1), some (va_rf a2), some (.int a3), some (.int a4), none] [] h (QV o)) : Wq g l mX2_gather 0 0 59 [some (va_rf (some a0)), some (va_rf a1), some (va_rf a2), some (.int a3), some (.int a4), none] [] h (QV o) := by
  unfold b_X2_gather_59 at hB
  refine q_iinc dX2_gather_59 rfl (show _ = (a4 + (1 : Int32)) from rfl) (by decide) (nb_i (j := 3) rfl) ?_
  refine q_goto (tgt := 11) dX2_gather_62 (by decide) ?_
  exact Wq.mask [true, true, true, true, true, false] rfl (hk11 _ _ _ _ _ _ hB)
set_option maxHeartbeats 4000000 in
set_option maxRecDepth 100000 in
theorem wb_X2_gather_11 (g : GG) (l : Launch) (k11 : Nat → Option Nat → Option Nat → Int32 → Int32 → HS → Option (Unit × HS)) (a0 : Nat) (a1 : Option Nat) (a2 : Option Nat) (a3 : Int32) (a4 : Int32) (h : HS) (o : Unit × HS) (hB : b_X2_gather_11 k11 a0 a1 a2 a3 a4 h = some o) (hk11 : ∀ (a0 : Nat) (a1 : Option Nat) (a2 : Option Nat) (a3 : Int32) (a4 : Int32) (h : HS), k11 a0 a1 a2 a3 a4 h = some o → Wq g l mX2_gather 0 0 11 [some (va_rf (some a0)), some (va_rf a1), some (va_rf a2), some (.int a3), some (.int a4), none] [] h (QV o)) : Wq g l mX2_gather 0 0 11 [some (va_rf (some a0)), some (va_rf a1), some (va_rf a2), some (.int a3), some (.int a4), none] [] h (QV o) := by
  unfold b_X2_gather_11 at hB
  refine q_iload dX2_gather_11 rfl ?_
  refine q_aload_n dX2_gather_13 rfl rfl ?_
  refine q_getI (j := 3) hB dX2_gather_14 fc_3 (by decide) rfl wd_146 (fun n1 hB => ?_)
  refine q_icmp_ge (tgt := 65) hB dX2_gather_17 (by decide) (fun hB => ?_) (fun hB => ?_)
  · refine q_aload_n dX2_gather_65 rfl rfl ?_
    refine q_iconst (v := 0) dX2_gather_66 (by decide) ?_
    refine q_putI (j := 3) hB dX2_gather_67 fc_2 (by decide) rfl wd_204 rfl (fun n2 hB => ?_)
    refine q_nm hB (fun h3 hB => ?_)
    refine q_iconst (v := 0) dX2_gather_70 (by decide) ?_
    refine q_istore dX2_gather_71 (by decide) (nb_i (j := 3) rfl) ?_
    exact Wq.mask [true, false, false, false, true, false] rfl (wl_X2_gather_73 g l o FU _ _ _ hB)
  · refine q_aload_n dX2_gather_20 rfl rfl ?_
    refine q_aload_n dX2_gather_21 rfl rfl ?_
    refine q_iload dX2_gather_22 rfl ?_
    refine q_iload_n dX2_gather_24 rfl rfl ?_
    refine q_callVI (k' := 0) (w' := 0) hB (fun b a hf => c_X4_keyOf g l b _ _ _ _ a hf) rfl rfl dX2_gather_25 wd_391 cs_X4_keyOf wd_392 wd_393 rfl ⟨⟨Nat.le_of_ble_eq_true rfl, Nat.le_of_ble_eq_true rfl⟩, ⟨Nat.le_of_ble_eq_true rfl, Nat.le_of_ble_eq_true rfl⟩, Nat.le_of_ble_eq_true rfl⟩ rfl rfl (fun n5 r4 hB => ?_)
    refine q_istore dX2_gather_28 (by decide) (nb_i (j := 4) rfl) ?_
    refine q_iload dX2_gather_30 rfl ?_
    refine q_if_lt (tgt := 59) hB dX2_gather_32 (by decide) (fun hB => ?_) (fun hB => ?_)
    · exact Wq.mask [true, true, true, true, true, false] rfl (wb_X2_gather_59 g l k11 _ _ _ _ _ _ o hB hk11)
    · refine q_iload dX2_gather_35 rfl ?_
      refine q_aload_n dX2_gather_37 rfl rfl ?_
      refine q_getP (j := 1) hB dX2_gather_38 fc_2 (by decide) rfl wd_202 (fun n6 hB => ?_)
      refine q_alenI hB dX2_gather_41 (fun n7 hB => ?_)
      refine q_icmp_ge (tgt := 59) hB dX2_gather_42 (by decide) (fun hB => ?_) (fun hB => ?_)
      · exact Wq.mask [true, true, true, true, true, false] rfl (wb_X2_gather_59 g l k11 _ _ _ _ _ _ o hB hk11)
      · refine q_aload_n dX2_gather_45 rfl rfl ?_
        refine q_getP (j := 1) hB dX2_gather_46 fc_2 (by decide) rfl wd_202 (fun n8 hB => ?_)
        refine q_iload dX2_gather_49 rfl ?_
        refine q_dup2 dX2_gather_51 rfl (rf_cat _) ?_
        refine q_iald hB dX2_gather_52 (fun n9 hB => ?_)
        refine q_iconst (v := 1) dX2_gather_53 (by decide) ?_
        refine q_iload dX2_gather_54 rfl ?_
        refine q_ishl dX2_gather_56 ?_
        refine q_ior dX2_gather_57 ?_
        refine q_iast hB dX2_gather_58 (fun n10 hB => ?_)
        refine q_nm hB (fun h11 hB => ?_)
        exact Wq.mask [true, true, true, true, true, false] rfl (wb_X2_gather_59 g l k11 _ _ _ _ _ _ o hB hk11)
set_option maxHeartbeats 4000000 in
theorem wl_X2_gather_11 (g : GG) (l : Launch) (o : Unit × HS) : ∀ (n : Nat) (a0 : Nat) (a1 : Option Nat) (a2 : Option Nat) (a3 : Int32) (a4 : Int32) (h : HS), l_X2_gather_11 n a0 a1 a2 a3 a4 h = some o → Wq g l mX2_gather 0 0 11 [some (va_rf (some a0)), some (va_rf a1), some (va_rf a2), some (.int a3), some (.int a4), none] [] h (QV o) := by
  intro n
  induction n with
  | zero =>
    intro a0 a1 a2 a3 a4  h hB
    have q : (none : Option (Unit × HS)) = some o := hB
    cases q
  | succ n ih =>
    intro a0 a1 a2 a3 a4  h hB
    exact wb_X2_gather_11 g l (l_X2_gather_11 n) a0 a1 a2 a3 a4 h o hB ih
set_option maxHeartbeats 4000000 in
set_option maxRecDepth 100000 in
theorem c_X2_gather (g : GG) (l : Launch) (a0 : Nat) (a1 : Option Nat) (a2 : Option Nat) (a3 : Int32) (h : HS) (o : Unit × HS) (hB : f_X2_gather a0 a1 a2 a3 h = some o) : Ct g l mX2_gather [va_rf (some a0), va_rf a1, va_rf a2, .int a3] h (QV o) := by
  refine Ct.of2 (lv0 := [some (va_rf (some a0)), some (va_rf a1), some (va_rf a2), some (.int a3), none, none]) (by decide +kernel) (by simp [lg_sl, rf_cat, cat_i, cat_l]) (by simp only [entL_r, entL_i, entL_l]; rfl) ?_
  unfold f_X2_gather at hB
  refine q_aload_n dX2_gather_0 rfl rfl ?_
  refine q_getP (j := 1) hB dX2_gather_1 fc_2 (by decide) rfl wd_202 (fun n1 hB => ?_)
  refine q_iconst (v := 0) dX2_gather_4 (by decide) ?_
  refine q_callSV (k' := 0) (w' := 0) hB (fun a hf => c_J7_fill_53178 g l _ _ _ a hf) rfl dX2_gather_5 wd_388 cs_J7_fill_53178 wd_389 rfl ⟨⟨Nat.le_of_ble_eq_true rfl, Nat.le_of_ble_eq_true rfl⟩, ⟨Nat.le_of_ble_eq_true rfl, Nat.le_of_ble_eq_true rfl⟩, Nat.le_of_ble_eq_true rfl⟩ rfl rfl (fun r2 hB => ?_)
  refine q_iconst (v := 0) dX2_gather_8 (by decide) ?_
  refine q_istore dX2_gather_9 (by decide) (nb_i (j := 3) rfl) ?_
  exact Wq.mask [true, true, true, true, true, false] rfl (wl_X2_gather_11 g l o FU _ _ _ _ _ _ hB)

def f_J6_bitCount_0f7a4  (a0 : Int32) (h : HS) : Option (Int32 × HS) :=
  some (((((((((a0 - ((a0.toUInt32 >>> ((1 : Int32).toUInt32 &&& Int32.toUInt32 31)).toInt32 &&& (1431655765 : Int32))) &&& (858993459 : Int32)) + (((a0 - ((a0.toUInt32 >>> ((1 : Int32).toUInt32 &&& Int32.toUInt32 31)).toInt32 &&& (1431655765 : Int32))).toUInt32 >>> ((2 : Int32).toUInt32 &&& Int32.toUInt32 31)).toInt32 &&& (858993459 : Int32))) + ((((a0 - ((a0.toUInt32 >>> ((1 : Int32).toUInt32 &&& Int32.toUInt32 31)).toInt32 &&& (1431655765 : Int32))) &&& (858993459 : Int32)) + (((a0 - ((a0.toUInt32 >>> ((1 : Int32).toUInt32 &&& Int32.toUInt32 31)).toInt32 &&& (1431655765 : Int32))).toUInt32 >>> ((2 : Int32).toUInt32 &&& Int32.toUInt32 31)).toInt32 &&& (858993459 : Int32))).toUInt32 >>> ((4 : Int32).toUInt32 &&& Int32.toUInt32 31)).toInt32) &&& (252645135 : Int32)) + ((((((a0 - ((a0.toUInt32 >>> ((1 : Int32).toUInt32 &&& Int32.toUInt32 31)).toInt32 &&& (1431655765 : Int32))) &&& (858993459 : Int32)) + (((a0 - ((a0.toUInt32 >>> ((1 : Int32).toUInt32 &&& Int32.toUInt32 31)).toInt32 &&& (1431655765 : Int32))).toUInt32 >>> ((2 : Int32).toUInt32 &&& Int32.toUInt32 31)).toInt32 &&& (858993459 : Int32))) + ((((a0 - ((a0.toUInt32 >>> ((1 : Int32).toUInt32 &&& Int32.toUInt32 31)).toInt32 &&& (1431655765 : Int32))) &&& (858993459 : Int32)) + (((a0 - ((a0.toUInt32 >>> ((1 : Int32).toUInt32 &&& Int32.toUInt32 31)).toInt32 &&& (1431655765 : Int32))).toUInt32 >>> ((2 : Int32).toUInt32 &&& Int32.toUInt32 31)).toInt32 &&& (858993459 : Int32))).toUInt32 >>> ((4 : Int32).toUInt32 &&& Int32.toUInt32 31)).toInt32) &&& (252645135 : Int32)).toUInt32 >>> ((8 : Int32).toUInt32 &&& Int32.toUInt32 31)).toInt32) + (((((((a0 - ((a0.toUInt32 >>> ((1 : Int32).toUInt32 &&& Int32.toUInt32 31)).toInt32 &&& (1431655765 : Int32))) &&& (858993459 : Int32)) + (((a0 - ((a0.toUInt32 >>> ((1 : Int32).toUInt32 &&& Int32.toUInt32 31)).toInt32 &&& (1431655765 : Int32))).toUInt32 >>> ((2 : Int32).toUInt32 &&& Int32.toUInt32 31)).toInt32 &&& (858993459 : Int32))) + ((((a0 - ((a0.toUInt32 >>> ((1 : Int32).toUInt32 &&& Int32.toUInt32 31)).toInt32 &&& (1431655765 : Int32))) &&& (858993459 : Int32)) + (((a0 - ((a0.toUInt32 >>> ((1 : Int32).toUInt32 &&& Int32.toUInt32 31)).toInt32 &&& (1431655765 : Int32))).toUInt32 >>> ((2 : Int32).toUInt32 &&& Int32.toUInt32 31)).toInt32 &&& (858993459 : Int32))).toUInt32 >>> ((4 : Int32).toUInt32 &&& Int32.toUInt32 31)).toInt32) &&& (252645135 : Int32)) + ((((((a0 - ((a0.toUInt32 >>> ((1 : Int32).toUInt32 &&& Int32.toUInt32 31)).toInt32 &&& (1431655765 : Int32))) &&& (858993459 : Int32)) + (((a0 - ((a0.toUInt32 >>> ((1 : Int32).toUInt32 &&& Int32.toUInt32 31)).toInt32 &&& (1431655765 : Int32))).toUInt32 >>> ((2 : Int32).toUInt32 &&& Int32.toUInt32 31)).toInt32 &&& (858993459 : Int32))) + ((((a0 - ((a0.toUInt32 >>> ((1 : Int32).toUInt32 &&& Int32.toUInt32 31)).toInt32 &&& (1431655765 : Int32))) &&& (858993459 : Int32)) + (((a0 - ((a0.toUInt32 >>> ((1 : Int32).toUInt32 &&& Int32.toUInt32 31)).toInt32 &&& (1431655765 : Int32))).toUInt32 >>> ((2 : Int32).toUInt32 &&& Int32.toUInt32 31)).toInt32 &&& (858993459 : Int32))).toUInt32 >>> ((4 : Int32).toUInt32 &&& Int32.toUInt32 31)).toInt32) &&& (252645135 : Int32)).toUInt32 >>> ((8 : Int32).toUInt32 &&& Int32.toUInt32 31)).toInt32).toUInt32 >>> ((16 : Int32).toUInt32 &&& Int32.toUInt32 31)).toInt32) &&& (63 : Int32)), h)
set_option maxHeartbeats 4000000 in
set_option maxRecDepth 100000 in
theorem c_J6_bitCount_0f7a4 (g : GG) (l : Launch) (a0 : Int32) (h : HS) (o : Int32 × HS) (hB : f_J6_bitCount_0f7a4 a0 h = some o) : Ct g l mJ6_bitCount_0f7a4 [.int a0] h (QI o) := by
  refine Ct.of2 (lv0 := [some (.int a0)]) (by decide +kernel) (by simp [lg_sl, rf_cat, cat_i, cat_l]) rfl ?_
  unfold f_J6_bitCount_0f7a4 at hB
  refine q_iload_n dJ6_bitCount_0f7a4_0 rfl rfl ?_
  refine q_iload_n dJ6_bitCount_0f7a4_1 rfl rfl ?_
  refine q_iconst (v := 1) dJ6_bitCount_0f7a4_2 (by decide) ?_
  refine q_iushr dJ6_bitCount_0f7a4_3 ?_
  refine q_ldcw dJ6_bitCount_0f7a4_4 wd_412 ?_
  refine q_iand dJ6_bitCount_0f7a4_7 ?_
  refine q_isub dJ6_bitCount_0f7a4_8 ?_
  refine q_istore_n dJ6_bitCount_0f7a4_9 rfl (by decide) nb_0 ?_
  refine q_iload_n dJ6_bitCount_0f7a4_10 rfl rfl ?_
  refine q_ldcw dJ6_bitCount_0f7a4_11 wd_413 ?_
  refine q_iand dJ6_bitCount_0f7a4_14 ?_
  refine q_iload_n dJ6_bitCount_0f7a4_15 rfl rfl ?_
  refine q_iconst (v := 2) dJ6_bitCount_0f7a4_16 (by decide) ?_
  refine q_iushr dJ6_bitCount_0f7a4_17 ?_
  refine q_ldcw dJ6_bitCount_0f7a4_18 wd_413 ?_
  refine q_iand dJ6_bitCount_0f7a4_21 ?_
  refine q_iadd dJ6_bitCount_0f7a4_22 ?_
  refine q_istore_n dJ6_bitCount_0f7a4_23 rfl (by decide) nb_0 ?_
  refine q_iload_n dJ6_bitCount_0f7a4_24 rfl rfl ?_
  refine q_iload_n dJ6_bitCount_0f7a4_25 rfl rfl ?_
  refine q_iconst (v := 4) dJ6_bitCount_0f7a4_26 (by decide) ?_
  refine q_iushr dJ6_bitCount_0f7a4_27 ?_
  refine q_iadd dJ6_bitCount_0f7a4_28 ?_
  refine q_ldcw dJ6_bitCount_0f7a4_29 wd_414 ?_
  refine q_iand dJ6_bitCount_0f7a4_32 ?_
  refine q_istore_n dJ6_bitCount_0f7a4_33 rfl (by decide) nb_0 ?_
  refine q_iload_n dJ6_bitCount_0f7a4_34 rfl rfl ?_
  refine q_iload_n dJ6_bitCount_0f7a4_35 rfl rfl ?_
  refine q_bipush (v := 8) dJ6_bitCount_0f7a4_36 (by decide) ?_
  refine q_iushr dJ6_bitCount_0f7a4_38 ?_
  refine q_iadd dJ6_bitCount_0f7a4_39 ?_
  refine q_istore_n dJ6_bitCount_0f7a4_40 rfl (by decide) nb_0 ?_
  refine q_iload_n dJ6_bitCount_0f7a4_41 rfl rfl ?_
  refine q_iload_n dJ6_bitCount_0f7a4_42 rfl rfl ?_
  refine q_bipush (v := 16) dJ6_bitCount_0f7a4_43 (by decide) ?_
  refine q_iushr dJ6_bitCount_0f7a4_45 ?_
  refine q_iadd dJ6_bitCount_0f7a4_46 ?_
  refine q_istore_n dJ6_bitCount_0f7a4_47 rfl (by decide) nb_0 ?_
  refine q_iload_n dJ6_bitCount_0f7a4_48 rfl rfl ?_
  refine q_bipush (v := 63) dJ6_bitCount_0f7a4_49 (by decide) ?_
  refine q_iand dJ6_bitCount_0f7a4_51 ?_
  exact q_iret hB dJ6_bitCount_0f7a4_52 rfl (by decide) (by decide)

def b_X3_missing_29  (k4 : Nat → Int32 → Int32 → HS → Option (Int32 × HS)) (a0 : Nat) (a1 : Int32) (a2 : Int32) (h : HS) : Option (Int32 × HS) :=
  k4 a0 a1 (a2 + (1 : Int32)) h
def b_X3_missing_4  (k4 : Nat → Int32 → Int32 → HS → Option (Int32 × HS)) (a0 : Nat) (a1 : Int32) (a2 : Int32) (h : HS) : Option (Int32 × HS) :=
  nn (some a0) (fun n1 => gd (ck h n1 3) ((if (hI h n1 3) ≤ a2 then some (a1, h) else nn (some a0) (fun n2 => gd (ck h n2 3) (nn (hP h n2 2) (fun n3 => gd (ca h n3 9 a2) ((if (hI h n3 a2.toNatClampNeg) = (100 : Int32) then b_X3_missing_29 k4 a0 (a1 ||| ((1 : Int32) <<< (a2 &&& 31))) a2 h else b_X3_missing_29 k4 a0 a1 a2 h))))))))
def l_X3_missing_4  : Nat → Nat → Int32 → Int32 → HS → Option (Int32 × HS)
  | 0 => fun _ _ _ _ => none
  | n + 1 => b_X3_missing_4 (l_X3_missing_4 n)
def f_X3_missing  (a0 : Nat) (h : HS) : Option (Int32 × HS) :=
  l_X3_missing_4 FU a0 (0 : Int32) (0 : Int32) h
set_option maxHeartbeats 4000000 in
set_option maxRecDepth 100000 in
theorem wb_X3_missing_29 (g : GG) (l : Launch) (k4 : Nat → Int32 → Int32 → HS → Option (Int32 × HS)) (a0 : Nat) (a1 : Int32) (a2 : Int32) (h : HS) (o : Int32 × HS) (hB : b_X3_missing_29 k4 a0 a1 a2 h = some o) (hk4 : ∀ (a0 : Nat) (a1 : Int32) (a2 : Int32) (h : HS), k4 a0 a1 a2 h = some o → Wq g l mX3_missing 0 0 4 [some (va_rf (some a0)), some (.int a1), some (.int a2)] [] h (QI o)) : Wq g l mX3_missing 0 0 29 [some (va_rf (some a0)), some (.int a1), some (.int a2)] [] h (QI o) := by
  unfold b_X3_missing_29 at hB
  refine q_iinc dX3_missing_29 rfl (show _ = (a2 + (1 : Int32)) from rfl) (by decide) (nb_i (j := 1) rfl) ?_
  refine q_goto (tgt := 4) dX3_missing_32 (by decide) ?_
  exact Wq.mask [true, true, true] rfl (hk4 _ _ _ _ hB)
set_option maxHeartbeats 4000000 in
set_option maxRecDepth 100000 in
theorem wb_X3_missing_4 (g : GG) (l : Launch) (k4 : Nat → Int32 → Int32 → HS → Option (Int32 × HS)) (a0 : Nat) (a1 : Int32) (a2 : Int32) (h : HS) (o : Int32 × HS) (hB : b_X3_missing_4 k4 a0 a1 a2 h = some o) (hk4 : ∀ (a0 : Nat) (a1 : Int32) (a2 : Int32) (h : HS), k4 a0 a1 a2 h = some o → Wq g l mX3_missing 0 0 4 [some (va_rf (some a0)), some (.int a1), some (.int a2)] [] h (QI o)) : Wq g l mX3_missing 0 0 4 [some (va_rf (some a0)), some (.int a1), some (.int a2)] [] h (QI o) := by
  unfold b_X3_missing_4 at hB
  refine q_iload_n dX3_missing_4 rfl rfl ?_
  refine q_aload_n dX3_missing_5 rfl rfl ?_
  refine q_getI (j := 3) hB dX3_missing_6 fc_3 (by decide) rfl wd_145 (fun n1 hB => ?_)
  refine q_icmp_ge (tgt := 35) hB dX3_missing_9 (by decide) (fun hB => ?_) (fun hB => ?_)
  · refine q_iload_n dX3_missing_35 rfl rfl ?_
    exact q_iret hB dX3_missing_36 rfl (by decide) (by decide)
  · refine q_aload_n dX3_missing_12 rfl rfl ?_
    refine q_getP (j := 2) hB dX3_missing_13 fc_3 (by decide) rfl wd_141 (fun n2 hB => ?_)
    refine q_iload_n dX3_missing_16 rfl rfl ?_
    refine q_iald hB dX3_missing_17 (fun n3 hB => ?_)
    refine q_bipush (v := 100) dX3_missing_18 (by decide) ?_
    refine q_icmp_ne (tgt := 29) hB dX3_missing_20 (by decide) (fun hB => ?_) (fun hB => ?_)
    · exact Wq.mask [true, true, true] rfl (wb_X3_missing_29 g l k4 _ _ _ _ o hB hk4)
    · refine q_iload_n dX3_missing_23 rfl rfl ?_
      refine q_iconst (v := 1) dX3_missing_24 (by decide) ?_
      refine q_iload_n dX3_missing_25 rfl rfl ?_
      refine q_ishl dX3_missing_26 ?_
      refine q_ior dX3_missing_27 ?_
      refine q_istore_n dX3_missing_28 rfl (by decide) (nb_r (j := 0) rfl) ?_
      exact Wq.mask [true, true, true] rfl (wb_X3_missing_29 g l k4 _ _ _ _ o hB hk4)
set_option maxHeartbeats 4000000 in
theorem wl_X3_missing_4 (g : GG) (l : Launch) (o : Int32 × HS) : ∀ (n : Nat) (a0 : Nat) (a1 : Int32) (a2 : Int32) (h : HS), l_X3_missing_4 n a0 a1 a2 h = some o → Wq g l mX3_missing 0 0 4 [some (va_rf (some a0)), some (.int a1), some (.int a2)] [] h (QI o) := by
  intro n
  induction n with
  | zero =>
    intro a0 a1 a2  h hB
    have q : (none : Option (Int32 × HS)) = some o := hB
    cases q
  | succ n ih =>
    intro a0 a1 a2  h hB
    exact wb_X3_missing_4 g l (l_X3_missing_4 n) a0 a1 a2 h o hB ih
set_option maxHeartbeats 4000000 in
set_option maxRecDepth 100000 in
theorem c_X3_missing (g : GG) (l : Launch) (a0 : Nat) (h : HS) (o : Int32 × HS) (hB : f_X3_missing a0 h = some o) : Ct g l mX3_missing [va_rf (some a0)] h (QI o) := by
  refine Ct.of2 (lv0 := [some (va_rf (some a0)), none, none]) (by decide +kernel) (by simp [lg_sl, rf_cat, cat_i, cat_l]) rfl ?_
  unfold f_X3_missing at hB
  refine q_iconst (v := 0) dX3_missing_0 (by decide) ?_
  refine q_istore_n dX3_missing_1 rfl (by decide) (nb_r (j := 0) rfl) ?_
  refine q_iconst (v := 0) dX3_missing_2 (by decide) ?_
  refine q_istore_n dX3_missing_3 rfl (by decide) (nb_i (j := 1) rfl) ?_
  exact Wq.mask [true, true, true] rfl (wl_X3_missing_4 g l o FU _ _ _ _ hB)

def b_X3_sumOf_30  (k4 : Nat → Int32 → Int32 → Int32 → HS → Option (Int32 × HS)) (a0 : Nat) (a1 : Int32) (a2 : Int32) (a3 : Int32) (h : HS) : Option (Int32 × HS) :=
  k4 a0 a1 a2 (a3 + (1 : Int32)) h
def b_X3_sumOf_4  (k4 : Nat → Int32 → Int32 → Int32 → HS → Option (Int32 × HS)) (a0 : Nat) (a1 : Int32) (a2 : Int32) (a3 : Int32) (h : HS) : Option (Int32 × HS) :=
  nn (some a0) (fun n1 => gd (ck h n1 3) ((if (hI h n1 3) ≤ a3 then some (a2, h) else (if ((a1 >>> (a3 &&& 31)) &&& (1 : Int32)) = (1 : Int32) then nn (some a0) (fun n2 => gd (ck h n2 3) (nn (hP h n2 2) (fun n3 => gd (ca h n3 9 a3) (b_X3_sumOf_30 k4 a0 a1 (a2 + (hI h n3 a3.toNatClampNeg)) a3 h)))) else b_X3_sumOf_30 k4 a0 a1 a2 a3 h))))
def l_X3_sumOf_4  : Nat → Nat → Int32 → Int32 → Int32 → HS → Option (Int32 × HS)
  | 0 => fun _ _ _ _ _ => none
  | n + 1 => b_X3_sumOf_4 (l_X3_sumOf_4 n)
def f_X3_sumOf  (a0 : Nat) (a1 : Int32) (h : HS) : Option (Int32 × HS) :=
  l_X3_sumOf_4 FU a0 a1 (0 : Int32) (0 : Int32) h
set_option maxHeartbeats 4000000 in
set_option maxRecDepth 100000 in
theorem wb_X3_sumOf_30 (g : GG) (l : Launch) (k4 : Nat → Int32 → Int32 → Int32 → HS → Option (Int32 × HS)) (a0 : Nat) (a1 : Int32) (a2 : Int32) (a3 : Int32) (h : HS) (o : Int32 × HS) (hB : b_X3_sumOf_30 k4 a0 a1 a2 a3 h = some o) (hk4 : ∀ (a0 : Nat) (a1 : Int32) (a2 : Int32) (a3 : Int32) (h : HS), k4 a0 a1 a2 a3 h = some o → Wq g l mX3_sumOf 0 0 4 [some (va_rf (some a0)), some (.int a1), some (.int a2), some (.int a3)] [] h (QI o)) : Wq g l mX3_sumOf 0 0 30 [some (va_rf (some a0)), some (.int a1), some (.int a2), some (.int a3)] [] h (QI o) := by
  unfold b_X3_sumOf_30 at hB
  refine q_iinc dX3_sumOf_30 rfl (show _ = (a3 + (1 : Int32)) from rfl) (by decide) (nb_i (j := 2) rfl) ?_
  refine q_goto (tgt := 4) dX3_sumOf_33 (by decide) ?_
  exact Wq.mask [true, true, true, true] rfl (hk4 _ _ _ _ _ hB)
set_option maxHeartbeats 4000000 in
set_option maxRecDepth 100000 in
theorem wb_X3_sumOf_4 (g : GG) (l : Launch) (k4 : Nat → Int32 → Int32 → Int32 → HS → Option (Int32 × HS)) (a0 : Nat) (a1 : Int32) (a2 : Int32) (a3 : Int32) (h : HS) (o : Int32 × HS) (hB : b_X3_sumOf_4 k4 a0 a1 a2 a3 h = some o) (hk4 : ∀ (a0 : Nat) (a1 : Int32) (a2 : Int32) (a3 : Int32) (h : HS), k4 a0 a1 a2 a3 h = some o → Wq g l mX3_sumOf 0 0 4 [some (va_rf (some a0)), some (.int a1), some (.int a2), some (.int a3)] [] h (QI o)) : Wq g l mX3_sumOf 0 0 4 [some (va_rf (some a0)), some (.int a1), some (.int a2), some (.int a3)] [] h (QI o) := by
  unfold b_X3_sumOf_4 at hB
  refine q_iload_n dX3_sumOf_4 rfl rfl ?_
  refine q_aload_n dX3_sumOf_5 rfl rfl ?_
  refine q_getI (j := 3) hB dX3_sumOf_6 fc_3 (by decide) rfl wd_145 (fun n1 hB => ?_)
  refine q_icmp_ge (tgt := 36) hB dX3_sumOf_9 (by decide) (fun hB => ?_) (fun hB => ?_)
  · refine q_iload_n dX3_sumOf_36 rfl rfl ?_
    exact q_iret hB dX3_sumOf_37 rfl (by decide) (by decide)
  · refine q_iload_n dX3_sumOf_12 rfl rfl ?_
    refine q_iload_n dX3_sumOf_13 rfl rfl ?_
    refine q_ishr dX3_sumOf_14 ?_
    refine q_iconst (v := 1) dX3_sumOf_15 (by decide) ?_
    refine q_iand dX3_sumOf_16 ?_
    refine q_iconst (v := 1) dX3_sumOf_17 (by decide) ?_
    refine q_icmp_ne (tgt := 30) hB dX3_sumOf_18 (by decide) (fun hB => ?_) (fun hB => ?_)
    · exact Wq.mask [true, true, true, true] rfl (wb_X3_sumOf_30 g l k4 _ _ _ _ _ o hB hk4)
    · refine q_iload_n dX3_sumOf_21 rfl rfl ?_
      refine q_aload_n dX3_sumOf_22 rfl rfl ?_
      refine q_getP (j := 2) hB dX3_sumOf_23 fc_3 (by decide) rfl wd_141 (fun n2 hB => ?_)
      refine q_iload_n dX3_sumOf_26 rfl rfl ?_
      refine q_iald hB dX3_sumOf_27 (fun n3 hB => ?_)
      refine q_iadd dX3_sumOf_28 ?_
      refine q_istore_n dX3_sumOf_29 rfl (by decide) (nb_i (j := 1) rfl) ?_
      exact Wq.mask [true, true, true, true] rfl (wb_X3_sumOf_30 g l k4 _ _ _ _ _ o hB hk4)
set_option maxHeartbeats 4000000 in
theorem wl_X3_sumOf_4 (g : GG) (l : Launch) (o : Int32 × HS) : ∀ (n : Nat) (a0 : Nat) (a1 : Int32) (a2 : Int32) (a3 : Int32) (h : HS), l_X3_sumOf_4 n a0 a1 a2 a3 h = some o → Wq g l mX3_sumOf 0 0 4 [some (va_rf (some a0)), some (.int a1), some (.int a2), some (.int a3)] [] h (QI o) := by
  intro n
  induction n with
  | zero =>
    intro a0 a1 a2 a3  h hB
    have q : (none : Option (Int32 × HS)) = some o := hB
    cases q
  | succ n ih =>
    intro a0 a1 a2 a3  h hB
    exact wb_X3_sumOf_4 g l (l_X3_sumOf_4 n) a0 a1 a2 a3 h o hB ih
set_option maxHeartbeats 4000000 in
set_option maxRecDepth 100000 in
theorem c_X3_sumOf (g : GG) (l : Launch) (a0 : Nat) (a1 : Int32) (h : HS) (o : Int32 × HS) (hB : f_X3_sumOf a0 a1 h = some o) : Ct g l mX3_sumOf [va_rf (some a0), .int a1] h (QI o) := by
  refine Ct.of2 (lv0 := [some (va_rf (some a0)), some (.int a1), none, none]) (by decide +kernel) (by simp [lg_sl, rf_cat, cat_i, cat_l]) rfl ?_
  unfold f_X3_sumOf at hB
  refine q_iconst (v := 0) dX3_sumOf_0 (by decide) ?_
  refine q_istore_n dX3_sumOf_1 rfl (by decide) (nb_i (j := 1) rfl) ?_
  refine q_iconst (v := 0) dX3_sumOf_2 (by decide) ?_
  refine q_istore_n dX3_sumOf_3 rfl (by decide) (nb_i (j := 2) rfl) ?_
  exact Wq.mask [true, true, true, true] rfl (wl_X3_sumOf_4 g l o FU _ _ _ _ _ hB)

def b_X3_mostOf_39  (k5 : Nat → Int32 → Int32 → Int32 → HS → Option (Int32 × HS)) (a0 : Nat) (a1 : Int32) (a2 : Int32) (a3 : Int32) (h : HS) : Option (Int32 × HS) :=
  k5 a0 a1 a2 (a3 + (1 : Int32)) h
def b_X3_mostOf_5  (k5 : Nat → Int32 → Int32 → Int32 → HS → Option (Int32 × HS)) (a0 : Nat) (a1 : Int32) (a2 : Int32) (a3 : Int32) (h : HS) : Option (Int32 × HS) :=
  nn (some a0) (fun n1 => gd (ck h n1 3) ((if (hI h n1 3) ≤ a3 then some (a2, h) else (if ((a1 >>> (a3 &&& 31)) &&& (1 : Int32)) = (1 : Int32) then nn (some a0) (fun n2 => gd (ck h n2 3) (nn (hP h n2 2) (fun n3 => gd (ca h n3 9 a3) ((if (hI h n3 a3.toNatClampNeg) ≤ a2 then b_X3_mostOf_39 k5 a0 a1 a2 a3 h else nn (some a0) (fun n4 => gd (ck h n4 3) (nn (hP h n4 2) (fun n5 => gd (ca h n5 9 a3) (b_X3_mostOf_39 k5 a0 a1 (hI h n5 a3.toNatClampNeg) a3 h))))))))) else b_X3_mostOf_39 k5 a0 a1 a2 a3 h))))
def l_X3_mostOf_5  : Nat → Nat → Int32 → Int32 → Int32 → HS → Option (Int32 × HS)
  | 0 => fun _ _ _ _ _ => none
  | n + 1 => b_X3_mostOf_5 (l_X3_mostOf_5 n)
def f_X3_mostOf  (a0 : Nat) (a1 : Int32) (h : HS) : Option (Int32 × HS) :=
  l_X3_mostOf_5 FU a0 a1 (-9 : Int32) (0 : Int32) h
set_option maxHeartbeats 4000000 in
set_option maxRecDepth 100000 in
theorem wb_X3_mostOf_39 (g : GG) (l : Launch) (k5 : Nat → Int32 → Int32 → Int32 → HS → Option (Int32 × HS)) (a0 : Nat) (a1 : Int32) (a2 : Int32) (a3 : Int32) (h : HS) (o : Int32 × HS) (hB : b_X3_mostOf_39 k5 a0 a1 a2 a3 h = some o) (hk5 : ∀ (a0 : Nat) (a1 : Int32) (a2 : Int32) (a3 : Int32) (h : HS), k5 a0 a1 a2 a3 h = some o → Wq g l mX3_mostOf 0 0 5 [some (va_rf (some a0)), some (.int a1), some (.int a2), some (.int a3)] [] h (QI o)) : Wq g l mX3_mostOf 0 0 39 [some (va_rf (some a0)), some (.int a1), some (.int a2), some (.int a3)] [] h (QI o) := by
  unfold b_X3_mostOf_39 at hB
  refine q_iinc dX3_mostOf_39 rfl (show _ = (a3 + (1 : Int32)) from rfl) (by decide) (nb_i (j := 2) rfl) ?_
  refine q_goto (tgt := 5) dX3_mostOf_42 (by decide) ?_
  exact Wq.mask [true, true, true, true] rfl (hk5 _ _ _ _ _ hB)
set_option maxHeartbeats 4000000 in
set_option maxRecDepth 100000 in
theorem wb_X3_mostOf_5 (g : GG) (l : Launch) (k5 : Nat → Int32 → Int32 → Int32 → HS → Option (Int32 × HS)) (a0 : Nat) (a1 : Int32) (a2 : Int32) (a3 : Int32) (h : HS) (o : Int32 × HS) (hB : b_X3_mostOf_5 k5 a0 a1 a2 a3 h = some o) (hk5 : ∀ (a0 : Nat) (a1 : Int32) (a2 : Int32) (a3 : Int32) (h : HS), k5 a0 a1 a2 a3 h = some o → Wq g l mX3_mostOf 0 0 5 [some (va_rf (some a0)), some (.int a1), some (.int a2), some (.int a3)] [] h (QI o)) : Wq g l mX3_mostOf 0 0 5 [some (va_rf (some a0)), some (.int a1), some (.int a2), some (.int a3)] [] h (QI o) := by
  unfold b_X3_mostOf_5 at hB
  refine q_iload_n dX3_mostOf_5 rfl rfl ?_
  refine q_aload_n dX3_mostOf_6 rfl rfl ?_
  refine q_getI (j := 3) hB dX3_mostOf_7 fc_3 (by decide) rfl wd_145 (fun n1 hB => ?_)
  refine q_icmp_ge (tgt := 45) hB dX3_mostOf_10 (by decide) (fun hB => ?_) (fun hB => ?_)
  · refine q_iload_n dX3_mostOf_45 rfl rfl ?_
    exact q_iret hB dX3_mostOf_46 rfl (by decide) (by decide)
  · refine q_iload_n dX3_mostOf_13 rfl rfl ?_
    refine q_iload_n dX3_mostOf_14 rfl rfl ?_
    refine q_ishr dX3_mostOf_15 ?_
    refine q_iconst (v := 1) dX3_mostOf_16 (by decide) ?_
    refine q_iand dX3_mostOf_17 ?_
    refine q_iconst (v := 1) dX3_mostOf_18 (by decide) ?_
    refine q_icmp_ne (tgt := 39) hB dX3_mostOf_19 (by decide) (fun hB => ?_) (fun hB => ?_)
    · exact Wq.mask [true, true, true, true] rfl (wb_X3_mostOf_39 g l k5 _ _ _ _ _ o hB hk5)
    · refine q_aload_n dX3_mostOf_22 rfl rfl ?_
      refine q_getP (j := 2) hB dX3_mostOf_23 fc_3 (by decide) rfl wd_141 (fun n2 hB => ?_)
      refine q_iload_n dX3_mostOf_26 rfl rfl ?_
      refine q_iald hB dX3_mostOf_27 (fun n3 hB => ?_)
      refine q_iload_n dX3_mostOf_28 rfl rfl ?_
      refine q_icmp_le (tgt := 39) hB dX3_mostOf_29 (by decide) (fun hB => ?_) (fun hB => ?_)
      · exact Wq.mask [true, true, true, true] rfl (wb_X3_mostOf_39 g l k5 _ _ _ _ _ o hB hk5)
      · refine q_aload_n dX3_mostOf_32 rfl rfl ?_
        refine q_getP (j := 2) hB dX3_mostOf_33 fc_3 (by decide) rfl wd_141 (fun n4 hB => ?_)
        refine q_iload_n dX3_mostOf_36 rfl rfl ?_
        refine q_iald hB dX3_mostOf_37 (fun n5 hB => ?_)
        refine q_istore_n dX3_mostOf_38 rfl (by decide) (nb_i (j := 1) rfl) ?_
        exact Wq.mask [true, true, true, true] rfl (wb_X3_mostOf_39 g l k5 _ _ _ _ _ o hB hk5)
set_option maxHeartbeats 4000000 in
theorem wl_X3_mostOf_5 (g : GG) (l : Launch) (o : Int32 × HS) : ∀ (n : Nat) (a0 : Nat) (a1 : Int32) (a2 : Int32) (a3 : Int32) (h : HS), l_X3_mostOf_5 n a0 a1 a2 a3 h = some o → Wq g l mX3_mostOf 0 0 5 [some (va_rf (some a0)), some (.int a1), some (.int a2), some (.int a3)] [] h (QI o) := by
  intro n
  induction n with
  | zero =>
    intro a0 a1 a2 a3  h hB
    have q : (none : Option (Int32 × HS)) = some o := hB
    cases q
  | succ n ih =>
    intro a0 a1 a2 a3  h hB
    exact wb_X3_mostOf_5 g l (l_X3_mostOf_5 n) a0 a1 a2 a3 h o hB ih
set_option maxHeartbeats 4000000 in
set_option maxRecDepth 100000 in
theorem c_X3_mostOf (g : GG) (l : Launch) (a0 : Nat) (a1 : Int32) (h : HS) (o : Int32 × HS) (hB : f_X3_mostOf a0 a1 h = some o) : Ct g l mX3_mostOf [va_rf (some a0), .int a1] h (QI o) := by
  refine Ct.of2 (lv0 := [some (va_rf (some a0)), some (.int a1), none, none]) (by decide +kernel) (by simp [lg_sl, rf_cat, cat_i, cat_l]) rfl ?_
  unfold f_X3_mostOf at hB
  refine q_bipush (v := -9) dX3_mostOf_0 (by decide) ?_
  refine q_istore_n dX3_mostOf_2 rfl (by decide) (nb_i (j := 1) rfl) ?_
  refine q_iconst (v := 0) dX3_mostOf_3 (by decide) ?_
  refine q_istore_n dX3_mostOf_4 rfl (by decide) (nb_i (j := 2) rfl) ?_
  exact Wq.mask [true, true, true, true] rfl (wl_X3_mostOf_5 g l o FU _ _ _ _ _ hB)

def b_X3_leastOf_57  (s0 : Int32) (h : HS) : Option (Int32 × HS) :=
  some (s0, h)
def b_X3_leastOf_39  (k5 : Nat → Int32 → Int32 → Int32 → HS → Option (Int32 × HS)) (a0 : Nat) (a1 : Int32) (a2 : Int32) (a3 : Int32) (h : HS) : Option (Int32 × HS) :=
  k5 a0 a1 a2 (a3 + (1 : Int32)) h
def b_X3_leastOf_5  (k5 : Nat → Int32 → Int32 → Int32 → HS → Option (Int32 × HS)) (a0 : Nat) (a1 : Int32) (a2 : Int32) (a3 : Int32) (h : HS) : Option (Int32 × HS) :=
  nn (some a0) (fun n1 => gd (ck h n1 3) ((if (hI h n1 3) ≤ a3 then (if a2 = (100 : Int32) then b_X3_leastOf_57 (-9 : Int32) h else b_X3_leastOf_57 a2 h) else (if ((a1 >>> (a3 &&& 31)) &&& (1 : Int32)) = (1 : Int32) then nn (some a0) (fun n2 => gd (ck h n2 3) (nn (hP h n2 2) (fun n3 => gd (ca h n3 9 a3) ((if a2 ≤ (hI h n3 a3.toNatClampNeg) then b_X3_leastOf_39 k5 a0 a1 a2 a3 h else nn (some a0) (fun n4 => gd (ck h n4 3) (nn (hP h n4 2) (fun n5 => gd (ca h n5 9 a3) (b_X3_leastOf_39 k5 a0 a1 (hI h n5 a3.toNatClampNeg) a3 h))))))))) else b_X3_leastOf_39 k5 a0 a1 a2 a3 h))))
def l_X3_leastOf_5  : Nat → Nat → Int32 → Int32 → Int32 → HS → Option (Int32 × HS)
  | 0 => fun _ _ _ _ _ => none
  | n + 1 => b_X3_leastOf_5 (l_X3_leastOf_5 n)
def f_X3_leastOf  (a0 : Nat) (a1 : Int32) (h : HS) : Option (Int32 × HS) :=
  l_X3_leastOf_5 FU a0 a1 (100 : Int32) (0 : Int32) h
set_option maxHeartbeats 4000000 in
set_option maxRecDepth 100000 in
theorem wb_X3_leastOf_57 (g : GG) (l : Launch) (s0 : Int32) (h : HS) (o : Int32 × HS) (hB : b_X3_leastOf_57 s0 h = some o) : Wq g l mX3_leastOf 0 0 57 [none, none, none, none] [.int s0] h (QI o) := by
  unfold b_X3_leastOf_57 at hB
  exact q_iret hB dX3_leastOf_57 rfl (by decide) (by decide)
set_option maxHeartbeats 4000000 in
set_option maxRecDepth 100000 in
theorem wb_X3_leastOf_39 (g : GG) (l : Launch) (k5 : Nat → Int32 → Int32 → Int32 → HS → Option (Int32 × HS)) (a0 : Nat) (a1 : Int32) (a2 : Int32) (a3 : Int32) (h : HS) (o : Int32 × HS) (hB : b_X3_leastOf_39 k5 a0 a1 a2 a3 h = some o) (hk5 : ∀ (a0 : Nat) (a1 : Int32) (a2 : Int32) (a3 : Int32) (h : HS), k5 a0 a1 a2 a3 h = some o → Wq g l mX3_leastOf 0 0 5 [some (va_rf (some a0)), some (.int a1), some (.int a2), some (.int a3)] [] h (QI o)) : Wq g l mX3_leastOf 0 0 39 [some (va_rf (some a0)), some (.int a1), some (.int a2), some (.int a3)] [] h (QI o) := by
  unfold b_X3_leastOf_39 at hB
  refine q_iinc dX3_leastOf_39 rfl (show _ = (a3 + (1 : Int32)) from rfl) (by decide) (nb_i (j := 2) rfl) ?_
  refine q_goto (tgt := 5) dX3_leastOf_42 (by decide) ?_
  exact Wq.mask [true, true, true, true] rfl (hk5 _ _ _ _ _ hB)
set_option maxHeartbeats 4000000 in
set_option maxRecDepth 100000 in
theorem wb_X3_leastOf_5 (g : GG) (l : Launch) (k5 : Nat → Int32 → Int32 → Int32 → HS → Option (Int32 × HS)) (a0 : Nat) (a1 : Int32) (a2 : Int32) (a3 : Int32) (h : HS) (o : Int32 × HS) (hB : b_X3_leastOf_5 k5 a0 a1 a2 a3 h = some o) (hk5 : ∀ (a0 : Nat) (a1 : Int32) (a2 : Int32) (a3 : Int32) (h : HS), k5 a0 a1 a2 a3 h = some o → Wq g l mX3_leastOf 0 0 5 [some (va_rf (some a0)), some (.int a1), some (.int a2), some (.int a3)] [] h (QI o)) : Wq g l mX3_leastOf 0 0 5 [some (va_rf (some a0)), some (.int a1), some (.int a2), some (.int a3)] [] h (QI o) := by
  unfold b_X3_leastOf_5 at hB
  refine q_iload_n dX3_leastOf_5 rfl rfl ?_
  refine q_aload_n dX3_leastOf_6 rfl rfl ?_
  refine q_getI (j := 3) hB dX3_leastOf_7 fc_3 (by decide) rfl wd_145 (fun n1 hB => ?_)
  refine q_icmp_ge (tgt := 45) hB dX3_leastOf_10 (by decide) (fun hB => ?_) (fun hB => ?_)
  · refine q_iload_n dX3_leastOf_45 rfl rfl ?_
    refine q_bipush (v := 100) dX3_leastOf_46 (by decide) ?_
    refine q_icmp_ne (tgt := 56) hB dX3_leastOf_48 (by decide) (fun hB => ?_) (fun hB => ?_)
    · refine q_iload_n dX3_leastOf_56 rfl rfl ?_
      exact Wq.mask [false, false, false, false] rfl (wb_X3_leastOf_57 g l _ _ o hB)
    · refine q_bipush (v := -9) dX3_leastOf_51 (by decide) ?_
      refine q_goto (tgt := 57) dX3_leastOf_53 (by decide) ?_
      exact Wq.mask [false, false, false, false] rfl (wb_X3_leastOf_57 g l _ _ o hB)
  · refine q_iload_n dX3_leastOf_13 rfl rfl ?_
    refine q_iload_n dX3_leastOf_14 rfl rfl ?_
    refine q_ishr dX3_leastOf_15 ?_
    refine q_iconst (v := 1) dX3_leastOf_16 (by decide) ?_
    refine q_iand dX3_leastOf_17 ?_
    refine q_iconst (v := 1) dX3_leastOf_18 (by decide) ?_
    refine q_icmp_ne (tgt := 39) hB dX3_leastOf_19 (by decide) (fun hB => ?_) (fun hB => ?_)
    · exact Wq.mask [true, true, true, true] rfl (wb_X3_leastOf_39 g l k5 _ _ _ _ _ o hB hk5)
    · refine q_aload_n dX3_leastOf_22 rfl rfl ?_
      refine q_getP (j := 2) hB dX3_leastOf_23 fc_3 (by decide) rfl wd_141 (fun n2 hB => ?_)
      refine q_iload_n dX3_leastOf_26 rfl rfl ?_
      refine q_iald hB dX3_leastOf_27 (fun n3 hB => ?_)
      refine q_iload_n dX3_leastOf_28 rfl rfl ?_
      refine q_icmp_ge (tgt := 39) hB dX3_leastOf_29 (by decide) (fun hB => ?_) (fun hB => ?_)
      · exact Wq.mask [true, true, true, true] rfl (wb_X3_leastOf_39 g l k5 _ _ _ _ _ o hB hk5)
      · refine q_aload_n dX3_leastOf_32 rfl rfl ?_
        refine q_getP (j := 2) hB dX3_leastOf_33 fc_3 (by decide) rfl wd_141 (fun n4 hB => ?_)
        refine q_iload_n dX3_leastOf_36 rfl rfl ?_
        refine q_iald hB dX3_leastOf_37 (fun n5 hB => ?_)
        refine q_istore_n dX3_leastOf_38 rfl (by decide) (nb_i (j := 1) rfl) ?_
        exact Wq.mask [true, true, true, true] rfl (wb_X3_leastOf_39 g l k5 _ _ _ _ _ o hB hk5)
set_option maxHeartbeats 4000000 in
theorem wl_X3_leastOf_5 (g : GG) (l : Launch) (o : Int32 × HS) : ∀ (n : Nat) (a0 : Nat) (a1 : Int32) (a2 : Int32) (a3 : Int32) (h : HS), l_X3_leastOf_5 n a0 a1 a2 a3 h = some o → Wq g l mX3_leastOf 0 0 5 [some (va_rf (some a0)), some (.int a1), some (.int a2), some (.int a3)] [] h (QI o) := by
  intro n
  induction n with
  | zero =>
    intro a0 a1 a2 a3  h hB
    have q : (none : Option (Int32 × HS)) = some o := hB
    cases q
  | succ n ih =>
    intro a0 a1 a2 a3  h hB
    exact wb_X3_leastOf_5 g l (l_X3_leastOf_5 n) a0 a1 a2 a3 h o hB ih
set_option maxHeartbeats 4000000 in
set_option maxRecDepth 100000 in
theorem c_X3_leastOf (g : GG) (l : Launch) (a0 : Nat) (a1 : Int32) (h : HS) (o : Int32 × HS) (hB : f_X3_leastOf a0 a1 h = some o) : Ct g l mX3_leastOf [va_rf (some a0), .int a1] h (QI o) := by
  refine Ct.of2 (lv0 := [some (va_rf (some a0)), some (.int a1), none, none]) (by decide +kernel) (by simp [lg_sl, rf_cat, cat_i, cat_l]) rfl ?_
  unfold f_X3_leastOf at hB
  refine q_bipush (v := 100) dX3_leastOf_0 (by decide) ?_
  refine q_istore_n dX3_leastOf_2 rfl (by decide) (nb_i (j := 1) rfl) ?_
  refine q_iconst (v := 0) dX3_leastOf_3 (by decide) ?_
  refine q_istore_n dX3_leastOf_4 rfl (by decide) (nb_i (j := 2) rfl) ?_
  exact Wq.mask [true, true, true, true] rfl (wl_X3_leastOf_5 g l o FU _ _ _ _ _ hB)

def f_J13_bitCount_95d88  (a0 : Int64) (h : HS) : Option (Int32 × HS) :=
  some ((((((((((a0 - ((a0.toUInt64 >>> ((1 : Int32).toInt64.toUInt64 &&& Int64.toUInt64 63)).toInt64 &&& (6148914691236517205 : Int64))) &&& (3689348814741910323 : Int64)) + (((a0 - ((a0.toUInt64 >>> ((1 : Int32).toInt64.toUInt64 &&& Int64.toUInt64 63)).toInt64 &&& (6148914691236517205 : Int64))).toUInt64 >>> ((2 : Int32).toInt64.toUInt64 &&& Int64.toUInt64 63)).toInt64 &&& (3689348814741910323 : Int64))) + ((((a0 - ((a0.toUInt64 >>> ((1 : Int32).toInt64.toUInt64 &&& Int64.toUInt64 63)).toInt64 &&& (6148914691236517205 : Int64))) &&& (3689348814741910323 : Int64)) + (((a0 - ((a0.toUInt64 >>> ((1 : Int32).toInt64.toUInt64 &&& Int64.toUInt64 63)).toInt64 &&& (6148914691236517205 : Int64))).toUInt64 >>> ((2 : Int32).toInt64.toUInt64 &&& Int64.toUInt64 63)).toInt64 &&& (3689348814741910323 : Int64))).toUInt64 >>> ((4 : Int32).toInt64.toUInt64 &&& Int64.toUInt64 63)).toInt64) &&& (1085102592571150095 : Int64)) + ((((((a0 - ((a0.toUInt64 >>> ((1 : Int32).toInt64.toUInt64 &&& Int64.toUInt64 63)).toInt64 &&& (6148914691236517205 : Int64))) &&& (3689348814741910323 : Int64)) + (((a0 - ((a0.toUInt64 >>> ((1 : Int32).toInt64.toUInt64 &&& Int64.toUInt64 63)).toInt64 &&& (6148914691236517205 : Int64))).toUInt64 >>> ((2 : Int32).toInt64.toUInt64 &&& Int64.toUInt64 63)).toInt64 &&& (3689348814741910323 : Int64))) + ((((a0 - ((a0.toUInt64 >>> ((1 : Int32).toInt64.toUInt64 &&& Int64.toUInt64 63)).toInt64 &&& (6148914691236517205 : Int64))) &&& (3689348814741910323 : Int64)) + (((a0 - ((a0.toUInt64 >>> ((1 : Int32).toInt64.toUInt64 &&& Int64.toUInt64 63)).toInt64 &&& (6148914691236517205 : Int64))).toUInt64 >>> ((2 : Int32).toInt64.toUInt64 &&& Int64.toUInt64 63)).toInt64 &&& (3689348814741910323 : Int64))).toUInt64 >>> ((4 : Int32).toInt64.toUInt64 &&& Int64.toUInt64 63)).toInt64) &&& (1085102592571150095 : Int64)).toUInt64 >>> ((8 : Int32).toInt64.toUInt64 &&& Int64.toUInt64 63)).toInt64) + (((((((a0 - ((a0.toUInt64 >>> ((1 : Int32).toInt64.toUInt64 &&& Int64.toUInt64 63)).toInt64 &&& (6148914691236517205 : Int64))) &&& (3689348814741910323 : Int64)) + (((a0 - ((a0.toUInt64 >>> ((1 : Int32).toInt64.toUInt64 &&& Int64.toUInt64 63)).toInt64 &&& (6148914691236517205 : Int64))).toUInt64 >>> ((2 : Int32).toInt64.toUInt64 &&& Int64.toUInt64 63)).toInt64 &&& (3689348814741910323 : Int64))) + ((((a0 - ((a0.toUInt64 >>> ((1 : Int32).toInt64.toUInt64 &&& Int64.toUInt64 63)).toInt64 &&& (6148914691236517205 : Int64))) &&& (3689348814741910323 : Int64)) + (((a0 - ((a0.toUInt64 >>> ((1 : Int32).toInt64.toUInt64 &&& Int64.toUInt64 63)).toInt64 &&& (6148914691236517205 : Int64))).toUInt64 >>> ((2 : Int32).toInt64.toUInt64 &&& Int64.toUInt64 63)).toInt64 &&& (3689348814741910323 : Int64))).toUInt64 >>> ((4 : Int32).toInt64.toUInt64 &&& Int64.toUInt64 63)).toInt64) &&& (1085102592571150095 : Int64)) + ((((((a0 - ((a0.toUInt64 >>> ((1 : Int32).toInt64.toUInt64 &&& Int64.toUInt64 63)).toInt64 &&& (6148914691236517205 : Int64))) &&& (3689348814741910323 : Int64)) + (((a0 - ((a0.toUInt64 >>> ((1 : Int32).toInt64.toUInt64 &&& Int64.toUInt64 63)).toInt64 &&& (6148914691236517205 : Int64))).toUInt64 >>> ((2 : Int32).toInt64.toUInt64 &&& Int64.toUInt64 63)).toInt64 &&& (3689348814741910323 : Int64))) + ((((a0 - ((a0.toUInt64 >>> ((1 : Int32).toInt64.toUInt64 &&& Int64.toUInt64 63)).toInt64 &&& (6148914691236517205 : Int64))) &&& (3689348814741910323 : Int64)) + (((a0 - ((a0.toUInt64 >>> ((1 : Int32).toInt64.toUInt64 &&& Int64.toUInt64 63)).toInt64 &&& (6148914691236517205 : Int64))).toUInt64 >>> ((2 : Int32).toInt64.toUInt64 &&& Int64.toUInt64 63)).toInt64 &&& (3689348814741910323 : Int64))).toUInt64 >>> ((4 : Int32).toInt64.toUInt64 &&& Int64.toUInt64 63)).toInt64) &&& (1085102592571150095 : Int64)).toUInt64 >>> ((8 : Int32).toInt64.toUInt64 &&& Int64.toUInt64 63)).toInt64).toUInt64 >>> ((16 : Int32).toInt64.toUInt64 &&& Int64.toUInt64 63)).toInt64) + ((((((((a0 - ((a0.toUInt64 >>> ((1 : Int32).toInt64.toUInt64 &&& Int64.toUInt64 63)).toInt64 &&& (6148914691236517205 : Int64))) &&& (3689348814741910323 : Int64)) + (((a0 - ((a0.toUInt64 >>> ((1 : Int32).toInt64.toUInt64 &&& Int64.toUInt64 63)).toInt64 &&& (6148914691236517205 : Int64))).toUInt64 >>> ((2 : Int32).toInt64.toUInt64 &&& Int64.toUInt64 63)).toInt64 &&& (3689348814741910323 : Int64))) + ((((a0 - ((a0.toUInt64 >>> ((1 : Int32).toInt64.toUInt64 &&& Int64.toUInt64 63)).toInt64 &&& (6148914691236517205 : Int64))) &&& (3689348814741910323 : Int64)) + (((a0 - ((a0.toUInt64 >>> ((1 : Int32).toInt64.toUInt64 &&& Int64.toUInt64 63)).toInt64 &&& (6148914691236517205 : Int64))).toUInt64 >>> ((2 : Int32).toInt64.toUInt64 &&& Int64.toUInt64 63)).toInt64 &&& (3689348814741910323 : Int64))).toUInt64 >>> ((4 : Int32).toInt64.toUInt64 &&& Int64.toUInt64 63)).toInt64) &&& (1085102592571150095 : Int64)) + ((((((a0 - ((a0.toUInt64 >>> ((1 : Int32).toInt64.toUInt64 &&& Int64.toUInt64 63)).toInt64 &&& (6148914691236517205 : Int64))) &&& (3689348814741910323 : Int64)) + (((a0 - ((a0.toUInt64 >>> ((1 : Int32).toInt64.toUInt64 &&& Int64.toUInt64 63)).toInt64 &&& (6148914691236517205 : Int64))).toUInt64 >>> ((2 : Int32).toInt64.toUInt64 &&& Int64.toUInt64 63)).toInt64 &&& (3689348814741910323 : Int64))) + ((((a0 - ((a0.toUInt64 >>> ((1 : Int32).toInt64.toUInt64 &&& Int64.toUInt64 63)).toInt64 &&& (6148914691236517205 : Int64))) &&& (3689348814741910323 : Int64)) + (((a0 - ((a0.toUInt64 >>> ((1 : Int32).toInt64.toUInt64 &&& Int64.toUInt64 63)).toInt64 &&& (6148914691236517205 : Int64))).toUInt64 >>> ((2 : Int32).toInt64.toUInt64 &&& Int64.toUInt64 63)).toInt64 &&& (3689348814741910323 : Int64))).toUInt64 >>> ((4 : Int32).toInt64.toUInt64 &&& Int64.toUInt64 63)).toInt64) &&& (1085102592571150095 : Int64)).toUInt64 >>> ((8 : Int32).toInt64.toUInt64 &&& Int64.toUInt64 63)).toInt64) + (((((((a0 - ((a0.toUInt64 >>> ((1 : Int32).toInt64.toUInt64 &&& Int64.toUInt64 63)).toInt64 &&& (6148914691236517205 : Int64))) &&& (3689348814741910323 : Int64)) + (((a0 - ((a0.toUInt64 >>> ((1 : Int32).toInt64.toUInt64 &&& Int64.toUInt64 63)).toInt64 &&& (6148914691236517205 : Int64))).toUInt64 >>> ((2 : Int32).toInt64.toUInt64 &&& Int64.toUInt64 63)).toInt64 &&& (3689348814741910323 : Int64))) + ((((a0 - ((a0.toUInt64 >>> ((1 : Int32).toInt64.toUInt64 &&& Int64.toUInt64 63)).toInt64 &&& (6148914691236517205 : Int64))) &&& (3689348814741910323 : Int64)) + (((a0 - ((a0.toUInt64 >>> ((1 : Int32).toInt64.toUInt64 &&& Int64.toUInt64 63)).toInt64 &&& (6148914691236517205 : Int64))).toUInt64 >>> ((2 : Int32).toInt64.toUInt64 &&& Int64.toUInt64 63)).toInt64 &&& (3689348814741910323 : Int64))).toUInt64 >>> ((4 : Int32).toInt64.toUInt64 &&& Int64.toUInt64 63)).toInt64) &&& (1085102592571150095 : Int64)) + ((((((a0 - ((a0.toUInt64 >>> ((1 : Int32).toInt64.toUInt64 &&& Int64.toUInt64 63)).toInt64 &&& (6148914691236517205 : Int64))) &&& (3689348814741910323 : Int64)) + (((a0 - ((a0.toUInt64 >>> ((1 : Int32).toInt64.toUInt64 &&& Int64.toUInt64 63)).toInt64 &&& (6148914691236517205 : Int64))).toUInt64 >>> ((2 : Int32).toInt64.toUInt64 &&& Int64.toUInt64 63)).toInt64 &&& (3689348814741910323 : Int64))) + ((((a0 - ((a0.toUInt64 >>> ((1 : Int32).toInt64.toUInt64 &&& Int64.toUInt64 63)).toInt64 &&& (6148914691236517205 : Int64))) &&& (3689348814741910323 : Int64)) + (((a0 - ((a0.toUInt64 >>> ((1 : Int32).toInt64.toUInt64 &&& Int64.toUInt64 63)).toInt64 &&& (6148914691236517205 : Int64))).toUInt64 >>> ((2 : Int32).toInt64.toUInt64 &&& Int64.toUInt64 63)).toInt64 &&& (3689348814741910323 : Int64))).toUInt64 >>> ((4 : Int32).toInt64.toUInt64 &&& Int64.toUInt64 63)).toInt64) &&& (1085102592571150095 : Int64)).toUInt64 >>> ((8 : Int32).toInt64.toUInt64 &&& Int64.toUInt64 63)).toInt64).toUInt64 >>> ((16 : Int32).toInt64.toUInt64 &&& Int64.toUInt64 63)).toInt64).toUInt64 >>> ((32 : Int32).toInt64.toUInt64 &&& Int64.toUInt64 63)).toInt64).toInt32 &&& (127 : Int32)), h)
set_option maxHeartbeats 4000000 in
set_option maxRecDepth 100000 in
theorem c_J13_bitCount_95d88 (g : GG) (l : Launch) (a0 : Int64) (h : HS) (o : Int32 × HS) (hB : f_J13_bitCount_95d88 a0 h = some o) : Ct g l mJ13_bitCount_95d88 [.long a0] h (QI o) := by
  refine Ct.of2 (lv0 := [some (.long a0), none]) (by decide +kernel) (by simp [lg_sl, rf_cat, cat_i, cat_l]) rfl ?_
  unfold f_J13_bitCount_95d88 at hB
  refine q_lload_n dJ13_bitCount_95d88_0 rfl rfl ?_
  refine q_lload_n dJ13_bitCount_95d88_1 rfl rfl ?_
  refine q_iconst (v := 1) dJ13_bitCount_95d88_2 (by decide) ?_
  refine q_lushr dJ13_bitCount_95d88_3 ?_
  refine q_ldc2 dJ13_bitCount_95d88_4 wd_438 ?_
  refine q_land dJ13_bitCount_95d88_7 ?_
  refine q_lsub dJ13_bitCount_95d88_8 ?_
  refine q_lstore_n dJ13_bitCount_95d88_9 rfl (by decide) nb_0 ?_
  refine q_lload_n dJ13_bitCount_95d88_10 rfl rfl ?_
  refine q_ldc2 dJ13_bitCount_95d88_11 wd_439 ?_
  refine q_land dJ13_bitCount_95d88_14 ?_
  refine q_lload_n dJ13_bitCount_95d88_15 rfl rfl ?_
  refine q_iconst (v := 2) dJ13_bitCount_95d88_16 (by decide) ?_
  refine q_lushr dJ13_bitCount_95d88_17 ?_
  refine q_ldc2 dJ13_bitCount_95d88_18 wd_439 ?_
  refine q_land dJ13_bitCount_95d88_21 ?_
  refine q_ladd dJ13_bitCount_95d88_22 ?_
  refine q_lstore_n dJ13_bitCount_95d88_23 rfl (by decide) nb_0 ?_
  refine q_lload_n dJ13_bitCount_95d88_24 rfl rfl ?_
  refine q_lload_n dJ13_bitCount_95d88_25 rfl rfl ?_
  refine q_iconst (v := 4) dJ13_bitCount_95d88_26 (by decide) ?_
  refine q_lushr dJ13_bitCount_95d88_27 ?_
  refine q_ladd dJ13_bitCount_95d88_28 ?_
  refine q_ldc2 dJ13_bitCount_95d88_29 wd_440 ?_
  refine q_land dJ13_bitCount_95d88_32 ?_
  refine q_lstore_n dJ13_bitCount_95d88_33 rfl (by decide) nb_0 ?_
  refine q_lload_n dJ13_bitCount_95d88_34 rfl rfl ?_
  refine q_lload_n dJ13_bitCount_95d88_35 rfl rfl ?_
  refine q_bipush (v := 8) dJ13_bitCount_95d88_36 (by decide) ?_
  refine q_lushr dJ13_bitCount_95d88_38 ?_
  refine q_ladd dJ13_bitCount_95d88_39 ?_
  refine q_lstore_n dJ13_bitCount_95d88_40 rfl (by decide) nb_0 ?_
  refine q_lload_n dJ13_bitCount_95d88_41 rfl rfl ?_
  refine q_lload_n dJ13_bitCount_95d88_42 rfl rfl ?_
  refine q_bipush (v := 16) dJ13_bitCount_95d88_43 (by decide) ?_
  refine q_lushr dJ13_bitCount_95d88_45 ?_
  refine q_ladd dJ13_bitCount_95d88_46 ?_
  refine q_lstore_n dJ13_bitCount_95d88_47 rfl (by decide) nb_0 ?_
  refine q_lload_n dJ13_bitCount_95d88_48 rfl rfl ?_
  refine q_lload_n dJ13_bitCount_95d88_49 rfl rfl ?_
  refine q_bipush (v := 32) dJ13_bitCount_95d88_50 (by decide) ?_
  refine q_lushr dJ13_bitCount_95d88_52 ?_
  refine q_ladd dJ13_bitCount_95d88_53 ?_
  refine q_lstore_n dJ13_bitCount_95d88_54 rfl (by decide) nb_0 ?_
  refine q_lload_n dJ13_bitCount_95d88_55 rfl rfl ?_
  refine q_l2i dJ13_bitCount_95d88_56 ?_
  refine q_bipush (v := 127) dJ13_bitCount_95d88_57 (by decide) ?_
  refine q_iand dJ13_bitCount_95d88_59 ?_
  exact q_iret hB dJ13_bitCount_95d88_60 rfl (by decide) (by decide)

def b_X3_kindsOf_68  (k8 : Nat → Int32 → Int64 → Int64 → Int32 → HS → Option (Int32 × HS)) (a0 : Nat) (a1 : Int32) (a2 : Int64) (a4 : Int64) (a6 : Int32) (h : HS) : Option (Int32 × HS) :=
  k8 a0 a1 a2 a4 (a6 + (1 : Int32)) h
def b_X3_kindsOf_8  (k8 : Nat → Int32 → Int64 → Int64 → Int32 → HS → Option (Int32 × HS)) (a0 : Nat) (a1 : Int32) (a2 : Int64) (a4 : Int64) (a6 : Int32) (h : HS) : Option (Int32 × HS) :=
  nn (some a0) (fun n1 => gd (ck h n1 3) ((if (hI h n1 3) ≤ a6 then bd (f_J13_bitCount_95d88 a2 h) (fun r2 => bd (f_J13_bitCount_95d88 a4 r2.2) (fun r3 => some ((r2.1 + r3.1), r3.2))) else (if ((a1 >>> (a6 &&& 31)) &&& (1 : Int32)) = (1 : Int32) then nn (some a0) (fun n4 => gd (ck h n4 3) (nn (hP h n4 2) (fun n5 => gd (ca h n5 9 a6) ((if (64 : Int32) ≤ (hI h n5 a6.toNatClampNeg) then nn (some a0) (fun n6 => gd (ck h n6 3) (nn (hP h n6 2) (fun n7 => gd (ca h n7 9 a6) (b_X3_kindsOf_68 k8 a0 a1 a2 (a4 ||| ((1 : Int64) <<< ((hI h n7 a6.toNatClampNeg).toInt64 &&& 63))) a6 h)))) else nn (some a0) (fun n8 => gd (ck h n8 3) (nn (hP h n8 2) (fun n9 => gd (ca h n9 9 a6) (b_X3_kindsOf_68 k8 a0 a1 (a2 ||| ((1 : Int64) <<< ((hI h n9 a6.toNatClampNeg).toInt64 &&& 63))) a4 a6 h))))))))) else b_X3_kindsOf_68 k8 a0 a1 a2 a4 a6 h))))
def l_X3_kindsOf_8  : Nat → Nat → Int32 → Int64 → Int64 → Int32 → HS → Option (Int32 × HS)
  | 0 => fun _ _ _ _ _ _ => none
  | n + 1 => b_X3_kindsOf_8 (l_X3_kindsOf_8 n)
def f_X3_kindsOf  (a0 : Nat) (a1 : Int32) (h : HS) : Option (Int32 × HS) :=
  l_X3_kindsOf_8 FU a0 a1 (0 : Int64) (0 : Int64) (0 : Int32) h
set_option maxHeartbeats 4000000 in
set_option maxRecDepth 100000 in
theorem wb_X3_kindsOf_68 (g : GG) (l : Launch) (k8 : Nat → Int32 → Int64 → Int64 → Int32 → HS → Option (Int32 × HS)) (a0 : Nat) (a1 : Int32) (a2 : Int64) (a4 : Int64) (a6 : Int32) (h : HS) (o : Int32 × HS) (hB : b_X3_kindsOf_68 k8 a0 a1 a2 a4 a6 h = some o) (hk8 : ∀ (a0 : Nat) (a1 : Int32) (a2 : Int64) (a4 : Int64) (a6 : Int32) (h : HS), k8 a0 a1 a2 a4 a6 h = some o → Wq g l mX3_kindsOf 0 0 8 [some (va_rf (some a0)), some (.int a1), some (.long a2), none, some (.long a4), none, some (.int a6)] [] h (QI o)) : Wq g l mX3_kindsOf 0 0 68 [some (va_rf (some a0)), some (.int a1), some (.long a2), none, some (.long a4), none, some (.int a6)] [] h (QI o) := by
  unfold b_X3_kindsOf_68 at hB
  refine q_iinc dX3_kindsOf_68 rfl (show _ = (a6 + (1 : Int32)) from rfl) (by decide) (nb_n (j := 5) rfl) ?_
  refine q_goto (tgt := 8) dX3_kindsOf_71 (by decide) ?_
  exact Wq.mask [true, true, true, false, true, false, true] rfl (hk8 _ _ _ _ _ _ hB)
set_option maxHeartbeats 4000000 in
set_option maxRecDepth 100000 in
theorem wb_X3_kindsOf_8 (g : GG) (l : Launch) (k8 : Nat → Int32 → Int64 → Int64 → Int32 → HS → Option (Int32 × HS)) (a0 : Nat) (a1 : Int32) (a2 : Int64) (a4 : Int64) (a6 : Int32) (h : HS) (o : Int32 × HS) (hB : b_X3_kindsOf_8 k8 a0 a1 a2 a4 a6 h = some o) (hk8 : ∀ (a0 : Nat) (a1 : Int32) (a2 : Int64) (a4 : Int64) (a6 : Int32) (h : HS), k8 a0 a1 a2 a4 a6 h = some o → Wq g l mX3_kindsOf 0 0 8 [some (va_rf (some a0)), some (.int a1), some (.long a2), none, some (.long a4), none, some (.int a6)] [] h (QI o)) : Wq g l mX3_kindsOf 0 0 8 [some (va_rf (some a0)), some (.int a1), some (.long a2), none, some (.long a4), none, some (.int a6)] [] h (QI o) := by
  unfold b_X3_kindsOf_8 at hB
  refine q_iload dX3_kindsOf_8 rfl ?_
  refine q_aload_n dX3_kindsOf_10 rfl rfl ?_
  refine q_getI (j := 3) hB dX3_kindsOf_11 fc_3 (by decide) rfl wd_145 (fun n1 hB => ?_)
  refine q_icmp_ge (tgt := 74) hB dX3_kindsOf_14 (by decide) (fun hB => ?_) (fun hB => ?_)
  · refine q_lload_n dX3_kindsOf_74 rfl rfl ?_
    refine q_callSI (k' := 0) (w' := 0) hB (fun a hf => c_J13_bitCount_95d88 g l _ _ a hf) rfl dX3_kindsOf_75 wd_435 cs_J13_bitCount_95d88 wd_436 rfl ⟨⟨Nat.le_of_ble_eq_true rfl, Nat.le_of_ble_eq_true rfl⟩, ⟨Nat.le_of_ble_eq_true rfl, Nat.le_of_ble_eq_true rfl⟩, Nat.le_of_ble_eq_true rfl⟩ rfl rfl (fun r2 hB => ?_)
    refine q_lload dX3_kindsOf_78 rfl ?_
    refine q_callSI (k' := 0) (w' := 0) hB (fun a hf => c_J13_bitCount_95d88 g l _ _ a hf) rfl dX3_kindsOf_80 wd_435 cs_J13_bitCount_95d88 wd_436 rfl ⟨⟨Nat.le_of_ble_eq_true rfl, Nat.le_of_ble_eq_true rfl⟩, ⟨Nat.le_of_ble_eq_true rfl, Nat.le_of_ble_eq_true rfl⟩, by simp [rf_cat, cat_i, cat_l]⟩ rfl rfl (fun r3 hB => ?_)
    refine q_iadd dX3_kindsOf_83 ?_
    exact q_iret hB dX3_kindsOf_84 rfl (by decide) (by decide)
  · refine q_iload_n dX3_kindsOf_17 rfl rfl ?_
    refine q_iload dX3_kindsOf_18 rfl ?_
    refine q_ishr dX3_kindsOf_20 ?_
    refine q_iconst (v := 1) dX3_kindsOf_21 (by decide) ?_
    refine q_iand dX3_kindsOf_22 ?_
    refine q_iconst (v := 1) dX3_kindsOf_23 (by decide) ?_
    refine q_icmp_ne (tgt := 68) hB dX3_kindsOf_24 (by decide) (fun hB => ?_) (fun hB => ?_)
    · exact Wq.mask [true, true, true, false, true, false, true] rfl (wb_X3_kindsOf_68 g l k8 _ _ _ _ _ _ o hB hk8)
    · refine q_aload_n dX3_kindsOf_27 rfl rfl ?_
      refine q_getP (j := 2) hB dX3_kindsOf_28 fc_3 (by decide) rfl wd_141 (fun n4 hB => ?_)
      refine q_iload dX3_kindsOf_31 rfl ?_
      refine q_iald hB dX3_kindsOf_33 (fun n5 hB => ?_)
      refine q_bipush (v := 64) dX3_kindsOf_34 (by decide) ?_
      refine q_icmp_ge (tgt := 54) hB dX3_kindsOf_36 (by decide) (fun hB => ?_) (fun hB => ?_)
      · refine q_lload dX3_kindsOf_54 rfl ?_
        refine q_lconst (v := 1) dX3_kindsOf_56 (by decide) ?_
        refine q_aload_n dX3_kindsOf_57 rfl rfl ?_
        refine q_getP (j := 2) hB dX3_kindsOf_58 fc_3 (by decide) rfl wd_141 (fun n6 hB => ?_)
        refine q_iload dX3_kindsOf_61 rfl ?_
        refine q_iald hB dX3_kindsOf_63 (fun n7 hB => ?_)
        refine q_lshl dX3_kindsOf_64 ?_
        refine q_lor dX3_kindsOf_65 ?_
        refine q_lstore dX3_kindsOf_66 (by decide) (nb_n (j := 3) rfl) ?_
        exact Wq.mask [true, true, true, false, true, false, true] rfl (wb_X3_kindsOf_68 g l k8 _ _ _ _ _ _ o hB hk8)
      · refine q_lload_n dX3_kindsOf_39 rfl rfl ?_
        refine q_lconst (v := 1) dX3_kindsOf_40 (by decide) ?_
        refine q_aload_n dX3_kindsOf_41 rfl rfl ?_
        refine q_getP (j := 2) hB dX3_kindsOf_42 fc_3 (by decide) rfl wd_141 (fun n8 hB => ?_)
        refine q_iload dX3_kindsOf_45 rfl ?_
        refine q_iald hB dX3_kindsOf_47 (fun n9 hB => ?_)
        refine q_lshl dX3_kindsOf_48 ?_
        refine q_lor dX3_kindsOf_49 ?_
        refine q_lstore_n dX3_kindsOf_50 rfl (by decide) (nb_i (j := 1) rfl) ?_
        refine q_goto (tgt := 68) dX3_kindsOf_51 (by decide) ?_
        exact Wq.mask [true, true, true, false, true, false, true] rfl (wb_X3_kindsOf_68 g l k8 _ _ _ _ _ _ o hB hk8)
set_option maxHeartbeats 4000000 in
theorem wl_X3_kindsOf_8 (g : GG) (l : Launch) (o : Int32 × HS) : ∀ (n : Nat) (a0 : Nat) (a1 : Int32) (a2 : Int64) (a4 : Int64) (a6 : Int32) (h : HS), l_X3_kindsOf_8 n a0 a1 a2 a4 a6 h = some o → Wq g l mX3_kindsOf 0 0 8 [some (va_rf (some a0)), some (.int a1), some (.long a2), none, some (.long a4), none, some (.int a6)] [] h (QI o) := by
  intro n
  induction n with
  | zero =>
    intro a0 a1 a2 a4 a6  h hB
    have q : (none : Option (Int32 × HS)) = some o := hB
    cases q
  | succ n ih =>
    intro a0 a1 a2 a4 a6  h hB
    exact wb_X3_kindsOf_8 g l (l_X3_kindsOf_8 n) a0 a1 a2 a4 a6 h o hB ih
set_option maxHeartbeats 4000000 in
set_option maxRecDepth 100000 in
theorem c_X3_kindsOf (g : GG) (l : Launch) (a0 : Nat) (a1 : Int32) (h : HS) (o : Int32 × HS) (hB : f_X3_kindsOf a0 a1 h = some o) : Ct g l mX3_kindsOf [va_rf (some a0), .int a1] h (QI o) := by
  refine Ct.of2 (lv0 := [some (va_rf (some a0)), some (.int a1), none, none, none, none, none]) (by decide +kernel) (by simp [lg_sl, rf_cat, cat_i, cat_l]) rfl ?_
  unfold f_X3_kindsOf at hB
  refine q_lconst (v := 0) dX3_kindsOf_0 (by decide) ?_
  refine q_lstore_n dX3_kindsOf_1 rfl (by decide) (nb_i (j := 1) rfl) ?_
  refine q_lconst (v := 0) dX3_kindsOf_2 (by decide) ?_
  refine q_lstore dX3_kindsOf_3 (by decide) (nb_n (j := 3) rfl) ?_
  refine q_iconst (v := 0) dX3_kindsOf_5 (by decide) ?_
  refine q_istore dX3_kindsOf_6 (by decide) (nb_n (j := 5) rfl) ?_
  exact Wq.mask [true, true, true, false, true, false, true] rfl (wl_X3_kindsOf_8 g l o FU _ _ _ _ _ _ hB)

def b_X5_of_74  (s0 : Int32) (h : HS) : Option (Int32 × HS) :=
  some (s0, h)
def f_X5_of  (a0 : Nat) (a1 : Option Nat) (a2 : Int32) (h : HS) : Option (Int32 × HS) :=
  (if a2 = 0 then some ((-9 : Int32), h) else gd (en1 (some a0) && en1 (some 1010) || en2 (some a0) && en2 (some 1010)) ((if (some a0) = (some 1010) then bd (f_J6_bitCount_0f7a4 a2 h) (fun r11 => some (r11.1, r11.2)) else nn a1 (fun n2 => gd (rk h n2 3) (bd (f_X3_missing n2 h) (fun r1 => gd (en1 (some a0) && en1 (some 1011) || en2 (some a0) && en2 (some 1011)) ((if (some a0) = (some 1011) then nn a1 (fun n10 => gd (rk r1.2 n10 3) (bd (f_X3_sumOf n10 (a2 &&& (r1.1 ^^^ (-1 : Int32))) r1.2) (fun r9 => some (r9.1, r9.2)))) else gd (en1 (some a0) && en1 (some 1012) || en2 (some a0) && en2 (some 1012)) ((if (some a0) = (some 1012) then nn a1 (fun n8 => gd (rk r1.2 n8 3) (bd (f_X3_mostOf n8 (a2 &&& (r1.1 ^^^ (-1 : Int32))) r1.2) (fun r7 => some (r7.1, r7.2)))) else gd (en1 (some a0) && en1 (some 1013) || en2 (some a0) && en2 (some 1013)) ((if (some a0) = (some 1013) then nn a1 (fun n6 => gd (rk r1.2 n6 3) (bd (f_X3_leastOf n6 (a2 &&& (r1.1 ^^^ (-1 : Int32))) r1.2) (fun r5 => b_X5_of_74 r5.1 r5.2))) else nn a1 (fun n4 => gd (rk r1.2 n4 3) (bd (f_X3_kindsOf n4 (a2 &&& (r1.1 ^^^ (-1 : Int32))) r1.2) (fun r3 => b_X5_of_74 r3.1 r3.2)))))))))))))))
set_option maxHeartbeats 4000000 in
set_option maxRecDepth 100000 in
theorem wb_X5_of_74 (g : GG) (l : Launch) (s0 : Int32) (h : HS) (o : Int32 × HS) (hB : b_X5_of_74 s0 h = some o) : Wq g l mX5_of 0 0 74 [none, none, none, none] [.int s0] h (QI o) := by
  unfold b_X5_of_74 at hB
  exact q_iret hB dX5_of_74 rfl (by decide) (by decide)
set_option maxHeartbeats 4000000 in
set_option maxRecDepth 100000 in
theorem c_X5_of (g : GG) (l : Launch) (a0 : Nat) (a1 : Option Nat) (a2 : Int32) (h : HS) (o : Int32 × HS) (hB : f_X5_of a0 a1 a2 h = some o) : Ct g l mX5_of [va_rf (some a0), va_rf a1, .int a2] h (QI o) := by
  refine Ct.of2 (lv0 := [some (va_rf (some a0)), some (va_rf a1), some (.int a2), none]) (by decide +kernel) (by simp [lg_sl, rf_cat, cat_i, cat_l]) (by simp only [entL_r, entL_i, entL_l]; rfl) ?_
  unfold f_X5_of at hB
  refine q_iload_n dX5_of_0 rfl rfl ?_
  refine q_if_ne (tgt := 7) hB dX5_of_1 (by decide) (fun hB => ?_) (fun hB => ?_)
  · refine q_aload_n dX5_of_7 rfl rfl ?_
    refine q_static (v := va_rf (some 1010)) (fun s hK => z_M 0 (by decide) hK) dX5_of_8 wd_311 ?_
    refine q_acmp_ne (tgt := 19) hB dX5_of_11 (by decide) (fun hB => ?_) (fun hB => ?_)
    · refine q_iload_n dX5_of_19 rfl rfl ?_
      refine q_aload_n dX5_of_20 rfl rfl ?_
      refine q_callVI (k' := 0) (w' := 0) hB (fun b a hf => c_X3_missing g l b _ a hf) rfl rfl dX5_of_21 wd_415 cs_X3_missing wd_416 wd_417 rfl ⟨⟨Nat.le_of_ble_eq_true rfl, Nat.le_of_ble_eq_true rfl⟩, ⟨Nat.le_of_ble_eq_true rfl, Nat.le_of_ble_eq_true rfl⟩, by simp [rf_cat, cat_i, cat_l]⟩ rfl rfl (fun n2 r1 hB => ?_)
      refine q_iconst (v := -1) dX5_of_24 (by decide) ?_
      refine q_ixor dX5_of_25 ?_
      refine q_iand dX5_of_26 ?_
      refine q_istore_n dX5_of_27 rfl (by decide) (nb_i (j := 2) rfl) ?_
      refine q_aload_n dX5_of_28 rfl rfl ?_
      refine q_static (v := va_rf (some 1011)) (fun s hK => z_M 1 (by decide) hK) dX5_of_29 wd_312 ?_
      refine q_acmp_ne (tgt := 41) hB dX5_of_32 (by decide) (fun hB => ?_) (fun hB => ?_)
      · refine q_aload_n dX5_of_41 rfl rfl ?_
        refine q_static (v := va_rf (some 1012)) (fun s hK => z_M 2 (by decide) hK) dX5_of_42 wd_314 ?_
        refine q_acmp_ne (tgt := 54) hB dX5_of_45 (by decide) (fun hB => ?_) (fun hB => ?_)
        · refine q_aload_n dX5_of_54 rfl rfl ?_
          refine q_static (v := va_rf (some 1013)) (fun s hK => z_M 3 (by decide) hK) dX5_of_55 wd_316 ?_
          refine q_acmp_ne (tgt := 69) hB dX5_of_58 (by decide) (fun hB => ?_) (fun hB => ?_)
          · refine q_aload_n dX5_of_69 rfl rfl ?_
            refine q_iload_n dX5_of_70 rfl rfl ?_
            refine q_callVI (k' := 0) (w' := 0) hB (fun b a hf => c_X3_kindsOf g l b _ _ a hf) rfl rfl dX5_of_71 wd_431 cs_X3_kindsOf wd_432 wd_433 rfl ⟨⟨Nat.le_of_ble_eq_true rfl, Nat.le_of_ble_eq_true rfl⟩, ⟨Nat.le_of_ble_eq_true rfl, Nat.le_of_ble_eq_true rfl⟩, Nat.le_of_ble_eq_true rfl⟩ rfl rfl (fun n4 r3 hB => ?_)
            exact Wq.mask [false, false, false, false] rfl (wb_X5_of_74 g l _ _ o hB)
          · refine q_aload_n dX5_of_61 rfl rfl ?_
            refine q_iload_n dX5_of_62 rfl rfl ?_
            refine q_callVI (k' := 0) (w' := 0) hB (fun b a hf => c_X3_leastOf g l b _ _ a hf) rfl rfl dX5_of_63 wd_427 cs_X3_leastOf wd_428 wd_429 rfl ⟨⟨Nat.le_of_ble_eq_true rfl, Nat.le_of_ble_eq_true rfl⟩, ⟨Nat.le_of_ble_eq_true rfl, Nat.le_of_ble_eq_true rfl⟩, Nat.le_of_ble_eq_true rfl⟩ rfl rfl (fun n6 r5 hB => ?_)
            refine q_goto (tgt := 74) dX5_of_66 (by decide) ?_
            exact Wq.mask [false, false, false, false] rfl (wb_X5_of_74 g l _ _ o hB)
        · refine q_aload_n dX5_of_48 rfl rfl ?_
          refine q_iload_n dX5_of_49 rfl rfl ?_
          refine q_callVI (k' := 0) (w' := 0) hB (fun b a hf => c_X3_mostOf g l b _ _ a hf) rfl rfl dX5_of_50 wd_423 cs_X3_mostOf wd_424 wd_425 rfl ⟨⟨Nat.le_of_ble_eq_true rfl, Nat.le_of_ble_eq_true rfl⟩, ⟨Nat.le_of_ble_eq_true rfl, Nat.le_of_ble_eq_true rfl⟩, Nat.le_of_ble_eq_true rfl⟩ rfl rfl (fun n8 r7 hB => ?_)
          exact q_iret hB dX5_of_53 rfl (by decide) (by decide)
      · refine q_aload_n dX5_of_35 rfl rfl ?_
        refine q_iload_n dX5_of_36 rfl rfl ?_
        refine q_callVI (k' := 0) (w' := 0) hB (fun b a hf => c_X3_sumOf g l b _ _ a hf) rfl rfl dX5_of_37 wd_419 cs_X3_sumOf wd_420 wd_421 rfl ⟨⟨Nat.le_of_ble_eq_true rfl, Nat.le_of_ble_eq_true rfl⟩, ⟨Nat.le_of_ble_eq_true rfl, Nat.le_of_ble_eq_true rfl⟩, Nat.le_of_ble_eq_true rfl⟩ rfl rfl (fun n10 r9 hB => ?_)
        exact q_iret hB dX5_of_40 rfl (by decide) (by decide)
    · refine q_iload_n dX5_of_14 rfl rfl ?_
      refine q_callSI (k' := 0) (w' := 0) hB (fun a hf => c_J6_bitCount_0f7a4 g l _ _ a hf) rfl dX5_of_15 wd_409 cs_J6_bitCount_0f7a4 wd_410 rfl ⟨⟨Nat.le_of_ble_eq_true rfl, Nat.le_of_ble_eq_true rfl⟩, ⟨Nat.le_of_ble_eq_true rfl, Nat.le_of_ble_eq_true rfl⟩, Nat.le_of_ble_eq_true rfl⟩ rfl rfl (fun r11 hB => ?_)
      exact q_iret hB dX5_of_18 rfl (by decide) (by decide)
  · refine q_bipush (v := -9) dX5_of_4 (by decide) ?_
    exact q_iret hB dX5_of_6 rfl (by decide) (by decide)
