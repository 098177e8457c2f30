def f_X10_plan  (a0 : Nat) (h : HS) : Option (Int32 × HS) :=
  nn (some a0) (fun n2 => gd (rk h n2 8) (bd (f_X10_readText n2 h) (fun r1 => (if r1.1 = (-9 : Int32) then nn (some a0) (fun n3 => gd (ck r1.2 n3 8) (nn (some a0) (fun n4 => gd (ck r1.2 n4 8) (hl (sI r1.2 n4 0 (hI r1.2 n3 5)) (fun h5 => nn (some a0) (fun n6 => gd (ck h5 n6 8) (nn (some a0) (fun n7 => gd (ck h5 n7 8) (hl (sI h5 n7 1 (hI h5 n6 6)) (fun h8 => nn (some a0) (fun n9 => gd (ck h8 n9 8) (nn (some a0) (fun n10 => gd (ck h8 n10 8) (hl (sI h8 n10 2 (hI h8 n9 7)) (fun h11 => nn (some a0) (fun n12 => gd (ck h11 n12 8) (nn (some a0) (fun n13 => gd (ck h11 n13 8) (hl (sI h11 n13 3 (hI h11 n12 8)) (fun h14 => nn (some a0) (fun n15 => gd (ck h14 n15 8) (nn (some a0) (fun n16 => gd (ck h14 n16 8) (hl (sI h14 n16 4 (hI h14 n15 9)) (fun h17 => nn (some a0) (fun n19 => gd (rk h17 n19 8) (bd (f_X10_findRows n19 (0 : Int32) h17) (fun r18 => nn (some a0) (fun n20 => gd (ck r18.2 n20 8) (some ((hI r18.2 n20 13), r18.2))))))))))))))))))))))))))))))) else some ((-3 : Int32), r1.2)))))
set_option maxHeartbeats 4000000 in
set_option maxRecDepth 100000 in
theorem c_X10_plan (g : GG) (l : Launch) (a0 : Nat) (h : HS) (o : Int32 × HS) (hB : f_X10_plan a0 h = some o) : Ct g l mX10_plan [va_rf (some a0)] h (QI o) := by
  refine Ct.of2 (lv0 := [some (va_rf (some a0))]) (by decide +kernel) (by simp [lg_sl, rf_cat, cat_i, cat_l]) rfl ?_
  unfold f_X10_plan at hB
  refine q_aload_n dX10_plan_0 rfl rfl ?_
  refine q_callVI (k' := 0) (w' := 0) hB (fun b a hf => c_X10_readText g l b _ a hf) rfl rfl dX10_plan_1 wd_836 cs_X10_readText wd_838 wd_19 rfl ⟨⟨Nat.le_of_ble_eq_true rfl, Nat.le_of_ble_eq_true rfl⟩, ⟨Nat.le_of_ble_eq_true rfl, Nat.le_of_ble_eq_true rfl⟩, Nat.le_of_ble_eq_true rfl⟩ rfl rfl (fun n2 r1 hB => ?_)
  refine q_bipush (v := -9) dX10_plan_4 (by decide) ?_
  refine q_icmp_eq (tgt := 12) hB dX10_plan_6 (by decide) (fun hB => ?_) (fun hB => ?_)
  · refine q_aload_n dX10_plan_12 rfl rfl ?_
    refine q_aload_n dX10_plan_13 rfl rfl ?_
    refine q_getI (j := 5) hB dX10_plan_14 fc_8 (by decide) rfl wd_734 (fun n3 hB => ?_)
    refine q_putI (j := 0) hB dX10_plan_17 fc_8 (by decide) rfl wd_729 rfl (fun n4 hB => ?_)
    refine q_nm hB (fun h5 hB => ?_)
    refine q_aload_n dX10_plan_20 rfl rfl ?_
    refine q_aload_n dX10_plan_21 rfl rfl ?_
    refine q_getI (j := 6) hB dX10_plan_22 fc_8 (by decide) rfl wd_735 (fun n6 hB => ?_)
    refine q_putI (j := 1) hB dX10_plan_25 fc_8 (by decide) rfl wd_730 rfl (fun n7 hB => ?_)
    refine q_nm hB (fun h8 hB => ?_)
    refine q_aload_n dX10_plan_28 rfl rfl ?_
    refine q_aload_n dX10_plan_29 rfl rfl ?_
    refine q_getI (j := 7) hB dX10_plan_30 fc_8 (by decide) rfl wd_736 (fun n9 hB => ?_)
    refine q_putI (j := 2) hB dX10_plan_33 fc_8 (by decide) rfl wd_731 rfl (fun n10 hB => ?_)
    refine q_nm hB (fun h11 hB => ?_)
    refine q_aload_n dX10_plan_36 rfl rfl ?_
    refine q_aload_n dX10_plan_37 rfl rfl ?_
    refine q_getI (j := 8) hB dX10_plan_38 fc_8 (by decide) rfl wd_737 (fun n12 hB => ?_)
    refine q_putI (j := 3) hB dX10_plan_41 fc_8 (by decide) rfl wd_732 rfl (fun n13 hB => ?_)
    refine q_nm hB (fun h14 hB => ?_)
    refine q_aload_n dX10_plan_44 rfl rfl ?_
    refine q_aload_n dX10_plan_45 rfl rfl ?_
    refine q_getI (j := 9) hB dX10_plan_46 fc_8 (by decide) rfl wd_738 (fun n15 hB => ?_)
    refine q_putI (j := 4) hB dX10_plan_49 fc_8 (by decide) rfl wd_733 rfl (fun n16 hB => ?_)
    refine q_nm hB (fun h17 hB => ?_)
    refine q_aload_n dX10_plan_52 rfl rfl ?_
    refine q_iconst (v := 0) dX10_plan_53 (by decide) ?_
    refine q_callVV (k' := 0) (w' := 0) hB (fun b a hf => c_X10_findRows g l b _ _ a hf) rfl rfl dX10_plan_54 wd_859 cs_X10_findRows wd_861 wd_21 rfl ⟨⟨Nat.le_of_ble_eq_true rfl, Nat.le_of_ble_eq_true rfl⟩, ⟨Nat.le_of_ble_eq_true rfl, Nat.le_of_ble_eq_true rfl⟩, Nat.le_of_ble_eq_true rfl⟩ rfl rfl (fun n19 r18 hB => ?_)
    refine q_aload_n dX10_plan_57 rfl rfl ?_
    refine q_getI (j := 13) hB dX10_plan_58 fc_8 (by decide) rfl wd_742 (fun n20 hB => ?_)
    exact q_iret hB dX10_plan_61 rfl (by decide) (by decide)
  · refine q_bipush (v := -3) dX10_plan_9 (by decide) ?_
    exact q_iret hB dX10_plan_11 rfl (by decide) (by decide)

def b_X9_word_33  (s0 : Int32) (h : HS) : Option (Int32 × HS) :=
  some (s0, h)
def b_X9_word_31  (h : HS) : Option (Int32 × HS) :=
  b_X9_word_33 (-9 : Int32) h
def f_X9_word  (a0 : Nat) (a1 : Int32) (h : HS) : Option (Int32 × HS) :=
  nn (some a0) (fun n1 => gd (ck h n1 7) (nn (hP h n1 1) (fun n2 => gd (ck h n2 4) (nn (hP h n2 2) (fun n3 => gd (isM n3) ((if a1 < 0 then b_X9_word_31 h else nn (some (n3 + 10)) (fun n5 => gd (rk h n5 22) (bd (f_J0_length_8abf5 n5 h) (fun r4 => (if r4.1 ≤ a1 then b_X9_word_31 r4.2 else nn (some (n3 + 10)) (fun n7 => gd (rk r4.2 n7 22) (bd (f_J0_charAt_5068e n7 a1 r4.2) (fun r6 => b_X9_word_33 r6.1 r6.2))))))))))))))
set_option maxHeartbeats 4000000 in
set_option maxRecDepth 100000 in
theorem wb_X9_word_33 (g : GG) (l : Launch) (s0 : Int32) (h : HS) (o : Int32 × HS) (hB : b_X9_word_33 s0 h = some o) : Wq g l mX9_word 0 0 33 [none, none, none] [.int s0] h (QI o) := by
  unfold b_X9_word_33 at hB
  exact q_iret hB dX9_word_33 rfl (by decide) (by decide)
set_option maxHeartbeats 4000000 in
set_option maxRecDepth 100000 in
theorem wb_X9_word_31 (g : GG) (l : Launch) (h : HS) (o : Int32 × HS) (hB : b_X9_word_31  h = some o) : Wq g l mX9_word 0 0 31 [none, none, none] [] h (QI o) := by
  unfold b_X9_word_31 at hB
  refine q_bipush (v := -9) dX9_word_31 (by decide) ?_
  exact Wq.mask [false, false, false] rfl (wb_X9_word_33 g l _ _ o hB)
set_option maxHeartbeats 4000000 in
set_option maxRecDepth 100000 in
theorem c_X9_word (g : GG) (l : Launch) (a0 : Nat) (a1 : Int32) (h : HS) (o : Int32 × HS) (hB : f_X9_word a0 a1 h = some o) : Ct g l mX9_word [va_rf (some a0), .int a1] h (QI o) := by
  refine Ct.of2 (lv0 := [some (va_rf (some a0)), some (.int a1), none]) (by decide +kernel) (by simp [lg_sl, rf_cat, cat_i, cat_l]) rfl ?_
  unfold f_X9_word at hB
  refine q_aload_n dX9_word_0 rfl rfl ?_
  refine q_getP (j := 1) hB dX9_word_1 fc_7 (by decide) rfl wd_241 (fun n1 hB => ?_)
  refine q_getP (j := 2) hB dX9_word_4 fc_4 (by decide) rfl wd_111 (fun n2 hB => ?_)
  refine q_getW hB dX9_word_7 wd_1091 (fun n3 hB => ?_)
  refine q_astore_n dX9_word_10 rfl (by decide) (nb_i (j := 1) rfl) ?_
  refine q_iload_n dX9_word_11 rfl rfl ?_
  refine q_if_lt (tgt := 31) hB dX9_word_12 (by decide) (fun hB => ?_) (fun hB => ?_)
  · exact Wq.mask [false, false, false] rfl (wb_X9_word_31 g l _ o hB)
  · refine q_iload_n dX9_word_15 rfl rfl ?_
    refine q_aload_n dX9_word_16 rfl rfl ?_
    refine q_callVI (k' := 0) (w' := 0) hB (fun b a hf => c_J0_length_8abf5 g l b _ a hf) rfl rfl dX9_word_17 wd_453 cs_J0_length_8abf5 wd_325 wd_326 rfl ⟨⟨Nat.le_of_ble_eq_true rfl, Nat.le_of_ble_eq_true rfl⟩, ⟨Nat.le_of_ble_eq_true rfl, Nat.le_of_ble_eq_true rfl⟩, by simp [rf_cat, cat_i, cat_l]⟩ rfl rfl (fun n5 r4 hB => ?_)
    refine q_icmp_ge (tgt := 31) hB dX9_word_20 (by decide) (fun hB => ?_) (fun hB => ?_)
    · exact Wq.mask [false, false, false] rfl (wb_X9_word_31 g l _ o hB)
    · refine q_aload_n dX9_word_23 rfl rfl ?_
      refine q_iload_n dX9_word_24 rfl rfl ?_
      refine q_callVI (k' := 0) (w' := 0) hB (fun b a hf => c_J0_charAt_5068e g l b _ _ a hf) rfl rfl dX9_word_25 wd_454 cs_J0_charAt_5068e wd_335 wd_336 rfl ⟨⟨Nat.le_of_ble_eq_true rfl, Nat.le_of_ble_eq_true rfl⟩, ⟨Nat.le_of_ble_eq_true rfl, Nat.le_of_ble_eq_true rfl⟩, Nat.le_of_ble_eq_true rfl⟩ rfl rfl (fun n7 r6 hB => ?_)
      refine q_goto (tgt := 33) dX9_word_28 (by decide) ?_
      exact Wq.mask [false, false, false] rfl (wb_X9_word_33 g l _ _ o hB)

def b_X10_word_25  (s0 : Int32) (h : HS) : Option (Int32 × HS) :=
  some (s0, h)
def f_X10_word  (a0 : Nat) (a1 : Int32) (h : HS) : Option (Int32 × HS) :=
  bd (f_X10_in a1.toInt64 (0 : Int64) (9 : Int64) h) (fun r1 => (if r1.1 = 0 then b_X10_word_25 (-9 : Int32) r1.2 else nn (some a0) (fun n2 => gd (ck r1.2 n2 8) (bd (f_X10_letterOf (hI r1.2 n2 2) a1 r1.2) (fun r3 => b_X10_word_25 r3.1 r3.2)))))
set_option maxHeartbeats 4000000 in
set_option maxRecDepth 100000 in
theorem wb_X10_word_25 (g : GG) (l : Launch) (s0 : Int32) (h : HS) (o : Int32 × HS) (hB : b_X10_word_25 s0 h = some o) : Wq g l mX10_word 0 0 25 [none, none] [.int s0] h (QI o) := by
  unfold b_X10_word_25 at hB
  exact q_iret hB dX10_word_25 rfl (by decide) (by decide)
set_option maxHeartbeats 4000000 in
set_option maxRecDepth 100000 in
theorem c_X10_word (g : GG) (l : Launch) (a0 : Nat) (a1 : Int32) (h : HS) (o : Int32 × HS) (hB : f_X10_word a0 a1 h = some o) : Ct g l mX10_word [va_rf (some a0), .int a1] h (QI o) := by
  refine Ct.of2 (lv0 := [some (va_rf (some a0)), some (.int a1)]) (by decide +kernel) (by simp [lg_sl, rf_cat, cat_i, cat_l]) rfl ?_
  unfold f_X10_word at hB
  refine q_iload_n dX10_word_0 rfl rfl ?_
  refine q_i2l dX10_word_1 ?_
  refine q_lconst (v := 0) dX10_word_2 (by decide) ?_
  refine q_ldc2 dX10_word_3 wd_902 ?_
  refine q_callSI (k' := 0) (w' := 0) hB (fun a hf => c_X10_in g l _ _ _ _ a hf) rfl dX10_word_6 wd_825 cs_X10_in wd_826 rfl ⟨⟨Nat.le_of_ble_eq_true rfl, Nat.le_of_ble_eq_true rfl⟩, ⟨Nat.le_of_ble_eq_true rfl, Nat.le_of_ble_eq_true rfl⟩, Nat.le_of_ble_eq_true rfl⟩ rfl rfl (fun r1 hB => ?_)
  refine q_if_eq (tgt := 23) hB dX10_word_9 (by decide) (fun hB => ?_) (fun hB => ?_)
  · refine q_bipush (v := -9) dX10_word_23 (by decide) ?_
    exact Wq.mask [false, false] rfl (wb_X10_word_25 g l _ _ o hB)
  · refine q_aload_n dX10_word_12 rfl rfl ?_
    refine q_getI (j := 2) hB dX10_word_13 fc_8 (by decide) rfl wd_731 (fun n2 hB => ?_)
    refine q_iload_n dX10_word_16 rfl rfl ?_
    refine q_callSI (k' := 0) (w' := 0) hB (fun a hf => c_X10_letterOf g l _ _ _ a hf) rfl dX10_word_17 wd_844 cs_X10_letterOf wd_845 rfl ⟨⟨Nat.le_of_ble_eq_true rfl, Nat.le_of_ble_eq_true rfl⟩, ⟨Nat.le_of_ble_eq_true rfl, Nat.le_of_ble_eq_true rfl⟩, Nat.le_of_ble_eq_true rfl⟩ rfl rfl (fun r3 hB => ?_)
    refine q_goto (tgt := 25) dX10_word_20 (by decide) ?_
    exact Wq.mask [false, false] rfl (wb_X10_word_25 g l _ _ o hB)

def b_X9_isAmount_15  (s0 : Int32) (h : HS) : Option (Int32 × HS) :=
  gd (decide (narrow .boolean (.int s0) = .int s0)) (some (s0, h))
def b_X9_isAmount_14  (h : HS) : Option (Int32 × HS) :=
  b_X9_isAmount_15 (0 : Int32) h
def f_X9_isAmount  (a0 : Int32) (h : HS) : Option (Int32 × HS) :=
  (if a0 < 0 then b_X9_isAmount_14 h else (if (100 : Int32) < a0 then b_X9_isAmount_14 h else b_X9_isAmount_15 (1 : Int32) h))
set_option maxHeartbeats 4000000 in
set_option maxRecDepth 100000 in
theorem wb_X9_isAmount_15 (g : GG) (l : Launch) (s0 : Int32) (h : HS) (o : Int32 × HS) (hB : b_X9_isAmount_15 s0 h = some o) : Wq g l mX9_isAmount 0 0 15 [none] [.int s0] h (QI o) := by
  unfold b_X9_isAmount_15 at hB
  exact q_zret hB dX9_isAmount_15 rfl (by decide) (by decide)
set_option maxHeartbeats 4000000 in
set_option maxRecDepth 100000 in
theorem wb_X9_isAmount_14 (g : GG) (l : Launch) (h : HS) (o : Int32 × HS) (hB : b_X9_isAmount_14  h = some o) : Wq g l mX9_isAmount 0 0 14 [none] [] h (QI o) := by
  unfold b_X9_isAmount_14 at hB
  refine q_iconst (v := 0) dX9_isAmount_14 (by decide) ?_
  exact Wq.mask [false] rfl (wb_X9_isAmount_15 g l _ _ o hB)
set_option maxHeartbeats 4000000 in
set_option maxRecDepth 100000 in
theorem c_X9_isAmount (g : GG) (l : Launch) (a0 : Int32) (h : HS) (o : Int32 × HS) (hB : f_X9_isAmount a0 h = some o) : Ct g l mX9_isAmount [.int a0] h (QI o) := by
  refine Ct.of2 (lv0 := [some (.int a0)]) (by decide +kernel) (by simp [lg_sl, rf_cat, cat_i, cat_l]) rfl ?_
  unfold f_X9_isAmount at hB
  refine q_iload_n dX9_isAmount_0 rfl rfl ?_
  refine q_if_lt (tgt := 14) hB dX9_isAmount_1 (by decide) (fun hB => ?_) (fun hB => ?_)
  · exact Wq.mask [false] rfl (wb_X9_isAmount_14 g l _ o hB)
  · refine q_iload_n dX9_isAmount_4 rfl rfl ?_
    refine q_bipush (v := 100) dX9_isAmount_5 (by decide) ?_
    refine q_icmp_gt (tgt := 14) hB dX9_isAmount_7 (by decide) (fun hB => ?_) (fun hB => ?_)
    · exact Wq.mask [false] rfl (wb_X9_isAmount_14 g l _ o hB)
    · refine q_iconst (v := 1) dX9_isAmount_10 (by decide) ?_
      refine q_goto (tgt := 15) dX9_isAmount_11 (by decide) ?_
      exact Wq.mask [false] rfl (wb_X9_isAmount_15 g l _ _ o hB)

def b_X9_isEntry_30  (s0 : Int32) (h : HS) : Option (Int32 × HS) :=
  gd (decide (narrow .boolean (.int s0) = .int s0)) (some (s0, h))
def b_X9_isEntry_29  (h : HS) : Option (Int32 × HS) :=
  b_X9_isEntry_30 (0 : Int32) h
def f_X9_isEntry  (a0 : Int32) (a1 : Int32) (a2 : Int32) (h : HS) : Option (Int32 × HS) :=
  (if a0 < 0 then b_X9_isEntry_29 h else (if (4 : Int32) ≤ a0 then b_X9_isEntry_29 h else (if a1 < 0 then b_X9_isEntry_29 h else (if (5 : Int32) ≤ a1 then b_X9_isEntry_29 h else bd (f_X9_isAmount a2 h) (fun r1 => (if r1.1 = 0 then b_X9_isEntry_29 r1.2 else b_X9_isEntry_30 (1 : Int32) r1.2))))))
set_option maxHeartbeats 4000000 in
set_option maxRecDepth 100000 in
theorem wb_X9_isEntry_30 (g : GG) (l : Launch) (s0 : Int32) (h : HS) (o : Int32 × HS) (hB : b_X9_isEntry_30 s0 h = some o) : Wq g l mX9_isEntry 0 0 30 [none, none, none] [.int s0] h (QI o) := by
  unfold b_X9_isEntry_30 at hB
  exact q_zret hB dX9_isEntry_30 rfl (by decide) (by decide)
set_option maxHeartbeats 4000000 in
set_option maxRecDepth 100000 in
theorem wb_X9_isEntry_29 (g : GG) (l : Launch) (h : HS) (o : Int32 × HS) (hB : b_X9_isEntry_29  h = some o) : Wq g l mX9_isEntry 0 0 29 [none, none, none] [] h (QI o) := by
  unfold b_X9_isEntry_29 at hB
  refine q_iconst (v := 0) dX9_isEntry_29 (by decide) ?_
  exact Wq.mask [false, false, false] rfl (wb_X9_isEntry_30 g l _ _ o hB)
set_option maxHeartbeats 4000000 in
set_option maxRecDepth 100000 in
theorem c_X9_isEntry (g : GG) (l : Launch) (a0 : Int32) (a1 : Int32) (a2 : Int32) (h : HS) (o : Int32 × HS) (hB : f_X9_isEntry a0 a1 a2 h = some o) : Ct g l mX9_isEntry [.int a0, .int a1, .int a2] h (QI o) := by
  refine Ct.of2 (lv0 := [some (.int a0), some (.int a1), some (.int a2)]) (by decide +kernel) (by simp [lg_sl, rf_cat, cat_i, cat_l]) rfl ?_
  unfold f_X9_isEntry at hB
  refine q_iload_n dX9_isEntry_0 rfl rfl ?_
  refine q_if_lt (tgt := 29) hB dX9_isEntry_1 (by decide) (fun hB => ?_) (fun hB => ?_)
  · exact Wq.mask [false, false, false] rfl (wb_X9_isEntry_29 g l _ o hB)
  · refine q_iload_n dX9_isEntry_4 rfl rfl ?_
    refine q_iconst (v := 4) dX9_isEntry_5 (by decide) ?_
    refine q_icmp_ge (tgt := 29) hB dX9_isEntry_6 (by decide) (fun hB => ?_) (fun hB => ?_)
    · exact Wq.mask [false, false, false] rfl (wb_X9_isEntry_29 g l _ o hB)
    · refine q_iload_n dX9_isEntry_9 rfl rfl ?_
      refine q_if_lt (tgt := 29) hB dX9_isEntry_10 (by decide) (fun hB => ?_) (fun hB => ?_)
      · exact Wq.mask [false, false, false] rfl (wb_X9_isEntry_29 g l _ o hB)
      · refine q_iload_n dX9_isEntry_13 rfl rfl ?_
        refine q_iconst (v := 5) dX9_isEntry_14 (by decide) ?_
        refine q_icmp_ge (tgt := 29) hB dX9_isEntry_15 (by decide) (fun hB => ?_) (fun hB => ?_)
        · exact Wq.mask [false, false, false] rfl (wb_X9_isEntry_29 g l _ o hB)
        · refine q_iload_n dX9_isEntry_18 rfl rfl ?_
          refine q_callSI (k' := 0) (w' := 0) hB (fun a hf => c_X9_isAmount g l _ _ a hf) rfl dX9_isEntry_19 wd_462 cs_X9_isAmount wd_463 rfl ⟨⟨Nat.le_of_ble_eq_true rfl, Nat.le_of_ble_eq_true rfl⟩, ⟨Nat.le_of_ble_eq_true rfl, Nat.le_of_ble_eq_true rfl⟩, Nat.le_of_ble_eq_true rfl⟩ rfl rfl (fun r1 hB => ?_)
          refine q_if_eq (tgt := 29) hB dX9_isEntry_22 (by decide) (fun hB => ?_) (fun hB => ?_)
          · exact Wq.mask [false, false, false] rfl (wb_X9_isEntry_29 g l _ o hB)
          · refine q_iconst (v := 1) dX9_isEntry_25 (by decide) ?_
            refine q_goto (tgt := 30) dX9_isEntry_26 (by decide) ?_
            exact Wq.mask [false, false, false] rfl (wb_X9_isEntry_30 g l _ _ o hB)

def b_X3_hasRoom_14  (s0 : Int32) (h : HS) : Option (Int32 × HS) :=
  gd (decide (narrow .boolean (.int s0) = .int s0)) (some (s0, h))
def f_X3_hasRoom  (a0 : Nat) (h : HS) : Option (Int32 × HS) :=
  nn (some a0) (fun n1 => gd (ck h n1 3) ((if (16 : Int32) ≤ (hI h n1 3) then b_X3_hasRoom_14 (0 : Int32) h else b_X3_hasRoom_14 (1 : Int32) h)))
set_option maxHeartbeats 4000000 in
set_option maxRecDepth 100000 in
theorem wb_X3_hasRoom_14 (g : GG) (l : Launch) (s0 : Int32) (h : HS) (o : Int32 × HS) (hB : b_X3_hasRoom_14 s0 h = some o) : Wq g l mX3_hasRoom 0 0 14 [none] [.int s0] h (QI o) := by
  unfold b_X3_hasRoom_14 at hB
  exact q_zret hB dX3_hasRoom_14 rfl (by decide) (by decide)
set_option maxHeartbeats 4000000 in
set_option maxRecDepth 100000 in
theorem c_X3_hasRoom (g : GG) (l : Launch) (a0 : Nat) (h : HS) (o : Int32 × HS) (hB : f_X3_hasRoom a0 h = some o) : Ct g l mX3_hasRoom [va_rf (some a0)] h (QI o) := by
  refine Ct.of2 (lv0 := [some (va_rf (some a0))]) (by decide +kernel) (by simp [lg_sl, rf_cat, cat_i, cat_l]) rfl ?_
  unfold f_X3_hasRoom at hB
  refine q_aload_n dX3_hasRoom_0 rfl rfl ?_
  refine q_getI (j := 3) hB dX3_hasRoom_1 fc_3 (by decide) rfl wd_145 (fun n1 hB => ?_)
  refine q_bipush (v := 16) dX3_hasRoom_4 (by decide) ?_
  refine q_icmp_ge (tgt := 13) hB dX3_hasRoom_6 (by decide) (fun hB => ?_) (fun hB => ?_)
  · refine q_iconst (v := 0) dX3_hasRoom_13 (by decide) ?_
    exact Wq.mask [false] rfl (wb_X3_hasRoom_14 g l _ _ o hB)
  · refine q_iconst (v := 1) dX3_hasRoom_9 (by decide) ?_
    refine q_goto (tgt := 14) dX3_hasRoom_10 (by decide) ?_
    exact Wq.mask [false] rfl (wb_X3_hasRoom_14 g l _ _ o hB)

def b_X1_next_40  (k40 : Nat → Option Nat → Int32 → HS → Option (Option Nat × HS)) (a0 : Nat) (a1 : Option Nat) (a2 : Int32) (h : HS) : Option (Option Nat × HS) :=
  (if (14 : Int32) ≤ a2 then nn (some a0) (fun n1 => gd (ck h n1 1) (nn (hP h n1 0) (fun n2 => nn a1 (fun n3 => gd (ca h n2 11 (13 : Int32) && ck h n3 0) (hl (sP h n2 (13 : Int32).toNatClampNeg (some n3)) (fun h4 => some (a1, h4))))))) else nn (some a0) (fun n5 => gd (ck h n5 1) (nn (some a0) (fun n6 => gd (ck h n6 1) (nn (hP h n6 0) (fun n7 => gd (ca h n7 11 a2) (nn (hP h n5 0) (fun n8 => nn (hP h n7 a2.toNatClampNeg) (fun n9 => gd (ca h n8 11 (a2 - (1 : Int32)) && ck h n9 0) (hl (sP h n8 (a2 - (1 : Int32)).toNatClampNeg (some n9)) (fun h10 => k40 a0 a1 (a2 + (1 : Int32)) h10)))))))))))
def l_X1_next_40  : Nat → Nat → Option Nat → Int32 → HS → Option (Option Nat × HS)
  | 0 => fun _ _ _ _ => none
  | n + 1 => b_X1_next_40 (l_X1_next_40 n)
def f_X1_next  (a0 : Nat) (h : HS) : Option (Option Nat × HS) :=
  nn (some a0) (fun n1 => gd (ck h n1 1) ((if (14 : Int32) ≤ (hI h n1 1) then nn (some a0) (fun n2 => gd (ck h n2 1) (nn (hP h n2 0) (fun n3 => gd (ca h n3 11 (0 : Int32)) (l_X1_next_40 FU a0 (hP h n3 (0 : Int32).toNatClampNeg) (1 : Int32) h)))) else nn (some a0) (fun n4 => gd (ck h n4 1) (nn (some a0) (fun n5 => gd (ck h n5 1) (hl (sI h n5 1 ((hI h n4 1) + (1 : Int32))) (fun h6 => nn (some a0) (fun n7 => gd (ck h6 n7 1) (nn (some a0) (fun n8 => gd (ck h6 n8 1) (nn (hP h6 n7 0) (fun n9 => gd (ca h6 n9 11 ((hI h6 n8 1) - (1 : Int32))) (some ((hP h6 n9 ((hI h6 n8 1) - (1 : Int32)).toNatClampNeg), h6)))))))))))))))
set_option maxHeartbeats 4000000 in
set_option maxRecDepth 100000 in
theorem wb_X1_next_40 (g : GG) (l : Launch) (k40 : Nat → Option Nat → Int32 → HS → Option (Option Nat × HS)) (a0 : Nat) (a1 : Option Nat) (a2 : Int32) (h : HS) (o : Option Nat × HS) (hB : b_X1_next_40 k40 a0 a1 a2 h = some o) (hk40 : ∀ (a0 : Nat) (a1 : Option Nat) (a2 : Int32) (h : HS), k40 a0 a1 a2 h = some o → Wq g l mX1_next 0 0 40 [some (va_rf (some a0)), some (va_rf a1), some (.int a2)] [] h (QP o)) : Wq g l mX1_next 0 0 40 [some (va_rf (some a0)), some (va_rf a1), some (.int a2)] [] h (QP o) := by
  unfold b_X1_next_40 at hB
  refine q_iload_n dX1_next_40 rfl rfl ?_
  refine q_bipush (v := 14) dX1_next_41 (by decide) ?_
  refine q_icmp_ge (tgt := 66) hB dX1_next_43 (by decide) (fun hB => ?_) (fun hB => ?_)
  · refine q_aload_n dX1_next_66 rfl rfl ?_
    refine q_getP (j := 0) hB dX1_next_67 fc_1 (by decide) rfl wd_186 (fun n1 hB => ?_)
    refine q_bipush (v := 13) dX1_next_70 (by decide) ?_
    refine q_aload_n dX1_next_72 rfl rfl ?_
    refine q_aastA hB dX1_next_73 fc_0 (fun n2 n3 hB => ?_)
    refine q_nm hB (fun h4 hB => ?_)
    refine q_aload_n dX1_next_74 rfl rfl ?_
    exact q_aret hB dX1_next_75 rfl (by decide) (by decide)
  · refine q_aload_n dX1_next_46 rfl rfl ?_
    refine q_getP (j := 0) hB dX1_next_47 fc_1 (by decide) rfl wd_186 (fun n5 hB => ?_)
    refine q_iload_n dX1_next_50 rfl rfl ?_
    refine q_iconst (v := 1) dX1_next_51 (by decide) ?_
    refine q_isub dX1_next_52 ?_
    refine q_aload_n dX1_next_53 rfl rfl ?_
    refine q_getP (j := 0) hB dX1_next_54 fc_1 (by decide) rfl wd_186 (fun n6 hB => ?_)
    refine q_iload_n dX1_next_57 rfl rfl ?_
    refine q_aaldA hB dX1_next_58 (fun n7 hB => ?_)
    refine q_aastA hB dX1_next_59 fc_0 (fun n8 n9 hB => ?_)
    refine q_nm hB (fun h10 hB => ?_)
    refine q_iinc dX1_next_60 rfl (show _ = (a2 + (1 : Int32)) from rfl) (by decide) (nb_r (j := 1) rfl) ?_
    refine q_goto (tgt := 40) dX1_next_63 (by decide) ?_
    exact Wq.mask [true, true, true] rfl (hk40 _ _ _ _ hB)
set_option maxHeartbeats 4000000 in
theorem wl_X1_next_40 (g : GG) (l : Launch) (o : Option Nat × HS) : ∀ (n : Nat) (a0 : Nat) (a1 : Option Nat) (a2 : Int32) (h : HS), l_X1_next_40 n a0 a1 a2 h = some o → Wq g l mX1_next 0 0 40 [some (va_rf (some a0)), some (va_rf a1), some (.int a2)] [] h (QP o) := by
  intro n
  induction n with
  | zero =>
    intro a0 a1 a2  h hB
    have q : (none : Option (Option Nat × HS)) = some o := hB
    cases q
  | succ n ih =>
    intro a0 a1 a2  h hB
    exact wb_X1_next_40 g l (l_X1_next_40 n) a0 a1 a2 h o hB ih
set_option maxHeartbeats 4000000 in
set_option maxRecDepth 100000 in
theorem c_X1_next (g : GG) (l : Launch) (a0 : Nat) (h : HS) (o : Option Nat × HS) (hB : f_X1_next a0 h = some o) : Ct g l mX1_next [va_rf (some a0)] h (QP o) := by
  refine Ct.of2 (lv0 := [some (va_rf (some a0)), none, none]) (by decide +kernel) (by simp [lg_sl, rf_cat, cat_i, cat_l]) rfl ?_
  unfold f_X1_next at hB
  refine q_aload_n dX1_next_0 rfl rfl ?_
  refine q_getI (j := 1) hB dX1_next_1 fc_1 (by decide) rfl wd_187 (fun n1 hB => ?_)
  refine q_bipush (v := 14) dX1_next_4 (by decide) ?_
  refine q_icmp_ge (tgt := 31) hB dX1_next_6 (by decide) (fun hB => ?_) (fun hB => ?_)
  · refine q_aload_n dX1_next_31 rfl rfl ?_
    refine q_getP (j := 0) hB dX1_next_32 fc_1 (by decide) rfl wd_186 (fun n2 hB => ?_)
    refine q_iconst (v := 0) dX1_next_35 (by decide) ?_
    refine q_aaldA hB dX1_next_36 (fun n3 hB => ?_)
    refine q_astore_n dX1_next_37 rfl (by decide) (nb_r (j := 0) rfl) ?_
    refine q_iconst (v := 1) dX1_next_38 (by decide) ?_
    refine q_istore_n dX1_next_39 rfl (by decide) (nb_r (j := 1) rfl) ?_
    exact Wq.mask [true, true, true] rfl (wl_X1_next_40 g l o FU _ _ _ _ hB)
  · refine q_aload_n dX1_next_9 rfl rfl ?_
    refine q_dup dX1_next_10 (rf_cat _) ?_
    refine q_getI (j := 1) hB dX1_next_11 fc_1 (by decide) rfl wd_187 (fun n4 hB => ?_)
    refine q_iconst (v := 1) dX1_next_14 (by decide) ?_
    refine q_iadd dX1_next_15 ?_
    refine q_putI (j := 1) hB dX1_next_16 fc_1 (by decide) rfl wd_187 rfl (fun n5 hB => ?_)
    refine q_nm hB (fun h6 hB => ?_)
    refine q_aload_n dX1_next_19 rfl rfl ?_
    refine q_getP (j := 0) hB dX1_next_20 fc_1 (by decide) rfl wd_186 (fun n7 hB => ?_)
    refine q_aload_n dX1_next_23 rfl rfl ?_
    refine q_getI (j := 1) hB dX1_next_24 fc_1 (by decide) rfl wd_187 (fun n8 hB => ?_)
    refine q_iconst (v := 1) dX1_next_27 (by decide) ?_
    refine q_isub dX1_next_28 ?_
    refine q_aaldA hB dX1_next_29 (fun n9 hB => ?_)
    exact q_aret hB dX1_next_30 rfl (by decide) (by decide)

def f_X0_tell  (a0 : Nat) (a1 : Int32) (a2 : Int32) (a3 : Int32) (a4 : Int32) (a5 : Int32) (h : HS) : Option (Unit × HS) :=
  nn (some a0) (fun n1 => gd (ck h n1 0) (hl (sI h n1 0 a1) (fun h2 => nn (some a0) (fun n3 => gd (ck h2 n3 0) (hl (sI h2 n3 1 a2) (fun h4 => nn (some a0) (fun n5 => gd (ck h4 n5 0) (hl (sI h4 n5 2 a3) (fun h6 => nn (some a0) (fun n7 => gd (ck h6 n7 0) (hl (sI h6 n7 3 a4) (fun h8 => nn (some a0) (fun n9 => gd (ck h8 n9 0) (hl (sI h8 n9 4 a5) (fun h10 => some ((), h10))))))))))))))))
set_option maxHeartbeats 4000000 in
set_option maxRecDepth 100000 in
theorem c_X0_tell (g : GG) (l : Launch) (a0 : Nat) (a1 : Int32) (a2 : Int32) (a3 : Int32) (a4 : Int32) (a5 : Int32) (h : HS) (o : Unit × HS) (hB : f_X0_tell a0 a1 a2 a3 a4 a5 h = some o) : Ct g l mX0_tell [va_rf (some a0), .int a1, .int a2, .int a3, .int a4, .int a5] h (QV o) := by
  refine Ct.of2 (lv0 := [some (va_rf (some a0)), some (.int a1), some (.int a2), some (.int a3), some (.int a4), some (.int a5)]) (by decide +kernel) (by simp [lg_sl, rf_cat, cat_i, cat_l]) rfl ?_
  unfold f_X0_tell at hB
  refine q_aload_n dX0_tell_0 rfl rfl ?_
  refine q_iload_n dX0_tell_1 rfl rfl ?_
  refine q_putI (j := 0) hB dX0_tell_2 fc_0 (by decide) rfl wd_170 rfl (fun n1 hB => ?_)
  refine q_nm hB (fun h2 hB => ?_)
  refine q_aload_n dX0_tell_5 rfl rfl ?_
  refine q_iload_n dX0_tell_6 rfl rfl ?_
  refine q_putI (j := 1) hB dX0_tell_7 fc_0 (by decide) rfl wd_171 rfl (fun n3 hB => ?_)
  refine q_nm hB (fun h4 hB => ?_)
  refine q_aload_n dX0_tell_10 rfl rfl ?_
  refine q_iload_n dX0_tell_11 rfl rfl ?_
  refine q_putI (j := 2) hB dX0_tell_12 fc_0 (by decide) rfl wd_172 rfl (fun n5 hB => ?_)
  refine q_nm hB (fun h6 hB => ?_)
  refine q_aload_n dX0_tell_15 rfl rfl ?_
  refine q_iload dX0_tell_16 rfl ?_
  refine q_putI (j := 3) hB dX0_tell_18 fc_0 (by decide) rfl wd_173 rfl (fun n7 hB => ?_)
  refine q_nm hB (fun h8 hB => ?_)
  refine q_aload_n dX0_tell_21 rfl rfl ?_
  refine q_iload dX0_tell_22 rfl ?_
  refine q_putI (j := 4) hB dX0_tell_24 fc_0 (by decide) rfl wd_174 rfl (fun n9 hB => ?_)
  refine q_nm hB (fun h10 hB => ?_)
  exact q_vret hB dX0_tell_27 rfl (by decide) (by decide)

def f_X3_shift  (a0 : Nat) (a1 : Int32) (a2 : Int32) (a3 : Int32) (h : HS) : Option (Unit × HS) :=
  nn (some a0) (fun n1 => gd (ck h n1 3) (nn (some a0) (fun n2 => gd (ck h n2 3) (nn (hP h n1 0) (fun n3 => nn (hP h n2 0) (fun n4 => gd (cb h n3 n4 a1 a2 a3) (hl (sR h n4 (va_cpy (hI h n3) (hI h n4) a1.toNatClampNeg a2.toNatClampNeg a3.toNatClampNeg)) (fun h5 => nn (some a0) (fun n6 => gd (ck h5 n6 3) (nn (some a0) (fun n7 => gd (ck h5 n7 3) (nn (hP h5 n6 1) (fun n8 => nn (hP h5 n7 1) (fun n9 => gd (cb h5 n8 n9 a1 a2 a3) (hl (sR h5 n9 (va_cpy (hI h5 n8) (hI h5 n9) a1.toNatClampNeg a2.toNatClampNeg a3.toNatClampNeg)) (fun h10 => nn (some a0) (fun n11 => gd (ck h10 n11 3) (nn (some a0) (fun n12 => gd (ck h10 n12 3) (nn (hP h10 n11 2) (fun n13 => nn (hP h10 n12 2) (fun n14 => gd (cb h10 n13 n14 a1 a2 a3) (hl (sR h10 n14 (va_cpy (hI h10 n13) (hI h10 n14) a1.toNatClampNeg a2.toNatClampNeg a3.toNatClampNeg)) (fun h15 => some ((), h15)))))))))))))))))))))))))
set_option maxHeartbeats 4000000 in
set_option maxRecDepth 100000 in
theorem c_X3_shift (g : GG) (l : Launch) (a0 : Nat) (a1 : Int32) (a2 : Int32) (a3 : Int32) (h : HS) (o : Unit × HS) (hB : f_X3_shift a0 a1 a2 a3 h = some o) : Ct g l mX3_shift [va_rf (some a0), .int a1, .int a2, .int a3] h (QV o) := by
  refine Ct.of2 (lv0 := [some (va_rf (some a0)), some (.int a1), some (.int a2), some (.int a3)]) (by decide +kernel) (by simp [lg_sl, rf_cat, cat_i, cat_l]) rfl ?_
  unfold f_X3_shift at hB
  refine q_aload_n dX3_shift_0 rfl rfl ?_
  refine q_getP (j := 0) hB dX3_shift_1 fc_3 (by decide) rfl wd_135 (fun n1 hB => ?_)
  refine q_iload_n dX3_shift_4 rfl rfl ?_
  refine q_aload_n dX3_shift_5 rfl rfl ?_
  refine q_getP (j := 0) hB dX3_shift_6 fc_3 (by decide) rfl wd_135 (fun n2 hB => ?_)
  refine q_iload_n dX3_shift_9 rfl rfl ?_
  refine q_iload_n dX3_shift_10 rfl rfl ?_
  refine q_copy hB dX3_shift_11 wd_490 wd_492 wd_491 wd_67 (by decide) (Nat.le_of_ble_eq_true rfl) (fun n3 n4 hB => ?_)
  refine q_nm hB (fun h5 hB => ?_)
  refine q_aload_n dX3_shift_14 rfl rfl ?_
  refine q_getP (j := 1) hB dX3_shift_15 fc_3 (by decide) rfl wd_138 (fun n6 hB => ?_)
  refine q_iload_n dX3_shift_18 rfl rfl ?_
  refine q_aload_n dX3_shift_19 rfl rfl ?_
  refine q_getP (j := 1) hB dX3_shift_20 fc_3 (by decide) rfl wd_138 (fun n7 hB => ?_)
  refine q_iload_n dX3_shift_23 rfl rfl ?_
  refine q_iload_n dX3_shift_24 rfl rfl ?_
  refine q_copy hB dX3_shift_25 wd_490 wd_492 wd_491 wd_67 (by decide) (Nat.le_of_ble_eq_true rfl) (fun n8 n9 hB => ?_)
  refine q_nm hB (fun h10 hB => ?_)
  refine q_aload_n dX3_shift_28 rfl rfl ?_
  refine q_getP (j := 2) hB dX3_shift_29 fc_3 (by decide) rfl wd_141 (fun n11 hB => ?_)
  refine q_iload_n dX3_shift_32 rfl rfl ?_
  refine q_aload_n dX3_shift_33 rfl rfl ?_
  refine q_getP (j := 2) hB dX3_shift_34 fc_3 (by decide) rfl wd_141 (fun n12 hB => ?_)
  refine q_iload_n dX3_shift_37 rfl rfl ?_
  refine q_iload_n dX3_shift_38 rfl rfl ?_
  refine q_copy hB dX3_shift_39 wd_490 wd_492 wd_491 wd_67 (by decide) (Nat.le_of_ble_eq_true rfl) (fun n13 n14 hB => ?_)
  refine q_nm hB (fun h15 hB => ?_)
  exact q_vret hB dX3_shift_42 rfl (by decide) (by decide)

def b_X3_insert_19  (h : HS) : Option (Unit × HS) :=
  some ((), h)
def f_X3_insert  (a0 : Nat) (a1 : Int32) (a2 : Int32) (a3 : Int32) (a4 : Int32) (h : HS) : Option (Unit × HS) :=
  nn (some a0) (fun n2 => gd (rk h n2 3) (bd (f_X3_hasRoom n2 h) (fun r1 => (if r1.1 = 0 then b_X3_insert_19 r1.2 else (if a1 < 0 then b_X3_insert_19 r1.2 else nn (some a0) (fun n3 => gd (ck r1.2 n3 3) ((if a1 ≤ (hI r1.2 n3 3) then nn (some a0) (fun n4 => gd (ck r1.2 n4 3) (nn (some a0) (fun n6 => gd (rk r1.2 n6 3) (bd (f_X3_shift n6 a1 (a1 + (1 : Int32)) ((hI r1.2 n4 3) - a1) r1.2) (fun r5 => nn (some a0) (fun n7 => gd (ck r5.2 n7 3) (nn (hP r5.2 n7 0) (fun n8 => gd (ca r5.2 n8 9 a1) (hl (sI r5.2 n8 a1.toNatClampNeg a2) (fun h9 => nn (some a0) (fun n10 => gd (ck h9 n10 3) (nn (hP h9 n10 1) (fun n11 => gd (ca h9 n11 9 a1) (hl (sI h9 n11 a1.toNatClampNeg a3) (fun h12 => nn (some a0) (fun n13 => gd (ck h12 n13 3) (nn (hP h12 n13 2) (fun n14 => gd (ca h12 n14 9 a1) (hl (sI h12 n14 a1.toNatClampNeg a4) (fun h15 => nn (some a0) (fun n16 => gd (ck h15 n16 3) (nn (some a0) (fun n17 => gd (ck h15 n17 3) (hl (sI h15 n17 3 ((hI h15 n16 3) + (1 : Int32))) (fun h18 => some ((), h18)))))))))))))))))))))))))) else b_X3_insert_19 r1.2))))))))
set_option maxHeartbeats 4000000 in
set_option maxRecDepth 100000 in
theorem wb_X3_insert_19 (g : GG) (l : Launch) (h : HS) (o : Unit × HS) (hB : b_X3_insert_19  h = some o) : Wq g l mX3_insert 0 0 19 [none, none, none, none, none] [] h (QV o) := by
  unfold b_X3_insert_19 at hB
  exact q_vret hB dX3_insert_19 rfl (by decide) (by decide)
set_option maxHeartbeats 4000000 in
set_option maxRecDepth 100000 in
theorem c_X3_insert (g : GG) (l : Launch) (a0 : Nat) (a1 : Int32) (a2 : Int32) (a3 : Int32) (a4 : Int32) (h : HS) (o : Unit × HS) (hB : f_X3_insert a0 a1 a2 a3 a4 h = some o) : Ct g l mX3_insert [va_rf (some a0), .int a1, .int a2, .int a3, .int a4] h (QV o) := by
  refine Ct.of2 (lv0 := [some (va_rf (some a0)), some (.int a1), some (.int a2), some (.int a3), some (.int a4)]) (by decide +kernel) (by simp [lg_sl, rf_cat, cat_i, cat_l]) rfl ?_
  unfold f_X3_insert at hB
  refine q_aload_n dX3_insert_0 rfl rfl ?_
  refine q_callVI (k' := 0) (w' := 0) hB (fun b a hf => c_X3_hasRoom g l b _ a hf) rfl rfl dX3_insert_1 wd_485 cs_X3_hasRoom wd_466 wd_467 rfl ⟨⟨Nat.le_of_ble_eq_true rfl, Nat.le_of_ble_eq_true rfl⟩, ⟨Nat.le_of_ble_eq_true rfl, Nat.le_of_ble_eq_true rfl⟩, Nat.le_of_ble_eq_true rfl⟩ rfl rfl (fun n2 r1 hB => ?_)
  refine q_if_eq (tgt := 19) hB dX3_insert_4 (by decide) (fun hB => ?_) (fun hB => ?_)
  · exact Wq.mask [false, false, false, false, false] rfl (wb_X3_insert_19 g l _ o hB)
  · refine q_iload_n dX3_insert_7 rfl rfl ?_
    refine q_if_lt (tgt := 19) hB dX3_insert_8 (by decide) (fun hB => ?_) (fun hB => ?_)
    · exact Wq.mask [false, false, false, false, false] rfl (wb_X3_insert_19 g l _ o hB)
    · refine q_iload_n dX3_insert_11 rfl rfl ?_
      refine q_aload_n dX3_insert_12 rfl rfl ?_
      refine q_getI (j := 3) hB dX3_insert_13 fc_3 (by decide) rfl wd_145 (fun n3 hB => ?_)
      refine q_icmp_le (tgt := 20) hB dX3_insert_16 (by decide) (fun hB => ?_) (fun hB => ?_)
      · refine q_aload_n dX3_insert_20 rfl rfl ?_
        refine q_iload_n dX3_insert_21 rfl rfl ?_
        refine q_iload_n dX3_insert_22 rfl rfl ?_
        refine q_iconst (v := 1) dX3_insert_23 (by decide) ?_
        refine q_iadd dX3_insert_24 ?_
        refine q_aload_n dX3_insert_25 rfl rfl ?_
        refine q_getI (j := 3) hB dX3_insert_26 fc_3 (by decide) rfl wd_145 (fun n4 hB => ?_)
        refine q_iload_n dX3_insert_29 rfl rfl ?_
        refine q_isub dX3_insert_30 ?_
        refine q_callVV (k' := 0) (w' := 0) hB (fun b a hf => c_X3_shift g l b _ _ _ _ a hf) rfl rfl dX3_insert_31 wd_486 cs_X3_shift wd_488 wd_6 rfl ⟨⟨Nat.le_of_ble_eq_true rfl, Nat.le_of_ble_eq_true rfl⟩, ⟨Nat.le_of_ble_eq_true rfl, Nat.le_of_ble_eq_true rfl⟩, Nat.le_of_ble_eq_true rfl⟩ rfl rfl (fun n6 r5 hB => ?_)
        refine q_aload_n dX3_insert_34 rfl rfl ?_
        refine q_getP (j := 0) hB dX3_insert_35 fc_3 (by decide) rfl wd_135 (fun n7 hB => ?_)
        refine q_iload_n dX3_insert_38 rfl rfl ?_
        refine q_iload_n dX3_insert_39 rfl rfl ?_
        refine q_iast hB dX3_insert_40 (fun n8 hB => ?_)
        refine q_nm hB (fun h9 hB => ?_)
        refine q_aload_n dX3_insert_41 rfl rfl ?_
        refine q_getP (j := 1) hB dX3_insert_42 fc_3 (by decide) rfl wd_138 (fun n10 hB => ?_)
        refine q_iload_n dX3_insert_45 rfl rfl ?_
        refine q_iload_n dX3_insert_46 rfl rfl ?_
        refine q_iast hB dX3_insert_47 (fun n11 hB => ?_)
        refine q_nm hB (fun h12 hB => ?_)
        refine q_aload_n dX3_insert_48 rfl rfl ?_
        refine q_getP (j := 2) hB dX3_insert_49 fc_3 (by decide) rfl wd_141 (fun n13 hB => ?_)
        refine q_iload_n dX3_insert_52 rfl rfl ?_
        refine q_iload dX3_insert_53 rfl ?_
        refine q_iast hB dX3_insert_55 (fun n14 hB => ?_)
        refine q_nm hB (fun h15 hB => ?_)
        refine q_aload_n dX3_insert_56 rfl rfl ?_
        refine q_dup dX3_insert_57 (rf_cat _) ?_
        refine q_getI (j := 3) hB dX3_insert_58 fc_3 (by decide) rfl wd_145 (fun n16 hB => ?_)
        refine q_iconst (v := 1) dX3_insert_61 (by decide) ?_
        refine q_iadd dX3_insert_62 ?_
        refine q_putI (j := 3) hB dX3_insert_63 fc_3 (by decide) rfl wd_145 rfl (fun n17 hB => ?_)
        refine q_nm hB (fun h18 hB => ?_)
        exact q_vret hB dX3_insert_66 rfl (by decide) (by decide)
      · exact Wq.mask [false, false, false, false, false] rfl (wb_X3_insert_19 g l _ o hB)

def f_X3_append  (a0 : Nat) (a1 : Int32) (a2 : Int32) (a3 : Int32) (h : HS) : Option (Unit × HS) :=
  nn (some a0) (fun n1 => gd (ck h n1 3) (nn (some a0) (fun n3 => gd (rk h n3 3) (bd (f_X3_insert n3 (hI h n1 3) a1 a2 a3 h) (fun r2 => some ((), r2.2))))))
set_option maxHeartbeats 4000000 in
set_option maxRecDepth 100000 in
theorem c_X3_append (g : GG) (l : Launch) (a0 : Nat) (a1 : Int32) (a2 : Int32) (a3 : Int32) (h : HS) (o : Unit × HS) (hB : f_X3_append a0 a1 a2 a3 h = some o) : Ct g l mX3_append [va_rf (some a0), .int a1, .int a2, .int a3] h (QV o) := by
  refine Ct.of2 (lv0 := [some (va_rf (some a0)), some (.int a1), some (.int a2), some (.int a3)]) (by decide +kernel) (by simp [lg_sl, rf_cat, cat_i, cat_l]) rfl ?_
  unfold f_X3_append at hB
  refine q_aload_n dX3_append_0 rfl rfl ?_
  refine q_aload_n dX3_append_1 rfl rfl ?_
  refine q_getI (j := 3) hB dX3_append_2 fc_3 (by decide) rfl wd_145 (fun n1 hB => ?_)
  refine q_iload_n dX3_append_5 rfl rfl ?_
  refine q_iload_n dX3_append_6 rfl rfl ?_
  refine q_iload_n dX3_append_7 rfl rfl ?_
  refine q_callVV (k' := 0) (w' := 0) hB (fun b a hf => c_X3_insert g l b _ _ _ _ _ a hf) rfl rfl dX3_append_8 wd_481 cs_X3_insert wd_482 wd_483 rfl ⟨⟨Nat.le_of_ble_eq_true rfl, Nat.le_of_ble_eq_true rfl⟩, ⟨Nat.le_of_ble_eq_true rfl, Nat.le_of_ble_eq_true rfl⟩, Nat.le_of_ble_eq_true rfl⟩ rfl rfl (fun n3 r2 hB => ?_)
  exact q_vret hB dX3_append_11 rfl (by decide) (by decide)

def f_X9_add  (a0 : Nat) (a1 : Int32) (a2 : Int32) (a3 : Int32) (h : HS) : Option (Int32 × HS) :=
  bd (f_X9_isEntry a1 a2 a3 h) (fun r1 => (if r1.1 = 0 then some ((-2 : Int32), r1.2) else nn (some a0) (fun n2 => gd (ck r1.2 n2 7) (nn (hP r1.2 n2 3) (fun n4 => gd (rk r1.2 n4 3) (bd (f_X3_hasRoom n4 r1.2) (fun r3 => (if r3.1 = 0 then some ((-4 : Int32), r3.2) else nn (some a0) (fun n5 => gd (ck r3.2 n5 7) (nn (hP r3.2 n5 5) (fun n7 => gd (rk r3.2 n7 1) (bd (f_X1_next n7 r3.2) (fun r6 => nn (some a0) (fun n8 => gd (ck r6.2 n8 7) (nn (hP r6.2 n8 3) (fun n9 => gd (ck r6.2 n9 3) (nn r6.1 (fun n11 => gd (rk r6.2 n11 0) (bd (f_X0_tell n11 (0 : Int32) (hI r6.2 n9 3) a1 a2 a3 r6.2) (fun r10 => nn (some a0) (fun n12 => gd (ck r10.2 n12 7) (nn (hP r10.2 n12 3) (fun n14 => gd (rk r10.2 n14 3) (bd (f_X3_append n14 a1 a2 a3 r10.2) (fun r13 => nn (some a0) (fun n15 => gd (ck r13.2 n15 7) (nn (hP r13.2 n15 3) (fun n16 => gd (ck r13.2 n16 3) (some ((hI r13.2 n16 3), r13.2))))))))))))))))))))))))))))))
set_option maxHeartbeats 4000000 in
set_option maxRecDepth 100000 in
theorem c_X9_add (g : GG) (l : Launch) (a0 : Nat) (a1 : Int32) (a2 : Int32) (a3 : Int32) (h : HS) (o : Int32 × HS) (hB : f_X9_add a0 a1 a2 a3 h = some o) : Ct g l mX9_add [va_rf (some a0), .int a1, .int a2, .int a3] h (QI o) := by
  refine Ct.of2 (lv0 := [some (va_rf (some a0)), some (.int a1), some (.int a2), some (.int a3)]) (by decide +kernel) (by simp [lg_sl, rf_cat, cat_i, cat_l]) rfl ?_
  unfold f_X9_add at hB
  refine q_iload_n dX9_add_0 rfl rfl ?_
  refine q_iload_n dX9_add_1 rfl rfl ?_
  refine q_iload_n dX9_add_2 rfl rfl ?_
  refine q_callSI (k' := 0) (w' := 0) hB (fun a hf => c_X9_isEntry g l _ _ _ _ a hf) rfl dX9_add_3 wd_459 cs_X9_isEntry wd_460 rfl ⟨⟨Nat.le_of_ble_eq_true rfl, Nat.le_of_ble_eq_true rfl⟩, ⟨Nat.le_of_ble_eq_true rfl, Nat.le_of_ble_eq_true rfl⟩, Nat.le_of_ble_eq_true rfl⟩ rfl rfl (fun r1 hB => ?_)
  refine q_if_ne (tgt := 12) hB dX9_add_6 (by decide) (fun hB => ?_) (fun hB => ?_)
  · refine q_aload_n dX9_add_12 rfl rfl ?_
    refine q_getP (j := 3) hB dX9_add_13 fc_7 (by decide) rfl wd_243 (fun n2 hB => ?_)
    refine q_callVI (k' := 0) (w' := 0) hB (fun b a hf => c_X3_hasRoom g l b _ a hf) rfl rfl dX9_add_16 wd_465 cs_X3_hasRoom wd_466 wd_467 rfl ⟨⟨Nat.le_of_ble_eq_true rfl, Nat.le_of_ble_eq_true rfl⟩, ⟨Nat.le_of_ble_eq_true rfl, Nat.le_of_ble_eq_true rfl⟩, Nat.le_of_ble_eq_true rfl⟩ rfl rfl (fun n4 r3 hB => ?_)
    refine q_if_ne (tgt := 25) hB dX9_add_19 (by decide) (fun hB => ?_) (fun hB => ?_)
    · refine q_aload_n dX9_add_25 rfl rfl ?_
      refine q_getP (j := 5) hB dX9_add_26 fc_7 (by decide) rfl wd_245 (fun n5 hB => ?_)
      refine q_callVP (k' := 0) (w' := 0) hB (fun b a hf => c_X1_next g l b _ a hf) rfl rfl dX9_add_29 wd_469 cs_X1_next wd_470 wd_471 rfl ⟨⟨Nat.le_of_ble_eq_true rfl, Nat.le_of_ble_eq_true rfl⟩, ⟨Nat.le_of_ble_eq_true rfl, Nat.le_of_ble_eq_true rfl⟩, Nat.le_of_ble_eq_true rfl⟩ rfl rfl (fun n7 r6 hB => ?_)
      refine q_iconst (v := 0) dX9_add_32 (by decide) ?_
      refine q_aload_n dX9_add_33 rfl rfl ?_
      refine q_getP (j := 3) hB dX9_add_34 fc_7 (by decide) rfl wd_243 (fun n8 hB => ?_)
      refine q_getI (j := 3) hB dX9_add_37 fc_3 (by decide) rfl wd_147 (fun n9 hB => ?_)
      refine q_iload_n dX9_add_40 rfl rfl ?_
      refine q_iload_n dX9_add_41 rfl rfl ?_
      refine q_iload_n dX9_add_42 rfl rfl ?_
      refine q_callVV (k' := 0) (w' := 0) hB (fun b a hf => c_X0_tell g l b _ _ _ _ _ _ a hf) rfl rfl dX9_add_43 wd_473 cs_X0_tell wd_474 wd_475 rfl ⟨⟨Nat.le_of_ble_eq_true rfl, Nat.le_of_ble_eq_true rfl⟩, ⟨Nat.le_of_ble_eq_true rfl, Nat.le_of_ble_eq_true rfl⟩, Nat.le_of_ble_eq_true rfl⟩ rfl rfl (fun n11 r10 hB => ?_)
      refine q_aload_n dX9_add_46 rfl rfl ?_
      refine q_getP (j := 3) hB dX9_add_47 fc_7 (by decide) rfl wd_243 (fun n12 hB => ?_)
      refine q_iload_n dX9_add_50 rfl rfl ?_
      refine q_iload_n dX9_add_51 rfl rfl ?_
      refine q_iload_n dX9_add_52 rfl rfl ?_
      refine q_callVV (k' := 0) (w' := 0) hB (fun b a hf => c_X3_append g l b _ _ _ _ a hf) rfl rfl dX9_add_53 wd_477 cs_X3_append wd_478 wd_479 rfl ⟨⟨Nat.le_of_ble_eq_true rfl, Nat.le_of_ble_eq_true rfl⟩, ⟨Nat.le_of_ble_eq_true rfl, Nat.le_of_ble_eq_true rfl⟩, Nat.le_of_ble_eq_true rfl⟩ rfl rfl (fun n14 r13 hB => ?_)
      refine q_aload_n dX9_add_56 rfl rfl ?_
      refine q_getP (j := 3) hB dX9_add_57 fc_7 (by decide) rfl wd_243 (fun n15 hB => ?_)
      refine q_getI (j := 3) hB dX9_add_60 fc_3 (by decide) rfl wd_147 (fun n16 hB => ?_)
      exact q_iret hB dX9_add_63 rfl (by decide) (by decide)
    · refine q_bipush (v := -4) dX9_add_22 (by decide) ?_
      exact q_iret hB dX9_add_24 rfl (by decide) (by decide)
  · refine q_bipush (v := -2) dX9_add_9 (by decide) ?_
    exact q_iret hB dX9_add_11 rfl (by decide) (by decide)

def b_X10_isEntry_41  (s0 : Int32) (h : HS) : Option (Int32 × HS) :=
  gd (decide (narrow .boolean (.int s0) = .int s0)) (some (s0, h))
def b_X10_isEntry_40  (h : HS) : Option (Int32 × HS) :=
  b_X10_isEntry_41 (0 : Int32) h
def f_X10_isEntry  (a0 : Int32) (a1 : Int32) (a2 : Int32) (h : HS) : Option (Int32 × HS) :=
  bd (f_X10_in a0.toInt64 (0 : Int64) (3 : Int64) h) (fun r1 => (if r1.1 = 0 then b_X10_isEntry_40 r1.2 else bd (f_X10_in a1.toInt64 (0 : Int64) (4 : Int64) r1.2) (fun r2 => (if r2.1 = 0 then b_X10_isEntry_40 r2.2 else bd (f_X10_in a2.toInt64 (0 : Int64) (100 : Int64) r2.2) (fun r3 => (if r3.1 = 0 then b_X10_isEntry_40 r3.2 else b_X10_isEntry_41 (1 : Int32) r3.2))))))
set_option maxHeartbeats 4000000 in
set_option maxRecDepth 100000 in
theorem wb_X10_isEntry_41 (g : GG) (l : Launch) (s0 : Int32) (h : HS) (o : Int32 × HS) (hB : b_X10_isEntry_41 s0 h = some o) : Wq g l mX10_isEntry 0 0 41 [none, none, none] [.int s0] h (QI o) := by
  unfold b_X10_isEntry_41 at hB
  exact q_zret hB dX10_isEntry_41 rfl (by decide) (by decide)
set_option maxHeartbeats 4000000 in
set_option maxRecDepth 100000 in
theorem wb_X10_isEntry_40 (g : GG) (l : Launch) (h : HS) (o : Int32 × HS) (hB : b_X10_isEntry_40  h = some o) : Wq g l mX10_isEntry 0 0 40 [none, none, none] [] h (QI o) := by
  unfold b_X10_isEntry_40 at hB
  refine q_iconst (v := 0) dX10_isEntry_40 (by decide) ?_
  exact Wq.mask [false, false, false] rfl (wb_X10_isEntry_41 g l _ _ o hB)
set_option maxHeartbeats 4000000 in
set_option maxRecDepth 100000 in
theorem c_X10_isEntry (g : GG) (l : Launch) (a0 : Int32) (a1 : Int32) (a2 : Int32) (h : HS) (o : Int32 × HS) (hB : f_X10_isEntry a0 a1 a2 h = some o) : Ct g l mX10_isEntry [.int a0, .int a1, .int a2] h (QI o) := by
  refine Ct.of2 (lv0 := [some (.int a0), some (.int a1), some (.int a2)]) (by decide +kernel) (by simp [lg_sl, rf_cat, cat_i, cat_l]) rfl ?_
  unfold f_X10_isEntry at hB
  refine q_iload_n dX10_isEntry_0 rfl rfl ?_
  refine q_i2l dX10_isEntry_1 ?_
  refine q_lconst (v := 0) dX10_isEntry_2 (by decide) ?_
  refine q_ldc2 dX10_isEntry_3 wd_910 ?_
  refine q_callSI (k' := 0) (w' := 0) hB (fun a hf => c_X10_in g l _ _ _ _ a hf) rfl dX10_isEntry_6 wd_825 cs_X10_in wd_826 rfl ⟨⟨Nat.le_of_ble_eq_true rfl, Nat.le_of_ble_eq_true rfl⟩, ⟨Nat.le_of_ble_eq_true rfl, Nat.le_of_ble_eq_true rfl⟩, Nat.le_of_ble_eq_true rfl⟩ rfl rfl (fun r1 hB => ?_)
  refine q_if_eq (tgt := 40) hB dX10_isEntry_9 (by decide) (fun hB => ?_) (fun hB => ?_)
  · exact Wq.mask [false, false, false] rfl (wb_X10_isEntry_40 g l _ o hB)
  · refine q_iload_n dX10_isEntry_12 rfl rfl ?_
    refine q_i2l dX10_isEntry_13 ?_
    refine q_lconst (v := 0) dX10_isEntry_14 (by decide) ?_
    refine q_ldc2 dX10_isEntry_15 wd_911 ?_
    refine q_callSI (k' := 0) (w' := 0) hB (fun a hf => c_X10_in g l _ _ _ _ a hf) rfl dX10_isEntry_18 wd_825 cs_X10_in wd_826 rfl ⟨⟨Nat.le_of_ble_eq_true rfl, Nat.le_of_ble_eq_true rfl⟩, ⟨Nat.le_of_ble_eq_true rfl, Nat.le_of_ble_eq_true rfl⟩, Nat.le_of_ble_eq_true rfl⟩ rfl rfl (fun r2 hB => ?_)
    refine q_if_eq (tgt := 40) hB dX10_isEntry_21 (by decide) (fun hB => ?_) (fun hB => ?_)
    · exact Wq.mask [false, false, false] rfl (wb_X10_isEntry_40 g l _ o hB)
    · refine q_iload_n dX10_isEntry_24 rfl rfl ?_
      refine q_i2l dX10_isEntry_25 ?_
      refine q_lconst (v := 0) dX10_isEntry_26 (by decide) ?_
      refine q_ldc2 dX10_isEntry_27 wd_912 ?_
      refine q_callSI (k' := 0) (w' := 0) hB (fun a hf => c_X10_in g l _ _ _ _ a hf) rfl dX10_isEntry_30 wd_825 cs_X10_in wd_826 rfl ⟨⟨Nat.le_of_ble_eq_true rfl, Nat.le_of_ble_eq_true rfl⟩, ⟨Nat.le_of_ble_eq_true rfl, Nat.le_of_ble_eq_true rfl⟩, Nat.le_of_ble_eq_true rfl⟩ rfl rfl (fun r3 hB => ?_)
      refine q_if_eq (tgt := 40) hB dX10_isEntry_33 (by decide) (fun hB => ?_) (fun hB => ?_)
      · exact Wq.mask [false, false, false] rfl (wb_X10_isEntry_40 g l _ o hB)
      · refine q_iconst (v := 1) dX10_isEntry_36 (by decide) ?_
        refine q_goto (tgt := 41) dX10_isEntry_37 (by decide) ?_
        exact Wq.mask [false, false, false] rfl (wb_X10_isEntry_41 g l _ _ o hB)

def b_X10_keepAct_68  (s0 : Option Nat) (s1 : Int32) (h : HS) : Option (Unit × HS) :=
  nn s0 (fun n1 => gd (ck h n1 8) (hl (sI h n1 20 s1) (fun h2 => some ((), h2))))
def b_X10_keepAct_2  (k2 : Nat → Int32 → HS → Option (Unit × HS)) (a0 : Nat) (a1 : Int32) (h : HS) : Option (Unit × HS) :=
  (if (17 : Int32) ≤ a1 then nn (some a0) (fun n1 => gd (ck h n1 8) (gd (decide (¬ (14 : Int32) = 0)) (nn (some a0) (fun n2 => gd (ck h n2 8) (hl (sI h n2 21 (((hI h n1 21) + (1 : Int32)) - ((hI h n1 21) + (1 : Int32)) / (14 : Int32) * (14 : Int32))) (fun h3 => nn (some a0) (fun n4 => gd (ck h3 n4 8) ((if (14 : Int32) ≤ (hI h3 n4 20) then b_X10_keepAct_68 (some a0) (14 : Int32) h3 else nn (some a0) (fun n5 => gd (ck h3 n5 8) (b_X10_keepAct_68 (some a0) ((hI h3 n5 20) + (1 : Int32)) h3))))))))))) else nn (some a0) (fun n6 => gd (ck h n6 8) (nn (some a0) (fun n7 => gd (ck h n7 8) (nn (some a0) (fun n8 => gd (ck h n8 8) (nn (hP h n8 12) (fun n9 => gd (ca h n9 9 a1) (nn (hP h n6 22) (fun n10 => gd (ca h n10 9 (((17 : Int32) * (hI h n7 21)) + a1)) (hl (sI h n10 (((17 : Int32) * (hI h n7 21)) + a1).toNatClampNeg (hI h n9 a1.toNatClampNeg)) (fun h11 => k2 a0 (a1 + (1 : Int32)) h11))))))))))))
def l_X10_keepAct_2  : Nat → Nat → Int32 → HS → Option (Unit × HS)
  | 0 => fun _ _ _ => none
  | n + 1 => b_X10_keepAct_2 (l_X10_keepAct_2 n)
def f_X10_keepAct  (a0 : Nat) (h : HS) : Option (Unit × HS) :=
  l_X10_keepAct_2 FU a0 (0 : Int32) h
set_option maxHeartbeats 4000000 in
set_option maxRecDepth 100000 in
theorem wb_X10_keepAct_68 (g : GG) (l : Launch) (s0 : Option Nat) (s1 : Int32) (h : HS) (o : Unit × HS) (hB : b_X10_keepAct_68 s0 s1 h = some o) : Wq g l mX10_keepAct 0 0 68 [none, none] [.int s1, va_rf s0] h (QV o) := by
  unfold b_X10_keepAct_68 at hB
  refine q_putI (j := 20) hB dX10_keepAct_68 fc_8 (by decide) rfl wd_749 rfl (fun n1 hB => ?_)
  refine q_nm hB (fun h2 hB => ?_)
  exact q_vret hB dX10_keepAct_71 rfl (by decide) (by decide)
set_option maxHeartbeats 4000000 in
set_option maxRecDepth 100000 in
theorem wb_X10_keepAct_2 (g : GG) (l : Launch) (k2 : Nat → Int32 → HS → Option (Unit × HS)) (a0 : Nat) (a1 : Int32) (h : HS) (o : Unit × HS) (hB : b_X10_keepAct_2 k2 a0 a1 h = some o) (hk2 : ∀ (a0 : Nat) (a1 : Int32) (h : HS), k2 a0 a1 h = some o → Wq g l mX10_keepAct 0 0 2 [some (va_rf (some a0)), some (.int a1)] [] h (QV o)) : Wq g l mX10_keepAct 0 0 2 [some (va_rf (some a0)), some (.int a1)] [] h (QV o) := by
  unfold b_X10_keepAct_2 at hB
  refine q_iload_n dX10_keepAct_2 rfl rfl ?_
  refine q_bipush (v := 17) dX10_keepAct_3 (by decide) ?_
  refine q_icmp_ge (tgt := 34) hB dX10_keepAct_5 (by decide) (fun hB => ?_) (fun hB => ?_)
  · refine q_aload_n dX10_keepAct_34 rfl rfl ?_
    refine q_aload_n dX10_keepAct_35 rfl rfl ?_
    refine q_getI (j := 21) hB dX10_keepAct_36 fc_8 (by decide) rfl wd_750 (fun n1 hB => ?_)
    refine q_iconst (v := 1) dX10_keepAct_39 (by decide) ?_
    refine q_iadd dX10_keepAct_40 ?_
    refine q_bipush (v := 14) dX10_keepAct_41 (by decide) ?_
    refine q_irem hB dX10_keepAct_43 (fun hB => ?_)
    refine q_putI (j := 21) hB dX10_keepAct_44 fc_8 (by decide) rfl wd_750 rfl (fun n2 hB => ?_)
    refine q_nm hB (fun h3 hB => ?_)
    refine q_aload_n dX10_keepAct_47 rfl rfl ?_
    refine q_aload_n dX10_keepAct_48 rfl rfl ?_
    refine q_getI (j := 20) hB dX10_keepAct_49 fc_8 (by decide) rfl wd_749 (fun n4 hB => ?_)
    refine q_bipush (v := 14) dX10_keepAct_52 (by decide) ?_
    refine q_icmp_ge (tgt := 66) hB dX10_keepAct_54 (by decide) (fun hB => ?_) (fun hB => ?_)
    · refine q_bipush (v := 14) dX10_keepAct_66 (by decide) ?_
      exact Wq.mask [false, false] rfl (wb_X10_keepAct_68 g l _ _ _ o hB)
    · refine q_aload_n dX10_keepAct_57 rfl rfl ?_
      refine q_getI (j := 20) hB dX10_keepAct_58 fc_8 (by decide) rfl wd_749 (fun n5 hB => ?_)
      refine q_iconst (v := 1) dX10_keepAct_61 (by decide) ?_
      refine q_iadd dX10_keepAct_62 ?_
      refine q_goto (tgt := 68) dX10_keepAct_63 (by decide) ?_
      exact Wq.mask [false, false] rfl (wb_X10_keepAct_68 g l _ _ _ o hB)
  · refine q_aload_n dX10_keepAct_8 rfl rfl ?_
    refine q_getP (j := 22) hB dX10_keepAct_9 fc_8 (by decide) rfl wd_751 (fun n6 hB => ?_)
    refine q_bipush (v := 17) dX10_keepAct_12 (by decide) ?_
    refine q_aload_n dX10_keepAct_14 rfl rfl ?_
    refine q_getI (j := 21) hB dX10_keepAct_15 fc_8 (by decide) rfl wd_750 (fun n7 hB => ?_)
    refine q_imul dX10_keepAct_18 ?_
    refine q_iload_n dX10_keepAct_19 rfl rfl ?_
    refine q_iadd dX10_keepAct_20 ?_
    refine q_aload_n dX10_keepAct_21 rfl rfl ?_
    refine q_getP (j := 12) hB dX10_keepAct_22 fc_8 (by decide) rfl wd_741 (fun n8 hB => ?_)
    refine q_iload_n dX10_keepAct_25 rfl rfl ?_
    refine q_iald hB dX10_keepAct_26 (fun n9 hB => ?_)
    refine q_iast hB dX10_keepAct_27 (fun n10 hB => ?_)
    refine q_nm hB (fun h11 hB => ?_)
    refine q_iinc dX10_keepAct_28 rfl (show _ = (a1 + (1 : Int32)) from rfl) (by decide) (nb_r (j := 0) rfl) ?_
    refine q_goto (tgt := 2) dX10_keepAct_31 (by decide) ?_
    exact Wq.mask [true, true] rfl (hk2 _ _ _ hB)
set_option maxHeartbeats 4000000 in
theorem wl_X10_keepAct_2 (g : GG) (l : Launch) (o : Unit × HS) : ∀ (n : Nat) (a0 : Nat) (a1 : Int32) (h : HS), l_X10_keepAct_2 n a0 a1 h = some o → Wq g l mX10_keepAct 0 0 2 [some (va_rf (some a0)), some (.int a1)] [] h (QV o) := by
  intro n
  induction n with
  | zero =>
    intro a0 a1  h hB
    have q : (none : Option (Unit × HS)) = some o := hB
    cases q
  | succ n ih =>
    intro a0 a1  h hB
    exact wb_X10_keepAct_2 g l (l_X10_keepAct_2 n) a0 a1 h o hB ih
set_option maxHeartbeats 4000000 in
set_option maxRecDepth 100000 in
theorem c_X10_keepAct (g : GG) (l : Launch) (a0 : Nat) (h : HS) (o : Unit × HS) (hB : f_X10_keepAct a0 h = some o) : Ct g l mX10_keepAct [va_rf (some a0)] h (QV o) := by
  refine Ct.of2 (lv0 := [some (va_rf (some a0)), none]) (by decide +kernel) (by simp [lg_sl, rf_cat, cat_i, cat_l]) rfl ?_
  unfold f_X10_keepAct at hB
  refine q_iconst (v := 0) dX10_keepAct_0 (by decide) ?_
  refine q_istore_n dX10_keepAct_1 rfl (by decide) (nb_r (j := 0) rfl) ?_
  exact Wq.mask [true, true] rfl (wl_X10_keepAct_2 g l o FU _ _ _ hB)

def f_X10_asOne  (a0 : Int32) (a1 : Int32) (a2 : Int32) (h : HS) : Option (Int32 × HS) :=
  some (((((10000 : Int32) * a0) + ((1000 : Int32) * a1)) + a2), h)
set_option maxHeartbeats 4000000 in
set_option maxRecDepth 100000 in
theorem c_X10_asOne (g : GG) (l : Launch) (a0 : Int32) (a1 : Int32) (a2 : Int32) (h : HS) (o : Int32 × HS) (hB : f_X10_asOne a0 a1 a2 h = some o) : Ct g l mX10_asOne [.int a0, .int a1, .int a2] h (QI o) := by
  refine Ct.of2 (lv0 := [some (.int a0), some (.int a1), some (.int a2)]) (by decide +kernel) (by simp [lg_sl, rf_cat, cat_i, cat_l]) rfl ?_
  unfold f_X10_asOne at hB
  refine q_sipush (v := 10000) dX10_asOne_0 (by decide) ?_
  refine q_iload_n dX10_asOne_3 rfl rfl ?_
  refine q_imul dX10_asOne_4 ?_
  refine q_sipush (v := 1000) dX10_asOne_5 (by decide) ?_
  refine q_iload_n dX10_asOne_8 rfl rfl ?_
  refine q_imul dX10_asOne_9 ?_
  refine q_iadd dX10_asOne_10 ?_
  refine q_iload_n dX10_asOne_11 rfl rfl ?_
  refine q_iadd dX10_asOne_12 ?_
  exact q_iret hB dX10_asOne_13 rfl (by decide) (by decide)

def f_X10_addOn  (a0 : Nat) (a1 : Int32) (a2 : Int32) (h : HS) : Option (Unit × HS) :=
  nn (some a0) (fun n1 => gd (ck h n1 8) (nn (some a0) (fun n3 => gd (rk h n3 8) (bd (f_X10_many n3 a1 h) (fun r2 => nn (hP h n1 12) (fun n4 => gd (ca r2.2 n4 9 ((((17 : Int32) * a1) + (1 : Int32)) + r2.1)) (hl (sI r2.2 n4 ((((17 : Int32) * a1) + (1 : Int32)) + r2.1).toNatClampNeg a2) (fun h5 => nn (some a0) (fun n6 => gd (ck h5 n6 8) (nn (hP h5 n6 12) (fun n7 => gd (ca h5 n7 9 ((17 : Int32) * a1)) (nn (hP h5 n6 12) (fun n8 => gd (ca h5 n8 9 ((17 : Int32) * a1)) (hl (sI h5 n8 ((17 : Int32) * a1).toNatClampNeg ((hI h5 n7 ((17 : Int32) * a1).toNatClampNeg) + (1 : Int32))) (fun h9 => some ((), h9))))))))))))))))
set_option maxHeartbeats 4000000 in
set_option maxRecDepth 100000 in
theorem c_X10_addOn (g : GG) (l : Launch) (a0 : Nat) (a1 : Int32) (a2 : Int32) (h : HS) (o : Unit × HS) (hB : f_X10_addOn a0 a1 a2 h = some o) : Ct g l mX10_addOn [va_rf (some a0), .int a1, .int a2] h (QV o) := by
  refine Ct.of2 (lv0 := [some (va_rf (some a0)), some (.int a1), some (.int a2)]) (by decide +kernel) (by simp [lg_sl, rf_cat, cat_i, cat_l]) rfl ?_
  unfold f_X10_addOn at hB
  refine q_aload_n dX10_addOn_0 rfl rfl ?_
  refine q_getP (j := 12) hB dX10_addOn_1 fc_8 (by decide) rfl wd_741 (fun n1 hB => ?_)
  refine q_bipush (v := 17) dX10_addOn_4 (by decide) ?_
  refine q_iload_n dX10_addOn_6 rfl rfl ?_
  refine q_imul dX10_addOn_7 ?_
  refine q_iconst (v := 1) dX10_addOn_8 (by decide) ?_
  refine q_iadd dX10_addOn_9 ?_
  refine q_aload_n dX10_addOn_10 rfl rfl ?_
  refine q_iload_n dX10_addOn_11 rfl rfl ?_
  refine q_callVI (k' := 0) (w' := 0) hB (fun b a hf => c_X10_many g l b _ _ a hf) rfl rfl dX10_addOn_12 wd_867 cs_X10_many wd_869 wd_23 rfl ⟨⟨Nat.le_of_ble_eq_true rfl, Nat.le_of_ble_eq_true rfl⟩, ⟨Nat.le_of_ble_eq_true rfl, Nat.le_of_ble_eq_true rfl⟩, by simp [rf_cat, cat_i, cat_l]⟩ rfl rfl (fun n3 r2 hB => ?_)
  refine q_iadd dX10_addOn_15 ?_
  refine q_iload_n dX10_addOn_16 rfl rfl ?_
  refine q_iast hB dX10_addOn_17 (fun n4 hB => ?_)
  refine q_nm hB (fun h5 hB => ?_)
  refine q_aload_n dX10_addOn_18 rfl rfl ?_
  refine q_getP (j := 12) hB dX10_addOn_19 fc_8 (by decide) rfl wd_741 (fun n6 hB => ?_)
  refine q_bipush (v := 17) dX10_addOn_22 (by decide) ?_
  refine q_iload_n dX10_addOn_24 rfl rfl ?_
  refine q_imul dX10_addOn_25 ?_
  refine q_dup2 dX10_addOn_26 rfl (rf_cat _) ?_
  refine q_iald hB dX10_addOn_27 (fun n7 hB => ?_)
  refine q_iconst (v := 1) dX10_addOn_28 (by decide) ?_
  refine q_iadd dX10_addOn_29 ?_
  refine q_iast hB dX10_addOn_30 (fun n8 hB => ?_)
  refine q_nm hB (fun h9 hB => ?_)
  exact q_vret hB dX10_addOn_31 rfl (by decide) (by decide)

def f_X10_add  (a0 : Nat) (a1 : Int32) (a2 : Int32) (a3 : Int32) (h : HS) : Option (Int32 × HS) :=
  bd (f_X10_isEntry a1 a2 a3 h) (fun r1 => (if r1.1 = 0 then some ((-2 : Int32), r1.2) else nn (some a0) (fun n3 => gd (rk r1.2 n3 8) (bd (f_X10_many n3 (0 : Int32) r1.2) (fun r2 => (if r2.1 = (16 : Int32) then some ((-4 : Int32), r2.2) else nn (some a0) (fun n5 => gd (rk r2.2 n5 8) (bd (f_X10_keepAct n5 r2.2) (fun r4 => bd (f_X10_asOne a1 a2 a3 r4.2) (fun r6 => nn (some a0) (fun n8 => gd (rk r6.2 n8 8) (bd (f_X10_addOn n8 (0 : Int32) r6.1 r6.2) (fun r7 => nn (some a0) (fun n10 => gd (rk r7.2 n10 8) (bd (f_X10_many n10 (0 : Int32) r7.2) (fun r9 => some (r9.1, r9.2)))))))))))))))))
set_option maxHeartbeats 4000000 in
set_option maxRecDepth 100000 in
theorem c_X10_add (g : GG) (l : Launch) (a0 : Nat) (a1 : Int32) (a2 : Int32) (a3 : Int32) (h : HS) (o : Int32 × HS) (hB : f_X10_add a0 a1 a2 a3 h = some o) : Ct g l mX10_add [va_rf (some a0), .int a1, .int a2, .int a3] h (QI o) := by
  refine Ct.of2 (lv0 := [some (va_rf (some a0)), some (.int a1), some (.int a2), some (.int a3)]) (by decide +kernel) (by simp [lg_sl, rf_cat, cat_i, cat_l]) rfl ?_
  unfold f_X10_add at hB
  refine q_iload_n dX10_add_0 rfl rfl ?_
  refine q_iload_n dX10_add_1 rfl rfl ?_
  refine q_iload_n dX10_add_2 rfl rfl ?_
  refine q_callSI (k' := 0) (w' := 0) hB (fun a hf => c_X10_isEntry g l _ _ _ _ a hf) rfl dX10_add_3 wd_907 cs_X10_isEntry wd_908 rfl ⟨⟨Nat.le_of_ble_eq_true rfl, Nat.le_of_ble_eq_true rfl⟩, ⟨Nat.le_of_ble_eq_true rfl, Nat.le_of_ble_eq_true rfl⟩, Nat.le_of_ble_eq_true rfl⟩ rfl rfl (fun r1 hB => ?_)
  refine q_if_ne (tgt := 12) hB dX10_add_6 (by decide) (fun hB => ?_) (fun hB => ?_)
  · refine q_aload_n dX10_add_12 rfl rfl ?_
    refine q_iconst (v := 0) dX10_add_13 (by decide) ?_
    refine q_callVI (k' := 0) (w' := 0) hB (fun b a hf => c_X10_many g l b _ _ a hf) rfl rfl dX10_add_14 wd_867 cs_X10_many wd_869 wd_23 rfl ⟨⟨Nat.le_of_ble_eq_true rfl, Nat.le_of_ble_eq_true rfl⟩, ⟨Nat.le_of_ble_eq_true rfl, Nat.le_of_ble_eq_true rfl⟩, Nat.le_of_ble_eq_true rfl⟩ rfl rfl (fun n3 r2 hB => ?_)
    refine q_bipush (v := 16) dX10_add_17 (by decide) ?_
    refine q_icmp_ne (tgt := 25) hB dX10_add_19 (by decide) (fun hB => ?_) (fun hB => ?_)
    · refine q_aload_n dX10_add_25 rfl rfl ?_
      refine q_callVV (k' := 0) (w' := 0) hB (fun b a hf => c_X10_keepAct g l b _ a hf) rfl rfl dX10_add_26 wd_913 cs_X10_keepAct wd_915 wd_30 rfl ⟨⟨Nat.le_of_ble_eq_true rfl, Nat.le_of_ble_eq_true rfl⟩, ⟨Nat.le_of_ble_eq_true rfl, Nat.le_of_ble_eq_true rfl⟩, Nat.le_of_ble_eq_true rfl⟩ rfl rfl (fun n5 r4 hB => ?_)
      refine q_aload_n dX10_add_29 rfl rfl ?_
      refine q_iconst (v := 0) dX10_add_30 (by decide) ?_
      refine q_iload_n dX10_add_31 rfl rfl ?_
      refine q_iload_n dX10_add_32 rfl rfl ?_
      refine q_iload_n dX10_add_33 rfl rfl ?_
      refine q_callSI (k' := 0) (w' := 0) hB (fun a hf => c_X10_asOne g l _ _ _ _ a hf) rfl dX10_add_34 wd_917 cs_X10_asOne wd_918 rfl ⟨⟨Nat.le_of_ble_eq_true rfl, Nat.le_of_ble_eq_true rfl⟩, ⟨Nat.le_of_ble_eq_true rfl, Nat.le_of_ble_eq_true rfl⟩, by simp [rf_cat, cat_i, cat_l]⟩ rfl rfl (fun r6 hB => ?_)
      refine q_callVV (k' := 0) (w' := 0) hB (fun b a hf => c_X10_addOn g l b _ _ _ a hf) rfl rfl dX10_add_37 wd_920 cs_X10_addOn wd_922 wd_31 rfl ⟨⟨Nat.le_of_ble_eq_true rfl, Nat.le_of_ble_eq_true rfl⟩, ⟨Nat.le_of_ble_eq_true rfl, Nat.le_of_ble_eq_true rfl⟩, Nat.le_of_ble_eq_true rfl⟩ rfl rfl (fun n8 r7 hB => ?_)
      refine q_aload_n dX10_add_40 rfl rfl ?_
      refine q_iconst (v := 0) dX10_add_41 (by decide) ?_
      refine q_callVI (k' := 0) (w' := 0) hB (fun b a hf => c_X10_many g l b _ _ a hf) rfl rfl dX10_add_42 wd_867 cs_X10_many wd_869 wd_23 rfl ⟨⟨Nat.le_of_ble_eq_true rfl, Nat.le_of_ble_eq_true rfl⟩, ⟨Nat.le_of_ble_eq_true rfl, Nat.le_of_ble_eq_true rfl⟩, Nat.le_of_ble_eq_true rfl⟩ rfl rfl (fun n10 r9 hB => ?_)
      exact q_iret hB dX10_add_45 rfl (by decide) (by decide)
    · refine q_bipush (v := -4) dX10_add_22 (by decide) ?_
      exact q_iret hB dX10_add_24 rfl (by decide) (by decide)
  · refine q_bipush (v := -2) dX10_add_9 (by decide) ?_
    exact q_iret hB dX10_add_11 rfl (by decide) (by decide)

def b_X3_has_17  (s0 : Int32) (h : HS) : Option (Int32 × HS) :=
  gd (decide (narrow .boolean (.int s0) = .int s0)) (some (s0, h))
def b_X3_has_16  (h : HS) : Option (Int32 × HS) :=
  b_X3_has_17 (0 : Int32) h
def f_X3_has  (a0 : Nat) (a1 : Int32) (h : HS) : Option (Int32 × HS) :=
  (if a1 < 0 then b_X3_has_16 h else nn (some a0) (fun n1 => gd (ck h n1 3) ((if (hI h n1 3) ≤ a1 then b_X3_has_16 h else b_X3_has_17 (1 : Int32) h))))
set_option maxHeartbeats 4000000 in
set_option maxRecDepth 100000 in
theorem wb_X3_has_17 (g : GG) (l : Launch) (s0 : Int32) (h : HS) (o : Int32 × HS) (hB : b_X3_has_17 s0 h = some o) : Wq g l mX3_has 0 0 17 [none, none] [.int s0] h (QI o) := by
  unfold b_X3_has_17 at hB
  exact q_zret hB dX3_has_17 rfl (by decide) (by decide)
set_option maxHeartbeats 4000000 in
set_option maxRecDepth 100000 in
theorem wb_X3_has_16 (g : GG) (l : Launch) (h : HS) (o : Int32 × HS) (hB : b_X3_has_16  h = some o) : Wq g l mX3_has 0 0 16 [none, none] [] h (QI o) := by
  unfold b_X3_has_16 at hB
  refine q_iconst (v := 0) dX3_has_16 (by decide) ?_
  exact Wq.mask [false, false] rfl (wb_X3_has_17 g l _ _ o hB)
set_option maxHeartbeats 4000000 in
set_option maxRecDepth 100000 in
theorem c_X3_has (g : GG) (l : Launch) (a0 : Nat) (a1 : Int32) (h : HS) (o : Int32 × HS) (hB : f_X3_has a0 a1 h = some o) : Ct g l mX3_has [va_rf (some a0), .int a1] h (QI o) := by
  refine Ct.of2 (lv0 := [some (va_rf (some a0)), some (.int a1)]) (by decide +kernel) (by simp [lg_sl, rf_cat, cat_i, cat_l]) rfl ?_
  unfold f_X3_has at hB
  refine q_iload_n dX3_has_0 rfl rfl ?_
  refine q_if_lt (tgt := 16) hB dX3_has_1 (by decide) (fun hB => ?_) (fun hB => ?_)
  · exact Wq.mask [false, false] rfl (wb_X3_has_16 g l _ o hB)
  · refine q_iload_n dX3_has_4 rfl rfl ?_
    refine q_aload_n dX3_has_5 rfl rfl ?_
    refine q_getI (j := 3) hB dX3_has_6 fc_3 (by decide) rfl wd_145 (fun n1 hB => ?_)
    refine q_icmp_ge (tgt := 16) hB dX3_has_9 (by decide) (fun hB => ?_) (fun hB => ?_)
    · exact Wq.mask [false, false] rfl (wb_X3_has_16 g l _ o hB)
    · refine q_iconst (v := 1) dX3_has_12 (by decide) ?_
      refine q_goto (tgt := 17) dX3_has_13 (by decide) ?_
      exact Wq.mask [false, false] rfl (wb_X3_has_17 g l _ _ o hB)

def f_X3_remove  (a0 : Nat) (a1 : Int32) (h : HS) : Option (Unit × HS) :=
  nn (some a0) (fun n2 => gd (rk h n2 3) (bd (f_X3_has n2 a1 h) (fun r1 => (if r1.1 = 0 then some ((), r1.2) else nn (some a0) (fun n3 => gd (ck r1.2 n3 3) (nn (some a0) (fun n5 => gd (rk r1.2 n5 3) (bd (f_X3_shift n5 (a1 + (1 : Int32)) a1 (((hI r1.2 n3 3) - a1) - (1 : Int32)) r1.2) (fun r4 => nn (some a0) (fun n6 => gd (ck r4.2 n6 3) (nn (some a0) (fun n7 => gd (ck r4.2 n7 3) (some ((), (sI r4.2 n7 3 ((hI r4.2 n6 3) - (1 : Int32)))))))))))))))))
set_option maxHeartbeats 4000000 in
set_option maxRecDepth 100000 in
theorem c_X3_remove (g : GG) (l : Launch) (a0 : Nat) (a1 : Int32) (h : HS) (o : Unit × HS) (hB : f_X3_remove a0 a1 h = some o) : Ct g l mX3_remove [va_rf (some a0), .int a1] h (QV o) := by
  refine Ct.of2 (lv0 := [some (va_rf (some a0)), some (.int a1)]) (by decide +kernel) (by simp [lg_sl, rf_cat, cat_i, cat_l]) rfl ?_
  unfold f_X3_remove at hB
  refine q_aload_n dX3_remove_0 rfl rfl ?_
  refine q_iload_n dX3_remove_1 rfl rfl ?_
  refine q_callVI (k' := 0) (w' := 0) hB (fun b a hf => c_X3_has g l b _ _ a hf) rfl rfl dX3_remove_2 wd_505 cs_X3_has wd_498 wd_499 rfl ⟨⟨Nat.le_of_ble_eq_true rfl, Nat.le_of_ble_eq_true rfl⟩, ⟨Nat.le_of_ble_eq_true rfl, Nat.le_of_ble_eq_true rfl⟩, Nat.le_of_ble_eq_true rfl⟩ rfl rfl (fun n2 r1 hB => ?_)
  refine q_if_ne (tgt := 9) hB dX3_remove_5 (by decide) (fun hB => ?_) (fun hB => ?_)
  · refine q_aload_n dX3_remove_9 rfl rfl ?_
    refine q_iload_n dX3_remove_10 rfl rfl ?_
    refine q_iconst (v := 1) dX3_remove_11 (by decide) ?_
    refine q_iadd dX3_remove_12 ?_
    refine q_iload_n dX3_remove_13 rfl rfl ?_
    refine q_aload_n dX3_remove_14 rfl rfl ?_
    refine q_getI (j := 3) hB dX3_remove_15 fc_3 (by decide) rfl wd_145 (fun n3 hB => ?_)
    refine q_iload_n dX3_remove_18 rfl rfl ?_
    refine q_isub dX3_remove_19 ?_
    refine q_iconst (v := 1) dX3_remove_20 (by decide) ?_
    refine q_isub dX3_remove_21 ?_
    refine q_callVV (k' := 0) (w' := 0) hB (fun b a hf => c_X3_shift g l b _ _ _ _ a hf) rfl rfl dX3_remove_22 wd_486 cs_X3_shift wd_488 wd_6 rfl ⟨⟨Nat.le_of_ble_eq_true rfl, Nat.le_of_ble_eq_true rfl⟩, ⟨Nat.le_of_ble_eq_true rfl, Nat.le_of_ble_eq_true rfl⟩, Nat.le_of_ble_eq_true rfl⟩ rfl rfl (fun n5 r4 hB => ?_)
    refine q_aload_n dX3_remove_25 rfl rfl ?_
    refine q_dup dX3_remove_26 (rf_cat _) ?_
    refine q_getI (j := 3) hB dX3_remove_27 fc_3 (by decide) rfl wd_145 (fun n6 hB => ?_)
    refine q_iconst (v := 1) dX3_remove_30 (by decide) ?_
    refine q_isub dX3_remove_31 ?_
    refine q_putI (j := 3) hB dX3_remove_32 fc_3 (by decide) rfl wd_145 rfl (fun n7 hB => ?_)
    exact q_vret hB dX3_remove_35 rfl (by decide) (by decide)
  · exact q_vret hB dX3_remove_8 rfl (by decide) (by decide)

def f_X9_drop  (a0 : Nat) (a1 : Int32) (h : HS) : Option (Int32 × HS) :=
  nn (some a0) (fun n1 => gd (ck h n1 7) (nn (hP h n1 3) (fun n3 => gd (rk h n3 3) (bd (f_X3_has n3 a1 h) (fun r2 => (if r2.1 = 0 then some ((-1 : Int32), r2.2) else nn (some a0) (fun n4 => gd (ck r2.2 n4 7) (nn (hP r2.2 n4 3) (fun n5 => gd (ck r2.2 n5 3) (nn (hP r2.2 n5 2) (fun n6 => gd (ca r2.2 n6 9 a1) (nn (some a0) (fun n7 => gd (ck r2.2 n7 7) (nn (hP r2.2 n7 5) (fun n9 => gd (rk r2.2 n9 1) (bd (f_X1_next n9 r2.2) (fun r8 => nn (some a0) (fun n10 => gd (ck r8.2 n10 7) (nn (hP r8.2 n10 3) (fun n11 => gd (ck r8.2 n11 3) (nn (hP r8.2 n11 0) (fun n12 => gd (ca r8.2 n12 9 a1) (nn (some a0) (fun n13 => gd (ck r8.2 n13 7) (nn (hP r8.2 n13 3) (fun n14 => gd (ck r8.2 n14 3) (nn (hP r8.2 n14 1) (fun n15 => gd (ca r8.2 n15 9 a1) (nn r8.1 (fun n17 => gd (rk r8.2 n17 0) (bd (f_X0_tell n17 (1 : Int32) a1 (hI r8.2 n12 a1.toNatClampNeg) (hI r8.2 n15 a1.toNatClampNeg) (hI r2.2 n6 a1.toNatClampNeg) r8.2) (fun r16 => nn (some a0) (fun n18 => gd (ck r16.2 n18 7) (nn (hP r16.2 n18 3) (fun n20 => gd (rk r16.2 n20 3) (bd (f_X3_remove n20 a1 r16.2) (fun r19 => some ((hI r2.2 n6 a1.toNatClampNeg), r19.2))))))))))))))))))))))))))))))))))))))
set_option maxHeartbeats 4000000 in
set_option maxRecDepth 100000 in
theorem c_X9_drop (g : GG) (l : Launch) (a0 : Nat) (a1 : Int32) (h : HS) (o : Int32 × HS) (hB : f_X9_drop a0 a1 h = some o) : Ct g l mX9_drop [va_rf (some a0), .int a1] h (QI o) := by
  refine Ct.of2 (lv0 := [some (va_rf (some a0)), some (.int a1), none]) (by decide +kernel) (by simp [lg_sl, rf_cat, cat_i, cat_l]) rfl ?_
  unfold f_X9_drop at hB
  refine q_aload_n dX9_drop_0 rfl rfl ?_
  refine q_getP (j := 3) hB dX9_drop_1 fc_7 (by decide) rfl wd_243 (fun n1 hB => ?_)
  refine q_iload_n dX9_drop_4 rfl rfl ?_
  refine q_callVI (k' := 0) (w' := 0) hB (fun b a hf => c_X3_has g l b _ _ a hf) rfl rfl dX9_drop_5 wd_497 cs_X3_has wd_498 wd_499 rfl ⟨⟨Nat.le_of_ble_eq_true rfl, Nat.le_of_ble_eq_true rfl⟩, ⟨Nat.le_of_ble_eq_true rfl, Nat.le_of_ble_eq_true rfl⟩, Nat.le_of_ble_eq_true rfl⟩ rfl rfl (fun n3 r2 hB => ?_)
  refine q_if_ne (tgt := 13) hB dX9_drop_8 (by decide) (fun hB => ?_) (fun hB => ?_)
  · refine q_aload_n dX9_drop_13 rfl rfl ?_
    refine q_getP (j := 3) hB dX9_drop_14 fc_7 (by decide) rfl wd_243 (fun n4 hB => ?_)
    refine q_getP (j := 2) hB dX9_drop_17 fc_3 (by decide) rfl wd_144 (fun n5 hB => ?_)
    refine q_iload_n dX9_drop_20 rfl rfl ?_
    refine q_iald hB dX9_drop_21 (fun n6 hB => ?_)
    refine q_istore_n dX9_drop_22 rfl (by decide) (nb_i (j := 1) rfl) ?_
    refine q_aload_n dX9_drop_23 rfl rfl ?_
    refine q_getP (j := 5) hB dX9_drop_24 fc_7 (by decide) rfl wd_245 (fun n7 hB => ?_)
    refine q_callVP (k' := 0) (w' := 0) hB (fun b a hf => c_X1_next g l b _ a hf) rfl rfl dX9_drop_27 wd_469 cs_X1_next wd_470 wd_471 rfl ⟨⟨Nat.le_of_ble_eq_true rfl, Nat.le_of_ble_eq_true rfl⟩, ⟨Nat.le_of_ble_eq_true rfl, Nat.le_of_ble_eq_true rfl⟩, Nat.le_of_ble_eq_true rfl⟩ rfl rfl (fun n9 r8 hB => ?_)
    refine q_iconst (v := 1) dX9_drop_30 (by decide) ?_
    refine q_iload_n dX9_drop_31 rfl rfl ?_
    refine q_aload_n dX9_drop_32 rfl rfl ?_
    refine q_getP (j := 3) hB dX9_drop_33 fc_7 (by decide) rfl wd_243 (fun n10 hB => ?_)
    refine q_getP (j := 0) hB dX9_drop_36 fc_3 (by decide) rfl wd_137 (fun n11 hB => ?_)
    refine q_iload_n dX9_drop_39 rfl rfl ?_
    refine q_iald hB dX9_drop_40 (fun n12 hB => ?_)
    refine q_aload_n dX9_drop_41 rfl rfl ?_
    refine q_getP (j := 3) hB dX9_drop_42 fc_7 (by decide) rfl wd_243 (fun n13 hB => ?_)
    refine q_getP (j := 1) hB dX9_drop_45 fc_3 (by decide) rfl wd_140 (fun n14 hB => ?_)
    refine q_iload_n dX9_drop_48 rfl rfl ?_
    refine q_iald hB dX9_drop_49 (fun n15 hB => ?_)
    refine q_iload_n dX9_drop_50 rfl rfl ?_
    refine q_callVV (k' := 0) (w' := 0) hB (fun b a hf => c_X0_tell g l b _ _ _ _ _ _ a hf) rfl rfl dX9_drop_51 wd_473 cs_X0_tell wd_474 wd_475 rfl ⟨⟨Nat.le_of_ble_eq_true rfl, Nat.le_of_ble_eq_true rfl⟩, ⟨Nat.le_of_ble_eq_true rfl, Nat.le_of_ble_eq_true rfl⟩, Nat.le_of_ble_eq_true rfl⟩ rfl rfl (fun n17 r16 hB => ?_)
    refine q_aload_n dX9_drop_54 rfl rfl ?_
    refine q_getP (j := 3) hB dX9_drop_55 fc_7 (by decide) rfl wd_243 (fun n18 hB => ?_)
    refine q_iload_n dX9_drop_58 rfl rfl ?_
    refine q_callVV (k' := 0) (w' := 0) hB (fun b a hf => c_X3_remove g l b _ _ a hf) rfl rfl dX9_drop_59 wd_501 cs_X3_remove wd_502 wd_503 rfl ⟨⟨Nat.le_of_ble_eq_true rfl, Nat.le_of_ble_eq_true rfl⟩, ⟨Nat.le_of_ble_eq_true rfl, Nat.le_of_ble_eq_true rfl⟩, Nat.le_of_ble_eq_true rfl⟩ rfl rfl (fun n20 r19 hB => ?_)
    refine q_iload_n dX9_drop_62 rfl rfl ?_
    exact q_iret hB dX9_drop_63 rfl (by decide) (by decide)
  · refine q_iconst (v := -1) dX9_drop_11 (by decide) ?_
    exact q_iret hB dX9_drop_12 rfl (by decide) (by decide)

def f_X10_isThere  (a0 : Nat) (a1 : Int32) (h : HS) : Option (Int32 × HS) :=
  nn (some a0) (fun n2 => gd (rk h n2 8) (bd (f_X10_many n2 (0 : Int32) h) (fun r1 => bd (f_X10_in a1.toInt64 (0 : Int64) (r1.1 - (1 : Int32)).toInt64 r1.2) (fun r3 => gd (decide (narrow .boolean (.int r3.1) = .int r3.1)) (some (r3.1, r3.2))))))
set_option maxHeartbeats 4000000 in
set_option maxRecDepth 100000 in
theorem c_X10_isThere (g : GG) (l : Launch) (a0 : Nat) (a1 : Int32) (h : HS) (o : Int32 × HS) (hB : f_X10_isThere a0 a1 h = some o) : Ct g l mX10_isThere [va_rf (some a0), .int a1] h (QI o) := by
  refine Ct.of2 (lv0 := [some (va_rf (some a0)), some (.int a1)]) (by decide +kernel) (by simp [lg_sl, rf_cat, cat_i, cat_l]) rfl ?_
  unfold f_X10_isThere at hB
  refine q_iload_n dX10_isThere_0 rfl rfl ?_
  refine q_i2l dX10_isThere_1 ?_
  refine q_lconst (v := 0) dX10_isThere_2 (by decide) ?_
  refine q_aload_n dX10_isThere_3 rfl rfl ?_
  refine q_iconst (v := 0) dX10_isThere_4 (by decide) ?_
  refine q_callVI (k' := 0) (w' := 0) hB (fun b a hf => c_X10_many g l b _ _ a hf) rfl rfl dX10_isThere_5 wd_867 cs_X10_many wd_869 wd_23 rfl ⟨⟨Nat.le_of_ble_eq_true rfl, Nat.le_of_ble_eq_true rfl⟩, ⟨Nat.le_of_ble_eq_true rfl, Nat.le_of_ble_eq_true rfl⟩, by simp [rf_cat, cat_i, cat_l]⟩ rfl rfl (fun n2 r1 hB => ?_)
  refine q_iconst (v := 1) dX10_isThere_8 (by decide) ?_
  refine q_isub dX10_isThere_9 ?_
  refine q_i2l dX10_isThere_10 ?_
  refine q_callSI (k' := 0) (w' := 0) hB (fun a hf => c_X10_in g l _ _ _ _ a hf) rfl dX10_isThere_11 wd_825 cs_X10_in wd_826 rfl ⟨⟨Nat.le_of_ble_eq_true rfl, Nat.le_of_ble_eq_true rfl⟩, ⟨Nat.le_of_ble_eq_true rfl, Nat.le_of_ble_eq_true rfl⟩, Nat.le_of_ble_eq_true rfl⟩ rfl rfl (fun r3 hB => ?_)
  exact q_zret hB dX10_isThere_14 rfl (by decide) (by decide)

def b_X10_dropOn_15  (k15 : Nat → Int32 → Int32 → HS → Option (Unit × HS)) (a0 : Nat) (a1 : Int32) (a3 : Int32) (h : HS) : Option (Unit × HS) :=
  nn (some a0) (fun n2 => gd (rk h n2 8) (bd (f_X10_many n2 a1 h) (fun r1 => (if r1.1 ≤ a3 then some ((), r1.2) else nn (some a0) (fun n3 => gd (ck r1.2 n3 8) (nn (some a0) (fun n4 => gd (ck r1.2 n4 8) (nn (hP r1.2 n4 12) (fun n5 => gd (ca r1.2 n5 9 ((((17 : Int32) * a1) + (2 : Int32)) + a3)) (nn (hP r1.2 n3 12) (fun n6 => gd (ca r1.2 n6 9 ((((17 : Int32) * a1) + (1 : Int32)) + a3)) (hl (sI r1.2 n6 ((((17 : Int32) * a1) + (1 : Int32)) + a3).toNatClampNeg (hI r1.2 n5 ((((17 : Int32) * a1) + (2 : Int32)) + a3).toNatClampNeg)) (fun h7 => k15 a0 a1 (a3 + (1 : Int32)) h7)))))))))))))
def l_X10_dropOn_15  : Nat → Nat → Int32 → Int32 → HS → Option (Unit × HS)
  | 0 => fun _ _ _ _ => none
  | n + 1 => b_X10_dropOn_15 (l_X10_dropOn_15 n)
def f_X10_dropOn  (a0 : Nat) (a1 : Int32) (a2 : Int32) (h : HS) : Option (Unit × HS) :=
  nn (some a0) (fun n1 => gd (ck h n1 8) (nn (hP h n1 12) (fun n2 => gd (ca h n2 9 ((17 : Int32) * a1)) (nn (hP h n1 12) (fun n3 => gd (ca h n3 9 ((17 : Int32) * a1)) (hl (sI h n3 ((17 : Int32) * a1).toNatClampNeg ((hI h n2 ((17 : Int32) * a1).toNatClampNeg) - (1 : Int32))) (fun h4 => l_X10_dropOn_15 FU a0 a1 a2 h4)))))))
set_option maxHeartbeats 4000000 in
set_option maxRecDepth 100000 in
theorem wb_X10_dropOn_15 (g : GG) (l : Launch) (k15 : Nat → Int32 → Int32 → HS → Option (Unit × HS)) (a0 : Nat) (a1 : Int32) (a3 : Int32) (h : HS) (o : Unit × HS) (hB : b_X10_dropOn_15 k15 a0 a1 a3 h = some o) (hk15 : ∀ (a0 : Nat) (a1 : Int32) (a3 : Int32) (h : HS), k15 a0 a1 a3 h = some o → Wq g l mX10_dropOn 0 0 15 [some (va_rf (some a0)), some (.int a1), none, some (.int a3)] [] h (QV o)) : Wq g l mX10_dropOn 0 0 15 [some (va_rf (some a0)), some (.int a1), none, some (.int a3)] [] h (QV o) := by
  unfold b_X10_dropOn_15 at hB
  refine q_iload_n dX10_dropOn_15 rfl rfl ?_
  refine q_aload_n dX10_dropOn_16 rfl rfl ?_
  refine q_iload_n dX10_dropOn_17 rfl rfl ?_
  refine q_callVI (k' := 0) (w' := 0) hB (fun b a hf => c_X10_many g l b _ _ a hf) rfl rfl dX10_dropOn_18 wd_867 cs_X10_many wd_869 wd_23 rfl ⟨⟨Nat.le_of_ble_eq_true rfl, Nat.le_of_ble_eq_true rfl⟩, ⟨Nat.le_of_ble_eq_true rfl, Nat.le_of_ble_eq_true rfl⟩, by simp [rf_cat, cat_i, cat_l]⟩ rfl rfl (fun n2 r1 hB => ?_)
  refine q_icmp_ge (tgt := 56) hB dX10_dropOn_21 (by decide) (fun hB => ?_) (fun hB => ?_)
  · exact q_vret hB dX10_dropOn_56 rfl (by decide) (by decide)
  · refine q_aload_n dX10_dropOn_24 rfl rfl ?_
    refine q_getP (j := 12) hB dX10_dropOn_25 fc_8 (by decide) rfl wd_741 (fun n3 hB => ?_)
    refine q_bipush (v := 17) dX10_dropOn_28 (by decide) ?_
    refine q_iload_n dX10_dropOn_30 rfl rfl ?_
    refine q_imul dX10_dropOn_31 ?_
    refine q_iconst (v := 1) dX10_dropOn_32 (by decide) ?_
    refine q_iadd dX10_dropOn_33 ?_
    refine q_iload_n dX10_dropOn_34 rfl rfl ?_
    refine q_iadd dX10_dropOn_35 ?_
    refine q_aload_n dX10_dropOn_36 rfl rfl ?_
    refine q_getP (j := 12) hB dX10_dropOn_37 fc_8 (by decide) rfl wd_741 (fun n4 hB => ?_)
    refine q_bipush (v := 17) dX10_dropOn_40 (by decide) ?_
    refine q_iload_n dX10_dropOn_42 rfl rfl ?_
    refine q_imul dX10_dropOn_43 ?_
    refine q_iconst (v := 2) dX10_dropOn_44 (by decide) ?_
    refine q_iadd dX10_dropOn_45 ?_
    refine q_iload_n dX10_dropOn_46 rfl rfl ?_
    refine q_iadd dX10_dropOn_47 ?_
    refine q_iald hB dX10_dropOn_48 (fun n5 hB => ?_)
    refine q_iast hB dX10_dropOn_49 (fun n6 hB => ?_)
    refine q_nm hB (fun h7 hB => ?_)
    refine q_iinc dX10_dropOn_50 rfl (show _ = (a3 + (1 : Int32)) from rfl) (by decide) (nb_n (j := 2) rfl) ?_
    refine q_goto (tgt := 15) dX10_dropOn_53 (by decide) ?_
    exact Wq.mask [true, true, false, true] rfl (hk15 _ _ _ _ hB)
set_option maxHeartbeats 4000000 in
theorem wl_X10_dropOn_15 (g : GG) (l : Launch) (o : Unit × HS) : ∀ (n : Nat) (a0 : Nat) (a1 : Int32) (a3 : Int32) (h : HS), l_X10_dropOn_15 n a0 a1 a3 h = some o → Wq g l mX10_dropOn 0 0 15 [some (va_rf (some a0)), some (.int a1), none, some (.int a3)] [] h (QV o) := by
  intro n
  induction n with
  | zero =>
    intro a0 a1 a3  h hB
    have q : (none : Option (Unit × HS)) = some o := hB
    cases q
  | succ n ih =>
    intro a0 a1 a3  h hB
    exact wb_X10_dropOn_15 g l (l_X10_dropOn_15 n) a0 a1 a3 h o hB ih
set_option maxHeartbeats 4000000 in
set_option maxRecDepth 100000 in
theorem c_X10_dropOn (g : GG) (l : Launch) (a0 : Nat) (a1 : Int32) (a2 : Int32) (h : HS) (o : Unit × HS) (hB : f_X10_dropOn a0 a1 a2 h = some o) : Ct g l mX10_dropOn [va_rf (some a0), .int a1, .int a2] h (QV o) := by
  refine Ct.of2 (lv0 := [some (va_rf (some a0)), some (.int a1), some (.int a2), none]) (by decide +kernel) (by simp [lg_sl, rf_cat, cat_i, cat_l]) rfl ?_
  unfold f_X10_dropOn at hB
  refine q_aload_n dX10_dropOn_0 rfl rfl ?_
  refine q_getP (j := 12) hB dX10_dropOn_1 fc_8 (by decide) rfl wd_741 (fun n1 hB => ?_)
  refine q_bipush (v := 17) dX10_dropOn_4 (by decide) ?_
  refine q_iload_n dX10_dropOn_6 rfl rfl ?_
  refine q_imul dX10_dropOn_7 ?_
  refine q_dup2 dX10_dropOn_8 rfl (rf_cat _) ?_
  refine q_iald hB dX10_dropOn_9 (fun n2 hB => ?_)
  refine q_iconst (v := 1) dX10_dropOn_10 (by decide) ?_
  refine q_isub dX10_dropOn_11 ?_
  refine q_iast hB dX10_dropOn_12 (fun n3 hB => ?_)
  refine q_nm hB (fun h4 hB => ?_)
  refine q_iload_n dX10_dropOn_13 rfl rfl ?_
  refine q_istore_n dX10_dropOn_14 rfl (by decide) (nb_i (j := 2) rfl) ?_
  exact Wq.mask [true, true, false, true] rfl (wl_X10_dropOn_15 g l o FU _ _ _ _ hB)

def f_X10_drop  (a0 : Nat) (a1 : Int32) (h : HS) : Option (Int32 × HS) :=
  nn (some a0) (fun n2 => gd (rk h n2 8) (bd (f_X10_isThere n2 a1 h) (fun r1 => (if r1.1 = 0 then some ((-1 : Int32), r1.2) else nn (some a0) (fun n4 => gd (rk r1.2 n4 8) (bd (f_X10_keepAct n4 r1.2) (fun r3 => nn (some a0) (fun n6 => gd (rk r3.2 n6 8) (bd (f_X10_amountOf n6 (0 : Int32) a1 r3.2) (fun r5 => nn (some a0) (fun n8 => gd (rk r5.2 n8 8) (bd (f_X10_dropOn n8 (0 : Int32) a1 r5.2) (fun r7 => some (r5.1, r7.2))))))))))))))
set_option maxHeartbeats 4000000 in
set_option maxRecDepth 100000 in
theorem c_X10_drop (g : GG) (l : Launch) (a0 : Nat) (a1 : Int32) (h : HS) (o : Int32 × HS) (hB : f_X10_drop a0 a1 h = some o) : Ct g l mX10_drop [va_rf (some a0), .int a1] h (QI o) := by
  refine Ct.of2 (lv0 := [some (va_rf (some a0)), some (.int a1), none]) (by decide +kernel) (by simp [lg_sl, rf_cat, cat_i, cat_l]) rfl ?_
  unfold f_X10_drop at hB
  refine q_aload_n dX10_drop_0 rfl rfl ?_
  refine q_iload_n dX10_drop_1 rfl rfl ?_
  refine q_callVI (k' := 0) (w' := 0) hB (fun b a hf => c_X10_isThere g l b _ _ a hf) rfl rfl dX10_drop_2 wd_928 cs_X10_isThere wd_930 wd_32 rfl ⟨⟨Nat.le_of_ble_eq_true rfl, Nat.le_of_ble_eq_true rfl⟩, ⟨Nat.le_of_ble_eq_true rfl, Nat.le_of_ble_eq_true rfl⟩, Nat.le_of_ble_eq_true rfl⟩ rfl rfl (fun n2 r1 hB => ?_)
  refine q_if_ne (tgt := 10) hB dX10_drop_5 (by decide) (fun hB => ?_) (fun hB => ?_)
  · refine q_aload_n dX10_drop_10 rfl rfl ?_
    refine q_callVV (k' := 0) (w' := 0) hB (fun b a hf => c_X10_keepAct g l b _ a hf) rfl rfl dX10_drop_11 wd_913 cs_X10_keepAct wd_915 wd_30 rfl ⟨⟨Nat.le_of_ble_eq_true rfl, Nat.le_of_ble_eq_true rfl⟩, ⟨Nat.le_of_ble_eq_true rfl, Nat.le_of_ble_eq_true rfl⟩, Nat.le_of_ble_eq_true rfl⟩ rfl rfl (fun n4 r3 hB => ?_)
    refine q_aload_n dX10_drop_14 rfl rfl ?_
    refine q_iconst (v := 0) dX10_drop_15 (by decide) ?_
    refine q_iload_n dX10_drop_16 rfl rfl ?_
    refine q_callVI (k' := 0) (w' := 0) hB (fun b a hf => c_X10_amountOf g l b _ _ _ a hf) rfl rfl dX10_drop_17 wd_894 cs_X10_amountOf wd_896 wd_29 rfl ⟨⟨Nat.le_of_ble_eq_true rfl, Nat.le_of_ble_eq_true rfl⟩, ⟨Nat.le_of_ble_eq_true rfl, Nat.le_of_ble_eq_true rfl⟩, Nat.le_of_ble_eq_true rfl⟩ rfl rfl (fun n6 r5 hB => ?_)
    refine q_istore_n dX10_drop_20 rfl (by decide) (nb_i (j := 1) rfl) ?_
    refine q_aload_n dX10_drop_21 rfl rfl ?_
    refine q_iconst (v := 0) dX10_drop_22 (by decide) ?_
    refine q_iload_n dX10_drop_23 rfl rfl ?_
    refine q_callVV (k' := 0) (w' := 0) hB (fun b a hf => c_X10_dropOn g l b _ _ _ a hf) rfl rfl dX10_drop_24 wd_932 cs_X10_dropOn wd_934 wd_33 rfl ⟨⟨Nat.le_of_ble_eq_true rfl, Nat.le_of_ble_eq_true rfl⟩, ⟨Nat.le_of_ble_eq_true rfl, Nat.le_of_ble_eq_true rfl⟩, Nat.le_of_ble_eq_true rfl⟩ rfl rfl (fun n8 r7 hB => ?_)
    refine q_iload_n dX10_drop_27 rfl rfl ?_
    exact q_iret hB dX10_drop_28 rfl (by decide) (by decide)
  · refine q_iconst (v := -1) dX10_drop_8 (by decide) ?_
    exact q_iret hB dX10_drop_9 rfl (by decide) (by decide)

def f_X9_change  (a0 : Nat) (a1 : Int32) (a2 : Int32) (h : HS) : Option (Int32 × HS) :=
  nn (some a0) (fun n1 => gd (ck h n1 7) (nn (hP h n1 3) (fun n3 => gd (rk h n3 3) (bd (f_X3_has n3 a1 h) (fun r2 => (if r2.1 = 0 then some ((-1 : Int32), r2.2) else bd (f_X9_isAmount a2 r2.2) (fun r4 => (if r4.1 = 0 then some ((-2 : Int32), r4.2) else nn (some a0) (fun n5 => gd (ck r4.2 n5 7) (nn (hP r4.2 n5 3) (fun n6 => gd (ck r4.2 n6 3) (nn (hP r4.2 n6 2) (fun n7 => gd (ca r4.2 n7 9 a1) (nn (some a0) (fun n8 => gd (ck r4.2 n8 7) (nn (hP r4.2 n8 5) (fun n10 => gd (rk r4.2 n10 1) (bd (f_X1_next n10 r4.2) (fun r9 => nn (some a0) (fun n11 => gd (ck r9.2 n11 7) (nn (hP r9.2 n11 3) (fun n12 => gd (ck r9.2 n12 3) (nn (hP r9.2 n12 0) (fun n13 => gd (ca r9.2 n13 9 a1) (nn (some a0) (fun n14 => gd (ck r9.2 n14 7) (nn (hP r9.2 n14 3) (fun n15 => gd (ck r9.2 n15 3) (nn (hP r9.2 n15 1) (fun n16 => gd (ca r9.2 n16 9 a1) (nn r9.1 (fun n18 => gd (rk r9.2 n18 0) (bd (f_X0_tell n18 (2 : Int32) a1 (hI r9.2 n13 a1.toNatClampNeg) (hI r9.2 n16 a1.toNatClampNeg) (hI r4.2 n7 a1.toNatClampNeg) r9.2) (fun r17 => nn (some a0) (fun n19 => gd (ck r17.2 n19 7) (nn (hP r17.2 n19 3) (fun n20 => gd (ck r17.2 n20 3) (nn (hP r17.2 n20 2) (fun n21 => gd (ca r17.2 n21 9 a1) (some ((hI r4.2 n7 a1.toNatClampNeg), (sI r17.2 n21 a1.toNatClampNeg a2))))))))))))))))))))))))))))))))))))))))))
set_option maxHeartbeats 4000000 in
set_option maxRecDepth 100000 in
theorem c_X9_change (g : GG) (l : Launch) (a0 : Nat) (a1 : Int32) (a2 : Int32) (h : HS) (o : Int32 × HS) (hB : f_X9_change a0 a1 a2 h = some o) : Ct g l mX9_change [va_rf (some a0), .int a1, .int a2] h (QI o) := by
  refine Ct.of2 (lv0 := [some (va_rf (some a0)), some (.int a1), some (.int a2), none]) (by decide +kernel) (by simp [lg_sl, rf_cat, cat_i, cat_l]) rfl ?_
  unfold f_X9_change at hB
  refine q_aload_n dX9_change_0 rfl rfl ?_
  refine q_getP (j := 3) hB dX9_change_1 fc_7 (by decide) rfl wd_243 (fun n1 hB => ?_)
  refine q_iload_n dX9_change_4 rfl rfl ?_
  refine q_callVI (k' := 0) (w' := 0) hB (fun b a hf => c_X3_has g l b _ _ a hf) rfl rfl dX9_change_5 wd_497 cs_X3_has wd_498 wd_499 rfl ⟨⟨Nat.le_of_ble_eq_true rfl, Nat.le_of_ble_eq_true rfl⟩, ⟨Nat.le_of_ble_eq_true rfl, Nat.le_of_ble_eq_true rfl⟩, Nat.le_of_ble_eq_true rfl⟩ rfl rfl (fun n3 r2 hB => ?_)
  refine q_if_ne (tgt := 13) hB dX9_change_8 (by decide) (fun hB => ?_) (fun hB => ?_)
  · refine q_iload_n dX9_change_13 rfl rfl ?_
    refine q_callSI (k' := 0) (w' := 0) hB (fun a hf => c_X9_isAmount g l _ _ a hf) rfl dX9_change_14 wd_462 cs_X9_isAmount wd_463 rfl ⟨⟨Nat.le_of_ble_eq_true rfl, Nat.le_of_ble_eq_true rfl⟩, ⟨Nat.le_of_ble_eq_true rfl, Nat.le_of_ble_eq_true rfl⟩, Nat.le_of_ble_eq_true rfl⟩ rfl rfl (fun r4 hB => ?_)
    refine q_if_ne (tgt := 23) hB dX9_change_17 (by decide) (fun hB => ?_) (fun hB => ?_)
    · refine q_aload_n dX9_change_23 rfl rfl ?_
      refine q_getP (j := 3) hB dX9_change_24 fc_7 (by decide) rfl wd_243 (fun n5 hB => ?_)
      refine q_getP (j := 2) hB dX9_change_27 fc_3 (by decide) rfl wd_144 (fun n6 hB => ?_)
      refine q_iload_n dX9_change_30 rfl rfl ?_
      refine q_iald hB dX9_change_31 (fun n7 hB => ?_)
      refine q_istore_n dX9_change_32 rfl (by decide) (nb_i (j := 2) rfl) ?_
      refine q_aload_n dX9_change_33 rfl rfl ?_
      refine q_getP (j := 5) hB dX9_change_34 fc_7 (by decide) rfl wd_245 (fun n8 hB => ?_)
      refine q_callVP (k' := 0) (w' := 0) hB (fun b a hf => c_X1_next g l b _ a hf) rfl rfl dX9_change_37 wd_469 cs_X1_next wd_470 wd_471 rfl ⟨⟨Nat.le_of_ble_eq_true rfl, Nat.le_of_ble_eq_true rfl⟩, ⟨Nat.le_of_ble_eq_true rfl, Nat.le_of_ble_eq_true rfl⟩, Nat.le_of_ble_eq_true rfl⟩ rfl rfl (fun n10 r9 hB => ?_)
      refine q_iconst (v := 2) dX9_change_40 (by decide) ?_
      refine q_iload_n dX9_change_41 rfl rfl ?_
      refine q_aload_n dX9_change_42 rfl rfl ?_
      refine q_getP (j := 3) hB dX9_change_43 fc_7 (by decide) rfl wd_243 (fun n11 hB => ?_)
      refine q_getP (j := 0) hB dX9_change_46 fc_3 (by decide) rfl wd_137 (fun n12 hB => ?_)
      refine q_iload_n dX9_change_49 rfl rfl ?_
      refine q_iald hB dX9_change_50 (fun n13 hB => ?_)
      refine q_aload_n dX9_change_51 rfl rfl ?_
      refine q_getP (j := 3) hB dX9_change_52 fc_7 (by decide) rfl wd_243 (fun n14 hB => ?_)
      refine q_getP (j := 1) hB dX9_change_55 fc_3 (by decide) rfl wd_140 (fun n15 hB => ?_)
      refine q_iload_n dX9_change_58 rfl rfl ?_
      refine q_iald hB dX9_change_59 (fun n16 hB => ?_)
      refine q_iload_n dX9_change_60 rfl rfl ?_
      refine q_callVV (k' := 0) (w' := 0) hB (fun b a hf => c_X0_tell g l b _ _ _ _ _ _ a hf) rfl rfl dX9_change_61 wd_473 cs_X0_tell wd_474 wd_475 rfl ⟨⟨Nat.le_of_ble_eq_true rfl, Nat.le_of_ble_eq_true rfl⟩, ⟨Nat.le_of_ble_eq_true rfl, Nat.le_of_ble_eq_true rfl⟩, Nat.le_of_ble_eq_true rfl⟩ rfl rfl (fun n18 r17 hB => ?_)
      refine q_aload_n dX9_change_64 rfl rfl ?_
      refine q_getP (j := 3) hB dX9_change_65 fc_7 (by decide) rfl wd_243 (fun n19 hB => ?_)
      refine q_getP (j := 2) hB dX9_change_68 fc_3 (by decide) rfl wd_144 (fun n20 hB => ?_)
      refine q_iload_n dX9_change_71 rfl rfl ?_
      refine q_iload_n dX9_change_72 rfl rfl ?_
      refine q_iast hB dX9_change_73 (fun n21 hB => ?_)
      refine q_iload_n dX9_change_74 rfl rfl ?_
      exact q_iret hB dX9_change_75 rfl (by decide) (by decide)
    · refine q_bipush (v := -2) dX9_change_20 (by decide) ?_
      exact q_iret hB dX9_change_22 rfl (by decide) (by decide)
  · refine q_iconst (v := -1) dX9_change_11 (by decide) ?_
    exact q_iret hB dX9_change_12 rfl (by decide) (by decide)

def f_X10_change  (a0 : Nat) (a1 : Int32) (a2 : Int32) (h : HS) : Option (Int32 × HS) :=
  nn (some a0) (fun n2 => gd (rk h n2 8) (bd (f_X10_isThere n2 a1 h) (fun r1 => (if r1.1 = 0 then some ((-1 : Int32), r1.2) else bd (f_X10_in a2.toInt64 (0 : Int64) (100 : Int64) r1.2) (fun r3 => (if r3.1 = 0 then some ((-2 : Int32), r3.2) else nn (some a0) (fun n5 => gd (rk r3.2 n5 8) (bd (f_X10_keepAct n5 r3.2) (fun r4 => nn (some a0) (fun n7 => gd (rk r4.2 n7 8) (bd (f_X10_amountOf n7 (0 : Int32) a1 r4.2) (fun r6 => nn (some a0) (fun n8 => gd (ck r6.2 n8 8) (nn (hP r6.2 n8 12) (fun n9 => gd (ca r6.2 n9 9 ((1 : Int32) + a1)) (nn (hP r6.2 n8 12) (fun n10 => gd (ca r6.2 n10 9 ((1 : Int32) + a1)) (some (r6.1, (sI r6.2 n10 ((1 : Int32) + a1).toNatClampNeg ((hI r6.2 n9 ((1 : Int32) + a1).toNatClampNeg) + (a2 - r6.1))))))))))))))))))))))
set_option maxHeartbeats 4000000 in
set_option maxRecDepth 100000 in
theorem c_X10_change (g : GG) (l : Launch) (a0 : Nat) (a1 : Int32) (a2 : Int32) (h : HS) (o : Int32 × HS) (hB : f_X10_change a0 a1 a2 h = some o) : Ct g l mX10_change [va_rf (some a0), .int a1, .int a2] h (QI o) := by
  refine Ct.of2 (lv0 := [some (va_rf (some a0)), some (.int a1), some (.int a2), none]) (by decide +kernel) (by simp [lg_sl, rf_cat, cat_i, cat_l]) rfl ?_
  unfold f_X10_change at hB
  refine q_aload_n dX10_change_0 rfl rfl ?_
  refine q_iload_n dX10_change_1 rfl rfl ?_
  refine q_callVI (k' := 0) (w' := 0) hB (fun b a hf => c_X10_isThere g l b _ _ a hf) rfl rfl dX10_change_2 wd_928 cs_X10_isThere wd_930 wd_32 rfl ⟨⟨Nat.le_of_ble_eq_true rfl, Nat.le_of_ble_eq_true rfl⟩, ⟨Nat.le_of_ble_eq_true rfl, Nat.le_of_ble_eq_true rfl⟩, Nat.le_of_ble_eq_true rfl⟩ rfl rfl (fun n2 r1 hB => ?_)
  refine q_if_ne (tgt := 10) hB dX10_change_5 (by decide) (fun hB => ?_) (fun hB => ?_)
  · refine q_iload_n dX10_change_10 rfl rfl ?_
    refine q_i2l dX10_change_11 ?_
    refine q_lconst (v := 0) dX10_change_12 (by decide) ?_
    refine q_ldc2 dX10_change_13 wd_912 ?_
    refine q_callSI (k' := 0) (w' := 0) hB (fun a hf => c_X10_in g l _ _ _ _ a hf) rfl dX10_change_16 wd_825 cs_X10_in wd_826 rfl ⟨⟨Nat.le_of_ble_eq_true rfl, Nat.le_of_ble_eq_true rfl⟩, ⟨Nat.le_of_ble_eq_true rfl, Nat.le_of_ble_eq_true rfl⟩, Nat.le_of_ble_eq_true rfl⟩ rfl rfl (fun r3 hB => ?_)
    refine q_if_ne (tgt := 25) hB dX10_change_19 (by decide) (fun hB => ?_) (fun hB => ?_)
    · refine q_aload_n dX10_change_25 rfl rfl ?_
      refine q_callVV (k' := 0) (w' := 0) hB (fun b a hf => c_X10_keepAct g l b _ a hf) rfl rfl dX10_change_26 wd_913 cs_X10_keepAct wd_915 wd_30 rfl ⟨⟨Nat.le_of_ble_eq_true rfl, Nat.le_of_ble_eq_true rfl⟩, ⟨Nat.le_of_ble_eq_true rfl, Nat.le_of_ble_eq_true rfl⟩, Nat.le_of_ble_eq_true rfl⟩ rfl rfl (fun n5 r4 hB => ?_)
      refine q_aload_n dX10_change_29 rfl rfl ?_
      refine q_iconst (v := 0) dX10_change_30 (by decide) ?_
      refine q_iload_n dX10_change_31 rfl rfl ?_
      refine q_callVI (k' := 0) (w' := 0) hB (fun b a hf => c_X10_amountOf g l b _ _ _ a hf) rfl rfl dX10_change_32 wd_894 cs_X10_amountOf wd_896 wd_29 rfl ⟨⟨Nat.le_of_ble_eq_true rfl, Nat.le_of_ble_eq_true rfl⟩, ⟨Nat.le_of_ble_eq_true rfl, Nat.le_of_ble_eq_true rfl⟩, Nat.le_of_ble_eq_true rfl⟩ rfl rfl (fun n7 r6 hB => ?_)
      refine q_istore_n dX10_change_35 rfl (by decide) (nb_i (j := 2) rfl) ?_
      refine q_aload_n dX10_change_36 rfl rfl ?_
      refine q_getP (j := 12) hB dX10_change_37 fc_8 (by decide) rfl wd_741 (fun n8 hB => ?_)
      refine q_iconst (v := 1) dX10_change_40 (by decide) ?_
      refine q_iload_n dX10_change_41 rfl rfl ?_
      refine q_iadd dX10_change_42 ?_
      refine q_dup2 dX10_change_43 rfl (rf_cat _) ?_
      refine q_iald hB dX10_change_44 (fun n9 hB => ?_)
      refine q_iload_n dX10_change_45 rfl rfl ?_
      refine q_iload_n dX10_change_46 rfl rfl ?_
      refine q_isub dX10_change_47 ?_
      refine q_iadd dX10_change_48 ?_
      refine q_iast hB dX10_change_49 (fun n10 hB => ?_)
      refine q_iload_n dX10_change_50 rfl rfl ?_
      exact q_iret hB dX10_change_51 rfl (by decide) (by decide)
    · refine q_bipush (v := -2) dX10_change_22 (by decide) ?_
      exact q_iret hB dX10_change_24 rfl (by decide) (by decide)
  · refine q_iconst (v := -1) dX10_change_8 (by decide) ?_
    exact q_iret hB dX10_change_9 rfl (by decide) (by decide)

def f_X1_takeLast  (a0 : Nat) (h : HS) : Option (Option Nat × HS) :=
  nn (some a0) (fun n1 => gd (ck h n1 1) ((if (1 : Int32) ≤ (hI h n1 1) then nn (some a0) (fun n2 => gd (ck h n2 1) (nn (some a0) (fun n3 => gd (ck h n3 1) (nn (some a0) (fun n4 => gd (ck (sI h n3 1 ((hI h n2 1) - (1 : Int32))) n4 1) (nn (some a0) (fun n5 => gd (ck (sI h n3 1 ((hI h n2 1) - (1 : Int32))) n5 1) (nn (hP (sI h n3 1 ((hI h n2 1) - (1 : Int32))) n4 0) (fun n6 => gd (ca (sI h n3 1 ((hI h n2 1) - (1 : Int32))) n6 11 (hI (sI h n3 1 ((hI h n2 1) - (1 : Int32))) n5 1)) (some ((hP (sI h n3 1 ((hI h n2 1) - (1 : Int32))) n6 (hI (sI h n3 1 ((hI h n2 1) - (1 : Int32))) n5 1).toNatClampNeg), (sI h n3 1 ((hI h n2 1) - (1 : Int32)))))))))))))) else some (none, h))))
set_option maxHeartbeats 4000000 in
set_option maxRecDepth 100000 in
theorem c_X1_takeLast (g : GG) (l : Launch) (a0 : Nat) (h : HS) (o : Option Nat × HS) (hB : f_X1_takeLast a0 h = some o) : Ct g l mX1_takeLast [va_rf (some a0)] h (QP o) := by
  refine Ct.of2 (lv0 := [some (va_rf (some a0))]) (by decide +kernel) (by simp [lg_sl, rf_cat, cat_i, cat_l]) rfl ?_
  unfold f_X1_takeLast at hB
  refine q_aload_n dX1_takeLast_0 rfl rfl ?_
  refine q_getI (j := 1) hB dX1_takeLast_1 fc_1 (by decide) rfl wd_187 (fun n1 hB => ?_)
  refine q_iconst (v := 1) dX1_takeLast_4 (by decide) ?_
  refine q_icmp_ge (tgt := 10) hB dX1_takeLast_5 (by decide) (fun hB => ?_) (fun hB => ?_)
  · refine q_aload_n dX1_takeLast_10 rfl rfl ?_
    refine q_dup dX1_takeLast_11 (rf_cat _) ?_
    refine q_getI (j := 1) hB dX1_takeLast_12 fc_1 (by decide) rfl wd_187 (fun n2 hB => ?_)
    refine q_iconst (v := 1) dX1_takeLast_15 (by decide) ?_
    refine q_isub dX1_takeLast_16 ?_
    refine q_putI (j := 1) hB dX1_takeLast_17 fc_1 (by decide) rfl wd_187 rfl (fun n3 hB => ?_)
    refine q_aload_n dX1_takeLast_20 rfl rfl ?_
    refine q_getP (j := 0) hB dX1_takeLast_21 fc_1 (by decide) rfl wd_186 (fun n4 hB => ?_)
    refine q_aload_n dX1_takeLast_24 rfl rfl ?_
    refine q_getI (j := 1) hB dX1_takeLast_25 fc_1 (by decide) rfl wd_187 (fun n5 hB => ?_)
    refine q_aaldA hB dX1_takeLast_28 (fun n6 hB => ?_)
    exact q_aret hB dX1_takeLast_29 rfl (by decide) (by decide)
  · refine q_null dX1_takeLast_8 ?_
    exact q_aret hB dX1_takeLast_9 rfl (by decide) (by decide)

def b_X0_takeBack_73  (h : HS) : Option (Unit × HS) :=
  some ((), h)
def f_X0_takeBack  (a0 : Nat) (a1 : Option Nat) (h : HS) : Option (Unit × HS) :=
  nn (some a0) (fun n1 => gd (ck h n1 0) ((if (hI h n1 0) = 0 then nn (some a0) (fun n16 => gd (ck h n16 0) (nn a1 (fun n18 => gd (rk h n18 3) (bd (f_X3_remove n18 (hI h n16 1) h) (fun r17 => b_X0_takeBack_73 r17.2))))) else nn (some a0) (fun n2 => gd (ck h n2 0) ((if (hI h n2 0) = (1 : Int32) then nn (some a0) (fun n10 => gd (ck h n10 0) (nn (some a0) (fun n11 => gd (ck h n11 0) (nn (some a0) (fun n12 => gd (ck h n12 0) (nn (some a0) (fun n13 => gd (ck h n13 0) (nn a1 (fun n15 => gd (rk h n15 3) (bd (f_X3_insert n15 (hI h n10 1) (hI h n11 2) (hI h n12 3) (hI h n13 4) h) (fun r14 => b_X0_takeBack_73 r14.2))))))))))) else nn (some a0) (fun n3 => gd (ck h n3 0) (nn a1 (fun n5 => gd (rk h n5 3) (bd (f_X3_has n5 (hI h n3 1) h) (fun r4 => (if r4.1 = 0 then b_X0_takeBack_73 r4.2 else nn a1 (fun n6 => gd (ck r4.2 n6 3) (nn (some a0) (fun n7 => gd (ck r4.2 n7 0) (nn (some a0) (fun n8 => gd (ck r4.2 n8 0) (nn (hP r4.2 n6 2) (fun n9 => gd (ca r4.2 n9 9 (hI r4.2 n7 1)) (b_X0_takeBack_73 (sI r4.2 n9 (hI r4.2 n7 1).toNatClampNeg (hI r4.2 n8 4))))))))))))))))))))))
set_option maxHeartbeats 4000000 in
set_option maxRecDepth 100000 in
theorem wb_X0_takeBack_73 (g : GG) (l : Launch) (h : HS) (o : Unit × HS) (hB : b_X0_takeBack_73  h = some o) : Wq g l mX0_takeBack 0 0 73 [none, none] [] h (QV o) := by
  unfold b_X0_takeBack_73 at hB
  exact q_vret hB dX0_takeBack_73 rfl (by decide) (by decide)
set_option maxHeartbeats 4000000 in
set_option maxRecDepth 100000 in
theorem c_X0_takeBack (g : GG) (l : Launch) (a0 : Nat) (a1 : Option Nat) (h : HS) (o : Unit × HS) (hB : f_X0_takeBack a0 a1 h = some o) : Ct g l mX0_takeBack [va_rf (some a0), va_rf a1] h (QV o) := by
  refine Ct.of2 (lv0 := [some (va_rf (some a0)), some (va_rf a1)]) (by decide +kernel) (by simp [lg_sl, rf_cat, cat_i, cat_l]) (by simp only [entL_r, entL_i, entL_l]; rfl) ?_
  unfold f_X0_takeBack at hB
  refine q_aload_n dX0_takeBack_0 rfl rfl ?_
  refine q_getI (j := 0) hB dX0_takeBack_1 fc_0 (by decide) rfl wd_170 (fun n1 hB => ?_)
  refine q_if_ne (tgt := 18) hB dX0_takeBack_4 (by decide) (fun hB => ?_) (fun hB => ?_)
  · refine q_aload_n dX0_takeBack_18 rfl rfl ?_
    refine q_getI (j := 0) hB dX0_takeBack_19 fc_0 (by decide) rfl wd_170 (fun n2 hB => ?_)
    refine q_iconst (v := 1) dX0_takeBack_22 (by decide) ?_
    refine q_icmp_ne (tgt := 49) hB dX0_takeBack_23 (by decide) (fun hB => ?_) (fun hB => ?_)
    · refine q_aload_n dX0_takeBack_49 rfl rfl ?_
      refine q_aload_n dX0_takeBack_50 rfl rfl ?_
      refine q_getI (j := 1) hB dX0_takeBack_51 fc_0 (by decide) rfl wd_171 (fun n3 hB => ?_)
      refine q_callVI (k' := 0) (w' := 0) hB (fun b a hf => c_X3_has g l b _ _ a hf) rfl rfl dX0_takeBack_54 wd_524 cs_X3_has wd_498 wd_499 rfl ⟨⟨Nat.le_of_ble_eq_true rfl, Nat.le_of_ble_eq_true rfl⟩, ⟨Nat.le_of_ble_eq_true rfl, Nat.le_of_ble_eq_true rfl⟩, Nat.le_of_ble_eq_true rfl⟩ rfl rfl (fun n5 r4 hB => ?_)
      refine q_if_eq (tgt := 73) hB dX0_takeBack_57 (by decide) (fun hB => ?_) (fun hB => ?_)
      · exact Wq.mask [false, false] rfl (wb_X0_takeBack_73 g l _ o hB)
      · refine q_aload_n dX0_takeBack_60 rfl rfl ?_
        refine q_getP (j := 2) hB dX0_takeBack_61 fc_3 (by decide) rfl wd_142 (fun n6 hB => ?_)
        refine q_aload_n dX0_takeBack_64 rfl rfl ?_
        refine q_getI (j := 1) hB dX0_takeBack_65 fc_0 (by decide) rfl wd_171 (fun n7 hB => ?_)
        refine q_aload_n dX0_takeBack_68 rfl rfl ?_
        refine q_getI (j := 4) hB dX0_takeBack_69 fc_0 (by decide) rfl wd_174 (fun n8 hB => ?_)
        refine q_iast hB dX0_takeBack_72 (fun n9 hB => ?_)
        exact Wq.mask [false, false] rfl (wb_X0_takeBack_73 g l _ o hB)
    · refine q_aload_n dX0_takeBack_26 rfl rfl ?_
      refine q_aload_n dX0_takeBack_27 rfl rfl ?_
      refine q_getI (j := 1) hB dX0_takeBack_28 fc_0 (by decide) rfl wd_171 (fun n10 hB => ?_)
      refine q_aload_n dX0_takeBack_31 rfl rfl ?_
      refine q_getI (j := 2) hB dX0_takeBack_32 fc_0 (by decide) rfl wd_172 (fun n11 hB => ?_)
      refine q_aload_n dX0_takeBack_35 rfl rfl ?_
      refine q_getI (j := 3) hB dX0_takeBack_36 fc_0 (by decide) rfl wd_173 (fun n12 hB => ?_)
      refine q_aload_n dX0_takeBack_39 rfl rfl ?_
      refine q_getI (j := 4) hB dX0_takeBack_40 fc_0 (by decide) rfl wd_174 (fun n13 hB => ?_)
      refine q_callVV (k' := 0) (w' := 0) hB (fun b a hf => c_X3_insert g l b _ _ _ _ _ a hf) rfl rfl dX0_takeBack_43 wd_523 cs_X3_insert wd_482 wd_483 rfl ⟨⟨Nat.le_of_ble_eq_true rfl, Nat.le_of_ble_eq_true rfl⟩, ⟨Nat.le_of_ble_eq_true rfl, Nat.le_of_ble_eq_true rfl⟩, Nat.le_of_ble_eq_true rfl⟩ rfl rfl (fun n15 r14 hB => ?_)
      refine q_goto (tgt := 73) dX0_takeBack_46 (by decide) ?_
      exact Wq.mask [false, false] rfl (wb_X0_takeBack_73 g l _ o hB)
  · refine q_aload_n dX0_takeBack_7 rfl rfl ?_
    refine q_aload_n dX0_takeBack_8 rfl rfl ?_
    refine q_getI (j := 1) hB dX0_takeBack_9 fc_0 (by decide) rfl wd_171 (fun n16 hB => ?_)
    refine q_callVV (k' := 0) (w' := 0) hB (fun b a hf => c_X3_remove g l b _ _ a hf) rfl rfl dX0_takeBack_12 wd_522 cs_X3_remove wd_502 wd_503 rfl ⟨⟨Nat.le_of_ble_eq_true rfl, Nat.le_of_ble_eq_true rfl⟩, ⟨Nat.le_of_ble_eq_true rfl, Nat.le_of_ble_eq_true rfl⟩, Nat.le_of_ble_eq_true rfl⟩ rfl rfl (fun n18 r17 hB => ?_)
    refine q_goto (tgt := 73) dX0_takeBack_15 (by decide) ?_
    exact Wq.mask [false, false] rfl (wb_X0_takeBack_73 g l _ o hB)

def f_X9_undo  (a0 : Nat) (h : HS) : Option (Int32 × HS) :=
  nn (some a0) (fun n1 => gd (ck h n1 7) (nn (hP h n1 5) (fun n3 => gd (rk h n3 1) (bd (f_X1_takeLast n3 h) (fun r2 => (if r2.1 = none then some ((-3 : Int32), r2.2) else nn (some a0) (fun n4 => gd (ck r2.2 n4 7) (nn r2.1 (fun n6 => gd (rk r2.2 n6 0) (bd (f_X0_takeBack n6 (hP r2.2 n4 3) r2.2) (fun r5 => nn (some a0) (fun n7 => gd (ck r5.2 n7 7) (nn (hP r5.2 n7 5) (fun n8 => gd (ck r5.2 n8 1) (some ((hI r5.2 n8 1), r5.2))))))))))))))))
set_option maxHeartbeats 4000000 in
set_option maxRecDepth 100000 in
theorem c_X9_undo (g : GG) (l : Launch) (a0 : Nat) (h : HS) (o : Int32 × HS) (hB : f_X9_undo a0 h = some o) : Ct g l mX9_undo [va_rf (some a0)] h (QI o) := by
  refine Ct.of2 (lv0 := [some (va_rf (some a0)), none]) (by decide +kernel) (by simp [lg_sl, rf_cat, cat_i, cat_l]) rfl ?_
  unfold f_X9_undo at hB
  refine q_aload_n dX9_undo_0 rfl rfl ?_
  refine q_getP (j := 5) hB dX9_undo_1 fc_7 (by decide) rfl wd_245 (fun n1 hB => ?_)
  refine q_callVP (k' := 0) (w' := 0) hB (fun b a hf => c_X1_takeLast g l b _ a hf) rfl rfl dX9_undo_4 wd_514 cs_X1_takeLast wd_515 wd_516 rfl ⟨⟨Nat.le_of_ble_eq_true rfl, Nat.le_of_ble_eq_true rfl⟩, ⟨Nat.le_of_ble_eq_true rfl, Nat.le_of_ble_eq_true rfl⟩, Nat.le_of_ble_eq_true rfl⟩ rfl rfl (fun n3 r2 hB => ?_)
  refine q_astore_n dX9_undo_7 rfl (by decide) (nb_r (j := 0) rfl) ?_
  refine q_aload_n dX9_undo_8 rfl rfl ?_
  refine q_ifnonnull (tgt := 15) hB dX9_undo_9 (by decide) (fun hB => ?_) (fun hB => ?_)
  · refine q_aload_n dX9_undo_15 rfl rfl ?_
    refine q_aload_n dX9_undo_16 rfl rfl ?_
    refine q_getP (j := 3) hB dX9_undo_17 fc_7 (by decide) rfl wd_243 (fun n4 hB => ?_)
    refine q_callVV (k' := 0) (w' := 0) hB (fun b a hf => c_X0_takeBack g l b _ _ a hf) rfl rfl dX9_undo_20 wd_518 cs_X0_takeBack wd_519 wd_520 rfl ⟨⟨Nat.le_of_ble_eq_true rfl, Nat.le_of_ble_eq_true rfl⟩, ⟨Nat.le_of_ble_eq_true rfl, Nat.le_of_ble_eq_true rfl⟩, Nat.le_of_ble_eq_true rfl⟩ rfl rfl (fun n6 r5 hB => ?_)
    refine q_aload_n dX9_undo_23 rfl rfl ?_
    refine q_getP (j := 5) hB dX9_undo_24 fc_7 (by decide) rfl wd_245 (fun n7 hB => ?_)
    refine q_getI (j := 1) hB dX9_undo_27 fc_1 (by decide) rfl wd_188 (fun n8 hB => ?_)
    exact q_iret hB dX9_undo_30 rfl (by decide) (by decide)
  · refine q_bipush (v := -3) dX9_undo_12 (by decide) ?_
    exact q_iret hB dX9_undo_14 rfl (by decide) (by decide)

def b_X10_undo_36  (k36 : Nat → Int32 → HS → Option (Int32 × HS)) (a0 : Nat) (a1 : Int32) (h : HS) : Option (Int32 × HS) :=
  (if (17 : Int32) ≤ a1 then nn (some a0) (fun n1 => gd (ck h n1 8) (some ((hI h n1 20), h))) else nn (some a0) (fun n2 => gd (ck h n2 8) (nn (some a0) (fun n3 => gd (ck h n3 8) (nn (some a0) (fun n4 => gd (ck h n4 8) (nn (hP h n3 22) (fun n5 => gd (ca h n5 9 (((17 : Int32) * (hI h n4 21)) + a1)) (nn (hP h n2 12) (fun n6 => gd (ca h n6 9 a1) (hl (sI h n6 a1.toNatClampNeg (hI h n5 (((17 : Int32) * (hI h n4 21)) + a1).toNatClampNeg)) (fun h7 => k36 a0 (a1 + (1 : Int32)) h7))))))))))))
def l_X10_undo_36  : Nat → Nat → Int32 → HS → Option (Int32 × HS)
  | 0 => fun _ _ _ => none
  | n + 1 => b_X10_undo_36 (l_X10_undo_36 n)
def f_X10_undo  (a0 : Nat) (h : HS) : Option (Int32 × HS) :=
  nn (some a0) (fun n1 => gd (ck h n1 8) ((if (hI h n1 20) = 0 then some ((-3 : Int32), h) else nn (some a0) (fun n2 => gd (ck h n2 8) (nn (some a0) (fun n3 => gd (ck h n3 8) (hl (sI h n3 20 ((hI h n2 20) - (1 : Int32))) (fun h4 => nn (some a0) (fun n5 => gd (ck h4 n5 8) (gd (decide (¬ (14 : Int32) = 0)) (nn (some a0) (fun n6 => gd (ck h4 n6 8) (hl (sI h4 n6 21 (((hI h4 n5 21) + (13 : Int32)) - ((hI h4 n5 21) + (13 : Int32)) / (14 : Int32) * (14 : Int32))) (fun h7 => l_X10_undo_36 FU a0 (0 : Int32) h7))))))))))))))
set_option maxHeartbeats 4000000 in
set_option maxRecDepth 100000 in
theorem wb_X10_undo_36 (g : GG) (l : Launch) (k36 : Nat → Int32 → HS → Option (Int32 × HS)) (a0 : Nat) (a1 : Int32) (h : HS) (o : Int32 × HS) (hB : b_X10_undo_36 k36 a0 a1 h = some o) (hk36 : ∀ (a0 : Nat) (a1 : Int32) (h : HS), k36 a0 a1 h = some o → Wq g l mX10_undo 0 0 36 [some (va_rf (some a0)), some (.int a1)] [] h (QI o)) : Wq g l mX10_undo 0 0 36 [some (va_rf (some a0)), some (.int a1)] [] h (QI o) := by
  unfold b_X10_undo_36 at hB
  refine q_iload_n dX10_undo_36 rfl rfl ?_
  refine q_bipush (v := 17) dX10_undo_37 (by decide) ?_
  refine q_icmp_ge (tgt := 68) hB dX10_undo_39 (by decide) (fun hB => ?_) (fun hB => ?_)
  · refine q_aload_n dX10_undo_68 rfl rfl ?_
    refine q_getI (j := 20) hB dX10_undo_69 fc_8 (by decide) rfl wd_749 (fun n1 hB => ?_)
    exact q_iret hB dX10_undo_72 rfl (by decide) (by decide)
  · refine q_aload_n dX10_undo_42 rfl rfl ?_
    refine q_getP (j := 12) hB dX10_undo_43 fc_8 (by decide) rfl wd_741 (fun n2 hB => ?_)
    refine q_iload_n dX10_undo_46 rfl rfl ?_
    refine q_aload_n dX10_undo_47 rfl rfl ?_
    refine q_getP (j := 22) hB dX10_undo_48 fc_8 (by decide) rfl wd_751 (fun n3 hB => ?_)
    refine q_bipush (v := 17) dX10_undo_51 (by decide) ?_
    refine q_aload_n dX10_undo_53 rfl rfl ?_
    refine q_getI (j := 21) hB dX10_undo_54 fc_8 (by decide) rfl wd_750 (fun n4 hB => ?_)
    refine q_imul dX10_undo_57 ?_
    refine q_iload_n dX10_undo_58 rfl rfl ?_
    refine q_iadd dX10_undo_59 ?_
    refine q_iald hB dX10_undo_60 (fun n5 hB => ?_)
    refine q_iast hB dX10_undo_61 (fun n6 hB => ?_)
    refine q_nm hB (fun h7 hB => ?_)
    refine q_iinc dX10_undo_62 rfl (show _ = (a1 + (1 : Int32)) from rfl) (by decide) (nb_r (j := 0) rfl) ?_
    refine q_goto (tgt := 36) dX10_undo_65 (by decide) ?_
    exact Wq.mask [true, true] rfl (hk36 _ _ _ hB)
set_option maxHeartbeats 4000000 in
theorem wl_X10_undo_36 (g : GG) (l : Launch) (o : Int32 × HS) : ∀ (n : Nat) (a0 : Nat) (a1 : Int32) (h : HS), l_X10_undo_36 n a0 a1 h = some o → Wq g l mX10_undo 0 0 36 [some (va_rf (some a0)), some (.int a1)] [] h (QI o) := by
  intro n
  induction n with
  | zero =>
    intro a0 a1  h hB
    have q : (none : Option (Int32 × HS)) = some o := hB
    cases q
  | succ n ih =>
    intro a0 a1  h hB
    exact wb_X10_undo_36 g l (l_X10_undo_36 n) a0 a1 h o hB ih
set_option maxHeartbeats 4000000 in
set_option maxRecDepth 100000 in
theorem c_X10_undo (g : GG) (l : Launch) (a0 : Nat) (h : HS) (o : Int32 × HS) (hB : f_X10_undo a0 h = some o) : Ct g l mX10_undo [va_rf (some a0)] h (QI o) := by
  refine Ct.of2 (lv0 := [some (va_rf (some a0)), none]) (by decide +kernel) (by simp [lg_sl, rf_cat, cat_i, cat_l]) rfl ?_
  unfold f_X10_undo at hB
  refine q_aload_n dX10_undo_0 rfl rfl ?_
  refine q_getI (j := 20) hB dX10_undo_1 fc_8 (by decide) rfl wd_749 (fun n1 hB => ?_)
  refine q_if_ne (tgt := 10) hB dX10_undo_4 (by decide) (fun hB => ?_) (fun hB => ?_)
  · refine q_aload_n dX10_undo_10 rfl rfl ?_
    refine q_dup dX10_undo_11 (rf_cat _) ?_
    refine q_getI (j := 20) hB dX10_undo_12 fc_8 (by decide) rfl wd_749 (fun n2 hB => ?_)
    refine q_iconst (v := 1) dX10_undo_15 (by decide) ?_
    refine q_isub dX10_undo_16 ?_
    refine q_putI (j := 20) hB dX10_undo_17 fc_8 (by decide) rfl wd_749 rfl (fun n3 hB => ?_)
    refine q_nm hB (fun h4 hB => ?_)
    refine q_aload_n dX10_undo_20 rfl rfl ?_
    refine q_aload_n dX10_undo_21 rfl rfl ?_
    refine q_getI (j := 21) hB dX10_undo_22 fc_8 (by decide) rfl wd_750 (fun n5 hB => ?_)
    refine q_bipush (v := 13) dX10_undo_25 (by decide) ?_
    refine q_iadd dX10_undo_27 ?_
    refine q_bipush (v := 14) dX10_undo_28 (by decide) ?_
    refine q_irem hB dX10_undo_30 (fun hB => ?_)
    refine q_putI (j := 21) hB dX10_undo_31 fc_8 (by decide) rfl wd_750 rfl (fun n6 hB => ?_)
    refine q_nm hB (fun h7 hB => ?_)
    refine q_iconst (v := 0) dX10_undo_34 (by decide) ?_
    refine q_istore_n dX10_undo_35 rfl (by decide) (nb_r (j := 0) rfl) ?_
    exact Wq.mask [true, true] rfl (wl_X10_undo_36 g l o FU _ _ _ hB)
  · refine q_bipush (v := -3) dX10_undo_7 (by decide) ?_
    exact q_iret hB dX10_undo_9 rfl (by decide) (by decide)

def b_X2_keyOfEntry_2  (k2 : Nat → Int32 → Int32 → HS → Option (Int32 × HS)) (a0 : Nat) (a1 : Int32) (a2 : Int32) (h : HS) : Option (Int32 × HS) :=
  nn (some a0) (fun n1 => gd (ck h n1 2) ((if (hI h n1 3) ≤ a2 then some ((-9 : Int32), h) else nn (some a0) (fun n2 => gd (ck h n2 2) (nn (hP h n2 1) (fun n3 => gd (ca h n3 9 a2) ((if (((hI h n3 a2.toNatClampNeg) >>> (a1 &&& 31)) &&& (1 : Int32)) = (1 : Int32) then nn (some a0) (fun n4 => gd (ck h n4 2) (nn (hP h n4 0) (fun n5 => gd (ca h n5 9 a2) (some ((hI h n5 a2.toNatClampNeg), h))))) else k2 a0 a1 (a2 + (1 : Int32)) h))))))))
def l_X2_keyOfEntry_2  : Nat → Nat → Int32 → Int32 → HS → Option (Int32 × HS)
  | 0 => fun _ _ _ _ => none
  | n + 1 => b_X2_keyOfEntry_2 (l_X2_keyOfEntry_2 n)
def f_X2_keyOfEntry  (a0 : Nat) (a1 : Int32) (h : HS) : Option (Int32 × HS) :=
  l_X2_keyOfEntry_2 FU a0 a1 (0 : Int32) h
set_option maxHeartbeats 4000000 in
set_option maxRecDepth 100000 in
theorem wb_X2_keyOfEntry_2 (g : GG) (l : Launch) (k2 : Nat → Int32 → Int32 → HS → Option (Int32 × HS)) (a0 : Nat) (a1 : Int32) (a2 : Int32) (h : HS) (o : Int32 × HS) (hB : b_X2_keyOfEntry_2 k2 a0 a1 a2 h = some o) (hk2 : ∀ (a0 : Nat) (a1 : Int32) (a2 : Int32) (h : HS), k2 a0 a1 a2 h = some o → Wq g l mX2_keyOfEntry 0 0 2 [some (va_rf (some a0)), some (.int a1), some (.int a2)] [] h (QI o)) : Wq g l mX2_keyOfEntry 0 0 2 [some (va_rf (some a0)), some (.int a1), some (.int a2)] [] h (QI o) := by
  unfold b_X2_keyOfEntry_2 at hB
  refine q_iload_n dX2_keyOfEntry_2 rfl rfl ?_
  refine q_aload_n dX2_keyOfEntry_3 rfl rfl ?_
  refine q_getI (j := 3) hB dX2_keyOfEntry_4 fc_2 (by decide) rfl wd_204 (fun n1 hB => ?_)
  refine q_icmp_ge (tgt := 37) hB dX2_keyOfEntry_7 (by decide) (fun hB => ?_) (fun hB => ?_)
  · refine q_bipush (v := -9) dX2_keyOfEntry_37 (by decide) ?_
    exact q_iret hB dX2_keyOfEntry_39 rfl (by decide) (by decide)
  · refine q_aload_n dX2_keyOfEntry_10 rfl rfl ?_
    refine q_getP (j := 1) hB dX2_keyOfEntry_11 fc_2 (by decide) rfl wd_202 (fun n2 hB => ?_)
    refine q_iload_n dX2_keyOfEntry_14 rfl rfl ?_
    refine q_iald hB dX2_keyOfEntry_15 (fun n3 hB => ?_)
    refine q_iload_n dX2_keyOfEntry_16 rfl rfl ?_
    refine q_ishr dX2_keyOfEntry_17 ?_
    refine q_iconst (v := 1) dX2_keyOfEntry_18 (by decide) ?_
    refine q_iand dX2_keyOfEntry_19 ?_
    refine q_iconst (v := 1) dX2_keyOfEntry_20 (by decide) ?_
    refine q_icmp_ne (tgt := 31) hB dX2_keyOfEntry_21 (by decide) (fun hB => ?_) (fun hB => ?_)
    · refine q_iinc dX2_keyOfEntry_31 rfl (show _ = (a2 + (1 : Int32)) from rfl) (by decide) (nb_i (j := 1) rfl) ?_
      refine q_goto (tgt := 2) dX2_keyOfEntry_34 (by decide) ?_
      exact Wq.mask [true, true, true] rfl (hk2 _ _ _ _ hB)
    · refine q_aload_n dX2_keyOfEntry_24 rfl rfl ?_
      refine q_getP (j := 0) hB dX2_keyOfEntry_25 fc_2 (by decide) rfl wd_200 (fun n4 hB => ?_)
      refine q_iload_n dX2_keyOfEntry_28 rfl rfl ?_
      refine q_iald hB dX2_keyOfEntry_29 (fun n5 hB => ?_)
      exact q_iret hB dX2_keyOfEntry_30 rfl (by decide) (by decide)
set_option maxHeartbeats 4000000 in
theorem wl_X2_keyOfEntry_2 (g : GG) (l : Launch) (o : Int32 × HS) : ∀ (n : Nat) (a0 : Nat) (a1 : Int32) (a2 : Int32) (h : HS), l_X2_keyOfEntry_2 n a0 a1 a2 h = some o → Wq g l mX2_keyOfEntry 0 0 2 [some (va_rf (some a0)), some (.int a1), some (.int a2)] [] h (QI o) := by
  intro n
  induction n with
  | zero =>
    intro a0 a1 a2  h hB
    have q : (none : Option (Int32 × HS)) = some o := hB
    cases q
  | succ n ih =>
    intro a0 a1 a2  h hB
    exact wb_X2_keyOfEntry_2 g l (l_X2_keyOfEntry_2 n) a0 a1 a2 h o hB ih
set_option maxHeartbeats 4000000 in
set_option maxRecDepth 100000 in
theorem c_X2_keyOfEntry (g : GG) (l : Launch) (a0 : Nat) (a1 : Int32) (h : HS) (o : Int32 × HS) (hB : f_X2_keyOfEntry a0 a1 h = some o) : Ct g l mX2_keyOfEntry [va_rf (some a0), .int a1] h (QI o) := by
  refine Ct.of2 (lv0 := [some (va_rf (some a0)), some (.int a1), none]) (by decide +kernel) (by simp [lg_sl, rf_cat, cat_i, cat_l]) rfl ?_
  unfold f_X2_keyOfEntry at hB
  refine q_iconst (v := 0) dX2_keyOfEntry_0 (by decide) ?_
  refine q_istore_n dX2_keyOfEntry_1 rfl (by decide) (nb_i (j := 1) rfl) ?_
  exact Wq.mask [true, true, true] rfl (wl_X2_keyOfEntry_2 g l o FU _ _ _ _ hB)

def f_X9_columnsOf  (a0 : Nat) (a1 : Option Nat) (h : HS) : Option (Option Nat × HS) :=
  nn (some a0) (fun n1 => gd (ck h n1 7) (nn (some a0) (fun n2 => gd (ck h n2 7) (nn (hP h n2 1) (fun n3 => gd (ck h n3 4) (nn (some a0) (fun n4 => gd (ck h n4 7) (nn (hP h n4 1) (fun n5 => gd (ck h n5 4) (nn (hP h n1 7) (fun n7 => gd (rk h n7 2) (bd (f_X2_gather n7 a1 (hP h n3 1) (hI h n5 4) h) (fun r6 => nn (some a0) (fun n8 => gd (ck r6.2 n8 7) (some ((hP r6.2 n8 7), r6.2))))))))))))))))
set_option maxHeartbeats 4000000 in
set_option maxRecDepth 100000 in
theorem c_X9_columnsOf (g : GG) (l : Launch) (a0 : Nat) (a1 : Option Nat) (h : HS) (o : Option Nat × HS) (hB : f_X9_columnsOf a0 a1 h = some o) : Ct g l mX9_columnsOf [va_rf (some a0), va_rf a1] h (QP o) := by
  refine Ct.of2 (lv0 := [some (va_rf (some a0)), some (va_rf a1)]) (by decide +kernel) (by simp [lg_sl, rf_cat, cat_i, cat_l]) (by simp only [entL_r, entL_i, entL_l]; rfl) ?_
  unfold f_X9_columnsOf at hB
  refine q_aload_n dX9_columnsOf_0 rfl rfl ?_
  refine q_getP (j := 7) hB dX9_columnsOf_1 fc_7 (by decide) rfl wd_247 (fun n1 hB => ?_)
  refine q_aload_n dX9_columnsOf_4 rfl rfl ?_
  refine q_aload_n dX9_columnsOf_5 rfl rfl ?_
  refine q_getP (j := 1) hB dX9_columnsOf_6 fc_7 (by decide) rfl wd_241 (fun n2 hB => ?_)
  refine q_getP (j := 1) hB dX9_columnsOf_9 fc_4 (by decide) rfl wd_108 (fun n3 hB => ?_)
  refine q_aload_n dX9_columnsOf_12 rfl rfl ?_
  refine q_getP (j := 1) hB dX9_columnsOf_13 fc_7 (by decide) rfl wd_241 (fun n4 hB => ?_)
  refine q_getI (j := 4) hB dX9_columnsOf_16 fc_4 (by decide) rfl wd_117 (fun n5 hB => ?_)
  refine q_callVV (k' := 0) (w' := 0) hB (fun b a hf => c_X2_gather g l b _ _ _ _ a hf) rfl rfl dX9_columnsOf_19 wd_384 cs_X2_gather wd_385 wd_386 rfl ⟨⟨Nat.le_of_ble_eq_true rfl, Nat.le_of_ble_eq_true rfl⟩, ⟨Nat.le_of_ble_eq_true rfl, Nat.le_of_ble_eq_true rfl⟩, Nat.le_of_ble_eq_true rfl⟩ rfl rfl (fun n7 r6 hB => ?_)
  refine q_aload_n dX9_columnsOf_22 rfl rfl ?_
  refine q_getP (j := 7) hB dX9_columnsOf_23 fc_7 (by decide) rfl wd_247 (fun n8 hB => ?_)
  exact q_aret hB dX9_columnsOf_26 rfl (by decide) (by decide)

def b_X9_entry_48  (a0 : Nat) (a1 : Int32) (h : HS) : Option (Int32 × HS) :=
  nn (some a0) (fun n1 => gd (ck h n1 7) (nn (hP h n1 3) (fun n2 => gd (ck h n2 3) (nn (hP h n2 0) (fun n3 => gd (ca h n3 9 a1) (some ((hI h n3 a1.toNatClampNeg), h)))))))
def b_X9_entry_58  (a0 : Nat) (a1 : Int32) (h : HS) : Option (Int32 × HS) :=
  nn (some a0) (fun n1 => gd (ck h n1 7) (nn (hP h n1 3) (fun n2 => gd (ck h n2 3) (nn (hP h n2 1) (fun n3 => gd (ca h n3 9 a1) (some ((hI h n3 a1.toNatClampNeg), h)))))))
def b_X9_entry_68  (a0 : Nat) (a1 : Int32) (h : HS) : Option (Int32 × HS) :=
  nn (some a0) (fun n1 => gd (ck h n1 7) (nn (hP h n1 3) (fun n2 => gd (ck h n2 3) (nn (hP h n2 2) (fun n3 => gd (ca h n3 9 a1) (some ((hI h n3 a1.toNatClampNeg), h)))))))
def b_X9_entry_78  (a0 : Nat) (a1 : Int32) (h : HS) : Option (Int32 × HS) :=
  nn (some a0) (fun n1 => gd (ck h n1 7) (nn (some a0) (fun n3 => gd (rk h n3 7) (bd (f_X9_rowsOf n3 (hP h n1 3) h) (fun r2 => nn r2.1 (fun n5 => gd (rk r2.2 n5 2) (bd (f_X2_keyOfEntry n5 a1 r2.2) (fun r4 => some (r4.1, r4.2)))))))))
def b_X9_entry_91  (a0 : Nat) (a1 : Int32) (h : HS) : Option (Int32 × HS) :=
  nn (some a0) (fun n1 => gd (ck h n1 7) (nn (some a0) (fun n3 => gd (rk h n3 7) (bd (f_X9_columnsOf n3 (hP h n1 3) h) (fun r2 => nn r2.1 (fun n5 => gd (rk r2.2 n5 2) (bd (f_X2_keyOfEntry n5 a1 r2.2) (fun r4 => some (r4.1, r4.2)))))))))
def b_X9_entry_104  (h : HS) : Option (Int32 × HS) :=
  some ((-2 : Int32), h)
def f_X9_entry  (a0 : Nat) (a1 : Int32) (a2 : Int32) (h : HS) : Option (Int32 × HS) :=
  nn (some a0) (fun n1 => gd (ck h n1 7) (nn (hP h n1 3) (fun n3 => gd (rk h n3 3) (bd (f_X3_has n3 a1 h) (fun r2 => (if r2.1 = 0 then some ((-1 : Int32), r2.2) else swT a2 0 [b_X9_entry_48 a0 a1 r2.2, b_X9_entry_58 a0 a1 r2.2, b_X9_entry_68 a0 a1 r2.2, b_X9_entry_78 a0 a1 r2.2, b_X9_entry_91 a0 a1 r2.2] (b_X9_entry_104 r2.2)))))))
set_option maxHeartbeats 4000000 in
set_option maxRecDepth 100000 in
theorem wb_X9_entry_48 (g : GG) (l : Launch) (a0 : Nat) (a1 : Int32) (h : HS) (o : Int32 × HS) (hB : b_X9_entry_48 a0 a1 h = some o) : Wq g l mX9_entry 0 0 48 [some (va_rf (some a0)), some (.int a1), none] [] h (QI o) := by
  unfold b_X9_entry_48 at hB
  refine q_aload_n dX9_entry_48 rfl rfl ?_
  refine q_getP (j := 3) hB dX9_entry_49 fc_7 (by decide) rfl wd_243 (fun n1 hB => ?_)
  refine q_getP (j := 0) hB dX9_entry_52 fc_3 (by decide) rfl wd_137 (fun n2 hB => ?_)
  refine q_iload_n dX9_entry_55 rfl rfl ?_
  refine q_iald hB dX9_entry_56 (fun n3 hB => ?_)
  exact q_iret hB dX9_entry_57 rfl (by decide) (by decide)
set_option maxHeartbeats 4000000 in
set_option maxRecDepth 100000 in
theorem wb_X9_entry_58 (g : GG) (l : Launch) (a0 : Nat) (a1 : Int32) (h : HS) (o : Int32 × HS) (hB : b_X9_entry_58 a0 a1 h = some o) : Wq g l mX9_entry 0 0 58 [some (va_rf (some a0)), some (.int a1), none] [] h (QI o) := by
  unfold b_X9_entry_58 at hB
  refine q_aload_n dX9_entry_58 rfl rfl ?_
  refine q_getP (j := 3) hB dX9_entry_59 fc_7 (by decide) rfl wd_243 (fun n1 hB => ?_)
  refine q_getP (j := 1) hB dX9_entry_62 fc_3 (by decide) rfl wd_140 (fun n2 hB => ?_)
  refine q_iload_n dX9_entry_65 rfl rfl ?_
  refine q_iald hB dX9_entry_66 (fun n3 hB => ?_)
  exact q_iret hB dX9_entry_67 rfl (by decide) (by decide)
set_option maxHeartbeats 4000000 in
set_option maxRecDepth 100000 in
theorem wb_X9_entry_68 (g : GG) (l : Launch) (a0 : Nat) (a1 : Int32) (h : HS) (o : Int32 × HS) (hB : b_X9_entry_68 a0 a1 h = some o) : Wq g l mX9_entry 0 0 68 [some (va_rf (some a0)), some (.int a1), none] [] h (QI o) := by
  unfold b_X9_entry_68 at hB
  refine q_aload_n dX9_entry_68 rfl rfl ?_
  refine q_getP (j := 3) hB dX9_entry_69 fc_7 (by decide) rfl wd_243 (fun n1 hB => ?_)
  refine q_getP (j := 2) hB dX9_entry_72 fc_3 (by decide) rfl wd_144 (fun n2 hB => ?_)
  refine q_iload_n dX9_entry_75 rfl rfl ?_
  refine q_iald hB dX9_entry_76 (fun n3 hB => ?_)
  exact q_iret hB dX9_entry_77 rfl (by decide) (by decide)
set_option maxHeartbeats 4000000 in
set_option maxRecDepth 100000 in
theorem wb_X9_entry_78 (g : GG) (l : Launch) (a0 : Nat) (a1 : Int32) (h : HS) (o : Int32 × HS) (hB : b_X9_entry_78 a0 a1 h = some o) : Wq g l mX9_entry 0 0 78 [some (va_rf (some a0)), some (.int a1), none] [] h (QI o) := by
  unfold b_X9_entry_78 at hB
  refine q_aload_n dX9_entry_78 rfl rfl ?_
  refine q_aload_n dX9_entry_79 rfl rfl ?_
  refine q_getP (j := 3) hB dX9_entry_80 fc_7 (by decide) rfl wd_243 (fun n1 hB => ?_)
  refine q_callVP (k' := 0) (w' := 0) hB (fun b a hf => c_X9_rowsOf g l b _ _ a hf) rfl rfl dX9_entry_83 wd_380 cs_X9_rowsOf wd_382 wd_3 rfl ⟨⟨Nat.le_of_ble_eq_true rfl, Nat.le_of_ble_eq_true rfl⟩, ⟨Nat.le_of_ble_eq_true rfl, Nat.le_of_ble_eq_true rfl⟩, Nat.le_of_ble_eq_true rfl⟩ rfl rfl (fun n3 r2 hB => ?_)
  refine q_iload_n dX9_entry_86 rfl rfl ?_
  refine q_callVI (k' := 0) (w' := 0) hB (fun b a hf => c_X2_keyOfEntry g l b _ _ a hf) rfl rfl dX9_entry_87 wd_529 cs_X2_keyOfEntry wd_530 wd_531 rfl ⟨⟨Nat.le_of_ble_eq_true rfl, Nat.le_of_ble_eq_true rfl⟩, ⟨Nat.le_of_ble_eq_true rfl, Nat.le_of_ble_eq_true rfl⟩, Nat.le_of_ble_eq_true rfl⟩ rfl rfl (fun n5 r4 hB => ?_)
  exact q_iret hB dX9_entry_90 rfl (by decide) (by decide)
set_option maxHeartbeats 4000000 in
set_option maxRecDepth 100000 in
theorem wb_X9_entry_91 (g : GG) (l : Launch) (a0 : Nat) (a1 : Int32) (h : HS) (o : Int32 × HS) (hB : b_X9_entry_91 a0 a1 h = some o) : Wq g l mX9_entry 0 0 91 [some (va_rf (some a0)), some (.int a1), none] [] h (QI o) := by
  unfold b_X9_entry_91 at hB
  refine q_aload_n dX9_entry_91 rfl rfl ?_
  refine q_aload_n dX9_entry_92 rfl rfl ?_
  refine q_getP (j := 3) hB dX9_entry_93 fc_7 (by decide) rfl wd_243 (fun n1 hB => ?_)
  refine q_callVP (k' := 0) (w' := 0) hB (fun b a hf => c_X9_columnsOf g l b _ _ a hf) rfl rfl dX9_entry_96 wd_533 cs_X9_columnsOf wd_535 wd_7 rfl ⟨⟨Nat.le_of_ble_eq_true rfl, Nat.le_of_ble_eq_true rfl⟩, ⟨Nat.le_of_ble_eq_true rfl, Nat.le_of_ble_eq_true rfl⟩, Nat.le_of_ble_eq_true rfl⟩ rfl rfl (fun n3 r2 hB => ?_)
  refine q_iload_n dX9_entry_99 rfl rfl ?_
  refine q_callVI (k' := 0) (w' := 0) hB (fun b a hf => c_X2_keyOfEntry g l b _ _ a hf) rfl rfl dX9_entry_100 wd_529 cs_X2_keyOfEntry wd_530 wd_531 rfl ⟨⟨Nat.le_of_ble_eq_true rfl, Nat.le_of_ble_eq_true rfl⟩, ⟨Nat.le_of_ble_eq_true rfl, Nat.le_of_ble_eq_true rfl⟩, Nat.le_of_ble_eq_true rfl⟩ rfl rfl (fun n5 r4 hB => ?_)
  exact q_iret hB dX9_entry_103 rfl (by decide) (by decide)
set_option maxHeartbeats 4000000 in
set_option maxRecDepth 100000 in
theorem wb_X9_entry_104 (g : GG) (l : Launch) (h : HS) (o : Int32 × HS) (hB : b_X9_entry_104  h = some o) : Wq g l mX9_entry 0 0 104 [none, none, none] [] h (QI o) := by
  unfold b_X9_entry_104 at hB
  refine q_bipush (v := -2) dX9_entry_104 (by decide) ?_
  exact q_iret hB dX9_entry_106 rfl (by decide) (by decide)
set_option maxHeartbeats 4000000 in
set_option maxRecDepth 100000 in
theorem c_X9_entry (g : GG) (l : Launch) (a0 : Nat) (a1 : Int32) (a2 : Int32) (h : HS) (o : Int32 × HS) (hB : f_X9_entry a0 a1 a2 h = some o) : Ct g l mX9_entry [va_rf (some a0), .int a1, .int a2] h (QI o) := by
  refine Ct.of2 (lv0 := [some (va_rf (some a0)), some (.int a1), some (.int a2)]) (by decide +kernel) (by simp [lg_sl, rf_cat, cat_i, cat_l]) rfl ?_
  unfold f_X9_entry at hB
  refine q_aload_n dX9_entry_0 rfl rfl ?_
  refine q_getP (j := 3) hB dX9_entry_1 fc_7 (by decide) rfl wd_243 (fun n1 hB => ?_)
  refine q_iload_n dX9_entry_4 rfl rfl ?_
  refine q_callVI (k' := 0) (w' := 0) hB (fun b a hf => c_X3_has g l b _ _ a hf) rfl rfl dX9_entry_5 wd_497 cs_X3_has wd_498 wd_499 rfl ⟨⟨Nat.le_of_ble_eq_true rfl, Nat.le_of_ble_eq_true rfl⟩, ⟨Nat.le_of_ble_eq_true rfl, Nat.le_of_ble_eq_true rfl⟩, Nat.le_of_ble_eq_true rfl⟩ rfl rfl (fun n3 r2 hB => ?_)
  refine q_if_ne (tgt := 13) hB dX9_entry_8 (by decide) (fun hB => ?_) (fun hB => ?_)
  · refine q_iload_n dX9_entry_13 rfl rfl ?_
    refine q_tab (dt := 104) [48, 58, 68, 78, 91] hB dX9_entry_14 rfl rfl (by decide) (by decide) (fun hB => ?_) (fun i hi hB => ?_)
    · exact Wq.mask [false, false, false] rfl (wb_X9_entry_104 g l _ o hB)
    · match i, hi, hB with
      | 0, _, hB =>
        simp only [List.getD_cons_zero, List.getD_cons_succ] at hB
        exact Wq.mask [true, true, false] rfl (wb_X9_entry_48 g l _ _ _ o hB)
      | 1, _, hB =>
        simp only [List.getD_cons_zero, List.getD_cons_succ] at hB
        exact Wq.mask [true, true, false] rfl (wb_X9_entry_58 g l _ _ _ o hB)
      | 2, _, hB =>
        simp only [List.getD_cons_zero, List.getD_cons_succ] at hB
        exact Wq.mask [true, true, false] rfl (wb_X9_entry_68 g l _ _ _ o hB)
      | 3, _, hB =>
        simp only [List.getD_cons_zero, List.getD_cons_succ] at hB
        exact Wq.mask [true, true, false] rfl (wb_X9_entry_78 g l _ _ _ o hB)
      | 4, _, hB =>
        simp only [List.getD_cons_zero, List.getD_cons_succ] at hB
        exact Wq.mask [true, true, false] rfl (wb_X9_entry_91 g l _ _ _ o hB)
      | n + 5, hi, _ => exact absurd hi (by simp only [List.length_cons, List.length_nil]; omega)
  · refine q_iconst (v := -1) dX9_entry_11 (by decide) ?_
    exact q_iret hB dX9_entry_12 rfl (by decide) (by decide)

def b_X10_rowKeyOf_36  (k5 : Nat → Int32 → Int32 → Int32 → HS → Option (Int32 × HS)) (a0 : Nat) (a1 : Int32) (a3 : Int32) (s0 : Int32) (h : HS) : Option (Int32 × HS) :=
  k5 a0 a1 s0 (a3 + (1 : Int32)) h
def b_X10_rowKeyOf_5  (k5 : Nat → Int32 → Int32 → Int32 → HS → Option (Int32 × HS)) (a0 : Nat) (a1 : Int32) (a2 : Int32) (a3 : Int32) (h : HS) : Option (Int32 × HS) :=
  nn (some a0) (fun n1 => gd (ck h n1 8) ((if (hI h n1 13) ≤ a3 then some (a2, h) else nn (some a0) (fun n2 => gd (ck h n2 8) (nn (hP h n2 16) (fun n3 => gd (ca h n3 9 a3) (bd (f_X10_has (hI h n3 a3.toNatClampNeg) a1 h) (fun r4 => (if r4.1 = 0 then b_X10_rowKeyOf_36 k5 a0 a1 a3 a2 r4.2 else nn (some a0) (fun n5 => gd (ck r4.2 n5 8) (nn (hP r4.2 n5 15) (fun n6 => gd (ca r4.2 n6 9 a3) (b_X10_rowKeyOf_36 k5 a0 a1 a3 (hI r4.2 n6 a3.toNatClampNeg) r4.2)))))))))))))
def l_X10_rowKeyOf_5  : Nat → Nat → Int32 → Int32 → Int32 → HS → Option (Int32 × HS)
  | 0 => fun _ _ _ _ _ => none
  | n + 1 => b_X10_rowKeyOf_5 (l_X10_rowKeyOf_5 n)
def f_X10_rowKeyOf  (a0 : Nat) (a1 : Int32) (h : HS) : Option (Int32 × HS) :=
  l_X10_rowKeyOf_5 FU a0 a1 (-9 : Int32) (0 : Int32) h
set_option maxHeartbeats 4000000 in
set_option maxRecDepth 100000 in
theorem wb_X10_rowKeyOf_36 (g : GG) (l : Launch) (k5 : Nat → Int32 → Int32 → Int32 → HS → Option (Int32 × HS)) (a0 : Nat) (a1 : Int32) (a3 : Int32) (s0 : Int32) (h : HS) (o : Int32 × HS) (hB : b_X10_rowKeyOf_36 k5 a0 a1 a3 s0 h = some o) (hk5 : ∀ (a0 : Nat) (a1 : Int32) (a2 : Int32) (a3 : Int32) (h : HS), k5 a0 a1 a2 a3 h = some o → Wq g l mX10_rowKeyOf 0 0 5 [some (va_rf (some a0)), some (.int a1), some (.int a2), some (.int a3)] [] h (QI o)) : Wq g l mX10_rowKeyOf 0 0 36 [some (va_rf (some a0)), some (.int a1), none, some (.int a3)] [.int s0] h (QI o) := by
  unfold b_X10_rowKeyOf_36 at hB
  refine q_istore_n dX10_rowKeyOf_36 rfl (by decide) (nb_i (j := 1) rfl) ?_
  refine q_iinc dX10_rowKeyOf_37 rfl (show _ = (a3 + (1 : Int32)) from rfl) (by decide) (nb_i (j := 2) rfl) ?_
  refine q_goto (tgt := 5) dX10_rowKeyOf_40 (by decide) ?_
  exact Wq.mask [true, true, true, true] rfl (hk5 _ _ _ _ _ hB)
set_option maxHeartbeats 4000000 in
set_option maxRecDepth 100000 in
theorem wb_X10_rowKeyOf_5 (g : GG) (l : Launch) (k5 : Nat → Int32 → Int32 → Int32 → HS → Option (Int32 × HS)) (a0 : Nat) (a1 : Int32) (a2 : Int32) (a3 : Int32) (h : HS) (o : Int32 × HS) (hB : b_X10_rowKeyOf_5 k5 a0 a1 a2 a3 h = some o) (hk5 : ∀ (a0 : Nat) (a1 : Int32) (a2 : Int32) (a3 : Int32) (h : HS), k5 a0 a1 a2 a3 h = some o → Wq g l mX10_rowKeyOf 0 0 5 [some (va_rf (some a0)), some (.int a1), some (.int a2), some (.int a3)] [] h (QI o)) : Wq g l mX10_rowKeyOf 0 0 5 [some (va_rf (some a0)), some (.int a1), some (.int a2), some (.int a3)] [] h (QI o) := by
  unfold b_X10_rowKeyOf_5 at hB
  refine q_iload_n dX10_rowKeyOf_5 rfl rfl ?_
  refine q_aload_n dX10_rowKeyOf_6 rfl rfl ?_
  refine q_getI (j := 13) hB dX10_rowKeyOf_7 fc_8 (by decide) rfl wd_742 (fun n1 hB => ?_)
  refine q_icmp_ge (tgt := 43) hB dX10_rowKeyOf_10 (by decide) (fun hB => ?_) (fun hB => ?_)
  · refine q_iload_n dX10_rowKeyOf_43 rfl rfl ?_
    exact q_iret hB dX10_rowKeyOf_44 rfl (by decide) (by decide)
  · refine q_aload_n dX10_rowKeyOf_13 rfl rfl ?_
    refine q_getP (j := 16) hB dX10_rowKeyOf_14 fc_8 (by decide) rfl wd_745 (fun n2 hB => ?_)
    refine q_iload_n dX10_rowKeyOf_17 rfl rfl ?_
    refine q_iald hB dX10_rowKeyOf_18 (fun n3 hB => ?_)
    refine q_iload_n dX10_rowKeyOf_19 rfl rfl ?_
    refine q_callSI (k' := 0) (w' := 0) hB (fun a hf => c_X10_has g l _ _ _ a hf) rfl dX10_rowKeyOf_20 wd_891 cs_X10_has wd_892 rfl ⟨⟨Nat.le_of_ble_eq_true rfl, Nat.le_of_ble_eq_true rfl⟩, ⟨Nat.le_of_ble_eq_true rfl, Nat.le_of_ble_eq_true rfl⟩, Nat.le_of_ble_eq_true rfl⟩ rfl rfl (fun r4 hB => ?_)
    refine q_if_eq (tgt := 35) hB dX10_rowKeyOf_23 (by decide) (fun hB => ?_) (fun hB => ?_)
    · refine q_iload_n dX10_rowKeyOf_35 rfl rfl ?_
      exact Wq.mask [true, true, false, true] rfl (wb_X10_rowKeyOf_36 g l k5 _ _ _ _ _ o hB hk5)
    · refine q_aload_n dX10_rowKeyOf_26 rfl rfl ?_
      refine q_getP (j := 15) hB dX10_rowKeyOf_27 fc_8 (by decide) rfl wd_744 (fun n5 hB => ?_)
      refine q_iload_n dX10_rowKeyOf_30 rfl rfl ?_
      refine q_iald hB dX10_rowKeyOf_31 (fun n6 hB => ?_)
      refine q_goto (tgt := 36) dX10_rowKeyOf_32 (by decide) ?_
      exact Wq.mask [true, true, false, true] rfl (wb_X10_rowKeyOf_36 g l k5 _ _ _ _ _ o hB hk5)
set_option maxHeartbeats 4000000 in
theorem wl_X10_rowKeyOf_5 (g : GG) (l : Launch) (o : Int32 × HS) : ∀ (n : Nat) (a0 : Nat) (a1 : Int32) (a2 : Int32) (a3 : Int32) (h : HS), l_X10_rowKeyOf_5 n a0 a1 a2 a3 h = some o → Wq g l mX10_rowKeyOf 0 0 5 [some (va_rf (some a0)), some (.int a1), some (.int a2), some (.int a3)] [] h (QI o) := by
  intro n
  induction n with
  | zero =>
    intro a0 a1 a2 a3  h hB
    have q : (none : Option (Int32 × HS)) = some o := hB
    cases q
  | succ n ih =>
    intro a0 a1 a2 a3  h hB
    exact wb_X10_rowKeyOf_5 g l (l_X10_rowKeyOf_5 n) a0 a1 a2 a3 h o hB ih
set_option maxHeartbeats 4000000 in
set_option maxRecDepth 100000 in
theorem c_X10_rowKeyOf (g : GG) (l : Launch) (a0 : Nat) (a1 : Int32) (h : HS) (o : Int32 × HS) (hB : f_X10_rowKeyOf a0 a1 h = some o) : Ct g l mX10_rowKeyOf [va_rf (some a0), .int a1] h (QI o) := by
  refine Ct.of2 (lv0 := [some (va_rf (some a0)), some (.int a1), none, none]) (by decide +kernel) (by simp [lg_sl, rf_cat, cat_i, cat_l]) rfl ?_
  unfold f_X10_rowKeyOf at hB
  refine q_bipush (v := -9) dX10_rowKeyOf_0 (by decide) ?_
  refine q_istore_n dX10_rowKeyOf_2 rfl (by decide) (nb_i (j := 1) rfl) ?_
  refine q_iconst (v := 0) dX10_rowKeyOf_3 (by decide) ?_
  refine q_istore_n dX10_rowKeyOf_4 rfl (by decide) (nb_i (j := 2) rfl) ?_
  exact Wq.mask [true, true, true, true] rfl (wl_X10_rowKeyOf_5 g l o FU _ _ _ _ _ hB)

def b_X10_entry_52  (a0 : Nat) (a1 : Int32) (h : HS) : Option (Int32 × HS) :=
  nn (some a0) (fun n2 => gd (rk h n2 8) (bd (f_X10_keyOf n2 (0 : Int32) a1 (0 : Int32) h) (fun r1 => some (r1.1, r1.2))))
def b_X10_entry_60  (a0 : Nat) (a1 : Int32) (h : HS) : Option (Int32 × HS) :=
  nn (some a0) (fun n2 => gd (rk h n2 8) (bd (f_X10_keyOf n2 (0 : Int32) a1 (1 : Int32) h) (fun r1 => some (r1.1, r1.2))))
def b_X10_entry_68  (a0 : Nat) (a1 : Int32) (h : HS) : Option (Int32 × HS) :=
  nn (some a0) (fun n2 => gd (rk h n2 8) (bd (f_X10_amountOf n2 (0 : Int32) a1 h) (fun r1 => some (r1.1, r1.2))))
def b_X10_entry_75  (a0 : Nat) (a1 : Int32) (h : HS) : Option (Int32 × HS) :=
  nn (some a0) (fun n2 => gd (rk h n2 8) (bd (f_X10_rowKeyOf n2 a1 h) (fun r1 => some (r1.1, r1.2))))
def b_X10_entry_81  (a0 : Nat) (a1 : Int32) (h : HS) : Option (Int32 × HS) :=
  nn (some a0) (fun n1 => gd (ck h n1 8) (nn (some a0) (fun n3 => gd (rk h n3 8) (bd (f_X10_keyOf n3 (0 : Int32) a1 (hI h n1 1) h) (fun r2 => some (r2.1, r2.2))))))
def b_X10_entry_92  (h : HS) : Option (Int32 × HS) :=
  some ((-2 : Int32), h)
def f_X10_entry  (a0 : Nat) (a1 : Int32) (a2 : Int32) (h : HS) : Option (Int32 × HS) :=
  nn (some a0) (fun n2 => gd (rk h n2 8) (bd (f_X10_isThere n2 a1 h) (fun r1 => (if r1.1 = 0 then some ((-1 : Int32), r1.2) else nn (some a0) (fun n4 => gd (rk r1.2 n4 8) (bd (f_X10_findRows n4 (0 : Int32) r1.2) (fun r3 => swT a2 0 [b_X10_entry_52 a0 a1 r3.2, b_X10_entry_60 a0 a1 r3.2, b_X10_entry_68 a0 a1 r3.2, b_X10_entry_75 a0 a1 r3.2, b_X10_entry_81 a0 a1 r3.2] (b_X10_entry_92 r3.2))))))))
set_option maxHeartbeats 4000000 in
set_option maxRecDepth 100000 in
theorem wb_X10_entry_52 (g : GG) (l : Launch) (a0 : Nat) (a1 : Int32) (h : HS) (o : Int32 × HS) (hB : b_X10_entry_52 a0 a1 h = some o) : Wq g l mX10_entry 0 0 52 [some (va_rf (some a0)), some (.int a1), none] [] h (QI o) := by
  unfold b_X10_entry_52 at hB
  refine q_aload_n dX10_entry_52 rfl rfl ?_
  refine q_iconst (v := 0) dX10_entry_53 (by decide) ?_
  refine q_iload_n dX10_entry_54 rfl rfl ?_
  refine q_iconst (v := 0) dX10_entry_55 (by decide) ?_
  refine q_callVI (k' := 0) (w' := 0) hB (fun b a hf => c_X10_keyOf g l b _ _ _ _ a hf) rfl rfl dX10_entry_56 wd_871 cs_X10_keyOf wd_873 wd_24 rfl ⟨⟨Nat.le_of_ble_eq_true rfl, Nat.le_of_ble_eq_true rfl⟩, ⟨Nat.le_of_ble_eq_true rfl, Nat.le_of_ble_eq_true rfl⟩, Nat.le_of_ble_eq_true rfl⟩ rfl rfl (fun n2 r1 hB => ?_)
  exact q_iret hB dX10_entry_59 rfl (by decide) (by decide)
set_option maxHeartbeats 4000000 in
set_option maxRecDepth 100000 in
theorem wb_X10_entry_60 (g : GG) (l : Launch) (a0 : Nat) (a1 : Int32) (h : HS) (o : Int32 × HS) (hB : b_X10_entry_60 a0 a1 h = some o) : Wq g l mX10_entry 0 0 60 [some (va_rf (some a0)), some (.int a1), none] [] h (QI o) := by
  unfold b_X10_entry_60 at hB
  refine q_aload_n dX10_entry_60 rfl rfl ?_
  refine q_iconst (v := 0) dX10_entry_61 (by decide) ?_
  refine q_iload_n dX10_entry_62 rfl rfl ?_
  refine q_iconst (v := 1) dX10_entry_63 (by decide) ?_
  refine q_callVI (k' := 0) (w' := 0) hB (fun b a hf => c_X10_keyOf g l b _ _ _ _ a hf) rfl rfl dX10_entry_64 wd_871 cs_X10_keyOf wd_873 wd_24 rfl ⟨⟨Nat.le_of_ble_eq_true rfl, Nat.le_of_ble_eq_true rfl⟩, ⟨Nat.le_of_ble_eq_true rfl, Nat.le_of_ble_eq_true rfl⟩, Nat.le_of_ble_eq_true rfl⟩ rfl rfl (fun n2 r1 hB => ?_)
  exact q_iret hB dX10_entry_67 rfl (by decide) (by decide)
set_option maxHeartbeats 4000000 in
set_option maxRecDepth 100000 in
theorem wb_X10_entry_68 (g : GG) (l : Launch) (a0 : Nat) (a1 : Int32) (h : HS) (o : Int32 × HS) (hB : b_X10_entry_68 a0 a1 h = some o) : Wq g l mX10_entry 0 0 68 [some (va_rf (some a0)), some (.int a1), none] [] h (QI o) := by
  unfold b_X10_entry_68 at hB
  refine q_aload_n dX10_entry_68 rfl rfl ?_
  refine q_iconst (v := 0) dX10_entry_69 (by decide) ?_
  refine q_iload_n dX10_entry_70 rfl rfl ?_
  refine q_callVI (k' := 0) (w' := 0) hB (fun b a hf => c_X10_amountOf g l b _ _ _ a hf) rfl rfl dX10_entry_71 wd_894 cs_X10_amountOf wd_896 wd_29 rfl ⟨⟨Nat.le_of_ble_eq_true rfl, Nat.le_of_ble_eq_true rfl⟩, ⟨Nat.le_of_ble_eq_true rfl, Nat.le_of_ble_eq_true rfl⟩, Nat.le_of_ble_eq_true rfl⟩ rfl rfl (fun n2 r1 hB => ?_)
  exact q_iret hB dX10_entry_74 rfl (by decide) (by decide)
set_option maxHeartbeats 4000000 in
set_option maxRecDepth 100000 in
theorem wb_X10_entry_75 (g : GG) (l : Launch) (a0 : Nat) (a1 : Int32) (h : HS) (o : Int32 × HS) (hB : b_X10_entry_75 a0 a1 h = some o) : Wq g l mX10_entry 0 0 75 [some (va_rf (some a0)), some (.int a1), none] [] h (QI o) := by
  unfold b_X10_entry_75 at hB
  refine q_aload_n dX10_entry_75 rfl rfl ?_
  refine q_iload_n dX10_entry_76 rfl rfl ?_
  refine q_callVI (k' := 0) (w' := 0) hB (fun b a hf => c_X10_rowKeyOf g l b _ _ a hf) rfl rfl dX10_entry_77 wd_948 cs_X10_rowKeyOf wd_950 wd_34 rfl ⟨⟨Nat.le_of_ble_eq_true rfl, Nat.le_of_ble_eq_true rfl⟩, ⟨Nat.le_of_ble_eq_true rfl, Nat.le_of_ble_eq_true rfl⟩, Nat.le_of_ble_eq_true rfl⟩ rfl rfl (fun n2 r1 hB => ?_)
  exact q_iret hB dX10_entry_80 rfl (by decide) (by decide)
set_option maxHeartbeats 4000000 in
set_option maxRecDepth 100000 in
theorem wb_X10_entry_81 (g : GG) (l : Launch) (a0 : Nat) (a1 : Int32) (h : HS) (o : Int32 × HS) (hB : b_X10_entry_81 a0 a1 h = some o) : Wq g l mX10_entry 0 0 81 [some (va_rf (some a0)), some (.int a1), none] [] h (QI o) := by
  unfold b_X10_entry_81 at hB
  refine q_aload_n dX10_entry_81 rfl rfl ?_
  refine q_iconst (v := 0) dX10_entry_82 (by decide) ?_
  refine q_iload_n dX10_entry_83 rfl rfl ?_
  refine q_aload_n dX10_entry_84 rfl rfl ?_
  refine q_getI (j := 1) hB dX10_entry_85 fc_8 (by decide) rfl wd_730 (fun n1 hB => ?_)
  refine q_callVI (k' := 0) (w' := 0) hB (fun b a hf => c_X10_keyOf g l b _ _ _ _ a hf) rfl rfl dX10_entry_88 wd_871 cs_X10_keyOf wd_873 wd_24 rfl ⟨⟨Nat.le_of_ble_eq_true rfl, Nat.le_of_ble_eq_true rfl⟩, ⟨Nat.le_of_ble_eq_true rfl, Nat.le_of_ble_eq_true rfl⟩, Nat.le_of_ble_eq_true rfl⟩ rfl rfl (fun n3 r2 hB => ?_)
  exact q_iret hB dX10_entry_91 rfl (by decide) (by decide)
set_option maxHeartbeats 4000000 in
set_option maxRecDepth 100000 in
theorem wb_X10_entry_92 (g : GG) (l : Launch) (h : HS) (o : Int32 × HS) (hB : b_X10_entry_92  h = some o) : Wq g l mX10_entry 0 0 92 [none, none, none] [] h (QI o) := by
  unfold b_X10_entry_92 at hB
  refine q_bipush (v := -2) dX10_entry_92 (by decide) ?_
  exact q_iret hB dX10_entry_94 rfl (by decide) (by decide)
set_option maxHeartbeats 4000000 in
set_option maxRecDepth 100000 in
theorem c_X10_entry (g : GG) (l : Launch) (a0 : Nat) (a1 : Int32) (a2 : Int32) (h : HS) (o : Int32 × HS) (hB : f_X10_entry a0 a1 a2 h = some o) : Ct g l mX10_entry [va_rf (some a0), .int a1, .int a2] h (QI o) := by
  refine Ct.of2 (lv0 := [some (va_rf (some a0)), some (.int a1), some (.int a2)]) (by decide +kernel) (by simp [lg_sl, rf_cat, cat_i, cat_l]) rfl ?_
  unfold f_X10_entry at hB
  refine q_aload_n dX10_entry_0 rfl rfl ?_
  refine q_iload_n dX10_entry_1 rfl rfl ?_
  refine q_callVI (k' := 0) (w' := 0) hB (fun b a hf => c_X10_isThere g l b _ _ a hf) rfl rfl dX10_entry_2 wd_928 cs_X10_isThere wd_930 wd_32 rfl ⟨⟨Nat.le_of_ble_eq_true rfl, Nat.le_of_ble_eq_true rfl⟩, ⟨Nat.le_of_ble_eq_true rfl, Nat.le_of_ble_eq_true rfl⟩, Nat.le_of_ble_eq_true rfl⟩ rfl rfl (fun n2 r1 hB => ?_)
  refine q_if_ne (tgt := 10) hB dX10_entry_5 (by decide) (fun hB => ?_) (fun hB => ?_)
  · refine q_aload_n dX10_entry_10 rfl rfl ?_
    refine q_iconst (v := 0) dX10_entry_11 (by decide) ?_
    refine q_callVV (k' := 0) (w' := 0) hB (fun b a hf => c_X10_findRows g l b _ _ a hf) rfl rfl dX10_entry_12 wd_859 cs_X10_findRows wd_861 wd_21 rfl ⟨⟨Nat.le_of_ble_eq_true rfl, Nat.le_of_ble_eq_true rfl⟩, ⟨Nat.le_of_ble_eq_true rfl, Nat.le_of_ble_eq_true rfl⟩, Nat.le_of_ble_eq_true rfl⟩ rfl rfl (fun n4 r3 hB => ?_)
    refine q_iload_n dX10_entry_15 rfl rfl ?_
    refine q_tab (dt := 92) [52, 60, 68, 75, 81] hB dX10_entry_16 rfl rfl (by decide) (by decide) (fun hB => ?_) (fun i hi hB => ?_)
    · exact Wq.mask [false, false, false] rfl (wb_X10_entry_92 g l _ o hB)
    · match i, hi, hB with
      | 0, _, hB =>
        simp only [List.getD_cons_zero, List.getD_cons_succ] at hB
        exact Wq.mask [true, true, false] rfl (wb_X10_entry_52 g l _ _ _ o hB)
      | 1, _, hB =>
        simp only [List.getD_cons_zero, List.getD_cons_succ] at hB
        exact Wq.mask [true, true, false] rfl (wb_X10_entry_60 g l _ _ _ o hB)
      | 2, _, hB =>
        simp only [List.getD_cons_zero, List.getD_cons_succ] at hB
        exact Wq.mask [true, true, false] rfl (wb_X10_entry_68 g l _ _ _ o hB)
      | 3, _, hB =>
        simp only [List.getD_cons_zero, List.getD_cons_succ] at hB
        exact Wq.mask [true, true, false] rfl (wb_X10_entry_75 g l _ _ _ o hB)
      | 4, _, hB =>
        simp only [List.getD_cons_zero, List.getD_cons_succ] at hB
        exact Wq.mask [true, true, false] rfl (wb_X10_entry_81 g l _ _ _ o hB)
      | n + 5, hi, _ => exact absurd hi (by simp only [List.length_cons, List.length_nil]; omega)
  · refine q_iconst (v := -1) dX10_entry_8 (by decide) ?_
    exact q_iret hB dX10_entry_9 rfl (by decide) (by decide)
