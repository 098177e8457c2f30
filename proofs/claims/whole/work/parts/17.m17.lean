def b_X9_isOneOfTwo_14  (s0 : Int32) (h : HS) : Option (Int32 × HS) :=
  gd (decide (narrow .boolean (.int s0) = .int s0)) (some (s0, h))
def b_X9_isOneOfTwo_9  (h : HS) : Option (Int32 × HS) :=
  b_X9_isOneOfTwo_14 (1 : Int32) h
def f_X9_isOneOfTwo  (a0 : Int32) (h : HS) : Option (Int32 × HS) :=
  (if a0 = 0 then b_X9_isOneOfTwo_9 h else (if a0 = (1 : Int32) then b_X9_isOneOfTwo_9 h else b_X9_isOneOfTwo_14 (0 : Int32) h))
set_option maxHeartbeats 4000000 in
set_option maxRecDepth 100000 in
theorem wb_X9_isOneOfTwo_14 (g : GG) (l : Launch) (s0 : Int32) (h : HS) (o : Int32 × HS) (hB : b_X9_isOneOfTwo_14 s0 h = some o) : Wq g l mX9_isOneOfTwo 0 0 14 [none] [.int s0] h (QI o) := by
  unfold b_X9_isOneOfTwo_14 at hB
  exact q_zret hB dX9_isOneOfTwo_14 rfl (by decide) (by decide)
set_option maxHeartbeats 4000000 in
set_option maxRecDepth 100000 in
theorem wb_X9_isOneOfTwo_9 (g : GG) (l : Launch) (h : HS) (o : Int32 × HS) (hB : b_X9_isOneOfTwo_9  h = some o) : Wq g l mX9_isOneOfTwo 0 0 9 [none] [] h (QI o) := by
  unfold b_X9_isOneOfTwo_9 at hB
  refine q_iconst (v := 1) dX9_isOneOfTwo_9 (by decide) ?_
  refine q_goto (tgt := 14) dX9_isOneOfTwo_10 (by decide) ?_
  exact Wq.mask [false] rfl (wb_X9_isOneOfTwo_14 g l _ _ o hB)
set_option maxHeartbeats 4000000 in
set_option maxRecDepth 100000 in
theorem c_X9_isOneOfTwo (g : GG) (l : Launch) (a0 : Int32) (h : HS) (o : Int32 × HS) (hB : f_X9_isOneOfTwo a0 h = some o) : Ct g l mX9_isOneOfTwo [.int a0] h (QI o) := by
  refine Ct.of2 (lv0 := [some (.int a0)]) (by decide +kernel) (by simp [lg_sl, rf_cat, cat_i, cat_l]) rfl ?_
  unfold f_X9_isOneOfTwo at hB
  refine q_iload_n dX9_isOneOfTwo_0 rfl rfl ?_
  refine q_if_eq (tgt := 9) hB dX9_isOneOfTwo_1 (by decide) (fun hB => ?_) (fun hB => ?_)
  · exact Wq.mask [false] rfl (wb_X9_isOneOfTwo_9 g l _ o hB)
  · refine q_iload_n dX9_isOneOfTwo_4 rfl rfl ?_
    refine q_iconst (v := 1) dX9_isOneOfTwo_5 (by decide) ?_
    refine q_icmp_ne (tgt := 13) hB dX9_isOneOfTwo_6 (by decide) (fun hB => ?_) (fun hB => ?_)
    · refine q_iconst (v := 0) dX9_isOneOfTwo_13 (by decide) ?_
      exact Wq.mask [false] rfl (wb_X9_isOneOfTwo_14 g l _ _ o hB)
    · exact Wq.mask [false] rfl (wb_X9_isOneOfTwo_9 g l _ o hB)

def f_X9_isAxis  (a0 : Int32) (h : HS) : Option (Int32 × HS) :=
  bd (f_X9_isOneOfTwo a0 h) (fun r1 => gd (decide (narrow .boolean (.int r1.1) = .int r1.1)) (some (r1.1, r1.2)))
set_option maxHeartbeats 4000000 in
set_option maxRecDepth 100000 in
theorem c_X9_isAxis (g : GG) (l : Launch) (a0 : Int32) (h : HS) (o : Int32 × HS) (hB : f_X9_isAxis a0 h = some o) : Ct g l mX9_isAxis [.int a0] h (QI o) := by
  refine Ct.of2 (lv0 := [some (.int a0)]) (by decide +kernel) (by simp [lg_sl, rf_cat, cat_i, cat_l]) rfl ?_
  unfold f_X9_isAxis at hB
  refine q_iload_n dX9_isAxis_0 rfl rfl ?_
  refine q_callSI (k' := 0) (w' := 0) hB (fun a hf => c_X9_isOneOfTwo g l _ _ a hf) rfl dX9_isAxis_1 wd_544 cs_X9_isOneOfTwo wd_545 rfl ⟨⟨Nat.le_of_ble_eq_true rfl, Nat.le_of_ble_eq_true rfl⟩, ⟨Nat.le_of_ble_eq_true rfl, Nat.le_of_ble_eq_true rfl⟩, Nat.le_of_ble_eq_true rfl⟩ rfl rfl (fun r1 hB => ?_)
  exact q_zret hB dX9_isAxis_4 rfl (by decide) (by decide)

def b_X9_axisOf_23  (s0 : Option Nat) (h : HS) : Option (Option Nat × HS) :=
  some (s0, h)
def f_X9_axisOf  (a0 : Nat) (a1 : Int32) (h : HS) : Option (Option Nat × HS) :=
  (if a1 = 0 then nn (some a0) (fun n4 => gd (ck h n4 7) (nn (some a0) (fun n6 => gd (rk h n6 7) (bd (f_X9_rowsOf n6 (hP h n4 3) h) (fun r5 => b_X9_axisOf_23 r5.1 r5.2))))) else nn (some a0) (fun n1 => gd (ck h n1 7) (nn (some a0) (fun n3 => gd (rk h n3 7) (bd (f_X9_columnsOf n3 (hP h n1 3) h) (fun r2 => b_X9_axisOf_23 r2.1 r2.2))))))
set_option maxHeartbeats 4000000 in
set_option maxRecDepth 100000 in
theorem wb_X9_axisOf_23 (g : GG) (l : Launch) (s0 : Option Nat) (h : HS) (o : Option Nat × HS) (hB : b_X9_axisOf_23 s0 h = some o) : Wq g l mX9_axisOf 0 0 23 [none, none] [va_rf s0] h (QP o) := by
  unfold b_X9_axisOf_23 at hB
  exact q_aret hB dX9_axisOf_23 rfl (by decide) (by decide)
set_option maxHeartbeats 4000000 in
set_option maxRecDepth 100000 in
theorem c_X9_axisOf (g : GG) (l : Launch) (a0 : Nat) (a1 : Int32) (h : HS) (o : Option Nat × HS) (hB : f_X9_axisOf a0 a1 h = some o) : Ct g l mX9_axisOf [va_rf (some a0), .int a1] h (QP o) := by
  refine Ct.of2 (lv0 := [some (va_rf (some a0)), some (.int a1)]) (by decide +kernel) (by simp [lg_sl, rf_cat, cat_i, cat_l]) rfl ?_
  unfold f_X9_axisOf at hB
  refine q_iload_n dX9_axisOf_0 rfl rfl ?_
  refine q_if_ne (tgt := 15) hB dX9_axisOf_1 (by decide) (fun hB => ?_) (fun hB => ?_)
  · refine q_aload_n dX9_axisOf_15 rfl rfl ?_
    refine q_aload_n dX9_axisOf_16 rfl rfl ?_
    refine q_getP (j := 3) hB dX9_axisOf_17 fc_7 (by decide) rfl wd_243 (fun n1 hB => ?_)
    refine q_callVP (k' := 0) (w' := 0) hB (fun b a hf => c_X9_columnsOf g l b _ _ a hf) rfl rfl dX9_axisOf_20 wd_533 cs_X9_columnsOf wd_535 wd_7 rfl ⟨⟨Nat.le_of_ble_eq_true rfl, Nat.le_of_ble_eq_true rfl⟩, ⟨Nat.le_of_ble_eq_true rfl, Nat.le_of_ble_eq_true rfl⟩, Nat.le_of_ble_eq_true rfl⟩ rfl rfl (fun n3 r2 hB => ?_)
    exact Wq.mask [false, false] rfl (wb_X9_axisOf_23 g l _ _ o hB)
  · refine q_aload_n dX9_axisOf_4 rfl rfl ?_
    refine q_aload_n dX9_axisOf_5 rfl rfl ?_
    refine q_getP (j := 3) hB dX9_axisOf_6 fc_7 (by decide) rfl wd_243 (fun n4 hB => ?_)
    refine q_callVP (k' := 0) (w' := 0) hB (fun b a hf => c_X9_rowsOf g l b _ _ a hf) rfl rfl dX9_axisOf_9 wd_380 cs_X9_rowsOf wd_382 wd_3 rfl ⟨⟨Nat.le_of_ble_eq_true rfl, Nat.le_of_ble_eq_true rfl⟩, ⟨Nat.le_of_ble_eq_true rfl, Nat.le_of_ble_eq_true rfl⟩, Nat.le_of_ble_eq_true rfl⟩ rfl rfl (fun n6 r5 hB => ?_)
    refine q_goto (tgt := 23) dX9_axisOf_12 (by decide) ?_
    exact Wq.mask [false, false] rfl (wb_X9_axisOf_23 g l _ _ o hB)

def b_X2_has_17  (s0 : Int32) (h : HS) : Option (Int32 × HS) :=
  gd (decide (narrow .boolean (.int s0) = .int s0)) (some (s0, h))
def b_X2_has_16  (h : HS) : Option (Int32 × HS) :=
  b_X2_has_17 (0 : Int32) h
def f_X2_has  (a0 : Nat) (a1 : Int32) (h : HS) : Option (Int32 × HS) :=
  (if a1 < 0 then b_X2_has_16 h else nn (some a0) (fun n1 => gd (ck h n1 2) ((if (hI h n1 3) ≤ a1 then b_X2_has_16 h else b_X2_has_17 (1 : Int32) h))))
set_option maxHeartbeats 4000000 in
set_option maxRecDepth 100000 in
theorem wb_X2_has_17 (g : GG) (l : Launch) (s0 : Int32) (h : HS) (o : Int32 × HS) (hB : b_X2_has_17 s0 h = some o) : Wq g l mX2_has 0 0 17 [none, none] [.int s0] h (QI o) := by
  unfold b_X2_has_17 at hB
  exact q_zret hB dX2_has_17 rfl (by decide) (by decide)
set_option maxHeartbeats 4000000 in
set_option maxRecDepth 100000 in
theorem wb_X2_has_16 (g : GG) (l : Launch) (h : HS) (o : Int32 × HS) (hB : b_X2_has_16  h = some o) : Wq g l mX2_has 0 0 16 [none, none] [] h (QI o) := by
  unfold b_X2_has_16 at hB
  refine q_iconst (v := 0) dX2_has_16 (by decide) ?_
  exact Wq.mask [false, false] rfl (wb_X2_has_17 g l _ _ o hB)
set_option maxHeartbeats 4000000 in
set_option maxRecDepth 100000 in
theorem c_X2_has (g : GG) (l : Launch) (a0 : Nat) (a1 : Int32) (h : HS) (o : Int32 × HS) (hB : f_X2_has a0 a1 h = some o) : Ct g l mX2_has [va_rf (some a0), .int a1] h (QI o) := by
  refine Ct.of2 (lv0 := [some (va_rf (some a0)), some (.int a1)]) (by decide +kernel) (by simp [lg_sl, rf_cat, cat_i, cat_l]) rfl ?_
  unfold f_X2_has at hB
  refine q_iload_n dX2_has_0 rfl rfl ?_
  refine q_if_lt (tgt := 16) hB dX2_has_1 (by decide) (fun hB => ?_) (fun hB => ?_)
  · exact Wq.mask [false, false] rfl (wb_X2_has_16 g l _ o hB)
  · refine q_iload_n dX2_has_4 rfl rfl ?_
    refine q_aload_n dX2_has_5 rfl rfl ?_
    refine q_getI (j := 3) hB dX2_has_6 fc_2 (by decide) rfl wd_204 (fun n1 hB => ?_)
    refine q_icmp_ge (tgt := 16) hB dX2_has_9 (by decide) (fun hB => ?_) (fun hB => ?_)
    · exact Wq.mask [false, false] rfl (wb_X2_has_16 g l _ o hB)
    · refine q_iconst (v := 1) dX2_has_12 (by decide) ?_
      refine q_goto (tgt := 17) dX2_has_13 (by decide) ?_
      exact Wq.mask [false, false] rfl (wb_X2_has_17 g l _ _ o hB)

def b_X9_key_35  (s0 : Int32) (h : HS) : Option (Int32 × HS) :=
  some (s0, h)
def f_X9_key  (a0 : Nat) (a1 : Int32) (a2 : Int32) (h : HS) : Option (Int32 × HS) :=
  bd (f_X9_isAxis a1 h) (fun r1 => (if r1.1 = 0 then some ((-2 : Int32), r1.2) else nn (some a0) (fun n3 => gd (rk r1.2 n3 7) (bd (f_X9_axisOf n3 a1 r1.2) (fun r2 => nn r2.1 (fun n5 => gd (rk r2.2 n5 2) (bd (f_X2_has n5 a2 r2.2) (fun r4 => (if r4.1 = 0 then b_X9_key_35 (-9 : Int32) r4.2 else nn r2.1 (fun n6 => gd (ck r4.2 n6 2) (nn (hP r4.2 n6 0) (fun n7 => gd (ca r4.2 n7 9 a2) (b_X9_key_35 (hI r4.2 n7 a2.toNatClampNeg) r4.2)))))))))))))
set_option maxHeartbeats 4000000 in
set_option maxRecDepth 100000 in
theorem wb_X9_key_35 (g : GG) (l : Launch) (s0 : Int32) (h : HS) (o : Int32 × HS) (hB : b_X9_key_35 s0 h = some o) : Wq g l mX9_key 0 0 35 [none, none, none, none] [.int s0] h (QI o) := by
  unfold b_X9_key_35 at hB
  exact q_iret hB dX9_key_35 rfl (by decide) (by decide)
set_option maxHeartbeats 4000000 in
set_option maxRecDepth 100000 in
theorem c_X9_key (g : GG) (l : Launch) (a0 : Nat) (a1 : Int32) (a2 : Int32) (h : HS) (o : Int32 × HS) (hB : f_X9_key a0 a1 a2 h = some o) : Ct g l mX9_key [va_rf (some a0), .int a1, .int a2] h (QI o) := by
  refine Ct.of2 (lv0 := [some (va_rf (some a0)), some (.int a1), some (.int a2), none]) (by decide +kernel) (by simp [lg_sl, rf_cat, cat_i, cat_l]) rfl ?_
  unfold f_X9_key at hB
  refine q_iload_n dX9_key_0 rfl rfl ?_
  refine q_callSI (k' := 0) (w' := 0) hB (fun a hf => c_X9_isAxis g l _ _ a hf) rfl dX9_key_1 wd_541 cs_X9_isAxis wd_542 rfl ⟨⟨Nat.le_of_ble_eq_true rfl, Nat.le_of_ble_eq_true rfl⟩, ⟨Nat.le_of_ble_eq_true rfl, Nat.le_of_ble_eq_true rfl⟩, Nat.le_of_ble_eq_true rfl⟩ rfl rfl (fun r1 hB => ?_)
  refine q_if_ne (tgt := 10) hB dX9_key_4 (by decide) (fun hB => ?_) (fun hB => ?_)
  · refine q_aload_n dX9_key_10 rfl rfl ?_
    refine q_iload_n dX9_key_11 rfl rfl ?_
    refine q_callVP (k' := 0) (w' := 0) hB (fun b a hf => c_X9_axisOf g l b _ _ a hf) rfl rfl dX9_key_12 wd_547 cs_X9_axisOf wd_549 wd_8 rfl ⟨⟨Nat.le_of_ble_eq_true rfl, Nat.le_of_ble_eq_true rfl⟩, ⟨Nat.le_of_ble_eq_true rfl, Nat.le_of_ble_eq_true rfl⟩, Nat.le_of_ble_eq_true rfl⟩ rfl rfl (fun n3 r2 hB => ?_)
    refine q_astore_n dX9_key_15 rfl (by decide) (nb_i (j := 2) rfl) ?_
    refine q_aload_n dX9_key_16 rfl rfl ?_
    refine q_iload_n dX9_key_17 rfl rfl ?_
    refine q_callVI (k' := 0) (w' := 0) hB (fun b a hf => c_X2_has g l b _ _ a hf) rfl rfl dX9_key_18 wd_551 cs_X2_has wd_552 wd_553 rfl ⟨⟨Nat.le_of_ble_eq_true rfl, Nat.le_of_ble_eq_true rfl⟩, ⟨Nat.le_of_ble_eq_true rfl, Nat.le_of_ble_eq_true rfl⟩, Nat.le_of_ble_eq_true rfl⟩ rfl rfl (fun n5 r4 hB => ?_)
    refine q_if_eq (tgt := 33) hB dX9_key_21 (by decide) (fun hB => ?_) (fun hB => ?_)
    · refine q_bipush (v := -9) dX9_key_33 (by decide) ?_
      exact Wq.mask [false, false, false, false] rfl (wb_X9_key_35 g l _ _ o hB)
    · refine q_aload_n dX9_key_24 rfl rfl ?_
      refine q_getP (j := 0) hB dX9_key_25 fc_2 (by decide) rfl wd_201 (fun n6 hB => ?_)
      refine q_iload_n dX9_key_28 rfl rfl ?_
      refine q_iald hB dX9_key_29 (fun n7 hB => ?_)
      refine q_goto (tgt := 35) dX9_key_30 (by decide) ?_
      exact Wq.mask [false, false, false, false] rfl (wb_X9_key_35 g l _ _ o hB)
  · refine q_bipush (v := -2) dX9_key_7 (by decide) ?_
    exact q_iret hB dX9_key_9 rfl (by decide) (by decide)

def b_X10_findColumns_58  (k7 : Nat → Int32 → Int32 → HS → Option (Unit × HS)) (a0 : Nat) (a1 : Int32) (a2 : Int32) (h : HS) : Option (Unit × HS) :=
  k7 a0 a1 (a2 + (1 : Int32)) h
def b_X10_findColumns_7  (k7 : Nat → Int32 → Int32 → HS → Option (Unit × HS)) (a0 : Nat) (a1 : Int32) (a2 : Int32) (h : HS) : Option (Unit × HS) :=
  (if (20 : Int32) < a2 then some ((), h) else nn (some a0) (fun n1 => gd (ck h n1 8) (nn (some a0) (fun n3 => gd (rk h n3 8) (bd (f_X10_groupOf n3 a1 (hI h n1 1) a2 h) (fun r2 => (if r2.1 = 0 then b_X10_findColumns_58 k7 a0 a1 a2 r2.2 else nn (some a0) (fun n4 => gd (ck r2.2 n4 8) (nn (some a0) (fun n5 => gd (ck r2.2 n5 8) (nn (hP r2.2 n4 17) (fun n6 => gd (ca r2.2 n6 9 (hI r2.2 n5 14)) (hl (sI r2.2 n6 (hI r2.2 n5 14).toNatClampNeg a2) (fun h7 => nn (some a0) (fun n8 => gd (ck h7 n8 8) (nn (some a0) (fun n9 => gd (ck h7 n9 8) (nn (hP h7 n8 18) (fun n10 => gd (ca h7 n10 9 (hI h7 n9 14)) (hl (sI h7 n10 (hI h7 n9 14).toNatClampNeg r2.1) (fun h11 => nn (some a0) (fun n12 => gd (ck h11 n12 8) (nn (some a0) (fun n13 => gd (ck h11 n13 8) (hl (sI h11 n13 14 ((hI h11 n12 14) + (1 : Int32))) (fun h14 => b_X10_findColumns_58 k7 a0 a1 a2 h14))))))))))))))))))))))))))
def l_X10_findColumns_7  : Nat → Nat → Int32 → Int32 → HS → Option (Unit × HS)
  | 0 => fun _ _ _ _ => none
  | n + 1 => b_X10_findColumns_7 (l_X10_findColumns_7 n)
def f_X10_findColumns  (a0 : Nat) (a1 : Int32) (h : HS) : Option (Unit × HS) :=
  nn (some a0) (fun n1 => gd (ck h n1 8) (hl (sI h n1 14 (0 : Int32)) (fun h2 => l_X10_findColumns_7 FU a0 a1 (0 : Int32) h2)))
set_option maxHeartbeats 4000000 in
set_option maxRecDepth 100000 in
theorem wb_X10_findColumns_58 (g : GG) (l : Launch) (k7 : Nat → Int32 → Int32 → HS → Option (Unit × HS)) (a0 : Nat) (a1 : Int32) (a2 : Int32) (h : HS) (o : Unit × HS) (hB : b_X10_findColumns_58 k7 a0 a1 a2 h = some o) (hk7 : ∀ (a0 : Nat) (a1 : Int32) (a2 : Int32) (h : HS), k7 a0 a1 a2 h = some o → Wq g l mX10_findColumns 0 0 7 [some (va_rf (some a0)), some (.int a1), some (.int a2), none] [] h (QV o)) : Wq g l mX10_findColumns 0 0 58 [some (va_rf (some a0)), some (.int a1), some (.int a2), none] [] h (QV o) := by
  unfold b_X10_findColumns_58 at hB
  refine q_iinc dX10_findColumns_58 rfl (show _ = (a2 + (1 : Int32)) from rfl) (by decide) (nb_i (j := 1) rfl) ?_
  refine q_goto (tgt := 7) dX10_findColumns_61 (by decide) ?_
  exact Wq.mask [true, true, true, false] rfl (hk7 _ _ _ _ hB)
set_option maxHeartbeats 4000000 in
set_option maxRecDepth 100000 in
theorem wb_X10_findColumns_7 (g : GG) (l : Launch) (k7 : Nat → Int32 → Int32 → HS → Option (Unit × HS)) (a0 : Nat) (a1 : Int32) (a2 : Int32) (h : HS) (o : Unit × HS) (hB : b_X10_findColumns_7 k7 a0 a1 a2 h = some o) (hk7 : ∀ (a0 : Nat) (a1 : Int32) (a2 : Int32) (h : HS), k7 a0 a1 a2 h = some o → Wq g l mX10_findColumns 0 0 7 [some (va_rf (some a0)), some (.int a1), some (.int a2), none] [] h (QV o)) : Wq g l mX10_findColumns 0 0 7 [some (va_rf (some a0)), some (.int a1), some (.int a2), none] [] h (QV o) := by
  unfold b_X10_findColumns_7 at hB
  refine q_iload_n dX10_findColumns_7 rfl rfl ?_
  refine q_bipush (v := 20) dX10_findColumns_8 (by decide) ?_
  refine q_icmp_gt (tgt := 64) hB dX10_findColumns_10 (by decide) (fun hB => ?_) (fun hB => ?_)
  · exact q_vret hB dX10_findColumns_64 rfl (by decide) (by decide)
  · refine q_aload_n dX10_findColumns_13 rfl rfl ?_
    refine q_iload_n dX10_findColumns_14 rfl rfl ?_
    refine q_aload_n dX10_findColumns_15 rfl rfl ?_
    refine q_getI (j := 1) hB dX10_findColumns_16 fc_8 (by decide) rfl wd_730 (fun n1 hB => ?_)
    refine q_iload_n dX10_findColumns_19 rfl rfl ?_
    refine q_callVI (k' := 0) (w' := 0) hB (fun b a hf => c_X10_groupOf g l b _ _ _ _ a hf) rfl rfl dX10_findColumns_20 wd_863 cs_X10_groupOf wd_865 wd_22 rfl ⟨⟨Nat.le_of_ble_eq_true rfl, Nat.le_of_ble_eq_true rfl⟩, ⟨Nat.le_of_ble_eq_true rfl, Nat.le_of_ble_eq_true rfl⟩, Nat.le_of_ble_eq_true rfl⟩ rfl rfl (fun n3 r2 hB => ?_)
    refine q_istore_n dX10_findColumns_23 rfl (by decide) (nb_i (j := 2) rfl) ?_
    refine q_iload_n dX10_findColumns_24 rfl rfl ?_
    refine q_if_eq (tgt := 58) hB dX10_findColumns_25 (by decide) (fun hB => ?_) (fun hB => ?_)
    · exact Wq.mask [true, true, true, false] rfl (wb_X10_findColumns_58 g l k7 _ _ _ _ o hB hk7)
    · refine q_aload_n dX10_findColumns_28 rfl rfl ?_
      refine q_getP (j := 17) hB dX10_findColumns_29 fc_8 (by decide) rfl wd_746 (fun n4 hB => ?_)
      refine q_aload_n dX10_findColumns_32 rfl rfl ?_
      refine q_getI (j := 14) hB dX10_findColumns_33 fc_8 (by decide) rfl wd_743 (fun n5 hB => ?_)
      refine q_iload_n dX10_findColumns_36 rfl rfl ?_
      refine q_iast hB dX10_findColumns_37 (fun n6 hB => ?_)
      refine q_nm hB (fun h7 hB => ?_)
      refine q_aload_n dX10_findColumns_38 rfl rfl ?_
      refine q_getP (j := 18) hB dX10_findColumns_39 fc_8 (by decide) rfl wd_747 (fun n8 hB => ?_)
      refine q_aload_n dX10_findColumns_42 rfl rfl ?_
      refine q_getI (j := 14) hB dX10_findColumns_43 fc_8 (by decide) rfl wd_743 (fun n9 hB => ?_)
      refine q_iload_n dX10_findColumns_46 rfl rfl ?_
      refine q_iast hB dX10_findColumns_47 (fun n10 hB => ?_)
      refine q_nm hB (fun h11 hB => ?_)
      refine q_aload_n dX10_findColumns_48 rfl rfl ?_
      refine q_dup dX10_findColumns_49 (rf_cat _) ?_
      refine q_getI (j := 14) hB dX10_findColumns_50 fc_8 (by decide) rfl wd_743 (fun n12 hB => ?_)
      refine q_iconst (v := 1) dX10_findColumns_53 (by decide) ?_
      refine q_iadd dX10_findColumns_54 ?_
      refine q_putI (j := 14) hB dX10_findColumns_55 fc_8 (by decide) rfl wd_743 rfl (fun n13 hB => ?_)
      refine q_nm hB (fun h14 hB => ?_)
      exact Wq.mask [true, true, true, false] rfl (wb_X10_findColumns_58 g l k7 _ _ _ _ o hB hk7)
set_option maxHeartbeats 4000000 in
theorem wl_X10_findColumns_7 (g : GG) (l : Launch) (o : Unit × HS) : ∀ (n : Nat) (a0 : Nat) (a1 : Int32) (a2 : Int32) (h : HS), l_X10_findColumns_7 n a0 a1 a2 h = some o → Wq g l mX10_findColumns 0 0 7 [some (va_rf (some a0)), some (.int a1), some (.int a2), none] [] h (QV o) := by
  intro n
  induction n with
  | zero =>
    intro a0 a1 a2  h hB
    have q : (none : Option (Unit × HS)) = some o := hB
    cases q
  | succ n ih =>
    intro a0 a1 a2  h hB
    exact wb_X10_findColumns_7 g l (l_X10_findColumns_7 n) a0 a1 a2 h o hB ih
set_option maxHeartbeats 4000000 in
set_option maxRecDepth 100000 in
theorem c_X10_findColumns (g : GG) (l : Launch) (a0 : Nat) (a1 : Int32) (h : HS) (o : Unit × HS) (hB : f_X10_findColumns a0 a1 h = some o) : Ct g l mX10_findColumns [va_rf (some a0), .int a1] h (QV o) := by
  refine Ct.of2 (lv0 := [some (va_rf (some a0)), some (.int a1), none, none]) (by decide +kernel) (by simp [lg_sl, rf_cat, cat_i, cat_l]) rfl ?_
  unfold f_X10_findColumns at hB
  refine q_aload_n dX10_findColumns_0 rfl rfl ?_
  refine q_iconst (v := 0) dX10_findColumns_1 (by decide) ?_
  refine q_putI (j := 14) hB dX10_findColumns_2 fc_8 (by decide) rfl wd_743 rfl (fun n1 hB => ?_)
  refine q_nm hB (fun h2 hB => ?_)
  refine q_iconst (v := 0) dX10_findColumns_5 (by decide) ?_
  refine q_istore_n dX10_findColumns_6 rfl (by decide) (nb_i (j := 1) rfl) ?_
  exact Wq.mask [true, true, true, false] rfl (wl_X10_findColumns_7 g l o FU _ _ _ _ hB)

def b_X10_key_82  (s0 : Int32) (h : HS) : Option (Int32 × HS) :=
  some (s0, h)
def b_X10_key_54  (s0 : Int32) (h : HS) : Option (Int32 × HS) :=
  some (s0, h)
def f_X10_key  (a0 : Nat) (a1 : Int32) (a2 : Int32) (h : HS) : Option (Int32 × HS) :=
  bd (f_X10_in a1.toInt64 (0 : Int64) (1 : Int64) h) (fun r1 => (if r1.1 = 0 then some ((-2 : Int32), r1.2) else nn (some a0) (fun n3 => gd (rk r1.2 n3 8) (bd (f_X10_findRows n3 (0 : Int32) r1.2) (fun r2 => nn (some a0) (fun n5 => gd (rk r2.2 n5 8) (bd (f_X10_findColumns n5 (0 : Int32) r2.2) (fun r4 => (if a1 = 0 then nn (some a0) (fun n10 => gd (ck r4.2 n10 8) (bd (f_X10_in a2.toInt64 (0 : Int64) ((hI r4.2 n10 13) - (1 : Int32)).toInt64 r4.2) (fun r11 => (if r11.1 = 0 then b_X10_key_54 (-9 : Int32) r11.2 else nn (some a0) (fun n12 => gd (ck r11.2 n12 8) (nn (hP r11.2 n12 15) (fun n13 => gd (ca r11.2 n13 9 a2) (b_X10_key_54 (hI r11.2 n13 a2.toNatClampNeg) r11.2)))))))) else nn (some a0) (fun n6 => gd (ck r4.2 n6 8) (bd (f_X10_in a2.toInt64 (0 : Int64) ((hI r4.2 n6 14) - (1 : Int32)).toInt64 r4.2) (fun r7 => (if r7.1 = 0 then b_X10_key_82 (-9 : Int32) r7.2 else nn (some a0) (fun n8 => gd (ck r7.2 n8 8) (nn (hP r7.2 n8 17) (fun n9 => gd (ca r7.2 n9 9 a2) (b_X10_key_82 (hI r7.2 n9 a2.toNatClampNeg) r7.2)))))))))))))))))
set_option maxHeartbeats 4000000 in
set_option maxRecDepth 100000 in
theorem wb_X10_key_82 (g : GG) (l : Launch) (s0 : Int32) (h : HS) (o : Int32 × HS) (hB : b_X10_key_82 s0 h = some o) : Wq g l mX10_key 0 0 82 [none, none, none] [.int s0] h (QI o) := by
  unfold b_X10_key_82 at hB
  exact q_iret hB dX10_key_82 rfl (by decide) (by decide)
set_option maxHeartbeats 4000000 in
set_option maxRecDepth 100000 in
theorem wb_X10_key_54 (g : GG) (l : Launch) (s0 : Int32) (h : HS) (o : Int32 × HS) (hB : b_X10_key_54 s0 h = some o) : Wq g l mX10_key 0 0 54 [none, none, none] [.int s0] h (QI o) := by
  unfold b_X10_key_54 at hB
  exact q_iret hB dX10_key_54 rfl (by decide) (by decide)
set_option maxHeartbeats 4000000 in
set_option maxRecDepth 100000 in
theorem c_X10_key (g : GG) (l : Launch) (a0 : Nat) (a1 : Int32) (a2 : Int32) (h : HS) (o : Int32 × HS) (hB : f_X10_key a0 a1 a2 h = some o) : Ct g l mX10_key [va_rf (some a0), .int a1, .int a2] h (QI o) := by
  refine Ct.of2 (lv0 := [some (va_rf (some a0)), some (.int a1), some (.int a2)]) (by decide +kernel) (by simp [lg_sl, rf_cat, cat_i, cat_l]) rfl ?_
  unfold f_X10_key at hB
  refine q_iload_n dX10_key_0 rfl rfl ?_
  refine q_i2l dX10_key_1 ?_
  refine q_lconst (v := 0) dX10_key_2 (by decide) ?_
  refine q_lconst (v := 1) dX10_key_3 (by decide) ?_
  refine q_callSI (k' := 0) (w' := 0) hB (fun a hf => c_X10_in g l _ _ _ _ a hf) rfl dX10_key_4 wd_825 cs_X10_in wd_826 rfl ⟨⟨Nat.le_of_ble_eq_true rfl, Nat.le_of_ble_eq_true rfl⟩, ⟨Nat.le_of_ble_eq_true rfl, Nat.le_of_ble_eq_true rfl⟩, Nat.le_of_ble_eq_true rfl⟩ rfl rfl (fun r1 hB => ?_)
  refine q_if_ne (tgt := 13) hB dX10_key_7 (by decide) (fun hB => ?_) (fun hB => ?_)
  · refine q_aload_n dX10_key_13 rfl rfl ?_
    refine q_iconst (v := 0) dX10_key_14 (by decide) ?_
    refine q_callVV (k' := 0) (w' := 0) hB (fun b a hf => c_X10_findRows g l b _ _ a hf) rfl rfl dX10_key_15 wd_859 cs_X10_findRows wd_861 wd_21 rfl ⟨⟨Nat.le_of_ble_eq_true rfl, Nat.le_of_ble_eq_true rfl⟩, ⟨Nat.le_of_ble_eq_true rfl, Nat.le_of_ble_eq_true rfl⟩, Nat.le_of_ble_eq_true rfl⟩ rfl rfl (fun n3 r2 hB => ?_)
    refine q_aload_n dX10_key_18 rfl rfl ?_
    refine q_iconst (v := 0) dX10_key_19 (by decide) ?_
    refine q_callVV (k' := 0) (w' := 0) hB (fun b a hf => c_X10_findColumns g l b _ _ a hf) rfl rfl dX10_key_20 wd_956 cs_X10_findColumns wd_958 wd_35 rfl ⟨⟨Nat.le_of_ble_eq_true rfl, Nat.le_of_ble_eq_true rfl⟩, ⟨Nat.le_of_ble_eq_true rfl, Nat.le_of_ble_eq_true rfl⟩, Nat.le_of_ble_eq_true rfl⟩ rfl rfl (fun n5 r4 hB => ?_)
    refine q_iload_n dX10_key_23 rfl rfl ?_
    refine q_if_ne (tgt := 55) hB dX10_key_24 (by decide) (fun hB => ?_) (fun hB => ?_)
    · refine q_iload_n dX10_key_55 rfl rfl ?_
      refine q_i2l dX10_key_56 ?_
      refine q_lconst (v := 0) dX10_key_57 (by decide) ?_
      refine q_aload_n dX10_key_58 rfl rfl ?_
      refine q_getI (j := 14) hB dX10_key_59 fc_8 (by decide) rfl wd_743 (fun n6 hB => ?_)
      refine q_iconst (v := 1) dX10_key_62 (by decide) ?_
      refine q_isub dX10_key_63 ?_
      refine q_i2l dX10_key_64 ?_
      refine q_callSI (k' := 0) (w' := 0) hB (fun a hf => c_X10_in g l _ _ _ _ a hf) rfl dX10_key_65 wd_825 cs_X10_in wd_826 rfl ⟨⟨Nat.le_of_ble_eq_true rfl, Nat.le_of_ble_eq_true rfl⟩, ⟨Nat.le_of_ble_eq_true rfl, Nat.le_of_ble_eq_true rfl⟩, Nat.le_of_ble_eq_true rfl⟩ rfl rfl (fun r7 hB => ?_)
      refine q_if_eq (tgt := 80) hB dX10_key_68 (by decide) (fun hB => ?_) (fun hB => ?_)
      · refine q_bipush (v := -9) dX10_key_80 (by decide) ?_
        exact Wq.mask [false, false, false] rfl (wb_X10_key_82 g l _ _ o hB)
      · refine q_aload_n dX10_key_71 rfl rfl ?_
        refine q_getP (j := 17) hB dX10_key_72 fc_8 (by decide) rfl wd_746 (fun n8 hB => ?_)
        refine q_iload_n dX10_key_75 rfl rfl ?_
        refine q_iald hB dX10_key_76 (fun n9 hB => ?_)
        refine q_goto (tgt := 82) dX10_key_77 (by decide) ?_
        exact Wq.mask [false, false, false] rfl (wb_X10_key_82 g l _ _ o hB)
    · refine q_iload_n dX10_key_27 rfl rfl ?_
      refine q_i2l dX10_key_28 ?_
      refine q_lconst (v := 0) dX10_key_29 (by decide) ?_
      refine q_aload_n dX10_key_30 rfl rfl ?_
      refine q_getI (j := 13) hB dX10_key_31 fc_8 (by decide) rfl wd_742 (fun n10 hB => ?_)
      refine q_iconst (v := 1) dX10_key_34 (by decide) ?_
      refine q_isub dX10_key_35 ?_
      refine q_i2l dX10_key_36 ?_
      refine q_callSI (k' := 0) (w' := 0) hB (fun a hf => c_X10_in g l _ _ _ _ a hf) rfl dX10_key_37 wd_825 cs_X10_in wd_826 rfl ⟨⟨Nat.le_of_ble_eq_true rfl, Nat.le_of_ble_eq_true rfl⟩, ⟨Nat.le_of_ble_eq_true rfl, Nat.le_of_ble_eq_true rfl⟩, Nat.le_of_ble_eq_true rfl⟩ rfl rfl (fun r11 hB => ?_)
      refine q_if_eq (tgt := 52) hB dX10_key_40 (by decide) (fun hB => ?_) (fun hB => ?_)
      · refine q_bipush (v := -9) dX10_key_52 (by decide) ?_
        exact Wq.mask [false, false, false] rfl (wb_X10_key_54 g l _ _ o hB)
      · refine q_aload_n dX10_key_43 rfl rfl ?_
        refine q_getP (j := 15) hB dX10_key_44 fc_8 (by decide) rfl wd_744 (fun n12 hB => ?_)
        refine q_iload_n dX10_key_47 rfl rfl ?_
        refine q_iald hB dX10_key_48 (fun n13 hB => ?_)
        refine q_goto (tgt := 54) dX10_key_49 (by decide) ?_
        exact Wq.mask [false, false, false] rfl (wb_X10_key_54 g l _ _ o hB)
  · refine q_bipush (v := -2) dX10_key_10 (by decide) ?_
    exact q_iret hB dX10_key_12 rfl (by decide) (by decide)

def b_X2_setOf_2  (k2 : Nat → Int32 → Int32 → HS → Option (Int32 × HS)) (a0 : Nat) (a1 : Int32) (a2 : Int32) (h : HS) : Option (Int32 × HS) :=
  nn (some a0) (fun n1 => gd (ck h n1 2) ((if (hI h n1 3) ≤ a2 then some ((0 : Int32), h) else nn (some a0) (fun n2 => gd (ck h n2 2) (nn (hP h n2 0) (fun n3 => gd (ca h n3 9 a2) ((if (hI h n3 a2.toNatClampNeg) = a1 then nn (some a0) (fun n4 => gd (ck h n4 2) (nn (hP h n4 1) (fun n5 => gd (ca h n5 9 a2) (some ((hI h n5 a2.toNatClampNeg), h))))) else k2 a0 a1 (a2 + (1 : Int32)) h))))))))
def l_X2_setOf_2  : Nat → Nat → Int32 → Int32 → HS → Option (Int32 × HS)
  | 0 => fun _ _ _ _ => none
  | n + 1 => b_X2_setOf_2 (l_X2_setOf_2 n)
def f_X2_setOf  (a0 : Nat) (a1 : Int32) (h : HS) : Option (Int32 × HS) :=
  l_X2_setOf_2 FU a0 a1 (0 : Int32) h
set_option maxHeartbeats 4000000 in
set_option maxRecDepth 100000 in
theorem wb_X2_setOf_2 (g : GG) (l : Launch) (k2 : Nat → Int32 → Int32 → HS → Option (Int32 × HS)) (a0 : Nat) (a1 : Int32) (a2 : Int32) (h : HS) (o : Int32 × HS) (hB : b_X2_setOf_2 k2 a0 a1 a2 h = some o) (hk2 : ∀ (a0 : Nat) (a1 : Int32) (a2 : Int32) (h : HS), k2 a0 a1 a2 h = some o → Wq g l mX2_setOf 0 0 2 [some (va_rf (some a0)), some (.int a1), some (.int a2)] [] h (QI o)) : Wq g l mX2_setOf 0 0 2 [some (va_rf (some a0)), some (.int a1), some (.int a2)] [] h (QI o) := by
  unfold b_X2_setOf_2 at hB
  refine q_iload_n dX2_setOf_2 rfl rfl ?_
  refine q_aload_n dX2_setOf_3 rfl rfl ?_
  refine q_getI (j := 3) hB dX2_setOf_4 fc_2 (by decide) rfl wd_204 (fun n1 hB => ?_)
  refine q_icmp_ge (tgt := 33) hB dX2_setOf_7 (by decide) (fun hB => ?_) (fun hB => ?_)
  · refine q_iconst (v := 0) dX2_setOf_33 (by decide) ?_
    exact q_iret hB dX2_setOf_34 rfl (by decide) (by decide)
  · refine q_aload_n dX2_setOf_10 rfl rfl ?_
    refine q_getP (j := 0) hB dX2_setOf_11 fc_2 (by decide) rfl wd_200 (fun n2 hB => ?_)
    refine q_iload_n dX2_setOf_14 rfl rfl ?_
    refine q_iald hB dX2_setOf_15 (fun n3 hB => ?_)
    refine q_iload_n dX2_setOf_16 rfl rfl ?_
    refine q_icmp_ne (tgt := 27) hB dX2_setOf_17 (by decide) (fun hB => ?_) (fun hB => ?_)
    · refine q_iinc dX2_setOf_27 rfl (show _ = (a2 + (1 : Int32)) from rfl) (by decide) (nb_i (j := 1) rfl) ?_
      refine q_goto (tgt := 2) dX2_setOf_30 (by decide) ?_
      exact Wq.mask [true, true, true] rfl (hk2 _ _ _ _ hB)
    · refine q_aload_n dX2_setOf_20 rfl rfl ?_
      refine q_getP (j := 1) hB dX2_setOf_21 fc_2 (by decide) rfl wd_202 (fun n4 hB => ?_)
      refine q_iload_n dX2_setOf_24 rfl rfl ?_
      refine q_iald hB dX2_setOf_25 (fun n5 hB => ?_)
      exact q_iret hB dX2_setOf_26 rfl (by decide) (by decide)
set_option maxHeartbeats 4000000 in
theorem wl_X2_setOf_2 (g : GG) (l : Launch) (o : Int32 × HS) : ∀ (n : Nat) (a0 : Nat) (a1 : Int32) (a2 : Int32) (h : HS), l_X2_setOf_2 n a0 a1 a2 h = some o → Wq g l mX2_setOf 0 0 2 [some (va_rf (some a0)), some (.int a1), some (.int a2)] [] h (QI o) := by
  intro n
  induction n with
  | zero =>
    intro a0 a1 a2  h hB
    have q : (none : Option (Int32 × HS)) = some o := hB
    cases q
  | succ n ih =>
    intro a0 a1 a2  h hB
    exact wb_X2_setOf_2 g l (l_X2_setOf_2 n) a0 a1 a2 h o hB ih
set_option maxHeartbeats 4000000 in
set_option maxRecDepth 100000 in
theorem c_X2_setOf (g : GG) (l : Launch) (a0 : Nat) (a1 : Int32) (h : HS) (o : Int32 × HS) (hB : f_X2_setOf a0 a1 h = some o) : Ct g l mX2_setOf [va_rf (some a0), .int a1] h (QI o) := by
  refine Ct.of2 (lv0 := [some (va_rf (some a0)), some (.int a1), none]) (by decide +kernel) (by simp [lg_sl, rf_cat, cat_i, cat_l]) rfl ?_
  unfold f_X2_setOf at hB
  refine q_iconst (v := 0) dX2_setOf_0 (by decide) ?_
  refine q_istore_n dX2_setOf_1 rfl (by decide) (nb_i (j := 1) rfl) ?_
  exact Wq.mask [true, true, true] rfl (wl_X2_setOf_2 g l o FU _ _ _ _ hB)

def f_X9_cellOf  (a0 : Nat) (a1 : Option Nat) (a2 : Int32) (a3 : Int32) (h : HS) : Option (Int32 × HS) :=
  nn (some a0) (fun n2 => gd (rk h n2 7) (bd (f_X9_rowsOf n2 a1 h) (fun r1 => nn r1.1 (fun n4 => gd (rk r1.2 n4 2) (bd (f_X2_setOf n4 a2 r1.2) (fun r3 => nn (some a0) (fun n6 => gd (rk r3.2 n6 7) (bd (f_X9_columnsOf n6 a1 r3.2) (fun r5 => nn r5.1 (fun n8 => gd (rk r5.2 n8 2) (bd (f_X2_setOf n8 a3 r5.2) (fun r7 => some ((r3.1 &&& r7.1), r7.2)))))))))))))
set_option maxHeartbeats 4000000 in
set_option maxRecDepth 100000 in
theorem c_X9_cellOf (g : GG) (l : Launch) (a0 : Nat) (a1 : Option Nat) (a2 : Int32) (a3 : Int32) (h : HS) (o : Int32 × HS) (hB : f_X9_cellOf a0 a1 a2 a3 h = some o) : Ct g l mX9_cellOf [va_rf (some a0), va_rf a1, .int a2, .int a3] h (QI o) := by
  refine Ct.of2 (lv0 := [some (va_rf (some a0)), some (va_rf a1), some (.int a2), some (.int a3)]) (by decide +kernel) (by simp [lg_sl, rf_cat, cat_i, cat_l]) (by simp only [entL_r, entL_i, entL_l]; rfl) ?_
  unfold f_X9_cellOf at hB
  refine q_aload_n dX9_cellOf_0 rfl rfl ?_
  refine q_aload_n dX9_cellOf_1 rfl rfl ?_
  refine q_callVP (k' := 0) (w' := 0) hB (fun b a hf => c_X9_rowsOf g l b _ _ a hf) rfl rfl dX9_cellOf_2 wd_380 cs_X9_rowsOf wd_382 wd_3 rfl ⟨⟨Nat.le_of_ble_eq_true rfl, Nat.le_of_ble_eq_true rfl⟩, ⟨Nat.le_of_ble_eq_true rfl, Nat.le_of_ble_eq_true rfl⟩, Nat.le_of_ble_eq_true rfl⟩ rfl rfl (fun n2 r1 hB => ?_)
  refine q_iload_n dX9_cellOf_5 rfl rfl ?_
  refine q_callVI (k' := 0) (w' := 0) hB (fun b a hf => c_X2_setOf g l b _ _ a hf) rfl rfl dX9_cellOf_6 wd_563 cs_X2_setOf wd_564 wd_565 rfl ⟨⟨Nat.le_of_ble_eq_true rfl, Nat.le_of_ble_eq_true rfl⟩, ⟨Nat.le_of_ble_eq_true rfl, Nat.le_of_ble_eq_true rfl⟩, Nat.le_of_ble_eq_true rfl⟩ rfl rfl (fun n4 r3 hB => ?_)
  refine q_aload_n dX9_cellOf_9 rfl rfl ?_
  refine q_aload_n dX9_cellOf_10 rfl rfl ?_
  refine q_callVP (k' := 0) (w' := 0) hB (fun b a hf => c_X9_columnsOf g l b _ _ a hf) rfl rfl dX9_cellOf_11 wd_533 cs_X9_columnsOf wd_535 wd_7 rfl ⟨⟨Nat.le_of_ble_eq_true rfl, Nat.le_of_ble_eq_true rfl⟩, ⟨Nat.le_of_ble_eq_true rfl, Nat.le_of_ble_eq_true rfl⟩, by simp [rf_cat, cat_i, cat_l]⟩ rfl rfl (fun n6 r5 hB => ?_)
  refine q_iload_n dX9_cellOf_14 rfl rfl ?_
  refine q_callVI (k' := 0) (w' := 0) hB (fun b a hf => c_X2_setOf g l b _ _ a hf) rfl rfl dX9_cellOf_15 wd_563 cs_X2_setOf wd_564 wd_565 rfl ⟨⟨Nat.le_of_ble_eq_true rfl, Nat.le_of_ble_eq_true rfl⟩, ⟨Nat.le_of_ble_eq_true rfl, Nat.le_of_ble_eq_true rfl⟩, by simp [rf_cat, cat_i, cat_l]⟩ rfl rfl (fun n8 r7 hB => ?_)
  refine q_iand dX9_cellOf_18 ?_
  exact q_iret hB dX9_cellOf_19 rfl (by decide) (by decide)

def f_X9_measureOf  (a0 : Nat) (a1 : Option Nat) (a2 : Int32) (h : HS) : Option (Int32 × HS) :=
  nn (some a0) (fun n1 => gd (ck h n1 7) (nn (hP h n1 1) (fun n2 => gd (ck h n2 4) (nn (hP h n2 2) (fun n4 => gd (rk h n4 21) (bd (f_X5_of n4 a1 a2 h) (fun r3 => some (r3.1, r3.2))))))))
set_option maxHeartbeats 4000000 in
set_option maxRecDepth 100000 in
theorem c_X9_measureOf (g : GG) (l : Launch) (a0 : Nat) (a1 : Option Nat) (a2 : Int32) (h : HS) (o : Int32 × HS) (hB : f_X9_measureOf a0 a1 a2 h = some o) : Ct g l mX9_measureOf [va_rf (some a0), va_rf a1, .int a2] h (QI o) := by
  refine Ct.of2 (lv0 := [some (va_rf (some a0)), some (va_rf a1), some (.int a2)]) (by decide +kernel) (by simp [lg_sl, rf_cat, cat_i, cat_l]) (by simp only [entL_r, entL_i, entL_l]; rfl) ?_
  unfold f_X9_measureOf at hB
  refine q_aload_n dX9_measureOf_0 rfl rfl ?_
  refine q_getP (j := 1) hB dX9_measureOf_1 fc_7 (by decide) rfl wd_241 (fun n1 hB => ?_)
  refine q_getP (j := 2) hB dX9_measureOf_4 fc_4 (by decide) rfl wd_111 (fun n2 hB => ?_)
  refine q_aload_n dX9_measureOf_7 rfl rfl ?_
  refine q_iload_n dX9_measureOf_8 rfl rfl ?_
  refine q_callVI (k' := 0) (w' := 0) hB (fun b a hf => c_X5_of g l b _ _ _ a hf) rfl rfl dX9_measureOf_9 wd_571 cs_X5_of wd_406 wd_407 rfl ⟨⟨Nat.le_of_ble_eq_true rfl, Nat.le_of_ble_eq_true rfl⟩, ⟨Nat.le_of_ble_eq_true rfl, Nat.le_of_ble_eq_true rfl⟩, Nat.le_of_ble_eq_true rfl⟩ rfl rfl (fun n4 r3 hB => ?_)
  exact q_iret hB dX9_measureOf_12 rfl (by decide) (by decide)

def f_X9_cell  (a0 : Nat) (a1 : Int32) (a2 : Int32) (h : HS) : Option (Int32 × HS) :=
  nn (some a0) (fun n1 => gd (ck h n1 7) (nn (some a0) (fun n2 => gd (ck h n2 7) (nn (some a0) (fun n4 => gd (rk h n4 7) (bd (f_X9_cellOf n4 (hP h n2 3) a1 a2 h) (fun r3 => nn (some a0) (fun n6 => gd (rk r3.2 n6 7) (bd (f_X9_measureOf n6 (hP h n1 3) r3.1 r3.2) (fun r5 => some (r5.1, r5.2)))))))))))
set_option maxHeartbeats 4000000 in
set_option maxRecDepth 100000 in
theorem c_X9_cell (g : GG) (l : Launch) (a0 : Nat) (a1 : Int32) (a2 : Int32) (h : HS) (o : Int32 × HS) (hB : f_X9_cell a0 a1 a2 h = some o) : Ct g l mX9_cell [va_rf (some a0), .int a1, .int a2] h (QI o) := by
  refine Ct.of2 (lv0 := [some (va_rf (some a0)), some (.int a1), some (.int a2)]) (by decide +kernel) (by simp [lg_sl, rf_cat, cat_i, cat_l]) rfl ?_
  unfold f_X9_cell at hB
  refine q_aload_n dX9_cell_0 rfl rfl ?_
  refine q_aload_n dX9_cell_1 rfl rfl ?_
  refine q_getP (j := 3) hB dX9_cell_2 fc_7 (by decide) rfl wd_243 (fun n1 hB => ?_)
  refine q_aload_n dX9_cell_5 rfl rfl ?_
  refine q_aload_n dX9_cell_6 rfl rfl ?_
  refine q_getP (j := 3) hB dX9_cell_7 fc_7 (by decide) rfl wd_243 (fun n2 hB => ?_)
  refine q_iload_n dX9_cell_10 rfl rfl ?_
  refine q_iload_n dX9_cell_11 rfl rfl ?_
  refine q_callVI (k' := 0) (w' := 0) hB (fun b a hf => c_X9_cellOf g l b _ _ _ _ a hf) rfl rfl dX9_cell_12 wd_559 cs_X9_cellOf wd_561 wd_9 rfl ⟨⟨Nat.le_of_ble_eq_true rfl, Nat.le_of_ble_eq_true rfl⟩, ⟨Nat.le_of_ble_eq_true rfl, Nat.le_of_ble_eq_true rfl⟩, by simp [rf_cat, cat_i, cat_l]⟩ rfl rfl (fun n4 r3 hB => ?_)
  refine q_callVI (k' := 0) (w' := 0) hB (fun b a hf => c_X9_measureOf g l b _ _ _ a hf) rfl rfl dX9_cell_15 wd_567 cs_X9_measureOf wd_569 wd_10 rfl ⟨⟨Nat.le_of_ble_eq_true rfl, Nat.le_of_ble_eq_true rfl⟩, ⟨Nat.le_of_ble_eq_true rfl, Nat.le_of_ble_eq_true rfl⟩, Nat.le_of_ble_eq_true rfl⟩ rfl rfl (fun n6 r5 hB => ?_)
  exact q_iret hB dX9_cell_18 rfl (by decide) (by decide)

def b_X10_rowOf_33  (k4 : Nat → Int32 → Int32 → Int32 → HS → Option (Int32 × HS)) (a0 : Nat) (a1 : Int32) (a3 : Int32) (s0 : Int32) (s1 : Int32) (h : HS) : Option (Int32 × HS) :=
  k4 a0 a1 (s0 ||| s1) (a3 + (1 : Int32)) h
def b_X10_rowOf_4  (k4 : Nat → Int32 → Int32 → Int32 → HS → Option (Int32 × HS)) (a0 : Nat) (a1 : Int32) (a2 : Int32) (a3 : Int32) (h : HS) : Option (Int32 × HS) :=
  nn (some a0) (fun n1 => gd (ck h n1 8) ((if (hI h n1 13) ≤ a3 then some (a2, h) else nn (some a0) (fun n2 => gd (ck h n2 8) (nn (hP h n2 15) (fun n3 => gd (ca h n3 9 a3) ((if (hI h n3 a3.toNatClampNeg) = a1 then nn (some a0) (fun n4 => gd (ck h n4 8) (nn (hP h n4 16) (fun n5 => gd (ca h n5 9 a3) (b_X10_rowOf_33 k4 a0 a1 a3 a2 (hI h n5 a3.toNatClampNeg) h)))) else b_X10_rowOf_33 k4 a0 a1 a3 a2 (0 : Int32) h))))))))
def l_X10_rowOf_4  : Nat → Nat → Int32 → Int32 → Int32 → HS → Option (Int32 × HS)
  | 0 => fun _ _ _ _ _ => none
  | n + 1 => b_X10_rowOf_4 (l_X10_rowOf_4 n)
def f_X10_rowOf  (a0 : Nat) (a1 : Int32) (h : HS) : Option (Int32 × HS) :=
  l_X10_rowOf_4 FU a0 a1 (0 : Int32) (0 : Int32) h
set_option maxHeartbeats 4000000 in
set_option maxRecDepth 100000 in
theorem wb_X10_rowOf_33 (g : GG) (l : Launch) (k4 : Nat → Int32 → Int32 → Int32 → HS → Option (Int32 × HS)) (a0 : Nat) (a1 : Int32) (a3 : Int32) (s0 : Int32) (s1 : Int32) (h : HS) (o : Int32 × HS) (hB : b_X10_rowOf_33 k4 a0 a1 a3 s0 s1 h = some o) (hk4 : ∀ (a0 : Nat) (a1 : Int32) (a2 : Int32) (a3 : Int32) (h : HS), k4 a0 a1 a2 a3 h = some o → Wq g l mX10_rowOf 0 0 4 [some (va_rf (some a0)), some (.int a1), some (.int a2), some (.int a3)] [] h (QI o)) : Wq g l mX10_rowOf 0 0 33 [some (va_rf (some a0)), some (.int a1), none, some (.int a3)] [.int s1, .int s0] h (QI o) := by
  unfold b_X10_rowOf_33 at hB
  refine q_ior dX10_rowOf_33 ?_
  refine q_istore_n dX10_rowOf_34 rfl (by decide) (nb_i (j := 1) rfl) ?_
  refine q_iinc dX10_rowOf_35 rfl (show _ = (a3 + (1 : Int32)) from rfl) (by decide) (nb_i (j := 2) rfl) ?_
  refine q_goto (tgt := 4) dX10_rowOf_38 (by decide) ?_
  exact Wq.mask [true, true, true, true] rfl (hk4 _ _ _ _ _ hB)
set_option maxHeartbeats 4000000 in
set_option maxRecDepth 100000 in
theorem wb_X10_rowOf_4 (g : GG) (l : Launch) (k4 : Nat → Int32 → Int32 → Int32 → HS → Option (Int32 × HS)) (a0 : Nat) (a1 : Int32) (a2 : Int32) (a3 : Int32) (h : HS) (o : Int32 × HS) (hB : b_X10_rowOf_4 k4 a0 a1 a2 a3 h = some o) (hk4 : ∀ (a0 : Nat) (a1 : Int32) (a2 : Int32) (a3 : Int32) (h : HS), k4 a0 a1 a2 a3 h = some o → Wq g l mX10_rowOf 0 0 4 [some (va_rf (some a0)), some (.int a1), some (.int a2), some (.int a3)] [] h (QI o)) : Wq g l mX10_rowOf 0 0 4 [some (va_rf (some a0)), some (.int a1), some (.int a2), some (.int a3)] [] h (QI o) := by
  unfold b_X10_rowOf_4 at hB
  refine q_iload_n dX10_rowOf_4 rfl rfl ?_
  refine q_aload_n dX10_rowOf_5 rfl rfl ?_
  refine q_getI (j := 13) hB dX10_rowOf_6 fc_8 (by decide) rfl wd_742 (fun n1 hB => ?_)
  refine q_icmp_ge (tgt := 41) hB dX10_rowOf_9 (by decide) (fun hB => ?_) (fun hB => ?_)
  · refine q_iload_n dX10_rowOf_41 rfl rfl ?_
    exact q_iret hB dX10_rowOf_42 rfl (by decide) (by decide)
  · refine q_iload_n dX10_rowOf_12 rfl rfl ?_
    refine q_aload_n dX10_rowOf_13 rfl rfl ?_
    refine q_getP (j := 15) hB dX10_rowOf_14 fc_8 (by decide) rfl wd_744 (fun n2 hB => ?_)
    refine q_iload_n dX10_rowOf_17 rfl rfl ?_
    refine q_iald hB dX10_rowOf_18 (fun n3 hB => ?_)
    refine q_iload_n dX10_rowOf_19 rfl rfl ?_
    refine q_icmp_ne (tgt := 32) hB dX10_rowOf_20 (by decide) (fun hB => ?_) (fun hB => ?_)
    · refine q_iconst (v := 0) dX10_rowOf_32 (by decide) ?_
      exact Wq.mask [true, true, false, true] rfl (wb_X10_rowOf_33 g l k4 _ _ _ _ _ _ o hB hk4)
    · refine q_aload_n dX10_rowOf_23 rfl rfl ?_
      refine q_getP (j := 16) hB dX10_rowOf_24 fc_8 (by decide) rfl wd_745 (fun n4 hB => ?_)
      refine q_iload_n dX10_rowOf_27 rfl rfl ?_
      refine q_iald hB dX10_rowOf_28 (fun n5 hB => ?_)
      refine q_goto (tgt := 33) dX10_rowOf_29 (by decide) ?_
      exact Wq.mask [true, true, false, true] rfl (wb_X10_rowOf_33 g l k4 _ _ _ _ _ _ o hB hk4)
set_option maxHeartbeats 4000000 in
theorem wl_X10_rowOf_4 (g : GG) (l : Launch) (o : Int32 × HS) : ∀ (n : Nat) (a0 : Nat) (a1 : Int32) (a2 : Int32) (a3 : Int32) (h : HS), l_X10_rowOf_4 n a0 a1 a2 a3 h = some o → Wq g l mX10_rowOf 0 0 4 [some (va_rf (some a0)), some (.int a1), some (.int a2), some (.int a3)] [] h (QI o) := by
  intro n
  induction n with
  | zero =>
    intro a0 a1 a2 a3  h hB
    have q : (none : Option (Int32 × HS)) = some o := hB
    cases q
  | succ n ih =>
    intro a0 a1 a2 a3  h hB
    exact wb_X10_rowOf_4 g l (l_X10_rowOf_4 n) a0 a1 a2 a3 h o hB ih
set_option maxHeartbeats 4000000 in
set_option maxRecDepth 100000 in
theorem c_X10_rowOf (g : GG) (l : Launch) (a0 : Nat) (a1 : Int32) (h : HS) (o : Int32 × HS) (hB : f_X10_rowOf a0 a1 h = some o) : Ct g l mX10_rowOf [va_rf (some a0), .int a1] h (QI o) := by
  refine Ct.of2 (lv0 := [some (va_rf (some a0)), some (.int a1), none, none]) (by decide +kernel) (by simp [lg_sl, rf_cat, cat_i, cat_l]) rfl ?_
  unfold f_X10_rowOf at hB
  refine q_iconst (v := 0) dX10_rowOf_0 (by decide) ?_
  refine q_istore_n dX10_rowOf_1 rfl (by decide) (nb_i (j := 1) rfl) ?_
  refine q_iconst (v := 0) dX10_rowOf_2 (by decide) ?_
  refine q_istore_n dX10_rowOf_3 rfl (by decide) (nb_i (j := 2) rfl) ?_
  exact Wq.mask [true, true, true, true] rfl (wl_X10_rowOf_4 g l o FU _ _ _ _ _ hB)

def b_X10_columnOf_33  (k4 : Nat → Int32 → Int32 → Int32 → HS → Option (Int32 × HS)) (a0 : Nat) (a1 : Int32) (a3 : Int32) (s0 : Int32) (s1 : Int32) (h : HS) : Option (Int32 × HS) :=
  k4 a0 a1 (s0 ||| s1) (a3 + (1 : Int32)) h
def b_X10_columnOf_4  (k4 : Nat → Int32 → Int32 → Int32 → HS → Option (Int32 × HS)) (a0 : Nat) (a1 : Int32) (a2 : Int32) (a3 : Int32) (h : HS) : Option (Int32 × HS) :=
  nn (some a0) (fun n1 => gd (ck h n1 8) ((if (hI h n1 14) ≤ a3 then some (a2, h) else nn (some a0) (fun n2 => gd (ck h n2 8) (nn (hP h n2 17) (fun n3 => gd (ca h n3 9 a3) ((if (hI h n3 a3.toNatClampNeg) = a1 then nn (some a0) (fun n4 => gd (ck h n4 8) (nn (hP h n4 18) (fun n5 => gd (ca h n5 9 a3) (b_X10_columnOf_33 k4 a0 a1 a3 a2 (hI h n5 a3.toNatClampNeg) h)))) else b_X10_columnOf_33 k4 a0 a1 a3 a2 (0 : Int32) h))))))))
def l_X10_columnOf_4  : Nat → Nat → Int32 → Int32 → Int32 → HS → Option (Int32 × HS)
  | 0 => fun _ _ _ _ _ => none
  | n + 1 => b_X10_columnOf_4 (l_X10_columnOf_4 n)
def f_X10_columnOf  (a0 : Nat) (a1 : Int32) (h : HS) : Option (Int32 × HS) :=
  l_X10_columnOf_4 FU a0 a1 (0 : Int32) (0 : Int32) h
set_option maxHeartbeats 4000000 in
set_option maxRecDepth 100000 in
theorem wb_X10_columnOf_33 (g : GG) (l : Launch) (k4 : Nat → Int32 → Int32 → Int32 → HS → Option (Int32 × HS)) (a0 : Nat) (a1 : Int32) (a3 : Int32) (s0 : Int32) (s1 : Int32) (h : HS) (o : Int32 × HS) (hB : b_X10_columnOf_33 k4 a0 a1 a3 s0 s1 h = some o) (hk4 : ∀ (a0 : Nat) (a1 : Int32) (a2 : Int32) (a3 : Int32) (h : HS), k4 a0 a1 a2 a3 h = some o → Wq g l mX10_columnOf 0 0 4 [some (va_rf (some a0)), some (.int a1), some (.int a2), some (.int a3)] [] h (QI o)) : Wq g l mX10_columnOf 0 0 33 [some (va_rf (some a0)), some (.int a1), none, some (.int a3)] [.int s1, .int s0] h (QI o) := by
  unfold b_X10_columnOf_33 at hB
  refine q_ior dX10_columnOf_33 ?_
  refine q_istore_n dX10_columnOf_34 rfl (by decide) (nb_i (j := 1) rfl) ?_
  refine q_iinc dX10_columnOf_35 rfl (show _ = (a3 + (1 : Int32)) from rfl) (by decide) (nb_i (j := 2) rfl) ?_
  refine q_goto (tgt := 4) dX10_columnOf_38 (by decide) ?_
  exact Wq.mask [true, true, true, true] rfl (hk4 _ _ _ _ _ hB)
set_option maxHeartbeats 4000000 in
set_option maxRecDepth 100000 in
theorem wb_X10_columnOf_4 (g : GG) (l : Launch) (k4 : Nat → Int32 → Int32 → Int32 → HS → Option (Int32 × HS)) (a0 : Nat) (a1 : Int32) (a2 : Int32) (a3 : Int32) (h : HS) (o : Int32 × HS) (hB : b_X10_columnOf_4 k4 a0 a1 a2 a3 h = some o) (hk4 : ∀ (a0 : Nat) (a1 : Int32) (a2 : Int32) (a3 : Int32) (h : HS), k4 a0 a1 a2 a3 h = some o → Wq g l mX10_columnOf 0 0 4 [some (va_rf (some a0)), some (.int a1), some (.int a2), some (.int a3)] [] h (QI o)) : Wq g l mX10_columnOf 0 0 4 [some (va_rf (some a0)), some (.int a1), some (.int a2), some (.int a3)] [] h (QI o) := by
  unfold b_X10_columnOf_4 at hB
  refine q_iload_n dX10_columnOf_4 rfl rfl ?_
  refine q_aload_n dX10_columnOf_5 rfl rfl ?_
  refine q_getI (j := 14) hB dX10_columnOf_6 fc_8 (by decide) rfl wd_743 (fun n1 hB => ?_)
  refine q_icmp_ge (tgt := 41) hB dX10_columnOf_9 (by decide) (fun hB => ?_) (fun hB => ?_)
  · refine q_iload_n dX10_columnOf_41 rfl rfl ?_
    exact q_iret hB dX10_columnOf_42 rfl (by decide) (by decide)
  · refine q_iload_n dX10_columnOf_12 rfl rfl ?_
    refine q_aload_n dX10_columnOf_13 rfl rfl ?_
    refine q_getP (j := 17) hB dX10_columnOf_14 fc_8 (by decide) rfl wd_746 (fun n2 hB => ?_)
    refine q_iload_n dX10_columnOf_17 rfl rfl ?_
    refine q_iald hB dX10_columnOf_18 (fun n3 hB => ?_)
    refine q_iload_n dX10_columnOf_19 rfl rfl ?_
    refine q_icmp_ne (tgt := 32) hB dX10_columnOf_20 (by decide) (fun hB => ?_) (fun hB => ?_)
    · refine q_iconst (v := 0) dX10_columnOf_32 (by decide) ?_
      exact Wq.mask [true, true, false, true] rfl (wb_X10_columnOf_33 g l k4 _ _ _ _ _ _ o hB hk4)
    · refine q_aload_n dX10_columnOf_23 rfl rfl ?_
      refine q_getP (j := 18) hB dX10_columnOf_24 fc_8 (by decide) rfl wd_747 (fun n4 hB => ?_)
      refine q_iload_n dX10_columnOf_27 rfl rfl ?_
      refine q_iald hB dX10_columnOf_28 (fun n5 hB => ?_)
      refine q_goto (tgt := 33) dX10_columnOf_29 (by decide) ?_
      exact Wq.mask [true, true, false, true] rfl (wb_X10_columnOf_33 g l k4 _ _ _ _ _ _ o hB hk4)
set_option maxHeartbeats 4000000 in
theorem wl_X10_columnOf_4 (g : GG) (l : Launch) (o : Int32 × HS) : ∀ (n : Nat) (a0 : Nat) (a1 : Int32) (a2 : Int32) (a3 : Int32) (h : HS), l_X10_columnOf_4 n a0 a1 a2 a3 h = some o → Wq g l mX10_columnOf 0 0 4 [some (va_rf (some a0)), some (.int a1), some (.int a2), some (.int a3)] [] h (QI o) := by
  intro n
  induction n with
  | zero =>
    intro a0 a1 a2 a3  h hB
    have q : (none : Option (Int32 × HS)) = some o := hB
    cases q
  | succ n ih =>
    intro a0 a1 a2 a3  h hB
    exact wb_X10_columnOf_4 g l (l_X10_columnOf_4 n) a0 a1 a2 a3 h o hB ih
set_option maxHeartbeats 4000000 in
set_option maxRecDepth 100000 in
theorem c_X10_columnOf (g : GG) (l : Launch) (a0 : Nat) (a1 : Int32) (h : HS) (o : Int32 × HS) (hB : f_X10_columnOf a0 a1 h = some o) : Ct g l mX10_columnOf [va_rf (some a0), .int a1] h (QI o) := by
  refine Ct.of2 (lv0 := [some (va_rf (some a0)), some (.int a1), none, none]) (by decide +kernel) (by simp [lg_sl, rf_cat, cat_i, cat_l]) rfl ?_
  unfold f_X10_columnOf at hB
  refine q_iconst (v := 0) dX10_columnOf_0 (by decide) ?_
  refine q_istore_n dX10_columnOf_1 rfl (by decide) (nb_i (j := 1) rfl) ?_
  refine q_iconst (v := 0) dX10_columnOf_2 (by decide) ?_
  refine q_istore_n dX10_columnOf_3 rfl (by decide) (nb_i (j := 2) rfl) ?_
  exact Wq.mask [true, true, true, true] rfl (wl_X10_columnOf_4 g l o FU _ _ _ _ _ hB)

def f_X10_cell  (a0 : Nat) (a1 : Int32) (a2 : Int32) (h : HS) : Option (Int32 × HS) :=
  nn (some a0) (fun n2 => gd (rk h n2 8) (bd (f_X10_findRows n2 (0 : Int32) h) (fun r1 => nn (some a0) (fun n4 => gd (rk r1.2 n4 8) (bd (f_X10_findColumns n4 (0 : Int32) r1.2) (fun r3 => nn (some a0) (fun n6 => gd (rk r3.2 n6 8) (bd (f_X10_rowOf n6 a1 r3.2) (fun r5 => nn (some a0) (fun n8 => gd (rk r5.2 n8 8) (bd (f_X10_columnOf n8 a2 r5.2) (fun r7 => nn (some a0) (fun n10 => gd (rk r7.2 n10 8) (bd (f_X10_measureOf n10 (0 : Int32) (r5.1 &&& r7.1) r7.2) (fun r9 => some (r9.1, r9.2))))))))))))))))
set_option maxHeartbeats 4000000 in
set_option maxRecDepth 100000 in
theorem c_X10_cell (g : GG) (l : Launch) (a0 : Nat) (a1 : Int32) (a2 : Int32) (h : HS) (o : Int32 × HS) (hB : f_X10_cell a0 a1 a2 h = some o) : Ct g l mX10_cell [va_rf (some a0), .int a1, .int a2] h (QI o) := by
  refine Ct.of2 (lv0 := [some (va_rf (some a0)), some (.int a1), some (.int a2)]) (by decide +kernel) (by simp [lg_sl, rf_cat, cat_i, cat_l]) rfl ?_
  unfold f_X10_cell at hB
  refine q_aload_n dX10_cell_0 rfl rfl ?_
  refine q_iconst (v := 0) dX10_cell_1 (by decide) ?_
  refine q_callVV (k' := 0) (w' := 0) hB (fun b a hf => c_X10_findRows g l b _ _ a hf) rfl rfl dX10_cell_2 wd_859 cs_X10_findRows wd_861 wd_21 rfl ⟨⟨Nat.le_of_ble_eq_true rfl, Nat.le_of_ble_eq_true rfl⟩, ⟨Nat.le_of_ble_eq_true rfl, Nat.le_of_ble_eq_true rfl⟩, Nat.le_of_ble_eq_true rfl⟩ rfl rfl (fun n2 r1 hB => ?_)
  refine q_aload_n dX10_cell_5 rfl rfl ?_
  refine q_iconst (v := 0) dX10_cell_6 (by decide) ?_
  refine q_callVV (k' := 0) (w' := 0) hB (fun b a hf => c_X10_findColumns g l b _ _ a hf) rfl rfl dX10_cell_7 wd_956 cs_X10_findColumns wd_958 wd_35 rfl ⟨⟨Nat.le_of_ble_eq_true rfl, Nat.le_of_ble_eq_true rfl⟩, ⟨Nat.le_of_ble_eq_true rfl, Nat.le_of_ble_eq_true rfl⟩, Nat.le_of_ble_eq_true rfl⟩ rfl rfl (fun n4 r3 hB => ?_)
  refine q_aload_n dX10_cell_10 rfl rfl ?_
  refine q_iconst (v := 0) dX10_cell_11 (by decide) ?_
  refine q_aload_n dX10_cell_12 rfl rfl ?_
  refine q_iload_n dX10_cell_13 rfl rfl ?_
  refine q_callVI (k' := 0) (w' := 0) hB (fun b a hf => c_X10_rowOf g l b _ _ a hf) rfl rfl dX10_cell_14 wd_964 cs_X10_rowOf wd_966 wd_36 rfl ⟨⟨Nat.le_of_ble_eq_true rfl, Nat.le_of_ble_eq_true rfl⟩, ⟨Nat.le_of_ble_eq_true rfl, Nat.le_of_ble_eq_true rfl⟩, by simp [rf_cat, cat_i, cat_l]⟩ rfl rfl (fun n6 r5 hB => ?_)
  refine q_aload_n dX10_cell_17 rfl rfl ?_
  refine q_iload_n dX10_cell_18 rfl rfl ?_
  refine q_callVI (k' := 0) (w' := 0) hB (fun b a hf => c_X10_columnOf g l b _ _ a hf) rfl rfl dX10_cell_19 wd_968 cs_X10_columnOf wd_970 wd_37 rfl ⟨⟨Nat.le_of_ble_eq_true rfl, Nat.le_of_ble_eq_true rfl⟩, ⟨Nat.le_of_ble_eq_true rfl, Nat.le_of_ble_eq_true rfl⟩, by simp [rf_cat, cat_i, cat_l]⟩ rfl rfl (fun n8 r7 hB => ?_)
  refine q_iand dX10_cell_22 ?_
  refine q_callVI (k' := 0) (w' := 0) hB (fun b a hf => c_X10_measureOf g l b _ _ _ a hf) rfl rfl dX10_cell_23 wd_883 cs_X10_measureOf wd_885 wd_27 rfl ⟨⟨Nat.le_of_ble_eq_true rfl, Nat.le_of_ble_eq_true rfl⟩, ⟨Nat.le_of_ble_eq_true rfl, Nat.le_of_ble_eq_true rfl⟩, Nat.le_of_ble_eq_true rfl⟩ rfl rfl (fun n10 r9 hB => ?_)
  exact q_iret hB dX10_cell_26 rfl (by decide) (by decide)

def f_X9_drill  (a0 : Nat) (a1 : Int32) (a2 : Int32) (h : HS) : Option (Int32 × HS) :=
  nn (some a0) (fun n1 => gd (ck h n1 7) (nn (some a0) (fun n3 => gd (rk h n3 7) (bd (f_X9_cellOf n3 (hP h n1 3) a1 a2 h) (fun r2 => some (r2.1, r2.2))))))
set_option maxHeartbeats 4000000 in
set_option maxRecDepth 100000 in
theorem c_X9_drill (g : GG) (l : Launch) (a0 : Nat) (a1 : Int32) (a2 : Int32) (h : HS) (o : Int32 × HS) (hB : f_X9_drill a0 a1 a2 h = some o) : Ct g l mX9_drill [va_rf (some a0), .int a1, .int a2] h (QI o) := by
  refine Ct.of2 (lv0 := [some (va_rf (some a0)), some (.int a1), some (.int a2)]) (by decide +kernel) (by simp [lg_sl, rf_cat, cat_i, cat_l]) rfl ?_
  unfold f_X9_drill at hB
  refine q_aload_n dX9_drill_0 rfl rfl ?_
  refine q_aload_n dX9_drill_1 rfl rfl ?_
  refine q_getP (j := 3) hB dX9_drill_2 fc_7 (by decide) rfl wd_243 (fun n1 hB => ?_)
  refine q_iload_n dX9_drill_5 rfl rfl ?_
  refine q_iload_n dX9_drill_6 rfl rfl ?_
  refine q_callVI (k' := 0) (w' := 0) hB (fun b a hf => c_X9_cellOf g l b _ _ _ _ a hf) rfl rfl dX9_drill_7 wd_559 cs_X9_cellOf wd_561 wd_9 rfl ⟨⟨Nat.le_of_ble_eq_true rfl, Nat.le_of_ble_eq_true rfl⟩, ⟨Nat.le_of_ble_eq_true rfl, Nat.le_of_ble_eq_true rfl⟩, Nat.le_of_ble_eq_true rfl⟩ rfl rfl (fun n3 r2 hB => ?_)
  exact q_iret hB dX9_drill_10 rfl (by decide) (by decide)

def f_X10_drill  (a0 : Nat) (a1 : Int32) (a2 : Int32) (h : HS) : Option (Int32 × HS) :=
  nn (some a0) (fun n2 => gd (rk h n2 8) (bd (f_X10_findRows n2 (0 : Int32) h) (fun r1 => nn (some a0) (fun n4 => gd (rk r1.2 n4 8) (bd (f_X10_findColumns n4 (0 : Int32) r1.2) (fun r3 => nn (some a0) (fun n6 => gd (rk r3.2 n6 8) (bd (f_X10_rowOf n6 a1 r3.2) (fun r5 => nn (some a0) (fun n8 => gd (rk r5.2 n8 8) (bd (f_X10_columnOf n8 a2 r5.2) (fun r7 => some ((r5.1 &&& r7.1), r7.2)))))))))))))
set_option maxHeartbeats 4000000 in
set_option maxRecDepth 100000 in
theorem c_X10_drill (g : GG) (l : Launch) (a0 : Nat) (a1 : Int32) (a2 : Int32) (h : HS) (o : Int32 × HS) (hB : f_X10_drill a0 a1 a2 h = some o) : Ct g l mX10_drill [va_rf (some a0), .int a1, .int a2] h (QI o) := by
  refine Ct.of2 (lv0 := [some (va_rf (some a0)), some (.int a1), some (.int a2)]) (by decide +kernel) (by simp [lg_sl, rf_cat, cat_i, cat_l]) rfl ?_
  unfold f_X10_drill at hB
  refine q_aload_n dX10_drill_0 rfl rfl ?_
  refine q_iconst (v := 0) dX10_drill_1 (by decide) ?_
  refine q_callVV (k' := 0) (w' := 0) hB (fun b a hf => c_X10_findRows g l b _ _ a hf) rfl rfl dX10_drill_2 wd_859 cs_X10_findRows wd_861 wd_21 rfl ⟨⟨Nat.le_of_ble_eq_true rfl, Nat.le_of_ble_eq_true rfl⟩, ⟨Nat.le_of_ble_eq_true rfl, Nat.le_of_ble_eq_true rfl⟩, Nat.le_of_ble_eq_true rfl⟩ rfl rfl (fun n2 r1 hB => ?_)
  refine q_aload_n dX10_drill_5 rfl rfl ?_
  refine q_iconst (v := 0) dX10_drill_6 (by decide) ?_
  refine q_callVV (k' := 0) (w' := 0) hB (fun b a hf => c_X10_findColumns g l b _ _ a hf) rfl rfl dX10_drill_7 wd_956 cs_X10_findColumns wd_958 wd_35 rfl ⟨⟨Nat.le_of_ble_eq_true rfl, Nat.le_of_ble_eq_true rfl⟩, ⟨Nat.le_of_ble_eq_true rfl, Nat.le_of_ble_eq_true rfl⟩, Nat.le_of_ble_eq_true rfl⟩ rfl rfl (fun n4 r3 hB => ?_)
  refine q_aload_n dX10_drill_10 rfl rfl ?_
  refine q_iload_n dX10_drill_11 rfl rfl ?_
  refine q_callVI (k' := 0) (w' := 0) hB (fun b a hf => c_X10_rowOf g l b _ _ a hf) rfl rfl dX10_drill_12 wd_964 cs_X10_rowOf wd_966 wd_36 rfl ⟨⟨Nat.le_of_ble_eq_true rfl, Nat.le_of_ble_eq_true rfl⟩, ⟨Nat.le_of_ble_eq_true rfl, Nat.le_of_ble_eq_true rfl⟩, Nat.le_of_ble_eq_true rfl⟩ rfl rfl (fun n6 r5 hB => ?_)
  refine q_aload_n dX10_drill_15 rfl rfl ?_
  refine q_iload_n dX10_drill_16 rfl rfl ?_
  refine q_callVI (k' := 0) (w' := 0) hB (fun b a hf => c_X10_columnOf g l b _ _ a hf) rfl rfl dX10_drill_17 wd_968 cs_X10_columnOf wd_970 wd_37 rfl ⟨⟨Nat.le_of_ble_eq_true rfl, Nat.le_of_ble_eq_true rfl⟩, ⟨Nat.le_of_ble_eq_true rfl, Nat.le_of_ble_eq_true rfl⟩, by simp [rf_cat, cat_i, cat_l]⟩ rfl rfl (fun n8 r7 hB => ?_)
  refine q_iand dX10_drill_20 ?_
  exact q_iret hB dX10_drill_21 rfl (by decide) (by decide)

def f_X9_along  (a0 : Nat) (a1 : Int32) (a2 : Int32) (h : HS) : Option (Int32 × HS) :=
  bd (f_X9_isAxis a1 h) (fun r1 => (if r1.1 = 0 then some ((-2 : Int32), r1.2) else nn (some a0) (fun n2 => gd (ck r1.2 n2 7) (nn (some a0) (fun n4 => gd (rk r1.2 n4 7) (bd (f_X9_axisOf n4 a1 r1.2) (fun r3 => nn r3.1 (fun n6 => gd (rk r3.2 n6 2) (bd (f_X2_setOf n6 a2 r3.2) (fun r5 => nn (some a0) (fun n8 => gd (rk r5.2 n8 7) (bd (f_X9_measureOf n8 (hP r1.2 n2 3) r5.1 r5.2) (fun r7 => some (r7.1, r7.2))))))))))))))
set_option maxHeartbeats 4000000 in
set_option maxRecDepth 100000 in
theorem c_X9_along (g : GG) (l : Launch) (a0 : Nat) (a1 : Int32) (a2 : Int32) (h : HS) (o : Int32 × HS) (hB : f_X9_along a0 a1 a2 h = some o) : Ct g l mX9_along [va_rf (some a0), .int a1, .int a2] h (QI o) := by
  refine Ct.of2 (lv0 := [some (va_rf (some a0)), some (.int a1), some (.int a2)]) (by decide +kernel) (by simp [lg_sl, rf_cat, cat_i, cat_l]) rfl ?_
  unfold f_X9_along at hB
  refine q_iload_n dX9_along_0 rfl rfl ?_
  refine q_callSI (k' := 0) (w' := 0) hB (fun a hf => c_X9_isAxis g l _ _ a hf) rfl dX9_along_1 wd_541 cs_X9_isAxis wd_542 rfl ⟨⟨Nat.le_of_ble_eq_true rfl, Nat.le_of_ble_eq_true rfl⟩, ⟨Nat.le_of_ble_eq_true rfl, Nat.le_of_ble_eq_true rfl⟩, Nat.le_of_ble_eq_true rfl⟩ rfl rfl (fun r1 hB => ?_)
  refine q_if_ne (tgt := 10) hB dX9_along_4 (by decide) (fun hB => ?_) (fun hB => ?_)
  · refine q_aload_n dX9_along_10 rfl rfl ?_
    refine q_aload_n dX9_along_11 rfl rfl ?_
    refine q_getP (j := 3) hB dX9_along_12 fc_7 (by decide) rfl wd_243 (fun n2 hB => ?_)
    refine q_aload_n dX9_along_15 rfl rfl ?_
    refine q_iload_n dX9_along_16 rfl rfl ?_
    refine q_callVP (k' := 0) (w' := 0) hB (fun b a hf => c_X9_axisOf g l b _ _ a hf) rfl rfl dX9_along_17 wd_547 cs_X9_axisOf wd_549 wd_8 rfl ⟨⟨Nat.le_of_ble_eq_true rfl, Nat.le_of_ble_eq_true rfl⟩, ⟨Nat.le_of_ble_eq_true rfl, Nat.le_of_ble_eq_true rfl⟩, by simp [rf_cat, cat_i, cat_l]⟩ rfl rfl (fun n4 r3 hB => ?_)
    refine q_iload_n dX9_along_20 rfl rfl ?_
    refine q_callVI (k' := 0) (w' := 0) hB (fun b a hf => c_X2_setOf g l b _ _ a hf) rfl rfl dX9_along_21 wd_563 cs_X2_setOf wd_564 wd_565 rfl ⟨⟨Nat.le_of_ble_eq_true rfl, Nat.le_of_ble_eq_true rfl⟩, ⟨Nat.le_of_ble_eq_true rfl, Nat.le_of_ble_eq_true rfl⟩, by simp [rf_cat, cat_i, cat_l]⟩ rfl rfl (fun n6 r5 hB => ?_)
    refine q_callVI (k' := 0) (w' := 0) hB (fun b a hf => c_X9_measureOf g l b _ _ _ a hf) rfl rfl dX9_along_24 wd_567 cs_X9_measureOf wd_569 wd_10 rfl ⟨⟨Nat.le_of_ble_eq_true rfl, Nat.le_of_ble_eq_true rfl⟩, ⟨Nat.le_of_ble_eq_true rfl, Nat.le_of_ble_eq_true rfl⟩, Nat.le_of_ble_eq_true rfl⟩ rfl rfl (fun n8 r7 hB => ?_)
    exact q_iret hB dX9_along_27 rfl (by decide) (by decide)
  · refine q_bipush (v := -2) dX9_along_7 (by decide) ?_
    exact q_iret hB dX9_along_9 rfl (by decide) (by decide)

def b_X10_along_42  (s0 : Option Nat) (s1 : Int32) (s2 : Int32) (h : HS) : Option (Int32 × HS) :=
  nn s0 (fun n2 => gd (rk h n2 8) (bd (f_X10_measureOf n2 s1 s2 h) (fun r1 => some (r1.1, r1.2))))
def f_X10_along  (a0 : Nat) (a1 : Int32) (a2 : Int32) (h : HS) : Option (Int32 × HS) :=
  bd (f_X10_in a1.toInt64 (0 : Int64) (1 : Int64) h) (fun r1 => (if r1.1 = 0 then some ((-2 : Int32), r1.2) else nn (some a0) (fun n3 => gd (rk r1.2 n3 8) (bd (f_X10_findRows n3 (0 : Int32) r1.2) (fun r2 => nn (some a0) (fun n5 => gd (rk r2.2 n5 8) (bd (f_X10_findColumns n5 (0 : Int32) r2.2) (fun r4 => (if a1 = 0 then nn (some a0) (fun n9 => gd (rk r4.2 n9 8) (bd (f_X10_rowOf n9 a2 r4.2) (fun r8 => b_X10_along_42 (some a0) (0 : Int32) r8.1 r8.2))) else nn (some a0) (fun n7 => gd (rk r4.2 n7 8) (bd (f_X10_columnOf n7 a2 r4.2) (fun r6 => b_X10_along_42 (some a0) (0 : Int32) r6.1 r6.2))))))))))))
set_option maxHeartbeats 4000000 in
set_option maxRecDepth 100000 in
theorem wb_X10_along_42 (g : GG) (l : Launch) (s0 : Option Nat) (s1 : Int32) (s2 : Int32) (h : HS) (o : Int32 × HS) (hB : b_X10_along_42 s0 s1 s2 h = some o) : Wq g l mX10_along 0 0 42 [none, none, none] [.int s2, .int s1, va_rf s0] h (QI o) := by
  unfold b_X10_along_42 at hB
  refine q_callVI (k' := 0) (w' := 0) hB (fun b a hf => c_X10_measureOf g l b _ _ _ a hf) rfl rfl dX10_along_42 wd_883 cs_X10_measureOf wd_885 wd_27 rfl ⟨⟨Nat.le_of_ble_eq_true rfl, Nat.le_of_ble_eq_true rfl⟩, ⟨Nat.le_of_ble_eq_true rfl, Nat.le_of_ble_eq_true rfl⟩, Nat.le_of_ble_eq_true rfl⟩ rfl rfl (fun n2 r1 hB => ?_)
  exact q_iret hB dX10_along_45 rfl (by decide) (by decide)
set_option maxHeartbeats 4000000 in
set_option maxRecDepth 100000 in
theorem c_X10_along (g : GG) (l : Launch) (a0 : Nat) (a1 : Int32) (a2 : Int32) (h : HS) (o : Int32 × HS) (hB : f_X10_along a0 a1 a2 h = some o) : Ct g l mX10_along [va_rf (some a0), .int a1, .int a2] h (QI o) := by
  refine Ct.of2 (lv0 := [some (va_rf (some a0)), some (.int a1), some (.int a2)]) (by decide +kernel) (by simp [lg_sl, rf_cat, cat_i, cat_l]) rfl ?_
  unfold f_X10_along at hB
  refine q_iload_n dX10_along_0 rfl rfl ?_
  refine q_i2l dX10_along_1 ?_
  refine q_lconst (v := 0) dX10_along_2 (by decide) ?_
  refine q_lconst (v := 1) dX10_along_3 (by decide) ?_
  refine q_callSI (k' := 0) (w' := 0) hB (fun a hf => c_X10_in g l _ _ _ _ a hf) rfl dX10_along_4 wd_825 cs_X10_in wd_826 rfl ⟨⟨Nat.le_of_ble_eq_true rfl, Nat.le_of_ble_eq_true rfl⟩, ⟨Nat.le_of_ble_eq_true rfl, Nat.le_of_ble_eq_true rfl⟩, Nat.le_of_ble_eq_true rfl⟩ rfl rfl (fun r1 hB => ?_)
  refine q_if_ne (tgt := 13) hB dX10_along_7 (by decide) (fun hB => ?_) (fun hB => ?_)
  · refine q_aload_n dX10_along_13 rfl rfl ?_
    refine q_iconst (v := 0) dX10_along_14 (by decide) ?_
    refine q_callVV (k' := 0) (w' := 0) hB (fun b a hf => c_X10_findRows g l b _ _ a hf) rfl rfl dX10_along_15 wd_859 cs_X10_findRows wd_861 wd_21 rfl ⟨⟨Nat.le_of_ble_eq_true rfl, Nat.le_of_ble_eq_true rfl⟩, ⟨Nat.le_of_ble_eq_true rfl, Nat.le_of_ble_eq_true rfl⟩, Nat.le_of_ble_eq_true rfl⟩ rfl rfl (fun n3 r2 hB => ?_)
    refine q_aload_n dX10_along_18 rfl rfl ?_
    refine q_iconst (v := 0) dX10_along_19 (by decide) ?_
    refine q_callVV (k' := 0) (w' := 0) hB (fun b a hf => c_X10_findColumns g l b _ _ a hf) rfl rfl dX10_along_20 wd_956 cs_X10_findColumns wd_958 wd_35 rfl ⟨⟨Nat.le_of_ble_eq_true rfl, Nat.le_of_ble_eq_true rfl⟩, ⟨Nat.le_of_ble_eq_true rfl, Nat.le_of_ble_eq_true rfl⟩, Nat.le_of_ble_eq_true rfl⟩ rfl rfl (fun n5 r4 hB => ?_)
    refine q_aload_n dX10_along_23 rfl rfl ?_
    refine q_iconst (v := 0) dX10_along_24 (by decide) ?_
    refine q_iload_n dX10_along_25 rfl rfl ?_
    refine q_if_ne (tgt := 37) hB dX10_along_26 (by decide) (fun hB => ?_) (fun hB => ?_)
    · refine q_aload_n dX10_along_37 rfl rfl ?_
      refine q_iload_n dX10_along_38 rfl rfl ?_
      refine q_callVI (k' := 0) (w' := 0) hB (fun b a hf => c_X10_columnOf g l b _ _ a hf) rfl rfl dX10_along_39 wd_968 cs_X10_columnOf wd_970 wd_37 rfl ⟨⟨Nat.le_of_ble_eq_true rfl, Nat.le_of_ble_eq_true rfl⟩, ⟨Nat.le_of_ble_eq_true rfl, Nat.le_of_ble_eq_true rfl⟩, by simp [rf_cat, cat_i, cat_l]⟩ rfl rfl (fun n7 r6 hB => ?_)
      exact Wq.mask [false, false, false] rfl (wb_X10_along_42 g l _ _ _ _ o hB)
    · refine q_aload_n dX10_along_29 rfl rfl ?_
      refine q_iload_n dX10_along_30 rfl rfl ?_
      refine q_callVI (k' := 0) (w' := 0) hB (fun b a hf => c_X10_rowOf g l b _ _ a hf) rfl rfl dX10_along_31 wd_964 cs_X10_rowOf wd_966 wd_36 rfl ⟨⟨Nat.le_of_ble_eq_true rfl, Nat.le_of_ble_eq_true rfl⟩, ⟨Nat.le_of_ble_eq_true rfl, Nat.le_of_ble_eq_true rfl⟩, by simp [rf_cat, cat_i, cat_l]⟩ rfl rfl (fun n9 r8 hB => ?_)
      refine q_goto (tgt := 42) dX10_along_34 (by decide) ?_
      exact Wq.mask [false, false, false] rfl (wb_X10_along_42 g l _ _ _ _ o hB)
  · refine q_bipush (v := -2) dX10_along_10 (by decide) ?_
    exact q_iret hB dX10_along_12 rfl (by decide) (by decide)

def f_X3_all  (a0 : Nat) (h : HS) : Option (Int32 × HS) :=
  nn (some a0) (fun n1 => gd (ck h n1 3) (some ((((1 : Int32) <<< ((hI h n1 3) &&& 31)) - (1 : Int32)), h)))
set_option maxHeartbeats 4000000 in
set_option maxRecDepth 100000 in
theorem c_X3_all (g : GG) (l : Launch) (a0 : Nat) (h : HS) (o : Int32 × HS) (hB : f_X3_all a0 h = some o) : Ct g l mX3_all [va_rf (some a0)] h (QI o) := by
  refine Ct.of2 (lv0 := [some (va_rf (some a0))]) (by decide +kernel) (by simp [lg_sl, rf_cat, cat_i, cat_l]) rfl ?_
  unfold f_X3_all at hB
  refine q_iconst (v := 1) dX3_all_0 (by decide) ?_
  refine q_aload_n dX3_all_1 rfl rfl ?_
  refine q_getI (j := 3) hB dX3_all_2 fc_3 (by decide) rfl wd_145 (fun n1 hB => ?_)
  refine q_ishl dX3_all_5 ?_
  refine q_iconst (v := 1) dX3_all_6 (by decide) ?_
  refine q_isub dX3_all_7 ?_
  exact q_iret hB dX3_all_8 rfl (by decide) (by decide)

def f_X9_totalOf  (a0 : Nat) (a1 : Option Nat) (h : HS) : Option (Int32 × HS) :=
  nn a1 (fun n2 => gd (rk h n2 3) (bd (f_X3_all n2 h) (fun r1 => nn (some a0) (fun n4 => gd (rk r1.2 n4 7) (bd (f_X9_measureOf n4 a1 r1.1 r1.2) (fun r3 => some (r3.1, r3.2)))))))
set_option maxHeartbeats 4000000 in
set_option maxRecDepth 100000 in
theorem c_X9_totalOf (g : GG) (l : Launch) (a0 : Nat) (a1 : Option Nat) (h : HS) (o : Int32 × HS) (hB : f_X9_totalOf a0 a1 h = some o) : Ct g l mX9_totalOf [va_rf (some a0), va_rf a1] h (QI o) := by
  refine Ct.of2 (lv0 := [some (va_rf (some a0)), some (va_rf a1)]) (by decide +kernel) (by simp [lg_sl, rf_cat, cat_i, cat_l]) (by simp only [entL_r, entL_i, entL_l]; rfl) ?_
  unfold f_X9_totalOf at hB
  refine q_aload_n dX9_totalOf_0 rfl rfl ?_
  refine q_aload_n dX9_totalOf_1 rfl rfl ?_
  refine q_aload_n dX9_totalOf_2 rfl rfl ?_
  refine q_callVI (k' := 0) (w' := 0) hB (fun b a hf => c_X3_all g l b _ a hf) rfl rfl dX9_totalOf_3 wd_588 cs_X3_all wd_589 wd_590 rfl ⟨⟨Nat.le_of_ble_eq_true rfl, Nat.le_of_ble_eq_true rfl⟩, ⟨Nat.le_of_ble_eq_true rfl, Nat.le_of_ble_eq_true rfl⟩, by simp [rf_cat, cat_i, cat_l]⟩ rfl rfl (fun n2 r1 hB => ?_)
  refine q_callVI (k' := 0) (w' := 0) hB (fun b a hf => c_X9_measureOf g l b _ _ _ a hf) rfl rfl dX9_totalOf_6 wd_567 cs_X9_measureOf wd_569 wd_10 rfl ⟨⟨Nat.le_of_ble_eq_true rfl, Nat.le_of_ble_eq_true rfl⟩, ⟨Nat.le_of_ble_eq_true rfl, Nat.le_of_ble_eq_true rfl⟩, Nat.le_of_ble_eq_true rfl⟩ rfl rfl (fun n4 r3 hB => ?_)
  exact q_iret hB dX9_totalOf_9 rfl (by decide) (by decide)

def f_X9_total  (a0 : Nat) (h : HS) : Option (Int32 × HS) :=
  nn (some a0) (fun n1 => gd (ck h n1 7) (nn (some a0) (fun n3 => gd (rk h n3 7) (bd (f_X9_totalOf n3 (hP h n1 3) h) (fun r2 => some (r2.1, r2.2))))))
set_option maxHeartbeats 4000000 in
set_option maxRecDepth 100000 in
theorem c_X9_total (g : GG) (l : Launch) (a0 : Nat) (h : HS) (o : Int32 × HS) (hB : f_X9_total a0 h = some o) : Ct g l mX9_total [va_rf (some a0)] h (QI o) := by
  refine Ct.of2 (lv0 := [some (va_rf (some a0))]) (by decide +kernel) (by simp [lg_sl, rf_cat, cat_i, cat_l]) rfl ?_
  unfold f_X9_total at hB
  refine q_aload_n dX9_total_0 rfl rfl ?_
  refine q_aload_n dX9_total_1 rfl rfl ?_
  refine q_getP (j := 3) hB dX9_total_2 fc_7 (by decide) rfl wd_243 (fun n1 hB => ?_)
  refine q_callVI (k' := 0) (w' := 0) hB (fun b a hf => c_X9_totalOf g l b _ _ a hf) rfl rfl dX9_total_5 wd_584 cs_X9_totalOf wd_586 wd_11 rfl ⟨⟨Nat.le_of_ble_eq_true rfl, Nat.le_of_ble_eq_true rfl⟩, ⟨Nat.le_of_ble_eq_true rfl, Nat.le_of_ble_eq_true rfl⟩, Nat.le_of_ble_eq_true rfl⟩ rfl rfl (fun n3 r2 hB => ?_)
  exact q_iret hB dX9_total_8 rfl (by decide) (by decide)

def f_X10_allOf  (a0 : Nat) (a1 : Int32) (h : HS) : Option (Int32 × HS) :=
  nn (some a0) (fun n2 => gd (rk h n2 8) (bd (f_X10_many n2 a1 h) (fun r1 => some ((((1 : Int32) <<< (r1.1 &&& 31)) - (1 : Int32)), r1.2))))
set_option maxHeartbeats 4000000 in
set_option maxRecDepth 100000 in
theorem c_X10_allOf (g : GG) (l : Launch) (a0 : Nat) (a1 : Int32) (h : HS) (o : Int32 × HS) (hB : f_X10_allOf a0 a1 h = some o) : Ct g l mX10_allOf [va_rf (some a0), .int a1] h (QI o) := by
  refine Ct.of2 (lv0 := [some (va_rf (some a0)), some (.int a1)]) (by decide +kernel) (by simp [lg_sl, rf_cat, cat_i, cat_l]) rfl ?_
  unfold f_X10_allOf at hB
  refine q_iconst (v := 1) dX10_allOf_0 (by decide) ?_
  refine q_aload_n dX10_allOf_1 rfl rfl ?_
  refine q_iload_n dX10_allOf_2 rfl rfl ?_
  refine q_callVI (k' := 0) (w' := 0) hB (fun b a hf => c_X10_many g l b _ _ a hf) rfl rfl dX10_allOf_3 wd_867 cs_X10_many wd_869 wd_23 rfl ⟨⟨Nat.le_of_ble_eq_true rfl, Nat.le_of_ble_eq_true rfl⟩, ⟨Nat.le_of_ble_eq_true rfl, Nat.le_of_ble_eq_true rfl⟩, by simp [rf_cat, cat_i, cat_l]⟩ rfl rfl (fun n2 r1 hB => ?_)
  refine q_ishl dX10_allOf_6 ?_
  refine q_iconst (v := 1) dX10_allOf_7 (by decide) ?_
  refine q_isub dX10_allOf_8 ?_
  exact q_iret hB dX10_allOf_9 rfl (by decide) (by decide)

def f_X10_total  (a0 : Nat) (h : HS) : Option (Int32 × HS) :=
  nn (some a0) (fun n2 => gd (rk h n2 8) (bd (f_X10_allOf n2 (0 : Int32) h) (fun r1 => nn (some a0) (fun n4 => gd (rk r1.2 n4 8) (bd (f_X10_measureOf n4 (0 : Int32) r1.1 r1.2) (fun r3 => some (r3.1, r3.2)))))))
set_option maxHeartbeats 4000000 in
set_option maxRecDepth 100000 in
theorem c_X10_total (g : GG) (l : Launch) (a0 : Nat) (h : HS) (o : Int32 × HS) (hB : f_X10_total a0 h = some o) : Ct g l mX10_total [va_rf (some a0)] h (QI o) := by
  refine Ct.of2 (lv0 := [some (va_rf (some a0))]) (by decide +kernel) (by simp [lg_sl, rf_cat, cat_i, cat_l]) rfl ?_
  unfold f_X10_total at hB
  refine q_aload_n dX10_total_0 rfl rfl ?_
  refine q_iconst (v := 0) dX10_total_1 (by decide) ?_
  refine q_aload_n dX10_total_2 rfl rfl ?_
  refine q_iconst (v := 0) dX10_total_3 (by decide) ?_
  refine q_callVI (k' := 0) (w' := 0) hB (fun b a hf => c_X10_allOf g l b _ _ a hf) rfl rfl dX10_total_4 wd_984 cs_X10_allOf wd_986 wd_38 rfl ⟨⟨Nat.le_of_ble_eq_true rfl, Nat.le_of_ble_eq_true rfl⟩, ⟨Nat.le_of_ble_eq_true rfl, Nat.le_of_ble_eq_true rfl⟩, by simp [rf_cat, cat_i, cat_l]⟩ rfl rfl (fun n2 r1 hB => ?_)
  refine q_callVI (k' := 0) (w' := 0) hB (fun b a hf => c_X10_measureOf g l b _ _ _ a hf) rfl rfl dX10_total_7 wd_883 cs_X10_measureOf wd_885 wd_27 rfl ⟨⟨Nat.le_of_ble_eq_true rfl, Nat.le_of_ble_eq_true rfl⟩, ⟨Nat.le_of_ble_eq_true rfl, Nat.le_of_ble_eq_true rfl⟩, Nat.le_of_ble_eq_true rfl⟩ rfl rfl (fun n4 r3 hB => ?_)
  exact q_iret hB dX10_total_10 rfl (by decide) (by decide)

def f_X3_copyFrom  (a0 : Nat) (a1 : Option Nat) (h : HS) : Option (Unit × HS) :=
  nn a1 (fun n1 => gd (ck h n1 3) (nn (some a0) (fun n2 => gd (ck h n2 3) (hl (sI h n2 3 (hI h n1 3)) (fun h3 => nn a1 (fun n4 => gd (ck h3 n4 3) (nn (some a0) (fun n5 => gd (ck h3 n5 3) (nn (some a0) (fun n6 => gd (ck h3 n6 3) (nn (hP h3 n4 0) (fun n7 => nn (hP h3 n5 0) (fun n8 => gd (cb h3 n7 n8 (0 : Int32) (0 : Int32) (hI h3 n6 3)) (hl (sR h3 n8 (va_cpy (hI h3 n7) (hI h3 n8) (0 : Int32).toNatClampNeg (0 : Int32).toNatClampNeg (hI h3 n6 3).toNatClampNeg)) (fun h9 => nn a1 (fun n10 => gd (ck h9 n10 3) (nn (some a0) (fun n11 => gd (ck h9 n11 3) (nn (some a0) (fun n12 => gd (ck h9 n12 3) (nn (hP h9 n10 1) (fun n13 => nn (hP h9 n11 1) (fun n14 => gd (cb h9 n13 n14 (0 : Int32) (0 : Int32) (hI h9 n12 3)) (hl (sR h9 n14 (va_cpy (hI h9 n13) (hI h9 n14) (0 : Int32).toNatClampNeg (0 : Int32).toNatClampNeg (hI h9 n12 3).toNatClampNeg)) (fun h15 => nn a1 (fun n16 => gd (ck h15 n16 3) (nn (some a0) (fun n17 => gd (ck h15 n17 3) (nn (some a0) (fun n18 => gd (ck h15 n18 3) (nn (hP h15 n16 2) (fun n19 => nn (hP h15 n17 2) (fun n20 => gd (cb h15 n19 n20 (0 : Int32) (0 : Int32) (hI h15 n18 3)) (hl (sR h15 n20 (va_cpy (hI h15 n19) (hI h15 n20) (0 : Int32).toNatClampNeg (0 : Int32).toNatClampNeg (hI h15 n18 3).toNatClampNeg)) (fun h21 => some ((), h21))))))))))))))))))))))))))))))))))))
set_option maxHeartbeats 4000000 in
set_option maxRecDepth 100000 in
theorem c_X3_copyFrom (g : GG) (l : Launch) (a0 : Nat) (a1 : Option Nat) (h : HS) (o : Unit × HS) (hB : f_X3_copyFrom a0 a1 h = some o) : Ct g l mX3_copyFrom [va_rf (some a0), va_rf a1] h (QV o) := by
  refine Ct.of2 (lv0 := [some (va_rf (some a0)), some (va_rf a1)]) (by decide +kernel) (by simp [lg_sl, rf_cat, cat_i, cat_l]) (by simp only [entL_r, entL_i, entL_l]; rfl) ?_
  unfold f_X3_copyFrom at hB
  refine q_aload_n dX3_copyFrom_0 rfl rfl ?_
  refine q_aload_n dX3_copyFrom_1 rfl rfl ?_
  refine q_getI (j := 3) hB dX3_copyFrom_2 fc_3 (by decide) rfl wd_145 (fun n1 hB => ?_)
  refine q_putI (j := 3) hB dX3_copyFrom_5 fc_3 (by decide) rfl wd_145 rfl (fun n2 hB => ?_)
  refine q_nm hB (fun h3 hB => ?_)
  refine q_aload_n dX3_copyFrom_8 rfl rfl ?_
  refine q_getP (j := 0) hB dX3_copyFrom_9 fc_3 (by decide) rfl wd_135 (fun n4 hB => ?_)
  refine q_iconst (v := 0) dX3_copyFrom_12 (by decide) ?_
  refine q_aload_n dX3_copyFrom_13 rfl rfl ?_
  refine q_getP (j := 0) hB dX3_copyFrom_14 fc_3 (by decide) rfl wd_135 (fun n5 hB => ?_)
  refine q_iconst (v := 0) dX3_copyFrom_17 (by decide) ?_
  refine q_aload_n dX3_copyFrom_18 rfl rfl ?_
  refine q_getI (j := 3) hB dX3_copyFrom_19 fc_3 (by decide) rfl wd_145 (fun n6 hB => ?_)
  refine q_copy hB dX3_copyFrom_22 wd_490 wd_492 wd_491 wd_67 (by decide) (Nat.le_of_ble_eq_true rfl) (fun n7 n8 hB => ?_)
  refine q_nm hB (fun h9 hB => ?_)
  refine q_aload_n dX3_copyFrom_25 rfl rfl ?_
  refine q_getP (j := 1) hB dX3_copyFrom_26 fc_3 (by decide) rfl wd_138 (fun n10 hB => ?_)
  refine q_iconst (v := 0) dX3_copyFrom_29 (by decide) ?_
  refine q_aload_n dX3_copyFrom_30 rfl rfl ?_
  refine q_getP (j := 1) hB dX3_copyFrom_31 fc_3 (by decide) rfl wd_138 (fun n11 hB => ?_)
  refine q_iconst (v := 0) dX3_copyFrom_34 (by decide) ?_
  refine q_aload_n dX3_copyFrom_35 rfl rfl ?_
  refine q_getI (j := 3) hB dX3_copyFrom_36 fc_3 (by decide) rfl wd_145 (fun n12 hB => ?_)
  refine q_copy hB dX3_copyFrom_39 wd_490 wd_492 wd_491 wd_67 (by decide) (Nat.le_of_ble_eq_true rfl) (fun n13 n14 hB => ?_)
  refine q_nm hB (fun h15 hB => ?_)
  refine q_aload_n dX3_copyFrom_42 rfl rfl ?_
  refine q_getP (j := 2) hB dX3_copyFrom_43 fc_3 (by decide) rfl wd_141 (fun n16 hB => ?_)
  refine q_iconst (v := 0) dX3_copyFrom_46 (by decide) ?_
  refine q_aload_n dX3_copyFrom_47 rfl rfl ?_
  refine q_getP (j := 2) hB dX3_copyFrom_48 fc_3 (by decide) rfl wd_141 (fun n17 hB => ?_)
  refine q_iconst (v := 0) dX3_copyFrom_51 (by decide) ?_
  refine q_aload_n dX3_copyFrom_52 rfl rfl ?_
  refine q_getI (j := 3) hB dX3_copyFrom_53 fc_3 (by decide) rfl wd_145 (fun n18 hB => ?_)
  refine q_copy hB dX3_copyFrom_56 wd_490 wd_492 wd_491 wd_67 (by decide) (Nat.le_of_ble_eq_true rfl) (fun n19 n20 hB => ?_)
  refine q_nm hB (fun h21 hB => ?_)
  exact q_vret hB dX3_copyFrom_59 rfl (by decide) (by decide)

def b_X9_would_17  (h : HS) : Option (Int32 × HS) :=
  some ((-2 : Int32), h)
def b_X9_would_81  (s0 : Int32) (h : HS) : Option (Int32 × HS) :=
  some (s0, h)
def f_X9_would  (a0 : Nat) (a1 : Int32) (a2 : Int32) (a3 : Int32) (a4 : Int32) (h : HS) : Option (Int32 × HS) :=
  bd (f_X9_isEntry a1 a2 a3 h) (fun r1 => (if r1.1 = 0 then b_X9_would_17 r1.2 else bd (f_X9_isOneOfTwo a4 r1.2) (fun r2 => (if r2.1 = 0 then b_X9_would_17 r2.2 else nn (some a0) (fun n3 => gd (ck r2.2 n3 7) (nn (hP r2.2 n3 3) (fun n5 => gd (rk r2.2 n5 3) (bd (f_X3_hasRoom n5 r2.2) (fun r4 => (if r4.1 = 0 then some ((-4 : Int32), r4.2) else nn (some a0) (fun n6 => gd (ck r4.2 n6 7) (nn (some a0) (fun n7 => gd (ck r4.2 n7 7) (nn (hP r4.2 n6 4) (fun n9 => gd (rk r4.2 n9 3) (bd (f_X3_copyFrom n9 (hP r4.2 n7 3) r4.2) (fun r8 => nn (some a0) (fun n10 => gd (ck r8.2 n10 7) (nn (hP r8.2 n10 4) (fun n12 => gd (rk r8.2 n12 3) (bd (f_X3_append n12 a1 a2 a3 r8.2) (fun r11 => (if a4 = 0 then nn (some a0) (fun n17 => gd (ck r11.2 n17 7) (nn (some a0) (fun n19 => gd (rk r11.2 n19 7) (bd (f_X9_totalOf n19 (hP r11.2 n17 4) r11.2) (fun r18 => b_X9_would_81 r18.1 r18.2))))) else nn (some a0) (fun n13 => gd (ck r11.2 n13 7) (nn (some a0) (fun n15 => gd (rk r11.2 n15 7) (bd (f_X9_rowsOf n15 (hP r11.2 n13 4) r11.2) (fun r14 => nn r14.1 (fun n16 => gd (ck r14.2 n16 2) (b_X9_would_81 (hI r14.2 n16 3) r14.2))))))))))))))))))))))))))))))
set_option maxHeartbeats 4000000 in
set_option maxRecDepth 100000 in
theorem wb_X9_would_17 (g : GG) (l : Launch) (h : HS) (o : Int32 × HS) (hB : b_X9_would_17  h = some o) : Wq g l mX9_would 0 0 17 [none, none, none, none, none] [] h (QI o) := by
  unfold b_X9_would_17 at hB
  refine q_bipush (v := -2) dX9_would_17 (by decide) ?_
  exact q_iret hB dX9_would_19 rfl (by decide) (by decide)
set_option maxHeartbeats 4000000 in
set_option maxRecDepth 100000 in
theorem wb_X9_would_81 (g : GG) (l : Launch) (s0 : Int32) (h : HS) (o : Int32 × HS) (hB : b_X9_would_81 s0 h = some o) : Wq g l mX9_would 0 0 81 [none, none, none, none, none] [.int s0] h (QI o) := by
  unfold b_X9_would_81 at hB
  exact q_iret hB dX9_would_81 rfl (by decide) (by decide)
set_option maxHeartbeats 4000000 in
set_option maxRecDepth 100000 in
theorem c_X9_would (g : GG) (l : Launch) (a0 : Nat) (a1 : Int32) (a2 : Int32) (a3 : Int32) (a4 : Int32) (h : HS) (o : Int32 × HS) (hB : f_X9_would a0 a1 a2 a3 a4 h = some o) : Ct g l mX9_would [va_rf (some a0), .int a1, .int a2, .int a3, .int a4] h (QI o) := by
  refine Ct.of2 (lv0 := [some (va_rf (some a0)), some (.int a1), some (.int a2), some (.int a3), some (.int a4)]) (by decide +kernel) (by simp [lg_sl, rf_cat, cat_i, cat_l]) rfl ?_
  unfold f_X9_would at hB
  refine q_iload_n dX9_would_0 rfl rfl ?_
  refine q_iload_n dX9_would_1 rfl rfl ?_
  refine q_iload_n dX9_would_2 rfl rfl ?_
  refine q_callSI (k' := 0) (w' := 0) hB (fun a hf => c_X9_isEntry g l _ _ _ _ a hf) rfl dX9_would_3 wd_459 cs_X9_isEntry wd_460 rfl ⟨⟨Nat.le_of_ble_eq_true rfl, Nat.le_of_ble_eq_true rfl⟩, ⟨Nat.le_of_ble_eq_true rfl, Nat.le_of_ble_eq_true rfl⟩, Nat.le_of_ble_eq_true rfl⟩ rfl rfl (fun r1 hB => ?_)
  refine q_if_eq (tgt := 17) hB dX9_would_6 (by decide) (fun hB => ?_) (fun hB => ?_)
  · exact Wq.mask [false, false, false, false, false] rfl (wb_X9_would_17 g l _ o hB)
  · refine q_iload dX9_would_9 rfl ?_
    refine q_callSI (k' := 0) (w' := 0) hB (fun a hf => c_X9_isOneOfTwo g l _ _ a hf) rfl dX9_would_11 wd_544 cs_X9_isOneOfTwo wd_545 rfl ⟨⟨Nat.le_of_ble_eq_true rfl, Nat.le_of_ble_eq_true rfl⟩, ⟨Nat.le_of_ble_eq_true rfl, Nat.le_of_ble_eq_true rfl⟩, Nat.le_of_ble_eq_true rfl⟩ rfl rfl (fun r2 hB => ?_)
    refine q_if_ne (tgt := 20) hB dX9_would_14 (by decide) (fun hB => ?_) (fun hB => ?_)
    · refine q_aload_n dX9_would_20 rfl rfl ?_
      refine q_getP (j := 3) hB dX9_would_21 fc_7 (by decide) rfl wd_243 (fun n3 hB => ?_)
      refine q_callVI (k' := 0) (w' := 0) hB (fun b a hf => c_X3_hasRoom g l b _ a hf) rfl rfl dX9_would_24 wd_465 cs_X3_hasRoom wd_466 wd_467 rfl ⟨⟨Nat.le_of_ble_eq_true rfl, Nat.le_of_ble_eq_true rfl⟩, ⟨Nat.le_of_ble_eq_true rfl, Nat.le_of_ble_eq_true rfl⟩, Nat.le_of_ble_eq_true rfl⟩ rfl rfl (fun n5 r4 hB => ?_)
      refine q_if_ne (tgt := 33) hB dX9_would_27 (by decide) (fun hB => ?_) (fun hB => ?_)
      · refine q_aload_n dX9_would_33 rfl rfl ?_
        refine q_getP (j := 4) hB dX9_would_34 fc_7 (by decide) rfl wd_244 (fun n6 hB => ?_)
        refine q_aload_n dX9_would_37 rfl rfl ?_
        refine q_getP (j := 3) hB dX9_would_38 fc_7 (by decide) rfl wd_243 (fun n7 hB => ?_)
        refine q_callVV (k' := 0) (w' := 0) hB (fun b a hf => c_X3_copyFrom g l b _ _ a hf) rfl rfl dX9_would_41 wd_596 cs_X3_copyFrom wd_597 wd_598 rfl ⟨⟨Nat.le_of_ble_eq_true rfl, Nat.le_of_ble_eq_true rfl⟩, ⟨Nat.le_of_ble_eq_true rfl, Nat.le_of_ble_eq_true rfl⟩, Nat.le_of_ble_eq_true rfl⟩ rfl rfl (fun n9 r8 hB => ?_)
        refine q_aload_n dX9_would_44 rfl rfl ?_
        refine q_getP (j := 4) hB dX9_would_45 fc_7 (by decide) rfl wd_244 (fun n10 hB => ?_)
        refine q_iload_n dX9_would_48 rfl rfl ?_
        refine q_iload_n dX9_would_49 rfl rfl ?_
        refine q_iload_n dX9_would_50 rfl rfl ?_
        refine q_callVV (k' := 0) (w' := 0) hB (fun b a hf => c_X3_append g l b _ _ _ _ a hf) rfl rfl dX9_would_51 wd_477 cs_X3_append wd_478 wd_479 rfl ⟨⟨Nat.le_of_ble_eq_true rfl, Nat.le_of_ble_eq_true rfl⟩, ⟨Nat.le_of_ble_eq_true rfl, Nat.le_of_ble_eq_true rfl⟩, Nat.le_of_ble_eq_true rfl⟩ rfl rfl (fun n12 r11 hB => ?_)
        refine q_iload dX9_would_54 rfl ?_
        refine q_if_ne (tgt := 70) hB dX9_would_56 (by decide) (fun hB => ?_) (fun hB => ?_)
        · refine q_aload_n dX9_would_70 rfl rfl ?_
          refine q_aload_n dX9_would_71 rfl rfl ?_
          refine q_getP (j := 4) hB dX9_would_72 fc_7 (by decide) rfl wd_244 (fun n13 hB => ?_)
          refine q_callVP (k' := 0) (w' := 0) hB (fun b a hf => c_X9_rowsOf g l b _ _ a hf) rfl rfl dX9_would_75 wd_380 cs_X9_rowsOf wd_382 wd_3 rfl ⟨⟨Nat.le_of_ble_eq_true rfl, Nat.le_of_ble_eq_true rfl⟩, ⟨Nat.le_of_ble_eq_true rfl, Nat.le_of_ble_eq_true rfl⟩, Nat.le_of_ble_eq_true rfl⟩ rfl rfl (fun n15 r14 hB => ?_)
          refine q_getI (j := 3) hB dX9_would_78 fc_2 (by decide) rfl wd_205 (fun n16 hB => ?_)
          exact Wq.mask [false, false, false, false, false] rfl (wb_X9_would_81 g l _ _ o hB)
        · refine q_aload_n dX9_would_59 rfl rfl ?_
          refine q_aload_n dX9_would_60 rfl rfl ?_
          refine q_getP (j := 4) hB dX9_would_61 fc_7 (by decide) rfl wd_244 (fun n17 hB => ?_)
          refine q_callVI (k' := 0) (w' := 0) hB (fun b a hf => c_X9_totalOf g l b _ _ a hf) rfl rfl dX9_would_64 wd_584 cs_X9_totalOf wd_586 wd_11 rfl ⟨⟨Nat.le_of_ble_eq_true rfl, Nat.le_of_ble_eq_true rfl⟩, ⟨Nat.le_of_ble_eq_true rfl, Nat.le_of_ble_eq_true rfl⟩, Nat.le_of_ble_eq_true rfl⟩ rfl rfl (fun n19 r18 hB => ?_)
          refine q_goto (tgt := 81) dX9_would_67 (by decide) ?_
          exact Wq.mask [false, false, false, false, false] rfl (wb_X9_would_81 g l _ _ o hB)
      · refine q_bipush (v := -4) dX9_would_30 (by decide) ?_
        exact q_iret hB dX9_would_32 rfl (by decide) (by decide)
    · exact Wq.mask [false, false, false, false, false] rfl (wb_X9_would_17 g l _ o hB)

def b_X10_layTrial_2  (k2 : Nat → Int32 → HS → Option (Unit × HS)) (a0 : Nat) (a1 : Int32) (h : HS) : Option (Unit × HS) :=
  (if (17 : Int32) ≤ a1 then some ((), h) else nn (some a0) (fun n1 => gd (ck h n1 8) (nn (some a0) (fun n2 => gd (ck h n2 8) (nn (hP h n2 12) (fun n3 => gd (ca h n3 9 a1) (nn (hP h n1 12) (fun n4 => gd (ca h n4 9 ((17 : Int32) + a1)) (k2 a0 (a1 + (1 : Int32)) (sI h n4 ((17 : Int32) + a1).toNatClampNeg (hI h n3 a1.toNatClampNeg)))))))))))
def l_X10_layTrial_2  : Nat → Nat → Int32 → HS → Option (Unit × HS)
  | 0 => fun _ _ _ => none
  | n + 1 => b_X10_layTrial_2 (l_X10_layTrial_2 n)
def f_X10_layTrial  (a0 : Nat) (h : HS) : Option (Unit × HS) :=
  l_X10_layTrial_2 FU a0 (0 : Int32) h
set_option maxHeartbeats 4000000 in
set_option maxRecDepth 100000 in
theorem wb_X10_layTrial_2 (g : GG) (l : Launch) (k2 : Nat → Int32 → HS → Option (Unit × HS)) (a0 : Nat) (a1 : Int32) (h : HS) (o : Unit × HS) (hB : b_X10_layTrial_2 k2 a0 a1 h = some o) (hk2 : ∀ (a0 : Nat) (a1 : Int32) (h : HS), k2 a0 a1 h = some o → Wq g l mX10_layTrial 0 0 2 [some (va_rf (some a0)), some (.int a1)] [] h (QV o)) : Wq g l mX10_layTrial 0 0 2 [some (va_rf (some a0)), some (.int a1)] [] h (QV o) := by
  unfold b_X10_layTrial_2 at hB
  refine q_iload_n dX10_layTrial_2 rfl rfl ?_
  refine q_bipush (v := 17) dX10_layTrial_3 (by decide) ?_
  refine q_icmp_ge (tgt := 29) hB dX10_layTrial_5 (by decide) (fun hB => ?_) (fun hB => ?_)
  · exact q_vret hB dX10_layTrial_29 rfl (by decide) (by decide)
  · refine q_aload_n dX10_layTrial_8 rfl rfl ?_
    refine q_getP (j := 12) hB dX10_layTrial_9 fc_8 (by decide) rfl wd_741 (fun n1 hB => ?_)
    refine q_bipush (v := 17) dX10_layTrial_12 (by decide) ?_
    refine q_iload_n dX10_layTrial_14 rfl rfl ?_
    refine q_iadd dX10_layTrial_15 ?_
    refine q_aload_n dX10_layTrial_16 rfl rfl ?_
    refine q_getP (j := 12) hB dX10_layTrial_17 fc_8 (by decide) rfl wd_741 (fun n2 hB => ?_)
    refine q_iload_n dX10_layTrial_20 rfl rfl ?_
    refine q_iald hB dX10_layTrial_21 (fun n3 hB => ?_)
    refine q_iast hB dX10_layTrial_22 (fun n4 hB => ?_)
    refine q_iinc dX10_layTrial_23 rfl (show _ = (a1 + (1 : Int32)) from rfl) (by decide) (nb_r (j := 0) rfl) ?_
    refine q_goto (tgt := 2) dX10_layTrial_26 (by decide) ?_
    exact Wq.mask [true, true] rfl (hk2 _ _ _ hB)
set_option maxHeartbeats 4000000 in
theorem wl_X10_layTrial_2 (g : GG) (l : Launch) (o : Unit × HS) : ∀ (n : Nat) (a0 : Nat) (a1 : Int32) (h : HS), l_X10_layTrial_2 n a0 a1 h = some o → Wq g l mX10_layTrial 0 0 2 [some (va_rf (some a0)), some (.int a1)] [] h (QV o) := by
  intro n
  induction n with
  | zero =>
    intro a0 a1  h hB
    have q : (none : Option (Unit × HS)) = some o := hB
    cases q
  | succ n ih =>
    intro a0 a1  h hB
    exact wb_X10_layTrial_2 g l (l_X10_layTrial_2 n) a0 a1 h o hB ih
set_option maxHeartbeats 4000000 in
set_option maxRecDepth 100000 in
theorem c_X10_layTrial (g : GG) (l : Launch) (a0 : Nat) (h : HS) (o : Unit × HS) (hB : f_X10_layTrial a0 h = some o) : Ct g l mX10_layTrial [va_rf (some a0)] h (QV o) := by
  refine Ct.of2 (lv0 := [some (va_rf (some a0)), none]) (by decide +kernel) (by simp [lg_sl, rf_cat, cat_i, cat_l]) rfl ?_
  unfold f_X10_layTrial at hB
  refine q_iconst (v := 0) dX10_layTrial_0 (by decide) ?_
  refine q_istore_n dX10_layTrial_1 rfl (by decide) (nb_r (j := 0) rfl) ?_
  exact Wq.mask [true, true] rfl (wl_X10_layTrial_2 g l o FU _ _ _ hB)

def b_X10_would_20  (h : HS) : Option (Int32 × HS) :=
  some ((-2 : Int32), h)
def b_X10_would_78  (s0 : Int32) (h : HS) : Option (Int32 × HS) :=
  some (s0, h)
def f_X10_would  (a0 : Nat) (a1 : Int32) (a2 : Int32) (a3 : Int32) (a4 : Int32) (h : HS) : Option (Int32 × HS) :=
  bd (f_X10_isEntry a1 a2 a3 h) (fun r1 => (if r1.1 = 0 then b_X10_would_20 r1.2 else bd (f_X10_in a4.toInt64 (0 : Int64) (1 : Int64) r1.2) (fun r2 => (if r2.1 = 0 then b_X10_would_20 r2.2 else nn (some a0) (fun n4 => gd (rk r2.2 n4 8) (bd (f_X10_many n4 (0 : Int32) r2.2) (fun r3 => (if r3.1 = (16 : Int32) then some ((-4 : Int32), r3.2) else nn (some a0) (fun n6 => gd (rk r3.2 n6 8) (bd (f_X10_layTrial n6 r3.2) (fun r5 => bd (f_X10_asOne a1 a2 a3 r5.2) (fun r7 => nn (some a0) (fun n9 => gd (rk r7.2 n9 8) (bd (f_X10_addOn n9 (1 : Int32) r7.1 r7.2) (fun r8 => nn (some a0) (fun n11 => gd (rk r8.2 n11 8) (bd (f_X10_findRows n11 (1 : Int32) r8.2) (fun r10 => (if a4 = 0 then nn (some a0) (fun n14 => gd (rk r10.2 n14 8) (bd (f_X10_allOf n14 (1 : Int32) r10.2) (fun r13 => nn (some a0) (fun n16 => gd (rk r13.2 n16 8) (bd (f_X10_measureOf n16 (1 : Int32) r13.1 r13.2) (fun r15 => b_X10_would_78 r15.1 r15.2)))))) else nn (some a0) (fun n12 => gd (ck r10.2 n12 8) (b_X10_would_78 (hI r10.2 n12 13) r10.2)))))))))))))))))))))
set_option maxHeartbeats 4000000 in
set_option maxRecDepth 100000 in
theorem wb_X10_would_20 (g : GG) (l : Launch) (h : HS) (o : Int32 × HS) (hB : b_X10_would_20  h = some o) : Wq g l mX10_would 0 0 20 [none, none, none, none, none] [] h (QI o) := by
  unfold b_X10_would_20 at hB
  refine q_bipush (v := -2) dX10_would_20 (by decide) ?_
  exact q_iret hB dX10_would_22 rfl (by decide) (by decide)
set_option maxHeartbeats 4000000 in
set_option maxRecDepth 100000 in
theorem wb_X10_would_78 (g : GG) (l : Launch) (s0 : Int32) (h : HS) (o : Int32 × HS) (hB : b_X10_would_78 s0 h = some o) : Wq g l mX10_would 0 0 78 [none, none, none, none, none] [.int s0] h (QI o) := by
  unfold b_X10_would_78 at hB
  exact q_iret hB dX10_would_78 rfl (by decide) (by decide)
set_option maxHeartbeats 4000000 in
set_option maxRecDepth 100000 in
theorem c_X10_would (g : GG) (l : Launch) (a0 : Nat) (a1 : Int32) (a2 : Int32) (a3 : Int32) (a4 : Int32) (h : HS) (o : Int32 × HS) (hB : f_X10_would a0 a1 a2 a3 a4 h = some o) : Ct g l mX10_would [va_rf (some a0), .int a1, .int a2, .int a3, .int a4] h (QI o) := by
  refine Ct.of2 (lv0 := [some (va_rf (some a0)), some (.int a1), some (.int a2), some (.int a3), some (.int a4)]) (by decide +kernel) (by simp [lg_sl, rf_cat, cat_i, cat_l]) rfl ?_
  unfold f_X10_would at hB
  refine q_iload_n dX10_would_0 rfl rfl ?_
  refine q_iload_n dX10_would_1 rfl rfl ?_
  refine q_iload_n dX10_would_2 rfl rfl ?_
  refine q_callSI (k' := 0) (w' := 0) hB (fun a hf => c_X10_isEntry g l _ _ _ _ a hf) rfl dX10_would_3 wd_907 cs_X10_isEntry wd_908 rfl ⟨⟨Nat.le_of_ble_eq_true rfl, Nat.le_of_ble_eq_true rfl⟩, ⟨Nat.le_of_ble_eq_true rfl, Nat.le_of_ble_eq_true rfl⟩, Nat.le_of_ble_eq_true rfl⟩ rfl rfl (fun r1 hB => ?_)
  refine q_if_eq (tgt := 20) hB dX10_would_6 (by decide) (fun hB => ?_) (fun hB => ?_)
  · exact Wq.mask [false, false, false, false, false] rfl (wb_X10_would_20 g l _ o hB)
  · refine q_iload dX10_would_9 rfl ?_
    refine q_i2l dX10_would_11 ?_
    refine q_lconst (v := 0) dX10_would_12 (by decide) ?_
    refine q_lconst (v := 1) dX10_would_13 (by decide) ?_
    refine q_callSI (k' := 0) (w' := 0) hB (fun a hf => c_X10_in g l _ _ _ _ a hf) rfl dX10_would_14 wd_825 cs_X10_in wd_826 rfl ⟨⟨Nat.le_of_ble_eq_true rfl, Nat.le_of_ble_eq_true rfl⟩, ⟨Nat.le_of_ble_eq_true rfl, Nat.le_of_ble_eq_true rfl⟩, Nat.le_of_ble_eq_true rfl⟩ rfl rfl (fun r2 hB => ?_)
    refine q_if_ne (tgt := 23) hB dX10_would_17 (by decide) (fun hB => ?_) (fun hB => ?_)
    · refine q_aload_n dX10_would_23 rfl rfl ?_
      refine q_iconst (v := 0) dX10_would_24 (by decide) ?_
      refine q_callVI (k' := 0) (w' := 0) hB (fun b a hf => c_X10_many g l b _ _ a hf) rfl rfl dX10_would_25 wd_867 cs_X10_many wd_869 wd_23 rfl ⟨⟨Nat.le_of_ble_eq_true rfl, Nat.le_of_ble_eq_true rfl⟩, ⟨Nat.le_of_ble_eq_true rfl, Nat.le_of_ble_eq_true rfl⟩, Nat.le_of_ble_eq_true rfl⟩ rfl rfl (fun n4 r3 hB => ?_)
      refine q_bipush (v := 16) dX10_would_28 (by decide) ?_
      refine q_icmp_ne (tgt := 36) hB dX10_would_30 (by decide) (fun hB => ?_) (fun hB => ?_)
      · refine q_aload_n dX10_would_36 rfl rfl ?_
        refine q_callVV (k' := 0) (w' := 0) hB (fun b a hf => c_X10_layTrial g l b _ a hf) rfl rfl dX10_would_37 wd_992 cs_X10_layTrial wd_994 wd_39 rfl ⟨⟨Nat.le_of_ble_eq_true rfl, Nat.le_of_ble_eq_true rfl⟩, ⟨Nat.le_of_ble_eq_true rfl, Nat.le_of_ble_eq_true rfl⟩, Nat.le_of_ble_eq_true rfl⟩ rfl rfl (fun n6 r5 hB => ?_)
        refine q_aload_n dX10_would_40 rfl rfl ?_
        refine q_iconst (v := 1) dX10_would_41 (by decide) ?_
        refine q_iload_n dX10_would_42 rfl rfl ?_
        refine q_iload_n dX10_would_43 rfl rfl ?_
        refine q_iload_n dX10_would_44 rfl rfl ?_
        refine q_callSI (k' := 0) (w' := 0) hB (fun a hf => c_X10_asOne g l _ _ _ _ a hf) rfl dX10_would_45 wd_917 cs_X10_asOne wd_918 rfl ⟨⟨Nat.le_of_ble_eq_true rfl, Nat.le_of_ble_eq_true rfl⟩, ⟨Nat.le_of_ble_eq_true rfl, Nat.le_of_ble_eq_true rfl⟩, by simp [rf_cat, cat_i, cat_l]⟩ rfl rfl (fun r7 hB => ?_)
        refine q_callVV (k' := 0) (w' := 0) hB (fun b a hf => c_X10_addOn g l b _ _ _ a hf) rfl rfl dX10_would_48 wd_920 cs_X10_addOn wd_922 wd_31 rfl ⟨⟨Nat.le_of_ble_eq_true rfl, Nat.le_of_ble_eq_true rfl⟩, ⟨Nat.le_of_ble_eq_true rfl, Nat.le_of_ble_eq_true rfl⟩, Nat.le_of_ble_eq_true rfl⟩ rfl rfl (fun n9 r8 hB => ?_)
        refine q_aload_n dX10_would_51 rfl rfl ?_
        refine q_iconst (v := 1) dX10_would_52 (by decide) ?_
        refine q_callVV (k' := 0) (w' := 0) hB (fun b a hf => c_X10_findRows g l b _ _ a hf) rfl rfl dX10_would_53 wd_859 cs_X10_findRows wd_861 wd_21 rfl ⟨⟨Nat.le_of_ble_eq_true rfl, Nat.le_of_ble_eq_true rfl⟩, ⟨Nat.le_of_ble_eq_true rfl, Nat.le_of_ble_eq_true rfl⟩, Nat.le_of_ble_eq_true rfl⟩ rfl rfl (fun n11 r10 hB => ?_)
        refine q_iload dX10_would_56 rfl ?_
        refine q_if_ne (tgt := 74) hB dX10_would_58 (by decide) (fun hB => ?_) (fun hB => ?_)
        · refine q_aload_n dX10_would_74 rfl rfl ?_
          refine q_getI (j := 13) hB dX10_would_75 fc_8 (by decide) rfl wd_742 (fun n12 hB => ?_)
          exact Wq.mask [false, false, false, false, false] rfl (wb_X10_would_78 g l _ _ o hB)
        · refine q_aload_n dX10_would_61 rfl rfl ?_
          refine q_iconst (v := 1) dX10_would_62 (by decide) ?_
          refine q_aload_n dX10_would_63 rfl rfl ?_
          refine q_iconst (v := 1) dX10_would_64 (by decide) ?_
          refine q_callVI (k' := 0) (w' := 0) hB (fun b a hf => c_X10_allOf g l b _ _ a hf) rfl rfl dX10_would_65 wd_984 cs_X10_allOf wd_986 wd_38 rfl ⟨⟨Nat.le_of_ble_eq_true rfl, Nat.le_of_ble_eq_true rfl⟩, ⟨Nat.le_of_ble_eq_true rfl, Nat.le_of_ble_eq_true rfl⟩, by simp [rf_cat, cat_i, cat_l]⟩ rfl rfl (fun n14 r13 hB => ?_)
          refine q_callVI (k' := 0) (w' := 0) hB (fun b a hf => c_X10_measureOf g l b _ _ _ a hf) rfl rfl dX10_would_68 wd_883 cs_X10_measureOf wd_885 wd_27 rfl ⟨⟨Nat.le_of_ble_eq_true rfl, Nat.le_of_ble_eq_true rfl⟩, ⟨Nat.le_of_ble_eq_true rfl, Nat.le_of_ble_eq_true rfl⟩, Nat.le_of_ble_eq_true rfl⟩ rfl rfl (fun n16 r15 hB => ?_)
          refine q_goto (tgt := 78) dX10_would_71 (by decide) ?_
          exact Wq.mask [false, false, false, false, false] rfl (wb_X10_would_78 g l _ _ o hB)
      · refine q_bipush (v := -4) dX10_would_33 (by decide) ?_
        exact q_iret hB dX10_would_35 rfl (by decide) (by decide)
    · exact Wq.mask [false, false, false, false, false] rfl (wb_X10_would_20 g l _ o hB)

def b_X9_best_88  (s0 : Int32) (h : HS) : Option (Int32 × HS) :=
  some (s0, h)
def b_X9_best_73  (k19 : Nat → Int32 → Int32 → Int32 → Int32 → HS → Option (Int32 × HS)) (a0 : Nat) (a1 : Int32) (a2 : Int32) (a3 : Int32) (a4 : Int32) (h : HS) : Option (Int32 × HS) :=
  k19 a0 a1 a2 a3 (a4 + (1 : Int32)) h
def b_X9_best_67  (k19 : Nat → Int32 → Int32 → Int32 → Int32 → HS → Option (Int32 × HS)) (a0 : Nat) (a1 : Int32) (a4 : Int32) (a5 : Int32) (h : HS) : Option (Int32 × HS) :=
  b_X9_best_73 k19 a0 a1 a4 a5 a4 h
def b_X9_best_19  (k19 : Nat → Int32 → Int32 → Int32 → Int32 → HS → Option (Int32 × HS)) (a0 : Nat) (a1 : Int32) (a2 : Int32) (a3 : Int32) (a4 : Int32) (h : HS) : Option (Int32 × HS) :=
  nn (some a0) (fun n1 => gd (ck h n1 7) (nn (hP h n1 3) (fun n2 => gd (ck h n2 3) ((if (hI h n2 3) ≤ a4 then (if a1 = 0 then b_X9_best_88 a2 h else b_X9_best_88 a3 h) else nn (some a0) (fun n3 => gd (ck h n3 7) (nn (some a0) (fun n4 => gd (ck h n4 7) (nn (hP h n4 3) (fun n6 => gd (rk h n6 3) (bd (f_X3_all n6 h) (fun r5 => nn (some a0) (fun n8 => gd (rk r5.2 n8 7) (bd (f_X9_measureOf n8 (hP h n3 3) (r5.1 &&& (((1 : Int32) <<< (a4 &&& 31)) ^^^ (-1 : Int32))) r5.2) (fun r7 => (if a2 = (-9 : Int32) then b_X9_best_67 k19 a0 a1 a4 r7.1 r7.2 else (if r7.1 ≤ a3 then b_X9_best_73 k19 a0 a1 a2 a3 a4 r7.2 else b_X9_best_67 k19 a0 a1 a4 r7.1 r7.2)))))))))))))))))
def l_X9_best_19  : Nat → Nat → Int32 → Int32 → Int32 → Int32 → HS → Option (Int32 × HS)
  | 0 => fun _ _ _ _ _ _ => none
  | n + 1 => b_X9_best_19 (l_X9_best_19 n)
def f_X9_best  (a0 : Nat) (a1 : Int32) (h : HS) : Option (Int32 × HS) :=
  bd (f_X9_isOneOfTwo a1 h) (fun r1 => (if r1.1 = 0 then some ((-2 : Int32), r1.2) else l_X9_best_19 FU a0 a1 (-9 : Int32) (-9 : Int32) (0 : Int32) r1.2))
set_option maxHeartbeats 4000000 in
set_option maxRecDepth 100000 in
theorem wb_X9_best_88 (g : GG) (l : Launch) (s0 : Int32) (h : HS) (o : Int32 × HS) (hB : b_X9_best_88 s0 h = some o) : Wq g l mX9_best 0 0 88 [none, none, none, none, none, none] [.int s0] h (QI o) := by
  unfold b_X9_best_88 at hB
  exact q_iret hB dX9_best_88 rfl (by decide) (by decide)
set_option maxHeartbeats 4000000 in
set_option maxRecDepth 100000 in
theorem wb_X9_best_73 (g : GG) (l : Launch) (k19 : Nat → Int32 → Int32 → Int32 → Int32 → HS → Option (Int32 × HS)) (a0 : Nat) (a1 : Int32) (a2 : Int32) (a3 : Int32) (a4 : Int32) (h : HS) (o : Int32 × HS) (hB : b_X9_best_73 k19 a0 a1 a2 a3 a4 h = some o) (hk19 : ∀ (a0 : Nat) (a1 : Int32) (a2 : Int32) (a3 : Int32) (a4 : Int32) (h : HS), k19 a0 a1 a2 a3 a4 h = some o → Wq g l mX9_best 0 0 19 [some (va_rf (some a0)), some (.int a1), some (.int a2), some (.int a3), some (.int a4), none] [] h (QI o)) : Wq g l mX9_best 0 0 73 [some (va_rf (some a0)), some (.int a1), some (.int a2), some (.int a3), some (.int a4), none] [] h (QI o) := by
  unfold b_X9_best_73 at hB
  refine q_iinc dX9_best_73 rfl (show _ = (a4 + (1 : Int32)) from rfl) (by decide) (nb_i (j := 3) rfl) ?_
  refine q_goto (tgt := 19) dX9_best_76 (by decide) ?_
  exact Wq.mask [true, true, true, true, true, false] rfl (hk19 _ _ _ _ _ _ hB)
set_option maxHeartbeats 4000000 in
set_option maxRecDepth 100000 in
theorem wb_X9_best_67 (g : GG) (l : Launch) (k19 : Nat → Int32 → Int32 → Int32 → Int32 → HS → Option (Int32 × HS)) (a0 : Nat) (a1 : Int32) (a4 : Int32) (a5 : Int32) (h : HS) (o : Int32 × HS) (hB : b_X9_best_67 k19 a0 a1 a4 a5 h = some o) (hk19 : ∀ (a0 : Nat) (a1 : Int32) (a2 : Int32) (a3 : Int32) (a4 : Int32) (h : HS), k19 a0 a1 a2 a3 a4 h = some o → Wq g l mX9_best 0 0 19 [some (va_rf (some a0)), some (.int a1), some (.int a2), some (.int a3), some (.int a4), none] [] h (QI o)) : Wq g l mX9_best 0 0 67 [some (va_rf (some a0)), some (.int a1), none, none, some (.int a4), some (.int a5)] [] h (QI o) := by
  unfold b_X9_best_67 at hB
  refine q_iload dX9_best_67 rfl ?_
  refine q_istore_n dX9_best_69 rfl (by decide) (nb_i (j := 1) rfl) ?_
  refine q_iload dX9_best_70 rfl ?_
  refine q_istore_n dX9_best_72 rfl (by decide) (nb_i (j := 2) rfl) ?_
  exact Wq.mask [true, true, true, true, true, false] rfl (wb_X9_best_73 g l k19 _ _ _ _ _ _ o hB hk19)
set_option maxHeartbeats 4000000 in
set_option maxRecDepth 100000 in
theorem wb_X9_best_19 (g : GG) (l : Launch) (k19 : Nat → Int32 → Int32 → Int32 → Int32 → HS → Option (Int32 × HS)) (a0 : Nat) (a1 : Int32) (a2 : Int32) (a3 : Int32) (a4 : Int32) (h : HS) (o : Int32 × HS) (hB : b_X9_best_19 k19 a0 a1 a2 a3 a4 h = some o) (hk19 : ∀ (a0 : Nat) (a1 : Int32) (a2 : Int32) (a3 : Int32) (a4 : Int32) (h : HS), k19 a0 a1 a2 a3 a4 h = some o → Wq g l mX9_best 0 0 19 [some (va_rf (some a0)), some (.int a1), some (.int a2), some (.int a3), some (.int a4), none] [] h (QI o)) : Wq g l mX9_best 0 0 19 [some (va_rf (some a0)), some (.int a1), some (.int a2), some (.int a3), some (.int a4), none] [] h (QI o) := by
  unfold b_X9_best_19 at hB
  refine q_iload dX9_best_19 rfl ?_
  refine q_aload_n dX9_best_21 rfl rfl ?_
  refine q_getP (j := 3) hB dX9_best_22 fc_7 (by decide) rfl wd_243 (fun n1 hB => ?_)
  refine q_getI (j := 3) hB dX9_best_25 fc_3 (by decide) rfl wd_147 (fun n2 hB => ?_)
  refine q_icmp_ge (tgt := 79) hB dX9_best_28 (by decide) (fun hB => ?_) (fun hB => ?_)
  · refine q_iload_n dX9_best_79 rfl rfl ?_
    refine q_if_ne (tgt := 87) hB dX9_best_80 (by decide) (fun hB => ?_) (fun hB => ?_)
    · refine q_iload_n dX9_best_87 rfl rfl ?_
      exact Wq.mask [false, false, false, false, false, false] rfl (wb_X9_best_88 g l _ _ o hB)
    · refine q_iload_n dX9_best_83 rfl rfl ?_
      refine q_goto (tgt := 88) dX9_best_84 (by decide) ?_
      exact Wq.mask [false, false, false, false, false, false] rfl (wb_X9_best_88 g l _ _ o hB)
  · refine q_aload_n dX9_best_31 rfl rfl ?_
    refine q_aload_n dX9_best_32 rfl rfl ?_
    refine q_getP (j := 3) hB dX9_best_33 fc_7 (by decide) rfl wd_243 (fun n3 hB => ?_)
    refine q_aload_n dX9_best_36 rfl rfl ?_
    refine q_getP (j := 3) hB dX9_best_37 fc_7 (by decide) rfl wd_243 (fun n4 hB => ?_)
    refine q_callVI (k' := 0) (w' := 0) hB (fun b a hf => c_X3_all g l b _ a hf) rfl rfl dX9_best_40 wd_588 cs_X3_all wd_589 wd_590 rfl ⟨⟨Nat.le_of_ble_eq_true rfl, Nat.le_of_ble_eq_true rfl⟩, ⟨Nat.le_of_ble_eq_true rfl, Nat.le_of_ble_eq_true rfl⟩, by simp [rf_cat, cat_i, cat_l]⟩ rfl rfl (fun n6 r5 hB => ?_)
    refine q_iconst (v := 1) dX9_best_43 (by decide) ?_
    refine q_iload dX9_best_44 rfl ?_
    refine q_ishl dX9_best_46 ?_
    refine q_iconst (v := -1) dX9_best_47 (by decide) ?_
    refine q_ixor dX9_best_48 ?_
    refine q_iand dX9_best_49 ?_
    refine q_callVI (k' := 0) (w' := 0) hB (fun b a hf => c_X9_measureOf g l b _ _ _ a hf) rfl rfl dX9_best_50 wd_567 cs_X9_measureOf wd_569 wd_10 rfl ⟨⟨Nat.le_of_ble_eq_true rfl, Nat.le_of_ble_eq_true rfl⟩, ⟨Nat.le_of_ble_eq_true rfl, Nat.le_of_ble_eq_true rfl⟩, Nat.le_of_ble_eq_true rfl⟩ rfl rfl (fun n8 r7 hB => ?_)
    refine q_istore dX9_best_53 (by decide) (nb_i (j := 4) rfl) ?_
    refine q_iload_n dX9_best_55 rfl rfl ?_
    refine q_bipush (v := -9) dX9_best_56 (by decide) ?_
    refine q_icmp_eq (tgt := 67) hB dX9_best_58 (by decide) (fun hB => ?_) (fun hB => ?_)
    · exact Wq.mask [true, true, false, false, true, true] rfl (wb_X9_best_67 g l k19 _ _ _ _ _ o hB hk19)
    · refine q_iload dX9_best_61 rfl ?_
      refine q_iload_n dX9_best_63 rfl rfl ?_
      refine q_icmp_le (tgt := 73) hB dX9_best_64 (by decide) (fun hB => ?_) (fun hB => ?_)
      · exact Wq.mask [true, true, true, true, true, false] rfl (wb_X9_best_73 g l k19 _ _ _ _ _ _ o hB hk19)
      · exact Wq.mask [true, true, false, false, true, true] rfl (wb_X9_best_67 g l k19 _ _ _ _ _ o hB hk19)
set_option maxHeartbeats 4000000 in
theorem wl_X9_best_19 (g : GG) (l : Launch) (o : Int32 × HS) : ∀ (n : Nat) (a0 : Nat) (a1 : Int32) (a2 : Int32) (a3 : Int32) (a4 : Int32) (h : HS), l_X9_best_19 n a0 a1 a2 a3 a4 h = some o → Wq g l mX9_best 0 0 19 [some (va_rf (some a0)), some (.int a1), some (.int a2), some (.int a3), some (.int a4), none] [] h (QI o) := by
  intro n
  induction n with
  | zero =>
    intro a0 a1 a2 a3 a4  h hB
    have q : (none : Option (Int32 × HS)) = some o := hB
    cases q
  | succ n ih =>
    intro a0 a1 a2 a3 a4  h hB
    exact wb_X9_best_19 g l (l_X9_best_19 n) a0 a1 a2 a3 a4 h o hB ih
set_option maxHeartbeats 4000000 in
set_option maxRecDepth 100000 in
theorem c_X9_best (g : GG) (l : Launch) (a0 : Nat) (a1 : Int32) (h : HS) (o : Int32 × HS) (hB : f_X9_best a0 a1 h = some o) : Ct g l mX9_best [va_rf (some a0), .int a1] h (QI o) := by
  refine Ct.of2 (lv0 := [some (va_rf (some a0)), some (.int a1), none, none, none, none]) (by decide +kernel) (by simp [lg_sl, rf_cat, cat_i, cat_l]) rfl ?_
  unfold f_X9_best at hB
  refine q_iload_n dX9_best_0 rfl rfl ?_
  refine q_callSI (k' := 0) (w' := 0) hB (fun a hf => c_X9_isOneOfTwo g l _ _ a hf) rfl dX9_best_1 wd_544 cs_X9_isOneOfTwo wd_545 rfl ⟨⟨Nat.le_of_ble_eq_true rfl, Nat.le_of_ble_eq_true rfl⟩, ⟨Nat.le_of_ble_eq_true rfl, Nat.le_of_ble_eq_true rfl⟩, Nat.le_of_ble_eq_true rfl⟩ rfl rfl (fun r1 hB => ?_)
  refine q_if_ne (tgt := 10) hB dX9_best_4 (by decide) (fun hB => ?_) (fun hB => ?_)
  · refine q_bipush (v := -9) dX9_best_10 (by decide) ?_
    refine q_istore_n dX9_best_12 rfl (by decide) (nb_i (j := 1) rfl) ?_
    refine q_bipush (v := -9) dX9_best_13 (by decide) ?_
    refine q_istore_n dX9_best_15 rfl (by decide) (nb_i (j := 2) rfl) ?_
    refine q_iconst (v := 0) dX9_best_16 (by decide) ?_
    refine q_istore dX9_best_17 (by decide) (nb_i (j := 3) rfl) ?_
    exact Wq.mask [true, true, true, true, true, false] rfl (wl_X9_best_19 g l o FU _ _ _ _ _ _ hB)
  · refine q_bipush (v := -2) dX9_best_7 (by decide) ?_
    exact q_iret hB dX9_best_9 rfl (by decide) (by decide)

def b_X10_best_113  (s0 : Int32) (h : HS) : Option (Int32 × HS) :=
  some (s0, h)
def b_X10_best_97  (k22 : Nat → Int32 → Int32 → Int32 → Int32 → HS → Option (Int32 × HS)) (a0 : Nat) (a1 : Int32) (a2 : Int32) (a4 : Int32) (s0 : Int32) (h : HS) : Option (Int32 × HS) :=
  k22 a0 a1 a2 s0 (a4 + (1 : Int32)) h
def b_X10_best_85  (k22 : Nat → Int32 → Int32 → Int32 → Int32 → HS → Option (Int32 × HS)) (a0 : Nat) (a1 : Int32) (a3 : Int32) (a4 : Int32) (a5 : Int32) (a6 : Int32) (s0 : Int32) (h : HS) : Option (Int32 × HS) :=
  (if a6 = 0 then b_X10_best_97 k22 a0 a1 s0 a4 a3 h else b_X10_best_97 k22 a0 a1 s0 a4 a5 h)
def b_X10_best_72  (k22 : Nat → Int32 → Int32 → Int32 → Int32 → HS → Option (Int32 × HS)) (a0 : Nat) (a1 : Int32) (a2 : Int32) (a3 : Int32) (a4 : Int32) (a5 : Int32) (s0 : Int32) (h : HS) : Option (Int32 × HS) :=
  (if s0 = 0 then b_X10_best_85 k22 a0 a1 a3 a4 a5 s0 a2 h else b_X10_best_85 k22 a0 a1 a3 a4 a5 s0 a4 h)
def b_X10_best_67  (k22 : Nat → Int32 → Int32 → Int32 → Int32 → HS → Option (Int32 × HS)) (a0 : Nat) (a1 : Int32) (a2 : Int32) (a3 : Int32) (a4 : Int32) (a5 : Int32) (h : HS) : Option (Int32 × HS) :=
  b_X10_best_72 k22 a0 a1 a2 a3 a4 a5 (1 : Int32) h
def b_X10_best_22  (k22 : Nat → Int32 → Int32 → Int32 → Int32 → HS → Option (Int32 × HS)) (a0 : Nat) (a1 : Int32) (a2 : Int32) (a3 : Int32) (a4 : Int32) (h : HS) : Option (Int32 × HS) :=
  nn (some a0) (fun n2 => gd (rk h n2 8) (bd (f_X10_many n2 (0 : Int32) h) (fun r1 => (if r1.1 ≤ a4 then (if a1 = 0 then b_X10_best_113 a2 r1.2 else b_X10_best_113 a3 r1.2) else nn (some a0) (fun n4 => gd (rk r1.2 n4 8) (bd (f_X10_layTrial n4 r1.2) (fun r3 => nn (some a0) (fun n6 => gd (rk r3.2 n6 8) (bd (f_X10_dropOn n6 (1 : Int32) a4 r3.2) (fun r5 => nn (some a0) (fun n8 => gd (rk r5.2 n8 8) (bd (f_X10_allOf n8 (1 : Int32) r5.2) (fun r7 => nn (some a0) (fun n10 => gd (rk r7.2 n10 8) (bd (f_X10_measureOf n10 (1 : Int32) r7.1 r7.2) (fun r9 => (if a2 = (-9 : Int32) then b_X10_best_67 k22 a0 a1 a2 a3 a4 r9.1 r9.2 else (if r9.1 ≤ a3 then b_X10_best_72 k22 a0 a1 a2 a3 a4 r9.1 (0 : Int32) r9.2 else b_X10_best_67 k22 a0 a1 a2 a3 a4 r9.1 r9.2))))))))))))))))))
def l_X10_best_22  : Nat → Nat → Int32 → Int32 → Int32 → Int32 → HS → Option (Int32 × HS)
  | 0 => fun _ _ _ _ _ _ => none
  | n + 1 => b_X10_best_22 (l_X10_best_22 n)
def f_X10_best  (a0 : Nat) (a1 : Int32) (h : HS) : Option (Int32 × HS) :=
  bd (f_X10_in a1.toInt64 (0 : Int64) (1 : Int64) h) (fun r1 => (if r1.1 = 0 then some ((-2 : Int32), r1.2) else l_X10_best_22 FU a0 a1 (-9 : Int32) (-9 : Int32) (0 : Int32) r1.2))
set_option maxHeartbeats 4000000 in
set_option maxRecDepth 100000 in
theorem wb_X10_best_113 (g : GG) (l : Launch) (s0 : Int32) (h : HS) (o : Int32 × HS) (hB : b_X10_best_113 s0 h = some o) : Wq g l mX10_best 0 0 113 [none, none, none, none, none, none, none] [.int s0] h (QI o) := by
  unfold b_X10_best_113 at hB
  exact q_iret hB dX10_best_113 rfl (by decide) (by decide)
set_option maxHeartbeats 4000000 in
set_option maxRecDepth 100000 in
theorem wb_X10_best_97 (g : GG) (l : Launch) (k22 : Nat → Int32 → Int32 → Int32 → Int32 → HS → Option (Int32 × HS)) (a0 : Nat) (a1 : Int32) (a2 : Int32) (a4 : Int32) (s0 : Int32) (h : HS) (o : Int32 × HS) (hB : b_X10_best_97 k22 a0 a1 a2 a4 s0 h = some o) (hk22 : ∀ (a0 : Nat) (a1 : Int32) (a2 : Int32) (a3 : Int32) (a4 : Int32) (h : HS), k22 a0 a1 a2 a3 a4 h = some o → Wq g l mX10_best 0 0 22 [some (va_rf (some a0)), some (.int a1), some (.int a2), some (.int a3), some (.int a4), none, none] [] h (QI o)) : Wq g l mX10_best 0 0 97 [some (va_rf (some a0)), some (.int a1), some (.int a2), none, some (.int a4), none, none] [.int s0] h (QI o) := by
  unfold b_X10_best_97 at hB
  refine q_istore_n dX10_best_97 rfl (by decide) (nb_i (j := 2) rfl) ?_
  refine q_iinc dX10_best_98 rfl (show _ = (a4 + (1 : Int32)) from rfl) (by decide) (nb_i (j := 3) rfl) ?_
  refine q_goto (tgt := 22) dX10_best_101 (by decide) ?_
  exact Wq.mask [true, true, true, true, true, false, false] rfl (hk22 _ _ _ _ _ _ hB)
set_option maxHeartbeats 4000000 in
set_option maxRecDepth 100000 in
theorem wb_X10_best_85 (g : GG) (l : Launch) (k22 : Nat → Int32 → Int32 → Int32 → Int32 → HS → Option (Int32 × HS)) (a0 : Nat) (a1 : Int32) (a3 : Int32) (a4 : Int32) (a5 : Int32) (a6 : Int32) (s0 : Int32) (h : HS) (o : Int32 × HS) (hB : b_X10_best_85 k22 a0 a1 a3 a4 a5 a6 s0 h = some o) (hk22 : ∀ (a0 : Nat) (a1 : Int32) (a2 : Int32) (a3 : Int32) (a4 : Int32) (h : HS), k22 a0 a1 a2 a3 a4 h = some o → Wq g l mX10_best 0 0 22 [some (va_rf (some a0)), some (.int a1), some (.int a2), some (.int a3), some (.int a4), none, none] [] h (QI o)) : Wq g l mX10_best 0 0 85 [some (va_rf (some a0)), some (.int a1), none, some (.int a3), some (.int a4), some (.int a5), some (.int a6)] [.int s0] h (QI o) := by
  unfold b_X10_best_85 at hB
  refine q_istore_n dX10_best_85 rfl (by decide) (nb_i (j := 1) rfl) ?_
  refine q_iload dX10_best_86 rfl ?_
  refine q_if_eq (tgt := 96) hB dX10_best_88 (by decide) (fun hB => ?_) (fun hB => ?_)
  · refine q_iload_n dX10_best_96 rfl rfl ?_
    exact Wq.mask [true, true, true, false, true, false, false] rfl (wb_X10_best_97 g l k22 _ _ _ _ _ _ o hB hk22)
  · refine q_iload dX10_best_91 rfl ?_
    refine q_goto (tgt := 97) dX10_best_93 (by decide) ?_
    exact Wq.mask [true, true, true, false, true, false, false] rfl (wb_X10_best_97 g l k22 _ _ _ _ _ _ o hB hk22)
set_option maxHeartbeats 4000000 in
set_option maxRecDepth 100000 in
theorem wb_X10_best_72 (g : GG) (l : Launch) (k22 : Nat → Int32 → Int32 → Int32 → Int32 → HS → Option (Int32 × HS)) (a0 : Nat) (a1 : Int32) (a2 : Int32) (a3 : Int32) (a4 : Int32) (a5 : Int32) (s0 : Int32) (h : HS) (o : Int32 × HS) (hB : b_X10_best_72 k22 a0 a1 a2 a3 a4 a5 s0 h = some o) (hk22 : ∀ (a0 : Nat) (a1 : Int32) (a2 : Int32) (a3 : Int32) (a4 : Int32) (h : HS), k22 a0 a1 a2 a3 a4 h = some o → Wq g l mX10_best 0 0 22 [some (va_rf (some a0)), some (.int a1), some (.int a2), some (.int a3), some (.int a4), none, none] [] h (QI o)) : Wq g l mX10_best 0 0 72 [some (va_rf (some a0)), some (.int a1), some (.int a2), some (.int a3), some (.int a4), some (.int a5), none] [.int s0] h (QI o) := by
  unfold b_X10_best_72 at hB
  refine q_istore dX10_best_72 (by decide) (nb_i (j := 5) rfl) ?_
  refine q_iload dX10_best_74 rfl ?_
  refine q_if_eq (tgt := 84) hB dX10_best_76 (by decide) (fun hB => ?_) (fun hB => ?_)
  · refine q_iload_n dX10_best_84 rfl rfl ?_
    exact Wq.mask [true, true, false, true, true, true, true] rfl (wb_X10_best_85 g l k22 _ _ _ _ _ _ _ _ o hB hk22)
  · refine q_iload dX10_best_79 rfl ?_
    refine q_goto (tgt := 85) dX10_best_81 (by decide) ?_
    exact Wq.mask [true, true, false, true, true, true, true] rfl (wb_X10_best_85 g l k22 _ _ _ _ _ _ _ _ o hB hk22)
set_option maxHeartbeats 4000000 in
set_option maxRecDepth 100000 in
theorem wb_X10_best_67 (g : GG) (l : Launch) (k22 : Nat → Int32 → Int32 → Int32 → Int32 → HS → Option (Int32 × HS)) (a0 : Nat) (a1 : Int32) (a2 : Int32) (a3 : Int32) (a4 : Int32) (a5 : Int32) (h : HS) (o : Int32 × HS) (hB : b_X10_best_67 k22 a0 a1 a2 a3 a4 a5 h = some o) (hk22 : ∀ (a0 : Nat) (a1 : Int32) (a2 : Int32) (a3 : Int32) (a4 : Int32) (h : HS), k22 a0 a1 a2 a3 a4 h = some o → Wq g l mX10_best 0 0 22 [some (va_rf (some a0)), some (.int a1), some (.int a2), some (.int a3), some (.int a4), none, none] [] h (QI o)) : Wq g l mX10_best 0 0 67 [some (va_rf (some a0)), some (.int a1), some (.int a2), some (.int a3), some (.int a4), some (.int a5), none] [] h (QI o) := by
  unfold b_X10_best_67 at hB
  refine q_iconst (v := 1) dX10_best_67 (by decide) ?_
  refine q_goto (tgt := 72) dX10_best_68 (by decide) ?_
  exact Wq.mask [true, true, true, true, true, true, false] rfl (wb_X10_best_72 g l k22 _ _ _ _ _ _ _ _ o hB hk22)
set_option maxHeartbeats 4000000 in
set_option maxRecDepth 100000 in
theorem wb_X10_best_22 (g : GG) (l : Launch) (k22 : Nat → Int32 → Int32 → Int32 → Int32 → HS → Option (Int32 × HS)) (a0 : Nat) (a1 : Int32) (a2 : Int32) (a3 : Int32) (a4 : Int32) (h : HS) (o : Int32 × HS) (hB : b_X10_best_22 k22 a0 a1 a2 a3 a4 h = some o) (hk22 : ∀ (a0 : Nat) (a1 : Int32) (a2 : Int32) (a3 : Int32) (a4 : Int32) (h : HS), k22 a0 a1 a2 a3 a4 h = some o → Wq g l mX10_best 0 0 22 [some (va_rf (some a0)), some (.int a1), some (.int a2), some (.int a3), some (.int a4), none, none] [] h (QI o)) : Wq g l mX10_best 0 0 22 [some (va_rf (some a0)), some (.int a1), some (.int a2), some (.int a3), some (.int a4), none, none] [] h (QI o) := by
  unfold b_X10_best_22 at hB
  refine q_iload dX10_best_22 rfl ?_
  refine q_aload_n dX10_best_24 rfl rfl ?_
  refine q_iconst (v := 0) dX10_best_25 (by decide) ?_
  refine q_callVI (k' := 0) (w' := 0) hB (fun b a hf => c_X10_many g l b _ _ a hf) rfl rfl dX10_best_26 wd_867 cs_X10_many wd_869 wd_23 rfl ⟨⟨Nat.le_of_ble_eq_true rfl, Nat.le_of_ble_eq_true rfl⟩, ⟨Nat.le_of_ble_eq_true rfl, Nat.le_of_ble_eq_true rfl⟩, by simp [rf_cat, cat_i, cat_l]⟩ rfl rfl (fun n2 r1 hB => ?_)
  refine q_icmp_ge (tgt := 104) hB dX10_best_29 (by decide) (fun hB => ?_) (fun hB => ?_)
  · refine q_iload_n dX10_best_104 rfl rfl ?_
    refine q_if_ne (tgt := 112) hB dX10_best_105 (by decide) (fun hB => ?_) (fun hB => ?_)
    · refine q_iload_n dX10_best_112 rfl rfl ?_
      exact Wq.mask [false, false, false, false, false, false, false] rfl (wb_X10_best_113 g l _ _ o hB)
    · refine q_iload_n dX10_best_108 rfl rfl ?_
      refine q_goto (tgt := 113) dX10_best_109 (by decide) ?_
      exact Wq.mask [false, false, false, false, false, false, false] rfl (wb_X10_best_113 g l _ _ o hB)
  · refine q_aload_n dX10_best_32 rfl rfl ?_
    refine q_callVV (k' := 0) (w' := 0) hB (fun b a hf => c_X10_layTrial g l b _ a hf) rfl rfl dX10_best_33 wd_992 cs_X10_layTrial wd_994 wd_39 rfl ⟨⟨Nat.le_of_ble_eq_true rfl, Nat.le_of_ble_eq_true rfl⟩, ⟨Nat.le_of_ble_eq_true rfl, Nat.le_of_ble_eq_true rfl⟩, Nat.le_of_ble_eq_true rfl⟩ rfl rfl (fun n4 r3 hB => ?_)
    refine q_aload_n dX10_best_36 rfl rfl ?_
    refine q_iconst (v := 1) dX10_best_37 (by decide) ?_
    refine q_iload dX10_best_38 rfl ?_
    refine q_callVV (k' := 0) (w' := 0) hB (fun b a hf => c_X10_dropOn g l b _ _ _ a hf) rfl rfl dX10_best_40 wd_932 cs_X10_dropOn wd_934 wd_33 rfl ⟨⟨Nat.le_of_ble_eq_true rfl, Nat.le_of_ble_eq_true rfl⟩, ⟨Nat.le_of_ble_eq_true rfl, Nat.le_of_ble_eq_true rfl⟩, Nat.le_of_ble_eq_true rfl⟩ rfl rfl (fun n6 r5 hB => ?_)
    refine q_aload_n dX10_best_43 rfl rfl ?_
    refine q_iconst (v := 1) dX10_best_44 (by decide) ?_
    refine q_aload_n dX10_best_45 rfl rfl ?_
    refine q_iconst (v := 1) dX10_best_46 (by decide) ?_
    refine q_callVI (k' := 0) (w' := 0) hB (fun b a hf => c_X10_allOf g l b _ _ a hf) rfl rfl dX10_best_47 wd_984 cs_X10_allOf wd_986 wd_38 rfl ⟨⟨Nat.le_of_ble_eq_true rfl, Nat.le_of_ble_eq_true rfl⟩, ⟨Nat.le_of_ble_eq_true rfl, Nat.le_of_ble_eq_true rfl⟩, by simp [rf_cat, cat_i, cat_l]⟩ rfl rfl (fun n8 r7 hB => ?_)
    refine q_callVI (k' := 0) (w' := 0) hB (fun b a hf => c_X10_measureOf g l b _ _ _ a hf) rfl rfl dX10_best_50 wd_883 cs_X10_measureOf wd_885 wd_27 rfl ⟨⟨Nat.le_of_ble_eq_true rfl, Nat.le_of_ble_eq_true rfl⟩, ⟨Nat.le_of_ble_eq_true rfl, Nat.le_of_ble_eq_true rfl⟩, Nat.le_of_ble_eq_true rfl⟩ rfl rfl (fun n10 r9 hB => ?_)
    refine q_istore dX10_best_53 (by decide) (nb_i (j := 4) rfl) ?_
    refine q_iload_n dX10_best_55 rfl rfl ?_
    refine q_bipush (v := -9) dX10_best_56 (by decide) ?_
    refine q_icmp_eq (tgt := 67) hB dX10_best_58 (by decide) (fun hB => ?_) (fun hB => ?_)
    · exact Wq.mask [true, true, true, true, true, true, false] rfl (wb_X10_best_67 g l k22 _ _ _ _ _ _ _ o hB hk22)
    · refine q_iload dX10_best_61 rfl ?_
      refine q_iload_n dX10_best_63 rfl rfl ?_
      refine q_icmp_le (tgt := 71) hB dX10_best_64 (by decide) (fun hB => ?_) (fun hB => ?_)
      · refine q_iconst (v := 0) dX10_best_71 (by decide) ?_
        exact Wq.mask [true, true, true, true, true, true, false] rfl (wb_X10_best_72 g l k22 _ _ _ _ _ _ _ _ o hB hk22)
      · exact Wq.mask [true, true, true, true, true, true, false] rfl (wb_X10_best_67 g l k22 _ _ _ _ _ _ _ o hB hk22)
set_option maxHeartbeats 4000000 in
theorem wl_X10_best_22 (g : GG) (l : Launch) (o : Int32 × HS) : ∀ (n : Nat) (a0 : Nat) (a1 : Int32) (a2 : Int32) (a3 : Int32) (a4 : Int32) (h : HS), l_X10_best_22 n a0 a1 a2 a3 a4 h = some o → Wq g l mX10_best 0 0 22 [some (va_rf (some a0)), some (.int a1), some (.int a2), some (.int a3), some (.int a4), none, none] [] h (QI o) := by
  intro n
  induction n with
  | zero =>
    intro a0 a1 a2 a3 a4  h hB
    have q : (none : Option (Int32 × HS)) = some o := hB
    cases q
  | succ n ih =>
    intro a0 a1 a2 a3 a4  h hB
    exact wb_X10_best_22 g l (l_X10_best_22 n) a0 a1 a2 a3 a4 h o hB ih
set_option maxHeartbeats 4000000 in
set_option maxRecDepth 100000 in
theorem c_X10_best (g : GG) (l : Launch) (a0 : Nat) (a1 : Int32) (h : HS) (o : Int32 × HS) (hB : f_X10_best a0 a1 h = some o) : Ct g l mX10_best [va_rf (some a0), .int a1] h (QI o) := by
  refine Ct.of2 (lv0 := [some (va_rf (some a0)), some (.int a1), none, none, none, none, none]) (by decide +kernel) (by simp [lg_sl, rf_cat, cat_i, cat_l]) rfl ?_
  unfold f_X10_best at hB
  refine q_iload_n dX10_best_0 rfl rfl ?_
  refine q_i2l dX10_best_1 ?_
  refine q_lconst (v := 0) dX10_best_2 (by decide) ?_
  refine q_lconst (v := 1) dX10_best_3 (by decide) ?_
  refine q_callSI (k' := 0) (w' := 0) hB (fun a hf => c_X10_in g l _ _ _ _ a hf) rfl dX10_best_4 wd_825 cs_X10_in wd_826 rfl ⟨⟨Nat.le_of_ble_eq_true rfl, Nat.le_of_ble_eq_true rfl⟩, ⟨Nat.le_of_ble_eq_true rfl, Nat.le_of_ble_eq_true rfl⟩, Nat.le_of_ble_eq_true rfl⟩ rfl rfl (fun r1 hB => ?_)
  refine q_if_ne (tgt := 13) hB dX10_best_7 (by decide) (fun hB => ?_) (fun hB => ?_)
  · refine q_bipush (v := -9) dX10_best_13 (by decide) ?_
    refine q_istore_n dX10_best_15 rfl (by decide) (nb_i (j := 1) rfl) ?_
    refine q_bipush (v := -9) dX10_best_16 (by decide) ?_
    refine q_istore_n dX10_best_18 rfl (by decide) (nb_i (j := 2) rfl) ?_
    refine q_iconst (v := 0) dX10_best_19 (by decide) ?_
    refine q_istore dX10_best_20 (by decide) (nb_i (j := 3) rfl) ?_
    exact Wq.mask [true, true, true, true, true, false, false] rfl (wl_X10_best_22 g l o FU _ _ _ _ _ _ hB)
  · refine q_bipush (v := -2) dX10_best_10 (by decide) ?_
    exact q_iret hB dX10_best_12 rfl (by decide) (by decide)

def b_X9_addToTrial_41  (a4 : Int32) (h : HS) : Option (Int32 × HS) :=
  gd (decide (narrow .boolean (.int a4) = .int a4)) (some (a4, h))
def b_X9_addToTrial_24  (a0 : Nat) (a1 : Int32) (a2 : Int32) (a3 : Int32) (s0 : Int32) (h : HS) : Option (Int32 × HS) :=
  (if s0 = 0 then b_X9_addToTrial_41 s0 h else nn (some a0) (fun n1 => gd (ck h n1 7) (nn (hP h n1 4) (fun n3 => gd (rk h n3 3) (bd (f_X3_append n3 a1 a2 a3 h) (fun r2 => b_X9_addToTrial_41 s0 r2.2))))))
def b_X9_addToTrial_23  (a0 : Nat) (a1 : Int32) (a2 : Int32) (a3 : Int32) (h : HS) : Option (Int32 × HS) :=
  b_X9_addToTrial_24 a0 a1 a2 a3 (0 : Int32) h
def f_X9_addToTrial  (a0 : Nat) (a1 : Int32) (a2 : Int32) (a3 : Int32) (h : HS) : Option (Int32 × HS) :=
  bd (f_X9_isEntry a1 a2 a3 h) (fun r1 => (if r1.1 = 0 then b_X9_addToTrial_23 a0 a1 a2 a3 r1.2 else nn (some a0) (fun n2 => gd (ck r1.2 n2 7) (nn (hP r1.2 n2 4) (fun n4 => gd (rk r1.2 n4 3) (bd (f_X3_hasRoom n4 r1.2) (fun r3 => (if r3.1 = 0 then b_X9_addToTrial_23 a0 a1 a2 a3 r3.2 else b_X9_addToTrial_24 a0 a1 a2 a3 (1 : Int32) r3.2))))))))
set_option maxHeartbeats 4000000 in
set_option maxRecDepth 100000 in
theorem wb_X9_addToTrial_41 (g : GG) (l : Launch) (a4 : Int32) (h : HS) (o : Int32 × HS) (hB : b_X9_addToTrial_41 a4 h = some o) : Wq g l mX9_addToTrial 0 0 41 [none, none, none, none, some (.int a4)] [] h (QI o) := by
  unfold b_X9_addToTrial_41 at hB
  refine q_iload dX9_addToTrial_41 rfl ?_
  exact q_zret hB dX9_addToTrial_43 rfl (by decide) (by decide)
set_option maxHeartbeats 4000000 in
set_option maxRecDepth 100000 in
theorem wb_X9_addToTrial_24 (g : GG) (l : Launch) (a0 : Nat) (a1 : Int32) (a2 : Int32) (a3 : Int32) (s0 : Int32) (h : HS) (o : Int32 × HS) (hB : b_X9_addToTrial_24 a0 a1 a2 a3 s0 h = some o) : Wq g l mX9_addToTrial 0 0 24 [some (va_rf (some a0)), some (.int a1), some (.int a2), some (.int a3), none] [.int s0] h (QI o) := by
  unfold b_X9_addToTrial_24 at hB
  refine q_istore dX9_addToTrial_24 (by decide) (nb_i (j := 3) rfl) ?_
  refine q_iload dX9_addToTrial_26 rfl ?_
  refine q_if_eq (tgt := 41) hB dX9_addToTrial_28 (by decide) (fun hB => ?_) (fun hB => ?_)
  · exact Wq.mask [false, false, false, false, true] rfl (wb_X9_addToTrial_41 g l _ _ o hB)
  · refine q_aload_n dX9_addToTrial_31 rfl rfl ?_
    refine q_getP (j := 4) hB dX9_addToTrial_32 fc_7 (by decide) rfl wd_244 (fun n1 hB => ?_)
    refine q_iload_n dX9_addToTrial_35 rfl rfl ?_
    refine q_iload_n dX9_addToTrial_36 rfl rfl ?_
    refine q_iload_n dX9_addToTrial_37 rfl rfl ?_
    refine q_callVV (k' := 0) (w' := 0) hB (fun b a hf => c_X3_append g l b _ _ _ _ a hf) rfl rfl dX9_addToTrial_38 wd_477 cs_X3_append wd_478 wd_479 rfl ⟨⟨Nat.le_of_ble_eq_true rfl, Nat.le_of_ble_eq_true rfl⟩, ⟨Nat.le_of_ble_eq_true rfl, Nat.le_of_ble_eq_true rfl⟩, Nat.le_of_ble_eq_true rfl⟩ rfl rfl (fun n3 r2 hB => ?_)
    exact Wq.mask [false, false, false, false, true] rfl (wb_X9_addToTrial_41 g l _ _ o hB)
set_option maxHeartbeats 4000000 in
set_option maxRecDepth 100000 in
theorem wb_X9_addToTrial_23 (g : GG) (l : Launch) (a0 : Nat) (a1 : Int32) (a2 : Int32) (a3 : Int32) (h : HS) (o : Int32 × HS) (hB : b_X9_addToTrial_23 a0 a1 a2 a3 h = some o) : Wq g l mX9_addToTrial 0 0 23 [some (va_rf (some a0)), some (.int a1), some (.int a2), some (.int a3), none] [] h (QI o) := by
  unfold b_X9_addToTrial_23 at hB
  refine q_iconst (v := 0) dX9_addToTrial_23 (by decide) ?_
  exact Wq.mask [true, true, true, true, false] rfl (wb_X9_addToTrial_24 g l _ _ _ _ _ _ o hB)
set_option maxHeartbeats 4000000 in
set_option maxRecDepth 100000 in
theorem c_X9_addToTrial (g : GG) (l : Launch) (a0 : Nat) (a1 : Int32) (a2 : Int32) (a3 : Int32) (h : HS) (o : Int32 × HS) (hB : f_X9_addToTrial a0 a1 a2 a3 h = some o) : Ct g l mX9_addToTrial [va_rf (some a0), .int a1, .int a2, .int a3] h (QI o) := by
  refine Ct.of2 (lv0 := [some (va_rf (some a0)), some (.int a1), some (.int a2), some (.int a3), none]) (by decide +kernel) (by simp [lg_sl, rf_cat, cat_i, cat_l]) rfl ?_
  unfold f_X9_addToTrial at hB
  refine q_iload_n dX9_addToTrial_0 rfl rfl ?_
  refine q_iload_n dX9_addToTrial_1 rfl rfl ?_
  refine q_iload_n dX9_addToTrial_2 rfl rfl ?_
  refine q_callSI (k' := 0) (w' := 0) hB (fun a hf => c_X9_isEntry g l _ _ _ _ a hf) rfl dX9_addToTrial_3 wd_459 cs_X9_isEntry wd_460 rfl ⟨⟨Nat.le_of_ble_eq_true rfl, Nat.le_of_ble_eq_true rfl⟩, ⟨Nat.le_of_ble_eq_true rfl, Nat.le_of_ble_eq_true rfl⟩, Nat.le_of_ble_eq_true rfl⟩ rfl rfl (fun r1 hB => ?_)
  refine q_if_eq (tgt := 23) hB dX9_addToTrial_6 (by decide) (fun hB => ?_) (fun hB => ?_)
  · exact Wq.mask [true, true, true, true, false] rfl (wb_X9_addToTrial_23 g l _ _ _ _ _ o hB)
  · refine q_aload_n dX9_addToTrial_9 rfl rfl ?_
    refine q_getP (j := 4) hB dX9_addToTrial_10 fc_7 (by decide) rfl wd_244 (fun n2 hB => ?_)
    refine q_callVI (k' := 0) (w' := 0) hB (fun b a hf => c_X3_hasRoom g l b _ a hf) rfl rfl dX9_addToTrial_13 wd_465 cs_X3_hasRoom wd_466 wd_467 rfl ⟨⟨Nat.le_of_ble_eq_true rfl, Nat.le_of_ble_eq_true rfl⟩, ⟨Nat.le_of_ble_eq_true rfl, Nat.le_of_ble_eq_true rfl⟩, Nat.le_of_ble_eq_true rfl⟩ rfl rfl (fun n4 r3 hB => ?_)
    refine q_if_eq (tgt := 23) hB dX9_addToTrial_16 (by decide) (fun hB => ?_) (fun hB => ?_)
    · exact Wq.mask [true, true, true, true, false] rfl (wb_X9_addToTrial_23 g l _ _ _ _ _ o hB)
    · refine q_iconst (v := 1) dX9_addToTrial_19 (by decide) ?_
      refine q_goto (tgt := 24) dX9_addToTrial_20 (by decide) ?_
      exact Wq.mask [true, true, true, true, false] rfl (wb_X9_addToTrial_24 g l _ _ _ _ _ _ o hB)

def b_X9_dropFromTrial_21  (a2 : Int32) (h : HS) : Option (Int32 × HS) :=
  gd (decide (narrow .boolean (.int a2) = .int a2)) (some (a2, h))
def f_X9_dropFromTrial  (a0 : Nat) (a1 : Int32) (h : HS) : Option (Int32 × HS) :=
  nn (some a0) (fun n1 => gd (ck h n1 7) (nn (hP h n1 4) (fun n3 => gd (rk h n3 3) (bd (f_X3_has n3 a1 h) (fun r2 => (if r2.1 = 0 then b_X9_dropFromTrial_21 r2.1 r2.2 else nn (some a0) (fun n4 => gd (ck r2.2 n4 7) (nn (hP r2.2 n4 4) (fun n6 => gd (rk r2.2 n6 3) (bd (f_X3_remove n6 a1 r2.2) (fun r5 => b_X9_dropFromTrial_21 r2.1 r5.2)))))))))))
set_option maxHeartbeats 4000000 in
set_option maxRecDepth 100000 in
theorem wb_X9_dropFromTrial_21 (g : GG) (l : Launch) (a2 : Int32) (h : HS) (o : Int32 × HS) (hB : b_X9_dropFromTrial_21 a2 h = some o) : Wq g l mX9_dropFromTrial 0 0 21 [none, none, some (.int a2)] [] h (QI o) := by
  unfold b_X9_dropFromTrial_21 at hB
  refine q_iload_n dX9_dropFromTrial_21 rfl rfl ?_
  exact q_zret hB dX9_dropFromTrial_22 rfl (by decide) (by decide)
set_option maxHeartbeats 4000000 in
set_option maxRecDepth 100000 in
theorem c_X9_dropFromTrial (g : GG) (l : Launch) (a0 : Nat) (a1 : Int32) (h : HS) (o : Int32 × HS) (hB : f_X9_dropFromTrial a0 a1 h = some o) : Ct g l mX9_dropFromTrial [va_rf (some a0), .int a1] h (QI o) := by
  refine Ct.of2 (lv0 := [some (va_rf (some a0)), some (.int a1), none]) (by decide +kernel) (by simp [lg_sl, rf_cat, cat_i, cat_l]) rfl ?_
  unfold f_X9_dropFromTrial at hB
  refine q_aload_n dX9_dropFromTrial_0 rfl rfl ?_
  refine q_getP (j := 4) hB dX9_dropFromTrial_1 fc_7 (by decide) rfl wd_244 (fun n1 hB => ?_)
  refine q_iload_n dX9_dropFromTrial_4 rfl rfl ?_
  refine q_callVI (k' := 0) (w' := 0) hB (fun b a hf => c_X3_has g l b _ _ a hf) rfl rfl dX9_dropFromTrial_5 wd_497 cs_X3_has wd_498 wd_499 rfl ⟨⟨Nat.le_of_ble_eq_true rfl, Nat.le_of_ble_eq_true rfl⟩, ⟨Nat.le_of_ble_eq_true rfl, Nat.le_of_ble_eq_true rfl⟩, Nat.le_of_ble_eq_true rfl⟩ rfl rfl (fun n3 r2 hB => ?_)
  refine q_istore_n dX9_dropFromTrial_8 rfl (by decide) (nb_i (j := 1) rfl) ?_
  refine q_iload_n dX9_dropFromTrial_9 rfl rfl ?_
  refine q_if_eq (tgt := 21) hB dX9_dropFromTrial_10 (by decide) (fun hB => ?_) (fun hB => ?_)
  · exact Wq.mask [false, false, true] rfl (wb_X9_dropFromTrial_21 g l _ _ o hB)
  · refine q_aload_n dX9_dropFromTrial_13 rfl rfl ?_
    refine q_getP (j := 4) hB dX9_dropFromTrial_14 fc_7 (by decide) rfl wd_244 (fun n4 hB => ?_)
    refine q_iload_n dX9_dropFromTrial_17 rfl rfl ?_
    refine q_callVV (k' := 0) (w' := 0) hB (fun b a hf => c_X3_remove g l b _ _ a hf) rfl rfl dX9_dropFromTrial_18 wd_501 cs_X3_remove wd_502 wd_503 rfl ⟨⟨Nat.le_of_ble_eq_true rfl, Nat.le_of_ble_eq_true rfl⟩, ⟨Nat.le_of_ble_eq_true rfl, Nat.le_of_ble_eq_true rfl⟩, Nat.le_of_ble_eq_true rfl⟩ rfl rfl (fun n6 r5 hB => ?_)
    exact Wq.mask [false, false, true] rfl (wb_X9_dropFromTrial_21 g l _ _ o hB)

def b_X9_changeInTrial_23  (a3 : Int32) (h : HS) : Option (Int32 × HS) :=
  gd (decide (narrow .boolean (.int a3) = .int a3)) (some (a3, h))
def f_X9_changeInTrial  (a0 : Nat) (a1 : Int32) (a2 : Int32) (h : HS) : Option (Int32 × HS) :=
  nn (some a0) (fun n1 => gd (ck h n1 7) (nn (hP h n1 4) (fun n3 => gd (rk h n3 3) (bd (f_X3_has n3 a1 h) (fun r2 => (if r2.1 = 0 then b_X9_changeInTrial_23 r2.1 r2.2 else nn (some a0) (fun n4 => gd (ck r2.2 n4 7) (nn (hP r2.2 n4 4) (fun n5 => gd (ck r2.2 n5 3) (nn (hP r2.2 n5 2) (fun n6 => gd (ca r2.2 n6 9 a1) (b_X9_changeInTrial_23 r2.1 (sI r2.2 n6 a1.toNatClampNeg a2)))))))))))))
set_option maxHeartbeats 4000000 in
set_option maxRecDepth 100000 in
theorem wb_X9_changeInTrial_23 (g : GG) (l : Launch) (a3 : Int32) (h : HS) (o : Int32 × HS) (hB : b_X9_changeInTrial_23 a3 h = some o) : Wq g l mX9_changeInTrial 0 0 23 [none, none, none, some (.int a3)] [] h (QI o) := by
  unfold b_X9_changeInTrial_23 at hB
  refine q_iload_n dX9_changeInTrial_23 rfl rfl ?_
  exact q_zret hB dX9_changeInTrial_24 rfl (by decide) (by decide)
set_option maxHeartbeats 4000000 in
set_option maxRecDepth 100000 in
theorem c_X9_changeInTrial (g : GG) (l : Launch) (a0 : Nat) (a1 : Int32) (a2 : Int32) (h : HS) (o : Int32 × HS) (hB : f_X9_changeInTrial a0 a1 a2 h = some o) : Ct g l mX9_changeInTrial [va_rf (some a0), .int a1, .int a2] h (QI o) := by
  refine Ct.of2 (lv0 := [some (va_rf (some a0)), some (.int a1), some (.int a2), none]) (by decide +kernel) (by simp [lg_sl, rf_cat, cat_i, cat_l]) rfl ?_
  unfold f_X9_changeInTrial at hB
  refine q_aload_n dX9_changeInTrial_0 rfl rfl ?_
  refine q_getP (j := 4) hB dX9_changeInTrial_1 fc_7 (by decide) rfl wd_244 (fun n1 hB => ?_)
  refine q_iload_n dX9_changeInTrial_4 rfl rfl ?_
  refine q_callVI (k' := 0) (w' := 0) hB (fun b a hf => c_X3_has g l b _ _ a hf) rfl rfl dX9_changeInTrial_5 wd_497 cs_X3_has wd_498 wd_499 rfl ⟨⟨Nat.le_of_ble_eq_true rfl, Nat.le_of_ble_eq_true rfl⟩, ⟨Nat.le_of_ble_eq_true rfl, Nat.le_of_ble_eq_true rfl⟩, Nat.le_of_ble_eq_true rfl⟩ rfl rfl (fun n3 r2 hB => ?_)
  refine q_istore_n dX9_changeInTrial_8 rfl (by decide) (nb_i (j := 2) rfl) ?_
  refine q_iload_n dX9_changeInTrial_9 rfl rfl ?_
  refine q_if_eq (tgt := 23) hB dX9_changeInTrial_10 (by decide) (fun hB => ?_) (fun hB => ?_)
  · exact Wq.mask [false, false, false, true] rfl (wb_X9_changeInTrial_23 g l _ _ o hB)
  · refine q_aload_n dX9_changeInTrial_13 rfl rfl ?_
    refine q_getP (j := 4) hB dX9_changeInTrial_14 fc_7 (by decide) rfl wd_244 (fun n4 hB => ?_)
    refine q_getP (j := 2) hB dX9_changeInTrial_17 fc_3 (by decide) rfl wd_144 (fun n5 hB => ?_)
    refine q_iload_n dX9_changeInTrial_20 rfl rfl ?_
    refine q_iload_n dX9_changeInTrial_21 rfl rfl ?_
    refine q_iast hB dX9_changeInTrial_22 (fun n6 hB => ?_)
    exact Wq.mask [false, false, false, true] rfl (wb_X9_changeInTrial_23 g l _ _ o hB)

def b_X9_stands_72  (a0 : Nat) (a2 : Int32) (a3 : Int32) (a4 : Int32) (h : HS) : Option (Int32 × HS) :=
  nn (some a0) (fun n2 => gd (rk h n2 7) (bd (f_X9_addToTrial n2 a2 a3 ((11 : Int32) * a4) h) (fun r1 => gd (decide (narrow .boolean (.int r1.1) = .int r1.1)) (some (r1.1, r1.2)))))
def b_X9_stands_102  (s0 : Int32) (h : HS) : Option (Int32 × HS) :=
  gd (decide (narrow .boolean (.int s0) = .int s0)) (some (s0, h))
def b_X9_stands_101  (h : HS) : Option (Int32 × HS) :=
  b_X9_stands_102 (0 : Int32) h
def b_X9_stands_84  (a0 : Nat) (a2 : Int32) (a5 : Int32) (h : HS) : Option (Int32 × HS) :=
  (if a2 = 0 then nn (some a0) (fun n2 => gd (rk h n2 7) (bd (f_X9_dropFromTrial n2 a5 h) (fun r1 => (if r1.1 = 0 then b_X9_stands_101 r1.2 else b_X9_stands_102 (1 : Int32) r1.2)))) else b_X9_stands_101 h)
def b_X9_stands_103  (a0 : Nat) (a2 : Int32) (a5 : Int32) (h : HS) : Option (Int32 × HS) :=
  nn (some a0) (fun n2 => gd (rk h n2 7) (bd (f_X9_changeInTrial n2 a5 ((11 : Int32) * a2) h) (fun r1 => gd (decide (narrow .boolean (.int r1.1) = .int r1.1)) (some (r1.1, r1.2)))))
def b_X9_stands_143  (s0 : Int32) (h : HS) : Option (Int32 × HS) :=
  gd (decide (narrow .boolean (.int s0) = .int s0)) (some (s0, h))
def b_X9_stands_142  (h : HS) : Option (Int32 × HS) :=
  b_X9_stands_143 (0 : Int32) h
def b_X9_stands_114  (a0 : Nat) (a2 : Int32) (a3 : Int32) (a4 : Int32) (h : HS) : Option (Int32 × HS) :=
  (if a2 = 0 then (if a3 = 0 then nn (some a0) (fun n1 => gd (ck h n1 7) (nn (some a0) (fun n3 => gd (rk h n3 7) (bd (f_X9_rowsOf n3 (hP h n1 4) h) (fun r2 => nn r2.1 (fun n4 => gd (ck r2.2 n4 2) ((if (hI r2.2 n4 3) < a4 then b_X9_stands_142 r2.2 else b_X9_stands_143 (1 : Int32) r2.2)))))))) else b_X9_stands_142 h) else b_X9_stands_142 h)
def b_X9_stands_172  (s0 : Int32) (h : HS) : Option (Int32 × HS) :=
  gd (decide (narrow .boolean (.int s0) = .int s0)) (some (s0, h))
def b_X9_stands_144  (a0 : Nat) (a2 : Int32) (a3 : Int32) (a4 : Int32) (h : HS) : Option (Int32 × HS) :=
  nn (some a0) (fun n1 => gd (ck h n1 7) (nn (some a0) (fun n2 => gd (ck h n2 7) (nn (some a0) (fun n4 => gd (rk h n4 7) (bd (f_X9_cellOf n4 (hP h n2 4) a2 a3 h) (fun r3 => nn (some a0) (fun n6 => gd (rk r3.2 n6 7) (bd (f_X9_measureOf n6 (hP h n1 4) r3.1 r3.2) (fun r5 => (if r5.1 < a4 then b_X9_stands_172 (0 : Int32) r5.2 else b_X9_stands_172 (1 : Int32) r5.2)))))))))))
def b_X9_stands_195  (s0 : Int32) (h : HS) : Option (Int32 × HS) :=
  gd (decide (narrow .boolean (.int s0) = .int s0)) (some (s0, h))
def b_X9_stands_194  (h : HS) : Option (Int32 × HS) :=
  b_X9_stands_195 (0 : Int32) h
def b_X9_stands_173  (a0 : Nat) (a2 : Int32) (a5 : Int32) (h : HS) : Option (Int32 × HS) :=
  (if a2 = 0 then nn (some a0) (fun n1 => gd (ck h n1 7) (nn (some a0) (fun n3 => gd (rk h n3 7) (bd (f_X9_totalOf n3 (hP h n1 4) h) (fun r2 => (if r2.1 < a5 then b_X9_stands_194 r2.2 else b_X9_stands_195 (1 : Int32) r2.2)))))) else b_X9_stands_194 h)
def b_X9_stands_196  (h : HS) : Option (Int32 × HS) :=
  gd (decide (narrow .boolean (.int (0 : Int32)) = .int (0 : Int32))) (some ((0 : Int32), h))
def f_X9_stands  (a0 : Nat) (a1 : Int32) (h : HS) : Option (Int32 × HS) :=
  gd (decide (¬ (100 : Int32) = 0)) (gd (decide (¬ (10 : Int32) = 0)) (gd (decide (¬ (10 : Int32) = 0)) (gd (decide (¬ (10 : Int32) = 0)) (gd (decide (¬ (10 : Int32) = 0)) (gd (decide (¬ (100 : Int32) = 0)) (gd (decide (¬ (1000 : Int32) = 0)) (swT (a1 / (1000 : Int32)) 1 [b_X9_stands_72 a0 ((a1 / (100 : Int32)) - (a1 / (100 : Int32)) / (10 : Int32) * (10 : Int32)) ((a1 / (10 : Int32)) - (a1 / (10 : Int32)) / (10 : Int32) * (10 : Int32)) (a1 - a1 / (10 : Int32) * (10 : Int32)) h, b_X9_stands_84 a0 ((a1 / (100 : Int32)) - (a1 / (100 : Int32)) / (10 : Int32) * (10 : Int32)) (a1 - a1 / (100 : Int32) * (100 : Int32)) h, b_X9_stands_103 a0 ((a1 / (100 : Int32)) - (a1 / (100 : Int32)) / (10 : Int32) * (10 : Int32)) (a1 - a1 / (100 : Int32) * (100 : Int32)) h, b_X9_stands_114 a0 ((a1 / (100 : Int32)) - (a1 / (100 : Int32)) / (10 : Int32) * (10 : Int32)) ((a1 / (10 : Int32)) - (a1 / (10 : Int32)) / (10 : Int32) * (10 : Int32)) (a1 - a1 / (10 : Int32) * (10 : Int32)) h, b_X9_stands_144 a0 ((a1 / (100 : Int32)) - (a1 / (100 : Int32)) / (10 : Int32) * (10 : Int32)) ((a1 / (10 : Int32)) - (a1 / (10 : Int32)) / (10 : Int32) * (10 : Int32)) (a1 - a1 / (10 : Int32) * (10 : Int32)) h, b_X9_stands_173 a0 ((a1 / (100 : Int32)) - (a1 / (100 : Int32)) / (10 : Int32) * (10 : Int32)) (a1 - a1 / (100 : Int32) * (100 : Int32)) h] (b_X9_stands_196 h))))))))
set_option maxHeartbeats 4000000 in
set_option maxRecDepth 100000 in
theorem wb_X9_stands_72 (g : GG) (l : Launch) (a0 : Nat) (a2 : Int32) (a3 : Int32) (a4 : Int32) (h : HS) (o : Int32 × HS) (hB : b_X9_stands_72 a0 a2 a3 a4 h = some o) : Wq g l mX9_stands 0 0 72 [some (va_rf (some a0)), none, some (.int a2), some (.int a3), some (.int a4), none] [] h (QI o) := by
  unfold b_X9_stands_72 at hB
  refine q_aload_n dX9_stands_72 rfl rfl ?_
  refine q_iload_n dX9_stands_73 rfl rfl ?_
  refine q_iload_n dX9_stands_74 rfl rfl ?_
  refine q_bipush (v := 11) dX9_stands_75 (by decide) ?_
  refine q_iload dX9_stands_77 rfl ?_
  refine q_imul dX9_stands_79 ?_
  refine q_callVI (k' := 0) (w' := 0) hB (fun b a hf => c_X9_addToTrial g l b _ _ _ _ a hf) rfl rfl dX9_stands_80 wd_614 cs_X9_addToTrial wd_616 wd_13 rfl ⟨⟨Nat.le_of_ble_eq_true rfl, Nat.le_of_ble_eq_true rfl⟩, ⟨Nat.le_of_ble_eq_true rfl, Nat.le_of_ble_eq_true rfl⟩, Nat.le_of_ble_eq_true rfl⟩ rfl rfl (fun n2 r1 hB => ?_)
  exact q_zret hB dX9_stands_83 rfl (by decide) (by decide)
set_option maxHeartbeats 4000000 in
set_option maxRecDepth 100000 in
theorem wb_X9_stands_102 (g : GG) (l : Launch) (s0 : Int32) (h : HS) (o : Int32 × HS) (hB : b_X9_stands_102 s0 h = some o) : Wq g l mX9_stands 0 0 102 [none, none, none, none, none, none] [.int s0] h (QI o) := by
  unfold b_X9_stands_102 at hB
  exact q_zret hB dX9_stands_102 rfl (by decide) (by decide)
set_option maxHeartbeats 4000000 in
set_option maxRecDepth 100000 in
theorem wb_X9_stands_101 (g : GG) (l : Launch) (h : HS) (o : Int32 × HS) (hB : b_X9_stands_101  h = some o) : Wq g l mX9_stands 0 0 101 [none, none, none, none, none, none] [] h (QI o) := by
  unfold b_X9_stands_101 at hB
  refine q_iconst (v := 0) dX9_stands_101 (by decide) ?_
  exact Wq.mask [false, false, false, false, false, false] rfl (wb_X9_stands_102 g l _ _ o hB)
set_option maxHeartbeats 4000000 in
set_option maxRecDepth 100000 in
theorem wb_X9_stands_84 (g : GG) (l : Launch) (a0 : Nat) (a2 : Int32) (a5 : Int32) (h : HS) (o : Int32 × HS) (hB : b_X9_stands_84 a0 a2 a5 h = some o) : Wq g l mX9_stands 0 0 84 [some (va_rf (some a0)), none, some (.int a2), none, none, some (.int a5)] [] h (QI o) := by
  unfold b_X9_stands_84 at hB
  refine q_iload_n dX9_stands_84 rfl rfl ?_
  refine q_if_ne (tgt := 101) hB dX9_stands_85 (by decide) (fun hB => ?_) (fun hB => ?_)
  · exact Wq.mask [false, false, false, false, false, false] rfl (wb_X9_stands_101 g l _ o hB)
  · refine q_aload_n dX9_stands_88 rfl rfl ?_
    refine q_iload dX9_stands_89 rfl ?_
    refine q_callVI (k' := 0) (w' := 0) hB (fun b a hf => c_X9_dropFromTrial g l b _ _ a hf) rfl rfl dX9_stands_91 wd_618 cs_X9_dropFromTrial wd_620 wd_14 rfl ⟨⟨Nat.le_of_ble_eq_true rfl, Nat.le_of_ble_eq_true rfl⟩, ⟨Nat.le_of_ble_eq_true rfl, Nat.le_of_ble_eq_true rfl⟩, Nat.le_of_ble_eq_true rfl⟩ rfl rfl (fun n2 r1 hB => ?_)
    refine q_if_eq (tgt := 101) hB dX9_stands_94 (by decide) (fun hB => ?_) (fun hB => ?_)
    · exact Wq.mask [false, false, false, false, false, false] rfl (wb_X9_stands_101 g l _ o hB)
    · refine q_iconst (v := 1) dX9_stands_97 (by decide) ?_
      refine q_goto (tgt := 102) dX9_stands_98 (by decide) ?_
      exact Wq.mask [false, false, false, false, false, false] rfl (wb_X9_stands_102 g l _ _ o hB)
set_option maxHeartbeats 4000000 in
set_option maxRecDepth 100000 in
theorem wb_X9_stands_103 (g : GG) (l : Launch) (a0 : Nat) (a2 : Int32) (a5 : Int32) (h : HS) (o : Int32 × HS) (hB : b_X9_stands_103 a0 a2 a5 h = some o) : Wq g l mX9_stands 0 0 103 [some (va_rf (some a0)), none, some (.int a2), none, none, some (.int a5)] [] h (QI o) := by
  unfold b_X9_stands_103 at hB
  refine q_aload_n dX9_stands_103 rfl rfl ?_
  refine q_iload dX9_stands_104 rfl ?_
  refine q_bipush (v := 11) dX9_stands_106 (by decide) ?_
  refine q_iload_n dX9_stands_108 rfl rfl ?_
  refine q_imul dX9_stands_109 ?_
  refine q_callVI (k' := 0) (w' := 0) hB (fun b a hf => c_X9_changeInTrial g l b _ _ _ a hf) rfl rfl dX9_stands_110 wd_622 cs_X9_changeInTrial wd_624 wd_15 rfl ⟨⟨Nat.le_of_ble_eq_true rfl, Nat.le_of_ble_eq_true rfl⟩, ⟨Nat.le_of_ble_eq_true rfl, Nat.le_of_ble_eq_true rfl⟩, Nat.le_of_ble_eq_true rfl⟩ rfl rfl (fun n2 r1 hB => ?_)
  exact q_zret hB dX9_stands_113 rfl (by decide) (by decide)
set_option maxHeartbeats 4000000 in
set_option maxRecDepth 100000 in
theorem wb_X9_stands_143 (g : GG) (l : Launch) (s0 : Int32) (h : HS) (o : Int32 × HS) (hB : b_X9_stands_143 s0 h = some o) : Wq g l mX9_stands 0 0 143 [none, none, none, none, none, none] [.int s0] h (QI o) := by
  unfold b_X9_stands_143 at hB
  exact q_zret hB dX9_stands_143 rfl (by decide) (by decide)
set_option maxHeartbeats 4000000 in
set_option maxRecDepth 100000 in
theorem wb_X9_stands_142 (g : GG) (l : Launch) (h : HS) (o : Int32 × HS) (hB : b_X9_stands_142  h = some o) : Wq g l mX9_stands 0 0 142 [none, none, none, none, none, none] [] h (QI o) := by
  unfold b_X9_stands_142 at hB
  refine q_iconst (v := 0) dX9_stands_142 (by decide) ?_
  exact Wq.mask [false, false, false, false, false, false] rfl (wb_X9_stands_143 g l _ _ o hB)
set_option maxHeartbeats 4000000 in
set_option maxRecDepth 100000 in
theorem wb_X9_stands_114 (g : GG) (l : Launch) (a0 : Nat) (a2 : Int32) (a3 : Int32) (a4 : Int32) (h : HS) (o : Int32 × HS) (hB : b_X9_stands_114 a0 a2 a3 a4 h = some o) : Wq g l mX9_stands 0 0 114 [some (va_rf (some a0)), none, some (.int a2), some (.int a3), some (.int a4), none] [] h (QI o) := by
  unfold b_X9_stands_114 at hB
  refine q_iload_n dX9_stands_114 rfl rfl ?_
  refine q_if_ne (tgt := 142) hB dX9_stands_115 (by decide) (fun hB => ?_) (fun hB => ?_)
  · exact Wq.mask [false, false, false, false, false, false] rfl (wb_X9_stands_142 g l _ o hB)
  · refine q_iload_n dX9_stands_118 rfl rfl ?_
    refine q_if_ne (tgt := 142) hB dX9_stands_119 (by decide) (fun hB => ?_) (fun hB => ?_)
    · exact Wq.mask [false, false, false, false, false, false] rfl (wb_X9_stands_142 g l _ o hB)
    · refine q_aload_n dX9_stands_122 rfl rfl ?_
      refine q_aload_n dX9_stands_123 rfl rfl ?_
      refine q_getP (j := 4) hB dX9_stands_124 fc_7 (by decide) rfl wd_244 (fun n1 hB => ?_)
      refine q_callVP (k' := 0) (w' := 0) hB (fun b a hf => c_X9_rowsOf g l b _ _ a hf) rfl rfl dX9_stands_127 wd_380 cs_X9_rowsOf wd_382 wd_3 rfl ⟨⟨Nat.le_of_ble_eq_true rfl, Nat.le_of_ble_eq_true rfl⟩, ⟨Nat.le_of_ble_eq_true rfl, Nat.le_of_ble_eq_true rfl⟩, Nat.le_of_ble_eq_true rfl⟩ rfl rfl (fun n3 r2 hB => ?_)
      refine q_getI (j := 3) hB dX9_stands_130 fc_2 (by decide) rfl wd_205 (fun n4 hB => ?_)
      refine q_iload dX9_stands_133 rfl ?_
      refine q_icmp_lt (tgt := 142) hB dX9_stands_135 (by decide) (fun hB => ?_) (fun hB => ?_)
      · exact Wq.mask [false, false, false, false, false, false] rfl (wb_X9_stands_142 g l _ o hB)
      · refine q_iconst (v := 1) dX9_stands_138 (by decide) ?_
        refine q_goto (tgt := 143) dX9_stands_139 (by decide) ?_
        exact Wq.mask [false, false, false, false, false, false] rfl (wb_X9_stands_143 g l _ _ o hB)
set_option maxHeartbeats 4000000 in
set_option maxRecDepth 100000 in
theorem wb_X9_stands_172 (g : GG) (l : Launch) (s0 : Int32) (h : HS) (o : Int32 × HS) (hB : b_X9_stands_172 s0 h = some o) : Wq g l mX9_stands 0 0 172 [none, none, none, none, none, none] [.int s0] h (QI o) := by
  unfold b_X9_stands_172 at hB
  exact q_zret hB dX9_stands_172 rfl (by decide) (by decide)
set_option maxHeartbeats 4000000 in
set_option maxRecDepth 100000 in
theorem wb_X9_stands_144 (g : GG) (l : Launch) (a0 : Nat) (a2 : Int32) (a3 : Int32) (a4 : Int32) (h : HS) (o : Int32 × HS) (hB : b_X9_stands_144 a0 a2 a3 a4 h = some o) : Wq g l mX9_stands 0 0 144 [some (va_rf (some a0)), none, some (.int a2), some (.int a3), some (.int a4), none] [] h (QI o) := by
  unfold b_X9_stands_144 at hB
  refine q_aload_n dX9_stands_144 rfl rfl ?_
  refine q_aload_n dX9_stands_145 rfl rfl ?_
  refine q_getP (j := 4) hB dX9_stands_146 fc_7 (by decide) rfl wd_244 (fun n1 hB => ?_)
  refine q_aload_n dX9_stands_149 rfl rfl ?_
  refine q_aload_n dX9_stands_150 rfl rfl ?_
  refine q_getP (j := 4) hB dX9_stands_151 fc_7 (by decide) rfl wd_244 (fun n2 hB => ?_)
  refine q_iload_n dX9_stands_154 rfl rfl ?_
  refine q_iload_n dX9_stands_155 rfl rfl ?_
  refine q_callVI (k' := 0) (w' := 0) hB (fun b a hf => c_X9_cellOf g l b _ _ _ _ a hf) rfl rfl dX9_stands_156 wd_559 cs_X9_cellOf wd_561 wd_9 rfl ⟨⟨Nat.le_of_ble_eq_true rfl, Nat.le_of_ble_eq_true rfl⟩, ⟨Nat.le_of_ble_eq_true rfl, Nat.le_of_ble_eq_true rfl⟩, by simp [rf_cat, cat_i, cat_l]⟩ rfl rfl (fun n4 r3 hB => ?_)
  refine q_callVI (k' := 0) (w' := 0) hB (fun b a hf => c_X9_measureOf g l b _ _ _ a hf) rfl rfl dX9_stands_159 wd_567 cs_X9_measureOf wd_569 wd_10 rfl ⟨⟨Nat.le_of_ble_eq_true rfl, Nat.le_of_ble_eq_true rfl⟩, ⟨Nat.le_of_ble_eq_true rfl, Nat.le_of_ble_eq_true rfl⟩, Nat.le_of_ble_eq_true rfl⟩ rfl rfl (fun n6 r5 hB => ?_)
  refine q_iload dX9_stands_162 rfl ?_
  refine q_icmp_lt (tgt := 171) hB dX9_stands_164 (by decide) (fun hB => ?_) (fun hB => ?_)
  · refine q_iconst (v := 0) dX9_stands_171 (by decide) ?_
    exact Wq.mask [false, false, false, false, false, false] rfl (wb_X9_stands_172 g l _ _ o hB)
  · refine q_iconst (v := 1) dX9_stands_167 (by decide) ?_
    refine q_goto (tgt := 172) dX9_stands_168 (by decide) ?_
    exact Wq.mask [false, false, false, false, false, false] rfl (wb_X9_stands_172 g l _ _ o hB)
set_option maxHeartbeats 4000000 in
set_option maxRecDepth 100000 in
theorem wb_X9_stands_195 (g : GG) (l : Launch) (s0 : Int32) (h : HS) (o : Int32 × HS) (hB : b_X9_stands_195 s0 h = some o) : Wq g l mX9_stands 0 0 195 [none, none, none, none, none, none] [.int s0] h (QI o) := by
  unfold b_X9_stands_195 at hB
  exact q_zret hB dX9_stands_195 rfl (by decide) (by decide)
set_option maxHeartbeats 4000000 in
set_option maxRecDepth 100000 in
theorem wb_X9_stands_194 (g : GG) (l : Launch) (h : HS) (o : Int32 × HS) (hB : b_X9_stands_194  h = some o) : Wq g l mX9_stands 0 0 194 [none, none, none, none, none, none] [] h (QI o) := by
  unfold b_X9_stands_194 at hB
  refine q_iconst (v := 0) dX9_stands_194 (by decide) ?_
  exact Wq.mask [false, false, false, false, false, false] rfl (wb_X9_stands_195 g l _ _ o hB)
set_option maxHeartbeats 4000000 in
set_option maxRecDepth 100000 in
theorem wb_X9_stands_173 (g : GG) (l : Launch) (a0 : Nat) (a2 : Int32) (a5 : Int32) (h : HS) (o : Int32 × HS) (hB : b_X9_stands_173 a0 a2 a5 h = some o) : Wq g l mX9_stands 0 0 173 [some (va_rf (some a0)), none, some (.int a2), none, none, some (.int a5)] [] h (QI o) := by
  unfold b_X9_stands_173 at hB
  refine q_iload_n dX9_stands_173 rfl rfl ?_
  refine q_if_ne (tgt := 194) hB dX9_stands_174 (by decide) (fun hB => ?_) (fun hB => ?_)
  · exact Wq.mask [false, false, false, false, false, false] rfl (wb_X9_stands_194 g l _ o hB)
  · refine q_aload_n dX9_stands_177 rfl rfl ?_
    refine q_aload_n dX9_stands_178 rfl rfl ?_
    refine q_getP (j := 4) hB dX9_stands_179 fc_7 (by decide) rfl wd_244 (fun n1 hB => ?_)
    refine q_callVI (k' := 0) (w' := 0) hB (fun b a hf => c_X9_totalOf g l b _ _ a hf) rfl rfl dX9_stands_182 wd_584 cs_X9_totalOf wd_586 wd_11 rfl ⟨⟨Nat.le_of_ble_eq_true rfl, Nat.le_of_ble_eq_true rfl⟩, ⟨Nat.le_of_ble_eq_true rfl, Nat.le_of_ble_eq_true rfl⟩, Nat.le_of_ble_eq_true rfl⟩ rfl rfl (fun n3 r2 hB => ?_)
    refine q_iload dX9_stands_185 rfl ?_
    refine q_icmp_lt (tgt := 194) hB dX9_stands_187 (by decide) (fun hB => ?_) (fun hB => ?_)
    · exact Wq.mask [false, false, false, false, false, false] rfl (wb_X9_stands_194 g l _ o hB)
    · refine q_iconst (v := 1) dX9_stands_190 (by decide) ?_
      refine q_goto (tgt := 195) dX9_stands_191 (by decide) ?_
      exact Wq.mask [false, false, false, false, false, false] rfl (wb_X9_stands_195 g l _ _ o hB)
set_option maxHeartbeats 4000000 in
set_option maxRecDepth 100000 in
theorem wb_X9_stands_196 (g : GG) (l : Launch) (h : HS) (o : Int32 × HS) (hB : b_X9_stands_196  h = some o) : Wq g l mX9_stands 0 0 196 [none, none, none, none, none, none] [] h (QI o) := by
  unfold b_X9_stands_196 at hB
  refine q_iconst (v := 0) dX9_stands_196 (by decide) ?_
  exact q_zret hB dX9_stands_197 rfl (by decide) (by decide)
set_option maxHeartbeats 4000000 in
set_option maxRecDepth 100000 in
theorem c_X9_stands (g : GG) (l : Launch) (a0 : Nat) (a1 : Int32) (h : HS) (o : Int32 × HS) (hB : f_X9_stands a0 a1 h = some o) : Ct g l mX9_stands [va_rf (some a0), .int a1] h (QI o) := by
  refine Ct.of2 (lv0 := [some (va_rf (some a0)), some (.int a1), none, none, none, none]) (by decide +kernel) (by simp [lg_sl, rf_cat, cat_i, cat_l]) rfl ?_
  unfold f_X9_stands at hB
  refine q_iload_n dX9_stands_0 rfl rfl ?_
  refine q_bipush (v := 100) dX9_stands_1 (by decide) ?_
  refine q_idiv hB dX9_stands_3 (fun hB => ?_)
  refine q_bipush (v := 10) dX9_stands_4 (by decide) ?_
  refine q_irem hB dX9_stands_6 (fun hB => ?_)
  refine q_istore_n dX9_stands_7 rfl (by decide) (nb_i (j := 1) rfl) ?_
  refine q_iload_n dX9_stands_8 rfl rfl ?_
  refine q_bipush (v := 10) dX9_stands_9 (by decide) ?_
  refine q_idiv hB dX9_stands_11 (fun hB => ?_)
  refine q_bipush (v := 10) dX9_stands_12 (by decide) ?_
  refine q_irem hB dX9_stands_14 (fun hB => ?_)
  refine q_istore_n dX9_stands_15 rfl (by decide) (nb_i (j := 2) rfl) ?_
  refine q_iload_n dX9_stands_16 rfl rfl ?_
  refine q_bipush (v := 10) dX9_stands_17 (by decide) ?_
  refine q_irem hB dX9_stands_19 (fun hB => ?_)
  refine q_istore dX9_stands_20 (by decide) (nb_i (j := 3) rfl) ?_
  refine q_iload_n dX9_stands_22 rfl rfl ?_
  refine q_bipush (v := 100) dX9_stands_23 (by decide) ?_
  refine q_irem hB dX9_stands_25 (fun hB => ?_)
  refine q_istore dX9_stands_26 (by decide) (nb_i (j := 4) rfl) ?_
  refine q_iload_n dX9_stands_28 rfl rfl ?_
  refine q_sipush (v := 1000) dX9_stands_29 (by decide) ?_
  refine q_idiv hB dX9_stands_32 (fun hB => ?_)
  refine q_tab (dt := 196) [72, 84, 103, 114, 144, 173] hB dX9_stands_33 rfl rfl (by decide) (by decide) (fun hB => ?_) (fun i hi hB => ?_)
  · exact Wq.mask [false, false, false, false, false, false] rfl (wb_X9_stands_196 g l _ o hB)
  · match i, hi, hB with
    | 0, _, hB =>
      simp only [List.getD_cons_zero, List.getD_cons_succ] at hB
      exact Wq.mask [true, false, true, true, true, false] rfl (wb_X9_stands_72 g l _ _ _ _ _ o hB)
    | 1, _, hB =>
      simp only [List.getD_cons_zero, List.getD_cons_succ] at hB
      exact Wq.mask [true, false, true, false, false, true] rfl (wb_X9_stands_84 g l _ _ _ _ o hB)
    | 2, _, hB =>
      simp only [List.getD_cons_zero, List.getD_cons_succ] at hB
      exact Wq.mask [true, false, true, false, false, true] rfl (wb_X9_stands_103 g l _ _ _ _ o hB)
    | 3, _, hB =>
      simp only [List.getD_cons_zero, List.getD_cons_succ] at hB
      exact Wq.mask [true, false, true, true, true, false] rfl (wb_X9_stands_114 g l _ _ _ _ _ o hB)
    | 4, _, hB =>
      simp only [List.getD_cons_zero, List.getD_cons_succ] at hB
      exact Wq.mask [true, false, true, true, true, false] rfl (wb_X9_stands_144 g l _ _ _ _ _ o hB)
    | 5, _, hB =>
      simp only [List.getD_cons_zero, List.getD_cons_succ] at hB
      exact Wq.mask [true, false, true, false, false, true] rfl (wb_X9_stands_173 g l _ _ _ _ o hB)
    | n + 6, hi, _ => exact absurd hi (by simp only [List.length_cons, List.length_nil]; omega)
