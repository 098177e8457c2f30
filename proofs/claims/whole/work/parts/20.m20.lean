def b_X9_isSlot_14  (s0 : Int32) (h : HS) : Option (Int32 × HS) :=
  gd (decide (narrow .boolean (.int s0) = .int s0)) (some (s0, h))
def b_X9_isSlot_13  (h : HS) : Option (Int32 × HS) :=
  b_X9_isSlot_14 (0 : Int32) h
def f_X9_isSlot  (a0 : Int32) (h : HS) : Option (Int32 × HS) :=
  (if a0 < 0 then b_X9_isSlot_13 h else (if (2 : Int32) ≤ a0 then b_X9_isSlot_13 h else b_X9_isSlot_14 (1 : Int32) h))
set_option maxHeartbeats 4000000 in
set_option maxRecDepth 100000 in
theorem wb_X9_isSlot_14 (g : GG) (l : Launch) (s0 : Int32) (h : HS) (o : Int32 × HS) (hB : b_X9_isSlot_14 s0 h = some o) : Wq g l mX9_isSlot 0 0 14 [none] [.int s0] h (QI o) := by
  unfold b_X9_isSlot_14 at hB
  exact q_zret hB dX9_isSlot_14 rfl (by decide) (by decide)
set_option maxHeartbeats 4000000 in
set_option maxRecDepth 100000 in
theorem wb_X9_isSlot_13 (g : GG) (l : Launch) (h : HS) (o : Int32 × HS) (hB : b_X9_isSlot_13  h = some o) : Wq g l mX9_isSlot 0 0 13 [none] [] h (QI o) := by
  unfold b_X9_isSlot_13 at hB
  refine q_iconst (v := 0) dX9_isSlot_13 (by decide) ?_
  exact Wq.mask [false] rfl (wb_X9_isSlot_14 g l _ _ o hB)
set_option maxHeartbeats 4000000 in
set_option maxRecDepth 100000 in
theorem c_X9_isSlot (g : GG) (l : Launch) (a0 : Int32) (h : HS) (o : Int32 × HS) (hB : f_X9_isSlot a0 h = some o) : Ct g l mX9_isSlot [.int a0] h (QI o) := by
  refine Ct.of2 (lv0 := [some (.int a0)]) (by decide +kernel) (by simp [lg_sl, rf_cat, cat_i, cat_l]) rfl ?_
  unfold f_X9_isSlot at hB
  refine q_iload_n dX9_isSlot_0 rfl rfl ?_
  refine q_if_lt (tgt := 13) hB dX9_isSlot_1 (by decide) (fun hB => ?_) (fun hB => ?_)
  · exact Wq.mask [false] rfl (wb_X9_isSlot_13 g l _ o hB)
  · refine q_iload_n dX9_isSlot_4 rfl rfl ?_
    refine q_iconst (v := 2) dX9_isSlot_5 (by decide) ?_
    refine q_icmp_ge (tgt := 13) hB dX9_isSlot_6 (by decide) (fun hB => ?_) (fun hB => ?_)
    · exact Wq.mask [false] rfl (wb_X9_isSlot_13 g l _ o hB)
    · refine q_iconst (v := 1) dX9_isSlot_9 (by decide) ?_
      refine q_goto (tgt := 14) dX9_isSlot_10 (by decide) ?_
      exact Wq.mask [false] rfl (wb_X9_isSlot_14 g l _ _ o hB)

def b_X9_keep_35  (a0 : Nat) (a2 : Option Nat) (h : HS) : Option (Int32 × HS) :=
  nn (some a0) (fun n1 => gd (ck h n1 7) (nn a2 (fun n3 => gd (rk h n3 3) (bd (f_X3_copyFrom n3 (hP h n1 3) h) (fun r2 => nn a2 (fun n4 => gd (ck r2.2 n4 3) (some ((hI r2.2 n4 3), r2.2))))))))
def f_X9_keep  (a0 : Nat) (a1 : Int32) (h : HS) : Option (Int32 × HS) :=
  bd (f_X9_isSlot a1 h) (fun r1 => (if r1.1 = 0 then some ((-1 : Int32), r1.2) else nn (some a0) (fun n2 => gd (ck r1.2 n2 7) (nn (hP r1.2 n2 9) (fun n3 => gd (ca r1.2 n3 12 a1) ((if (hP r1.2 n3 a1.toNatClampNeg) = none then gd (cn r1.2 3) (hl (nw r1.2) (fun h4 => nn (some (hN r1.2)) (fun n6 => bd (f_X3_init n6 h4) (fun r5 => nn (some a0) (fun n7 => gd (ck r5.2 n7 7) (nn (hP r5.2 n7 9) (fun n8 => nn (some (hN r1.2)) (fun n9 => gd (ca r5.2 n8 12 a1 && ck r5.2 n9 3) (hl (sP r5.2 n8 a1.toNatClampNeg (some n9)) (fun h10 => b_X9_keep_35 a0 (some (hN r1.2)) h10)))))))))) else b_X9_keep_35 a0 (hP r1.2 n3 a1.toNatClampNeg) r1.2)))))))
set_option maxHeartbeats 4000000 in
set_option maxRecDepth 100000 in
theorem wb_X9_keep_35 (g : GG) (l : Launch) (a0 : Nat) (a2 : Option Nat) (h : HS) (o : Int32 × HS) (hB : b_X9_keep_35 a0 a2 h = some o) : Wq g l mX9_keep 4 52 35 [some (va_rf (some a0)), none, some (va_rf a2)] [] h (QI o) := by
  unfold b_X9_keep_35 at hB
  refine q_aload_n dX9_keep_35 rfl rfl ?_
  refine q_aload_n dX9_keep_36 rfl rfl ?_
  refine q_getP (j := 3) hB dX9_keep_37 fc_7 (by decide) rfl wd_243 (fun n1 hB => ?_)
  refine q_callVV (k' := 4) (w' := 52) hB (fun b a hf => c_X3_copyFrom g l b _ _ a hf) rfl rfl dX9_keep_40 wd_596 cs_X3_copyFrom wd_597 wd_598 rfl ⟨⟨Nat.le_of_ble_eq_true rfl, Nat.le_of_ble_eq_true rfl⟩, ⟨Nat.le_of_ble_eq_true rfl, Nat.le_of_ble_eq_true rfl⟩, Nat.le_of_ble_eq_true rfl⟩ rfl rfl (fun n3 r2 hB => ?_)
  refine q_aload_n dX9_keep_43 rfl rfl ?_
  refine q_getI (j := 3) hB dX9_keep_44 fc_3 (by decide) rfl wd_147 (fun n4 hB => ?_)
  exact q_iret hB dX9_keep_47 rfl (by decide) (by decide)
set_option maxHeartbeats 4000000 in
set_option maxRecDepth 100000 in
theorem c_X9_keep (g : GG) (l : Launch) (a0 : Nat) (a1 : Int32) (h : HS) (o : Int32 × HS) (hB : f_X9_keep a0 a1 h = some o) : Ct g l mX9_keep [va_rf (some a0), .int a1] h (QI o) := by
  refine Ct.of2 (lv0 := [some (va_rf (some a0)), some (.int a1), none]) (by decide +kernel) (by simp [lg_sl, rf_cat, cat_i, cat_l]) rfl ?_
  unfold f_X9_keep at hB
  refine q_iload_n dX9_keep_0 rfl rfl ?_
  refine q_callSI (k' := 0) (w' := 0) hB (fun a hf => c_X9_isSlot g l _ _ a hf) rfl dX9_keep_1 wd_707 cs_X9_isSlot wd_708 rfl ⟨⟨Nat.le_of_ble_eq_true rfl, Nat.le_of_ble_eq_true rfl⟩, ⟨Nat.le_of_ble_eq_true rfl, Nat.le_of_ble_eq_true rfl⟩, Nat.le_of_ble_eq_true rfl⟩ rfl rfl (fun r1 hB => ?_)
  refine q_if_ne (tgt := 9) hB dX9_keep_4 (by decide) (fun hB => ?_) (fun hB => ?_)
  · refine q_aload_n dX9_keep_9 rfl rfl ?_
    refine q_getP (j := 9) hB dX9_keep_10 fc_7 (by decide) rfl wd_249 (fun n2 hB => ?_)
    refine q_iload_n dX9_keep_13 rfl rfl ?_
    refine q_aaldE hB dX9_keep_14 (fun n3 hB => ?_)
    refine q_astore_n dX9_keep_15 rfl (by decide) (nb_i (j := 1) rfl) ?_
    refine q_aload_n dX9_keep_16 rfl rfl ?_
    refine q_ifnonnull (tgt := 35) hB dX9_keep_17 (by decide) (fun hB => ?_) (fun hB => ?_)
    · exact Wq.mask [true, false, true] rfl (Wq.widen (k' := 4) (w' := 52) (by decide) (by decide) (wb_X9_keep_35 g l _ _ _ o hB))
    · refine q_new hB dX9_keep_20 fc_3 (by decide) wd_129 wd_130 wd_53 (by decide) (by decide) (fun hB => ?_)
      refine q_nm hB (fun h4 hB => ?_)
      refine q_dup dX9_keep_23 (rf_cat _) ?_
      refine q_callIN_ (k' := 4) (w' := 52) (host := RX9) hB (fun b a hf => c_X3_init g l b _ a hf) rfl dX9_keep_24 (by decide +kernel) cs_X3_init wd_132 rfl rfl rfl ⟨⟨Nat.le_of_ble_eq_true rfl, Nat.le_of_ble_eq_true rfl⟩, ⟨Nat.le_of_ble_eq_true rfl, Nat.le_of_ble_eq_true rfl⟩, by simp [rf_cat, cat_i, cat_l]⟩ rfl rfl (fun n6 r5 hB => ?_)
      refine q_astore_n dX9_keep_27 rfl (by decide) (nb_i (j := 1) rfl) ?_
      refine q_aload_n dX9_keep_28 rfl rfl ?_
      refine q_getP (j := 9) hB dX9_keep_29 fc_7 (by decide) rfl wd_249 (fun n7 hB => ?_)
      refine q_iload_n dX9_keep_32 rfl rfl ?_
      refine q_aload_n dX9_keep_33 rfl rfl ?_
      refine q_aastE hB dX9_keep_34 fc_3 (fun n8 n9 hB => ?_)
      refine q_nm hB (fun h10 hB => ?_)
      exact Wq.mask [true, false, true] rfl (wb_X9_keep_35 g l _ _ _ o hB)
  · refine q_iconst (v := -1) dX9_keep_7 (by decide) ?_
    exact q_iret hB dX9_keep_8 rfl (by decide) (by decide)

def b_X10_keep_21  (k21 : Nat → Int32 → Int32 → HS → Option (Int32 × HS)) (a0 : Nat) (a1 : Int32) (a2 : Int32) (h : HS) : Option (Int32 × HS) :=
  (if (17 : Int32) ≤ a2 then nn (some a0) (fun n2 => gd (rk h n2 8) (bd (f_X10_many n2 (0 : Int32) h) (fun r1 => some (r1.1, r1.2)))) else nn (some a0) (fun n3 => gd (ck h n3 8) (nn (some a0) (fun n4 => gd (ck h n4 8) (nn (hP h n4 12) (fun n5 => gd (ca h n5 9 a2) (nn (hP h n3 29) (fun n6 => gd (ca h n6 9 (((17 : Int32) * a1) + a2)) (hl (sI h n6 (((17 : Int32) * a1) + a2).toNatClampNeg (hI h n5 a2.toNatClampNeg)) (fun h7 => k21 a0 a1 (a2 + (1 : Int32)) h7))))))))))
def l_X10_keep_21  : Nat → Nat → Int32 → Int32 → HS → Option (Int32 × HS)
  | 0 => fun _ _ _ _ => none
  | n + 1 => b_X10_keep_21 (l_X10_keep_21 n)
def f_X10_keep  (a0 : Nat) (a1 : Int32) (h : HS) : Option (Int32 × HS) :=
  bd (f_X10_in a1.toInt64 (0 : Int64) (1 : Int64) h) (fun r1 => (if r1.1 = 0 then some ((-1 : Int32), r1.2) else nn (some a0) (fun n2 => gd (ck r1.2 n2 8) (nn (hP r1.2 n2 28) (fun n3 => gd (ca r1.2 n3 10 a1) (hl (sI r1.2 n3 a1.toNatClampNeg ((1 : Int32) &&& 1)) (fun h4 => l_X10_keep_21 FU a0 a1 (0 : Int32) h4)))))))
set_option maxHeartbeats 4000000 in
set_option maxRecDepth 100000 in
theorem wb_X10_keep_21 (g : GG) (l : Launch) (k21 : Nat → Int32 → Int32 → HS → Option (Int32 × HS)) (a0 : Nat) (a1 : Int32) (a2 : Int32) (h : HS) (o : Int32 × HS) (hB : b_X10_keep_21 k21 a0 a1 a2 h = some o) (hk21 : ∀ (a0 : Nat) (a1 : Int32) (a2 : Int32) (h : HS), k21 a0 a1 a2 h = some o → Wq g l mX10_keep 0 0 21 [some (va_rf (some a0)), some (.int a1), some (.int a2)] [] h (QI o)) : Wq g l mX10_keep 0 0 21 [some (va_rf (some a0)), some (.int a1), some (.int a2)] [] h (QI o) := by
  unfold b_X10_keep_21 at hB
  refine q_iload_n dX10_keep_21 rfl rfl ?_
  refine q_bipush (v := 17) dX10_keep_22 (by decide) ?_
  refine q_icmp_ge (tgt := 50) hB dX10_keep_24 (by decide) (fun hB => ?_) (fun hB => ?_)
  · refine q_aload_n dX10_keep_50 rfl rfl ?_
    refine q_iconst (v := 0) dX10_keep_51 (by decide) ?_
    refine q_callVI (k' := 0) (w' := 0) hB (fun b a hf => c_X10_many g l b _ _ a hf) rfl rfl dX10_keep_52 wd_867 cs_X10_many wd_869 wd_23 rfl ⟨⟨Nat.le_of_ble_eq_true rfl, Nat.le_of_ble_eq_true rfl⟩, ⟨Nat.le_of_ble_eq_true rfl, Nat.le_of_ble_eq_true rfl⟩, Nat.le_of_ble_eq_true rfl⟩ rfl rfl (fun n2 r1 hB => ?_)
    exact q_iret hB dX10_keep_55 rfl (by decide) (by decide)
  · refine q_aload_n dX10_keep_27 rfl rfl ?_
    refine q_getP (j := 29) hB dX10_keep_28 fc_8 (by decide) rfl wd_758 (fun n3 hB => ?_)
    refine q_bipush (v := 17) dX10_keep_31 (by decide) ?_
    refine q_iload_n dX10_keep_33 rfl rfl ?_
    refine q_imul dX10_keep_34 ?_
    refine q_iload_n dX10_keep_35 rfl rfl ?_
    refine q_iadd dX10_keep_36 ?_
    refine q_aload_n dX10_keep_37 rfl rfl ?_
    refine q_getP (j := 12) hB dX10_keep_38 fc_8 (by decide) rfl wd_741 (fun n4 hB => ?_)
    refine q_iload_n dX10_keep_41 rfl rfl ?_
    refine q_iald hB dX10_keep_42 (fun n5 hB => ?_)
    refine q_iast hB dX10_keep_43 (fun n6 hB => ?_)
    refine q_nm hB (fun h7 hB => ?_)
    refine q_iinc dX10_keep_44 rfl (show _ = (a2 + (1 : Int32)) from rfl) (by decide) (nb_i (j := 1) rfl) ?_
    refine q_goto (tgt := 21) dX10_keep_47 (by decide) ?_
    exact Wq.mask [true, true, true] rfl (hk21 _ _ _ _ hB)
set_option maxHeartbeats 4000000 in
theorem wl_X10_keep_21 (g : GG) (l : Launch) (o : Int32 × HS) : ∀ (n : Nat) (a0 : Nat) (a1 : Int32) (a2 : Int32) (h : HS), l_X10_keep_21 n a0 a1 a2 h = some o → Wq g l mX10_keep 0 0 21 [some (va_rf (some a0)), some (.int a1), some (.int a2)] [] h (QI o) := by
  intro n
  induction n with
  | zero =>
    intro a0 a1 a2  h hB
    have q : (none : Option (Int32 × HS)) = some o := hB
    cases q
  | succ n ih =>
    intro a0 a1 a2  h hB
    exact wb_X10_keep_21 g l (l_X10_keep_21 n) a0 a1 a2 h o hB ih
set_option maxHeartbeats 4000000 in
set_option maxRecDepth 100000 in
theorem c_X10_keep (g : GG) (l : Launch) (a0 : Nat) (a1 : Int32) (h : HS) (o : Int32 × HS) (hB : f_X10_keep a0 a1 h = some o) : Ct g l mX10_keep [va_rf (some a0), .int a1] h (QI o) := by
  refine Ct.of2 (lv0 := [some (va_rf (some a0)), some (.int a1), none]) (by decide +kernel) (by simp [lg_sl, rf_cat, cat_i, cat_l]) rfl ?_
  unfold f_X10_keep at hB
  refine q_iload_n dX10_keep_0 rfl rfl ?_
  refine q_i2l dX10_keep_1 ?_
  refine q_lconst (v := 0) dX10_keep_2 (by decide) ?_
  refine q_lconst (v := 1) dX10_keep_3 (by decide) ?_
  refine q_callSI (k' := 0) (w' := 0) hB (fun a hf => c_X10_in g l _ _ _ _ a hf) rfl dX10_keep_4 wd_825 cs_X10_in wd_826 rfl ⟨⟨Nat.le_of_ble_eq_true rfl, Nat.le_of_ble_eq_true rfl⟩, ⟨Nat.le_of_ble_eq_true rfl, Nat.le_of_ble_eq_true rfl⟩, Nat.le_of_ble_eq_true rfl⟩ rfl rfl (fun r1 hB => ?_)
  refine q_if_ne (tgt := 12) hB dX10_keep_7 (by decide) (fun hB => ?_) (fun hB => ?_)
  · refine q_aload_n dX10_keep_12 rfl rfl ?_
    refine q_getP (j := 28) hB dX10_keep_13 fc_8 (by decide) rfl wd_757 (fun n2 hB => ?_)
    refine q_iload_n dX10_keep_16 rfl rfl ?_
    refine q_iconst (v := 1) dX10_keep_17 (by decide) ?_
    refine q_zast hB dX10_keep_18 (fun n3 hB => ?_)
    refine q_nm hB (fun h4 hB => ?_)
    refine q_iconst (v := 0) dX10_keep_19 (by decide) ?_
    refine q_istore_n dX10_keep_20 rfl (by decide) (nb_i (j := 1) rfl) ?_
    exact Wq.mask [true, true, true] rfl (wl_X10_keep_21 g l o FU _ _ _ _ hB)
  · refine q_iconst (v := -1) dX10_keep_10 (by decide) ?_
    exact q_iret hB dX10_keep_11 rfl (by decide) (by decide)

def f_X9_again  (a0 : Nat) (a1 : Int32) (h : HS) : Option (Int32 × HS) :=
  bd (f_X9_isSlot a1 h) (fun r1 => (if r1.1 = 0 then some ((-1 : Int32), r1.2) else nn (some a0) (fun n2 => gd (ck r1.2 n2 7) (nn (hP r1.2 n2 9) (fun n3 => gd (ca r1.2 n3 12 a1) ((if (hP r1.2 n3 a1.toNatClampNeg) = none then some ((-3 : Int32), r1.2) else nn (some a0) (fun n4 => gd (ck r1.2 n4 7) (nn (hP r1.2 n4 3) (fun n6 => gd (rk r1.2 n6 3) (bd (f_X3_copyFrom n6 (hP r1.2 n3 a1.toNatClampNeg) r1.2) (fun r5 => nn (some a0) (fun n7 => gd (ck r5.2 n7 7) (nn (hP r5.2 n7 5) (fun n8 => gd (ck r5.2 n8 1) (nn (some a0) (fun n9 => gd (ck (sI r5.2 n8 1 (0 : Int32)) n9 7) (nn (hP (sI r5.2 n8 1 (0 : Int32)) n9 3) (fun n10 => gd (ck (sI r5.2 n8 1 (0 : Int32)) n10 3) (some ((hI (sI r5.2 n8 1 (0 : Int32)) n10 3), (sI r5.2 n8 1 (0 : Int32)))))))))))))))))))))))
set_option maxHeartbeats 4000000 in
set_option maxRecDepth 100000 in
theorem c_X9_again (g : GG) (l : Launch) (a0 : Nat) (a1 : Int32) (h : HS) (o : Int32 × HS) (hB : f_X9_again a0 a1 h = some o) : Ct g l mX9_again [va_rf (some a0), .int a1] h (QI o) := by
  refine Ct.of2 (lv0 := [some (va_rf (some a0)), some (.int a1), none]) (by decide +kernel) (by simp [lg_sl, rf_cat, cat_i, cat_l]) rfl ?_
  unfold f_X9_again at hB
  refine q_iload_n dX9_again_0 rfl rfl ?_
  refine q_callSI (k' := 0) (w' := 0) hB (fun a hf => c_X9_isSlot g l _ _ a hf) rfl dX9_again_1 wd_707 cs_X9_isSlot wd_708 rfl ⟨⟨Nat.le_of_ble_eq_true rfl, Nat.le_of_ble_eq_true rfl⟩, ⟨Nat.le_of_ble_eq_true rfl, Nat.le_of_ble_eq_true rfl⟩, Nat.le_of_ble_eq_true rfl⟩ rfl rfl (fun r1 hB => ?_)
  refine q_if_ne (tgt := 9) hB dX9_again_4 (by decide) (fun hB => ?_) (fun hB => ?_)
  · refine q_aload_n dX9_again_9 rfl rfl ?_
    refine q_getP (j := 9) hB dX9_again_10 fc_7 (by decide) rfl wd_249 (fun n2 hB => ?_)
    refine q_iload_n dX9_again_13 rfl rfl ?_
    refine q_aaldE hB dX9_again_14 (fun n3 hB => ?_)
    refine q_astore_n dX9_again_15 rfl (by decide) (nb_i (j := 1) rfl) ?_
    refine q_aload_n dX9_again_16 rfl rfl ?_
    refine q_ifnonnull (tgt := 23) hB dX9_again_17 (by decide) (fun hB => ?_) (fun hB => ?_)
    · refine q_aload_n dX9_again_23 rfl rfl ?_
      refine q_getP (j := 3) hB dX9_again_24 fc_7 (by decide) rfl wd_243 (fun n4 hB => ?_)
      refine q_aload_n dX9_again_27 rfl rfl ?_
      refine q_callVV (k' := 0) (w' := 0) hB (fun b a hf => c_X3_copyFrom g l b _ _ a hf) rfl rfl dX9_again_28 wd_596 cs_X3_copyFrom wd_597 wd_598 rfl ⟨⟨Nat.le_of_ble_eq_true rfl, Nat.le_of_ble_eq_true rfl⟩, ⟨Nat.le_of_ble_eq_true rfl, Nat.le_of_ble_eq_true rfl⟩, Nat.le_of_ble_eq_true rfl⟩ rfl rfl (fun n6 r5 hB => ?_)
      refine q_aload_n dX9_again_31 rfl rfl ?_
      refine q_getP (j := 5) hB dX9_again_32 fc_7 (by decide) rfl wd_245 (fun n7 hB => ?_)
      refine q_iconst (v := 0) dX9_again_35 (by decide) ?_
      refine q_putI (j := 1) hB dX9_again_36 fc_1 (by decide) rfl wd_188 rfl (fun n8 hB => ?_)
      refine q_aload_n dX9_again_39 rfl rfl ?_
      refine q_getP (j := 3) hB dX9_again_40 fc_7 (by decide) rfl wd_243 (fun n9 hB => ?_)
      refine q_getI (j := 3) hB dX9_again_43 fc_3 (by decide) rfl wd_147 (fun n10 hB => ?_)
      exact q_iret hB dX9_again_46 rfl (by decide) (by decide)
    · refine q_bipush (v := -3) dX9_again_20 (by decide) ?_
      exact q_iret hB dX9_again_22 rfl (by decide) (by decide)
  · refine q_iconst (v := -1) dX9_again_7 (by decide) ?_
    exact q_iret hB dX9_again_8 rfl (by decide) (by decide)

def b_X10_again_26  (k26 : Nat → Int32 → Int32 → HS → Option (Int32 × HS)) (a0 : Nat) (a1 : Int32) (a2 : Int32) (h : HS) : Option (Int32 × HS) :=
  (if (17 : Int32) ≤ a2 then nn (some a0) (fun n1 => gd (ck h n1 8) (hl (sI h n1 20 (0 : Int32)) (fun h2 => nn (some a0) (fun n4 => gd (rk h2 n4 8) (bd (f_X10_many n4 (0 : Int32) h2) (fun r3 => some (r3.1, r3.2))))))) else nn (some a0) (fun n5 => gd (ck h n5 8) (nn (some a0) (fun n6 => gd (ck h n6 8) (nn (hP h n6 29) (fun n7 => gd (ca h n7 9 (((17 : Int32) * a1) + a2)) (nn (hP h n5 12) (fun n8 => gd (ca h n8 9 a2) (hl (sI h n8 a2.toNatClampNeg (hI h n7 (((17 : Int32) * a1) + a2).toNatClampNeg)) (fun h9 => k26 a0 a1 (a2 + (1 : Int32)) h9))))))))))
def l_X10_again_26  : Nat → Nat → Int32 → Int32 → HS → Option (Int32 × HS)
  | 0 => fun _ _ _ _ => none
  | n + 1 => b_X10_again_26 (l_X10_again_26 n)
def f_X10_again  (a0 : Nat) (a1 : Int32) (h : HS) : Option (Int32 × HS) :=
  bd (f_X10_in a1.toInt64 (0 : Int64) (1 : Int64) h) (fun r1 => (if r1.1 = 0 then some ((-1 : Int32), r1.2) else nn (some a0) (fun n2 => gd (ck r1.2 n2 8) (nn (hP r1.2 n2 28) (fun n3 => gd (ca r1.2 n3 10 a1) ((if (hI r1.2 n3 a1.toNatClampNeg) = 0 then some ((-3 : Int32), r1.2) else l_X10_again_26 FU a0 a1 (0 : Int32) r1.2)))))))
set_option maxHeartbeats 4000000 in
set_option maxRecDepth 100000 in
theorem wb_X10_again_26 (g : GG) (l : Launch) (k26 : Nat → Int32 → Int32 → HS → Option (Int32 × HS)) (a0 : Nat) (a1 : Int32) (a2 : Int32) (h : HS) (o : Int32 × HS) (hB : b_X10_again_26 k26 a0 a1 a2 h = some o) (hk26 : ∀ (a0 : Nat) (a1 : Int32) (a2 : Int32) (h : HS), k26 a0 a1 a2 h = some o → Wq g l mX10_again 0 0 26 [some (va_rf (some a0)), some (.int a1), some (.int a2)] [] h (QI o)) : Wq g l mX10_again 0 0 26 [some (va_rf (some a0)), some (.int a1), some (.int a2)] [] h (QI o) := by
  unfold b_X10_again_26 at hB
  refine q_iload_n dX10_again_26 rfl rfl ?_
  refine q_bipush (v := 17) dX10_again_27 (by decide) ?_
  refine q_icmp_ge (tgt := 55) hB dX10_again_29 (by decide) (fun hB => ?_) (fun hB => ?_)
  · refine q_aload_n dX10_again_55 rfl rfl ?_
    refine q_iconst (v := 0) dX10_again_56 (by decide) ?_
    refine q_putI (j := 20) hB dX10_again_57 fc_8 (by decide) rfl wd_749 rfl (fun n1 hB => ?_)
    refine q_nm hB (fun h2 hB => ?_)
    refine q_aload_n dX10_again_60 rfl rfl ?_
    refine q_iconst (v := 0) dX10_again_61 (by decide) ?_
    refine q_callVI (k' := 0) (w' := 0) hB (fun b a hf => c_X10_many g l b _ _ a hf) rfl rfl dX10_again_62 wd_867 cs_X10_many wd_869 wd_23 rfl ⟨⟨Nat.le_of_ble_eq_true rfl, Nat.le_of_ble_eq_true rfl⟩, ⟨Nat.le_of_ble_eq_true rfl, Nat.le_of_ble_eq_true rfl⟩, Nat.le_of_ble_eq_true rfl⟩ rfl rfl (fun n4 r3 hB => ?_)
    exact q_iret hB dX10_again_65 rfl (by decide) (by decide)
  · refine q_aload_n dX10_again_32 rfl rfl ?_
    refine q_getP (j := 12) hB dX10_again_33 fc_8 (by decide) rfl wd_741 (fun n5 hB => ?_)
    refine q_iload_n dX10_again_36 rfl rfl ?_
    refine q_aload_n dX10_again_37 rfl rfl ?_
    refine q_getP (j := 29) hB dX10_again_38 fc_8 (by decide) rfl wd_758 (fun n6 hB => ?_)
    refine q_bipush (v := 17) dX10_again_41 (by decide) ?_
    refine q_iload_n dX10_again_43 rfl rfl ?_
    refine q_imul dX10_again_44 ?_
    refine q_iload_n dX10_again_45 rfl rfl ?_
    refine q_iadd dX10_again_46 ?_
    refine q_iald hB dX10_again_47 (fun n7 hB => ?_)
    refine q_iast hB dX10_again_48 (fun n8 hB => ?_)
    refine q_nm hB (fun h9 hB => ?_)
    refine q_iinc dX10_again_49 rfl (show _ = (a2 + (1 : Int32)) from rfl) (by decide) (nb_i (j := 1) rfl) ?_
    refine q_goto (tgt := 26) dX10_again_52 (by decide) ?_
    exact Wq.mask [true, true, true] rfl (hk26 _ _ _ _ hB)
set_option maxHeartbeats 4000000 in
theorem wl_X10_again_26 (g : GG) (l : Launch) (o : Int32 × HS) : ∀ (n : Nat) (a0 : Nat) (a1 : Int32) (a2 : Int32) (h : HS), l_X10_again_26 n a0 a1 a2 h = some o → Wq g l mX10_again 0 0 26 [some (va_rf (some a0)), some (.int a1), some (.int a2)] [] h (QI o) := by
  intro n
  induction n with
  | zero =>
    intro a0 a1 a2  h hB
    have q : (none : Option (Int32 × HS)) = some o := hB
    cases q
  | succ n ih =>
    intro a0 a1 a2  h hB
    exact wb_X10_again_26 g l (l_X10_again_26 n) a0 a1 a2 h o hB ih
set_option maxHeartbeats 4000000 in
set_option maxRecDepth 100000 in
theorem c_X10_again (g : GG) (l : Launch) (a0 : Nat) (a1 : Int32) (h : HS) (o : Int32 × HS) (hB : f_X10_again a0 a1 h = some o) : Ct g l mX10_again [va_rf (some a0), .int a1] h (QI o) := by
  refine Ct.of2 (lv0 := [some (va_rf (some a0)), some (.int a1), none]) (by decide +kernel) (by simp [lg_sl, rf_cat, cat_i, cat_l]) rfl ?_
  unfold f_X10_again at hB
  refine q_iload_n dX10_again_0 rfl rfl ?_
  refine q_i2l dX10_again_1 ?_
  refine q_lconst (v := 0) dX10_again_2 (by decide) ?_
  refine q_lconst (v := 1) dX10_again_3 (by decide) ?_
  refine q_callSI (k' := 0) (w' := 0) hB (fun a hf => c_X10_in g l _ _ _ _ a hf) rfl dX10_again_4 wd_825 cs_X10_in wd_826 rfl ⟨⟨Nat.le_of_ble_eq_true rfl, Nat.le_of_ble_eq_true rfl⟩, ⟨Nat.le_of_ble_eq_true rfl, Nat.le_of_ble_eq_true rfl⟩, Nat.le_of_ble_eq_true rfl⟩ rfl rfl (fun r1 hB => ?_)
  refine q_if_ne (tgt := 12) hB dX10_again_7 (by decide) (fun hB => ?_) (fun hB => ?_)
  · refine q_aload_n dX10_again_12 rfl rfl ?_
    refine q_getP (j := 28) hB dX10_again_13 fc_8 (by decide) rfl wd_757 (fun n2 hB => ?_)
    refine q_iload_n dX10_again_16 rfl rfl ?_
    refine q_zald hB dX10_again_17 (fun n3 hB => ?_)
    refine q_if_ne (tgt := 24) hB dX10_again_18 (by decide) (fun hB => ?_) (fun hB => ?_)
    · refine q_iconst (v := 0) dX10_again_24 (by decide) ?_
      refine q_istore_n dX10_again_25 rfl (by decide) (nb_i (j := 1) rfl) ?_
      exact Wq.mask [true, true, true] rfl (wl_X10_again_26 g l o FU _ _ _ _ hB)
    · refine q_bipush (v := -3) dX10_again_21 (by decide) ?_
      exact q_iret hB dX10_again_23 rfl (by decide) (by decide)
  · refine q_iconst (v := -1) dX10_again_10 (by decide) ?_
    exact q_iret hB dX10_again_11 rfl (by decide) (by decide)

def b_X2_meetings_44  (k4 : Nat → Option Nat → Int32 → Int32 → HS → Option (Int32 × HS)) (k15 : Nat → Option Nat → Int32 → Int32 → Int32 → HS → Option (Int32 × HS)) (a0 : Nat) (a1 : Option Nat) (a2 : Int32) (a3 : Int32) (a4 : Int32) (h : HS) : Option (Int32 × HS) :=
  k15 a0 a1 a2 a3 (a4 + (1 : Int32)) h
def b_X2_meetings_15  (k4 : Nat → Option Nat → Int32 → Int32 → HS → Option (Int32 × HS)) (k15 : Nat → Option Nat → Int32 → Int32 → Int32 → HS → Option (Int32 × HS)) (a0 : Nat) (a1 : Option Nat) (a2 : Int32) (a3 : Int32) (a4 : Int32) (h : HS) : Option (Int32 × HS) :=
  nn a1 (fun n1 => gd (ck h n1 2) ((if (hI h n1 3) ≤ a4 then k4 a0 a1 a2 (a3 + (1 : Int32)) h else nn (some a0) (fun n2 => gd (ck h n2 2) (nn (hP h n2 1) (fun n3 => gd (ca h n3 9 a3) (nn a1 (fun n4 => gd (ck h n4 2) (nn (hP h n4 1) (fun n5 => gd (ca h n5 9 a4) ((if ((hI h n3 a3.toNatClampNeg) &&& (hI h n5 a4.toNatClampNeg)) = 0 then b_X2_meetings_44 k4 k15 a0 a1 a2 a3 a4 h else b_X2_meetings_44 k4 k15 a0 a1 (a2 + (1 : Int32)) a3 a4 h))))))))))))
def l_X2_meetings_15  (k4 : Nat → Option Nat → Int32 → Int32 → HS → Option (Int32 × HS)) : Nat → Nat → Option Nat → Int32 → Int32 → Int32 → HS → Option (Int32 × HS)
  | 0 => fun _ _ _ _ _ _ => none
  | n + 1 => b_X2_meetings_15 k4 (l_X2_meetings_15 k4 n)
def b_X2_meetings_4  (k4 : Nat → Option Nat → Int32 → Int32 → HS → Option (Int32 × HS)) (a0 : Nat) (a1 : Option Nat) (a2 : Int32) (a3 : Int32) (h : HS) : Option (Int32 × HS) :=
  nn (some a0) (fun n1 => gd (ck h n1 2) ((if (hI h n1 3) ≤ a3 then some (a2, h) else l_X2_meetings_15 k4 FU a0 a1 a2 a3 (0 : Int32) h)))
def l_X2_meetings_4  : Nat → Nat → Option Nat → Int32 → Int32 → HS → Option (Int32 × HS)
  | 0 => fun _ _ _ _ _ => none
  | n + 1 => b_X2_meetings_4 (l_X2_meetings_4 n)
def f_X2_meetings  (a0 : Nat) (a1 : Option Nat) (h : HS) : Option (Int32 × HS) :=
  l_X2_meetings_4 FU a0 a1 (0 : Int32) (0 : Int32) h
set_option maxHeartbeats 4000000 in
set_option maxRecDepth 100000 in
theorem wb_X2_meetings_44 (g : GG) (l : Launch) (k4 : Nat → Option Nat → Int32 → Int32 → HS → Option (Int32 × HS)) (k15 : Nat → Option Nat → Int32 → Int32 → Int32 → HS → Option (Int32 × HS)) (a0 : Nat) (a1 : Option Nat) (a2 : Int32) (a3 : Int32) (a4 : Int32) (h : HS) (o : Int32 × HS) (hB : b_X2_meetings_44 k4 k15 a0 a1 a2 a3 a4 h = some o) (hk4 : ∀ (a0 : Nat) (a1 : Option Nat) (a2 : Int32) (a3 : Int32) (h : HS), k4 a0 a1 a2 a3 h = some o → Wq g l mX2_meetings 0 0 4 [some (va_rf (some a0)), some (va_rf a1), some (.int a2), some (.int a3), none] [] h (QI o)) (hk15 : ∀ (a0 : Nat) (a1 : Option Nat) (a2 : Int32) (a3 : Int32) (a4 : Int32) (h : HS), k15 a0 a1 a2 a3 a4 h = some o → Wq g l mX2_meetings 0 0 15 [some (va_rf (some a0)), some (va_rf a1), some (.int a2), some (.int a3), some (.int a4)] [] h (QI o)) : Wq g l mX2_meetings 0 0 44 [some (va_rf (some a0)), some (va_rf a1), some (.int a2), some (.int a3), some (.int a4)] [] h (QI o) := by
  unfold b_X2_meetings_44 at hB
  refine q_iinc dX2_meetings_44 rfl (show _ = (a4 + (1 : Int32)) from rfl) (by decide) (nb_i (j := 3) rfl) ?_
  refine q_goto (tgt := 15) dX2_meetings_47 (by decide) ?_
  exact Wq.mask [true, true, true, true, true] rfl (hk15 _ _ _ _ _ _ hB)
set_option maxHeartbeats 4000000 in
set_option maxRecDepth 100000 in
theorem wb_X2_meetings_15 (g : GG) (l : Launch) (k4 : Nat → Option Nat → Int32 → Int32 → HS → Option (Int32 × HS)) (k15 : Nat → Option Nat → Int32 → Int32 → Int32 → HS → Option (Int32 × HS)) (a0 : Nat) (a1 : Option Nat) (a2 : Int32) (a3 : Int32) (a4 : Int32) (h : HS) (o : Int32 × HS) (hB : b_X2_meetings_15 k4 k15 a0 a1 a2 a3 a4 h = some o) (hk4 : ∀ (a0 : Nat) (a1 : Option Nat) (a2 : Int32) (a3 : Int32) (h : HS), k4 a0 a1 a2 a3 h = some o → Wq g l mX2_meetings 0 0 4 [some (va_rf (some a0)), some (va_rf a1), some (.int a2), some (.int a3), none] [] h (QI o)) (hk15 : ∀ (a0 : Nat) (a1 : Option Nat) (a2 : Int32) (a3 : Int32) (a4 : Int32) (h : HS), k15 a0 a1 a2 a3 a4 h = some o → Wq g l mX2_meetings 0 0 15 [some (va_rf (some a0)), some (va_rf a1), some (.int a2), some (.int a3), some (.int a4)] [] h (QI o)) : Wq g l mX2_meetings 0 0 15 [some (va_rf (some a0)), some (va_rf a1), some (.int a2), some (.int a3), some (.int a4)] [] h (QI o) := by
  unfold b_X2_meetings_15 at hB
  refine q_iload dX2_meetings_15 rfl ?_
  refine q_aload_n dX2_meetings_17 rfl rfl ?_
  refine q_getI (j := 3) hB dX2_meetings_18 fc_2 (by decide) rfl wd_204 (fun n1 hB => ?_)
  refine q_icmp_ge (tgt := 50) hB dX2_meetings_21 (by decide) (fun hB => ?_) (fun hB => ?_)
  · refine q_iinc dX2_meetings_50 rfl (show _ = (a3 + (1 : Int32)) from rfl) (by decide) (nb_i (j := 2) rfl) ?_
    refine q_goto (tgt := 4) dX2_meetings_53 (by decide) ?_
    exact Wq.mask [true, true, true, true, false] rfl (hk4 _ _ _ _ _ hB)
  · refine q_aload_n dX2_meetings_24 rfl rfl ?_
    refine q_getP (j := 1) hB dX2_meetings_25 fc_2 (by decide) rfl wd_202 (fun n2 hB => ?_)
    refine q_iload_n dX2_meetings_28 rfl rfl ?_
    refine q_iald hB dX2_meetings_29 (fun n3 hB => ?_)
    refine q_aload_n dX2_meetings_30 rfl rfl ?_
    refine q_getP (j := 1) hB dX2_meetings_31 fc_2 (by decide) rfl wd_202 (fun n4 hB => ?_)
    refine q_iload dX2_meetings_34 rfl ?_
    refine q_iald hB dX2_meetings_36 (fun n5 hB => ?_)
    refine q_iand dX2_meetings_37 ?_
    refine q_if_eq (tgt := 44) hB dX2_meetings_38 (by decide) (fun hB => ?_) (fun hB => ?_)
    · exact Wq.mask [true, true, true, true, true] rfl (wb_X2_meetings_44 g l k4 k15 _ _ _ _ _ _ o hB hk4 hk15)
    · refine q_iinc dX2_meetings_41 rfl (show _ = (a2 + (1 : Int32)) from rfl) (by decide) (nb_r (j := 1) rfl) ?_
      exact Wq.mask [true, true, true, true, true] rfl (wb_X2_meetings_44 g l k4 k15 _ _ _ _ _ _ o hB hk4 hk15)
set_option maxHeartbeats 4000000 in
theorem wl_X2_meetings_15 (g : GG) (l : Launch) (k4 : Nat → Option Nat → Int32 → Int32 → HS → Option (Int32 × HS)) (o : Int32 × HS) (hk4 : ∀ (a0 : Nat) (a1 : Option Nat) (a2 : Int32) (a3 : Int32) (h : HS), k4 a0 a1 a2 a3 h = some o → Wq g l mX2_meetings 0 0 4 [some (va_rf (some a0)), some (va_rf a1), some (.int a2), some (.int a3), none] [] h (QI o)) : ∀ (n : Nat) (a0 : Nat) (a1 : Option Nat) (a2 : Int32) (a3 : Int32) (a4 : Int32) (h : HS), l_X2_meetings_15 k4 n a0 a1 a2 a3 a4 h = some o → Wq g l mX2_meetings 0 0 15 [some (va_rf (some a0)), some (va_rf a1), some (.int a2), some (.int a3), some (.int a4)] [] h (QI o) := by
  intro n
  induction n with
  | zero =>
    intro a0 a1 a2 a3 a4  h hB
    have q : (none : Option (Int32 × HS)) = some o := hB
    cases q
  | succ n ih =>
    intro a0 a1 a2 a3 a4  h hB
    exact wb_X2_meetings_15 g l k4 (l_X2_meetings_15 k4 n) a0 a1 a2 a3 a4 h o hB hk4 ih
set_option maxHeartbeats 4000000 in
set_option maxRecDepth 100000 in
theorem wb_X2_meetings_4 (g : GG) (l : Launch) (k4 : Nat → Option Nat → Int32 → Int32 → HS → Option (Int32 × HS)) (a0 : Nat) (a1 : Option Nat) (a2 : Int32) (a3 : Int32) (h : HS) (o : Int32 × HS) (hB : b_X2_meetings_4 k4 a0 a1 a2 a3 h = some o) (hk4 : ∀ (a0 : Nat) (a1 : Option Nat) (a2 : Int32) (a3 : Int32) (h : HS), k4 a0 a1 a2 a3 h = some o → Wq g l mX2_meetings 0 0 4 [some (va_rf (some a0)), some (va_rf a1), some (.int a2), some (.int a3), none] [] h (QI o)) : Wq g l mX2_meetings 0 0 4 [some (va_rf (some a0)), some (va_rf a1), some (.int a2), some (.int a3), none] [] h (QI o) := by
  unfold b_X2_meetings_4 at hB
  refine q_iload_n dX2_meetings_4 rfl rfl ?_
  refine q_aload_n dX2_meetings_5 rfl rfl ?_
  refine q_getI (j := 3) hB dX2_meetings_6 fc_2 (by decide) rfl wd_204 (fun n1 hB => ?_)
  refine q_icmp_ge (tgt := 56) hB dX2_meetings_9 (by decide) (fun hB => ?_) (fun hB => ?_)
  · refine q_iload_n dX2_meetings_56 rfl rfl ?_
    exact q_iret hB dX2_meetings_57 rfl (by decide) (by decide)
  · refine q_iconst (v := 0) dX2_meetings_12 (by decide) ?_
    refine q_istore dX2_meetings_13 (by decide) (nb_i (j := 3) rfl) ?_
    exact Wq.mask [true, true, true, true, true] rfl (wl_X2_meetings_15 g l k4 o hk4 FU _ _ _ _ _ _ hB)
set_option maxHeartbeats 4000000 in
theorem wl_X2_meetings_4 (g : GG) (l : Launch) (o : Int32 × HS) : ∀ (n : Nat) (a0 : Nat) (a1 : Option Nat) (a2 : Int32) (a3 : Int32) (h : HS), l_X2_meetings_4 n a0 a1 a2 a3 h = some o → Wq g l mX2_meetings 0 0 4 [some (va_rf (some a0)), some (va_rf a1), some (.int a2), some (.int a3), none] [] h (QI o) := by
  intro n
  induction n with
  | zero =>
    intro a0 a1 a2 a3  h hB
    have q : (none : Option (Int32 × HS)) = some o := hB
    cases q
  | succ n ih =>
    intro a0 a1 a2 a3  h hB
    exact wb_X2_meetings_4 g l (l_X2_meetings_4 n) a0 a1 a2 a3 h o hB ih
set_option maxHeartbeats 4000000 in
set_option maxRecDepth 100000 in
theorem c_X2_meetings (g : GG) (l : Launch) (a0 : Nat) (a1 : Option Nat) (h : HS) (o : Int32 × HS) (hB : f_X2_meetings a0 a1 h = some o) : Ct g l mX2_meetings [va_rf (some a0), va_rf a1] h (QI o) := by
  refine Ct.of2 (lv0 := [some (va_rf (some a0)), some (va_rf a1), none, none, none]) (by decide +kernel) (by simp [lg_sl, rf_cat, cat_i, cat_l]) (by simp only [entL_r, entL_i, entL_l]; rfl) ?_
  unfold f_X2_meetings at hB
  refine q_iconst (v := 0) dX2_meetings_0 (by decide) ?_
  refine q_istore_n dX2_meetings_1 rfl (by decide) (nb_r (j := 1) rfl) ?_
  refine q_iconst (v := 0) dX2_meetings_2 (by decide) ?_
  refine q_istore_n dX2_meetings_3 rfl (by decide) (nb_i (j := 2) rfl) ?_
  exact Wq.mask [true, true, true, true, false] rfl (wl_X2_meetings_4 g l o FU _ _ _ _ _ hB)

def b_X9_count_48  (a0 : Nat) (h : HS) : Option (Int32 × HS) :=
  nn (some a0) (fun n1 => gd (ck h n1 7) (nn (hP h n1 0) (fun n2 => gd (ck h n2 5) (some ((hI h n2 1), h)))))
def b_X9_count_56  (a0 : Nat) (h : HS) : Option (Int32 × HS) :=
  nn (some a0) (fun n1 => gd (ck h n1 7) (nn (hP h n1 3) (fun n2 => gd (ck h n2 3) (some ((hI h n2 3), h)))))
def b_X9_count_64  (a0 : Nat) (h : HS) : Option (Int32 × HS) :=
  nn (some a0) (fun n1 => gd (ck h n1 7) (nn (some a0) (fun n3 => gd (rk h n3 7) (bd (f_X9_rowsOf n3 (hP h n1 3) h) (fun r2 => nn r2.1 (fun n4 => gd (ck r2.2 n4 2) (some ((hI r2.2 n4 3), r2.2))))))))
def b_X9_count_76  (a0 : Nat) (h : HS) : Option (Int32 × HS) :=
  nn (some a0) (fun n1 => gd (ck h n1 7) (nn (some a0) (fun n3 => gd (rk h n3 7) (bd (f_X9_columnsOf n3 (hP h n1 3) h) (fun r2 => nn r2.1 (fun n4 => gd (ck r2.2 n4 2) (some ((hI r2.2 n4 3), r2.2))))))))
def b_X9_count_88  (a0 : Nat) (h : HS) : Option (Int32 × HS) :=
  nn (some a0) (fun n1 => gd (ck h n1 7) (nn (some a0) (fun n3 => gd (rk h n3 7) (bd (f_X9_rowsOf n3 (hP h n1 3) h) (fun r2 => nn (some a0) (fun n4 => gd (ck r2.2 n4 7) (nn (some a0) (fun n6 => gd (rk r2.2 n6 7) (bd (f_X9_columnsOf n6 (hP r2.2 n4 3) r2.2) (fun r5 => nn r2.1 (fun n8 => gd (rk r5.2 n8 2) (bd (f_X2_meetings n8 r5.1 r5.2) (fun r7 => some (r7.1, r7.2))))))))))))))
def b_X9_count_108  (a0 : Nat) (h : HS) : Option (Int32 × HS) :=
  nn (some a0) (fun n1 => gd (ck h n1 7) (nn (hP h n1 3) (fun n3 => gd (rk h n3 3) (bd (f_X3_missing n3 h) (fun r2 => bd (f_J6_bitCount_0f7a4 r2.1 r2.2) (fun r4 => some (r4.1, r4.2)))))))
def b_X9_count_119  (a0 : Nat) (h : HS) : Option (Int32 × HS) :=
  nn (some a0) (fun n1 => gd (ck h n1 7) (nn (hP h n1 5) (fun n2 => gd (ck h n2 1) (some ((hI h n2 1), h)))))
def b_X9_count_127  (a0 : Nat) (h : HS) : Option (Int32 × HS) :=
  nn (some a0) (fun n1 => gd (ck h n1 7) (nn (hP h n1 8) (fun n2 => gd (ck h n2 6) (some ((hI h n2 3), h)))))
def b_X9_count_135  (h : HS) : Option (Int32 × HS) :=
  some ((-2 : Int32), h)
def f_X9_count  (a0 : Nat) (a1 : Int32) (h : HS) : Option (Int32 × HS) :=
  swT a1 0 [b_X9_count_48 a0 h, b_X9_count_56 a0 h, b_X9_count_64 a0 h, b_X9_count_76 a0 h, b_X9_count_88 a0 h, b_X9_count_108 a0 h, b_X9_count_119 a0 h, b_X9_count_127 a0 h] (b_X9_count_135 h)
set_option maxHeartbeats 4000000 in
set_option maxRecDepth 100000 in
theorem wb_X9_count_48 (g : GG) (l : Launch) (a0 : Nat) (h : HS) (o : Int32 × HS) (hB : b_X9_count_48 a0 h = some o) : Wq g l mX9_count 0 0 48 [some (va_rf (some a0)), none] [] h (QI o) := by
  unfold b_X9_count_48 at hB
  refine q_aload_n dX9_count_48 rfl rfl ?_
  refine q_getP (j := 0) hB dX9_count_49 fc_7 (by decide) rfl wd_240 (fun n1 hB => ?_)
  refine q_getI (j := 1) hB dX9_count_52 fc_5 (by decide) rfl wd_84 (fun n2 hB => ?_)
  exact q_iret hB dX9_count_55 rfl (by decide) (by decide)
set_option maxHeartbeats 4000000 in
set_option maxRecDepth 100000 in
theorem wb_X9_count_56 (g : GG) (l : Launch) (a0 : Nat) (h : HS) (o : Int32 × HS) (hB : b_X9_count_56 a0 h = some o) : Wq g l mX9_count 0 0 56 [some (va_rf (some a0)), none] [] h (QI o) := by
  unfold b_X9_count_56 at hB
  refine q_aload_n dX9_count_56 rfl rfl ?_
  refine q_getP (j := 3) hB dX9_count_57 fc_7 (by decide) rfl wd_243 (fun n1 hB => ?_)
  refine q_getI (j := 3) hB dX9_count_60 fc_3 (by decide) rfl wd_147 (fun n2 hB => ?_)
  exact q_iret hB dX9_count_63 rfl (by decide) (by decide)
set_option maxHeartbeats 4000000 in
set_option maxRecDepth 100000 in
theorem wb_X9_count_64 (g : GG) (l : Launch) (a0 : Nat) (h : HS) (o : Int32 × HS) (hB : b_X9_count_64 a0 h = some o) : Wq g l mX9_count 0 0 64 [some (va_rf (some a0)), none] [] h (QI o) := by
  unfold b_X9_count_64 at hB
  refine q_aload_n dX9_count_64 rfl rfl ?_
  refine q_aload_n dX9_count_65 rfl rfl ?_
  refine q_getP (j := 3) hB dX9_count_66 fc_7 (by decide) rfl wd_243 (fun n1 hB => ?_)
  refine q_callVP (k' := 0) (w' := 0) hB (fun b a hf => c_X9_rowsOf g l b _ _ a hf) rfl rfl dX9_count_69 wd_380 cs_X9_rowsOf wd_382 wd_3 rfl ⟨⟨Nat.le_of_ble_eq_true rfl, Nat.le_of_ble_eq_true rfl⟩, ⟨Nat.le_of_ble_eq_true rfl, Nat.le_of_ble_eq_true rfl⟩, Nat.le_of_ble_eq_true rfl⟩ rfl rfl (fun n3 r2 hB => ?_)
  refine q_getI (j := 3) hB dX9_count_72 fc_2 (by decide) rfl wd_205 (fun n4 hB => ?_)
  exact q_iret hB dX9_count_75 rfl (by decide) (by decide)
set_option maxHeartbeats 4000000 in
set_option maxRecDepth 100000 in
theorem wb_X9_count_76 (g : GG) (l : Launch) (a0 : Nat) (h : HS) (o : Int32 × HS) (hB : b_X9_count_76 a0 h = some o) : Wq g l mX9_count 0 0 76 [some (va_rf (some a0)), none] [] h (QI o) := by
  unfold b_X9_count_76 at hB
  refine q_aload_n dX9_count_76 rfl rfl ?_
  refine q_aload_n dX9_count_77 rfl rfl ?_
  refine q_getP (j := 3) hB dX9_count_78 fc_7 (by decide) rfl wd_243 (fun n1 hB => ?_)
  refine q_callVP (k' := 0) (w' := 0) hB (fun b a hf => c_X9_columnsOf g l b _ _ a hf) rfl rfl dX9_count_81 wd_533 cs_X9_columnsOf wd_535 wd_7 rfl ⟨⟨Nat.le_of_ble_eq_true rfl, Nat.le_of_ble_eq_true rfl⟩, ⟨Nat.le_of_ble_eq_true rfl, Nat.le_of_ble_eq_true rfl⟩, Nat.le_of_ble_eq_true rfl⟩ rfl rfl (fun n3 r2 hB => ?_)
  refine q_getI (j := 3) hB dX9_count_84 fc_2 (by decide) rfl wd_205 (fun n4 hB => ?_)
  exact q_iret hB dX9_count_87 rfl (by decide) (by decide)
set_option maxHeartbeats 4000000 in
set_option maxRecDepth 100000 in
theorem wb_X9_count_88 (g : GG) (l : Launch) (a0 : Nat) (h : HS) (o : Int32 × HS) (hB : b_X9_count_88 a0 h = some o) : Wq g l mX9_count 0 0 88 [some (va_rf (some a0)), none] [] h (QI o) := by
  unfold b_X9_count_88 at hB
  refine q_aload_n dX9_count_88 rfl rfl ?_
  refine q_aload_n dX9_count_89 rfl rfl ?_
  refine q_getP (j := 3) hB dX9_count_90 fc_7 (by decide) rfl wd_243 (fun n1 hB => ?_)
  refine q_callVP (k' := 0) (w' := 0) hB (fun b a hf => c_X9_rowsOf g l b _ _ a hf) rfl rfl dX9_count_93 wd_380 cs_X9_rowsOf wd_382 wd_3 rfl ⟨⟨Nat.le_of_ble_eq_true rfl, Nat.le_of_ble_eq_true rfl⟩, ⟨Nat.le_of_ble_eq_true rfl, Nat.le_of_ble_eq_true rfl⟩, Nat.le_of_ble_eq_true rfl⟩ rfl rfl (fun n3 r2 hB => ?_)
  refine q_aload_n dX9_count_96 rfl rfl ?_
  refine q_aload_n dX9_count_97 rfl rfl ?_
  refine q_getP (j := 3) hB dX9_count_98 fc_7 (by decide) rfl wd_243 (fun n4 hB => ?_)
  refine q_callVP (k' := 0) (w' := 0) hB (fun b a hf => c_X9_columnsOf g l b _ _ a hf) rfl rfl dX9_count_101 wd_533 cs_X9_columnsOf wd_535 wd_7 rfl ⟨⟨Nat.le_of_ble_eq_true rfl, Nat.le_of_ble_eq_true rfl⟩, ⟨Nat.le_of_ble_eq_true rfl, Nat.le_of_ble_eq_true rfl⟩, by simp [rf_cat, cat_i, cat_l]⟩ rfl rfl (fun n6 r5 hB => ?_)
  refine q_callVI (k' := 0) (w' := 0) hB (fun b a hf => c_X2_meetings g l b _ _ a hf) rfl rfl dX9_count_104 wd_718 cs_X2_meetings wd_719 wd_720 rfl ⟨⟨Nat.le_of_ble_eq_true rfl, Nat.le_of_ble_eq_true rfl⟩, ⟨Nat.le_of_ble_eq_true rfl, Nat.le_of_ble_eq_true rfl⟩, Nat.le_of_ble_eq_true rfl⟩ rfl rfl (fun n8 r7 hB => ?_)
  exact q_iret hB dX9_count_107 rfl (by decide) (by decide)
set_option maxHeartbeats 4000000 in
set_option maxRecDepth 100000 in
theorem wb_X9_count_108 (g : GG) (l : Launch) (a0 : Nat) (h : HS) (o : Int32 × HS) (hB : b_X9_count_108 a0 h = some o) : Wq g l mX9_count 0 0 108 [some (va_rf (some a0)), none] [] h (QI o) := by
  unfold b_X9_count_108 at hB
  refine q_aload_n dX9_count_108 rfl rfl ?_
  refine q_getP (j := 3) hB dX9_count_109 fc_7 (by decide) rfl wd_243 (fun n1 hB => ?_)
  refine q_callVI (k' := 0) (w' := 0) hB (fun b a hf => c_X3_missing g l b _ a hf) rfl rfl dX9_count_112 wd_722 cs_X3_missing wd_416 wd_417 rfl ⟨⟨Nat.le_of_ble_eq_true rfl, Nat.le_of_ble_eq_true rfl⟩, ⟨Nat.le_of_ble_eq_true rfl, Nat.le_of_ble_eq_true rfl⟩, Nat.le_of_ble_eq_true rfl⟩ rfl rfl (fun n3 r2 hB => ?_)
  refine q_callSI (k' := 0) (w' := 0) hB (fun a hf => c_J6_bitCount_0f7a4 g l _ _ a hf) rfl dX9_count_115 wd_658 cs_J6_bitCount_0f7a4 wd_410 rfl ⟨⟨Nat.le_of_ble_eq_true rfl, Nat.le_of_ble_eq_true rfl⟩, ⟨Nat.le_of_ble_eq_true rfl, Nat.le_of_ble_eq_true rfl⟩, Nat.le_of_ble_eq_true rfl⟩ rfl rfl (fun r4 hB => ?_)
  exact q_iret hB dX9_count_118 rfl (by decide) (by decide)
set_option maxHeartbeats 4000000 in
set_option maxRecDepth 100000 in
theorem wb_X9_count_119 (g : GG) (l : Launch) (a0 : Nat) (h : HS) (o : Int32 × HS) (hB : b_X9_count_119 a0 h = some o) : Wq g l mX9_count 0 0 119 [some (va_rf (some a0)), none] [] h (QI o) := by
  unfold b_X9_count_119 at hB
  refine q_aload_n dX9_count_119 rfl rfl ?_
  refine q_getP (j := 5) hB dX9_count_120 fc_7 (by decide) rfl wd_245 (fun n1 hB => ?_)
  refine q_getI (j := 1) hB dX9_count_123 fc_1 (by decide) rfl wd_188 (fun n2 hB => ?_)
  exact q_iret hB dX9_count_126 rfl (by decide) (by decide)
set_option maxHeartbeats 4000000 in
set_option maxRecDepth 100000 in
theorem wb_X9_count_127 (g : GG) (l : Launch) (a0 : Nat) (h : HS) (o : Int32 × HS) (hB : b_X9_count_127 a0 h = some o) : Wq g l mX9_count 0 0 127 [some (va_rf (some a0)), none] [] h (QI o) := by
  unfold b_X9_count_127 at hB
  refine q_aload_n dX9_count_127 rfl rfl ?_
  refine q_getP (j := 8) hB dX9_count_128 fc_7 (by decide) rfl wd_248 (fun n1 hB => ?_)
  refine q_getI (j := 3) hB dX9_count_131 fc_6 (by decide) rfl wd_228 (fun n2 hB => ?_)
  exact q_iret hB dX9_count_134 rfl (by decide) (by decide)
set_option maxHeartbeats 4000000 in
set_option maxRecDepth 100000 in
theorem wb_X9_count_135 (g : GG) (l : Launch) (h : HS) (o : Int32 × HS) (hB : b_X9_count_135  h = some o) : Wq g l mX9_count 0 0 135 [none, none] [] h (QI o) := by
  unfold b_X9_count_135 at hB
  refine q_bipush (v := -2) dX9_count_135 (by decide) ?_
  exact q_iret hB dX9_count_137 rfl (by decide) (by decide)
set_option maxHeartbeats 4000000 in
set_option maxRecDepth 100000 in
theorem c_X9_count (g : GG) (l : Launch) (a0 : Nat) (a1 : Int32) (h : HS) (o : Int32 × HS) (hB : f_X9_count a0 a1 h = some o) : Ct g l mX9_count [va_rf (some a0), .int a1] h (QI o) := by
  refine Ct.of2 (lv0 := [some (va_rf (some a0)), some (.int a1)]) (by decide +kernel) (by simp [lg_sl, rf_cat, cat_i, cat_l]) rfl ?_
  unfold f_X9_count at hB
  refine q_iload_n dX9_count_0 rfl rfl ?_
  refine q_tab (dt := 135) [48, 56, 64, 76, 88, 108, 119, 127] hB dX9_count_1 rfl rfl (by decide) (by decide) (fun hB => ?_) (fun i hi hB => ?_)
  · exact Wq.mask [false, false] rfl (wb_X9_count_135 g l _ o hB)
  · match i, hi, hB with
    | 0, _, hB =>
      simp only [List.getD_cons_zero, List.getD_cons_succ] at hB
      exact Wq.mask [true, false] rfl (wb_X9_count_48 g l _ _ o hB)
    | 1, _, hB =>
      simp only [List.getD_cons_zero, List.getD_cons_succ] at hB
      exact Wq.mask [true, false] rfl (wb_X9_count_56 g l _ _ o hB)
    | 2, _, hB =>
      simp only [List.getD_cons_zero, List.getD_cons_succ] at hB
      exact Wq.mask [true, false] rfl (wb_X9_count_64 g l _ _ o hB)
    | 3, _, hB =>
      simp only [List.getD_cons_zero, List.getD_cons_succ] at hB
      exact Wq.mask [true, false] rfl (wb_X9_count_76 g l _ _ o hB)
    | 4, _, hB =>
      simp only [List.getD_cons_zero, List.getD_cons_succ] at hB
      exact Wq.mask [true, false] rfl (wb_X9_count_88 g l _ _ o hB)
    | 5, _, hB =>
      simp only [List.getD_cons_zero, List.getD_cons_succ] at hB
      exact Wq.mask [true, false] rfl (wb_X9_count_108 g l _ _ o hB)
    | 6, _, hB =>
      simp only [List.getD_cons_zero, List.getD_cons_succ] at hB
      exact Wq.mask [true, false] rfl (wb_X9_count_119 g l _ _ o hB)
    | 7, _, hB =>
      simp only [List.getD_cons_zero, List.getD_cons_succ] at hB
      exact Wq.mask [true, false] rfl (wb_X9_count_127 g l _ _ o hB)
    | n + 8, hi, _ => exact absurd hi (by simp only [List.length_cons, List.length_nil]; omega)

def b_X10_filledCells_44  (k4 : Nat → Int32 → Int32 → HS → Option (Int32 × HS)) (k14 : Nat → Int32 → Int32 → Int32 → HS → Option (Int32 × HS)) (a0 : Nat) (a2 : Int32) (a3 : Int32) (s0 : Int32) (s1 : Int32) (h : HS) : Option (Int32 × HS) :=
  k14 a0 (s0 + s1) a2 (a3 + (1 : Int32)) h
def b_X10_filledCells_14  (k4 : Nat → Int32 → Int32 → HS → Option (Int32 × HS)) (k14 : Nat → Int32 → Int32 → Int32 → HS → Option (Int32 × HS)) (a0 : Nat) (a1 : Int32) (a2 : Int32) (a3 : Int32) (h : HS) : Option (Int32 × HS) :=
  nn (some a0) (fun n1 => gd (ck h n1 8) ((if (hI h n1 14) ≤ a3 then k4 a0 a1 (a2 + (1 : Int32)) h else nn (some a0) (fun n2 => gd (ck h n2 8) (nn (hP h n2 16) (fun n3 => gd (ca h n3 9 a2) (nn (some a0) (fun n4 => gd (ck h n4 8) (nn (hP h n4 18) (fun n5 => gd (ca h n5 9 a3) ((if ((hI h n3 a2.toNatClampNeg) &&& (hI h n5 a3.toNatClampNeg)) = 0 then b_X10_filledCells_44 k4 k14 a0 a2 a3 a1 (0 : Int32) h else b_X10_filledCells_44 k4 k14 a0 a2 a3 a1 (1 : Int32) h))))))))))))
def l_X10_filledCells_14  (k4 : Nat → Int32 → Int32 → HS → Option (Int32 × HS)) : Nat → Nat → Int32 → Int32 → Int32 → HS → Option (Int32 × HS)
  | 0 => fun _ _ _ _ _ => none
  | n + 1 => b_X10_filledCells_14 k4 (l_X10_filledCells_14 k4 n)
def b_X10_filledCells_4  (k4 : Nat → Int32 → Int32 → HS → Option (Int32 × HS)) (a0 : Nat) (a1 : Int32) (a2 : Int32) (h : HS) : Option (Int32 × HS) :=
  nn (some a0) (fun n1 => gd (ck h n1 8) ((if (hI h n1 13) ≤ a2 then some (a1, h) else l_X10_filledCells_14 k4 FU a0 a1 a2 (0 : Int32) h)))
def l_X10_filledCells_4  : Nat → Nat → Int32 → Int32 → HS → Option (Int32 × HS)
  | 0 => fun _ _ _ _ => none
  | n + 1 => b_X10_filledCells_4 (l_X10_filledCells_4 n)
def f_X10_filledCells  (a0 : Nat) (h : HS) : Option (Int32 × HS) :=
  l_X10_filledCells_4 FU a0 (0 : Int32) (0 : Int32) h
set_option maxHeartbeats 4000000 in
set_option maxRecDepth 100000 in
theorem wb_X10_filledCells_44 (g : GG) (l : Launch) (k4 : Nat → Int32 → Int32 → HS → Option (Int32 × HS)) (k14 : Nat → Int32 → Int32 → Int32 → HS → Option (Int32 × HS)) (a0 : Nat) (a2 : Int32) (a3 : Int32) (s0 : Int32) (s1 : Int32) (h : HS) (o : Int32 × HS) (hB : b_X10_filledCells_44 k4 k14 a0 a2 a3 s0 s1 h = some o) (hk4 : ∀ (a0 : Nat) (a1 : Int32) (a2 : Int32) (h : HS), k4 a0 a1 a2 h = some o → Wq g l mX10_filledCells 0 0 4 [some (va_rf (some a0)), some (.int a1), some (.int a2), none] [] h (QI o)) (hk14 : ∀ (a0 : Nat) (a1 : Int32) (a2 : Int32) (a3 : Int32) (h : HS), k14 a0 a1 a2 a3 h = some o → Wq g l mX10_filledCells 0 0 14 [some (va_rf (some a0)), some (.int a1), some (.int a2), some (.int a3)] [] h (QI o)) : Wq g l mX10_filledCells 0 0 44 [some (va_rf (some a0)), none, some (.int a2), some (.int a3)] [.int s1, .int s0] h (QI o) := by
  unfold b_X10_filledCells_44 at hB
  refine q_iadd dX10_filledCells_44 ?_
  refine q_istore_n dX10_filledCells_45 rfl (by decide) (nb_r (j := 0) rfl) ?_
  refine q_iinc dX10_filledCells_46 rfl (show _ = (a3 + (1 : Int32)) from rfl) (by decide) (nb_i (j := 2) rfl) ?_
  refine q_goto (tgt := 14) dX10_filledCells_49 (by decide) ?_
  exact Wq.mask [true, true, true, true] rfl (hk14 _ _ _ _ _ hB)
set_option maxHeartbeats 4000000 in
set_option maxRecDepth 100000 in
theorem wb_X10_filledCells_14 (g : GG) (l : Launch) (k4 : Nat → Int32 → Int32 → HS → Option (Int32 × HS)) (k14 : Nat → Int32 → Int32 → Int32 → HS → Option (Int32 × HS)) (a0 : Nat) (a1 : Int32) (a2 : Int32) (a3 : Int32) (h : HS) (o : Int32 × HS) (hB : b_X10_filledCells_14 k4 k14 a0 a1 a2 a3 h = some o) (hk4 : ∀ (a0 : Nat) (a1 : Int32) (a2 : Int32) (h : HS), k4 a0 a1 a2 h = some o → Wq g l mX10_filledCells 0 0 4 [some (va_rf (some a0)), some (.int a1), some (.int a2), none] [] h (QI o)) (hk14 : ∀ (a0 : Nat) (a1 : Int32) (a2 : Int32) (a3 : Int32) (h : HS), k14 a0 a1 a2 a3 h = some o → Wq g l mX10_filledCells 0 0 14 [some (va_rf (some a0)), some (.int a1), some (.int a2), some (.int a3)] [] h (QI o)) : Wq g l mX10_filledCells 0 0 14 [some (va_rf (some a0)), some (.int a1), some (.int a2), some (.int a3)] [] h (QI o) := by
  unfold b_X10_filledCells_14 at hB
  refine q_iload_n dX10_filledCells_14 rfl rfl ?_
  refine q_aload_n dX10_filledCells_15 rfl rfl ?_
  refine q_getI (j := 14) hB dX10_filledCells_16 fc_8 (by decide) rfl wd_743 (fun n1 hB => ?_)
  refine q_icmp_ge (tgt := 52) hB dX10_filledCells_19 (by decide) (fun hB => ?_) (fun hB => ?_)
  · refine q_iinc dX10_filledCells_52 rfl (show _ = (a2 + (1 : Int32)) from rfl) (by decide) (nb_i (j := 1) rfl) ?_
    refine q_goto (tgt := 4) dX10_filledCells_55 (by decide) ?_
    exact Wq.mask [true, true, true, false] rfl (hk4 _ _ _ _ hB)
  · refine q_iload_n dX10_filledCells_22 rfl rfl ?_
    refine q_aload_n dX10_filledCells_23 rfl rfl ?_
    refine q_getP (j := 16) hB dX10_filledCells_24 fc_8 (by decide) rfl wd_745 (fun n2 hB => ?_)
    refine q_iload_n dX10_filledCells_27 rfl rfl ?_
    refine q_iald hB dX10_filledCells_28 (fun n3 hB => ?_)
    refine q_aload_n dX10_filledCells_29 rfl rfl ?_
    refine q_getP (j := 18) hB dX10_filledCells_30 fc_8 (by decide) rfl wd_747 (fun n4 hB => ?_)
    refine q_iload_n dX10_filledCells_33 rfl rfl ?_
    refine q_iald hB dX10_filledCells_34 (fun n5 hB => ?_)
    refine q_iand dX10_filledCells_35 ?_
    refine q_if_ne (tgt := 43) hB dX10_filledCells_36 (by decide) (fun hB => ?_) (fun hB => ?_)
    · refine q_iconst (v := 1) dX10_filledCells_43 (by decide) ?_
      exact Wq.mask [true, false, true, true] rfl (wb_X10_filledCells_44 g l k4 k14 _ _ _ _ _ _ o hB hk4 hk14)
    · refine q_iconst (v := 0) dX10_filledCells_39 (by decide) ?_
      refine q_goto (tgt := 44) dX10_filledCells_40 (by decide) ?_
      exact Wq.mask [true, false, true, true] rfl (wb_X10_filledCells_44 g l k4 k14 _ _ _ _ _ _ o hB hk4 hk14)
set_option maxHeartbeats 4000000 in
theorem wl_X10_filledCells_14 (g : GG) (l : Launch) (k4 : Nat → Int32 → Int32 → HS → Option (Int32 × HS)) (o : Int32 × HS) (hk4 : ∀ (a0 : Nat) (a1 : Int32) (a2 : Int32) (h : HS), k4 a0 a1 a2 h = some o → Wq g l mX10_filledCells 0 0 4 [some (va_rf (some a0)), some (.int a1), some (.int a2), none] [] h (QI o)) : ∀ (n : Nat) (a0 : Nat) (a1 : Int32) (a2 : Int32) (a3 : Int32) (h : HS), l_X10_filledCells_14 k4 n a0 a1 a2 a3 h = some o → Wq g l mX10_filledCells 0 0 14 [some (va_rf (some a0)), some (.int a1), some (.int a2), some (.int a3)] [] h (QI o) := by
  intro n
  induction n with
  | zero =>
    intro a0 a1 a2 a3  h hB
    have q : (none : Option (Int32 × HS)) = some o := hB
    cases q
  | succ n ih =>
    intro a0 a1 a2 a3  h hB
    exact wb_X10_filledCells_14 g l k4 (l_X10_filledCells_14 k4 n) a0 a1 a2 a3 h o hB hk4 ih
set_option maxHeartbeats 4000000 in
set_option maxRecDepth 100000 in
theorem wb_X10_filledCells_4 (g : GG) (l : Launch) (k4 : Nat → Int32 → Int32 → HS → Option (Int32 × HS)) (a0 : Nat) (a1 : Int32) (a2 : Int32) (h : HS) (o : Int32 × HS) (hB : b_X10_filledCells_4 k4 a0 a1 a2 h = some o) (hk4 : ∀ (a0 : Nat) (a1 : Int32) (a2 : Int32) (h : HS), k4 a0 a1 a2 h = some o → Wq g l mX10_filledCells 0 0 4 [some (va_rf (some a0)), some (.int a1), some (.int a2), none] [] h (QI o)) : Wq g l mX10_filledCells 0 0 4 [some (va_rf (some a0)), some (.int a1), some (.int a2), none] [] h (QI o) := by
  unfold b_X10_filledCells_4 at hB
  refine q_iload_n dX10_filledCells_4 rfl rfl ?_
  refine q_aload_n dX10_filledCells_5 rfl rfl ?_
  refine q_getI (j := 13) hB dX10_filledCells_6 fc_8 (by decide) rfl wd_742 (fun n1 hB => ?_)
  refine q_icmp_ge (tgt := 58) hB dX10_filledCells_9 (by decide) (fun hB => ?_) (fun hB => ?_)
  · refine q_iload_n dX10_filledCells_58 rfl rfl ?_
    exact q_iret hB dX10_filledCells_59 rfl (by decide) (by decide)
  · refine q_iconst (v := 0) dX10_filledCells_12 (by decide) ?_
    refine q_istore_n dX10_filledCells_13 rfl (by decide) (nb_i (j := 2) rfl) ?_
    exact Wq.mask [true, true, true, true] rfl (wl_X10_filledCells_14 g l k4 o hk4 FU _ _ _ _ _ hB)
set_option maxHeartbeats 4000000 in
theorem wl_X10_filledCells_4 (g : GG) (l : Launch) (o : Int32 × HS) : ∀ (n : Nat) (a0 : Nat) (a1 : Int32) (a2 : Int32) (h : HS), l_X10_filledCells_4 n a0 a1 a2 h = some o → Wq g l mX10_filledCells 0 0 4 [some (va_rf (some a0)), some (.int a1), some (.int a2), none] [] h (QI o) := by
  intro n
  induction n with
  | zero =>
    intro a0 a1 a2  h hB
    have q : (none : Option (Int32 × HS)) = some o := hB
    cases q
  | succ n ih =>
    intro a0 a1 a2  h hB
    exact wb_X10_filledCells_4 g l (l_X10_filledCells_4 n) a0 a1 a2 h o hB ih
set_option maxHeartbeats 4000000 in
set_option maxRecDepth 100000 in
theorem c_X10_filledCells (g : GG) (l : Launch) (a0 : Nat) (h : HS) (o : Int32 × HS) (hB : f_X10_filledCells a0 h = some o) : Ct g l mX10_filledCells [va_rf (some a0)] h (QI o) := by
  refine Ct.of2 (lv0 := [some (va_rf (some a0)), none, none, none]) (by decide +kernel) (by simp [lg_sl, rf_cat, cat_i, cat_l]) rfl ?_
  unfold f_X10_filledCells at hB
  refine q_iconst (v := 0) dX10_filledCells_0 (by decide) ?_
  refine q_istore_n dX10_filledCells_1 rfl (by decide) (nb_r (j := 0) rfl) ?_
  refine q_iconst (v := 0) dX10_filledCells_2 (by decide) ?_
  refine q_istore_n dX10_filledCells_3 rfl (by decide) (nb_i (j := 1) rfl) ?_
  exact Wq.mask [true, true, true, false] rfl (wl_X10_filledCells_4 g l o FU _ _ _ _ hB)

def b_X10_missingAmounts_30  (k4 : Nat → Int32 → Int32 → HS → Option (Int32 × HS)) (a0 : Nat) (a2 : Int32) (s0 : Int32) (s1 : Int32) (h : HS) : Option (Int32 × HS) :=
  k4 a0 (s0 + s1) (a2 + (1 : Int32)) h
def b_X10_missingAmounts_4  (k4 : Nat → Int32 → Int32 → HS → Option (Int32 × HS)) (a0 : Nat) (a1 : Int32) (a2 : Int32) (h : HS) : Option (Int32 × HS) :=
  nn (some a0) (fun n2 => gd (rk h n2 8) (bd (f_X10_many n2 (0 : Int32) h) (fun r1 => (if r1.1 ≤ a2 then some (a1, r1.2) else nn (some a0) (fun n4 => gd (rk r1.2 n4 8) (bd (f_X10_amountOf n4 (0 : Int32) a2 r1.2) (fun r3 => (if r3.1 = (100 : Int32) then b_X10_missingAmounts_30 k4 a0 a2 a1 (1 : Int32) r3.2 else b_X10_missingAmounts_30 k4 a0 a2 a1 (0 : Int32) r3.2))))))))
def l_X10_missingAmounts_4  : Nat → Nat → Int32 → Int32 → HS → Option (Int32 × HS)
  | 0 => fun _ _ _ _ => none
  | n + 1 => b_X10_missingAmounts_4 (l_X10_missingAmounts_4 n)
def f_X10_missingAmounts  (a0 : Nat) (h : HS) : Option (Int32 × HS) :=
  l_X10_missingAmounts_4 FU a0 (0 : Int32) (0 : Int32) h
set_option maxHeartbeats 4000000 in
set_option maxRecDepth 100000 in
theorem wb_X10_missingAmounts_30 (g : GG) (l : Launch) (k4 : Nat → Int32 → Int32 → HS → Option (Int32 × HS)) (a0 : Nat) (a2 : Int32) (s0 : Int32) (s1 : Int32) (h : HS) (o : Int32 × HS) (hB : b_X10_missingAmounts_30 k4 a0 a2 s0 s1 h = some o) (hk4 : ∀ (a0 : Nat) (a1 : Int32) (a2 : Int32) (h : HS), k4 a0 a1 a2 h = some o → Wq g l mX10_missingAmounts 0 0 4 [some (va_rf (some a0)), some (.int a1), some (.int a2)] [] h (QI o)) : Wq g l mX10_missingAmounts 0 0 30 [some (va_rf (some a0)), none, some (.int a2)] [.int s1, .int s0] h (QI o) := by
  unfold b_X10_missingAmounts_30 at hB
  refine q_iadd dX10_missingAmounts_30 ?_
  refine q_istore_n dX10_missingAmounts_31 rfl (by decide) (nb_r (j := 0) rfl) ?_
  refine q_iinc dX10_missingAmounts_32 rfl (show _ = (a2 + (1 : Int32)) from rfl) (by decide) (nb_i (j := 1) rfl) ?_
  refine q_goto (tgt := 4) dX10_missingAmounts_35 (by decide) ?_
  exact Wq.mask [true, true, true] rfl (hk4 _ _ _ _ hB)
set_option maxHeartbeats 4000000 in
set_option maxRecDepth 100000 in
theorem wb_X10_missingAmounts_4 (g : GG) (l : Launch) (k4 : Nat → Int32 → Int32 → HS → Option (Int32 × HS)) (a0 : Nat) (a1 : Int32) (a2 : Int32) (h : HS) (o : Int32 × HS) (hB : b_X10_missingAmounts_4 k4 a0 a1 a2 h = some o) (hk4 : ∀ (a0 : Nat) (a1 : Int32) (a2 : Int32) (h : HS), k4 a0 a1 a2 h = some o → Wq g l mX10_missingAmounts 0 0 4 [some (va_rf (some a0)), some (.int a1), some (.int a2)] [] h (QI o)) : Wq g l mX10_missingAmounts 0 0 4 [some (va_rf (some a0)), some (.int a1), some (.int a2)] [] h (QI o) := by
  unfold b_X10_missingAmounts_4 at hB
  refine q_iload_n dX10_missingAmounts_4 rfl rfl ?_
  refine q_aload_n dX10_missingAmounts_5 rfl rfl ?_
  refine q_iconst (v := 0) dX10_missingAmounts_6 (by decide) ?_
  refine q_callVI (k' := 0) (w' := 0) hB (fun b a hf => c_X10_many g l b _ _ a hf) rfl rfl dX10_missingAmounts_7 wd_867 cs_X10_many wd_869 wd_23 rfl ⟨⟨Nat.le_of_ble_eq_true rfl, Nat.le_of_ble_eq_true rfl⟩, ⟨Nat.le_of_ble_eq_true rfl, Nat.le_of_ble_eq_true rfl⟩, by simp [rf_cat, cat_i, cat_l]⟩ rfl rfl (fun n2 r1 hB => ?_)
  refine q_icmp_ge (tgt := 38) hB dX10_missingAmounts_10 (by decide) (fun hB => ?_) (fun hB => ?_)
  · refine q_iload_n dX10_missingAmounts_38 rfl rfl ?_
    exact q_iret hB dX10_missingAmounts_39 rfl (by decide) (by decide)
  · refine q_iload_n dX10_missingAmounts_13 rfl rfl ?_
    refine q_aload_n dX10_missingAmounts_14 rfl rfl ?_
    refine q_iconst (v := 0) dX10_missingAmounts_15 (by decide) ?_
    refine q_iload_n dX10_missingAmounts_16 rfl rfl ?_
    refine q_callVI (k' := 0) (w' := 0) hB (fun b a hf => c_X10_amountOf g l b _ _ _ a hf) rfl rfl dX10_missingAmounts_17 wd_894 cs_X10_amountOf wd_896 wd_29 rfl ⟨⟨Nat.le_of_ble_eq_true rfl, Nat.le_of_ble_eq_true rfl⟩, ⟨Nat.le_of_ble_eq_true rfl, Nat.le_of_ble_eq_true rfl⟩, by simp [rf_cat, cat_i, cat_l]⟩ rfl rfl (fun n4 r3 hB => ?_)
    refine q_bipush (v := 100) dX10_missingAmounts_20 (by decide) ?_
    refine q_icmp_ne (tgt := 29) hB dX10_missingAmounts_22 (by decide) (fun hB => ?_) (fun hB => ?_)
    · refine q_iconst (v := 0) dX10_missingAmounts_29 (by decide) ?_
      exact Wq.mask [true, false, true] rfl (wb_X10_missingAmounts_30 g l k4 _ _ _ _ _ o hB hk4)
    · refine q_iconst (v := 1) dX10_missingAmounts_25 (by decide) ?_
      refine q_goto (tgt := 30) dX10_missingAmounts_26 (by decide) ?_
      exact Wq.mask [true, false, true] rfl (wb_X10_missingAmounts_30 g l k4 _ _ _ _ _ o hB hk4)
set_option maxHeartbeats 4000000 in
theorem wl_X10_missingAmounts_4 (g : GG) (l : Launch) (o : Int32 × HS) : ∀ (n : Nat) (a0 : Nat) (a1 : Int32) (a2 : Int32) (h : HS), l_X10_missingAmounts_4 n a0 a1 a2 h = some o → Wq g l mX10_missingAmounts 0 0 4 [some (va_rf (some a0)), some (.int a1), some (.int a2)] [] h (QI o) := by
  intro n
  induction n with
  | zero =>
    intro a0 a1 a2  h hB
    have q : (none : Option (Int32 × HS)) = some o := hB
    cases q
  | succ n ih =>
    intro a0 a1 a2  h hB
    exact wb_X10_missingAmounts_4 g l (l_X10_missingAmounts_4 n) a0 a1 a2 h o hB ih
set_option maxHeartbeats 4000000 in
set_option maxRecDepth 100000 in
theorem c_X10_missingAmounts (g : GG) (l : Launch) (a0 : Nat) (h : HS) (o : Int32 × HS) (hB : f_X10_missingAmounts a0 h = some o) : Ct g l mX10_missingAmounts [va_rf (some a0)] h (QI o) := by
  refine Ct.of2 (lv0 := [some (va_rf (some a0)), none, none]) (by decide +kernel) (by simp [lg_sl, rf_cat, cat_i, cat_l]) rfl ?_
  unfold f_X10_missingAmounts at hB
  refine q_iconst (v := 0) dX10_missingAmounts_0 (by decide) ?_
  refine q_istore_n dX10_missingAmounts_1 rfl (by decide) (nb_r (j := 0) rfl) ?_
  refine q_iconst (v := 0) dX10_missingAmounts_2 (by decide) ?_
  refine q_istore_n dX10_missingAmounts_3 rfl (by decide) (nb_i (j := 1) rfl) ?_
  exact Wq.mask [true, true, true] rfl (wl_X10_missingAmounts_4 g l o FU _ _ _ _ hB)

def b_X10_count_56  (a0 : Nat) (h : HS) : Option (Int32 × HS) :=
  nn (some a0) (fun n1 => gd (ck h n1 8) (some ((hI h n1 11), h)))
def b_X10_count_61  (a0 : Nat) (h : HS) : Option (Int32 × HS) :=
  nn (some a0) (fun n2 => gd (rk h n2 8) (bd (f_X10_many n2 (0 : Int32) h) (fun r1 => some (r1.1, r1.2))))
def b_X10_count_67  (a0 : Nat) (h : HS) : Option (Int32 × HS) :=
  nn (some a0) (fun n1 => gd (ck h n1 8) (some ((hI h n1 13), h)))
def b_X10_count_72  (a0 : Nat) (h : HS) : Option (Int32 × HS) :=
  nn (some a0) (fun n1 => gd (ck h n1 8) (some ((hI h n1 14), h)))
def b_X10_count_77  (a0 : Nat) (h : HS) : Option (Int32 × HS) :=
  nn (some a0) (fun n2 => gd (rk h n2 8) (bd (f_X10_filledCells n2 h) (fun r1 => some (r1.1, r1.2))))
def b_X10_count_82  (a0 : Nat) (h : HS) : Option (Int32 × HS) :=
  nn (some a0) (fun n2 => gd (rk h n2 8) (bd (f_X10_missingAmounts n2 h) (fun r1 => some (r1.1, r1.2))))
def b_X10_count_87  (a0 : Nat) (h : HS) : Option (Int32 × HS) :=
  nn (some a0) (fun n1 => gd (ck h n1 8) (some ((hI h n1 20), h)))
def b_X10_count_92  (a0 : Nat) (h : HS) : Option (Int32 × HS) :=
  nn (some a0) (fun n1 => gd (ck h n1 8) (some ((hI h n1 23), h)))
def b_X10_count_97  (h : HS) : Option (Int32 × HS) :=
  some ((-2 : Int32), h)
def f_X10_count  (a0 : Nat) (a1 : Int32) (h : HS) : Option (Int32 × HS) :=
  nn (some a0) (fun n2 => gd (rk h n2 8) (bd (f_X10_findRows n2 (0 : Int32) h) (fun r1 => nn (some a0) (fun n4 => gd (rk r1.2 n4 8) (bd (f_X10_findColumns n4 (0 : Int32) r1.2) (fun r3 => swT a1 0 [b_X10_count_56 a0 r3.2, b_X10_count_61 a0 r3.2, b_X10_count_67 a0 r3.2, b_X10_count_72 a0 r3.2, b_X10_count_77 a0 r3.2, b_X10_count_82 a0 r3.2, b_X10_count_87 a0 r3.2, b_X10_count_92 a0 r3.2] (b_X10_count_97 r3.2)))))))
set_option maxHeartbeats 4000000 in
set_option maxRecDepth 100000 in
theorem wb_X10_count_56 (g : GG) (l : Launch) (a0 : Nat) (h : HS) (o : Int32 × HS) (hB : b_X10_count_56 a0 h = some o) : Wq g l mX10_count 0 0 56 [some (va_rf (some a0)), none] [] h (QI o) := by
  unfold b_X10_count_56 at hB
  refine q_aload_n dX10_count_56 rfl rfl ?_
  refine q_getI (j := 11) hB dX10_count_57 fc_8 (by decide) rfl wd_740 (fun n1 hB => ?_)
  exact q_iret hB dX10_count_60 rfl (by decide) (by decide)
set_option maxHeartbeats 4000000 in
set_option maxRecDepth 100000 in
theorem wb_X10_count_61 (g : GG) (l : Launch) (a0 : Nat) (h : HS) (o : Int32 × HS) (hB : b_X10_count_61 a0 h = some o) : Wq g l mX10_count 0 0 61 [some (va_rf (some a0)), none] [] h (QI o) := by
  unfold b_X10_count_61 at hB
  refine q_aload_n dX10_count_61 rfl rfl ?_
  refine q_iconst (v := 0) dX10_count_62 (by decide) ?_
  refine q_callVI (k' := 0) (w' := 0) hB (fun b a hf => c_X10_many g l b _ _ a hf) rfl rfl dX10_count_63 wd_867 cs_X10_many wd_869 wd_23 rfl ⟨⟨Nat.le_of_ble_eq_true rfl, Nat.le_of_ble_eq_true rfl⟩, ⟨Nat.le_of_ble_eq_true rfl, Nat.le_of_ble_eq_true rfl⟩, Nat.le_of_ble_eq_true rfl⟩ rfl rfl (fun n2 r1 hB => ?_)
  exact q_iret hB dX10_count_66 rfl (by decide) (by decide)
set_option maxHeartbeats 4000000 in
set_option maxRecDepth 100000 in
theorem wb_X10_count_67 (g : GG) (l : Launch) (a0 : Nat) (h : HS) (o : Int32 × HS) (hB : b_X10_count_67 a0 h = some o) : Wq g l mX10_count 0 0 67 [some (va_rf (some a0)), none] [] h (QI o) := by
  unfold b_X10_count_67 at hB
  refine q_aload_n dX10_count_67 rfl rfl ?_
  refine q_getI (j := 13) hB dX10_count_68 fc_8 (by decide) rfl wd_742 (fun n1 hB => ?_)
  exact q_iret hB dX10_count_71 rfl (by decide) (by decide)
set_option maxHeartbeats 4000000 in
set_option maxRecDepth 100000 in
theorem wb_X10_count_72 (g : GG) (l : Launch) (a0 : Nat) (h : HS) (o : Int32 × HS) (hB : b_X10_count_72 a0 h = some o) : Wq g l mX10_count 0 0 72 [some (va_rf (some a0)), none] [] h (QI o) := by
  unfold b_X10_count_72 at hB
  refine q_aload_n dX10_count_72 rfl rfl ?_
  refine q_getI (j := 14) hB dX10_count_73 fc_8 (by decide) rfl wd_743 (fun n1 hB => ?_)
  exact q_iret hB dX10_count_76 rfl (by decide) (by decide)
set_option maxHeartbeats 4000000 in
set_option maxRecDepth 100000 in
theorem wb_X10_count_77 (g : GG) (l : Launch) (a0 : Nat) (h : HS) (o : Int32 × HS) (hB : b_X10_count_77 a0 h = some o) : Wq g l mX10_count 0 0 77 [some (va_rf (some a0)), none] [] h (QI o) := by
  unfold b_X10_count_77 at hB
  refine q_aload_n dX10_count_77 rfl rfl ?_
  refine q_callVI (k' := 0) (w' := 0) hB (fun b a hf => c_X10_filledCells g l b _ a hf) rfl rfl dX10_count_78 wd_1079 cs_X10_filledCells wd_1081 wd_44 rfl ⟨⟨Nat.le_of_ble_eq_true rfl, Nat.le_of_ble_eq_true rfl⟩, ⟨Nat.le_of_ble_eq_true rfl, Nat.le_of_ble_eq_true rfl⟩, Nat.le_of_ble_eq_true rfl⟩ rfl rfl (fun n2 r1 hB => ?_)
  exact q_iret hB dX10_count_81 rfl (by decide) (by decide)
set_option maxHeartbeats 4000000 in
set_option maxRecDepth 100000 in
theorem wb_X10_count_82 (g : GG) (l : Launch) (a0 : Nat) (h : HS) (o : Int32 × HS) (hB : b_X10_count_82 a0 h = some o) : Wq g l mX10_count 0 0 82 [some (va_rf (some a0)), none] [] h (QI o) := by
  unfold b_X10_count_82 at hB
  refine q_aload_n dX10_count_82 rfl rfl ?_
  refine q_callVI (k' := 0) (w' := 0) hB (fun b a hf => c_X10_missingAmounts g l b _ a hf) rfl rfl dX10_count_83 wd_1083 cs_X10_missingAmounts wd_1085 wd_45 rfl ⟨⟨Nat.le_of_ble_eq_true rfl, Nat.le_of_ble_eq_true rfl⟩, ⟨Nat.le_of_ble_eq_true rfl, Nat.le_of_ble_eq_true rfl⟩, Nat.le_of_ble_eq_true rfl⟩ rfl rfl (fun n2 r1 hB => ?_)
  exact q_iret hB dX10_count_86 rfl (by decide) (by decide)
set_option maxHeartbeats 4000000 in
set_option maxRecDepth 100000 in
theorem wb_X10_count_87 (g : GG) (l : Launch) (a0 : Nat) (h : HS) (o : Int32 × HS) (hB : b_X10_count_87 a0 h = some o) : Wq g l mX10_count 0 0 87 [some (va_rf (some a0)), none] [] h (QI o) := by
  unfold b_X10_count_87 at hB
  refine q_aload_n dX10_count_87 rfl rfl ?_
  refine q_getI (j := 20) hB dX10_count_88 fc_8 (by decide) rfl wd_749 (fun n1 hB => ?_)
  exact q_iret hB dX10_count_91 rfl (by decide) (by decide)
set_option maxHeartbeats 4000000 in
set_option maxRecDepth 100000 in
theorem wb_X10_count_92 (g : GG) (l : Launch) (a0 : Nat) (h : HS) (o : Int32 × HS) (hB : b_X10_count_92 a0 h = some o) : Wq g l mX10_count 0 0 92 [some (va_rf (some a0)), none] [] h (QI o) := by
  unfold b_X10_count_92 at hB
  refine q_aload_n dX10_count_92 rfl rfl ?_
  refine q_getI (j := 23) hB dX10_count_93 fc_8 (by decide) rfl wd_752 (fun n1 hB => ?_)
  exact q_iret hB dX10_count_96 rfl (by decide) (by decide)
set_option maxHeartbeats 4000000 in
set_option maxRecDepth 100000 in
theorem wb_X10_count_97 (g : GG) (l : Launch) (h : HS) (o : Int32 × HS) (hB : b_X10_count_97  h = some o) : Wq g l mX10_count 0 0 97 [none, none] [] h (QI o) := by
  unfold b_X10_count_97 at hB
  refine q_bipush (v := -2) dX10_count_97 (by decide) ?_
  exact q_iret hB dX10_count_99 rfl (by decide) (by decide)
set_option maxHeartbeats 4000000 in
set_option maxRecDepth 100000 in
theorem c_X10_count (g : GG) (l : Launch) (a0 : Nat) (a1 : Int32) (h : HS) (o : Int32 × HS) (hB : f_X10_count a0 a1 h = some o) : Ct g l mX10_count [va_rf (some a0), .int a1] h (QI o) := by
  refine Ct.of2 (lv0 := [some (va_rf (some a0)), some (.int a1)]) (by decide +kernel) (by simp [lg_sl, rf_cat, cat_i, cat_l]) rfl ?_
  unfold f_X10_count at hB
  refine q_aload_n dX10_count_0 rfl rfl ?_
  refine q_iconst (v := 0) dX10_count_1 (by decide) ?_
  refine q_callVV (k' := 0) (w' := 0) hB (fun b a hf => c_X10_findRows g l b _ _ a hf) rfl rfl dX10_count_2 wd_859 cs_X10_findRows wd_861 wd_21 rfl ⟨⟨Nat.le_of_ble_eq_true rfl, Nat.le_of_ble_eq_true rfl⟩, ⟨Nat.le_of_ble_eq_true rfl, Nat.le_of_ble_eq_true rfl⟩, Nat.le_of_ble_eq_true rfl⟩ rfl rfl (fun n2 r1 hB => ?_)
  refine q_aload_n dX10_count_5 rfl rfl ?_
  refine q_iconst (v := 0) dX10_count_6 (by decide) ?_
  refine q_callVV (k' := 0) (w' := 0) hB (fun b a hf => c_X10_findColumns g l b _ _ a hf) rfl rfl dX10_count_7 wd_956 cs_X10_findColumns wd_958 wd_35 rfl ⟨⟨Nat.le_of_ble_eq_true rfl, Nat.le_of_ble_eq_true rfl⟩, ⟨Nat.le_of_ble_eq_true rfl, Nat.le_of_ble_eq_true rfl⟩, Nat.le_of_ble_eq_true rfl⟩ rfl rfl (fun n4 r3 hB => ?_)
  refine q_iload_n dX10_count_10 rfl rfl ?_
  refine q_tab (dt := 97) [56, 61, 67, 72, 77, 82, 87, 92] hB dX10_count_11 rfl rfl (by decide) (by decide) (fun hB => ?_) (fun i hi hB => ?_)
  · exact Wq.mask [false, false] rfl (wb_X10_count_97 g l _ o hB)
  · match i, hi, hB with
    | 0, _, hB =>
      simp only [List.getD_cons_zero, List.getD_cons_succ] at hB
      exact Wq.mask [true, false] rfl (wb_X10_count_56 g l _ _ o hB)
    | 1, _, hB =>
      simp only [List.getD_cons_zero, List.getD_cons_succ] at hB
      exact Wq.mask [true, false] rfl (wb_X10_count_61 g l _ _ o hB)
    | 2, _, hB =>
      simp only [List.getD_cons_zero, List.getD_cons_succ] at hB
      exact Wq.mask [true, false] rfl (wb_X10_count_67 g l _ _ o hB)
    | 3, _, hB =>
      simp only [List.getD_cons_zero, List.getD_cons_succ] at hB
      exact Wq.mask [true, false] rfl (wb_X10_count_72 g l _ _ o hB)
    | 4, _, hB =>
      simp only [List.getD_cons_zero, List.getD_cons_succ] at hB
      exact Wq.mask [true, false] rfl (wb_X10_count_77 g l _ _ o hB)
    | 5, _, hB =>
      simp only [List.getD_cons_zero, List.getD_cons_succ] at hB
      exact Wq.mask [true, false] rfl (wb_X10_count_82 g l _ _ o hB)
    | 6, _, hB =>
      simp only [List.getD_cons_zero, List.getD_cons_succ] at hB
      exact Wq.mask [true, false] rfl (wb_X10_count_87 g l _ _ o hB)
    | 7, _, hB =>
      simp only [List.getD_cons_zero, List.getD_cons_succ] at hB
      exact Wq.mask [true, false] rfl (wb_X10_count_92 g l _ _ o hB)
    | n + 8, hi, _ => exact absurd hi (by simp only [List.length_cons, List.length_nil]; omega)
