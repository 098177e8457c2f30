def b_X10_hidden_103  (s0 : Int32) (h : HS) : Option (Int32 × HS) :=
  some (s0, h)
def b_X10_hidden_88  (k34 : Nat → Int32 → Int32 → Int32 → Int32 → HS → Option (Int32 × HS)) (a0 : Nat) (a1 : Int32) (a2 : Int32) (a3 : Int32) (a4 : Int32) (h : HS) : Option (Int32 × HS) :=
  k34 a0 a1 a2 a3 (a4 + (1 : Int32)) h
def b_X10_hidden_84  (k34 : Nat → Int32 → Int32 → Int32 → Int32 → HS → Option (Int32 × HS)) (a0 : Nat) (a1 : Int32) (a2 : Int32) (a4 : Int32) (s0 : Int32) (h : HS) : Option (Int32 × HS) :=
  b_X10_hidden_88 k34 a0 a1 (a2 + (1 : Int32)) s0 a4 h
def b_X10_hidden_34  (k34 : Nat → Int32 → Int32 → Int32 → Int32 → HS → Option (Int32 × HS)) (a0 : Nat) (a1 : Int32) (a2 : Int32) (a3 : Int32) (a4 : Int32) (h : HS) : Option (Int32 × HS) :=
  (if (2020 : Int32) ≤ a4 then (if a1 = 0 then b_X10_hidden_103 a2 h else b_X10_hidden_103 a3 h) else gd (decide (¬ (505 : Int32) = 0)) (gd (decide (¬ (101 : Int32) = 0)) (gd (decide (¬ (5 : Int32) = 0)) (gd (decide (¬ (101 : Int32) = 0)) (bd (f_X10_asOne (a4 / (505 : Int32)) ((a4 / (101 : Int32)) - (a4 / (101 : Int32)) / (5 : Int32) * (5 : Int32)) (a4 - a4 / (101 : Int32) * (101 : Int32)) h) (fun r1 => nn (some a0) (fun n3 => gd (rk r1.2 n3 8) (bd (f_X10_mayBe n3 r1.1 r1.2) (fun r2 => (if r2.1 = 0 then b_X10_hidden_88 k34 a0 a1 a2 a3 a4 r2.2 else (if a2 = 0 then b_X10_hidden_84 k34 a0 a1 a2 a4 r1.1 r2.2 else b_X10_hidden_84 k34 a0 a1 a2 a4 a3 r2.2)))))))))))
def l_X10_hidden_34  : Nat → Nat → Int32 → Int32 → Int32 → Int32 → HS → Option (Int32 × HS)
  | 0 => fun _ _ _ _ _ _ => none
  | n + 1 => b_X10_hidden_34 (l_X10_hidden_34 n)
def f_X10_hidden  (a0 : Nat) (a1 : Int32) (h : HS) : Option (Int32 × HS) :=
  bd (f_X10_in a1.toInt64 (0 : Int64) (1 : Int64) h) (fun r1 => (if r1.1 = 0 then some ((-2 : Int32), r1.2) else nn (some a0) (fun n3 => gd (rk r1.2 n3 8) (bd (f_X10_many n3 (0 : Int32) r1.2) (fun r2 => (if r2.1 = (16 : Int32) then some ((-4 : Int32), r2.2) else l_X10_hidden_34 FU a0 a1 (0 : Int32) (-9 : Int32) (0 : Int32) r2.2))))))
set_option maxHeartbeats 4000000 in
set_option maxRecDepth 100000 in
theorem wb_X10_hidden_103 (g : GG) (l : Launch) (s0 : Int32) (h : HS) (o : Int32 × HS) (hB : b_X10_hidden_103 s0 h = some o) : Wq g l mX10_hidden 0 0 103 [none, none, none, none, none, none] [.int s0] h (QI o) := by
  unfold b_X10_hidden_103 at hB
  exact q_iret hB dX10_hidden_103 rfl (by decide) (by decide)
set_option maxHeartbeats 4000000 in
set_option maxRecDepth 100000 in
theorem wb_X10_hidden_88 (g : GG) (l : Launch) (k34 : Nat → Int32 → Int32 → Int32 → Int32 → HS → Option (Int32 × HS)) (a0 : Nat) (a1 : Int32) (a2 : Int32) (a3 : Int32) (a4 : Int32) (h : HS) (o : Int32 × HS) (hB : b_X10_hidden_88 k34 a0 a1 a2 a3 a4 h = some o) (hk34 : ∀ (a0 : Nat) (a1 : Int32) (a2 : Int32) (a3 : Int32) (a4 : Int32) (h : HS), k34 a0 a1 a2 a3 a4 h = some o → Wq g l mX10_hidden 0 0 34 [some (va_rf (some a0)), some (.int a1), some (.int a2), some (.int a3), some (.int a4), none] [] h (QI o)) : Wq g l mX10_hidden 0 0 88 [some (va_rf (some a0)), some (.int a1), some (.int a2), some (.int a3), some (.int a4), none] [] h (QI o) := by
  unfold b_X10_hidden_88 at hB
  refine q_iinc dX10_hidden_88 rfl (show _ = (a4 + (1 : Int32)) from rfl) (by decide) (nb_i (j := 3) rfl) ?_
  refine q_goto (tgt := 34) dX10_hidden_91 (by decide) ?_
  exact Wq.mask [true, true, true, true, true, false] rfl (hk34 _ _ _ _ _ _ hB)
set_option maxHeartbeats 4000000 in
set_option maxRecDepth 100000 in
theorem wb_X10_hidden_84 (g : GG) (l : Launch) (k34 : Nat → Int32 → Int32 → Int32 → Int32 → HS → Option (Int32 × HS)) (a0 : Nat) (a1 : Int32) (a2 : Int32) (a4 : Int32) (s0 : Int32) (h : HS) (o : Int32 × HS) (hB : b_X10_hidden_84 k34 a0 a1 a2 a4 s0 h = some o) (hk34 : ∀ (a0 : Nat) (a1 : Int32) (a2 : Int32) (a3 : Int32) (a4 : Int32) (h : HS), k34 a0 a1 a2 a3 a4 h = some o → Wq g l mX10_hidden 0 0 34 [some (va_rf (some a0)), some (.int a1), some (.int a2), some (.int a3), some (.int a4), none] [] h (QI o)) : Wq g l mX10_hidden 0 0 84 [some (va_rf (some a0)), some (.int a1), some (.int a2), none, some (.int a4), none] [.int s0] h (QI o) := by
  unfold b_X10_hidden_84 at hB
  refine q_istore_n dX10_hidden_84 rfl (by decide) (nb_i (j := 2) rfl) ?_
  refine q_iinc dX10_hidden_85 rfl (show _ = (a2 + (1 : Int32)) from rfl) (by decide) (nb_i (j := 1) rfl) ?_
  exact Wq.mask [true, true, true, true, true, false] rfl (wb_X10_hidden_88 g l k34 _ _ _ _ _ _ o hB hk34)
set_option maxHeartbeats 4000000 in
set_option maxRecDepth 100000 in
theorem wb_X10_hidden_34 (g : GG) (l : Launch) (k34 : Nat → Int32 → Int32 → Int32 → Int32 → HS → Option (Int32 × HS)) (a0 : Nat) (a1 : Int32) (a2 : Int32) (a3 : Int32) (a4 : Int32) (h : HS) (o : Int32 × HS) (hB : b_X10_hidden_34 k34 a0 a1 a2 a3 a4 h = some o) (hk34 : ∀ (a0 : Nat) (a1 : Int32) (a2 : Int32) (a3 : Int32) (a4 : Int32) (h : HS), k34 a0 a1 a2 a3 a4 h = some o → Wq g l mX10_hidden 0 0 34 [some (va_rf (some a0)), some (.int a1), some (.int a2), some (.int a3), some (.int a4), none] [] h (QI o)) : Wq g l mX10_hidden 0 0 34 [some (va_rf (some a0)), some (.int a1), some (.int a2), some (.int a3), some (.int a4), none] [] h (QI o) := by
  unfold b_X10_hidden_34 at hB
  refine q_iload dX10_hidden_34 rfl ?_
  refine q_sipush (v := 2020) dX10_hidden_36 (by decide) ?_
  refine q_icmp_ge (tgt := 94) hB dX10_hidden_39 (by decide) (fun hB => ?_) (fun hB => ?_)
  · refine q_iload_n dX10_hidden_94 rfl rfl ?_
    refine q_if_ne (tgt := 102) hB dX10_hidden_95 (by decide) (fun hB => ?_) (fun hB => ?_)
    · refine q_iload_n dX10_hidden_102 rfl rfl ?_
      exact Wq.mask [false, false, false, false, false, false] rfl (wb_X10_hidden_103 g l _ _ o hB)
    · refine q_iload_n dX10_hidden_98 rfl rfl ?_
      refine q_goto (tgt := 103) dX10_hidden_99 (by decide) ?_
      exact Wq.mask [false, false, false, false, false, false] rfl (wb_X10_hidden_103 g l _ _ o hB)
  · refine q_iload dX10_hidden_42 rfl ?_
    refine q_sipush (v := 505) dX10_hidden_44 (by decide) ?_
    refine q_idiv hB dX10_hidden_47 (fun hB => ?_)
    refine q_iload dX10_hidden_48 rfl ?_
    refine q_bipush (v := 101) dX10_hidden_50 (by decide) ?_
    refine q_idiv hB dX10_hidden_52 (fun hB => ?_)
    refine q_iconst (v := 5) dX10_hidden_53 (by decide) ?_
    refine q_irem hB dX10_hidden_54 (fun hB => ?_)
    refine q_iload dX10_hidden_55 rfl ?_
    refine q_bipush (v := 101) dX10_hidden_57 (by decide) ?_
    refine q_irem hB dX10_hidden_59 (fun hB => ?_)
    refine q_callSI (k' := 0) (w' := 0) hB (fun a hf => c_X10_asOne g l _ _ _ _ a hf) rfl dX10_hidden_60 wd_917 cs_X10_asOne wd_918 rfl ⟨⟨Nat.le_of_ble_eq_true rfl, Nat.le_of_ble_eq_true rfl⟩, ⟨Nat.le_of_ble_eq_true rfl, Nat.le_of_ble_eq_true rfl⟩, Nat.le_of_ble_eq_true rfl⟩ rfl rfl (fun r1 hB => ?_)
    refine q_istore dX10_hidden_63 (by decide) (nb_i (j := 4) rfl) ?_
    refine q_aload_n dX10_hidden_65 rfl rfl ?_
    refine q_iload dX10_hidden_66 rfl ?_
    refine q_callVI (k' := 0) (w' := 0) hB (fun b a hf => c_X10_mayBe g l b _ _ a hf) rfl rfl dX10_hidden_68 wd_1026 cs_X10_mayBe wd_1028 wd_41 rfl ⟨⟨Nat.le_of_ble_eq_true rfl, Nat.le_of_ble_eq_true rfl⟩, ⟨Nat.le_of_ble_eq_true rfl, Nat.le_of_ble_eq_true rfl⟩, Nat.le_of_ble_eq_true rfl⟩ rfl rfl (fun n3 r2 hB => ?_)
    refine q_if_eq (tgt := 88) hB dX10_hidden_71 (by decide) (fun hB => ?_) (fun hB => ?_)
    · exact Wq.mask [true, true, true, true, true, false] rfl (wb_X10_hidden_88 g l k34 _ _ _ _ _ _ o hB hk34)
    · refine q_iload_n dX10_hidden_74 rfl rfl ?_
      refine q_if_ne (tgt := 83) hB dX10_hidden_75 (by decide) (fun hB => ?_) (fun hB => ?_)
      · refine q_iload_n dX10_hidden_83 rfl rfl ?_
        exact Wq.mask [true, true, true, false, true, false] rfl (wb_X10_hidden_84 g l k34 _ _ _ _ _ _ o hB hk34)
      · refine q_iload dX10_hidden_78 rfl ?_
        refine q_goto (tgt := 84) dX10_hidden_80 (by decide) ?_
        exact Wq.mask [true, true, true, false, true, false] rfl (wb_X10_hidden_84 g l k34 _ _ _ _ _ _ o hB hk34)
set_option maxHeartbeats 4000000 in
theorem wl_X10_hidden_34 (g : GG) (l : Launch) (o : Int32 × HS) : ∀ (n : Nat) (a0 : Nat) (a1 : Int32) (a2 : Int32) (a3 : Int32) (a4 : Int32) (h : HS), l_X10_hidden_34 n a0 a1 a2 a3 a4 h = some o → Wq g l mX10_hidden 0 0 34 [some (va_rf (some a0)), some (.int a1), some (.int a2), some (.int a3), some (.int a4), none] [] h (QI o) := by
  intro n
  induction n with
  | zero =>
    intro a0 a1 a2 a3 a4  h hB
    have q : (none : Option (Int32 × HS)) = some o := hB
    cases q
  | succ n ih =>
    intro a0 a1 a2 a3 a4  h hB
    exact wb_X10_hidden_34 g l (l_X10_hidden_34 n) a0 a1 a2 a3 a4 h o hB ih
set_option maxHeartbeats 4000000 in
set_option maxRecDepth 100000 in
theorem c_X10_hidden (g : GG) (l : Launch) (a0 : Nat) (a1 : Int32) (h : HS) (o : Int32 × HS) (hB : f_X10_hidden a0 a1 h = some o) : Ct g l mX10_hidden [va_rf (some a0), .int a1] h (QI o) := by
  refine Ct.of2 (lv0 := [some (va_rf (some a0)), some (.int a1), none, none, none, none]) (by decide +kernel) (by simp [lg_sl, rf_cat, cat_i, cat_l]) rfl ?_
  unfold f_X10_hidden at hB
  refine q_iload_n dX10_hidden_0 rfl rfl ?_
  refine q_i2l dX10_hidden_1 ?_
  refine q_lconst (v := 0) dX10_hidden_2 (by decide) ?_
  refine q_lconst (v := 1) dX10_hidden_3 (by decide) ?_
  refine q_callSI (k' := 0) (w' := 0) hB (fun a hf => c_X10_in g l _ _ _ _ a hf) rfl dX10_hidden_4 wd_825 cs_X10_in wd_826 rfl ⟨⟨Nat.le_of_ble_eq_true rfl, Nat.le_of_ble_eq_true rfl⟩, ⟨Nat.le_of_ble_eq_true rfl, Nat.le_of_ble_eq_true rfl⟩, Nat.le_of_ble_eq_true rfl⟩ rfl rfl (fun r1 hB => ?_)
  refine q_if_ne (tgt := 13) hB dX10_hidden_7 (by decide) (fun hB => ?_) (fun hB => ?_)
  · refine q_aload_n dX10_hidden_13 rfl rfl ?_
    refine q_iconst (v := 0) dX10_hidden_14 (by decide) ?_
    refine q_callVI (k' := 0) (w' := 0) hB (fun b a hf => c_X10_many g l b _ _ a hf) rfl rfl dX10_hidden_15 wd_867 cs_X10_many wd_869 wd_23 rfl ⟨⟨Nat.le_of_ble_eq_true rfl, Nat.le_of_ble_eq_true rfl⟩, ⟨Nat.le_of_ble_eq_true rfl, Nat.le_of_ble_eq_true rfl⟩, Nat.le_of_ble_eq_true rfl⟩ rfl rfl (fun n3 r2 hB => ?_)
    refine q_bipush (v := 16) dX10_hidden_18 (by decide) ?_
    refine q_icmp_ne (tgt := 26) hB dX10_hidden_20 (by decide) (fun hB => ?_) (fun hB => ?_)
    · refine q_iconst (v := 0) dX10_hidden_26 (by decide) ?_
      refine q_istore_n dX10_hidden_27 rfl (by decide) (nb_i (j := 1) rfl) ?_
      refine q_bipush (v := -9) dX10_hidden_28 (by decide) ?_
      refine q_istore_n dX10_hidden_30 rfl (by decide) (nb_i (j := 2) rfl) ?_
      refine q_iconst (v := 0) dX10_hidden_31 (by decide) ?_
      refine q_istore dX10_hidden_32 (by decide) (nb_i (j := 3) rfl) ?_
      exact Wq.mask [true, true, true, true, true, false] rfl (wl_X10_hidden_34 g l o FU _ _ _ _ _ _ hB)
    · refine q_bipush (v := -4) dX10_hidden_23 (by decide) ?_
      exact q_iret hB dX10_hidden_25 rfl (by decide) (by decide)
  · refine q_bipush (v := -2) dX10_hidden_10 (by decide) ?_
    exact q_iret hB dX10_hidden_12 rfl (by decide) (by decide)

def b_X2_union_30  (k4 : Nat → Int32 → Int32 → Int32 → HS → Option (Int32 × HS)) (a0 : Nat) (a1 : Int32) (a2 : Int32) (a3 : Int32) (h : HS) : Option (Int32 × HS) :=
  k4 a0 a1 a2 (a3 + (1 : Int32)) h
def b_X2_union_4  (k4 : Nat → Int32 → Int32 → Int32 → HS → Option (Int32 × HS)) (a0 : Nat) (a1 : Int32) (a2 : Int32) (a3 : Int32) (h : HS) : Option (Int32 × HS) :=
  nn (some a0) (fun n1 => gd (ck h n1 2) ((if (hI h n1 3) ≤ a3 then some (a2, h) else (if ((a1 >>> (a3 &&& 31)) &&& (1 : Int32)) = (1 : Int32) then nn (some a0) (fun n2 => gd (ck h n2 2) (nn (hP h n2 1) (fun n3 => gd (ca h n3 9 a3) (b_X2_union_30 k4 a0 a1 (a2 ||| (hI h n3 a3.toNatClampNeg)) a3 h)))) else b_X2_union_30 k4 a0 a1 a2 a3 h))))
def l_X2_union_4  : Nat → Nat → Int32 → Int32 → Int32 → HS → Option (Int32 × HS)
  | 0 => fun _ _ _ _ _ => none
  | n + 1 => b_X2_union_4 (l_X2_union_4 n)
def f_X2_union  (a0 : Nat) (a1 : Int32) (h : HS) : Option (Int32 × HS) :=
  l_X2_union_4 FU a0 a1 (0 : Int32) (0 : Int32) h
set_option maxHeartbeats 4000000 in
set_option maxRecDepth 100000 in
theorem wb_X2_union_30 (g : GG) (l : Launch) (k4 : Nat → Int32 → Int32 → Int32 → HS → Option (Int32 × HS)) (a0 : Nat) (a1 : Int32) (a2 : Int32) (a3 : Int32) (h : HS) (o : Int32 × HS) (hB : b_X2_union_30 k4 a0 a1 a2 a3 h = some o) (hk4 : ∀ (a0 : Nat) (a1 : Int32) (a2 : Int32) (a3 : Int32) (h : HS), k4 a0 a1 a2 a3 h = some o → Wq g l mX2_union 0 0 4 [some (va_rf (some a0)), some (.int a1), some (.int a2), some (.int a3)] [] h (QI o)) : Wq g l mX2_union 0 0 30 [some (va_rf (some a0)), some (.int a1), some (.int a2), some (.int a3)] [] h (QI o) := by
  unfold b_X2_union_30 at hB
  refine q_iinc dX2_union_30 rfl (show _ = (a3 + (1 : Int32)) from rfl) (by decide) (nb_i (j := 2) rfl) ?_
  refine q_goto (tgt := 4) dX2_union_33 (by decide) ?_
  exact Wq.mask [true, true, true, true] rfl (hk4 _ _ _ _ _ hB)
set_option maxHeartbeats 4000000 in
set_option maxRecDepth 100000 in
theorem wb_X2_union_4 (g : GG) (l : Launch) (k4 : Nat → Int32 → Int32 → Int32 → HS → Option (Int32 × HS)) (a0 : Nat) (a1 : Int32) (a2 : Int32) (a3 : Int32) (h : HS) (o : Int32 × HS) (hB : b_X2_union_4 k4 a0 a1 a2 a3 h = some o) (hk4 : ∀ (a0 : Nat) (a1 : Int32) (a2 : Int32) (a3 : Int32) (h : HS), k4 a0 a1 a2 a3 h = some o → Wq g l mX2_union 0 0 4 [some (va_rf (some a0)), some (.int a1), some (.int a2), some (.int a3)] [] h (QI o)) : Wq g l mX2_union 0 0 4 [some (va_rf (some a0)), some (.int a1), some (.int a2), some (.int a3)] [] h (QI o) := by
  unfold b_X2_union_4 at hB
  refine q_iload_n dX2_union_4 rfl rfl ?_
  refine q_aload_n dX2_union_5 rfl rfl ?_
  refine q_getI (j := 3) hB dX2_union_6 fc_2 (by decide) rfl wd_204 (fun n1 hB => ?_)
  refine q_icmp_ge (tgt := 36) hB dX2_union_9 (by decide) (fun hB => ?_) (fun hB => ?_)
  · refine q_iload_n dX2_union_36 rfl rfl ?_
    exact q_iret hB dX2_union_37 rfl (by decide) (by decide)
  · refine q_iload_n dX2_union_12 rfl rfl ?_
    refine q_iload_n dX2_union_13 rfl rfl ?_
    refine q_ishr dX2_union_14 ?_
    refine q_iconst (v := 1) dX2_union_15 (by decide) ?_
    refine q_iand dX2_union_16 ?_
    refine q_iconst (v := 1) dX2_union_17 (by decide) ?_
    refine q_icmp_ne (tgt := 30) hB dX2_union_18 (by decide) (fun hB => ?_) (fun hB => ?_)
    · exact Wq.mask [true, true, true, true] rfl (wb_X2_union_30 g l k4 _ _ _ _ _ o hB hk4)
    · refine q_iload_n dX2_union_21 rfl rfl ?_
      refine q_aload_n dX2_union_22 rfl rfl ?_
      refine q_getP (j := 1) hB dX2_union_23 fc_2 (by decide) rfl wd_202 (fun n2 hB => ?_)
      refine q_iload_n dX2_union_26 rfl rfl ?_
      refine q_iald hB dX2_union_27 (fun n3 hB => ?_)
      refine q_ior dX2_union_28 ?_
      refine q_istore_n dX2_union_29 rfl (by decide) (nb_i (j := 1) rfl) ?_
      exact Wq.mask [true, true, true, true] rfl (wb_X2_union_30 g l k4 _ _ _ _ _ o hB hk4)
set_option maxHeartbeats 4000000 in
theorem wl_X2_union_4 (g : GG) (l : Launch) (o : Int32 × HS) : ∀ (n : Nat) (a0 : Nat) (a1 : Int32) (a2 : Int32) (a3 : Int32) (h : HS), l_X2_union_4 n a0 a1 a2 a3 h = some o → Wq g l mX2_union 0 0 4 [some (va_rf (some a0)), some (.int a1), some (.int a2), some (.int a3)] [] h (QI o) := by
  intro n
  induction n with
  | zero =>
    intro a0 a1 a2 a3  h hB
    have q : (none : Option (Int32 × HS)) = some o := hB
    cases q
  | succ n ih =>
    intro a0 a1 a2 a3  h hB
    exact wb_X2_union_4 g l (l_X2_union_4 n) a0 a1 a2 a3 h o hB ih
set_option maxHeartbeats 4000000 in
set_option maxRecDepth 100000 in
theorem c_X2_union (g : GG) (l : Launch) (a0 : Nat) (a1 : Int32) (h : HS) (o : Int32 × HS) (hB : f_X2_union a0 a1 h = some o) : Ct g l mX2_union [va_rf (some a0), .int a1] h (QI o) := by
  refine Ct.of2 (lv0 := [some (va_rf (some a0)), some (.int a1), none, none]) (by decide +kernel) (by simp [lg_sl, rf_cat, cat_i, cat_l]) rfl ?_
  unfold f_X2_union at hB
  refine q_iconst (v := 0) dX2_union_0 (by decide) ?_
  refine q_istore_n dX2_union_1 rfl (by decide) (nb_i (j := 1) rfl) ?_
  refine q_iconst (v := 0) dX2_union_2 (by decide) ?_
  refine q_istore_n dX2_union_3 rfl (by decide) (nb_i (j := 2) rfl) ?_
  exact Wq.mask [true, true, true, true] rfl (wl_X2_union_4 g l o FU _ _ _ _ _ hB)

def b_X9_noneAsZero_11  (s0 : Int32) (h : HS) : Option (Int32 × HS) :=
  some (s0, h)
def f_X9_noneAsZero  (a0 : Int32) (h : HS) : Option (Int32 × HS) :=
  (if a0 = (-9 : Int32) then b_X9_noneAsZero_11 (0 : Int32) h else b_X9_noneAsZero_11 a0 h)
set_option maxHeartbeats 4000000 in
set_option maxRecDepth 100000 in
theorem wb_X9_noneAsZero_11 (g : GG) (l : Launch) (s0 : Int32) (h : HS) (o : Int32 × HS) (hB : b_X9_noneAsZero_11 s0 h = some o) : Wq g l mX9_noneAsZero 0 0 11 [none] [.int s0] h (QI o) := by
  unfold b_X9_noneAsZero_11 at hB
  exact q_iret hB dX9_noneAsZero_11 rfl (by decide) (by decide)
set_option maxHeartbeats 4000000 in
set_option maxRecDepth 100000 in
theorem c_X9_noneAsZero (g : GG) (l : Launch) (a0 : Int32) (h : HS) (o : Int32 × HS) (hB : f_X9_noneAsZero a0 h = some o) : Ct g l mX9_noneAsZero [.int a0] h (QI o) := by
  refine Ct.of2 (lv0 := [some (.int a0)]) (by decide +kernel) (by simp [lg_sl, rf_cat, cat_i, cat_l]) rfl ?_
  unfold f_X9_noneAsZero at hB
  refine q_iload_n dX9_noneAsZero_0 rfl rfl ?_
  refine q_bipush (v := -9) dX9_noneAsZero_1 (by decide) ?_
  refine q_icmp_ne (tgt := 10) hB dX9_noneAsZero_3 (by decide) (fun hB => ?_) (fun hB => ?_)
  · refine q_iload_n dX9_noneAsZero_10 rfl rfl ?_
    exact Wq.mask [false] rfl (wb_X9_noneAsZero_11 g l _ _ o hB)
  · refine q_iconst (v := 0) dX9_noneAsZero_6 (by decide) ?_
    refine q_goto (tgt := 11) dX9_noneAsZero_7 (by decide) ?_
    exact Wq.mask [false] rfl (wb_X9_noneAsZero_11 g l _ _ o hB)

def f_X9_worthOf  (a0 : Nat) (a1 : Int32) (h : HS) : Option (Int32 × HS) :=
  nn (some a0) (fun n1 => gd (ck h n1 7) (nn (some a0) (fun n3 => gd (rk h n3 7) (bd (f_X9_measureOf n3 (hP h n1 3) a1 h) (fun r2 => bd (f_X9_noneAsZero r2.1 r2.2) (fun r4 => some (r4.1, r4.2)))))))
set_option maxHeartbeats 4000000 in
set_option maxRecDepth 100000 in
theorem c_X9_worthOf (g : GG) (l : Launch) (a0 : Nat) (a1 : Int32) (h : HS) (o : Int32 × HS) (hB : f_X9_worthOf a0 a1 h = some o) : Ct g l mX9_worthOf [va_rf (some a0), .int a1] h (QI o) := by
  refine Ct.of2 (lv0 := [some (va_rf (some a0)), some (.int a1)]) (by decide +kernel) (by simp [lg_sl, rf_cat, cat_i, cat_l]) rfl ?_
  unfold f_X9_worthOf at hB
  refine q_aload_n dX9_worthOf_0 rfl rfl ?_
  refine q_aload_n dX9_worthOf_1 rfl rfl ?_
  refine q_getP (j := 3) hB dX9_worthOf_2 fc_7 (by decide) rfl wd_243 (fun n1 hB => ?_)
  refine q_iload_n dX9_worthOf_5 rfl rfl ?_
  refine q_callVI (k' := 0) (w' := 0) hB (fun b a hf => c_X9_measureOf g l b _ _ _ a hf) rfl rfl dX9_worthOf_6 wd_567 cs_X9_measureOf wd_569 wd_10 rfl ⟨⟨Nat.le_of_ble_eq_true rfl, Nat.le_of_ble_eq_true rfl⟩, ⟨Nat.le_of_ble_eq_true rfl, Nat.le_of_ble_eq_true rfl⟩, Nat.le_of_ble_eq_true rfl⟩ rfl rfl (fun n3 r2 hB => ?_)
  refine q_callSI (k' := 0) (w' := 0) hB (fun a hf => c_X9_noneAsZero g l _ _ a hf) rfl dX9_worthOf_9 wd_669 cs_X9_noneAsZero wd_670 rfl ⟨⟨Nat.le_of_ble_eq_true rfl, Nat.le_of_ble_eq_true rfl⟩, ⟨Nat.le_of_ble_eq_true rfl, Nat.le_of_ble_eq_true rfl⟩, Nat.le_of_ble_eq_true rfl⟩ rfl rfl (fun r4 hB => ?_)
  exact q_iret hB dX9_worthOf_12 rfl (by decide) (by decide)

def b_X9_commonDivisor_34  (a2 : Int32) (h : HS) : Option (Int32 × HS) :=
  some (a2, h)
def b_X9_commonDivisor_7  (k7 : Int32 → Int32 → Int32 → HS → Option (Int32 × HS)) (a2 : Int32) (a3 : Int32) (a4 : Int32) (h : HS) : Option (Int32 × HS) :=
  (if (100 : Int32) ≤ a4 then b_X9_commonDivisor_34 a2 h else (if a3 = 0 then b_X9_commonDivisor_34 a2 h else gd (decide (¬ a3 = 0)) (k7 a3 (a2 - a2 / a3 * a3) (a4 + (1 : Int32)) h)))
def l_X9_commonDivisor_7  : Nat → Int32 → Int32 → Int32 → HS → Option (Int32 × HS)
  | 0 => fun _ _ _ _ => none
  | n + 1 => b_X9_commonDivisor_7 (l_X9_commonDivisor_7 n)
def f_X9_commonDivisor  (a0 : Int32) (a1 : Int32) (h : HS) : Option (Int32 × HS) :=
  l_X9_commonDivisor_7 FU a0 a1 (0 : Int32) h
set_option maxHeartbeats 4000000 in
set_option maxRecDepth 100000 in
theorem wb_X9_commonDivisor_34 (g : GG) (l : Launch) (a2 : Int32) (h : HS) (o : Int32 × HS) (hB : b_X9_commonDivisor_34 a2 h = some o) : Wq g l mX9_commonDivisor 0 0 34 [none, none, some (.int a2), none, none, none] [] h (QI o) := by
  unfold b_X9_commonDivisor_34 at hB
  refine q_iload_n dX9_commonDivisor_34 rfl rfl ?_
  exact q_iret hB dX9_commonDivisor_35 rfl (by decide) (by decide)
set_option maxHeartbeats 4000000 in
set_option maxRecDepth 100000 in
theorem wb_X9_commonDivisor_7 (g : GG) (l : Launch) (k7 : Int32 → Int32 → Int32 → HS → Option (Int32 × HS)) (a2 : Int32) (a3 : Int32) (a4 : Int32) (h : HS) (o : Int32 × HS) (hB : b_X9_commonDivisor_7 k7 a2 a3 a4 h = some o) (hk7 : ∀ (a2 : Int32) (a3 : Int32) (a4 : Int32) (h : HS), k7 a2 a3 a4 h = some o → Wq g l mX9_commonDivisor 0 0 7 [none, none, some (.int a2), some (.int a3), some (.int a4), none] [] h (QI o)) : Wq g l mX9_commonDivisor 0 0 7 [none, none, some (.int a2), some (.int a3), some (.int a4), none] [] h (QI o) := by
  unfold b_X9_commonDivisor_7 at hB
  refine q_iload dX9_commonDivisor_7 rfl ?_
  refine q_bipush (v := 100) dX9_commonDivisor_9 (by decide) ?_
  refine q_icmp_ge (tgt := 34) hB dX9_commonDivisor_11 (by decide) (fun hB => ?_) (fun hB => ?_)
  · exact Wq.mask [false, false, true, false, false, false] rfl (wb_X9_commonDivisor_34 g l _ _ o hB)
  · refine q_iload_n dX9_commonDivisor_14 rfl rfl ?_
    refine q_if_eq (tgt := 34) hB dX9_commonDivisor_15 (by decide) (fun hB => ?_) (fun hB => ?_)
    · exact Wq.mask [false, false, true, false, false, false] rfl (wb_X9_commonDivisor_34 g l _ _ o hB)
    · refine q_iload_n dX9_commonDivisor_18 rfl rfl ?_
      refine q_iload_n dX9_commonDivisor_19 rfl rfl ?_
      refine q_irem hB dX9_commonDivisor_20 (fun hB => ?_)
      refine q_istore dX9_commonDivisor_21 (by decide) (nb_i (j := 4) rfl) ?_
      refine q_iload_n dX9_commonDivisor_23 rfl rfl ?_
      refine q_istore_n dX9_commonDivisor_24 rfl (by decide) (nb_n (j := 1) rfl) ?_
      refine q_iload dX9_commonDivisor_25 rfl ?_
      refine q_istore_n dX9_commonDivisor_27 rfl (by decide) (nb_i (j := 2) rfl) ?_
      refine q_iinc dX9_commonDivisor_28 rfl (show _ = (a4 + (1 : Int32)) from rfl) (by decide) (nb_i (j := 3) rfl) ?_
      refine q_goto (tgt := 7) dX9_commonDivisor_31 (by decide) ?_
      exact Wq.mask [false, false, true, true, true, false] rfl (hk7 _ _ _ _ hB)
set_option maxHeartbeats 4000000 in
theorem wl_X9_commonDivisor_7 (g : GG) (l : Launch) (o : Int32 × HS) : ∀ (n : Nat) (a2 : Int32) (a3 : Int32) (a4 : Int32) (h : HS), l_X9_commonDivisor_7 n a2 a3 a4 h = some o → Wq g l mX9_commonDivisor 0 0 7 [none, none, some (.int a2), some (.int a3), some (.int a4), none] [] h (QI o) := by
  intro n
  induction n with
  | zero =>
    intro a2 a3 a4  h hB
    have q : (none : Option (Int32 × HS)) = some o := hB
    cases q
  | succ n ih =>
    intro a2 a3 a4  h hB
    exact wb_X9_commonDivisor_7 g l (l_X9_commonDivisor_7 n) a2 a3 a4 h o hB ih
set_option maxHeartbeats 4000000 in
set_option maxRecDepth 100000 in
theorem c_X9_commonDivisor (g : GG) (l : Launch) (a0 : Int32) (a1 : Int32) (h : HS) (o : Int32 × HS) (hB : f_X9_commonDivisor a0 a1 h = some o) : Ct g l mX9_commonDivisor [.int a0, .int a1] h (QI o) := by
  refine Ct.of2 (lv0 := [some (.int a0), some (.int a1), none, none, none, none]) (by decide +kernel) (by simp [lg_sl, rf_cat, cat_i, cat_l]) rfl ?_
  unfold f_X9_commonDivisor at hB
  refine q_iload_n dX9_commonDivisor_0 rfl rfl ?_
  refine q_istore_n dX9_commonDivisor_1 rfl (by decide) (nb_i (j := 1) rfl) ?_
  refine q_iload_n dX9_commonDivisor_2 rfl rfl ?_
  refine q_istore_n dX9_commonDivisor_3 rfl (by decide) (nb_i (j := 2) rfl) ?_
  refine q_iconst (v := 0) dX9_commonDivisor_4 (by decide) ?_
  refine q_istore dX9_commonDivisor_5 (by decide) (nb_i (j := 3) rfl) ?_
  exact Wq.mask [false, false, true, true, true, false] rfl (wl_X9_commonDivisor_7 g l o FU _ _ _ _ hB)

def b_X9_fraction_22  (a3 : Int32) (s0 : Int32) (h : HS) : Option (Int32 × HS) :=
  gd (decide (¬ a3 = 0)) (some ((s0 / a3), h))
def f_X9_fraction  (a0 : Int32) (a1 : Int32) (a2 : Int32) (h : HS) : Option (Int32 × HS) :=
  bd (f_X9_commonDivisor (if 0 ≤ a0 then a0 else 0 - a0) a1 h) (fun r1 => (if a2 = 0 then b_X9_fraction_22 (if (1 : Int32) < r1.1 then r1.1 else (1 : Int32)) a1 r1.2 else b_X9_fraction_22 (if (1 : Int32) < r1.1 then r1.1 else (1 : Int32)) a0 r1.2))
set_option maxHeartbeats 4000000 in
set_option maxRecDepth 100000 in
theorem wb_X9_fraction_22 (g : GG) (l : Launch) (a3 : Int32) (s0 : Int32) (h : HS) (o : Int32 × HS) (hB : b_X9_fraction_22 a3 s0 h = some o) : Wq g l mX9_fraction 0 0 22 [none, none, none, some (.int a3)] [.int s0] h (QI o) := by
  unfold b_X9_fraction_22 at hB
  refine q_iload_n dX9_fraction_22 rfl rfl ?_
  refine q_idiv hB dX9_fraction_23 (fun hB => ?_)
  exact q_iret hB dX9_fraction_24 rfl (by decide) (by decide)
set_option maxHeartbeats 4000000 in
set_option maxRecDepth 100000 in
theorem c_X9_fraction (g : GG) (l : Launch) (a0 : Int32) (a1 : Int32) (a2 : Int32) (h : HS) (o : Int32 × HS) (hB : f_X9_fraction a0 a1 a2 h = some o) : Ct g l mX9_fraction [.int a0, .int a1, .int a2] h (QI o) := by
  refine Ct.of2 (lv0 := [some (.int a0), some (.int a1), some (.int a2), none]) (by decide +kernel) (by simp [lg_sl, rf_cat, cat_i, cat_l]) rfl ?_
  unfold f_X9_fraction at hB
  refine q_iconst (v := 1) dX9_fraction_0 (by decide) ?_
  refine q_iload_n dX9_fraction_1 rfl rfl ?_
  refine q_mabs dX9_fraction_2 wm_abs_675 (by decide) (by simp [rf_cat, cat_i, cat_l]) (by decide) (by decide) ?_
  refine q_iload_n dX9_fraction_5 rfl rfl ?_
  refine q_callSI (k' := 0) (w' := 0) hB (fun a hf => c_X9_commonDivisor g l _ _ _ a hf) rfl dX9_fraction_6 wd_678 cs_X9_commonDivisor wd_679 rfl ⟨⟨Nat.le_of_ble_eq_true rfl, Nat.le_of_ble_eq_true rfl⟩, ⟨Nat.le_of_ble_eq_true rfl, Nat.le_of_ble_eq_true rfl⟩, by simp [rf_cat, cat_i, cat_l]⟩ rfl rfl (fun r1 hB => ?_)
  refine q_mmax dX9_fraction_9 wm_max_681 (by decide) (by simp [rf_cat, cat_i, cat_l]) (by decide) (by decide) ?_
  refine q_istore_n dX9_fraction_12 rfl (by decide) (nb_i (j := 2) rfl) ?_
  refine q_iload_n dX9_fraction_13 rfl rfl ?_
  refine q_if_eq (tgt := 21) hB dX9_fraction_14 (by decide) (fun hB => ?_) (fun hB => ?_)
  · refine q_iload_n dX9_fraction_21 rfl rfl ?_
    exact Wq.mask [false, false, false, true] rfl (wb_X9_fraction_22 g l _ _ _ o hB)
  · refine q_iload_n dX9_fraction_17 rfl rfl ?_
    refine q_goto (tgt := 22) dX9_fraction_18 (by decide) ?_
    exact Wq.mask [false, false, false, true] rfl (wb_X9_fraction_22 g l _ _ _ o hB)

def b_X9_share_123  (k37 : Nat → Int32 → Int32 → Option Nat → Int32 → Int32 → HS → Option (Int32 × HS)) (a0 : Nat) (a1 : Int32) (a2 : Int32) (a3 : Option Nat) (a4 : Int32) (a5 : Int32) (h : HS) : Option (Int32 × HS) :=
  k37 a0 a1 a2 a3 a4 (a5 + (1 : Int32)) h
def b_X9_share_37  (k37 : Nat → Int32 → Int32 → Option Nat → Int32 → Int32 → HS → Option (Int32 × HS)) (a0 : Nat) (a1 : Int32) (a2 : Int32) (a3 : Option Nat) (a4 : Int32) (a5 : Int32) (h : HS) : Option (Int32 × HS) :=
  nn a3 (fun n1 => gd (ck h n1 2) ((if ((1 : Int32) <<< ((hI h n1 3) &&& 31)) ≤ a5 then nn a3 (fun n2 => gd (ck h n2 2) (gd (inb (hI h n2 3) 7) (bd (f_X9_fraction a4 (ordV (hI h n2 3).toNatClampNeg) a2 h) (fun r4 => some (r4.1, r4.2))))) else (if ((a5 >>> (a1 &&& 31)) &&& (1 : Int32)) = 0 then bd (f_J6_bitCount_0f7a4 a5 h) (fun r5 => gd (inb r5.1 7) (nn a3 (fun n7 => gd (ck r5.2 n7 2) (gd (inb (((hI r5.2 n7 3) - (1 : Int32)) - r5.1) 7) (nn a3 (fun n10 => gd (rk r5.2 n10 2) (bd (f_X2_union n10 (a5 ||| ((1 : Int32) <<< (a1 &&& 31))) r5.2) (fun r9 => nn (some a0) (fun n12 => gd (rk r9.2 n12 7) (bd (f_X9_worthOf n12 r9.1 r9.2) (fun r11 => nn a3 (fun n14 => gd (rk r11.2 n14 2) (bd (f_X2_union n14 a5 r11.2) (fun r13 => nn (some a0) (fun n16 => gd (rk r13.2 n16 7) (bd (f_X9_worthOf n16 r13.1 r13.2) (fun r15 => b_X9_share_123 k37 a0 a1 a2 a3 (a4 + (((ordV r5.1.toNatClampNeg) * (ordV (((hI r5.2 n7 3) - (1 : Int32)) - r5.1).toNatClampNeg)) * (r11.1 - r15.1))) a5 r15.2))))))))))))))))) else b_X9_share_123 k37 a0 a1 a2 a3 a4 a5 h))))
def l_X9_share_37  : Nat → Nat → Int32 → Int32 → Option Nat → Int32 → Int32 → HS → Option (Int32 × HS)
  | 0 => fun _ _ _ _ _ _ _ => none
  | n + 1 => b_X9_share_37 (l_X9_share_37 n)
def f_X9_share  (a0 : Nat) (a1 : Int32) (a2 : Int32) (h : HS) : Option (Int32 × HS) :=
  nn (some a0) (fun n1 => gd (ck h n1 7) (nn (some a0) (fun n3 => gd (rk h n3 7) (bd (f_X9_rowsOf n3 (hP h n1 3) h) (fun r2 => nn r2.1 (fun n5 => gd (rk r2.2 n5 2) (bd (f_X2_has n5 a1 r2.2) (fun r4 => (if r4.1 = 0 then some ((-1 : Int32), r4.2) else nn r2.1 (fun n6 => gd (ck r4.2 n6 2) ((if (hI r4.2 n6 3) ≤ (6 : Int32) then l_X9_share_37 FU a0 a1 a2 r2.1 (0 : Int32) (0 : Int32) r4.2 else some ((-4 : Int32), r4.2)))))))))))))
set_option maxHeartbeats 4000000 in
set_option maxRecDepth 100000 in
theorem wb_X9_share_123 (g : GG) (l : Launch) (k37 : Nat → Int32 → Int32 → Option Nat → Int32 → Int32 → HS → Option (Int32 × HS)) (a0 : Nat) (a1 : Int32) (a2 : Int32) (a3 : Option Nat) (a4 : Int32) (a5 : Int32) (h : HS) (o : Int32 × HS) (hB : b_X9_share_123 k37 a0 a1 a2 a3 a4 a5 h = some o) (hk37 : ∀ (a0 : Nat) (a1 : Int32) (a2 : Int32) (a3 : Option Nat) (a4 : Int32) (a5 : Int32) (h : HS), k37 a0 a1 a2 a3 a4 a5 h = some o → Wq g l mX9_share 0 0 37 [some (va_rf (some a0)), some (.int a1), some (.int a2), some (va_rf a3), some (.int a4), some (.int a5), none, none, none] [] h (QI o)) : Wq g l mX9_share 0 0 123 [some (va_rf (some a0)), some (.int a1), some (.int a2), some (va_rf a3), some (.int a4), some (.int a5), none, none, none] [] h (QI o) := by
  unfold b_X9_share_123 at hB
  refine q_iinc dX9_share_123 rfl (show _ = (a5 + (1 : Int32)) from rfl) (by decide) (nb_i (j := 4) rfl) ?_
  refine q_goto (tgt := 37) dX9_share_126 (by decide) ?_
  exact Wq.mask [true, true, true, true, true, true, false, false, false] rfl (hk37 _ _ _ _ _ _ _ hB)
set_option maxHeartbeats 4000000 in
set_option maxRecDepth 100000 in
theorem wb_X9_share_37 (g : GG) (l : Launch) (k37 : Nat → Int32 → Int32 → Option Nat → Int32 → Int32 → HS → Option (Int32 × HS)) (a0 : Nat) (a1 : Int32) (a2 : Int32) (a3 : Option Nat) (a4 : Int32) (a5 : Int32) (h : HS) (o : Int32 × HS) (hB : b_X9_share_37 k37 a0 a1 a2 a3 a4 a5 h = some o) (hk37 : ∀ (a0 : Nat) (a1 : Int32) (a2 : Int32) (a3 : Option Nat) (a4 : Int32) (a5 : Int32) (h : HS), k37 a0 a1 a2 a3 a4 a5 h = some o → Wq g l mX9_share 0 0 37 [some (va_rf (some a0)), some (.int a1), some (.int a2), some (va_rf a3), some (.int a4), some (.int a5), none, none, none] [] h (QI o)) : Wq g l mX9_share 0 0 37 [some (va_rf (some a0)), some (.int a1), some (.int a2), some (va_rf a3), some (.int a4), some (.int a5), none, none, none] [] h (QI o) := by
  unfold b_X9_share_37 at hB
  refine q_iload dX9_share_37 rfl ?_
  refine q_iconst (v := 1) dX9_share_39 (by decide) ?_
  refine q_aload_n dX9_share_40 rfl rfl ?_
  refine q_getI (j := 3) hB dX9_share_41 fc_2 (by decide) rfl wd_205 (fun n1 hB => ?_)
  refine q_ishl dX9_share_44 ?_
  refine q_icmp_ge (tgt := 129) hB dX9_share_45 (by decide) (fun hB => ?_) (fun hB => ?_)
  · refine q_iload dX9_share_129 rfl ?_
    refine q_static (v := va_rf (some 1030)) (fun s hK => z_O hK) dX9_share_131 wd_659 ?_
    refine q_aload_n dX9_share_134 rfl rfl ?_
    refine q_getI (j := 3) hB dX9_share_135 fc_2 (by decide) rfl wd_205 (fun n2 hB => ?_)
    refine q_ldO hB dX9_share_138 (fun hB => ?_)
    refine q_iload_n dX9_share_139 rfl rfl ?_
    refine q_callSI (k' := 0) (w' := 0) hB (fun a hf => c_X9_fraction g l _ _ _ _ a hf) rfl dX9_share_140 wd_672 cs_X9_fraction wd_673 rfl ⟨⟨Nat.le_of_ble_eq_true rfl, Nat.le_of_ble_eq_true rfl⟩, ⟨Nat.le_of_ble_eq_true rfl, Nat.le_of_ble_eq_true rfl⟩, Nat.le_of_ble_eq_true rfl⟩ rfl rfl (fun r4 hB => ?_)
    exact q_iret hB dX9_share_143 rfl (by decide) (by decide)
  · refine q_iload dX9_share_48 rfl ?_
    refine q_iload_n dX9_share_50 rfl rfl ?_
    refine q_ishr dX9_share_51 ?_
    refine q_iconst (v := 1) dX9_share_52 (by decide) ?_
    refine q_iand dX9_share_53 ?_
    refine q_if_ne (tgt := 123) hB dX9_share_54 (by decide) (fun hB => ?_) (fun hB => ?_)
    · exact Wq.mask [true, true, true, true, true, true, false, false, false] rfl (wb_X9_share_123 g l k37 _ _ _ _ _ _ _ o hB hk37)
    · refine q_iload dX9_share_57 rfl ?_
      refine q_callSI (k' := 0) (w' := 0) hB (fun a hf => c_J6_bitCount_0f7a4 g l _ _ a hf) rfl dX9_share_59 wd_658 cs_J6_bitCount_0f7a4 wd_410 rfl ⟨⟨Nat.le_of_ble_eq_true rfl, Nat.le_of_ble_eq_true rfl⟩, ⟨Nat.le_of_ble_eq_true rfl, Nat.le_of_ble_eq_true rfl⟩, Nat.le_of_ble_eq_true rfl⟩ rfl rfl (fun r5 hB => ?_)
      refine q_istore dX9_share_62 (by decide) (nb_i (j := 5) rfl) ?_
      refine q_static (v := va_rf (some 1030)) (fun s hK => z_O hK) dX9_share_64 wd_659 ?_
      refine q_iload dX9_share_67 rfl ?_
      refine q_ldO hB dX9_share_69 (fun hB => ?_)
      refine q_static (v := va_rf (some 1030)) (fun s hK => z_O hK) dX9_share_70 wd_659 ?_
      refine q_aload_n dX9_share_73 rfl rfl ?_
      refine q_getI (j := 3) hB dX9_share_74 fc_2 (by decide) rfl wd_205 (fun n7 hB => ?_)
      refine q_iconst (v := 1) dX9_share_77 (by decide) ?_
      refine q_isub dX9_share_78 ?_
      refine q_iload dX9_share_79 rfl ?_
      refine q_isub dX9_share_81 ?_
      refine q_ldO hB dX9_share_82 (fun hB => ?_)
      refine q_imul dX9_share_83 ?_
      refine q_istore dX9_share_84 (by decide) (nb_i (j := 6) rfl) ?_
      refine q_aload_n dX9_share_86 rfl rfl ?_
      refine q_aload_n dX9_share_87 rfl rfl ?_
      refine q_iload dX9_share_88 rfl ?_
      refine q_iconst (v := 1) dX9_share_90 (by decide) ?_
      refine q_iload_n dX9_share_91 rfl rfl ?_
      refine q_ishl dX9_share_92 ?_
      refine q_ior dX9_share_93 ?_
      refine q_callVI (k' := 0) (w' := 0) hB (fun b a hf => c_X2_union g l b _ _ a hf) rfl rfl dX9_share_94 wd_661 cs_X2_union wd_662 wd_663 rfl ⟨⟨Nat.le_of_ble_eq_true rfl, Nat.le_of_ble_eq_true rfl⟩, ⟨Nat.le_of_ble_eq_true rfl, Nat.le_of_ble_eq_true rfl⟩, by simp [rf_cat, cat_i, cat_l]⟩ rfl rfl (fun n10 r9 hB => ?_)
      refine q_callVI (k' := 0) (w' := 0) hB (fun b a hf => c_X9_worthOf g l b _ _ a hf) rfl rfl dX9_share_97 wd_665 cs_X9_worthOf wd_667 wd_17 rfl ⟨⟨Nat.le_of_ble_eq_true rfl, Nat.le_of_ble_eq_true rfl⟩, ⟨Nat.le_of_ble_eq_true rfl, Nat.le_of_ble_eq_true rfl⟩, Nat.le_of_ble_eq_true rfl⟩ rfl rfl (fun n12 r11 hB => ?_)
      refine q_aload_n dX9_share_100 rfl rfl ?_
      refine q_aload_n dX9_share_101 rfl rfl ?_
      refine q_iload dX9_share_102 rfl ?_
      refine q_callVI (k' := 0) (w' := 0) hB (fun b a hf => c_X2_union g l b _ _ a hf) rfl rfl dX9_share_104 wd_661 cs_X2_union wd_662 wd_663 rfl ⟨⟨Nat.le_of_ble_eq_true rfl, Nat.le_of_ble_eq_true rfl⟩, ⟨Nat.le_of_ble_eq_true rfl, Nat.le_of_ble_eq_true rfl⟩, by simp [rf_cat, cat_i, cat_l]⟩ rfl rfl (fun n14 r13 hB => ?_)
      refine q_callVI (k' := 0) (w' := 0) hB (fun b a hf => c_X9_worthOf g l b _ _ a hf) rfl rfl dX9_share_107 wd_665 cs_X9_worthOf wd_667 wd_17 rfl ⟨⟨Nat.le_of_ble_eq_true rfl, Nat.le_of_ble_eq_true rfl⟩, ⟨Nat.le_of_ble_eq_true rfl, Nat.le_of_ble_eq_true rfl⟩, by simp [rf_cat, cat_i, cat_l]⟩ rfl rfl (fun n16 r15 hB => ?_)
      refine q_isub dX9_share_110 ?_
      refine q_istore dX9_share_111 (by decide) (nb_i (j := 7) rfl) ?_
      refine q_iload dX9_share_113 rfl ?_
      refine q_iload dX9_share_115 rfl ?_
      refine q_iload dX9_share_117 rfl ?_
      refine q_imul dX9_share_119 ?_
      refine q_iadd dX9_share_120 ?_
      refine q_istore dX9_share_121 (by decide) (nb_r (j := 3) rfl) ?_
      exact Wq.mask [true, true, true, true, true, true, false, false, false] rfl (wb_X9_share_123 g l k37 _ _ _ _ _ _ _ o hB hk37)
set_option maxHeartbeats 4000000 in
theorem wl_X9_share_37 (g : GG) (l : Launch) (o : Int32 × HS) : ∀ (n : Nat) (a0 : Nat) (a1 : Int32) (a2 : Int32) (a3 : Option Nat) (a4 : Int32) (a5 : Int32) (h : HS), l_X9_share_37 n a0 a1 a2 a3 a4 a5 h = some o → Wq g l mX9_share 0 0 37 [some (va_rf (some a0)), some (.int a1), some (.int a2), some (va_rf a3), some (.int a4), some (.int a5), none, none, none] [] h (QI o) := by
  intro n
  induction n with
  | zero =>
    intro a0 a1 a2 a3 a4 a5  h hB
    have q : (none : Option (Int32 × HS)) = some o := hB
    cases q
  | succ n ih =>
    intro a0 a1 a2 a3 a4 a5  h hB
    exact wb_X9_share_37 g l (l_X9_share_37 n) a0 a1 a2 a3 a4 a5 h o hB ih
set_option maxHeartbeats 4000000 in
set_option maxRecDepth 100000 in
theorem c_X9_share (g : GG) (l : Launch) (a0 : Nat) (a1 : Int32) (a2 : Int32) (h : HS) (o : Int32 × HS) (hB : f_X9_share a0 a1 a2 h = some o) : Ct g l mX9_share [va_rf (some a0), .int a1, .int a2] h (QI o) := by
  refine Ct.of2 (lv0 := [some (va_rf (some a0)), some (.int a1), some (.int a2), none, none, none, none, none, none]) (by decide +kernel) (by simp [lg_sl, rf_cat, cat_i, cat_l]) rfl ?_
  unfold f_X9_share at hB
  refine q_aload_n dX9_share_0 rfl rfl ?_
  refine q_aload_n dX9_share_1 rfl rfl ?_
  refine q_getP (j := 3) hB dX9_share_2 fc_7 (by decide) rfl wd_243 (fun n1 hB => ?_)
  refine q_callVP (k' := 0) (w' := 0) hB (fun b a hf => c_X9_rowsOf g l b _ _ a hf) rfl rfl dX9_share_5 wd_380 cs_X9_rowsOf wd_382 wd_3 rfl ⟨⟨Nat.le_of_ble_eq_true rfl, Nat.le_of_ble_eq_true rfl⟩, ⟨Nat.le_of_ble_eq_true rfl, Nat.le_of_ble_eq_true rfl⟩, Nat.le_of_ble_eq_true rfl⟩ rfl rfl (fun n3 r2 hB => ?_)
  refine q_astore_n dX9_share_8 rfl (by decide) (nb_i (j := 2) rfl) ?_
  refine q_aload_n dX9_share_9 rfl rfl ?_
  refine q_iload_n dX9_share_10 rfl rfl ?_
  refine q_callVI (k' := 0) (w' := 0) hB (fun b a hf => c_X2_has g l b _ _ a hf) rfl rfl dX9_share_11 wd_551 cs_X2_has wd_552 wd_553 rfl ⟨⟨Nat.le_of_ble_eq_true rfl, Nat.le_of_ble_eq_true rfl⟩, ⟨Nat.le_of_ble_eq_true rfl, Nat.le_of_ble_eq_true rfl⟩, Nat.le_of_ble_eq_true rfl⟩ rfl rfl (fun n5 r4 hB => ?_)
  refine q_if_ne (tgt := 19) hB dX9_share_14 (by decide) (fun hB => ?_) (fun hB => ?_)
  · refine q_aload_n dX9_share_19 rfl rfl ?_
    refine q_getI (j := 3) hB dX9_share_20 fc_2 (by decide) rfl wd_205 (fun n6 hB => ?_)
    refine q_bipush (v := 6) dX9_share_23 (by decide) ?_
    refine q_icmp_le (tgt := 31) hB dX9_share_25 (by decide) (fun hB => ?_) (fun hB => ?_)
    · refine q_iconst (v := 0) dX9_share_31 (by decide) ?_
      refine q_istore dX9_share_32 (by decide) (nb_r (j := 3) rfl) ?_
      refine q_iconst (v := 0) dX9_share_34 (by decide) ?_
      refine q_istore dX9_share_35 (by decide) (nb_i (j := 4) rfl) ?_
      exact Wq.mask [true, true, true, true, true, true, false, false, false] rfl (wl_X9_share_37 g l o FU _ _ _ _ _ _ _ hB)
    · refine q_bipush (v := -4) dX9_share_28 (by decide) ?_
      exact q_iret hB dX9_share_30 rfl (by decide) (by decide)
  · refine q_iconst (v := -1) dX9_share_17 (by decide) ?_
    exact q_iret hB dX9_share_18 rfl (by decide) (by decide)

def b_X10_ones_4  (k4 : Int32 → Int32 → Int32 → HS → Option (Int32 × HS)) (a0 : Int32) (a1 : Int32) (a2 : Int32) (h : HS) : Option (Int32 × HS) :=
  (if (16 : Int32) ≤ a2 then some (a1, h) else k4 a0 (a1 + ((a0 >>> (a2 &&& 31)) &&& (1 : Int32))) (a2 + (1 : Int32)) h)
def l_X10_ones_4  : Nat → Int32 → Int32 → Int32 → HS → Option (Int32 × HS)
  | 0 => fun _ _ _ _ => none
  | n + 1 => b_X10_ones_4 (l_X10_ones_4 n)
def f_X10_ones  (a0 : Int32) (h : HS) : Option (Int32 × HS) :=
  l_X10_ones_4 FU a0 (0 : Int32) (0 : Int32) h
set_option maxHeartbeats 4000000 in
set_option maxRecDepth 100000 in
theorem wb_X10_ones_4 (g : GG) (l : Launch) (k4 : Int32 → Int32 → Int32 → HS → Option (Int32 × HS)) (a0 : Int32) (a1 : Int32) (a2 : Int32) (h : HS) (o : Int32 × HS) (hB : b_X10_ones_4 k4 a0 a1 a2 h = some o) (hk4 : ∀ (a0 : Int32) (a1 : Int32) (a2 : Int32) (h : HS), k4 a0 a1 a2 h = some o → Wq g l mX10_ones 0 0 4 [some (.int a0), some (.int a1), some (.int a2)] [] h (QI o)) : Wq g l mX10_ones 0 0 4 [some (.int a0), some (.int a1), some (.int a2)] [] h (QI o) := by
  unfold b_X10_ones_4 at hB
  refine q_iload_n dX10_ones_4 rfl rfl ?_
  refine q_bipush (v := 16) dX10_ones_5 (by decide) ?_
  refine q_icmp_ge (tgt := 24) hB dX10_ones_7 (by decide) (fun hB => ?_) (fun hB => ?_)
  · refine q_iload_n dX10_ones_24 rfl rfl ?_
    exact q_iret hB dX10_ones_25 rfl (by decide) (by decide)
  · refine q_iload_n dX10_ones_10 rfl rfl ?_
    refine q_iload_n dX10_ones_11 rfl rfl ?_
    refine q_iload_n dX10_ones_12 rfl rfl ?_
    refine q_ishr dX10_ones_13 ?_
    refine q_iconst (v := 1) dX10_ones_14 (by decide) ?_
    refine q_iand dX10_ones_15 ?_
    refine q_iadd dX10_ones_16 ?_
    refine q_istore_n dX10_ones_17 rfl (by decide) (nb_i (j := 0) rfl) ?_
    refine q_iinc dX10_ones_18 rfl (show _ = (a2 + (1 : Int32)) from rfl) (by decide) (nb_i (j := 1) rfl) ?_
    refine q_goto (tgt := 4) dX10_ones_21 (by decide) ?_
    exact Wq.mask [true, true, true] rfl (hk4 _ _ _ _ hB)
set_option maxHeartbeats 4000000 in
theorem wl_X10_ones_4 (g : GG) (l : Launch) (o : Int32 × HS) : ∀ (n : Nat) (a0 : Int32) (a1 : Int32) (a2 : Int32) (h : HS), l_X10_ones_4 n a0 a1 a2 h = some o → Wq g l mX10_ones 0 0 4 [some (.int a0), some (.int a1), some (.int a2)] [] h (QI o) := by
  intro n
  induction n with
  | zero =>
    intro a0 a1 a2  h hB
    have q : (none : Option (Int32 × HS)) = some o := hB
    cases q
  | succ n ih =>
    intro a0 a1 a2  h hB
    exact wb_X10_ones_4 g l (l_X10_ones_4 n) a0 a1 a2 h o hB ih
set_option maxHeartbeats 4000000 in
set_option maxRecDepth 100000 in
theorem c_X10_ones (g : GG) (l : Launch) (a0 : Int32) (h : HS) (o : Int32 × HS) (hB : f_X10_ones a0 h = some o) : Ct g l mX10_ones [.int a0] h (QI o) := by
  refine Ct.of2 (lv0 := [some (.int a0), none, none]) (by decide +kernel) (by simp [lg_sl, rf_cat, cat_i, cat_l]) rfl ?_
  unfold f_X10_ones at hB
  refine q_iconst (v := 0) dX10_ones_0 (by decide) ?_
  refine q_istore_n dX10_ones_1 rfl (by decide) (nb_i (j := 0) rfl) ?_
  refine q_iconst (v := 0) dX10_ones_2 (by decide) ?_
  refine q_istore_n dX10_ones_3 rfl (by decide) (nb_i (j := 1) rfl) ?_
  exact Wq.mask [true, true, true] rfl (wl_X10_ones_4 g l o FU _ _ _ _ hB)

def b_X10_factorial_4  (k4 : Int32 → Int32 → Int32 → HS → Option (Int32 × HS)) (a0 : Int32) (a1 : Int32) (a2 : Int32) (h : HS) : Option (Int32 × HS) :=
  (if a0 < a2 then some (a1, h) else k4 a0 (a1 * a2) (a2 + (1 : Int32)) h)
def l_X10_factorial_4  : Nat → Int32 → Int32 → Int32 → HS → Option (Int32 × HS)
  | 0 => fun _ _ _ _ => none
  | n + 1 => b_X10_factorial_4 (l_X10_factorial_4 n)
def f_X10_factorial  (a0 : Int32) (h : HS) : Option (Int32 × HS) :=
  l_X10_factorial_4 FU a0 (1 : Int32) (2 : Int32) h
set_option maxHeartbeats 4000000 in
set_option maxRecDepth 100000 in
theorem wb_X10_factorial_4 (g : GG) (l : Launch) (k4 : Int32 → Int32 → Int32 → HS → Option (Int32 × HS)) (a0 : Int32) (a1 : Int32) (a2 : Int32) (h : HS) (o : Int32 × HS) (hB : b_X10_factorial_4 k4 a0 a1 a2 h = some o) (hk4 : ∀ (a0 : Int32) (a1 : Int32) (a2 : Int32) (h : HS), k4 a0 a1 a2 h = some o → Wq g l mX10_factorial 0 0 4 [some (.int a0), some (.int a1), some (.int a2)] [] h (QI o)) : Wq g l mX10_factorial 0 0 4 [some (.int a0), some (.int a1), some (.int a2)] [] h (QI o) := by
  unfold b_X10_factorial_4 at hB
  refine q_iload_n dX10_factorial_4 rfl rfl ?_
  refine q_iload_n dX10_factorial_5 rfl rfl ?_
  refine q_icmp_gt (tgt := 19) hB dX10_factorial_6 (by decide) (fun hB => ?_) (fun hB => ?_)
  · refine q_iload_n dX10_factorial_19 rfl rfl ?_
    exact q_iret hB dX10_factorial_20 rfl (by decide) (by decide)
  · refine q_iload_n dX10_factorial_9 rfl rfl ?_
    refine q_iload_n dX10_factorial_10 rfl rfl ?_
    refine q_imul dX10_factorial_11 ?_
    refine q_istore_n dX10_factorial_12 rfl (by decide) (nb_i (j := 0) rfl) ?_
    refine q_iinc dX10_factorial_13 rfl (show _ = (a2 + (1 : Int32)) from rfl) (by decide) (nb_i (j := 1) rfl) ?_
    refine q_goto (tgt := 4) dX10_factorial_16 (by decide) ?_
    exact Wq.mask [true, true, true] rfl (hk4 _ _ _ _ hB)
set_option maxHeartbeats 4000000 in
theorem wl_X10_factorial_4 (g : GG) (l : Launch) (o : Int32 × HS) : ∀ (n : Nat) (a0 : Int32) (a1 : Int32) (a2 : Int32) (h : HS), l_X10_factorial_4 n a0 a1 a2 h = some o → Wq g l mX10_factorial 0 0 4 [some (.int a0), some (.int a1), some (.int a2)] [] h (QI o) := by
  intro n
  induction n with
  | zero =>
    intro a0 a1 a2  h hB
    have q : (none : Option (Int32 × HS)) = some o := hB
    cases q
  | succ n ih =>
    intro a0 a1 a2  h hB
    exact wb_X10_factorial_4 g l (l_X10_factorial_4 n) a0 a1 a2 h o hB ih
set_option maxHeartbeats 4000000 in
set_option maxRecDepth 100000 in
theorem c_X10_factorial (g : GG) (l : Launch) (a0 : Int32) (h : HS) (o : Int32 × HS) (hB : f_X10_factorial a0 h = some o) : Ct g l mX10_factorial [.int a0] h (QI o) := by
  refine Ct.of2 (lv0 := [some (.int a0), none, none]) (by decide +kernel) (by simp [lg_sl, rf_cat, cat_i, cat_l]) rfl ?_
  unfold f_X10_factorial at hB
  refine q_iconst (v := 1) dX10_factorial_0 (by decide) ?_
  refine q_istore_n dX10_factorial_1 rfl (by decide) (nb_i (j := 0) rfl) ?_
  refine q_iconst (v := 2) dX10_factorial_2 (by decide) ?_
  refine q_istore_n dX10_factorial_3 rfl (by decide) (nb_i (j := 1) rfl) ?_
  exact Wq.mask [true, true, true] rfl (wl_X10_factorial_4 g l o FU _ _ _ _ hB)

def b_X10_measureBy_31  (k4 : Nat → Int32 → Int32 → Int32 → HS → Option (Int32 × HS)) (a0 : Nat) (a1 : Int32) (a3 : Int32) (s0 : Int32) (s1 : Int32) (h : HS) : Option (Int32 × HS) :=
  k4 a0 a1 (s0 ||| s1) (a3 + (1 : Int32)) h
def b_X10_measureBy_4  (k4 : Nat → Int32 → Int32 → Int32 → HS → Option (Int32 × HS)) (a0 : Nat) (a1 : Int32) (a2 : Int32) (a3 : Int32) (h : HS) : Option (Int32 × HS) :=
  nn (some a0) (fun n1 => gd (ck h n1 8) ((if (hI h n1 13) ≤ a3 then nn (some a0) (fun n3 => gd (rk h n3 8) (bd (f_X10_measureOf n3 (0 : Int32) a2 h) (fun r2 => some (r2.1, r2.2)))) else bd (f_X10_has a1 a3 h) (fun r4 => (if r4.1 = 0 then b_X10_measureBy_31 k4 a0 a1 a3 a2 (0 : Int32) r4.2 else nn (some a0) (fun n5 => gd (ck r4.2 n5 8) (nn (hP r4.2 n5 16) (fun n6 => gd (ca r4.2 n6 9 a3) (b_X10_measureBy_31 k4 a0 a1 a3 a2 (hI r4.2 n6 a3.toNatClampNeg) r4.2)))))))))
def l_X10_measureBy_4  : Nat → Nat → Int32 → Int32 → Int32 → HS → Option (Int32 × HS)
  | 0 => fun _ _ _ _ _ => none
  | n + 1 => b_X10_measureBy_4 (l_X10_measureBy_4 n)
def f_X10_measureBy  (a0 : Nat) (a1 : Int32) (h : HS) : Option (Int32 × HS) :=
  l_X10_measureBy_4 FU a0 a1 (0 : Int32) (0 : Int32) h
set_option maxHeartbeats 4000000 in
set_option maxRecDepth 100000 in
theorem wb_X10_measureBy_31 (g : GG) (l : Launch) (k4 : Nat → Int32 → Int32 → Int32 → HS → Option (Int32 × HS)) (a0 : Nat) (a1 : Int32) (a3 : Int32) (s0 : Int32) (s1 : Int32) (h : HS) (o : Int32 × HS) (hB : b_X10_measureBy_31 k4 a0 a1 a3 s0 s1 h = some o) (hk4 : ∀ (a0 : Nat) (a1 : Int32) (a2 : Int32) (a3 : Int32) (h : HS), k4 a0 a1 a2 a3 h = some o → Wq g l mX10_measureBy 0 0 4 [some (va_rf (some a0)), some (.int a1), some (.int a2), some (.int a3)] [] h (QI o)) : Wq g l mX10_measureBy 0 0 31 [some (va_rf (some a0)), some (.int a1), none, some (.int a3)] [.int s1, .int s0] h (QI o) := by
  unfold b_X10_measureBy_31 at hB
  refine q_ior dX10_measureBy_31 ?_
  refine q_istore_n dX10_measureBy_32 rfl (by decide) (nb_i (j := 1) rfl) ?_
  refine q_iinc dX10_measureBy_33 rfl (show _ = (a3 + (1 : Int32)) from rfl) (by decide) (nb_i (j := 2) rfl) ?_
  refine q_goto (tgt := 4) dX10_measureBy_36 (by decide) ?_
  exact Wq.mask [true, true, true, true] rfl (hk4 _ _ _ _ _ hB)
set_option maxHeartbeats 4000000 in
set_option maxRecDepth 100000 in
theorem wb_X10_measureBy_4 (g : GG) (l : Launch) (k4 : Nat → Int32 → Int32 → Int32 → HS → Option (Int32 × HS)) (a0 : Nat) (a1 : Int32) (a2 : Int32) (a3 : Int32) (h : HS) (o : Int32 × HS) (hB : b_X10_measureBy_4 k4 a0 a1 a2 a3 h = some o) (hk4 : ∀ (a0 : Nat) (a1 : Int32) (a2 : Int32) (a3 : Int32) (h : HS), k4 a0 a1 a2 a3 h = some o → Wq g l mX10_measureBy 0 0 4 [some (va_rf (some a0)), some (.int a1), some (.int a2), some (.int a3)] [] h (QI o)) : Wq g l mX10_measureBy 0 0 4 [some (va_rf (some a0)), some (.int a1), some (.int a2), some (.int a3)] [] h (QI o) := by
  unfold b_X10_measureBy_4 at hB
  refine q_iload_n dX10_measureBy_4 rfl rfl ?_
  refine q_aload_n dX10_measureBy_5 rfl rfl ?_
  refine q_getI (j := 13) hB dX10_measureBy_6 fc_8 (by decide) rfl wd_742 (fun n1 hB => ?_)
  refine q_icmp_ge (tgt := 39) hB dX10_measureBy_9 (by decide) (fun hB => ?_) (fun hB => ?_)
  · refine q_aload_n dX10_measureBy_39 rfl rfl ?_
    refine q_iconst (v := 0) dX10_measureBy_40 (by decide) ?_
    refine q_iload_n dX10_measureBy_41 rfl rfl ?_
    refine q_callVI (k' := 0) (w' := 0) hB (fun b a hf => c_X10_measureOf g l b _ _ _ a hf) rfl rfl dX10_measureBy_42 wd_883 cs_X10_measureOf wd_885 wd_27 rfl ⟨⟨Nat.le_of_ble_eq_true rfl, Nat.le_of_ble_eq_true rfl⟩, ⟨Nat.le_of_ble_eq_true rfl, Nat.le_of_ble_eq_true rfl⟩, Nat.le_of_ble_eq_true rfl⟩ rfl rfl (fun n3 r2 hB => ?_)
    exact q_iret hB dX10_measureBy_45 rfl (by decide) (by decide)
  · refine q_iload_n dX10_measureBy_12 rfl rfl ?_
    refine q_iload_n dX10_measureBy_13 rfl rfl ?_
    refine q_iload_n dX10_measureBy_14 rfl rfl ?_
    refine q_callSI (k' := 0) (w' := 0) hB (fun a hf => c_X10_has g l _ _ _ a hf) rfl dX10_measureBy_15 wd_891 cs_X10_has wd_892 rfl ⟨⟨Nat.le_of_ble_eq_true rfl, Nat.le_of_ble_eq_true rfl⟩, ⟨Nat.le_of_ble_eq_true rfl, Nat.le_of_ble_eq_true rfl⟩, by simp [rf_cat, cat_i, cat_l]⟩ rfl rfl (fun r4 hB => ?_)
    refine q_if_eq (tgt := 30) hB dX10_measureBy_18 (by decide) (fun hB => ?_) (fun hB => ?_)
    · refine q_iconst (v := 0) dX10_measureBy_30 (by decide) ?_
      exact Wq.mask [true, true, false, true] rfl (wb_X10_measureBy_31 g l k4 _ _ _ _ _ _ o hB hk4)
    · refine q_aload_n dX10_measureBy_21 rfl rfl ?_
      refine q_getP (j := 16) hB dX10_measureBy_22 fc_8 (by decide) rfl wd_745 (fun n5 hB => ?_)
      refine q_iload_n dX10_measureBy_25 rfl rfl ?_
      refine q_iald hB dX10_measureBy_26 (fun n6 hB => ?_)
      refine q_goto (tgt := 31) dX10_measureBy_27 (by decide) ?_
      exact Wq.mask [true, true, false, true] rfl (wb_X10_measureBy_31 g l k4 _ _ _ _ _ _ o hB hk4)
set_option maxHeartbeats 4000000 in
theorem wl_X10_measureBy_4 (g : GG) (l : Launch) (o : Int32 × HS) : ∀ (n : Nat) (a0 : Nat) (a1 : Int32) (a2 : Int32) (a3 : Int32) (h : HS), l_X10_measureBy_4 n a0 a1 a2 a3 h = some o → Wq g l mX10_measureBy 0 0 4 [some (va_rf (some a0)), some (.int a1), some (.int a2), some (.int a3)] [] h (QI o) := by
  intro n
  induction n with
  | zero =>
    intro a0 a1 a2 a3  h hB
    have q : (none : Option (Int32 × HS)) = some o := hB
    cases q
  | succ n ih =>
    intro a0 a1 a2 a3  h hB
    exact wb_X10_measureBy_4 g l (l_X10_measureBy_4 n) a0 a1 a2 a3 h o hB ih
set_option maxHeartbeats 4000000 in
set_option maxRecDepth 100000 in
theorem c_X10_measureBy (g : GG) (l : Launch) (a0 : Nat) (a1 : Int32) (h : HS) (o : Int32 × HS) (hB : f_X10_measureBy a0 a1 h = some o) : Ct g l mX10_measureBy [va_rf (some a0), .int a1] h (QI o) := by
  refine Ct.of2 (lv0 := [some (va_rf (some a0)), some (.int a1), none, none]) (by decide +kernel) (by simp [lg_sl, rf_cat, cat_i, cat_l]) rfl ?_
  unfold f_X10_measureBy at hB
  refine q_iconst (v := 0) dX10_measureBy_0 (by decide) ?_
  refine q_istore_n dX10_measureBy_1 rfl (by decide) (nb_i (j := 1) rfl) ?_
  refine q_iconst (v := 0) dX10_measureBy_2 (by decide) ?_
  refine q_istore_n dX10_measureBy_3 rfl (by decide) (nb_i (j := 2) rfl) ?_
  exact Wq.mask [true, true, true, true] rfl (wl_X10_measureBy_4 g l o FU _ _ _ _ _ hB)

def b_X10_worthBy_17  (s0 : Int32) (h : HS) : Option (Int32 × HS) :=
  some (s0, h)
def f_X10_worthBy  (a0 : Nat) (a1 : Int32) (h : HS) : Option (Int32 × HS) :=
  nn (some a0) (fun n2 => gd (rk h n2 8) (bd (f_X10_measureBy n2 a1 h) (fun r1 => (if r1.1 = (-9 : Int32) then b_X10_worthBy_17 (0 : Int32) r1.2 else b_X10_worthBy_17 r1.1 r1.2))))
set_option maxHeartbeats 4000000 in
set_option maxRecDepth 100000 in
theorem wb_X10_worthBy_17 (g : GG) (l : Launch) (s0 : Int32) (h : HS) (o : Int32 × HS) (hB : b_X10_worthBy_17 s0 h = some o) : Wq g l mX10_worthBy 0 0 17 [none, none, none] [.int s0] h (QI o) := by
  unfold b_X10_worthBy_17 at hB
  exact q_iret hB dX10_worthBy_17 rfl (by decide) (by decide)
set_option maxHeartbeats 4000000 in
set_option maxRecDepth 100000 in
theorem c_X10_worthBy (g : GG) (l : Launch) (a0 : Nat) (a1 : Int32) (h : HS) (o : Int32 × HS) (hB : f_X10_worthBy a0 a1 h = some o) : Ct g l mX10_worthBy [va_rf (some a0), .int a1] h (QI o) := by
  refine Ct.of2 (lv0 := [some (va_rf (some a0)), some (.int a1), none]) (by decide +kernel) (by simp [lg_sl, rf_cat, cat_i, cat_l]) rfl ?_
  unfold f_X10_worthBy at hB
  refine q_aload_n dX10_worthBy_0 rfl rfl ?_
  refine q_iload_n dX10_worthBy_1 rfl rfl ?_
  refine q_callVI (k' := 0) (w' := 0) hB (fun b a hf => c_X10_measureBy g l b _ _ a hf) rfl rfl dX10_worthBy_2 wd_1044 cs_X10_measureBy wd_1046 wd_43 rfl ⟨⟨Nat.le_of_ble_eq_true rfl, Nat.le_of_ble_eq_true rfl⟩, ⟨Nat.le_of_ble_eq_true rfl, Nat.le_of_ble_eq_true rfl⟩, Nat.le_of_ble_eq_true rfl⟩ rfl rfl (fun n2 r1 hB => ?_)
  refine q_istore_n dX10_worthBy_5 rfl (by decide) (nb_i (j := 1) rfl) ?_
  refine q_iload_n dX10_worthBy_6 rfl rfl ?_
  refine q_bipush (v := -9) dX10_worthBy_7 (by decide) ?_
  refine q_icmp_ne (tgt := 16) hB dX10_worthBy_9 (by decide) (fun hB => ?_) (fun hB => ?_)
  · refine q_iload_n dX10_worthBy_16 rfl rfl ?_
    exact Wq.mask [false, false, false] rfl (wb_X10_worthBy_17 g l _ _ o hB)
  · refine q_iconst (v := 0) dX10_worthBy_12 (by decide) ?_
    refine q_goto (tgt := 17) dX10_worthBy_13 (by decide) ?_
    exact Wq.mask [false, false, false] rfl (wb_X10_worthBy_17 g l _ _ o hB)

def b_X10_common_13  (k13 : Int32 → Int32 → HS → Option (Int32 × HS)) (a2 : Int32) (a3 : Int32) (h : HS) : Option (Int32 × HS) :=
  (if a3 = 0 then some (a2, h) else gd (decide (¬ a3 = 0)) (k13 a3 (a2 - a2 / a3 * a3) h))
def l_X10_common_13  : Nat → Int32 → Int32 → HS → Option (Int32 × HS)
  | 0 => fun _ _ _ => none
  | n + 1 => b_X10_common_13 (l_X10_common_13 n)
def b_X10_common_10  (a1 : Int32) (s0 : Int32) (h : HS) : Option (Int32 × HS) :=
  l_X10_common_13 FU s0 a1 h
def f_X10_common  (a0 : Int32) (a1 : Int32) (h : HS) : Option (Int32 × HS) :=
  (if 0 ≤ a0 then b_X10_common_10 a1 a0 h else b_X10_common_10 a1 (-a0) h)
set_option maxHeartbeats 4000000 in
set_option maxRecDepth 100000 in
theorem wb_X10_common_13 (g : GG) (l : Launch) (k13 : Int32 → Int32 → HS → Option (Int32 × HS)) (a2 : Int32) (a3 : Int32) (h : HS) (o : Int32 × HS) (hB : b_X10_common_13 k13 a2 a3 h = some o) (hk13 : ∀ (a2 : Int32) (a3 : Int32) (h : HS), k13 a2 a3 h = some o → Wq g l mX10_common 0 0 13 [none, none, some (.int a2), some (.int a3), none] [] h (QI o)) : Wq g l mX10_common 0 0 13 [none, none, some (.int a2), some (.int a3), none] [] h (QI o) := by
  unfold b_X10_common_13 at hB
  refine q_iload_n dX10_common_13 rfl rfl ?_
  refine q_if_eq (tgt := 30) hB dX10_common_14 (by decide) (fun hB => ?_) (fun hB => ?_)
  · refine q_iload_n dX10_common_30 rfl rfl ?_
    exact q_iret hB dX10_common_31 rfl (by decide) (by decide)
  · refine q_iload_n dX10_common_17 rfl rfl ?_
    refine q_iload_n dX10_common_18 rfl rfl ?_
    refine q_irem hB dX10_common_19 (fun hB => ?_)
    refine q_istore dX10_common_20 (by decide) (nb_i (j := 3) rfl) ?_
    refine q_iload_n dX10_common_22 rfl rfl ?_
    refine q_istore_n dX10_common_23 rfl (by decide) (nb_n (j := 1) rfl) ?_
    refine q_iload dX10_common_24 rfl ?_
    refine q_istore_n dX10_common_26 rfl (by decide) (nb_i (j := 2) rfl) ?_
    refine q_goto (tgt := 13) dX10_common_27 (by decide) ?_
    exact Wq.mask [false, false, true, true, false] rfl (hk13 _ _ _ hB)
set_option maxHeartbeats 4000000 in
theorem wl_X10_common_13 (g : GG) (l : Launch) (o : Int32 × HS) : ∀ (n : Nat) (a2 : Int32) (a3 : Int32) (h : HS), l_X10_common_13 n a2 a3 h = some o → Wq g l mX10_common 0 0 13 [none, none, some (.int a2), some (.int a3), none] [] h (QI o) := by
  intro n
  induction n with
  | zero =>
    intro a2 a3  h hB
    have q : (none : Option (Int32 × HS)) = some o := hB
    cases q
  | succ n ih =>
    intro a2 a3  h hB
    exact wb_X10_common_13 g l (l_X10_common_13 n) a2 a3 h o hB ih
set_option maxHeartbeats 4000000 in
set_option maxRecDepth 100000 in
theorem wb_X10_common_10 (g : GG) (l : Launch) (a1 : Int32) (s0 : Int32) (h : HS) (o : Int32 × HS) (hB : b_X10_common_10 a1 s0 h = some o) : Wq g l mX10_common 0 0 10 [none, some (.int a1), none, none, none] [.int s0] h (QI o) := by
  unfold b_X10_common_10 at hB
  refine q_istore_n dX10_common_10 rfl (by decide) (nb_i (j := 1) rfl) ?_
  refine q_iload_n dX10_common_11 rfl rfl ?_
  refine q_istore_n dX10_common_12 rfl (by decide) (nb_i (j := 2) rfl) ?_
  exact Wq.mask [false, false, true, true, false] rfl (wl_X10_common_13 g l o FU _ _ _ hB)
set_option maxHeartbeats 4000000 in
set_option maxRecDepth 100000 in
theorem c_X10_common (g : GG) (l : Launch) (a0 : Int32) (a1 : Int32) (h : HS) (o : Int32 × HS) (hB : f_X10_common a0 a1 h = some o) : Ct g l mX10_common [.int a0, .int a1] h (QI o) := by
  refine Ct.of2 (lv0 := [some (.int a0), some (.int a1), none, none, none]) (by decide +kernel) (by simp [lg_sl, rf_cat, cat_i, cat_l]) rfl ?_
  unfold f_X10_common at hB
  refine q_iload_n dX10_common_0 rfl rfl ?_
  refine q_if_ge (tgt := 9) hB dX10_common_1 (by decide) (fun hB => ?_) (fun hB => ?_)
  · refine q_iload_n dX10_common_9 rfl rfl ?_
    exact Wq.mask [false, true, false, false, false] rfl (wb_X10_common_10 g l _ _ _ o hB)
  · refine q_iload_n dX10_common_4 rfl rfl ?_
    refine q_ineg dX10_common_5 ?_
    refine q_goto (tgt := 10) dX10_common_6 (by decide) ?_
    exact Wq.mask [false, true, false, false, false] rfl (wb_X10_common_10 g l _ _ _ o hB)

def b_X10_share_149  (s0 : Int32) (h : HS) : Option (Int32 × HS) :=
  some (s0, h)
def b_X10_share_109  (k40 : Nat → Int32 → Int32 → Int32 → Int32 → HS → Option (Int32 × HS)) (a0 : Nat) (a1 : Int32) (a2 : Int32) (a3 : Int32) (a4 : Int32) (h : HS) : Option (Int32 × HS) :=
  k40 a0 a1 a2 a3 (a4 + (1 : Int32)) h
def b_X10_share_40  (k40 : Nat → Int32 → Int32 → Int32 → Int32 → HS → Option (Int32 × HS)) (a0 : Nat) (a1 : Int32) (a2 : Int32) (a3 : Int32) (a4 : Int32) (h : HS) : Option (Int32 × HS) :=
  nn (some a0) (fun n1 => gd (ck h n1 8) ((if ((1 : Int32) <<< ((hI h n1 13) &&& 31)) ≤ a4 then nn (some a0) (fun n2 => gd (ck h n2 8) (bd (f_X10_factorial (hI h n2 13) h) (fun r3 => bd (f_X10_common a3 r3.1 r3.2) (fun r4 => (if a2 = 0 then nn (some a0) (fun n5 => gd (ck r4.2 n5 8) (bd (f_X10_factorial (hI r4.2 n5 13) r4.2) (fun r6 => gd (decide (¬ r4.1 = 0)) (b_X10_share_149 (r6.1 / r4.1) r6.2)))) else gd (decide (¬ r4.1 = 0)) (b_X10_share_149 (a3 / r4.1) r4.2)))))) else bd (f_X10_has a4 a1 h) (fun r7 => (if r7.1 = 0 then bd (f_X10_ones a4 r7.2) (fun r8 => bd (f_X10_factorial r8.1 r8.2) (fun r9 => nn (some a0) (fun n10 => gd (ck r9.2 n10 8) (bd (f_X10_ones a4 r9.2) (fun r11 => bd (f_X10_factorial (((hI r9.2 n10 13) - (1 : Int32)) - r11.1) r11.2) (fun r12 => nn (some a0) (fun n14 => gd (rk r12.2 n14 8) (bd (f_X10_worthBy n14 (a4 ||| ((1 : Int32) <<< (a1 &&& 31))) r12.2) (fun r13 => nn (some a0) (fun n16 => gd (rk r13.2 n16 8) (bd (f_X10_worthBy n16 a4 r13.2) (fun r15 => b_X10_share_109 k40 a0 a1 a2 (a3 + ((r9.1 * r12.1) * (r13.1 - r15.1))) a4 r15.2)))))))))))) else b_X10_share_109 k40 a0 a1 a2 a3 a4 r7.2)))))
def l_X10_share_40  : Nat → Nat → Int32 → Int32 → Int32 → Int32 → HS → Option (Int32 × HS)
  | 0 => fun _ _ _ _ _ _ => none
  | n + 1 => b_X10_share_40 (l_X10_share_40 n)
def f_X10_share  (a0 : Nat) (a1 : Int32) (a2 : Int32) (h : HS) : Option (Int32 × HS) :=
  nn (some a0) (fun n2 => gd (rk h n2 8) (bd (f_X10_findRows n2 (0 : Int32) h) (fun r1 => nn (some a0) (fun n3 => gd (ck r1.2 n3 8) (bd (f_X10_in a1.toInt64 (0 : Int64) ((hI r1.2 n3 13) - (1 : Int32)).toInt64 r1.2) (fun r4 => (if r4.1 = 0 then some ((-1 : Int32), r4.2) else nn (some a0) (fun n5 => gd (ck r4.2 n5 8) ((if (hI r4.2 n5 13) ≤ (6 : Int32) then l_X10_share_40 FU a0 a1 a2 (0 : Int32) (0 : Int32) r4.2 else some ((-4 : Int32), r4.2)))))))))))
set_option maxHeartbeats 4000000 in
set_option maxRecDepth 100000 in
theorem wb_X10_share_149 (g : GG) (l : Launch) (s0 : Int32) (h : HS) (o : Int32 × HS) (hB : b_X10_share_149 s0 h = some o) : Wq g l mX10_share 0 0 149 [none, none, none, none, none, none] [.int s0] h (QI o) := by
  unfold b_X10_share_149 at hB
  exact q_iret hB dX10_share_149 rfl (by decide) (by decide)
set_option maxHeartbeats 4000000 in
set_option maxRecDepth 100000 in
theorem wb_X10_share_109 (g : GG) (l : Launch) (k40 : Nat → Int32 → Int32 → Int32 → Int32 → HS → Option (Int32 × HS)) (a0 : Nat) (a1 : Int32) (a2 : Int32) (a3 : Int32) (a4 : Int32) (h : HS) (o : Int32 × HS) (hB : b_X10_share_109 k40 a0 a1 a2 a3 a4 h = some o) (hk40 : ∀ (a0 : Nat) (a1 : Int32) (a2 : Int32) (a3 : Int32) (a4 : Int32) (h : HS), k40 a0 a1 a2 a3 a4 h = some o → Wq g l mX10_share 0 0 40 [some (va_rf (some a0)), some (.int a1), some (.int a2), some (.int a3), some (.int a4), none] [] h (QI o)) : Wq g l mX10_share 0 0 109 [some (va_rf (some a0)), some (.int a1), some (.int a2), some (.int a3), some (.int a4), none] [] h (QI o) := by
  unfold b_X10_share_109 at hB
  refine q_iinc dX10_share_109 rfl (show _ = (a4 + (1 : Int32)) from rfl) (by decide) (nb_i (j := 3) rfl) ?_
  refine q_goto (tgt := 40) dX10_share_112 (by decide) ?_
  exact Wq.mask [true, true, true, true, true, false] rfl (hk40 _ _ _ _ _ _ hB)
set_option maxHeartbeats 4000000 in
set_option maxRecDepth 100000 in
theorem wb_X10_share_40 (g : GG) (l : Launch) (k40 : Nat → Int32 → Int32 → Int32 → Int32 → HS → Option (Int32 × HS)) (a0 : Nat) (a1 : Int32) (a2 : Int32) (a3 : Int32) (a4 : Int32) (h : HS) (o : Int32 × HS) (hB : b_X10_share_40 k40 a0 a1 a2 a3 a4 h = some o) (hk40 : ∀ (a0 : Nat) (a1 : Int32) (a2 : Int32) (a3 : Int32) (a4 : Int32) (h : HS), k40 a0 a1 a2 a3 a4 h = some o → Wq g l mX10_share 0 0 40 [some (va_rf (some a0)), some (.int a1), some (.int a2), some (.int a3), some (.int a4), none] [] h (QI o)) : Wq g l mX10_share 0 0 40 [some (va_rf (some a0)), some (.int a1), some (.int a2), some (.int a3), some (.int a4), none] [] h (QI o) := by
  unfold b_X10_share_40 at hB
  refine q_iload dX10_share_40 rfl ?_
  refine q_iconst (v := 1) dX10_share_42 (by decide) ?_
  refine q_aload_n dX10_share_43 rfl rfl ?_
  refine q_getI (j := 13) hB dX10_share_44 fc_8 (by decide) rfl wd_742 (fun n1 hB => ?_)
  refine q_ishl dX10_share_47 ?_
  refine q_icmp_ge (tgt := 115) hB dX10_share_48 (by decide) (fun hB => ?_) (fun hB => ?_)
  · refine q_iload_n dX10_share_115 rfl rfl ?_
    refine q_aload_n dX10_share_116 rfl rfl ?_
    refine q_getI (j := 13) hB dX10_share_117 fc_8 (by decide) rfl wd_742 (fun n2 hB => ?_)
    refine q_callSI (k' := 0) (w' := 0) hB (fun a hf => c_X10_factorial g l _ _ a hf) rfl dX10_share_120 wd_1037 cs_X10_factorial wd_1038 rfl ⟨⟨Nat.le_of_ble_eq_true rfl, Nat.le_of_ble_eq_true rfl⟩, ⟨Nat.le_of_ble_eq_true rfl, Nat.le_of_ble_eq_true rfl⟩, by simp [rf_cat, cat_i, cat_l]⟩ rfl rfl (fun r3 hB => ?_)
    refine q_callSI (k' := 0) (w' := 0) hB (fun a hf => c_X10_common g l _ _ _ a hf) rfl dX10_share_123 wd_1048 cs_X10_common wd_1049 rfl ⟨⟨Nat.le_of_ble_eq_true rfl, Nat.le_of_ble_eq_true rfl⟩, ⟨Nat.le_of_ble_eq_true rfl, Nat.le_of_ble_eq_true rfl⟩, Nat.le_of_ble_eq_true rfl⟩ rfl rfl (fun r4 hB => ?_)
    refine q_istore dX10_share_126 (by decide) (nb_i (j := 3) rfl) ?_
    refine q_iload_n dX10_share_128 rfl rfl ?_
    refine q_if_eq (tgt := 139) hB dX10_share_129 (by decide) (fun hB => ?_) (fun hB => ?_)
    · refine q_aload_n dX10_share_139 rfl rfl ?_
      refine q_getI (j := 13) hB dX10_share_140 fc_8 (by decide) rfl wd_742 (fun n5 hB => ?_)
      refine q_callSI (k' := 0) (w' := 0) hB (fun a hf => c_X10_factorial g l _ _ a hf) rfl dX10_share_143 wd_1037 cs_X10_factorial wd_1038 rfl ⟨⟨Nat.le_of_ble_eq_true rfl, Nat.le_of_ble_eq_true rfl⟩, ⟨Nat.le_of_ble_eq_true rfl, Nat.le_of_ble_eq_true rfl⟩, Nat.le_of_ble_eq_true rfl⟩ rfl rfl (fun r6 hB => ?_)
      refine q_iload dX10_share_146 rfl ?_
      refine q_idiv hB dX10_share_148 (fun hB => ?_)
      exact Wq.mask [false, false, false, false, false, false] rfl (wb_X10_share_149 g l _ _ o hB)
    · refine q_iload_n dX10_share_132 rfl rfl ?_
      refine q_iload dX10_share_133 rfl ?_
      refine q_idiv hB dX10_share_135 (fun hB => ?_)
      refine q_goto (tgt := 149) dX10_share_136 (by decide) ?_
      exact Wq.mask [false, false, false, false, false, false] rfl (wb_X10_share_149 g l _ _ o hB)
  · refine q_iload dX10_share_51 rfl ?_
    refine q_iload_n dX10_share_53 rfl rfl ?_
    refine q_callSI (k' := 0) (w' := 0) hB (fun a hf => c_X10_has g l _ _ _ a hf) rfl dX10_share_54 wd_891 cs_X10_has wd_892 rfl ⟨⟨Nat.le_of_ble_eq_true rfl, Nat.le_of_ble_eq_true rfl⟩, ⟨Nat.le_of_ble_eq_true rfl, Nat.le_of_ble_eq_true rfl⟩, Nat.le_of_ble_eq_true rfl⟩ rfl rfl (fun r7 hB => ?_)
    refine q_if_ne (tgt := 109) hB dX10_share_57 (by decide) (fun hB => ?_) (fun hB => ?_)
    · exact Wq.mask [true, true, true, true, true, false] rfl (wb_X10_share_109 g l k40 _ _ _ _ _ _ o hB hk40)
    · refine q_iload dX10_share_60 rfl ?_
      refine q_callSI (k' := 0) (w' := 0) hB (fun a hf => c_X10_ones g l _ _ a hf) rfl dX10_share_62 wd_1034 cs_X10_ones wd_1035 rfl ⟨⟨Nat.le_of_ble_eq_true rfl, Nat.le_of_ble_eq_true rfl⟩, ⟨Nat.le_of_ble_eq_true rfl, Nat.le_of_ble_eq_true rfl⟩, Nat.le_of_ble_eq_true rfl⟩ rfl rfl (fun r8 hB => ?_)
      refine q_callSI (k' := 0) (w' := 0) hB (fun a hf => c_X10_factorial g l _ _ a hf) rfl dX10_share_65 wd_1037 cs_X10_factorial wd_1038 rfl ⟨⟨Nat.le_of_ble_eq_true rfl, Nat.le_of_ble_eq_true rfl⟩, ⟨Nat.le_of_ble_eq_true rfl, Nat.le_of_ble_eq_true rfl⟩, Nat.le_of_ble_eq_true rfl⟩ rfl rfl (fun r9 hB => ?_)
      refine q_aload_n dX10_share_68 rfl rfl ?_
      refine q_getI (j := 13) hB dX10_share_69 fc_8 (by decide) rfl wd_742 (fun n10 hB => ?_)
      refine q_iconst (v := 1) dX10_share_72 (by decide) ?_
      refine q_isub dX10_share_73 ?_
      refine q_iload dX10_share_74 rfl ?_
      refine q_callSI (k' := 0) (w' := 0) hB (fun a hf => c_X10_ones g l _ _ a hf) rfl dX10_share_76 wd_1034 cs_X10_ones wd_1035 rfl ⟨⟨Nat.le_of_ble_eq_true rfl, Nat.le_of_ble_eq_true rfl⟩, ⟨Nat.le_of_ble_eq_true rfl, Nat.le_of_ble_eq_true rfl⟩, by simp [rf_cat, cat_i, cat_l]⟩ rfl rfl (fun r11 hB => ?_)
      refine q_isub dX10_share_79 ?_
      refine q_callSI (k' := 0) (w' := 0) hB (fun a hf => c_X10_factorial g l _ _ a hf) rfl dX10_share_80 wd_1037 cs_X10_factorial wd_1038 rfl ⟨⟨Nat.le_of_ble_eq_true rfl, Nat.le_of_ble_eq_true rfl⟩, ⟨Nat.le_of_ble_eq_true rfl, Nat.le_of_ble_eq_true rfl⟩, by simp [rf_cat, cat_i, cat_l]⟩ rfl rfl (fun r12 hB => ?_)
      refine q_imul dX10_share_83 ?_
      refine q_istore dX10_share_84 (by decide) (nb_i (j := 4) rfl) ?_
      refine q_iload_n dX10_share_86 rfl rfl ?_
      refine q_iload dX10_share_87 rfl ?_
      refine q_aload_n dX10_share_89 rfl rfl ?_
      refine q_iload dX10_share_90 rfl ?_
      refine q_iconst (v := 1) dX10_share_92 (by decide) ?_
      refine q_iload_n dX10_share_93 rfl rfl ?_
      refine q_ishl dX10_share_94 ?_
      refine q_ior dX10_share_95 ?_
      refine q_callVI (k' := 0) (w' := 0) hB (fun b a hf => c_X10_worthBy g l b _ _ a hf) rfl rfl dX10_share_96 wd_1040 cs_X10_worthBy wd_1042 wd_42 rfl ⟨⟨Nat.le_of_ble_eq_true rfl, Nat.le_of_ble_eq_true rfl⟩, ⟨Nat.le_of_ble_eq_true rfl, Nat.le_of_ble_eq_true rfl⟩, by simp [rf_cat, cat_i, cat_l]⟩ rfl rfl (fun n14 r13 hB => ?_)
      refine q_aload_n dX10_share_99 rfl rfl ?_
      refine q_iload dX10_share_100 rfl ?_
      refine q_callVI (k' := 0) (w' := 0) hB (fun b a hf => c_X10_worthBy g l b _ _ a hf) rfl rfl dX10_share_102 wd_1040 cs_X10_worthBy wd_1042 wd_42 rfl ⟨⟨Nat.le_of_ble_eq_true rfl, Nat.le_of_ble_eq_true rfl⟩, ⟨Nat.le_of_ble_eq_true rfl, Nat.le_of_ble_eq_true rfl⟩, by simp [rf_cat, cat_i, cat_l]⟩ rfl rfl (fun n16 r15 hB => ?_)
      refine q_isub dX10_share_105 ?_
      refine q_imul dX10_share_106 ?_
      refine q_iadd dX10_share_107 ?_
      refine q_istore_n dX10_share_108 rfl (by decide) (nb_i (j := 2) rfl) ?_
      exact Wq.mask [true, true, true, true, true, false] rfl (wb_X10_share_109 g l k40 _ _ _ _ _ _ o hB hk40)
set_option maxHeartbeats 4000000 in
theorem wl_X10_share_40 (g : GG) (l : Launch) (o : Int32 × HS) : ∀ (n : Nat) (a0 : Nat) (a1 : Int32) (a2 : Int32) (a3 : Int32) (a4 : Int32) (h : HS), l_X10_share_40 n a0 a1 a2 a3 a4 h = some o → Wq g l mX10_share 0 0 40 [some (va_rf (some a0)), some (.int a1), some (.int a2), some (.int a3), some (.int a4), none] [] h (QI o) := by
  intro n
  induction n with
  | zero =>
    intro a0 a1 a2 a3 a4  h hB
    have q : (none : Option (Int32 × HS)) = some o := hB
    cases q
  | succ n ih =>
    intro a0 a1 a2 a3 a4  h hB
    exact wb_X10_share_40 g l (l_X10_share_40 n) a0 a1 a2 a3 a4 h o hB ih
set_option maxHeartbeats 4000000 in
set_option maxRecDepth 100000 in
theorem c_X10_share (g : GG) (l : Launch) (a0 : Nat) (a1 : Int32) (a2 : Int32) (h : HS) (o : Int32 × HS) (hB : f_X10_share a0 a1 a2 h = some o) : Ct g l mX10_share [va_rf (some a0), .int a1, .int a2] h (QI o) := by
  refine Ct.of2 (lv0 := [some (va_rf (some a0)), some (.int a1), some (.int a2), none, none, none]) (by decide +kernel) (by simp [lg_sl, rf_cat, cat_i, cat_l]) rfl ?_
  unfold f_X10_share at hB
  refine q_aload_n dX10_share_0 rfl rfl ?_
  refine q_iconst (v := 0) dX10_share_1 (by decide) ?_
  refine q_callVV (k' := 0) (w' := 0) hB (fun b a hf => c_X10_findRows g l b _ _ a hf) rfl rfl dX10_share_2 wd_859 cs_X10_findRows wd_861 wd_21 rfl ⟨⟨Nat.le_of_ble_eq_true rfl, Nat.le_of_ble_eq_true rfl⟩, ⟨Nat.le_of_ble_eq_true rfl, Nat.le_of_ble_eq_true rfl⟩, Nat.le_of_ble_eq_true rfl⟩ rfl rfl (fun n2 r1 hB => ?_)
  refine q_iload_n dX10_share_5 rfl rfl ?_
  refine q_i2l dX10_share_6 ?_
  refine q_lconst (v := 0) dX10_share_7 (by decide) ?_
  refine q_aload_n dX10_share_8 rfl rfl ?_
  refine q_getI (j := 13) hB dX10_share_9 fc_8 (by decide) rfl wd_742 (fun n3 hB => ?_)
  refine q_iconst (v := 1) dX10_share_12 (by decide) ?_
  refine q_isub dX10_share_13 ?_
  refine q_i2l dX10_share_14 ?_
  refine q_callSI (k' := 0) (w' := 0) hB (fun a hf => c_X10_in g l _ _ _ _ a hf) rfl dX10_share_15 wd_825 cs_X10_in wd_826 rfl ⟨⟨Nat.le_of_ble_eq_true rfl, Nat.le_of_ble_eq_true rfl⟩, ⟨Nat.le_of_ble_eq_true rfl, Nat.le_of_ble_eq_true rfl⟩, Nat.le_of_ble_eq_true rfl⟩ rfl rfl (fun r4 hB => ?_)
  refine q_if_ne (tgt := 23) hB dX10_share_18 (by decide) (fun hB => ?_) (fun hB => ?_)
  · refine q_aload_n dX10_share_23 rfl rfl ?_
    refine q_getI (j := 13) hB dX10_share_24 fc_8 (by decide) rfl wd_742 (fun n5 hB => ?_)
    refine q_bipush (v := 6) dX10_share_27 (by decide) ?_
    refine q_icmp_le (tgt := 35) hB dX10_share_29 (by decide) (fun hB => ?_) (fun hB => ?_)
    · refine q_iconst (v := 0) dX10_share_35 (by decide) ?_
      refine q_istore_n dX10_share_36 rfl (by decide) (nb_i (j := 2) rfl) ?_
      refine q_iconst (v := 0) dX10_share_37 (by decide) ?_
      refine q_istore dX10_share_38 (by decide) (nb_i (j := 3) rfl) ?_
      exact Wq.mask [true, true, true, true, true, false] rfl (wl_X10_share_40 g l o FU _ _ _ _ _ _ hB)
    · refine q_bipush (v := -4) dX10_share_32 (by decide) ?_
      exact q_iret hB dX10_share_34 rfl (by decide) (by decide)
  · refine q_iconst (v := -1) dX10_share_21 (by decide) ?_
    exact q_iret hB dX10_share_22 rfl (by decide) (by decide)

def b_X9_power_4  (k4 : Int32 → Int32 → Int32 → Int32 → HS → Option (Int32 × HS)) (a0 : Int32) (a1 : Int32) (a2 : Int32) (a3 : Int32) (h : HS) : Option (Int32 × HS) :=
  (if a1 ≤ a3 then some (a2, h) else k4 a0 a1 (a2 * a0) (a3 + (1 : Int32)) h)
def l_X9_power_4  : Nat → Int32 → Int32 → Int32 → Int32 → HS → Option (Int32 × HS)
  | 0 => fun _ _ _ _ _ => none
  | n + 1 => b_X9_power_4 (l_X9_power_4 n)
def f_X9_power  (a0 : Int32) (a1 : Int32) (h : HS) : Option (Int32 × HS) :=
  l_X9_power_4 FU a0 a1 (1 : Int32) (0 : Int32) h
set_option maxHeartbeats 4000000 in
set_option maxRecDepth 100000 in
theorem wb_X9_power_4 (g : GG) (l : Launch) (k4 : Int32 → Int32 → Int32 → Int32 → HS → Option (Int32 × HS)) (a0 : Int32) (a1 : Int32) (a2 : Int32) (a3 : Int32) (h : HS) (o : Int32 × HS) (hB : b_X9_power_4 k4 a0 a1 a2 a3 h = some o) (hk4 : ∀ (a0 : Int32) (a1 : Int32) (a2 : Int32) (a3 : Int32) (h : HS), k4 a0 a1 a2 a3 h = some o → Wq g l mX9_power 0 0 4 [some (.int a0), some (.int a1), some (.int a2), some (.int a3)] [] h (QI o)) : Wq g l mX9_power 0 0 4 [some (.int a0), some (.int a1), some (.int a2), some (.int a3)] [] h (QI o) := by
  unfold b_X9_power_4 at hB
  refine q_iload_n dX9_power_4 rfl rfl ?_
  refine q_iload_n dX9_power_5 rfl rfl ?_
  refine q_icmp_ge (tgt := 19) hB dX9_power_6 (by decide) (fun hB => ?_) (fun hB => ?_)
  · refine q_iload_n dX9_power_19 rfl rfl ?_
    exact q_iret hB dX9_power_20 rfl (by decide) (by decide)
  · refine q_iload_n dX9_power_9 rfl rfl ?_
    refine q_iload_n dX9_power_10 rfl rfl ?_
    refine q_imul dX9_power_11 ?_
    refine q_istore_n dX9_power_12 rfl (by decide) (nb_i (j := 1) rfl) ?_
    refine q_iinc dX9_power_13 rfl (show _ = (a3 + (1 : Int32)) from rfl) (by decide) (nb_i (j := 2) rfl) ?_
    refine q_goto (tgt := 4) dX9_power_16 (by decide) ?_
    exact Wq.mask [true, true, true, true] rfl (hk4 _ _ _ _ _ hB)
set_option maxHeartbeats 4000000 in
theorem wl_X9_power_4 (g : GG) (l : Launch) (o : Int32 × HS) : ∀ (n : Nat) (a0 : Int32) (a1 : Int32) (a2 : Int32) (a3 : Int32) (h : HS), l_X9_power_4 n a0 a1 a2 a3 h = some o → Wq g l mX9_power 0 0 4 [some (.int a0), some (.int a1), some (.int a2), some (.int a3)] [] h (QI o) := by
  intro n
  induction n with
  | zero =>
    intro a0 a1 a2 a3  h hB
    have q : (none : Option (Int32 × HS)) = some o := hB
    cases q
  | succ n ih =>
    intro a0 a1 a2 a3  h hB
    exact wb_X9_power_4 g l (l_X9_power_4 n) a0 a1 a2 a3 h o hB ih
set_option maxHeartbeats 4000000 in
set_option maxRecDepth 100000 in
theorem c_X9_power (g : GG) (l : Launch) (a0 : Int32) (a1 : Int32) (h : HS) (o : Int32 × HS) (hB : f_X9_power a0 a1 h = some o) : Ct g l mX9_power [.int a0, .int a1] h (QI o) := by
  refine Ct.of2 (lv0 := [some (.int a0), some (.int a1), none, none]) (by decide +kernel) (by simp [lg_sl, rf_cat, cat_i, cat_l]) rfl ?_
  unfold f_X9_power at hB
  refine q_iconst (v := 1) dX9_power_0 (by decide) ?_
  refine q_istore_n dX9_power_1 rfl (by decide) (nb_i (j := 1) rfl) ?_
  refine q_iconst (v := 0) dX9_power_2 (by decide) ?_
  refine q_istore_n dX9_power_3 rfl (by decide) (nb_i (j := 2) rfl) ?_
  exact Wq.mask [true, true, true, true] rfl (wl_X9_power_4 g l o FU _ _ _ _ _ hB)

def b_X9_lost_21  (h : HS) : Option (Int32 × HS) :=
  some ((-2 : Int32), h)
def b_X9_lost_118  (k53 : Nat → Int32 → Int32 → Int32 → Option Nat → Int32 → Int32 → HS → Option (Int32 × HS)) (a0 : Nat) (a1 : Int32) (a2 : Int32) (a3 : Int32) (a4 : Option Nat) (a5 : Int32) (a6 : Int32) (h : HS) : Option (Int32 × HS) :=
  k53 a0 a1 a2 a3 a4 a5 (a6 + (1 : Int32)) h
def b_X9_lost_53  (k53 : Nat → Int32 → Int32 → Int32 → Option Nat → Int32 → Int32 → HS → Option (Int32 × HS)) (a0 : Nat) (a1 : Int32) (a2 : Int32) (a3 : Int32) (a4 : Option Nat) (a5 : Int32) (a6 : Int32) (h : HS) : Option (Int32 × HS) :=
  nn a4 (fun n1 => gd (ck h n1 2) ((if ((1 : Int32) <<< ((hI h n1 3) &&& 31)) ≤ a6 then nn a4 (fun n2 => gd (ck h n2 2) (bd (f_X9_power (10 : Int32) (hI h n2 3) h) (fun r3 => bd (f_X9_fraction a5 r3.1 a3 r3.2) (fun r4 => some (r4.1, r4.2))))) else nn (some a0) (fun n5 => gd (ck h n5 7) (nn a4 (fun n7 => gd (rk h n7 2) (bd (f_X2_union n7 a6 h) (fun r6 => nn (some a0) (fun n9 => gd (rk r6.2 n9 7) (bd (f_X9_measureOf n9 (hP h n5 3) r6.1 r6.2) (fun r8 => (if r8.1 < a1 then b_X9_lost_118 k53 a0 a1 a2 a3 a4 a5 a6 r8.2 else bd (f_J6_bitCount_0f7a4 a6 r8.2) (fun r10 => bd (f_X9_power ((10 : Int32) - a2) r10.1 r10.2) (fun r11 => nn a4 (fun n12 => gd (ck r11.2 n12 2) (bd (f_X9_power a2 ((hI r11.2 n12 3) - r10.1) r11.2) (fun r13 => b_X9_lost_118 k53 a0 a1 a2 a3 a4 (a5 + (r11.1 * r13.1)) a6 r13.2)))))))))))))))))
def l_X9_lost_53  : Nat → Nat → Int32 → Int32 → Int32 → Option Nat → Int32 → Int32 → HS → Option (Int32 × HS)
  | 0 => fun _ _ _ _ _ _ _ _ => none
  | n + 1 => b_X9_lost_53 (l_X9_lost_53 n)
def f_X9_lost  (a0 : Nat) (a1 : Int32) (a2 : Int32) (a3 : Int32) (h : HS) : Option (Int32 × HS) :=
  (if a1 < 0 then b_X9_lost_21 h else (if (999 : Int32) < a1 then b_X9_lost_21 h else (if a2 < 0 then b_X9_lost_21 h else (if a2 ≤ (10 : Int32) then nn (some a0) (fun n1 => gd (ck h n1 7) (nn (some a0) (fun n3 => gd (rk h n3 7) (bd (f_X9_rowsOf n3 (hP h n1 3) h) (fun r2 => nn r2.1 (fun n4 => gd (ck r2.2 n4 2) ((if (hI r2.2 n4 3) ≤ (6 : Int32) then l_X9_lost_53 FU a0 a1 a2 a3 r2.1 (0 : Int32) (0 : Int32) r2.2 else some ((-4 : Int32), r2.2))))))))) else b_X9_lost_21 h))))
set_option maxHeartbeats 4000000 in
set_option maxRecDepth 100000 in
theorem wb_X9_lost_21 (g : GG) (l : Launch) (h : HS) (o : Int32 × HS) (hB : b_X9_lost_21  h = some o) : Wq g l mX9_lost 0 0 21 [none, none, none, none, none, none, none, none] [] h (QI o) := by
  unfold b_X9_lost_21 at hB
  refine q_bipush (v := -2) dX9_lost_21 (by decide) ?_
  exact q_iret hB dX9_lost_23 rfl (by decide) (by decide)
set_option maxHeartbeats 4000000 in
set_option maxRecDepth 100000 in
theorem wb_X9_lost_118 (g : GG) (l : Launch) (k53 : Nat → Int32 → Int32 → Int32 → Option Nat → Int32 → Int32 → HS → Option (Int32 × HS)) (a0 : Nat) (a1 : Int32) (a2 : Int32) (a3 : Int32) (a4 : Option Nat) (a5 : Int32) (a6 : Int32) (h : HS) (o : Int32 × HS) (hB : b_X9_lost_118 k53 a0 a1 a2 a3 a4 a5 a6 h = some o) (hk53 : ∀ (a0 : Nat) (a1 : Int32) (a2 : Int32) (a3 : Int32) (a4 : Option Nat) (a5 : Int32) (a6 : Int32) (h : HS), k53 a0 a1 a2 a3 a4 a5 a6 h = some o → Wq g l mX9_lost 0 0 53 [some (va_rf (some a0)), some (.int a1), some (.int a2), some (.int a3), some (va_rf a4), some (.int a5), some (.int a6), none] [] h (QI o)) : Wq g l mX9_lost 0 0 118 [some (va_rf (some a0)), some (.int a1), some (.int a2), some (.int a3), some (va_rf a4), some (.int a5), some (.int a6), none] [] h (QI o) := by
  unfold b_X9_lost_118 at hB
  refine q_iinc dX9_lost_118 rfl (show _ = (a6 + (1 : Int32)) from rfl) (by decide) (nb_i (j := 5) rfl) ?_
  refine q_goto (tgt := 53) dX9_lost_121 (by decide) ?_
  exact Wq.mask [true, true, true, true, true, true, true, false] rfl (hk53 _ _ _ _ _ _ _ _ hB)
set_option maxHeartbeats 4000000 in
set_option maxRecDepth 100000 in
theorem wb_X9_lost_53 (g : GG) (l : Launch) (k53 : Nat → Int32 → Int32 → Int32 → Option Nat → Int32 → Int32 → HS → Option (Int32 × HS)) (a0 : Nat) (a1 : Int32) (a2 : Int32) (a3 : Int32) (a4 : Option Nat) (a5 : Int32) (a6 : Int32) (h : HS) (o : Int32 × HS) (hB : b_X9_lost_53 k53 a0 a1 a2 a3 a4 a5 a6 h = some o) (hk53 : ∀ (a0 : Nat) (a1 : Int32) (a2 : Int32) (a3 : Int32) (a4 : Option Nat) (a5 : Int32) (a6 : Int32) (h : HS), k53 a0 a1 a2 a3 a4 a5 a6 h = some o → Wq g l mX9_lost 0 0 53 [some (va_rf (some a0)), some (.int a1), some (.int a2), some (.int a3), some (va_rf a4), some (.int a5), some (.int a6), none] [] h (QI o)) : Wq g l mX9_lost 0 0 53 [some (va_rf (some a0)), some (.int a1), some (.int a2), some (.int a3), some (va_rf a4), some (.int a5), some (.int a6), none] [] h (QI o) := by
  unfold b_X9_lost_53 at hB
  refine q_iload dX9_lost_53 rfl ?_
  refine q_iconst (v := 1) dX9_lost_55 (by decide) ?_
  refine q_aload dX9_lost_56 rfl ?_
  refine q_getI (j := 3) hB dX9_lost_58 fc_2 (by decide) rfl wd_205 (fun n1 hB => ?_)
  refine q_ishl dX9_lost_61 ?_
  refine q_icmp_ge (tgt := 124) hB dX9_lost_62 (by decide) (fun hB => ?_) (fun hB => ?_)
  · refine q_iload dX9_lost_124 rfl ?_
    refine q_bipush (v := 10) dX9_lost_126 (by decide) ?_
    refine q_aload dX9_lost_128 rfl ?_
    refine q_getI (j := 3) hB dX9_lost_130 fc_2 (by decide) rfl wd_205 (fun n2 hB => ?_)
    refine q_callSI (k' := 0) (w' := 0) hB (fun a hf => c_X9_power g l _ _ _ a hf) rfl dX9_lost_133 wd_686 cs_X9_power wd_687 rfl ⟨⟨Nat.le_of_ble_eq_true rfl, Nat.le_of_ble_eq_true rfl⟩, ⟨Nat.le_of_ble_eq_true rfl, Nat.le_of_ble_eq_true rfl⟩, by simp [rf_cat, cat_i, cat_l]⟩ rfl rfl (fun r3 hB => ?_)
    refine q_iload_n dX9_lost_136 rfl rfl ?_
    refine q_callSI (k' := 0) (w' := 0) hB (fun a hf => c_X9_fraction g l _ _ _ _ a hf) rfl dX9_lost_137 wd_672 cs_X9_fraction wd_673 rfl ⟨⟨Nat.le_of_ble_eq_true rfl, Nat.le_of_ble_eq_true rfl⟩, ⟨Nat.le_of_ble_eq_true rfl, Nat.le_of_ble_eq_true rfl⟩, Nat.le_of_ble_eq_true rfl⟩ rfl rfl (fun r4 hB => ?_)
    exact q_iret hB dX9_lost_140 rfl (by decide) (by decide)
  · refine q_aload_n dX9_lost_65 rfl rfl ?_
    refine q_aload_n dX9_lost_66 rfl rfl ?_
    refine q_getP (j := 3) hB dX9_lost_67 fc_7 (by decide) rfl wd_243 (fun n5 hB => ?_)
    refine q_aload dX9_lost_70 rfl ?_
    refine q_iload dX9_lost_72 rfl ?_
    refine q_callVI (k' := 0) (w' := 0) hB (fun b a hf => c_X2_union g l b _ _ a hf) rfl rfl dX9_lost_74 wd_661 cs_X2_union wd_662 wd_663 rfl ⟨⟨Nat.le_of_ble_eq_true rfl, Nat.le_of_ble_eq_true rfl⟩, ⟨Nat.le_of_ble_eq_true rfl, Nat.le_of_ble_eq_true rfl⟩, by simp [rf_cat, cat_i, cat_l]⟩ rfl rfl (fun n7 r6 hB => ?_)
    refine q_callVI (k' := 0) (w' := 0) hB (fun b a hf => c_X9_measureOf g l b _ _ _ a hf) rfl rfl dX9_lost_77 wd_567 cs_X9_measureOf wd_569 wd_10 rfl ⟨⟨Nat.le_of_ble_eq_true rfl, Nat.le_of_ble_eq_true rfl⟩, ⟨Nat.le_of_ble_eq_true rfl, Nat.le_of_ble_eq_true rfl⟩, Nat.le_of_ble_eq_true rfl⟩ rfl rfl (fun n9 r8 hB => ?_)
    refine q_iload_n dX9_lost_80 rfl rfl ?_
    refine q_icmp_lt (tgt := 118) hB dX9_lost_81 (by decide) (fun hB => ?_) (fun hB => ?_)
    · exact Wq.mask [true, true, true, true, true, true, true, false] rfl (wb_X9_lost_118 g l k53 _ _ _ _ _ _ _ _ o hB hk53)
    · refine q_iload dX9_lost_84 rfl ?_
      refine q_callSI (k' := 0) (w' := 0) hB (fun a hf => c_J6_bitCount_0f7a4 g l _ _ a hf) rfl dX9_lost_86 wd_658 cs_J6_bitCount_0f7a4 wd_410 rfl ⟨⟨Nat.le_of_ble_eq_true rfl, Nat.le_of_ble_eq_true rfl⟩, ⟨Nat.le_of_ble_eq_true rfl, Nat.le_of_ble_eq_true rfl⟩, Nat.le_of_ble_eq_true rfl⟩ rfl rfl (fun r10 hB => ?_)
      refine q_istore dX9_lost_89 (by decide) (nb_i (j := 6) rfl) ?_
      refine q_iload dX9_lost_91 rfl ?_
      refine q_bipush (v := 10) dX9_lost_93 (by decide) ?_
      refine q_iload_n dX9_lost_95 rfl rfl ?_
      refine q_isub dX9_lost_96 ?_
      refine q_iload dX9_lost_97 rfl ?_
      refine q_callSI (k' := 0) (w' := 0) hB (fun a hf => c_X9_power g l _ _ _ a hf) rfl dX9_lost_99 wd_686 cs_X9_power wd_687 rfl ⟨⟨Nat.le_of_ble_eq_true rfl, Nat.le_of_ble_eq_true rfl⟩, ⟨Nat.le_of_ble_eq_true rfl, Nat.le_of_ble_eq_true rfl⟩, by simp [rf_cat, cat_i, cat_l]⟩ rfl rfl (fun r11 hB => ?_)
      refine q_iload_n dX9_lost_102 rfl rfl ?_
      refine q_aload dX9_lost_103 rfl ?_
      refine q_getI (j := 3) hB dX9_lost_105 fc_2 (by decide) rfl wd_205 (fun n12 hB => ?_)
      refine q_iload dX9_lost_108 rfl ?_
      refine q_isub dX9_lost_110 ?_
      refine q_callSI (k' := 0) (w' := 0) hB (fun a hf => c_X9_power g l _ _ _ a hf) rfl dX9_lost_111 wd_686 cs_X9_power wd_687 rfl ⟨⟨Nat.le_of_ble_eq_true rfl, Nat.le_of_ble_eq_true rfl⟩, ⟨Nat.le_of_ble_eq_true rfl, Nat.le_of_ble_eq_true rfl⟩, by simp [rf_cat, cat_i, cat_l]⟩ rfl rfl (fun r13 hB => ?_)
      refine q_imul dX9_lost_114 ?_
      refine q_iadd dX9_lost_115 ?_
      refine q_istore dX9_lost_116 (by decide) (nb_r (j := 4) rfl) ?_
      exact Wq.mask [true, true, true, true, true, true, true, false] rfl (wb_X9_lost_118 g l k53 _ _ _ _ _ _ _ _ o hB hk53)
set_option maxHeartbeats 4000000 in
theorem wl_X9_lost_53 (g : GG) (l : Launch) (o : Int32 × HS) : ∀ (n : Nat) (a0 : Nat) (a1 : Int32) (a2 : Int32) (a3 : Int32) (a4 : Option Nat) (a5 : Int32) (a6 : Int32) (h : HS), l_X9_lost_53 n a0 a1 a2 a3 a4 a5 a6 h = some o → Wq g l mX9_lost 0 0 53 [some (va_rf (some a0)), some (.int a1), some (.int a2), some (.int a3), some (va_rf a4), some (.int a5), some (.int a6), none] [] h (QI o) := by
  intro n
  induction n with
  | zero =>
    intro a0 a1 a2 a3 a4 a5 a6  h hB
    have q : (none : Option (Int32 × HS)) = some o := hB
    cases q
  | succ n ih =>
    intro a0 a1 a2 a3 a4 a5 a6  h hB
    exact wb_X9_lost_53 g l (l_X9_lost_53 n) a0 a1 a2 a3 a4 a5 a6 h o hB ih
set_option maxHeartbeats 4000000 in
set_option maxRecDepth 100000 in
theorem c_X9_lost (g : GG) (l : Launch) (a0 : Nat) (a1 : Int32) (a2 : Int32) (a3 : Int32) (h : HS) (o : Int32 × HS) (hB : f_X9_lost a0 a1 a2 a3 h = some o) : Ct g l mX9_lost [va_rf (some a0), .int a1, .int a2, .int a3] h (QI o) := by
  refine Ct.of2 (lv0 := [some (va_rf (some a0)), some (.int a1), some (.int a2), some (.int a3), none, none, none, none]) (by decide +kernel) (by simp [lg_sl, rf_cat, cat_i, cat_l]) rfl ?_
  unfold f_X9_lost at hB
  refine q_iload_n dX9_lost_0 rfl rfl ?_
  refine q_if_lt (tgt := 21) hB dX9_lost_1 (by decide) (fun hB => ?_) (fun hB => ?_)
  · exact Wq.mask [false, false, false, false, false, false, false, false] rfl (wb_X9_lost_21 g l _ o hB)
  · refine q_iload_n dX9_lost_4 rfl rfl ?_
    refine q_sipush (v := 999) dX9_lost_5 (by decide) ?_
    refine q_icmp_gt (tgt := 21) hB dX9_lost_8 (by decide) (fun hB => ?_) (fun hB => ?_)
    · exact Wq.mask [false, false, false, false, false, false, false, false] rfl (wb_X9_lost_21 g l _ o hB)
    · refine q_iload_n dX9_lost_11 rfl rfl ?_
      refine q_if_lt (tgt := 21) hB dX9_lost_12 (by decide) (fun hB => ?_) (fun hB => ?_)
      · exact Wq.mask [false, false, false, false, false, false, false, false] rfl (wb_X9_lost_21 g l _ o hB)
      · refine q_iload_n dX9_lost_15 rfl rfl ?_
        refine q_bipush (v := 10) dX9_lost_16 (by decide) ?_
        refine q_icmp_le (tgt := 24) hB dX9_lost_18 (by decide) (fun hB => ?_) (fun hB => ?_)
        · refine q_aload_n dX9_lost_24 rfl rfl ?_
          refine q_aload_n dX9_lost_25 rfl rfl ?_
          refine q_getP (j := 3) hB dX9_lost_26 fc_7 (by decide) rfl wd_243 (fun n1 hB => ?_)
          refine q_callVP (k' := 0) (w' := 0) hB (fun b a hf => c_X9_rowsOf g l b _ _ a hf) rfl rfl dX9_lost_29 wd_380 cs_X9_rowsOf wd_382 wd_3 rfl ⟨⟨Nat.le_of_ble_eq_true rfl, Nat.le_of_ble_eq_true rfl⟩, ⟨Nat.le_of_ble_eq_true rfl, Nat.le_of_ble_eq_true rfl⟩, Nat.le_of_ble_eq_true rfl⟩ rfl rfl (fun n3 r2 hB => ?_)
          refine q_astore dX9_lost_32 (by decide) (nb_i (j := 3) rfl) ?_
          refine q_aload dX9_lost_34 rfl ?_
          refine q_getI (j := 3) hB dX9_lost_36 fc_2 (by decide) rfl wd_205 (fun n4 hB => ?_)
          refine q_bipush (v := 6) dX9_lost_39 (by decide) ?_
          refine q_icmp_le (tgt := 47) hB dX9_lost_41 (by decide) (fun hB => ?_) (fun hB => ?_)
          · refine q_iconst (v := 0) dX9_lost_47 (by decide) ?_
            refine q_istore dX9_lost_48 (by decide) (nb_r (j := 4) rfl) ?_
            refine q_iconst (v := 0) dX9_lost_50 (by decide) ?_
            refine q_istore dX9_lost_51 (by decide) (nb_i (j := 5) rfl) ?_
            exact Wq.mask [true, true, true, true, true, true, true, false] rfl (wl_X9_lost_53 g l o FU _ _ _ _ _ _ _ _ hB)
          · refine q_bipush (v := -4) dX9_lost_44 (by decide) ?_
            exact q_iret hB dX9_lost_46 rfl (by decide) (by decide)
        · exact Wq.mask [false, false, false, false, false, false, false, false] rfl (wb_X9_lost_21 g l _ o hB)

def b_X10_lost_24  (h : HS) : Option (Int32 × HS) :=
  some ((-2 : Int32), h)
def b_X10_lost_168  (s0 : Int32) (h : HS) : Option (Int32 × HS) :=
  some (s0, h)
def b_X10_lost_133  (k53 : Nat → Int32 → Int32 → Int32 → Int32 → Int32 → Int32 → HS → Option (Int32 × HS)) (a0 : Nat) (a1 : Int32) (a2 : Int32) (a3 : Int32) (a5 : Int32) (a6 : Int32) (s0 : Int32) (s1 : Int32) (h : HS) : Option (Int32 × HS) :=
  k53 a0 a1 a2 a3 (s0 + s1) a5 (a6 + (1 : Int32)) h
def b_X10_lost_99  (k53 : Nat → Int32 → Int32 → Int32 → Int32 → Int32 → Int32 → HS → Option (Int32 × HS)) (k70 : Nat → Int32 → Int32 → Int32 → Int32 → Int32 → Int32 → Int32 → Int32 → HS → Option (Int32 × HS)) (a0 : Nat) (a1 : Int32) (a2 : Int32) (a3 : Int32) (a4 : Int32) (a5 : Int32) (a6 : Int32) (a8 : Int32) (s0 : Int32) (s1 : Int32) (h : HS) : Option (Int32 × HS) :=
  k70 a0 a1 a2 a3 a4 a5 a6 (s0 * s1) (a8 + (1 : Int32)) h
def b_X10_lost_70  (k53 : Nat → Int32 → Int32 → Int32 → Int32 → Int32 → Int32 → HS → Option (Int32 × HS)) (k70 : Nat → Int32 → Int32 → Int32 → Int32 → Int32 → Int32 → Int32 → Int32 → HS → Option (Int32 × HS)) (a0 : Nat) (a1 : Int32) (a2 : Int32) (a3 : Int32) (a4 : Int32) (a5 : Int32) (a6 : Int32) (a7 : Int32) (a8 : Int32) (h : HS) : Option (Int32 × HS) :=
  nn (some a0) (fun n1 => gd (ck h n1 8) ((if (hI h n1 13) ≤ a8 then nn (some a0) (fun n3 => gd (rk h n3 8) (bd (f_X10_measureBy n3 a6 h) (fun r2 => (if r2.1 < a1 then b_X10_lost_133 k53 a0 a1 a2 a3 (a5 + a7) a6 a4 (0 : Int32) r2.2 else b_X10_lost_133 k53 a0 a1 a2 a3 (a5 + a7) a6 a4 a7 r2.2)))) else bd (f_X10_has a6 a8 h) (fun r4 => (if r4.1 = 0 then b_X10_lost_99 k53 k70 a0 a1 a2 a3 a4 a5 a6 a8 a7 a2 r4.2 else b_X10_lost_99 k53 k70 a0 a1 a2 a3 a4 a5 a6 a8 a7 ((10 : Int32) - a2) r4.2)))))
def l_X10_lost_70  (k53 : Nat → Int32 → Int32 → Int32 → Int32 → Int32 → Int32 → HS → Option (Int32 × HS)) : Nat → Nat → Int32 → Int32 → Int32 → Int32 → Int32 → Int32 → Int32 → Int32 → HS → Option (Int32 × HS)
  | 0 => fun _ _ _ _ _ _ _ _ _ _ => none
  | n + 1 => b_X10_lost_70 k53 (l_X10_lost_70 k53 n)
def b_X10_lost_53  (k53 : Nat → Int32 → Int32 → Int32 → Int32 → Int32 → Int32 → HS → Option (Int32 × HS)) (a0 : Nat) (a1 : Int32) (a2 : Int32) (a3 : Int32) (a4 : Int32) (a5 : Int32) (a6 : Int32) (h : HS) : Option (Int32 × HS) :=
  nn (some a0) (fun n1 => gd (ck h n1 8) ((if ((1 : Int32) <<< ((hI h n1 13) &&& 31)) ≤ a6 then bd (f_X10_common a4 a5 h) (fun r2 => (if a3 = 0 then gd (decide (¬ r2.1 = 0)) (b_X10_lost_168 (a5 / r2.1) r2.2) else gd (decide (¬ r2.1 = 0)) (b_X10_lost_168 (a4 / r2.1) r2.2))) else l_X10_lost_70 k53 FU a0 a1 a2 a3 a4 a5 a6 (1 : Int32) (0 : Int32) h)))
def l_X10_lost_53  : Nat → Nat → Int32 → Int32 → Int32 → Int32 → Int32 → Int32 → HS → Option (Int32 × HS)
  | 0 => fun _ _ _ _ _ _ _ _ => none
  | n + 1 => b_X10_lost_53 (l_X10_lost_53 n)
def f_X10_lost  (a0 : Nat) (a1 : Int32) (a2 : Int32) (a3 : Int32) (h : HS) : Option (Int32 × HS) :=
  bd (f_X10_in a1.toInt64 (0 : Int64) (999 : Int64) h) (fun r1 => (if r1.1 = 0 then b_X10_lost_24 r1.2 else bd (f_X10_in a2.toInt64 (0 : Int64) (10 : Int64) r1.2) (fun r2 => (if r2.1 = 0 then b_X10_lost_24 r2.2 else nn (some a0) (fun n4 => gd (rk r2.2 n4 8) (bd (f_X10_findRows n4 (0 : Int32) r2.2) (fun r3 => nn (some a0) (fun n5 => gd (ck r3.2 n5 8) ((if (hI r3.2 n5 13) ≤ (6 : Int32) then l_X10_lost_53 FU a0 a1 a2 a3 (0 : Int32) (0 : Int32) (0 : Int32) r3.2 else some ((-4 : Int32), r3.2)))))))))))
set_option maxHeartbeats 4000000 in
set_option maxRecDepth 100000 in
theorem wb_X10_lost_24 (g : GG) (l : Launch) (h : HS) (o : Int32 × HS) (hB : b_X10_lost_24  h = some o) : Wq g l mX10_lost 0 0 24 [none, none, none, none, none, none, none, none, none] [] h (QI o) := by
  unfold b_X10_lost_24 at hB
  refine q_bipush (v := -2) dX10_lost_24 (by decide) ?_
  exact q_iret hB dX10_lost_26 rfl (by decide) (by decide)
set_option maxHeartbeats 4000000 in
set_option maxRecDepth 100000 in
theorem wb_X10_lost_168 (g : GG) (l : Launch) (s0 : Int32) (h : HS) (o : Int32 × HS) (hB : b_X10_lost_168 s0 h = some o) : Wq g l mX10_lost 0 0 168 [none, none, none, none, none, none, none, none, none] [.int s0] h (QI o) := by
  unfold b_X10_lost_168 at hB
  exact q_iret hB dX10_lost_168 rfl (by decide) (by decide)
set_option maxHeartbeats 4000000 in
set_option maxRecDepth 100000 in
theorem wb_X10_lost_133 (g : GG) (l : Launch) (k53 : Nat → Int32 → Int32 → Int32 → Int32 → Int32 → Int32 → HS → Option (Int32 × HS)) (a0 : Nat) (a1 : Int32) (a2 : Int32) (a3 : Int32) (a5 : Int32) (a6 : Int32) (s0 : Int32) (s1 : Int32) (h : HS) (o : Int32 × HS) (hB : b_X10_lost_133 k53 a0 a1 a2 a3 a5 a6 s0 s1 h = some o) (hk53 : ∀ (a0 : Nat) (a1 : Int32) (a2 : Int32) (a3 : Int32) (a4 : Int32) (a5 : Int32) (a6 : Int32) (h : HS), k53 a0 a1 a2 a3 a4 a5 a6 h = some o → Wq g l mX10_lost 0 0 53 [some (va_rf (some a0)), some (.int a1), some (.int a2), some (.int a3), some (.int a4), some (.int a5), some (.int a6), none, none] [] h (QI o)) : Wq g l mX10_lost 0 0 133 [some (va_rf (some a0)), some (.int a1), some (.int a2), some (.int a3), none, some (.int a5), some (.int a6), none, none] [.int s1, .int s0] h (QI o) := by
  unfold b_X10_lost_133 at hB
  refine q_iadd dX10_lost_133 ?_
  refine q_istore dX10_lost_134 (by decide) (nb_i (j := 3) rfl) ?_
  refine q_iinc dX10_lost_136 rfl (show _ = (a6 + (1 : Int32)) from rfl) (by decide) (nb_i (j := 5) rfl) ?_
  refine q_goto (tgt := 53) dX10_lost_139 (by decide) ?_
  exact Wq.mask [true, true, true, true, true, true, true, false, false] rfl (hk53 _ _ _ _ _ _ _ _ hB)
set_option maxHeartbeats 4000000 in
set_option maxRecDepth 100000 in
theorem wb_X10_lost_99 (g : GG) (l : Launch) (k53 : Nat → Int32 → Int32 → Int32 → Int32 → Int32 → Int32 → HS → Option (Int32 × HS)) (k70 : Nat → Int32 → Int32 → Int32 → Int32 → Int32 → Int32 → Int32 → Int32 → HS → Option (Int32 × HS)) (a0 : Nat) (a1 : Int32) (a2 : Int32) (a3 : Int32) (a4 : Int32) (a5 : Int32) (a6 : Int32) (a8 : Int32) (s0 : Int32) (s1 : Int32) (h : HS) (o : Int32 × HS) (hB : b_X10_lost_99 k53 k70 a0 a1 a2 a3 a4 a5 a6 a8 s0 s1 h = some o) (hk53 : ∀ (a0 : Nat) (a1 : Int32) (a2 : Int32) (a3 : Int32) (a4 : Int32) (a5 : Int32) (a6 : Int32) (h : HS), k53 a0 a1 a2 a3 a4 a5 a6 h = some o → Wq g l mX10_lost 0 0 53 [some (va_rf (some a0)), some (.int a1), some (.int a2), some (.int a3), some (.int a4), some (.int a5), some (.int a6), none, none] [] h (QI o)) (hk70 : ∀ (a0 : Nat) (a1 : Int32) (a2 : Int32) (a3 : Int32) (a4 : Int32) (a5 : Int32) (a6 : Int32) (a7 : Int32) (a8 : Int32) (h : HS), k70 a0 a1 a2 a3 a4 a5 a6 a7 a8 h = some o → Wq g l mX10_lost 0 0 70 [some (va_rf (some a0)), some (.int a1), some (.int a2), some (.int a3), some (.int a4), some (.int a5), some (.int a6), some (.int a7), some (.int a8)] [] h (QI o)) : Wq g l mX10_lost 0 0 99 [some (va_rf (some a0)), some (.int a1), some (.int a2), some (.int a3), some (.int a4), some (.int a5), some (.int a6), none, some (.int a8)] [.int s1, .int s0] h (QI o) := by
  unfold b_X10_lost_99 at hB
  refine q_imul dX10_lost_99 ?_
  refine q_istore dX10_lost_100 (by decide) (nb_i (j := 6) rfl) ?_
  refine q_iinc dX10_lost_102 rfl (show _ = (a8 + (1 : Int32)) from rfl) (by decide) (nb_i (j := 7) rfl) ?_
  refine q_goto (tgt := 70) dX10_lost_105 (by decide) ?_
  exact Wq.mask [true, true, true, true, true, true, true, true, true] rfl (hk70 _ _ _ _ _ _ _ _ _ _ hB)
set_option maxHeartbeats 4000000 in
set_option maxRecDepth 100000 in
theorem wb_X10_lost_70 (g : GG) (l : Launch) (k53 : Nat → Int32 → Int32 → Int32 → Int32 → Int32 → Int32 → HS → Option (Int32 × HS)) (k70 : Nat → Int32 → Int32 → Int32 → Int32 → Int32 → Int32 → Int32 → Int32 → HS → Option (Int32 × HS)) (a0 : Nat) (a1 : Int32) (a2 : Int32) (a3 : Int32) (a4 : Int32) (a5 : Int32) (a6 : Int32) (a7 : Int32) (a8 : Int32) (h : HS) (o : Int32 × HS) (hB : b_X10_lost_70 k53 k70 a0 a1 a2 a3 a4 a5 a6 a7 a8 h = some o) (hk53 : ∀ (a0 : Nat) (a1 : Int32) (a2 : Int32) (a3 : Int32) (a4 : Int32) (a5 : Int32) (a6 : Int32) (h : HS), k53 a0 a1 a2 a3 a4 a5 a6 h = some o → Wq g l mX10_lost 0 0 53 [some (va_rf (some a0)), some (.int a1), some (.int a2), some (.int a3), some (.int a4), some (.int a5), some (.int a6), none, none] [] h (QI o)) (hk70 : ∀ (a0 : Nat) (a1 : Int32) (a2 : Int32) (a3 : Int32) (a4 : Int32) (a5 : Int32) (a6 : Int32) (a7 : Int32) (a8 : Int32) (h : HS), k70 a0 a1 a2 a3 a4 a5 a6 a7 a8 h = some o → Wq g l mX10_lost 0 0 70 [some (va_rf (some a0)), some (.int a1), some (.int a2), some (.int a3), some (.int a4), some (.int a5), some (.int a6), some (.int a7), some (.int a8)] [] h (QI o)) : Wq g l mX10_lost 0 0 70 [some (va_rf (some a0)), some (.int a1), some (.int a2), some (.int a3), some (.int a4), some (.int a5), some (.int a6), some (.int a7), some (.int a8)] [] h (QI o) := by
  unfold b_X10_lost_70 at hB
  refine q_iload dX10_lost_70 rfl ?_
  refine q_aload_n dX10_lost_72 rfl rfl ?_
  refine q_getI (j := 13) hB dX10_lost_73 fc_8 (by decide) rfl wd_742 (fun n1 hB => ?_)
  refine q_icmp_ge (tgt := 108) hB dX10_lost_76 (by decide) (fun hB => ?_) (fun hB => ?_)
  · refine q_iload dX10_lost_108 rfl ?_
    refine q_iload dX10_lost_110 rfl ?_
    refine q_iadd dX10_lost_112 ?_
    refine q_istore dX10_lost_113 (by decide) (nb_i (j := 4) rfl) ?_
    refine q_iload dX10_lost_115 rfl ?_
    refine q_aload_n dX10_lost_117 rfl rfl ?_
    refine q_iload dX10_lost_118 rfl ?_
    refine q_callVI (k' := 0) (w' := 0) hB (fun b a hf => c_X10_measureBy g l b _ _ a hf) rfl rfl dX10_lost_120 wd_1044 cs_X10_measureBy wd_1046 wd_43 rfl ⟨⟨Nat.le_of_ble_eq_true rfl, Nat.le_of_ble_eq_true rfl⟩, ⟨Nat.le_of_ble_eq_true rfl, Nat.le_of_ble_eq_true rfl⟩, by simp [rf_cat, cat_i, cat_l]⟩ rfl rfl (fun n3 r2 hB => ?_)
    refine q_iload_n dX10_lost_123 rfl rfl ?_
    refine q_icmp_lt (tgt := 132) hB dX10_lost_124 (by decide) (fun hB => ?_) (fun hB => ?_)
    · refine q_iconst (v := 0) dX10_lost_132 (by decide) ?_
      exact Wq.mask [true, true, true, true, false, true, true, false, false] rfl (wb_X10_lost_133 g l k53 _ _ _ _ _ _ _ _ _ o hB hk53)
    · refine q_iload dX10_lost_127 rfl ?_
      refine q_goto (tgt := 133) dX10_lost_129 (by decide) ?_
      exact Wq.mask [true, true, true, true, false, true, true, false, false] rfl (wb_X10_lost_133 g l k53 _ _ _ _ _ _ _ _ _ o hB hk53)
  · refine q_iload dX10_lost_79 rfl ?_
    refine q_iload dX10_lost_81 rfl ?_
    refine q_iload dX10_lost_83 rfl ?_
    refine q_callSI (k' := 0) (w' := 0) hB (fun a hf => c_X10_has g l _ _ _ a hf) rfl dX10_lost_85 wd_891 cs_X10_has wd_892 rfl ⟨⟨Nat.le_of_ble_eq_true rfl, Nat.le_of_ble_eq_true rfl⟩, ⟨Nat.le_of_ble_eq_true rfl, Nat.le_of_ble_eq_true rfl⟩, by simp [rf_cat, cat_i, cat_l]⟩ rfl rfl (fun r4 hB => ?_)
    refine q_if_eq (tgt := 98) hB dX10_lost_88 (by decide) (fun hB => ?_) (fun hB => ?_)
    · refine q_iload_n dX10_lost_98 rfl rfl ?_
      exact Wq.mask [true, true, true, true, true, true, true, false, true] rfl (wb_X10_lost_99 g l k53 k70 _ _ _ _ _ _ _ _ _ _ _ o hB hk53 hk70)
    · refine q_bipush (v := 10) dX10_lost_91 (by decide) ?_
      refine q_iload_n dX10_lost_93 rfl rfl ?_
      refine q_isub dX10_lost_94 ?_
      refine q_goto (tgt := 99) dX10_lost_95 (by decide) ?_
      exact Wq.mask [true, true, true, true, true, true, true, false, true] rfl (wb_X10_lost_99 g l k53 k70 _ _ _ _ _ _ _ _ _ _ _ o hB hk53 hk70)
set_option maxHeartbeats 4000000 in
theorem wl_X10_lost_70 (g : GG) (l : Launch) (k53 : Nat → Int32 → Int32 → Int32 → Int32 → Int32 → Int32 → HS → Option (Int32 × HS)) (o : Int32 × HS) (hk53 : ∀ (a0 : Nat) (a1 : Int32) (a2 : Int32) (a3 : Int32) (a4 : Int32) (a5 : Int32) (a6 : Int32) (h : HS), k53 a0 a1 a2 a3 a4 a5 a6 h = some o → Wq g l mX10_lost 0 0 53 [some (va_rf (some a0)), some (.int a1), some (.int a2), some (.int a3), some (.int a4), some (.int a5), some (.int a6), none, none] [] h (QI o)) : ∀ (n : Nat) (a0 : Nat) (a1 : Int32) (a2 : Int32) (a3 : Int32) (a4 : Int32) (a5 : Int32) (a6 : Int32) (a7 : Int32) (a8 : Int32) (h : HS), l_X10_lost_70 k53 n a0 a1 a2 a3 a4 a5 a6 a7 a8 h = some o → Wq g l mX10_lost 0 0 70 [some (va_rf (some a0)), some (.int a1), some (.int a2), some (.int a3), some (.int a4), some (.int a5), some (.int a6), some (.int a7), some (.int a8)] [] h (QI o) := by
  intro n
  induction n with
  | zero =>
    intro a0 a1 a2 a3 a4 a5 a6 a7 a8  h hB
    have q : (none : Option (Int32 × HS)) = some o := hB
    cases q
  | succ n ih =>
    intro a0 a1 a2 a3 a4 a5 a6 a7 a8  h hB
    exact wb_X10_lost_70 g l k53 (l_X10_lost_70 k53 n) a0 a1 a2 a3 a4 a5 a6 a7 a8 h o hB hk53 ih
set_option maxHeartbeats 4000000 in
set_option maxRecDepth 100000 in
theorem wb_X10_lost_53 (g : GG) (l : Launch) (k53 : Nat → Int32 → Int32 → Int32 → Int32 → Int32 → Int32 → HS → Option (Int32 × HS)) (a0 : Nat) (a1 : Int32) (a2 : Int32) (a3 : Int32) (a4 : Int32) (a5 : Int32) (a6 : Int32) (h : HS) (o : Int32 × HS) (hB : b_X10_lost_53 k53 a0 a1 a2 a3 a4 a5 a6 h = some o) (hk53 : ∀ (a0 : Nat) (a1 : Int32) (a2 : Int32) (a3 : Int32) (a4 : Int32) (a5 : Int32) (a6 : Int32) (h : HS), k53 a0 a1 a2 a3 a4 a5 a6 h = some o → Wq g l mX10_lost 0 0 53 [some (va_rf (some a0)), some (.int a1), some (.int a2), some (.int a3), some (.int a4), some (.int a5), some (.int a6), none, none] [] h (QI o)) : Wq g l mX10_lost 0 0 53 [some (va_rf (some a0)), some (.int a1), some (.int a2), some (.int a3), some (.int a4), some (.int a5), some (.int a6), none, none] [] h (QI o) := by
  unfold b_X10_lost_53 at hB
  refine q_iload dX10_lost_53 rfl ?_
  refine q_iconst (v := 1) dX10_lost_55 (by decide) ?_
  refine q_aload_n dX10_lost_56 rfl rfl ?_
  refine q_getI (j := 13) hB dX10_lost_57 fc_8 (by decide) rfl wd_742 (fun n1 hB => ?_)
  refine q_ishl dX10_lost_60 ?_
  refine q_icmp_ge (tgt := 142) hB dX10_lost_61 (by decide) (fun hB => ?_) (fun hB => ?_)
  · refine q_iload dX10_lost_142 rfl ?_
    refine q_iload dX10_lost_144 rfl ?_
    refine q_callSI (k' := 0) (w' := 0) hB (fun a hf => c_X10_common g l _ _ _ a hf) rfl dX10_lost_146 wd_1048 cs_X10_common wd_1049 rfl ⟨⟨Nat.le_of_ble_eq_true rfl, Nat.le_of_ble_eq_true rfl⟩, ⟨Nat.le_of_ble_eq_true rfl, Nat.le_of_ble_eq_true rfl⟩, Nat.le_of_ble_eq_true rfl⟩ rfl rfl (fun r2 hB => ?_)
    refine q_istore dX10_lost_149 (by decide) (nb_i (j := 5) rfl) ?_
    refine q_iload_n dX10_lost_151 rfl rfl ?_
    refine q_if_eq (tgt := 163) hB dX10_lost_152 (by decide) (fun hB => ?_) (fun hB => ?_)
    · refine q_iload dX10_lost_163 rfl ?_
      refine q_iload dX10_lost_165 rfl ?_
      refine q_idiv hB dX10_lost_167 (fun hB => ?_)
      exact Wq.mask [false, false, false, false, false, false, false, false, false] rfl (wb_X10_lost_168 g l _ _ o hB)
    · refine q_iload dX10_lost_155 rfl ?_
      refine q_iload dX10_lost_157 rfl ?_
      refine q_idiv hB dX10_lost_159 (fun hB => ?_)
      refine q_goto (tgt := 168) dX10_lost_160 (by decide) ?_
      exact Wq.mask [false, false, false, false, false, false, false, false, false] rfl (wb_X10_lost_168 g l _ _ o hB)
  · refine q_iconst (v := 1) dX10_lost_64 (by decide) ?_
    refine q_istore dX10_lost_65 (by decide) (nb_i (j := 6) rfl) ?_
    refine q_iconst (v := 0) dX10_lost_67 (by decide) ?_
    refine q_istore dX10_lost_68 (by decide) (nb_i (j := 7) rfl) ?_
    exact Wq.mask [true, true, true, true, true, true, true, true, true] rfl (wl_X10_lost_70 g l k53 o hk53 FU _ _ _ _ _ _ _ _ _ _ hB)
set_option maxHeartbeats 4000000 in
theorem wl_X10_lost_53 (g : GG) (l : Launch) (o : Int32 × HS) : ∀ (n : Nat) (a0 : Nat) (a1 : Int32) (a2 : Int32) (a3 : Int32) (a4 : Int32) (a5 : Int32) (a6 : Int32) (h : HS), l_X10_lost_53 n a0 a1 a2 a3 a4 a5 a6 h = some o → Wq g l mX10_lost 0 0 53 [some (va_rf (some a0)), some (.int a1), some (.int a2), some (.int a3), some (.int a4), some (.int a5), some (.int a6), none, none] [] h (QI o) := by
  intro n
  induction n with
  | zero =>
    intro a0 a1 a2 a3 a4 a5 a6  h hB
    have q : (none : Option (Int32 × HS)) = some o := hB
    cases q
  | succ n ih =>
    intro a0 a1 a2 a3 a4 a5 a6  h hB
    exact wb_X10_lost_53 g l (l_X10_lost_53 n) a0 a1 a2 a3 a4 a5 a6 h o hB ih
set_option maxHeartbeats 4000000 in
set_option maxRecDepth 100000 in
theorem c_X10_lost (g : GG) (l : Launch) (a0 : Nat) (a1 : Int32) (a2 : Int32) (a3 : Int32) (h : HS) (o : Int32 × HS) (hB : f_X10_lost a0 a1 a2 a3 h = some o) : Ct g l mX10_lost [va_rf (some a0), .int a1, .int a2, .int a3] h (QI o) := by
  refine Ct.of2 (lv0 := [some (va_rf (some a0)), some (.int a1), some (.int a2), some (.int a3), none, none, none, none, none]) (by decide +kernel) (by simp [lg_sl, rf_cat, cat_i, cat_l]) rfl ?_
  unfold f_X10_lost at hB
  refine q_iload_n dX10_lost_0 rfl rfl ?_
  refine q_i2l dX10_lost_1 ?_
  refine q_lconst (v := 0) dX10_lost_2 (by decide) ?_
  refine q_ldc2 dX10_lost_3 wd_1055 ?_
  refine q_callSI (k' := 0) (w' := 0) hB (fun a hf => c_X10_in g l _ _ _ _ a hf) rfl dX10_lost_6 wd_825 cs_X10_in wd_826 rfl ⟨⟨Nat.le_of_ble_eq_true rfl, Nat.le_of_ble_eq_true rfl⟩, ⟨Nat.le_of_ble_eq_true rfl, Nat.le_of_ble_eq_true rfl⟩, Nat.le_of_ble_eq_true rfl⟩ rfl rfl (fun r1 hB => ?_)
  refine q_if_eq (tgt := 24) hB dX10_lost_9 (by decide) (fun hB => ?_) (fun hB => ?_)
  · exact Wq.mask [false, false, false, false, false, false, false, false, false] rfl (wb_X10_lost_24 g l _ o hB)
  · refine q_iload_n dX10_lost_12 rfl rfl ?_
    refine q_i2l dX10_lost_13 ?_
    refine q_lconst (v := 0) dX10_lost_14 (by decide) ?_
    refine q_ldc2 dX10_lost_15 wd_1056 ?_
    refine q_callSI (k' := 0) (w' := 0) hB (fun a hf => c_X10_in g l _ _ _ _ a hf) rfl dX10_lost_18 wd_825 cs_X10_in wd_826 rfl ⟨⟨Nat.le_of_ble_eq_true rfl, Nat.le_of_ble_eq_true rfl⟩, ⟨Nat.le_of_ble_eq_true rfl, Nat.le_of_ble_eq_true rfl⟩, Nat.le_of_ble_eq_true rfl⟩ rfl rfl (fun r2 hB => ?_)
    refine q_if_ne (tgt := 27) hB dX10_lost_21 (by decide) (fun hB => ?_) (fun hB => ?_)
    · refine q_aload_n dX10_lost_27 rfl rfl ?_
      refine q_iconst (v := 0) dX10_lost_28 (by decide) ?_
      refine q_callVV (k' := 0) (w' := 0) hB (fun b a hf => c_X10_findRows g l b _ _ a hf) rfl rfl dX10_lost_29 wd_859 cs_X10_findRows wd_861 wd_21 rfl ⟨⟨Nat.le_of_ble_eq_true rfl, Nat.le_of_ble_eq_true rfl⟩, ⟨Nat.le_of_ble_eq_true rfl, Nat.le_of_ble_eq_true rfl⟩, Nat.le_of_ble_eq_true rfl⟩ rfl rfl (fun n4 r3 hB => ?_)
      refine q_aload_n dX10_lost_32 rfl rfl ?_
      refine q_getI (j := 13) hB dX10_lost_33 fc_8 (by decide) rfl wd_742 (fun n5 hB => ?_)
      refine q_bipush (v := 6) dX10_lost_36 (by decide) ?_
      refine q_icmp_le (tgt := 44) hB dX10_lost_38 (by decide) (fun hB => ?_) (fun hB => ?_)
      · refine q_iconst (v := 0) dX10_lost_44 (by decide) ?_
        refine q_istore dX10_lost_45 (by decide) (nb_i (j := 3) rfl) ?_
        refine q_iconst (v := 0) dX10_lost_47 (by decide) ?_
        refine q_istore dX10_lost_48 (by decide) (nb_i (j := 4) rfl) ?_
        refine q_iconst (v := 0) dX10_lost_50 (by decide) ?_
        refine q_istore dX10_lost_51 (by decide) (nb_i (j := 5) rfl) ?_
        exact Wq.mask [true, true, true, true, true, true, true, false, false] rfl (wl_X10_lost_53 g l o FU _ _ _ _ _ _ _ _ hB)
      · refine q_bipush (v := -4) dX10_lost_41 (by decide) ?_
        exact q_iret hB dX10_lost_43 rfl (by decide) (by decide)
    · exact Wq.mask [false, false, false, false, false, false, false, false, false] rfl (wb_X10_lost_24 g l _ o hB)

def f_X9_seed  (a0 : Nat) (a1 : Int64) (h : HS) : Option (Int64 × HS) :=
  nn (some a0) (fun n1 => gd (ck h n1 7) (nn (some a0) (fun n2 => gd (ck h n2 7) (some ((hJ h n1 10), (sJ h n2 10 a1))))))
set_option maxHeartbeats 4000000 in
set_option maxRecDepth 100000 in
theorem c_X9_seed (g : GG) (l : Launch) (a0 : Nat) (a1 : Int64) (h : HS) (o : Int64 × HS) (hB : f_X9_seed a0 a1 h = some o) : Ct g l mX9_seed [va_rf (some a0), .long a1] h (QJ o) := by
  refine Ct.of2 (lv0 := [some (va_rf (some a0)), some (.long a1), none, none, none]) (by decide +kernel) (by simp [lg_sl, rf_cat, cat_i, cat_l]) rfl ?_
  unfold f_X9_seed at hB
  refine q_aload_n dX9_seed_0 rfl rfl ?_
  refine q_getJ (j := 10) hB dX9_seed_1 fc_7 (by decide) rfl wd_250 (fun n1 hB => ?_)
  refine q_lstore_n dX9_seed_4 rfl (by decide) (nb_n (j := 2) rfl) ?_
  refine q_aload_n dX9_seed_5 rfl rfl ?_
  refine q_lload_n dX9_seed_6 rfl rfl ?_
  refine q_putJ (j := 10) hB dX9_seed_7 fc_7 (by decide) rfl wd_250 rfl (fun n2 hB => ?_)
  refine q_lload_n dX9_seed_10 rfl rfl ?_
  exact q_lret hB dX9_seed_11 rfl (by decide) (by decide)

def f_X10_seed  (a0 : Nat) (a1 : Int64) (h : HS) : Option (Int64 × HS) :=
  nn (some a0) (fun n1 => gd (ck h n1 8) (nn (some a0) (fun n2 => gd (ck h n2 8) (some ((hJ h n1 27), (sJ h n2 27 a1))))))
set_option maxHeartbeats 4000000 in
set_option maxRecDepth 100000 in
theorem c_X10_seed (g : GG) (l : Launch) (a0 : Nat) (a1 : Int64) (h : HS) (o : Int64 × HS) (hB : f_X10_seed a0 a1 h = some o) : Ct g l mX10_seed [va_rf (some a0), .long a1] h (QJ o) := by
  refine Ct.of2 (lv0 := [some (va_rf (some a0)), some (.long a1), none, none, none]) (by decide +kernel) (by simp [lg_sl, rf_cat, cat_i, cat_l]) rfl ?_
  unfold f_X10_seed at hB
  refine q_aload_n dX10_seed_0 rfl rfl ?_
  refine q_getJ (j := 27) hB dX10_seed_1 fc_8 (by decide) rfl wd_756 (fun n1 hB => ?_)
  refine q_lstore_n dX10_seed_4 rfl (by decide) (nb_n (j := 2) rfl) ?_
  refine q_aload_n dX10_seed_5 rfl rfl ?_
  refine q_lload_n dX10_seed_6 rfl rfl ?_
  refine q_putJ (j := 27) hB dX10_seed_7 fc_8 (by decide) rfl wd_756 rfl (fun n2 hB => ?_)
  refine q_lload_n dX10_seed_10 rfl rfl ?_
  exact q_lret hB dX10_seed_11 rfl (by decide) (by decide)

def b_X9_drawIntoTrial_43  (h : HS) : Option (Unit × HS) :=
  some ((), h)
def f_X9_drawIntoTrial  (a0 : Nat) (a1 : Int32) (h : HS) : Option (Unit × HS) :=
  nn (some a0) (fun n1 => gd (ck h n1 7) (nn (hP h n1 4) (fun n3 => gd (rk h n3 3) (bd (f_X3_hasRoom n3 h) (fun r2 => (if r2.1 = 0 then nn (some a0) (fun n4 => gd (ck r2.2 n4 7) (nn (hP r2.2 n4 4) (fun n6 => gd (rk r2.2 n6 3) (bd (f_X3_remove n6 (0 : Int32) r2.2) (fun r5 => b_X9_drawIntoTrial_43 r5.2))))) else nn (some a0) (fun n7 => gd (ck r2.2 n7 7) (gd (decide (¬ (4 : Int32) = 0)) (gd (decide (¬ (4 : Int32) = 0)) (gd (decide (¬ (5 : Int32) = 0)) (gd (decide (¬ (32 : Int32) = 0)) (gd (decide (¬ (101 : Int32) = 0)) (nn (hP r2.2 n7 4) (fun n9 => gd (rk r2.2 n9 3) (bd (f_X3_append n9 (a1 - a1 / (4 : Int32) * (4 : Int32)) ((a1 / (4 : Int32)) - (a1 / (4 : Int32)) / (5 : Int32) * (5 : Int32)) ((a1 / (32 : Int32)) - (a1 / (32 : Int32)) / (101 : Int32) * (101 : Int32)) r2.2) (fun r8 => b_X9_drawIntoTrial_43 r8.2))))))))))))))))
set_option maxHeartbeats 4000000 in
set_option maxRecDepth 100000 in
theorem wb_X9_drawIntoTrial_43 (g : GG) (l : Launch) (h : HS) (o : Unit × HS) (hB : b_X9_drawIntoTrial_43  h = some o) : Wq g l mX9_drawIntoTrial 0 0 43 [none, none] [] h (QV o) := by
  unfold b_X9_drawIntoTrial_43 at hB
  exact q_vret hB dX9_drawIntoTrial_43 rfl (by decide) (by decide)
set_option maxHeartbeats 4000000 in
set_option maxRecDepth 100000 in
theorem c_X9_drawIntoTrial (g : GG) (l : Launch) (a0 : Nat) (a1 : Int32) (h : HS) (o : Unit × HS) (hB : f_X9_drawIntoTrial a0 a1 h = some o) : Ct g l mX9_drawIntoTrial [va_rf (some a0), .int a1] h (QV o) := by
  refine Ct.of2 (lv0 := [some (va_rf (some a0)), some (.int a1)]) (by decide +kernel) (by simp [lg_sl, rf_cat, cat_i, cat_l]) rfl ?_
  unfold f_X9_drawIntoTrial at hB
  refine q_aload_n dX9_drawIntoTrial_0 rfl rfl ?_
  refine q_getP (j := 4) hB dX9_drawIntoTrial_1 fc_7 (by decide) rfl wd_244 (fun n1 hB => ?_)
  refine q_callVI (k' := 0) (w' := 0) hB (fun b a hf => c_X3_hasRoom g l b _ a hf) rfl rfl dX9_drawIntoTrial_4 wd_465 cs_X3_hasRoom wd_466 wd_467 rfl ⟨⟨Nat.le_of_ble_eq_true rfl, Nat.le_of_ble_eq_true rfl⟩, ⟨Nat.le_of_ble_eq_true rfl, Nat.le_of_ble_eq_true rfl⟩, Nat.le_of_ble_eq_true rfl⟩ rfl rfl (fun n3 r2 hB => ?_)
  refine q_if_eq (tgt := 35) hB dX9_drawIntoTrial_7 (by decide) (fun hB => ?_) (fun hB => ?_)
  · refine q_aload_n dX9_drawIntoTrial_35 rfl rfl ?_
    refine q_getP (j := 4) hB dX9_drawIntoTrial_36 fc_7 (by decide) rfl wd_244 (fun n4 hB => ?_)
    refine q_iconst (v := 0) dX9_drawIntoTrial_39 (by decide) ?_
    refine q_callVV (k' := 0) (w' := 0) hB (fun b a hf => c_X3_remove g l b _ _ a hf) rfl rfl dX9_drawIntoTrial_40 wd_501 cs_X3_remove wd_502 wd_503 rfl ⟨⟨Nat.le_of_ble_eq_true rfl, Nat.le_of_ble_eq_true rfl⟩, ⟨Nat.le_of_ble_eq_true rfl, Nat.le_of_ble_eq_true rfl⟩, Nat.le_of_ble_eq_true rfl⟩ rfl rfl (fun n6 r5 hB => ?_)
    exact Wq.mask [false, false] rfl (wb_X9_drawIntoTrial_43 g l _ o hB)
  · refine q_aload_n dX9_drawIntoTrial_10 rfl rfl ?_
    refine q_getP (j := 4) hB dX9_drawIntoTrial_11 fc_7 (by decide) rfl wd_244 (fun n7 hB => ?_)
    refine q_iload_n dX9_drawIntoTrial_14 rfl rfl ?_
    refine q_iconst (v := 4) dX9_drawIntoTrial_15 (by decide) ?_
    refine q_irem hB dX9_drawIntoTrial_16 (fun hB => ?_)
    refine q_iload_n dX9_drawIntoTrial_17 rfl rfl ?_
    refine q_iconst (v := 4) dX9_drawIntoTrial_18 (by decide) ?_
    refine q_idiv hB dX9_drawIntoTrial_19 (fun hB => ?_)
    refine q_iconst (v := 5) dX9_drawIntoTrial_20 (by decide) ?_
    refine q_irem hB dX9_drawIntoTrial_21 (fun hB => ?_)
    refine q_iload_n dX9_drawIntoTrial_22 rfl rfl ?_
    refine q_bipush (v := 32) dX9_drawIntoTrial_23 (by decide) ?_
    refine q_idiv hB dX9_drawIntoTrial_25 (fun hB => ?_)
    refine q_bipush (v := 101) dX9_drawIntoTrial_26 (by decide) ?_
    refine q_irem hB dX9_drawIntoTrial_28 (fun hB => ?_)
    refine q_callVV (k' := 0) (w' := 0) hB (fun b a hf => c_X3_append g l b _ _ _ _ a hf) rfl rfl dX9_drawIntoTrial_29 wd_477 cs_X3_append wd_478 wd_479 rfl ⟨⟨Nat.le_of_ble_eq_true rfl, Nat.le_of_ble_eq_true rfl⟩, ⟨Nat.le_of_ble_eq_true rfl, Nat.le_of_ble_eq_true rfl⟩, Nat.le_of_ble_eq_true rfl⟩ rfl rfl (fun n9 r8 hB => ?_)
    refine q_goto (tgt := 43) dX9_drawIntoTrial_32 (by decide) ?_
    exact Wq.mask [false, false] rfl (wb_X9_drawIntoTrial_43 g l _ o hB)

def b_X9_drawn_11  (h : HS) : Option (Int32 × HS) :=
  some ((-2 : Int32), h)
def b_X9_drawn_29  (k29 : Nat → Int32 → Int32 → Int32 → HS → Option (Int32 × HS)) (a0 : Nat) (a1 : Int32) (a2 : Int32) (a3 : Int32) (h : HS) : Option (Int32 × HS) :=
  (if a1 ≤ a3 then some (a2, h) else nn (some a0) (fun n1 => gd (ck h n1 7) (nn (some a0) (fun n2 => gd (ck h n2 7) (nn (some a0) (fun n3 => gd (ck (sJ h n2 10 (((hJ h n1 10) * (6364136223846793005 : Int64)) + (1442695040888963407 : Int64))) n3 7) (nn (some a0) (fun n5 => gd (rk (sJ h n2 10 (((hJ h n1 10) * (6364136223846793005 : Int64)) + (1442695040888963407 : Int64))) n5 7) (bd (f_X9_drawIntoTrial n5 ((hJ (sJ h n2 10 (((hJ h n1 10) * (6364136223846793005 : Int64)) + (1442695040888963407 : Int64))) n3 10).toUInt64 >>> ((33 : Int32).toInt64.toUInt64 &&& Int64.toUInt64 63)).toInt64.toInt32 (sJ h n2 10 (((hJ h n1 10) * (6364136223846793005 : Int64)) + (1442695040888963407 : Int64)))) (fun r4 => nn (some a0) (fun n6 => gd (ck r4.2 n6 7) (nn (some a0) (fun n8 => gd (rk r4.2 n8 7) (bd (f_X9_totalOf n8 (hP r4.2 n6 4) r4.2) (fun r7 => bd (f_X9_noneAsZero r7.1 r7.2) (fun r9 => k29 a0 a1 (a2 + r9.1) (a3 + (1 : Int32)) r9.2))))))))))))))))
def l_X9_drawn_29  : Nat → Nat → Int32 → Int32 → Int32 → HS → Option (Int32 × HS)
  | 0 => fun _ _ _ _ _ => none
  | n + 1 => b_X9_drawn_29 (l_X9_drawn_29 n)
def f_X9_drawn  (a0 : Nat) (a1 : Int32) (h : HS) : Option (Int32 × HS) :=
  (if a1 < (1 : Int32) then b_X9_drawn_11 h else (if a1 ≤ (20 : Int32) then nn (some a0) (fun n1 => gd (ck h n1 7) (nn (some a0) (fun n2 => gd (ck h n2 7) (nn (hP h n1 4) (fun n4 => gd (rk h n4 3) (bd (f_X3_copyFrom n4 (hP h n2 3) h) (fun r3 => l_X9_drawn_29 FU a0 a1 (0 : Int32) (0 : Int32) r3.2))))))) else b_X9_drawn_11 h))
set_option maxHeartbeats 4000000 in
set_option maxRecDepth 100000 in
theorem wb_X9_drawn_11 (g : GG) (l : Launch) (h : HS) (o : Int32 × HS) (hB : b_X9_drawn_11  h = some o) : Wq g l mX9_drawn 0 0 11 [none, none, none, none] [] h (QI o) := by
  unfold b_X9_drawn_11 at hB
  refine q_bipush (v := -2) dX9_drawn_11 (by decide) ?_
  exact q_iret hB dX9_drawn_13 rfl (by decide) (by decide)
set_option maxHeartbeats 4000000 in
set_option maxRecDepth 100000 in
theorem wb_X9_drawn_29 (g : GG) (l : Launch) (k29 : Nat → Int32 → Int32 → Int32 → HS → Option (Int32 × HS)) (a0 : Nat) (a1 : Int32) (a2 : Int32) (a3 : Int32) (h : HS) (o : Int32 × HS) (hB : b_X9_drawn_29 k29 a0 a1 a2 a3 h = some o) (hk29 : ∀ (a0 : Nat) (a1 : Int32) (a2 : Int32) (a3 : Int32) (h : HS), k29 a0 a1 a2 a3 h = some o → Wq g l mX9_drawn 0 0 29 [some (va_rf (some a0)), some (.int a1), some (.int a2), some (.int a3)] [] h (QI o)) : Wq g l mX9_drawn 0 0 29 [some (va_rf (some a0)), some (.int a1), some (.int a2), some (.int a3)] [] h (QI o) := by
  unfold b_X9_drawn_29 at hB
  refine q_iload_n dX9_drawn_29 rfl rfl ?_
  refine q_iload_n dX9_drawn_30 rfl rfl ?_
  refine q_icmp_ge (tgt := 82) hB dX9_drawn_31 (by decide) (fun hB => ?_) (fun hB => ?_)
  · refine q_iload_n dX9_drawn_82 rfl rfl ?_
    exact q_iret hB dX9_drawn_83 rfl (by decide) (by decide)
  · refine q_aload_n dX9_drawn_34 rfl rfl ?_
    refine q_aload_n dX9_drawn_35 rfl rfl ?_
    refine q_getJ (j := 10) hB dX9_drawn_36 fc_7 (by decide) rfl wd_250 (fun n1 hB => ?_)
    refine q_ldc2 dX9_drawn_39 wd_697 ?_
    refine q_lmul dX9_drawn_42 ?_
    refine q_ldc2 dX9_drawn_43 wd_698 ?_
    refine q_ladd dX9_drawn_46 ?_
    refine q_putJ (j := 10) hB dX9_drawn_47 fc_7 (by decide) rfl wd_250 rfl (fun n2 hB => ?_)
    refine q_aload_n dX9_drawn_50 rfl rfl ?_
    refine q_aload_n dX9_drawn_51 rfl rfl ?_
    refine q_getJ (j := 10) hB dX9_drawn_52 fc_7 (by decide) rfl wd_250 (fun n3 hB => ?_)
    refine q_bipush (v := 33) dX9_drawn_55 (by decide) ?_
    refine q_lushr dX9_drawn_57 ?_
    refine q_l2i dX9_drawn_58 ?_
    refine q_callVV (k' := 0) (w' := 0) hB (fun b a hf => c_X9_drawIntoTrial g l b _ _ a hf) rfl rfl dX9_drawn_59 wd_699 cs_X9_drawIntoTrial wd_701 wd_18 rfl ⟨⟨Nat.le_of_ble_eq_true rfl, Nat.le_of_ble_eq_true rfl⟩, ⟨Nat.le_of_ble_eq_true rfl, Nat.le_of_ble_eq_true rfl⟩, Nat.le_of_ble_eq_true rfl⟩ rfl rfl (fun n5 r4 hB => ?_)
    refine q_iload_n dX9_drawn_62 rfl rfl ?_
    refine q_aload_n dX9_drawn_63 rfl rfl ?_
    refine q_aload_n dX9_drawn_64 rfl rfl ?_
    refine q_getP (j := 4) hB dX9_drawn_65 fc_7 (by decide) rfl wd_244 (fun n6 hB => ?_)
    refine q_callVI (k' := 0) (w' := 0) hB (fun b a hf => c_X9_totalOf g l b _ _ a hf) rfl rfl dX9_drawn_68 wd_584 cs_X9_totalOf wd_586 wd_11 rfl ⟨⟨Nat.le_of_ble_eq_true rfl, Nat.le_of_ble_eq_true rfl⟩, ⟨Nat.le_of_ble_eq_true rfl, Nat.le_of_ble_eq_true rfl⟩, by simp [rf_cat, cat_i, cat_l]⟩ rfl rfl (fun n8 r7 hB => ?_)
    refine q_callSI (k' := 0) (w' := 0) hB (fun a hf => c_X9_noneAsZero g l _ _ a hf) rfl dX9_drawn_71 wd_669 cs_X9_noneAsZero wd_670 rfl ⟨⟨Nat.le_of_ble_eq_true rfl, Nat.le_of_ble_eq_true rfl⟩, ⟨Nat.le_of_ble_eq_true rfl, Nat.le_of_ble_eq_true rfl⟩, by simp [rf_cat, cat_i, cat_l]⟩ rfl rfl (fun r9 hB => ?_)
    refine q_iadd dX9_drawn_74 ?_
    refine q_istore_n dX9_drawn_75 rfl (by decide) (nb_i (j := 1) rfl) ?_
    refine q_iinc dX9_drawn_76 rfl (show _ = (a3 + (1 : Int32)) from rfl) (by decide) (nb_i (j := 2) rfl) ?_
    refine q_goto (tgt := 29) dX9_drawn_79 (by decide) ?_
    exact Wq.mask [true, true, true, true] rfl (hk29 _ _ _ _ _ hB)
set_option maxHeartbeats 4000000 in
theorem wl_X9_drawn_29 (g : GG) (l : Launch) (o : Int32 × HS) : ∀ (n : Nat) (a0 : Nat) (a1 : Int32) (a2 : Int32) (a3 : Int32) (h : HS), l_X9_drawn_29 n a0 a1 a2 a3 h = some o → Wq g l mX9_drawn 0 0 29 [some (va_rf (some a0)), some (.int a1), some (.int a2), some (.int a3)] [] h (QI o) := by
  intro n
  induction n with
  | zero =>
    intro a0 a1 a2 a3  h hB
    have q : (none : Option (Int32 × HS)) = some o := hB
    cases q
  | succ n ih =>
    intro a0 a1 a2 a3  h hB
    exact wb_X9_drawn_29 g l (l_X9_drawn_29 n) a0 a1 a2 a3 h o hB ih
set_option maxHeartbeats 4000000 in
set_option maxRecDepth 100000 in
theorem c_X9_drawn (g : GG) (l : Launch) (a0 : Nat) (a1 : Int32) (h : HS) (o : Int32 × HS) (hB : f_X9_drawn a0 a1 h = some o) : Ct g l mX9_drawn [va_rf (some a0), .int a1] h (QI o) := by
  refine Ct.of2 (lv0 := [some (va_rf (some a0)), some (.int a1), none, none]) (by decide +kernel) (by simp [lg_sl, rf_cat, cat_i, cat_l]) rfl ?_
  unfold f_X9_drawn at hB
  refine q_iload_n dX9_drawn_0 rfl rfl ?_
  refine q_iconst (v := 1) dX9_drawn_1 (by decide) ?_
  refine q_icmp_lt (tgt := 11) hB dX9_drawn_2 (by decide) (fun hB => ?_) (fun hB => ?_)
  · exact Wq.mask [false, false, false, false] rfl (wb_X9_drawn_11 g l _ o hB)
  · refine q_iload_n dX9_drawn_5 rfl rfl ?_
    refine q_bipush (v := 20) dX9_drawn_6 (by decide) ?_
    refine q_icmp_le (tgt := 14) hB dX9_drawn_8 (by decide) (fun hB => ?_) (fun hB => ?_)
    · refine q_aload_n dX9_drawn_14 rfl rfl ?_
      refine q_getP (j := 4) hB dX9_drawn_15 fc_7 (by decide) rfl wd_244 (fun n1 hB => ?_)
      refine q_aload_n dX9_drawn_18 rfl rfl ?_
      refine q_getP (j := 3) hB dX9_drawn_19 fc_7 (by decide) rfl wd_243 (fun n2 hB => ?_)
      refine q_callVV (k' := 0) (w' := 0) hB (fun b a hf => c_X3_copyFrom g l b _ _ a hf) rfl rfl dX9_drawn_22 wd_596 cs_X3_copyFrom wd_597 wd_598 rfl ⟨⟨Nat.le_of_ble_eq_true rfl, Nat.le_of_ble_eq_true rfl⟩, ⟨Nat.le_of_ble_eq_true rfl, Nat.le_of_ble_eq_true rfl⟩, Nat.le_of_ble_eq_true rfl⟩ rfl rfl (fun n4 r3 hB => ?_)
      refine q_iconst (v := 0) dX9_drawn_25 (by decide) ?_
      refine q_istore_n dX9_drawn_26 rfl (by decide) (nb_i (j := 1) rfl) ?_
      refine q_iconst (v := 0) dX9_drawn_27 (by decide) ?_
      refine q_istore_n dX9_drawn_28 rfl (by decide) (nb_i (j := 2) rfl) ?_
      exact Wq.mask [true, true, true, true] rfl (wl_X9_drawn_29 g l o FU _ _ _ _ _ hB)
    · exact Wq.mask [false, false, false, false] rfl (wb_X9_drawn_11 g l _ o hB)

def b_X10_drawn_125  (k23 : Nat → Int32 → Int32 → Int32 → HS → Option (Int32 × HS)) (a0 : Nat) (a1 : Int32) (a3 : Int32) (s0 : Int32) (s1 : Int32) (h : HS) : Option (Int32 × HS) :=
  k23 a0 a1 (s0 + s1) (a3 + (1 : Int32)) h
def b_X10_drawn_99  (k23 : Nat → Int32 → Int32 → Int32 → HS → Option (Int32 × HS)) (a0 : Nat) (a1 : Int32) (a2 : Int32) (a3 : Int32) (h : HS) : Option (Int32 × HS) :=
  nn (some a0) (fun n2 => gd (rk h n2 8) (bd (f_X10_allOf n2 (1 : Int32) h) (fun r1 => nn (some a0) (fun n4 => gd (rk r1.2 n4 8) (bd (f_X10_measureOf n4 (1 : Int32) r1.1 r1.2) (fun r3 => (if r3.1 = (-9 : Int32) then b_X10_drawn_125 k23 a0 a1 a3 a2 (0 : Int32) r3.2 else b_X10_drawn_125 k23 a0 a1 a3 a2 r3.1 r3.2)))))))
def b_X10_drawn_23  (k23 : Nat → Int32 → Int32 → Int32 → HS → Option (Int32 × HS)) (a0 : Nat) (a1 : Int32) (a2 : Int32) (a3 : Int32) (h : HS) : Option (Int32 × HS) :=
  (if a1 ≤ a3 then some (a2, h) else nn (some a0) (fun n1 => gd (ck h n1 8) (nn (some a0) (fun n2 => gd (ck h n2 8) (nn (some a0) (fun n3 => gd (ck (sJ h n2 27 (((hJ h n1 27) * (6364136223846793005 : Int64)) + (1442695040888963407 : Int64))) n3 8) (nn (some a0) (fun n5 => gd (rk (sJ h n2 27 (((hJ h n1 27) * (6364136223846793005 : Int64)) + (1442695040888963407 : Int64))) n5 8) (bd (f_X10_many n5 (1 : Int32) (sJ h n2 27 (((hJ h n1 27) * (6364136223846793005 : Int64)) + (1442695040888963407 : Int64)))) (fun r4 => (if (16 : Int32) ≤ r4.1 then nn (some a0) (fun n7 => gd (rk r4.2 n7 8) (bd (f_X10_dropOn n7 (1 : Int32) (0 : Int32) r4.2) (fun r6 => b_X10_drawn_99 k23 a0 a1 a2 a3 r6.2))) else gd (decide (¬ (4 : Int32) = 0)) (gd (decide (¬ (4 : Int32) = 0)) (gd (decide (¬ (5 : Int32) = 0)) (gd (decide (¬ (32 : Int32) = 0)) (gd (decide (¬ (101 : Int32) = 0)) (bd (f_X10_asOne (((hJ (sJ h n2 27 (((hJ h n1 27) * (6364136223846793005 : Int64)) + (1442695040888963407 : Int64))) n3 27).toUInt64 >>> ((33 : Int32).toInt64.toUInt64 &&& Int64.toUInt64 63)).toInt64.toInt32 - ((hJ (sJ h n2 27 (((hJ h n1 27) * (6364136223846793005 : Int64)) + (1442695040888963407 : Int64))) n3 27).toUInt64 >>> ((33 : Int32).toInt64.toUInt64 &&& Int64.toUInt64 63)).toInt64.toInt32 / (4 : Int32) * (4 : Int32)) ((((hJ (sJ h n2 27 (((hJ h n1 27) * (6364136223846793005 : Int64)) + (1442695040888963407 : Int64))) n3 27).toUInt64 >>> ((33 : Int32).toInt64.toUInt64 &&& Int64.toUInt64 63)).toInt64.toInt32 / (4 : Int32)) - (((hJ (sJ h n2 27 (((hJ h n1 27) * (6364136223846793005 : Int64)) + (1442695040888963407 : Int64))) n3 27).toUInt64 >>> ((33 : Int32).toInt64.toUInt64 &&& Int64.toUInt64 63)).toInt64.toInt32 / (4 : Int32)) / (5 : Int32) * (5 : Int32)) ((((hJ (sJ h n2 27 (((hJ h n1 27) * (6364136223846793005 : Int64)) + (1442695040888963407 : Int64))) n3 27).toUInt64 >>> ((33 : Int32).toInt64.toUInt64 &&& Int64.toUInt64 63)).toInt64.toInt32 / (32 : Int32)) - (((hJ (sJ h n2 27 (((hJ h n1 27) * (6364136223846793005 : Int64)) + (1442695040888963407 : Int64))) n3 27).toUInt64 >>> ((33 : Int32).toInt64.toUInt64 &&& Int64.toUInt64 63)).toInt64.toInt32 / (32 : Int32)) / (101 : Int32) * (101 : Int32)) r4.2) (fun r8 => nn (some a0) (fun n10 => gd (rk r8.2 n10 8) (bd (f_X10_addOn n10 (1 : Int32) r8.1 r8.2) (fun r9 => b_X10_drawn_99 k23 a0 a1 a2 a3 r9.2))))))))))))))))))))
def l_X10_drawn_23  : Nat → Nat → Int32 → Int32 → Int32 → HS → Option (Int32 × HS)
  | 0 => fun _ _ _ _ _ => none
  | n + 1 => b_X10_drawn_23 (l_X10_drawn_23 n)
def f_X10_drawn  (a0 : Nat) (a1 : Int32) (h : HS) : Option (Int32 × HS) :=
  bd (f_X10_in a1.toInt64 (1 : Int64) (20 : Int64) h) (fun r1 => (if r1.1 = 0 then some ((-2 : Int32), r1.2) else nn (some a0) (fun n3 => gd (rk r1.2 n3 8) (bd (f_X10_layTrial n3 r1.2) (fun r2 => l_X10_drawn_23 FU a0 a1 (0 : Int32) (0 : Int32) r2.2)))))
set_option maxHeartbeats 4000000 in
set_option maxRecDepth 100000 in
theorem wb_X10_drawn_125 (g : GG) (l : Launch) (k23 : Nat → Int32 → Int32 → Int32 → HS → Option (Int32 × HS)) (a0 : Nat) (a1 : Int32) (a3 : Int32) (s0 : Int32) (s1 : Int32) (h : HS) (o : Int32 × HS) (hB : b_X10_drawn_125 k23 a0 a1 a3 s0 s1 h = some o) (hk23 : ∀ (a0 : Nat) (a1 : Int32) (a2 : Int32) (a3 : Int32) (h : HS), k23 a0 a1 a2 a3 h = some o → Wq g l mX10_drawn 0 0 23 [some (va_rf (some a0)), some (.int a1), some (.int a2), some (.int a3), none, none] [] h (QI o)) : Wq g l mX10_drawn 0 0 125 [some (va_rf (some a0)), some (.int a1), none, some (.int a3), none, none] [.int s1, .int s0] h (QI o) := by
  unfold b_X10_drawn_125 at hB
  refine q_iadd dX10_drawn_125 ?_
  refine q_istore_n dX10_drawn_126 rfl (by decide) (nb_i (j := 1) rfl) ?_
  refine q_iinc dX10_drawn_127 rfl (show _ = (a3 + (1 : Int32)) from rfl) (by decide) (nb_i (j := 2) rfl) ?_
  refine q_goto (tgt := 23) dX10_drawn_130 (by decide) ?_
  exact Wq.mask [true, true, true, true, false, false] rfl (hk23 _ _ _ _ _ hB)
set_option maxHeartbeats 4000000 in
set_option maxRecDepth 100000 in
theorem wb_X10_drawn_99 (g : GG) (l : Launch) (k23 : Nat → Int32 → Int32 → Int32 → HS → Option (Int32 × HS)) (a0 : Nat) (a1 : Int32) (a2 : Int32) (a3 : Int32) (h : HS) (o : Int32 × HS) (hB : b_X10_drawn_99 k23 a0 a1 a2 a3 h = some o) (hk23 : ∀ (a0 : Nat) (a1 : Int32) (a2 : Int32) (a3 : Int32) (h : HS), k23 a0 a1 a2 a3 h = some o → Wq g l mX10_drawn 0 0 23 [some (va_rf (some a0)), some (.int a1), some (.int a2), some (.int a3), none, none] [] h (QI o)) : Wq g l mX10_drawn 0 0 99 [some (va_rf (some a0)), some (.int a1), some (.int a2), some (.int a3), none, none] [] h (QI o) := by
  unfold b_X10_drawn_99 at hB
  refine q_aload_n dX10_drawn_99 rfl rfl ?_
  refine q_iconst (v := 1) dX10_drawn_100 (by decide) ?_
  refine q_aload_n dX10_drawn_101 rfl rfl ?_
  refine q_iconst (v := 1) dX10_drawn_102 (by decide) ?_
  refine q_callVI (k' := 0) (w' := 0) hB (fun b a hf => c_X10_allOf g l b _ _ a hf) rfl rfl dX10_drawn_103 wd_984 cs_X10_allOf wd_986 wd_38 rfl ⟨⟨Nat.le_of_ble_eq_true rfl, Nat.le_of_ble_eq_true rfl⟩, ⟨Nat.le_of_ble_eq_true rfl, Nat.le_of_ble_eq_true rfl⟩, by simp [rf_cat, cat_i, cat_l]⟩ rfl rfl (fun n2 r1 hB => ?_)
  refine q_callVI (k' := 0) (w' := 0) hB (fun b a hf => c_X10_measureOf g l b _ _ _ a hf) rfl rfl dX10_drawn_106 wd_883 cs_X10_measureOf wd_885 wd_27 rfl ⟨⟨Nat.le_of_ble_eq_true rfl, Nat.le_of_ble_eq_true rfl⟩, ⟨Nat.le_of_ble_eq_true rfl, Nat.le_of_ble_eq_true rfl⟩, Nat.le_of_ble_eq_true rfl⟩ rfl rfl (fun n4 r3 hB => ?_)
  refine q_istore dX10_drawn_109 (by decide) (nb_n (j := 4) rfl) ?_
  refine q_iload_n dX10_drawn_111 rfl rfl ?_
  refine q_iload dX10_drawn_112 rfl ?_
  refine q_bipush (v := -9) dX10_drawn_114 (by decide) ?_
  refine q_icmp_ne (tgt := 123) hB dX10_drawn_116 (by decide) (fun hB => ?_) (fun hB => ?_)
  · refine q_iload dX10_drawn_123 rfl ?_
    exact Wq.mask [true, true, false, true, false, false] rfl (wb_X10_drawn_125 g l k23 _ _ _ _ _ _ o hB hk23)
  · refine q_iconst (v := 0) dX10_drawn_119 (by decide) ?_
    refine q_goto (tgt := 125) dX10_drawn_120 (by decide) ?_
    exact Wq.mask [true, true, false, true, false, false] rfl (wb_X10_drawn_125 g l k23 _ _ _ _ _ _ o hB hk23)
set_option maxHeartbeats 4000000 in
set_option maxRecDepth 100000 in
theorem wb_X10_drawn_23 (g : GG) (l : Launch) (k23 : Nat → Int32 → Int32 → Int32 → HS → Option (Int32 × HS)) (a0 : Nat) (a1 : Int32) (a2 : Int32) (a3 : Int32) (h : HS) (o : Int32 × HS) (hB : b_X10_drawn_23 k23 a0 a1 a2 a3 h = some o) (hk23 : ∀ (a0 : Nat) (a1 : Int32) (a2 : Int32) (a3 : Int32) (h : HS), k23 a0 a1 a2 a3 h = some o → Wq g l mX10_drawn 0 0 23 [some (va_rf (some a0)), some (.int a1), some (.int a2), some (.int a3), none, none] [] h (QI o)) : Wq g l mX10_drawn 0 0 23 [some (va_rf (some a0)), some (.int a1), some (.int a2), some (.int a3), none, none] [] h (QI o) := by
  unfold b_X10_drawn_23 at hB
  refine q_iload_n dX10_drawn_23 rfl rfl ?_
  refine q_iload_n dX10_drawn_24 rfl rfl ?_
  refine q_icmp_ge (tgt := 133) hB dX10_drawn_25 (by decide) (fun hB => ?_) (fun hB => ?_)
  · refine q_iload_n dX10_drawn_133 rfl rfl ?_
    exact q_iret hB dX10_drawn_134 rfl (by decide) (by decide)
  · refine q_aload_n dX10_drawn_28 rfl rfl ?_
    refine q_aload_n dX10_drawn_29 rfl rfl ?_
    refine q_getJ (j := 27) hB dX10_drawn_30 fc_8 (by decide) rfl wd_756 (fun n1 hB => ?_)
    refine q_ldc2 dX10_drawn_33 wd_1065 ?_
    refine q_lmul dX10_drawn_36 ?_
    refine q_ldc2 dX10_drawn_37 wd_1066 ?_
    refine q_ladd dX10_drawn_40 ?_
    refine q_putJ (j := 27) hB dX10_drawn_41 fc_8 (by decide) rfl wd_756 rfl (fun n2 hB => ?_)
    refine q_aload_n dX10_drawn_44 rfl rfl ?_
    refine q_getJ (j := 27) hB dX10_drawn_45 fc_8 (by decide) rfl wd_756 (fun n3 hB => ?_)
    refine q_bipush (v := 33) dX10_drawn_48 (by decide) ?_
    refine q_lushr dX10_drawn_50 ?_
    refine q_l2i dX10_drawn_51 ?_
    refine q_istore dX10_drawn_52 (by decide) (nb_i (j := 3) rfl) ?_
    refine q_aload_n dX10_drawn_54 rfl rfl ?_
    refine q_iconst (v := 1) dX10_drawn_55 (by decide) ?_
    refine q_callVI (k' := 0) (w' := 0) hB (fun b a hf => c_X10_many g l b _ _ a hf) rfl rfl dX10_drawn_56 wd_867 cs_X10_many wd_869 wd_23 rfl ⟨⟨Nat.le_of_ble_eq_true rfl, Nat.le_of_ble_eq_true rfl⟩, ⟨Nat.le_of_ble_eq_true rfl, Nat.le_of_ble_eq_true rfl⟩, Nat.le_of_ble_eq_true rfl⟩ rfl rfl (fun n5 r4 hB => ?_)
    refine q_bipush (v := 16) dX10_drawn_59 (by decide) ?_
    refine q_icmp_ge (tgt := 93) hB dX10_drawn_61 (by decide) (fun hB => ?_) (fun hB => ?_)
    · refine q_aload_n dX10_drawn_93 rfl rfl ?_
      refine q_iconst (v := 1) dX10_drawn_94 (by decide) ?_
      refine q_iconst (v := 0) dX10_drawn_95 (by decide) ?_
      refine q_callVV (k' := 0) (w' := 0) hB (fun b a hf => c_X10_dropOn g l b _ _ _ a hf) rfl rfl dX10_drawn_96 wd_932 cs_X10_dropOn wd_934 wd_33 rfl ⟨⟨Nat.le_of_ble_eq_true rfl, Nat.le_of_ble_eq_true rfl⟩, ⟨Nat.le_of_ble_eq_true rfl, Nat.le_of_ble_eq_true rfl⟩, Nat.le_of_ble_eq_true rfl⟩ rfl rfl (fun n7 r6 hB => ?_)
      exact Wq.mask [true, true, true, true, false, false] rfl (wb_X10_drawn_99 g l k23 _ _ _ _ _ o hB hk23)
    · refine q_aload_n dX10_drawn_64 rfl rfl ?_
      refine q_iconst (v := 1) dX10_drawn_65 (by decide) ?_
      refine q_iload dX10_drawn_66 rfl ?_
      refine q_iconst (v := 4) dX10_drawn_68 (by decide) ?_
      refine q_irem hB dX10_drawn_69 (fun hB => ?_)
      refine q_iload dX10_drawn_70 rfl ?_
      refine q_iconst (v := 4) dX10_drawn_72 (by decide) ?_
      refine q_idiv hB dX10_drawn_73 (fun hB => ?_)
      refine q_iconst (v := 5) dX10_drawn_74 (by decide) ?_
      refine q_irem hB dX10_drawn_75 (fun hB => ?_)
      refine q_iload dX10_drawn_76 rfl ?_
      refine q_bipush (v := 32) dX10_drawn_78 (by decide) ?_
      refine q_idiv hB dX10_drawn_80 (fun hB => ?_)
      refine q_bipush (v := 101) dX10_drawn_81 (by decide) ?_
      refine q_irem hB dX10_drawn_83 (fun hB => ?_)
      refine q_callSI (k' := 0) (w' := 0) hB (fun a hf => c_X10_asOne g l _ _ _ _ a hf) rfl dX10_drawn_84 wd_917 cs_X10_asOne wd_918 rfl ⟨⟨Nat.le_of_ble_eq_true rfl, Nat.le_of_ble_eq_true rfl⟩, ⟨Nat.le_of_ble_eq_true rfl, Nat.le_of_ble_eq_true rfl⟩, by simp [rf_cat, cat_i, cat_l]⟩ rfl rfl (fun r8 hB => ?_)
      refine q_callVV (k' := 0) (w' := 0) hB (fun b a hf => c_X10_addOn g l b _ _ _ a hf) rfl rfl dX10_drawn_87 wd_920 cs_X10_addOn wd_922 wd_31 rfl ⟨⟨Nat.le_of_ble_eq_true rfl, Nat.le_of_ble_eq_true rfl⟩, ⟨Nat.le_of_ble_eq_true rfl, Nat.le_of_ble_eq_true rfl⟩, Nat.le_of_ble_eq_true rfl⟩ rfl rfl (fun n10 r9 hB => ?_)
      refine q_goto (tgt := 99) dX10_drawn_90 (by decide) ?_
      exact Wq.mask [true, true, true, true, false, false] rfl (wb_X10_drawn_99 g l k23 _ _ _ _ _ o hB hk23)
set_option maxHeartbeats 4000000 in
theorem wl_X10_drawn_23 (g : GG) (l : Launch) (o : Int32 × HS) : ∀ (n : Nat) (a0 : Nat) (a1 : Int32) (a2 : Int32) (a3 : Int32) (h : HS), l_X10_drawn_23 n a0 a1 a2 a3 h = some o → Wq g l mX10_drawn 0 0 23 [some (va_rf (some a0)), some (.int a1), some (.int a2), some (.int a3), none, none] [] h (QI o) := by
  intro n
  induction n with
  | zero =>
    intro a0 a1 a2 a3  h hB
    have q : (none : Option (Int32 × HS)) = some o := hB
    cases q
  | succ n ih =>
    intro a0 a1 a2 a3  h hB
    exact wb_X10_drawn_23 g l (l_X10_drawn_23 n) a0 a1 a2 a3 h o hB ih
set_option maxHeartbeats 4000000 in
set_option maxRecDepth 100000 in
theorem c_X10_drawn (g : GG) (l : Launch) (a0 : Nat) (a1 : Int32) (h : HS) (o : Int32 × HS) (hB : f_X10_drawn a0 a1 h = some o) : Ct g l mX10_drawn [va_rf (some a0), .int a1] h (QI o) := by
  refine Ct.of2 (lv0 := [some (va_rf (some a0)), some (.int a1), none, none, none, none]) (by decide +kernel) (by simp [lg_sl, rf_cat, cat_i, cat_l]) rfl ?_
  unfold f_X10_drawn at hB
  refine q_iload_n dX10_drawn_0 rfl rfl ?_
  refine q_i2l dX10_drawn_1 ?_
  refine q_lconst (v := 1) dX10_drawn_2 (by decide) ?_
  refine q_ldc2 dX10_drawn_3 wd_1016 ?_
  refine q_callSI (k' := 0) (w' := 0) hB (fun a hf => c_X10_in g l _ _ _ _ a hf) rfl dX10_drawn_6 wd_825 cs_X10_in wd_826 rfl ⟨⟨Nat.le_of_ble_eq_true rfl, Nat.le_of_ble_eq_true rfl⟩, ⟨Nat.le_of_ble_eq_true rfl, Nat.le_of_ble_eq_true rfl⟩, Nat.le_of_ble_eq_true rfl⟩ rfl rfl (fun r1 hB => ?_)
  refine q_if_ne (tgt := 15) hB dX10_drawn_9 (by decide) (fun hB => ?_) (fun hB => ?_)
  · refine q_aload_n dX10_drawn_15 rfl rfl ?_
    refine q_callVV (k' := 0) (w' := 0) hB (fun b a hf => c_X10_layTrial g l b _ a hf) rfl rfl dX10_drawn_16 wd_992 cs_X10_layTrial wd_994 wd_39 rfl ⟨⟨Nat.le_of_ble_eq_true rfl, Nat.le_of_ble_eq_true rfl⟩, ⟨Nat.le_of_ble_eq_true rfl, Nat.le_of_ble_eq_true rfl⟩, Nat.le_of_ble_eq_true rfl⟩ rfl rfl (fun n3 r2 hB => ?_)
    refine q_iconst (v := 0) dX10_drawn_19 (by decide) ?_
    refine q_istore_n dX10_drawn_20 rfl (by decide) (nb_i (j := 1) rfl) ?_
    refine q_iconst (v := 0) dX10_drawn_21 (by decide) ?_
    refine q_istore_n dX10_drawn_22 rfl (by decide) (nb_i (j := 2) rfl) ?_
    exact Wq.mask [true, true, true, true, false, false] rfl (wl_X10_drawn_23 g l o FU _ _ _ _ _ hB)
  · refine q_bipush (v := -2) dX10_drawn_12 (by decide) ?_
    exact q_iret hB dX10_drawn_14 rfl (by decide) (by decide)
