def b_X9_judge_26  (h : HS) : Option (Int32 × HS) :=
  some ((-2 : Int32), h)
def b_X9_judge_43  (k43 : Nat → Int32 → Int64 → Int32 → HS → Option (Int32 × HS)) (a0 : Nat) (a1 : Int32) (a2 : Int64) (a4 : Int32) (h : HS) : Option (Int32 × HS) :=
  (if a1 ≤ a4 then some ((-9 : Int32), h) else gd (inb ((a1 - (1 : Int32)) - a4) 5) (gd (decide (¬ (untV ((a1 - (1 : Int32)) - a4).toNatClampNeg) = 0)) (gd (inb (1 : Int32) 5) (gd (decide (¬ (untV (1 : Int32).toNatClampNeg) = 0)) (nn (some a0) (fun n4 => gd (rk h n4 7) (bd (f_X9_stands n4 ((a2 / (untV ((a1 - (1 : Int32)) - a4).toNatClampNeg)) - (a2 / (untV ((a1 - (1 : Int32)) - a4).toNatClampNeg)) / (untV (1 : Int32).toNatClampNeg) * (untV (1 : Int32).toNatClampNeg)).toInt32 h) (fun r3 => (if r3.1 = 0 then some (a4, r3.2) else k43 a0 a1 a2 (a4 + (1 : Int32)) r3.2)))))))))
def l_X9_judge_43  : Nat → Nat → Int32 → Int64 → Int32 → HS → Option (Int32 × HS)
  | 0 => fun _ _ _ _ _ => none
  | n + 1 => b_X9_judge_43 (l_X9_judge_43 n)
def f_X9_judge  (a0 : Nat) (a1 : Int32) (a2 : Int64) (h : HS) : Option (Int32 × HS) :=
  (if a1 < (1 : Int32) then b_X9_judge_26 h else (if (4 : Int32) < a1 then b_X9_judge_26 h else (if (lg_cmp a2 (0 : Int64)) < 0 then b_X9_judge_26 h else gd (inb a1 5) ((if (lg_cmp a2 (untV a1.toNatClampNeg)) < 0 then nn (some a0) (fun n2 => gd (ck h n2 7) (nn (some a0) (fun n3 => gd (ck h n3 7) (nn (hP h n2 4) (fun n5 => gd (rk h n5 3) (bd (f_X3_copyFrom n5 (hP h n3 3) h) (fun r4 => l_X9_judge_43 FU a0 a1 a2 (0 : Int32) r4.2))))))) else b_X9_judge_26 h)))))
set_option maxHeartbeats 4000000 in
set_option maxRecDepth 100000 in
theorem wb_X9_judge_26 (g : GG) (l : Launch) (h : HS) (o : Int32 × HS) (hB : b_X9_judge_26  h = some o) : Wq g l mX9_judge 0 0 26 [none, none, none, none, none, none, none] [] h (QI o) := by
  unfold b_X9_judge_26 at hB
  refine q_bipush (v := -2) dX9_judge_26 (by decide) ?_
  exact q_iret hB dX9_judge_28 rfl (by decide) (by decide)
set_option maxHeartbeats 4000000 in
set_option maxRecDepth 100000 in
theorem wb_X9_judge_43 (g : GG) (l : Launch) (k43 : Nat → Int32 → Int64 → Int32 → HS → Option (Int32 × HS)) (a0 : Nat) (a1 : Int32) (a2 : Int64) (a4 : Int32) (h : HS) (o : Int32 × HS) (hB : b_X9_judge_43 k43 a0 a1 a2 a4 h = some o) (hk43 : ∀ (a0 : Nat) (a1 : Int32) (a2 : Int64) (a4 : Int32) (h : HS), k43 a0 a1 a2 a4 h = some o → Wq g l mX9_judge 0 0 43 [some (va_rf (some a0)), some (.int a1), some (.long a2), none, some (.int a4), none, none] [] h (QI o)) : Wq g l mX9_judge 0 0 43 [some (va_rf (some a0)), some (.int a1), some (.long a2), none, some (.int a4), none, none] [] h (QI o) := by
  unfold b_X9_judge_43 at hB
  refine q_iload dX9_judge_43 rfl ?_
  refine q_iload_n dX9_judge_45 rfl rfl ?_
  refine q_icmp_ge (tgt := 88) hB dX9_judge_46 (by decide) (fun hB => ?_) (fun hB => ?_)
  · refine q_bipush (v := -9) dX9_judge_88 (by decide) ?_
    exact q_iret hB dX9_judge_90 rfl (by decide) (by decide)
  · refine q_lload_n dX9_judge_49 rfl rfl ?_
    refine q_static (v := va_rf (some 1031)) (fun s hK => z_U hK) dX9_judge_50 wd_608 ?_
    refine q_iload_n dX9_judge_53 rfl rfl ?_
    refine q_iconst (v := 1) dX9_judge_54 (by decide) ?_
    refine q_isub dX9_judge_55 ?_
    refine q_iload dX9_judge_56 rfl ?_
    refine q_isub dX9_judge_58 ?_
    refine q_ldU hB dX9_judge_59 (fun hB => ?_)
    refine q_ldiv hB dX9_judge_60 (fun hB => ?_)
    refine q_lstore dX9_judge_61 (by decide) (nb_i (j := 4) rfl) ?_
    refine q_aload_n dX9_judge_63 rfl rfl ?_
    refine q_lload dX9_judge_64 rfl ?_
    refine q_static (v := va_rf (some 1031)) (fun s hK => z_U hK) dX9_judge_66 wd_608 ?_
    refine q_iconst (v := 1) dX9_judge_69 (by decide) ?_
    refine q_ldU hB dX9_judge_70 (fun hB => ?_)
    refine q_lrem hB dX9_judge_71 (fun hB => ?_)
    refine q_l2i dX9_judge_72 ?_
    refine q_callVI (k' := 0) (w' := 0) hB (fun b a hf => c_X9_stands g l b _ _ a hf) rfl rfl dX9_judge_73 wd_610 cs_X9_stands wd_612 wd_12 rfl ⟨⟨Nat.le_of_ble_eq_true rfl, Nat.le_of_ble_eq_true rfl⟩, ⟨Nat.le_of_ble_eq_true rfl, Nat.le_of_ble_eq_true rfl⟩, Nat.le_of_ble_eq_true rfl⟩ rfl rfl (fun n4 r3 hB => ?_)
    refine q_if_ne (tgt := 82) hB dX9_judge_76 (by decide) (fun hB => ?_) (fun hB => ?_)
    · refine q_iinc dX9_judge_82 rfl (show _ = (a4 + (1 : Int32)) from rfl) (by decide) (nb_n (j := 3) rfl) ?_
      refine q_goto (tgt := 43) dX9_judge_85 (by decide) ?_
      exact Wq.mask [true, true, true, false, true, false, false] rfl (hk43 _ _ _ _ _ hB)
    · refine q_iload dX9_judge_79 rfl ?_
      exact q_iret hB dX9_judge_81 rfl (by decide) (by decide)
set_option maxHeartbeats 4000000 in
theorem wl_X9_judge_43 (g : GG) (l : Launch) (o : Int32 × HS) : ∀ (n : Nat) (a0 : Nat) (a1 : Int32) (a2 : Int64) (a4 : Int32) (h : HS), l_X9_judge_43 n a0 a1 a2 a4 h = some o → Wq g l mX9_judge 0 0 43 [some (va_rf (some a0)), some (.int a1), some (.long a2), none, some (.int a4), none, none] [] h (QI o) := by
  intro n
  induction n with
  | zero =>
    intro a0 a1 a2 a4  h hB
    have q : (none : Option (Int32 × HS)) = some o := hB
    cases q
  | succ n ih =>
    intro a0 a1 a2 a4  h hB
    exact wb_X9_judge_43 g l (l_X9_judge_43 n) a0 a1 a2 a4 h o hB ih
set_option maxHeartbeats 4000000 in
set_option maxRecDepth 100000 in
theorem c_X9_judge (g : GG) (l : Launch) (a0 : Nat) (a1 : Int32) (a2 : Int64) (h : HS) (o : Int32 × HS) (hB : f_X9_judge a0 a1 a2 h = some o) : Ct g l mX9_judge [va_rf (some a0), .int a1, .long a2] h (QI o) := by
  refine Ct.of2 (lv0 := [some (va_rf (some a0)), some (.int a1), some (.long a2), none, none, none, none]) (by decide +kernel) (by simp [lg_sl, rf_cat, cat_i, cat_l]) rfl ?_
  unfold f_X9_judge at hB
  refine q_iload_n dX9_judge_0 rfl rfl ?_
  refine q_iconst (v := 1) dX9_judge_1 (by decide) ?_
  refine q_icmp_lt (tgt := 26) hB dX9_judge_2 (by decide) (fun hB => ?_) (fun hB => ?_)
  · exact Wq.mask [false, false, false, false, false, false, false] rfl (wb_X9_judge_26 g l _ o hB)
  · refine q_iload_n dX9_judge_5 rfl rfl ?_
    refine q_iconst (v := 4) dX9_judge_6 (by decide) ?_
    refine q_icmp_gt (tgt := 26) hB dX9_judge_7 (by decide) (fun hB => ?_) (fun hB => ?_)
    · exact Wq.mask [false, false, false, false, false, false, false] rfl (wb_X9_judge_26 g l _ o hB)
    · refine q_lload_n dX9_judge_10 rfl rfl ?_
      refine q_lconst (v := 0) dX9_judge_11 (by decide) ?_
      refine q_lcmp dX9_judge_12 ?_
      refine q_if_lt (tgt := 26) hB dX9_judge_13 (by decide) (fun hB => ?_) (fun hB => ?_)
      · exact Wq.mask [false, false, false, false, false, false, false] rfl (wb_X9_judge_26 g l _ o hB)
      · refine q_lload_n dX9_judge_16 rfl rfl ?_
        refine q_static (v := va_rf (some 1031)) (fun s hK => z_U hK) dX9_judge_17 wd_608 ?_
        refine q_iload_n dX9_judge_20 rfl rfl ?_
        refine q_ldU hB dX9_judge_21 (fun hB => ?_)
        refine q_lcmp dX9_judge_22 ?_
        refine q_if_lt (tgt := 29) hB dX9_judge_23 (by decide) (fun hB => ?_) (fun hB => ?_)
        · refine q_aload_n dX9_judge_29 rfl rfl ?_
          refine q_getP (j := 4) hB dX9_judge_30 fc_7 (by decide) rfl wd_244 (fun n2 hB => ?_)
          refine q_aload_n dX9_judge_33 rfl rfl ?_
          refine q_getP (j := 3) hB dX9_judge_34 fc_7 (by decide) rfl wd_243 (fun n3 hB => ?_)
          refine q_callVV (k' := 0) (w' := 0) hB (fun b a hf => c_X3_copyFrom g l b _ _ a hf) rfl rfl dX9_judge_37 wd_596 cs_X3_copyFrom wd_597 wd_598 rfl ⟨⟨Nat.le_of_ble_eq_true rfl, Nat.le_of_ble_eq_true rfl⟩, ⟨Nat.le_of_ble_eq_true rfl, Nat.le_of_ble_eq_true rfl⟩, Nat.le_of_ble_eq_true rfl⟩ rfl rfl (fun n5 r4 hB => ?_)
          refine q_iconst (v := 0) dX9_judge_40 (by decide) ?_
          refine q_istore dX9_judge_41 (by decide) (nb_n (j := 3) rfl) ?_
          exact Wq.mask [true, true, true, false, true, false, false] rfl (wl_X9_judge_43 g l o FU _ _ _ _ _ hB)
        · exact Wq.mask [false, false, false, false, false, false, false] rfl (wb_X9_judge_26 g l _ o hB)

def b_X10_tenThousandTo_4  (k4 : Int32 → Int64 → Int32 → HS → Option (Int64 × HS)) (a0 : Int32) (a1 : Int64) (a3 : Int32) (h : HS) : Option (Int64 × HS) :=
  (if a0 ≤ a3 then some (a1, h) else k4 a0 (a1 * (10000 : Int64)) (a3 + (1 : Int32)) h)
def l_X10_tenThousandTo_4  : Nat → Int32 → Int64 → Int32 → HS → Option (Int64 × HS)
  | 0 => fun _ _ _ _ => none
  | n + 1 => b_X10_tenThousandTo_4 (l_X10_tenThousandTo_4 n)
def f_X10_tenThousandTo  (a0 : Int32) (h : HS) : Option (Int64 × HS) :=
  l_X10_tenThousandTo_4 FU a0 (1 : Int64) (0 : Int32) h
set_option maxHeartbeats 4000000 in
set_option maxRecDepth 100000 in
theorem wb_X10_tenThousandTo_4 (g : GG) (l : Launch) (k4 : Int32 → Int64 → Int32 → HS → Option (Int64 × HS)) (a0 : Int32) (a1 : Int64) (a3 : Int32) (h : HS) (o : Int64 × HS) (hB : b_X10_tenThousandTo_4 k4 a0 a1 a3 h = some o) (hk4 : ∀ (a0 : Int32) (a1 : Int64) (a3 : Int32) (h : HS), k4 a0 a1 a3 h = some o → Wq g l mX10_tenThousandTo 0 0 4 [some (.int a0), some (.long a1), none, some (.int a3)] [] h (QJ o)) : Wq g l mX10_tenThousandTo 0 0 4 [some (.int a0), some (.long a1), none, some (.int a3)] [] h (QJ o) := by
  unfold b_X10_tenThousandTo_4 at hB
  refine q_iload_n dX10_tenThousandTo_4 rfl rfl ?_
  refine q_iload_n dX10_tenThousandTo_5 rfl rfl ?_
  refine q_icmp_ge (tgt := 21) hB dX10_tenThousandTo_6 (by decide) (fun hB => ?_) (fun hB => ?_)
  · refine q_lload_n dX10_tenThousandTo_21 rfl rfl ?_
    exact q_lret hB dX10_tenThousandTo_22 rfl (by decide) (by decide)
  · refine q_lload_n dX10_tenThousandTo_9 rfl rfl ?_
    refine q_ldc2 dX10_tenThousandTo_10 wd_1007 ?_
    refine q_lmul dX10_tenThousandTo_13 ?_
    refine q_lstore_n dX10_tenThousandTo_14 rfl (by decide) (nb_i (j := 0) rfl) ?_
    refine q_iinc dX10_tenThousandTo_15 rfl (show _ = (a3 + (1 : Int32)) from rfl) (by decide) (nb_n (j := 2) rfl) ?_
    refine q_goto (tgt := 4) dX10_tenThousandTo_18 (by decide) ?_
    exact Wq.mask [true, true, false, true] rfl (hk4 _ _ _ _ hB)
set_option maxHeartbeats 4000000 in
theorem wl_X10_tenThousandTo_4 (g : GG) (l : Launch) (o : Int64 × HS) : ∀ (n : Nat) (a0 : Int32) (a1 : Int64) (a3 : Int32) (h : HS), l_X10_tenThousandTo_4 n a0 a1 a3 h = some o → Wq g l mX10_tenThousandTo 0 0 4 [some (.int a0), some (.long a1), none, some (.int a3)] [] h (QJ o) := by
  intro n
  induction n with
  | zero =>
    intro a0 a1 a3  h hB
    have q : (none : Option (Int64 × HS)) = some o := hB
    cases q
  | succ n ih =>
    intro a0 a1 a3  h hB
    exact wb_X10_tenThousandTo_4 g l (l_X10_tenThousandTo_4 n) a0 a1 a3 h o hB ih
set_option maxHeartbeats 4000000 in
set_option maxRecDepth 100000 in
theorem c_X10_tenThousandTo (g : GG) (l : Launch) (a0 : Int32) (h : HS) (o : Int64 × HS) (hB : f_X10_tenThousandTo a0 h = some o) : Ct g l mX10_tenThousandTo [.int a0] h (QJ o) := by
  refine Ct.of2 (lv0 := [some (.int a0), none, none, none]) (by decide +kernel) (by simp [lg_sl, rf_cat, cat_i, cat_l]) rfl ?_
  unfold f_X10_tenThousandTo at hB
  refine q_lconst (v := 1) dX10_tenThousandTo_0 (by decide) ?_
  refine q_lstore_n dX10_tenThousandTo_1 rfl (by decide) (nb_i (j := 0) rfl) ?_
  refine q_iconst (v := 0) dX10_tenThousandTo_2 (by decide) ?_
  refine q_istore_n dX10_tenThousandTo_3 rfl (by decide) (nb_n (j := 2) rfl) ?_
  exact Wq.mask [true, true, false, true] rfl (wl_X10_tenThousandTo_4 g l o FU _ _ _ _ hB)

def b_X10_tryThing_94  (a4 : Int32) (h : HS) : Option (Int32 × HS) :=
  gd (decide (narrow .boolean (.int a4) = .int a4)) (some (a4, h))
def b_X10_tryThing_67  (a0 : Nat) (a2 : Int32) (a3 : Int32) (s0 : Int32) (h : HS) : Option (Int32 × HS) :=
  (if s0 = 0 then b_X10_tryThing_94 s0 h else gd (decide (¬ (10 : Int32) = 0)) (gd (decide (¬ (10 : Int32) = 0)) (bd (f_X10_asOne a2 (a3 / (10 : Int32)) ((11 : Int32) * (a3 - a3 / (10 : Int32) * (10 : Int32))) h) (fun r1 => nn (some a0) (fun n3 => gd (rk r1.2 n3 8) (bd (f_X10_addOn n3 (1 : Int32) r1.1 r1.2) (fun r2 => b_X10_tryThing_94 s0 r2.2)))))))
def b_X10_tryThing_66  (a0 : Nat) (a2 : Int32) (a3 : Int32) (h : HS) : Option (Int32 × HS) :=
  b_X10_tryThing_67 a0 a2 a3 (0 : Int32) h
def b_X10_tryThing_40  (a0 : Nat) (a2 : Int32) (a3 : Int32) (h : HS) : Option (Int32 × HS) :=
  gd (decide (¬ (10 : Int32) = 0)) (bd (f_X10_isEntry a2 (a3 / (10 : Int32)) (0 : Int32) h) (fun r1 => (if r1.1 = 0 then b_X10_tryThing_66 a0 a2 a3 r1.2 else nn (some a0) (fun n3 => gd (rk r1.2 n3 8) (bd (f_X10_many n3 (1 : Int32) r1.2) (fun r2 => (if (16 : Int32) ≤ r2.1 then b_X10_tryThing_66 a0 a2 a3 r2.2 else b_X10_tryThing_67 a0 a2 a3 (1 : Int32) r2.2)))))))
def b_X10_tryThing_128  (a5 : Int32) (h : HS) : Option (Int32 × HS) :=
  gd (decide (narrow .boolean (.int a5) = .int a5)) (some (a5, h))
def b_X10_tryThing_115  (a0 : Nat) (a3 : Int32) (s0 : Int32) (h : HS) : Option (Int32 × HS) :=
  (if s0 = 0 then b_X10_tryThing_128 s0 h else nn (some a0) (fun n2 => gd (rk h n2 8) (bd (f_X10_dropOn n2 (1 : Int32) a3 h) (fun r1 => b_X10_tryThing_128 s0 r1.2))))
def b_X10_tryThing_114  (a0 : Nat) (a3 : Int32) (h : HS) : Option (Int32 × HS) :=
  b_X10_tryThing_115 a0 a3 (0 : Int32) h
def b_X10_tryThing_97  (a0 : Nat) (a2 : Int32) (a3 : Int32) (h : HS) : Option (Int32 × HS) :=
  (if a2 = 0 then nn (some a0) (fun n2 => gd (rk h n2 8) (bd (f_X10_many n2 (1 : Int32) h) (fun r1 => (if r1.1 ≤ a3 then b_X10_tryThing_114 a0 a3 r1.2 else b_X10_tryThing_115 a0 a3 (1 : Int32) r1.2)))) else b_X10_tryThing_114 a0 a3 h)
def b_X10_tryThing_175  (a6 : Int32) (h : HS) : Option (Int32 × HS) :=
  gd (decide (narrow .boolean (.int a6) = .int a6)) (some (a6, h))
def b_X10_tryThing_145  (a0 : Nat) (a2 : Int32) (a3 : Int32) (s0 : Int32) (h : HS) : Option (Int32 × HS) :=
  (if s0 = 0 then b_X10_tryThing_175 s0 h else nn (some a0) (fun n1 => gd (ck h n1 8) (nn (hP h n1 12) (fun n2 => gd (ca h n2 9 ((18 : Int32) + a3)) (nn (some a0) (fun n4 => gd (rk h n4 8) (bd (f_X10_amountOf n4 (1 : Int32) a3 h) (fun r3 => nn (hP h n1 12) (fun n5 => gd (ca r3.2 n5 9 ((18 : Int32) + a3)) (b_X10_tryThing_175 s0 (sI r3.2 n5 ((18 : Int32) + a3).toNatClampNeg ((hI h n2 ((18 : Int32) + a3).toNatClampNeg) + (((11 : Int32) * a2) - r3.1)))))))))))))
def b_X10_tryThing_131  (a0 : Nat) (a2 : Int32) (a3 : Int32) (h : HS) : Option (Int32 × HS) :=
  nn (some a0) (fun n2 => gd (rk h n2 8) (bd (f_X10_many n2 (1 : Int32) h) (fun r1 => (if r1.1 ≤ a3 then b_X10_tryThing_145 a0 a2 a3 (0 : Int32) r1.2 else b_X10_tryThing_145 a0 a2 a3 (1 : Int32) r1.2))))
def b_X10_tryThing_206  (s0 : Int32) (h : HS) : Option (Int32 × HS) :=
  gd (decide (narrow .boolean (.int s0) = .int s0)) (some (s0, h))
def b_X10_tryThing_205  (h : HS) : Option (Int32 × HS) :=
  b_X10_tryThing_206 (0 : Int32) h
def b_X10_tryThing_178  (a0 : Nat) (a2 : Int32) (a3 : Int32) (h : HS) : Option (Int32 × HS) :=
  nn (some a0) (fun n2 => gd (rk h n2 8) (bd (f_X10_findRows n2 (1 : Int32) h) (fun r1 => (if a2 = 0 then (if (10 : Int32) ≤ a3 then b_X10_tryThing_205 r1.2 else nn (some a0) (fun n3 => gd (ck r1.2 n3 8) ((if (hI r1.2 n3 13) < a3 then b_X10_tryThing_205 r1.2 else b_X10_tryThing_206 (1 : Int32) r1.2)))) else b_X10_tryThing_205 r1.2))))
def b_X10_tryThing_248  (s0 : Int32) (h : HS) : Option (Int32 × HS) :=
  gd (decide (narrow .boolean (.int s0) = .int s0)) (some (s0, h))
def b_X10_tryThing_207  (a0 : Nat) (a2 : Int32) (a3 : Int32) (h : HS) : Option (Int32 × HS) :=
  nn (some a0) (fun n2 => gd (rk h n2 8) (bd (f_X10_findRows n2 (1 : Int32) h) (fun r1 => nn (some a0) (fun n4 => gd (rk r1.2 n4 8) (bd (f_X10_findColumns n4 (1 : Int32) r1.2) (fun r3 => nn (some a0) (fun n6 => gd (rk r3.2 n6 8) (bd (f_X10_rowOf n6 a2 r3.2) (fun r5 => gd (decide (¬ (10 : Int32) = 0)) (nn (some a0) (fun n8 => gd (rk r5.2 n8 8) (bd (f_X10_columnOf n8 (a3 / (10 : Int32)) r5.2) (fun r7 => nn (some a0) (fun n10 => gd (rk r7.2 n10 8) (bd (f_X10_measureOf n10 (1 : Int32) (r5.1 &&& r7.1) r7.2) (fun r9 => gd (decide (¬ (10 : Int32) = 0)) ((if r9.1 < (a3 - a3 / (10 : Int32) * (10 : Int32)) then b_X10_tryThing_248 (0 : Int32) r9.2 else b_X10_tryThing_248 (1 : Int32) r9.2))))))))))))))))))
def b_X10_tryThing_272  (s0 : Int32) (h : HS) : Option (Int32 × HS) :=
  gd (decide (narrow .boolean (.int s0) = .int s0)) (some (s0, h))
def b_X10_tryThing_271  (h : HS) : Option (Int32 × HS) :=
  b_X10_tryThing_272 (0 : Int32) h
def b_X10_tryThing_249  (a0 : Nat) (a2 : Int32) (a3 : Int32) (h : HS) : Option (Int32 × HS) :=
  (if a2 = 0 then nn (some a0) (fun n2 => gd (rk h n2 8) (bd (f_X10_allOf n2 (1 : Int32) h) (fun r1 => nn (some a0) (fun n4 => gd (rk r1.2 n4 8) (bd (f_X10_measureOf n4 (1 : Int32) r1.1 r1.2) (fun r3 => (if r3.1 < a3 then b_X10_tryThing_271 r3.2 else b_X10_tryThing_272 (1 : Int32) r3.2))))))) else b_X10_tryThing_271 h)
def b_X10_tryThing_273  (h : HS) : Option (Int32 × HS) :=
  gd (decide (narrow .boolean (.int (0 : Int32)) = .int (0 : Int32))) (some ((0 : Int32), h))
def f_X10_tryThing  (a0 : Nat) (a1 : Int32) (a2 : Int32) (a3 : Int32) (h : HS) : Option (Int32 × HS) :=
  swT a1 1 [b_X10_tryThing_40 a0 a2 a3 h, b_X10_tryThing_97 a0 a2 a3 h, b_X10_tryThing_131 a0 a2 a3 h, b_X10_tryThing_178 a0 a2 a3 h, b_X10_tryThing_207 a0 a2 a3 h, b_X10_tryThing_249 a0 a2 a3 h] (b_X10_tryThing_273 h)
set_option maxHeartbeats 4000000 in
set_option maxRecDepth 100000 in
theorem wb_X10_tryThing_94 (g : GG) (l : Launch) (a4 : Int32) (h : HS) (o : Int32 × HS) (hB : b_X10_tryThing_94 a4 h = some o) : Wq g l mX10_tryThing 0 0 94 [none, none, none, none, some (.int a4), none, none] [] h (QI o) := by
  unfold b_X10_tryThing_94 at hB
  refine q_iload dX10_tryThing_94 rfl ?_
  exact q_zret hB dX10_tryThing_96 rfl (by decide) (by decide)
set_option maxHeartbeats 4000000 in
set_option maxRecDepth 100000 in
theorem wb_X10_tryThing_67 (g : GG) (l : Launch) (a0 : Nat) (a2 : Int32) (a3 : Int32) (s0 : Int32) (h : HS) (o : Int32 × HS) (hB : b_X10_tryThing_67 a0 a2 a3 s0 h = some o) : Wq g l mX10_tryThing 0 0 67 [some (va_rf (some a0)), none, some (.int a2), some (.int a3), none, none, none] [.int s0] h (QI o) := by
  unfold b_X10_tryThing_67 at hB
  refine q_istore dX10_tryThing_67 (by decide) (nb_i (j := 3) rfl) ?_
  refine q_iload dX10_tryThing_69 rfl ?_
  refine q_if_eq (tgt := 94) hB dX10_tryThing_71 (by decide) (fun hB => ?_) (fun hB => ?_)
  · exact Wq.mask [false, false, false, false, true, false, false] rfl (wb_X10_tryThing_94 g l _ _ o hB)
  · refine q_aload_n dX10_tryThing_74 rfl rfl ?_
    refine q_iconst (v := 1) dX10_tryThing_75 (by decide) ?_
    refine q_iload_n dX10_tryThing_76 rfl rfl ?_
    refine q_iload_n dX10_tryThing_77 rfl rfl ?_
    refine q_bipush (v := 10) dX10_tryThing_78 (by decide) ?_
    refine q_idiv hB dX10_tryThing_80 (fun hB => ?_)
    refine q_bipush (v := 11) dX10_tryThing_81 (by decide) ?_
    refine q_iload_n dX10_tryThing_83 rfl rfl ?_
    refine q_bipush (v := 10) dX10_tryThing_84 (by decide) ?_
    refine q_irem hB dX10_tryThing_86 (fun hB => ?_)
    refine q_imul dX10_tryThing_87 ?_
    refine q_callSI (k' := 0) (w' := 0) hB (fun a hf => c_X10_asOne g l _ _ _ _ a hf) rfl dX10_tryThing_88 wd_917 cs_X10_asOne wd_918 rfl ⟨⟨Nat.le_of_ble_eq_true rfl, Nat.le_of_ble_eq_true rfl⟩, ⟨Nat.le_of_ble_eq_true rfl, Nat.le_of_ble_eq_true rfl⟩, by simp [rf_cat, cat_i, cat_l]⟩ rfl rfl (fun r1 hB => ?_)
    refine q_callVV (k' := 0) (w' := 0) hB (fun b a hf => c_X10_addOn g l b _ _ _ a hf) rfl rfl dX10_tryThing_91 wd_920 cs_X10_addOn wd_922 wd_31 rfl ⟨⟨Nat.le_of_ble_eq_true rfl, Nat.le_of_ble_eq_true rfl⟩, ⟨Nat.le_of_ble_eq_true rfl, Nat.le_of_ble_eq_true rfl⟩, Nat.le_of_ble_eq_true rfl⟩ rfl rfl (fun n3 r2 hB => ?_)
    exact Wq.mask [false, false, false, false, true, false, false] rfl (wb_X10_tryThing_94 g l _ _ o hB)
set_option maxHeartbeats 4000000 in
set_option maxRecDepth 100000 in
theorem wb_X10_tryThing_66 (g : GG) (l : Launch) (a0 : Nat) (a2 : Int32) (a3 : Int32) (h : HS) (o : Int32 × HS) (hB : b_X10_tryThing_66 a0 a2 a3 h = some o) : Wq g l mX10_tryThing 0 0 66 [some (va_rf (some a0)), none, some (.int a2), some (.int a3), none, none, none] [] h (QI o) := by
  unfold b_X10_tryThing_66 at hB
  refine q_iconst (v := 0) dX10_tryThing_66 (by decide) ?_
  exact Wq.mask [true, false, true, true, false, false, false] rfl (wb_X10_tryThing_67 g l _ _ _ _ _ o hB)
set_option maxHeartbeats 4000000 in
set_option maxRecDepth 100000 in
theorem wb_X10_tryThing_40 (g : GG) (l : Launch) (a0 : Nat) (a2 : Int32) (a3 : Int32) (h : HS) (o : Int32 × HS) (hB : b_X10_tryThing_40 a0 a2 a3 h = some o) : Wq g l mX10_tryThing 0 0 40 [some (va_rf (some a0)), none, some (.int a2), some (.int a3), none, none, none] [] h (QI o) := by
  unfold b_X10_tryThing_40 at hB
  refine q_iload_n dX10_tryThing_40 rfl rfl ?_
  refine q_iload_n dX10_tryThing_41 rfl rfl ?_
  refine q_bipush (v := 10) dX10_tryThing_42 (by decide) ?_
  refine q_idiv hB dX10_tryThing_44 (fun hB => ?_)
  refine q_iconst (v := 0) dX10_tryThing_45 (by decide) ?_
  refine q_callSI (k' := 0) (w' := 0) hB (fun a hf => c_X10_isEntry g l _ _ _ _ a hf) rfl dX10_tryThing_46 wd_907 cs_X10_isEntry wd_908 rfl ⟨⟨Nat.le_of_ble_eq_true rfl, Nat.le_of_ble_eq_true rfl⟩, ⟨Nat.le_of_ble_eq_true rfl, Nat.le_of_ble_eq_true rfl⟩, Nat.le_of_ble_eq_true rfl⟩ rfl rfl (fun r1 hB => ?_)
  refine q_if_eq (tgt := 66) hB dX10_tryThing_49 (by decide) (fun hB => ?_) (fun hB => ?_)
  · exact Wq.mask [true, false, true, true, false, false, false] rfl (wb_X10_tryThing_66 g l _ _ _ _ o hB)
  · refine q_aload_n dX10_tryThing_52 rfl rfl ?_
    refine q_iconst (v := 1) dX10_tryThing_53 (by decide) ?_
    refine q_callVI (k' := 0) (w' := 0) hB (fun b a hf => c_X10_many g l b _ _ a hf) rfl rfl dX10_tryThing_54 wd_867 cs_X10_many wd_869 wd_23 rfl ⟨⟨Nat.le_of_ble_eq_true rfl, Nat.le_of_ble_eq_true rfl⟩, ⟨Nat.le_of_ble_eq_true rfl, Nat.le_of_ble_eq_true rfl⟩, Nat.le_of_ble_eq_true rfl⟩ rfl rfl (fun n3 r2 hB => ?_)
    refine q_bipush (v := 16) dX10_tryThing_57 (by decide) ?_
    refine q_icmp_ge (tgt := 66) hB dX10_tryThing_59 (by decide) (fun hB => ?_) (fun hB => ?_)
    · exact Wq.mask [true, false, true, true, false, false, false] rfl (wb_X10_tryThing_66 g l _ _ _ _ o hB)
    · refine q_iconst (v := 1) dX10_tryThing_62 (by decide) ?_
      refine q_goto (tgt := 67) dX10_tryThing_63 (by decide) ?_
      exact Wq.mask [true, false, true, true, false, false, false] rfl (wb_X10_tryThing_67 g l _ _ _ _ _ o hB)
set_option maxHeartbeats 4000000 in
set_option maxRecDepth 100000 in
theorem wb_X10_tryThing_128 (g : GG) (l : Launch) (a5 : Int32) (h : HS) (o : Int32 × HS) (hB : b_X10_tryThing_128 a5 h = some o) : Wq g l mX10_tryThing 0 0 128 [none, none, none, none, none, some (.int a5), none] [] h (QI o) := by
  unfold b_X10_tryThing_128 at hB
  refine q_iload dX10_tryThing_128 rfl ?_
  exact q_zret hB dX10_tryThing_130 rfl (by decide) (by decide)
set_option maxHeartbeats 4000000 in
set_option maxRecDepth 100000 in
theorem wb_X10_tryThing_115 (g : GG) (l : Launch) (a0 : Nat) (a3 : Int32) (s0 : Int32) (h : HS) (o : Int32 × HS) (hB : b_X10_tryThing_115 a0 a3 s0 h = some o) : Wq g l mX10_tryThing 0 0 115 [some (va_rf (some a0)), none, none, some (.int a3), none, none, none] [.int s0] h (QI o) := by
  unfold b_X10_tryThing_115 at hB
  refine q_istore dX10_tryThing_115 (by decide) (nb_n (j := 4) rfl) ?_
  refine q_iload dX10_tryThing_117 rfl ?_
  refine q_if_eq (tgt := 128) hB dX10_tryThing_119 (by decide) (fun hB => ?_) (fun hB => ?_)
  · exact Wq.mask [false, false, false, false, false, true, false] rfl (wb_X10_tryThing_128 g l _ _ o hB)
  · refine q_aload_n dX10_tryThing_122 rfl rfl ?_
    refine q_iconst (v := 1) dX10_tryThing_123 (by decide) ?_
    refine q_iload_n dX10_tryThing_124 rfl rfl ?_
    refine q_callVV (k' := 0) (w' := 0) hB (fun b a hf => c_X10_dropOn g l b _ _ _ a hf) rfl rfl dX10_tryThing_125 wd_932 cs_X10_dropOn wd_934 wd_33 rfl ⟨⟨Nat.le_of_ble_eq_true rfl, Nat.le_of_ble_eq_true rfl⟩, ⟨Nat.le_of_ble_eq_true rfl, Nat.le_of_ble_eq_true rfl⟩, Nat.le_of_ble_eq_true rfl⟩ rfl rfl (fun n2 r1 hB => ?_)
    exact Wq.mask [false, false, false, false, false, true, false] rfl (wb_X10_tryThing_128 g l _ _ o hB)
set_option maxHeartbeats 4000000 in
set_option maxRecDepth 100000 in
theorem wb_X10_tryThing_114 (g : GG) (l : Launch) (a0 : Nat) (a3 : Int32) (h : HS) (o : Int32 × HS) (hB : b_X10_tryThing_114 a0 a3 h = some o) : Wq g l mX10_tryThing 0 0 114 [some (va_rf (some a0)), none, none, some (.int a3), none, none, none] [] h (QI o) := by
  unfold b_X10_tryThing_114 at hB
  refine q_iconst (v := 0) dX10_tryThing_114 (by decide) ?_
  exact Wq.mask [true, false, false, true, false, false, false] rfl (wb_X10_tryThing_115 g l _ _ _ _ o hB)
set_option maxHeartbeats 4000000 in
set_option maxRecDepth 100000 in
theorem wb_X10_tryThing_97 (g : GG) (l : Launch) (a0 : Nat) (a2 : Int32) (a3 : Int32) (h : HS) (o : Int32 × HS) (hB : b_X10_tryThing_97 a0 a2 a3 h = some o) : Wq g l mX10_tryThing 0 0 97 [some (va_rf (some a0)), none, some (.int a2), some (.int a3), none, none, none] [] h (QI o) := by
  unfold b_X10_tryThing_97 at hB
  refine q_iload_n dX10_tryThing_97 rfl rfl ?_
  refine q_if_ne (tgt := 114) hB dX10_tryThing_98 (by decide) (fun hB => ?_) (fun hB => ?_)
  · exact Wq.mask [true, false, false, true, false, false, false] rfl (wb_X10_tryThing_114 g l _ _ _ o hB)
  · refine q_iload_n dX10_tryThing_101 rfl rfl ?_
    refine q_aload_n dX10_tryThing_102 rfl rfl ?_
    refine q_iconst (v := 1) dX10_tryThing_103 (by decide) ?_
    refine q_callVI (k' := 0) (w' := 0) hB (fun b a hf => c_X10_many g l b _ _ a hf) rfl rfl dX10_tryThing_104 wd_867 cs_X10_many wd_869 wd_23 rfl ⟨⟨Nat.le_of_ble_eq_true rfl, Nat.le_of_ble_eq_true rfl⟩, ⟨Nat.le_of_ble_eq_true rfl, Nat.le_of_ble_eq_true rfl⟩, by simp [rf_cat, cat_i, cat_l]⟩ rfl rfl (fun n2 r1 hB => ?_)
    refine q_icmp_ge (tgt := 114) hB dX10_tryThing_107 (by decide) (fun hB => ?_) (fun hB => ?_)
    · exact Wq.mask [true, false, false, true, false, false, false] rfl (wb_X10_tryThing_114 g l _ _ _ o hB)
    · refine q_iconst (v := 1) dX10_tryThing_110 (by decide) ?_
      refine q_goto (tgt := 115) dX10_tryThing_111 (by decide) ?_
      exact Wq.mask [true, false, false, true, false, false, false] rfl (wb_X10_tryThing_115 g l _ _ _ _ o hB)
set_option maxHeartbeats 4000000 in
set_option maxRecDepth 100000 in
theorem wb_X10_tryThing_175 (g : GG) (l : Launch) (a6 : Int32) (h : HS) (o : Int32 × HS) (hB : b_X10_tryThing_175 a6 h = some o) : Wq g l mX10_tryThing 0 0 175 [none, none, none, none, none, none, some (.int a6)] [] h (QI o) := by
  unfold b_X10_tryThing_175 at hB
  refine q_iload dX10_tryThing_175 rfl ?_
  exact q_zret hB dX10_tryThing_177 rfl (by decide) (by decide)
set_option maxHeartbeats 4000000 in
set_option maxRecDepth 100000 in
theorem wb_X10_tryThing_145 (g : GG) (l : Launch) (a0 : Nat) (a2 : Int32) (a3 : Int32) (s0 : Int32) (h : HS) (o : Int32 × HS) (hB : b_X10_tryThing_145 a0 a2 a3 s0 h = some o) : Wq g l mX10_tryThing 0 0 145 [some (va_rf (some a0)), none, some (.int a2), some (.int a3), none, none, none] [.int s0] h (QI o) := by
  unfold b_X10_tryThing_145 at hB
  refine q_istore dX10_tryThing_145 (by decide) (nb_n (j := 5) rfl) ?_
  refine q_iload dX10_tryThing_147 rfl ?_
  refine q_if_eq (tgt := 175) hB dX10_tryThing_149 (by decide) (fun hB => ?_) (fun hB => ?_)
  · exact Wq.mask [false, false, false, false, false, false, true] rfl (wb_X10_tryThing_175 g l _ _ o hB)
  · refine q_aload_n dX10_tryThing_152 rfl rfl ?_
    refine q_getP (j := 12) hB dX10_tryThing_153 fc_8 (by decide) rfl wd_741 (fun n1 hB => ?_)
    refine q_bipush (v := 18) dX10_tryThing_156 (by decide) ?_
    refine q_iload_n dX10_tryThing_158 rfl rfl ?_
    refine q_iadd dX10_tryThing_159 ?_
    refine q_dup2 dX10_tryThing_160 rfl (rf_cat _) ?_
    refine q_iald hB dX10_tryThing_161 (fun n2 hB => ?_)
    refine q_bipush (v := 11) dX10_tryThing_162 (by decide) ?_
    refine q_iload_n dX10_tryThing_164 rfl rfl ?_
    refine q_imul dX10_tryThing_165 ?_
    refine q_aload_n dX10_tryThing_166 rfl rfl ?_
    refine q_iconst (v := 1) dX10_tryThing_167 (by decide) ?_
    refine q_iload_n dX10_tryThing_168 rfl rfl ?_
    refine q_callVI (k' := 0) (w' := 0) hB (fun b a hf => c_X10_amountOf g l b _ _ _ a hf) rfl rfl dX10_tryThing_169 wd_894 cs_X10_amountOf wd_896 wd_29 rfl ⟨⟨Nat.le_of_ble_eq_true rfl, Nat.le_of_ble_eq_true rfl⟩, ⟨Nat.le_of_ble_eq_true rfl, Nat.le_of_ble_eq_true rfl⟩, by simp [rf_cat, cat_i, cat_l]⟩ rfl rfl (fun n4 r3 hB => ?_)
    refine q_isub dX10_tryThing_172 ?_
    refine q_iadd dX10_tryThing_173 ?_
    refine q_iast hB dX10_tryThing_174 (fun n5 hB => ?_)
    exact Wq.mask [false, false, false, false, false, false, true] rfl (wb_X10_tryThing_175 g l _ _ o hB)
set_option maxHeartbeats 4000000 in
set_option maxRecDepth 100000 in
theorem wb_X10_tryThing_131 (g : GG) (l : Launch) (a0 : Nat) (a2 : Int32) (a3 : Int32) (h : HS) (o : Int32 × HS) (hB : b_X10_tryThing_131 a0 a2 a3 h = some o) : Wq g l mX10_tryThing 0 0 131 [some (va_rf (some a0)), none, some (.int a2), some (.int a3), none, none, none] [] h (QI o) := by
  unfold b_X10_tryThing_131 at hB
  refine q_iload_n dX10_tryThing_131 rfl rfl ?_
  refine q_aload_n dX10_tryThing_132 rfl rfl ?_
  refine q_iconst (v := 1) dX10_tryThing_133 (by decide) ?_
  refine q_callVI (k' := 0) (w' := 0) hB (fun b a hf => c_X10_many g l b _ _ a hf) rfl rfl dX10_tryThing_134 wd_867 cs_X10_many wd_869 wd_23 rfl ⟨⟨Nat.le_of_ble_eq_true rfl, Nat.le_of_ble_eq_true rfl⟩, ⟨Nat.le_of_ble_eq_true rfl, Nat.le_of_ble_eq_true rfl⟩, by simp [rf_cat, cat_i, cat_l]⟩ rfl rfl (fun n2 r1 hB => ?_)
  refine q_icmp_ge (tgt := 144) hB dX10_tryThing_137 (by decide) (fun hB => ?_) (fun hB => ?_)
  · refine q_iconst (v := 0) dX10_tryThing_144 (by decide) ?_
    exact Wq.mask [true, false, true, true, false, false, false] rfl (wb_X10_tryThing_145 g l _ _ _ _ _ o hB)
  · refine q_iconst (v := 1) dX10_tryThing_140 (by decide) ?_
    refine q_goto (tgt := 145) dX10_tryThing_141 (by decide) ?_
    exact Wq.mask [true, false, true, true, false, false, false] rfl (wb_X10_tryThing_145 g l _ _ _ _ _ o hB)
set_option maxHeartbeats 4000000 in
set_option maxRecDepth 100000 in
theorem wb_X10_tryThing_206 (g : GG) (l : Launch) (s0 : Int32) (h : HS) (o : Int32 × HS) (hB : b_X10_tryThing_206 s0 h = some o) : Wq g l mX10_tryThing 0 0 206 [none, none, none, none, none, none, none] [.int s0] h (QI o) := by
  unfold b_X10_tryThing_206 at hB
  exact q_zret hB dX10_tryThing_206 rfl (by decide) (by decide)
set_option maxHeartbeats 4000000 in
set_option maxRecDepth 100000 in
theorem wb_X10_tryThing_205 (g : GG) (l : Launch) (h : HS) (o : Int32 × HS) (hB : b_X10_tryThing_205  h = some o) : Wq g l mX10_tryThing 0 0 205 [none, none, none, none, none, none, none] [] h (QI o) := by
  unfold b_X10_tryThing_205 at hB
  refine q_iconst (v := 0) dX10_tryThing_205 (by decide) ?_
  exact Wq.mask [false, false, false, false, false, false, false] rfl (wb_X10_tryThing_206 g l _ _ o hB)
set_option maxHeartbeats 4000000 in
set_option maxRecDepth 100000 in
theorem wb_X10_tryThing_178 (g : GG) (l : Launch) (a0 : Nat) (a2 : Int32) (a3 : Int32) (h : HS) (o : Int32 × HS) (hB : b_X10_tryThing_178 a0 a2 a3 h = some o) : Wq g l mX10_tryThing 0 0 178 [some (va_rf (some a0)), none, some (.int a2), some (.int a3), none, none, none] [] h (QI o) := by
  unfold b_X10_tryThing_178 at hB
  refine q_aload_n dX10_tryThing_178 rfl rfl ?_
  refine q_iconst (v := 1) dX10_tryThing_179 (by decide) ?_
  refine q_callVV (k' := 0) (w' := 0) hB (fun b a hf => c_X10_findRows g l b _ _ a hf) rfl rfl dX10_tryThing_180 wd_859 cs_X10_findRows wd_861 wd_21 rfl ⟨⟨Nat.le_of_ble_eq_true rfl, Nat.le_of_ble_eq_true rfl⟩, ⟨Nat.le_of_ble_eq_true rfl, Nat.le_of_ble_eq_true rfl⟩, Nat.le_of_ble_eq_true rfl⟩ rfl rfl (fun n2 r1 hB => ?_)
  refine q_iload_n dX10_tryThing_183 rfl rfl ?_
  refine q_if_ne (tgt := 205) hB dX10_tryThing_184 (by decide) (fun hB => ?_) (fun hB => ?_)
  · exact Wq.mask [false, false, false, false, false, false, false] rfl (wb_X10_tryThing_205 g l _ o hB)
  · refine q_iload_n dX10_tryThing_187 rfl rfl ?_
    refine q_bipush (v := 10) dX10_tryThing_188 (by decide) ?_
    refine q_icmp_ge (tgt := 205) hB dX10_tryThing_190 (by decide) (fun hB => ?_) (fun hB => ?_)
    · exact Wq.mask [false, false, false, false, false, false, false] rfl (wb_X10_tryThing_205 g l _ o hB)
    · refine q_aload_n dX10_tryThing_193 rfl rfl ?_
      refine q_getI (j := 13) hB dX10_tryThing_194 fc_8 (by decide) rfl wd_742 (fun n3 hB => ?_)
      refine q_iload_n dX10_tryThing_197 rfl rfl ?_
      refine q_icmp_lt (tgt := 205) hB dX10_tryThing_198 (by decide) (fun hB => ?_) (fun hB => ?_)
      · exact Wq.mask [false, false, false, false, false, false, false] rfl (wb_X10_tryThing_205 g l _ o hB)
      · refine q_iconst (v := 1) dX10_tryThing_201 (by decide) ?_
        refine q_goto (tgt := 206) dX10_tryThing_202 (by decide) ?_
        exact Wq.mask [false, false, false, false, false, false, false] rfl (wb_X10_tryThing_206 g l _ _ o hB)
set_option maxHeartbeats 4000000 in
set_option maxRecDepth 100000 in
theorem wb_X10_tryThing_248 (g : GG) (l : Launch) (s0 : Int32) (h : HS) (o : Int32 × HS) (hB : b_X10_tryThing_248 s0 h = some o) : Wq g l mX10_tryThing 0 0 248 [none, none, none, none, none, none, none] [.int s0] h (QI o) := by
  unfold b_X10_tryThing_248 at hB
  exact q_zret hB dX10_tryThing_248 rfl (by decide) (by decide)
set_option maxHeartbeats 4000000 in
set_option maxRecDepth 100000 in
theorem wb_X10_tryThing_207 (g : GG) (l : Launch) (a0 : Nat) (a2 : Int32) (a3 : Int32) (h : HS) (o : Int32 × HS) (hB : b_X10_tryThing_207 a0 a2 a3 h = some o) : Wq g l mX10_tryThing 0 0 207 [some (va_rf (some a0)), none, some (.int a2), some (.int a3), none, none, none] [] h (QI o) := by
  unfold b_X10_tryThing_207 at hB
  refine q_aload_n dX10_tryThing_207 rfl rfl ?_
  refine q_iconst (v := 1) dX10_tryThing_208 (by decide) ?_
  refine q_callVV (k' := 0) (w' := 0) hB (fun b a hf => c_X10_findRows g l b _ _ a hf) rfl rfl dX10_tryThing_209 wd_859 cs_X10_findRows wd_861 wd_21 rfl ⟨⟨Nat.le_of_ble_eq_true rfl, Nat.le_of_ble_eq_true rfl⟩, ⟨Nat.le_of_ble_eq_true rfl, Nat.le_of_ble_eq_true rfl⟩, Nat.le_of_ble_eq_true rfl⟩ rfl rfl (fun n2 r1 hB => ?_)
  refine q_aload_n dX10_tryThing_212 rfl rfl ?_
  refine q_iconst (v := 1) dX10_tryThing_213 (by decide) ?_
  refine q_callVV (k' := 0) (w' := 0) hB (fun b a hf => c_X10_findColumns g l b _ _ a hf) rfl rfl dX10_tryThing_214 wd_956 cs_X10_findColumns wd_958 wd_35 rfl ⟨⟨Nat.le_of_ble_eq_true rfl, Nat.le_of_ble_eq_true rfl⟩, ⟨Nat.le_of_ble_eq_true rfl, Nat.le_of_ble_eq_true rfl⟩, Nat.le_of_ble_eq_true rfl⟩ rfl rfl (fun n4 r3 hB => ?_)
  refine q_aload_n dX10_tryThing_217 rfl rfl ?_
  refine q_iconst (v := 1) dX10_tryThing_218 (by decide) ?_
  refine q_aload_n dX10_tryThing_219 rfl rfl ?_
  refine q_iload_n dX10_tryThing_220 rfl rfl ?_
  refine q_callVI (k' := 0) (w' := 0) hB (fun b a hf => c_X10_rowOf g l b _ _ a hf) rfl rfl dX10_tryThing_221 wd_964 cs_X10_rowOf wd_966 wd_36 rfl ⟨⟨Nat.le_of_ble_eq_true rfl, Nat.le_of_ble_eq_true rfl⟩, ⟨Nat.le_of_ble_eq_true rfl, Nat.le_of_ble_eq_true rfl⟩, by simp [rf_cat, cat_i, cat_l]⟩ rfl rfl (fun n6 r5 hB => ?_)
  refine q_aload_n dX10_tryThing_224 rfl rfl ?_
  refine q_iload_n dX10_tryThing_225 rfl rfl ?_
  refine q_bipush (v := 10) dX10_tryThing_226 (by decide) ?_
  refine q_idiv hB dX10_tryThing_228 (fun hB => ?_)
  refine q_callVI (k' := 0) (w' := 0) hB (fun b a hf => c_X10_columnOf g l b _ _ a hf) rfl rfl dX10_tryThing_229 wd_968 cs_X10_columnOf wd_970 wd_37 rfl ⟨⟨Nat.le_of_ble_eq_true rfl, Nat.le_of_ble_eq_true rfl⟩, ⟨Nat.le_of_ble_eq_true rfl, Nat.le_of_ble_eq_true rfl⟩, by simp [rf_cat, cat_i, cat_l]⟩ rfl rfl (fun n8 r7 hB => ?_)
  refine q_iand dX10_tryThing_232 ?_
  refine q_callVI (k' := 0) (w' := 0) hB (fun b a hf => c_X10_measureOf g l b _ _ _ a hf) rfl rfl dX10_tryThing_233 wd_883 cs_X10_measureOf wd_885 wd_27 rfl ⟨⟨Nat.le_of_ble_eq_true rfl, Nat.le_of_ble_eq_true rfl⟩, ⟨Nat.le_of_ble_eq_true rfl, Nat.le_of_ble_eq_true rfl⟩, Nat.le_of_ble_eq_true rfl⟩ rfl rfl (fun n10 r9 hB => ?_)
  refine q_iload_n dX10_tryThing_236 rfl rfl ?_
  refine q_bipush (v := 10) dX10_tryThing_237 (by decide) ?_
  refine q_irem hB dX10_tryThing_239 (fun hB => ?_)
  refine q_icmp_lt (tgt := 247) hB dX10_tryThing_240 (by decide) (fun hB => ?_) (fun hB => ?_)
  · refine q_iconst (v := 0) dX10_tryThing_247 (by decide) ?_
    exact Wq.mask [false, false, false, false, false, false, false] rfl (wb_X10_tryThing_248 g l _ _ o hB)
  · refine q_iconst (v := 1) dX10_tryThing_243 (by decide) ?_
    refine q_goto (tgt := 248) dX10_tryThing_244 (by decide) ?_
    exact Wq.mask [false, false, false, false, false, false, false] rfl (wb_X10_tryThing_248 g l _ _ o hB)
set_option maxHeartbeats 4000000 in
set_option maxRecDepth 100000 in
theorem wb_X10_tryThing_272 (g : GG) (l : Launch) (s0 : Int32) (h : HS) (o : Int32 × HS) (hB : b_X10_tryThing_272 s0 h = some o) : Wq g l mX10_tryThing 0 0 272 [none, none, none, none, none, none, none] [.int s0] h (QI o) := by
  unfold b_X10_tryThing_272 at hB
  exact q_zret hB dX10_tryThing_272 rfl (by decide) (by decide)
set_option maxHeartbeats 4000000 in
set_option maxRecDepth 100000 in
theorem wb_X10_tryThing_271 (g : GG) (l : Launch) (h : HS) (o : Int32 × HS) (hB : b_X10_tryThing_271  h = some o) : Wq g l mX10_tryThing 0 0 271 [none, none, none, none, none, none, none] [] h (QI o) := by
  unfold b_X10_tryThing_271 at hB
  refine q_iconst (v := 0) dX10_tryThing_271 (by decide) ?_
  exact Wq.mask [false, false, false, false, false, false, false] rfl (wb_X10_tryThing_272 g l _ _ o hB)
set_option maxHeartbeats 4000000 in
set_option maxRecDepth 100000 in
theorem wb_X10_tryThing_249 (g : GG) (l : Launch) (a0 : Nat) (a2 : Int32) (a3 : Int32) (h : HS) (o : Int32 × HS) (hB : b_X10_tryThing_249 a0 a2 a3 h = some o) : Wq g l mX10_tryThing 0 0 249 [some (va_rf (some a0)), none, some (.int a2), some (.int a3), none, none, none] [] h (QI o) := by
  unfold b_X10_tryThing_249 at hB
  refine q_iload_n dX10_tryThing_249 rfl rfl ?_
  refine q_if_ne (tgt := 271) hB dX10_tryThing_250 (by decide) (fun hB => ?_) (fun hB => ?_)
  · exact Wq.mask [false, false, false, false, false, false, false] rfl (wb_X10_tryThing_271 g l _ o hB)
  · refine q_aload_n dX10_tryThing_253 rfl rfl ?_
    refine q_iconst (v := 1) dX10_tryThing_254 (by decide) ?_
    refine q_aload_n dX10_tryThing_255 rfl rfl ?_
    refine q_iconst (v := 1) dX10_tryThing_256 (by decide) ?_
    refine q_callVI (k' := 0) (w' := 0) hB (fun b a hf => c_X10_allOf g l b _ _ a hf) rfl rfl dX10_tryThing_257 wd_984 cs_X10_allOf wd_986 wd_38 rfl ⟨⟨Nat.le_of_ble_eq_true rfl, Nat.le_of_ble_eq_true rfl⟩, ⟨Nat.le_of_ble_eq_true rfl, Nat.le_of_ble_eq_true rfl⟩, by simp [rf_cat, cat_i, cat_l]⟩ rfl rfl (fun n2 r1 hB => ?_)
    refine q_callVI (k' := 0) (w' := 0) hB (fun b a hf => c_X10_measureOf g l b _ _ _ a hf) rfl rfl dX10_tryThing_260 wd_883 cs_X10_measureOf wd_885 wd_27 rfl ⟨⟨Nat.le_of_ble_eq_true rfl, Nat.le_of_ble_eq_true rfl⟩, ⟨Nat.le_of_ble_eq_true rfl, Nat.le_of_ble_eq_true rfl⟩, Nat.le_of_ble_eq_true rfl⟩ rfl rfl (fun n4 r3 hB => ?_)
    refine q_iload_n dX10_tryThing_263 rfl rfl ?_
    refine q_icmp_lt (tgt := 271) hB dX10_tryThing_264 (by decide) (fun hB => ?_) (fun hB => ?_)
    · exact Wq.mask [false, false, false, false, false, false, false] rfl (wb_X10_tryThing_271 g l _ o hB)
    · refine q_iconst (v := 1) dX10_tryThing_267 (by decide) ?_
      refine q_goto (tgt := 272) dX10_tryThing_268 (by decide) ?_
      exact Wq.mask [false, false, false, false, false, false, false] rfl (wb_X10_tryThing_272 g l _ _ o hB)
set_option maxHeartbeats 4000000 in
set_option maxRecDepth 100000 in
theorem wb_X10_tryThing_273 (g : GG) (l : Launch) (h : HS) (o : Int32 × HS) (hB : b_X10_tryThing_273  h = some o) : Wq g l mX10_tryThing 0 0 273 [none, none, none, none, none, none, none] [] h (QI o) := by
  unfold b_X10_tryThing_273 at hB
  refine q_iconst (v := 0) dX10_tryThing_273 (by decide) ?_
  exact q_zret hB dX10_tryThing_274 rfl (by decide) (by decide)
set_option maxHeartbeats 4000000 in
set_option maxRecDepth 100000 in
theorem c_X10_tryThing (g : GG) (l : Launch) (a0 : Nat) (a1 : Int32) (a2 : Int32) (a3 : Int32) (h : HS) (o : Int32 × HS) (hB : f_X10_tryThing a0 a1 a2 a3 h = some o) : Ct g l mX10_tryThing [va_rf (some a0), .int a1, .int a2, .int a3] h (QI o) := by
  refine Ct.of2 (lv0 := [some (va_rf (some a0)), some (.int a1), some (.int a2), some (.int a3), none, none, none]) (by decide +kernel) (by simp [lg_sl, rf_cat, cat_i, cat_l]) rfl ?_
  unfold f_X10_tryThing at hB
  refine q_iload_n dX10_tryThing_0 rfl rfl ?_
  refine q_tab (dt := 273) [40, 97, 131, 178, 207, 249] hB dX10_tryThing_1 rfl rfl (by decide) (by decide) (fun hB => ?_) (fun i hi hB => ?_)
  · exact Wq.mask [false, false, false, false, false, false, false] rfl (wb_X10_tryThing_273 g l _ o hB)
  · match i, hi, hB with
    | 0, _, hB =>
      simp only [List.getD_cons_zero, List.getD_cons_succ] at hB
      exact Wq.mask [true, false, true, true, false, false, false] rfl (wb_X10_tryThing_40 g l _ _ _ _ o hB)
    | 1, _, hB =>
      simp only [List.getD_cons_zero, List.getD_cons_succ] at hB
      exact Wq.mask [true, false, true, true, false, false, false] rfl (wb_X10_tryThing_97 g l _ _ _ _ o hB)
    | 2, _, hB =>
      simp only [List.getD_cons_zero, List.getD_cons_succ] at hB
      exact Wq.mask [true, false, true, true, false, false, false] rfl (wb_X10_tryThing_131 g l _ _ _ _ o hB)
    | 3, _, hB =>
      simp only [List.getD_cons_zero, List.getD_cons_succ] at hB
      exact Wq.mask [true, false, true, true, false, false, false] rfl (wb_X10_tryThing_178 g l _ _ _ _ o hB)
    | 4, _, hB =>
      simp only [List.getD_cons_zero, List.getD_cons_succ] at hB
      exact Wq.mask [true, false, true, true, false, false, false] rfl (wb_X10_tryThing_207 g l _ _ _ _ o hB)
    | 5, _, hB =>
      simp only [List.getD_cons_zero, List.getD_cons_succ] at hB
      exact Wq.mask [true, false, true, true, false, false, false] rfl (wb_X10_tryThing_249 g l _ _ _ _ o hB)
    | n + 6, hi, _ => exact absurd hi (by simp only [List.length_cons, List.length_nil]; omega)

def b_X10_judge_26  (h : HS) : Option (Int32 × HS) :=
  some ((-2 : Int32), h)
def b_X10_judge_36  (k36 : Nat → Int32 → Int64 → Int32 → HS → Option (Int32 × HS)) (a0 : Nat) (a1 : Int32) (a2 : Int64) (a4 : Int32) (h : HS) : Option (Int32 × HS) :=
  (if a1 ≤ a4 then some ((-9 : Int32), h) else bd (f_X10_tenThousandTo ((a1 - (1 : Int32)) - a4) h) (fun r1 => gd (decide (¬ r1.1 = 0)) (gd (decide (¬ (10000 : Int64) = 0)) (gd (decide (¬ (1000 : Int32) = 0)) (gd (decide (¬ (100 : Int32) = 0)) (gd (decide (¬ (10 : Int32) = 0)) (gd (decide (¬ (100 : Int32) = 0)) (nn (some a0) (fun n3 => gd (rk r1.2 n3 8) (bd (f_X10_tryThing n3 (((a2 / r1.1) - (a2 / r1.1) / (10000 : Int64) * (10000 : Int64)).toInt32 / (1000 : Int32)) ((((a2 / r1.1) - (a2 / r1.1) / (10000 : Int64) * (10000 : Int64)).toInt32 / (100 : Int32)) - (((a2 / r1.1) - (a2 / r1.1) / (10000 : Int64) * (10000 : Int64)).toInt32 / (100 : Int32)) / (10 : Int32) * (10 : Int32)) (((a2 / r1.1) - (a2 / r1.1) / (10000 : Int64) * (10000 : Int64)).toInt32 - ((a2 / r1.1) - (a2 / r1.1) / (10000 : Int64) * (10000 : Int64)).toInt32 / (100 : Int32) * (100 : Int32)) r1.2) (fun r2 => (if r2.1 = 0 then some (a4, r2.2) else k36 a0 a1 a2 (a4 + (1 : Int32)) r2.2))))))))))))
def l_X10_judge_36  : Nat → Nat → Int32 → Int64 → Int32 → HS → Option (Int32 × HS)
  | 0 => fun _ _ _ _ _ => none
  | n + 1 => b_X10_judge_36 (l_X10_judge_36 n)
def f_X10_judge  (a0 : Nat) (a1 : Int32) (a2 : Int64) (h : HS) : Option (Int32 × HS) :=
  bd (f_X10_in a1.toInt64 (1 : Int64) (4 : Int64) h) (fun r1 => (if r1.1 = 0 then b_X10_judge_26 r1.2 else bd (f_X10_tenThousandTo a1 r1.2) (fun r2 => bd (f_X10_in a2 (0 : Int64) (r2.1 - (1 : Int64)) r2.2) (fun r3 => (if r3.1 = 0 then b_X10_judge_26 r3.2 else nn (some a0) (fun n5 => gd (rk r3.2 n5 8) (bd (f_X10_layTrial n5 r3.2) (fun r4 => l_X10_judge_36 FU a0 a1 a2 (0 : Int32) r4.2))))))))
set_option maxHeartbeats 4000000 in
set_option maxRecDepth 100000 in
theorem wb_X10_judge_26 (g : GG) (l : Launch) (h : HS) (o : Int32 × HS) (hB : b_X10_judge_26  h = some o) : Wq g l mX10_judge 0 0 26 [none, none, none, none, none, none] [] h (QI o) := by
  unfold b_X10_judge_26 at hB
  refine q_bipush (v := -2) dX10_judge_26 (by decide) ?_
  exact q_iret hB dX10_judge_28 rfl (by decide) (by decide)
set_option maxHeartbeats 4000000 in
set_option maxRecDepth 100000 in
theorem wb_X10_judge_36 (g : GG) (l : Launch) (k36 : Nat → Int32 → Int64 → Int32 → HS → Option (Int32 × HS)) (a0 : Nat) (a1 : Int32) (a2 : Int64) (a4 : Int32) (h : HS) (o : Int32 × HS) (hB : b_X10_judge_36 k36 a0 a1 a2 a4 h = some o) (hk36 : ∀ (a0 : Nat) (a1 : Int32) (a2 : Int64) (a4 : Int32) (h : HS), k36 a0 a1 a2 a4 h = some o → Wq g l mX10_judge 0 0 36 [some (va_rf (some a0)), some (.int a1), some (.long a2), none, some (.int a4), none] [] h (QI o)) : Wq g l mX10_judge 0 0 36 [some (va_rf (some a0)), some (.int a1), some (.long a2), none, some (.int a4), none] [] h (QI o) := by
  unfold b_X10_judge_36 at hB
  refine q_iload dX10_judge_36 rfl ?_
  refine q_iload_n dX10_judge_38 rfl rfl ?_
  refine q_icmp_ge (tgt := 95) hB dX10_judge_39 (by decide) (fun hB => ?_) (fun hB => ?_)
  · refine q_bipush (v := -9) dX10_judge_95 (by decide) ?_
    exact q_iret hB dX10_judge_97 rfl (by decide) (by decide)
  · refine q_lload_n dX10_judge_42 rfl rfl ?_
    refine q_iload_n dX10_judge_43 rfl rfl ?_
    refine q_iconst (v := 1) dX10_judge_44 (by decide) ?_
    refine q_isub dX10_judge_45 ?_
    refine q_iload dX10_judge_46 rfl ?_
    refine q_isub dX10_judge_48 ?_
    refine q_callSJ (k' := 0) (w' := 0) hB (fun a hf => c_X10_tenThousandTo g l _ _ a hf) rfl dX10_judge_49 wd_1004 cs_X10_tenThousandTo wd_1005 rfl ⟨⟨Nat.le_of_ble_eq_true rfl, Nat.le_of_ble_eq_true rfl⟩, ⟨Nat.le_of_ble_eq_true rfl, Nat.le_of_ble_eq_true rfl⟩, by simp [rf_cat, cat_i, cat_l]⟩ rfl rfl (fun r1 hB => ?_)
    refine q_ldiv hB dX10_judge_52 (fun hB => ?_)
    refine q_ldc2 dX10_judge_53 wd_1007 ?_
    refine q_lrem hB dX10_judge_56 (fun hB => ?_)
    refine q_l2i dX10_judge_57 ?_
    refine q_istore dX10_judge_58 (by decide) (nb_i (j := 4) rfl) ?_
    refine q_aload_n dX10_judge_60 rfl rfl ?_
    refine q_iload dX10_judge_61 rfl ?_
    refine q_sipush (v := 1000) dX10_judge_63 (by decide) ?_
    refine q_idiv hB dX10_judge_66 (fun hB => ?_)
    refine q_iload dX10_judge_67 rfl ?_
    refine q_bipush (v := 100) dX10_judge_69 (by decide) ?_
    refine q_idiv hB dX10_judge_71 (fun hB => ?_)
    refine q_bipush (v := 10) dX10_judge_72 (by decide) ?_
    refine q_irem hB dX10_judge_74 (fun hB => ?_)
    refine q_iload dX10_judge_75 rfl ?_
    refine q_bipush (v := 100) dX10_judge_77 (by decide) ?_
    refine q_irem hB dX10_judge_79 (fun hB => ?_)
    refine q_callVI (k' := 0) (w' := 0) hB (fun b a hf => c_X10_tryThing g l b _ _ _ _ a hf) rfl rfl dX10_judge_80 wd_1008 cs_X10_tryThing wd_1010 wd_40 rfl ⟨⟨Nat.le_of_ble_eq_true rfl, Nat.le_of_ble_eq_true rfl⟩, ⟨Nat.le_of_ble_eq_true rfl, Nat.le_of_ble_eq_true rfl⟩, Nat.le_of_ble_eq_true rfl⟩ rfl rfl (fun n3 r2 hB => ?_)
    refine q_if_ne (tgt := 89) hB dX10_judge_83 (by decide) (fun hB => ?_) (fun hB => ?_)
    · refine q_iinc dX10_judge_89 rfl (show _ = (a4 + (1 : Int32)) from rfl) (by decide) (nb_n (j := 3) rfl) ?_
      refine q_goto (tgt := 36) dX10_judge_92 (by decide) ?_
      exact Wq.mask [true, true, true, false, true, false] rfl (hk36 _ _ _ _ _ hB)
    · refine q_iload dX10_judge_86 rfl ?_
      exact q_iret hB dX10_judge_88 rfl (by decide) (by decide)
set_option maxHeartbeats 4000000 in
theorem wl_X10_judge_36 (g : GG) (l : Launch) (o : Int32 × HS) : ∀ (n : Nat) (a0 : Nat) (a1 : Int32) (a2 : Int64) (a4 : Int32) (h : HS), l_X10_judge_36 n a0 a1 a2 a4 h = some o → Wq g l mX10_judge 0 0 36 [some (va_rf (some a0)), some (.int a1), some (.long a2), none, some (.int a4), none] [] h (QI o) := by
  intro n
  induction n with
  | zero =>
    intro a0 a1 a2 a4  h hB
    have q : (none : Option (Int32 × HS)) = some o := hB
    cases q
  | succ n ih =>
    intro a0 a1 a2 a4  h hB
    exact wb_X10_judge_36 g l (l_X10_judge_36 n) a0 a1 a2 a4 h o hB ih
set_option maxHeartbeats 4000000 in
set_option maxRecDepth 100000 in
theorem c_X10_judge (g : GG) (l : Launch) (a0 : Nat) (a1 : Int32) (a2 : Int64) (h : HS) (o : Int32 × HS) (hB : f_X10_judge a0 a1 a2 h = some o) : Ct g l mX10_judge [va_rf (some a0), .int a1, .long a2] h (QI o) := by
  refine Ct.of2 (lv0 := [some (va_rf (some a0)), some (.int a1), some (.long a2), none, none, none]) (by decide +kernel) (by simp [lg_sl, rf_cat, cat_i, cat_l]) rfl ?_
  unfold f_X10_judge at hB
  refine q_iload_n dX10_judge_0 rfl rfl ?_
  refine q_i2l dX10_judge_1 ?_
  refine q_lconst (v := 1) dX10_judge_2 (by decide) ?_
  refine q_ldc2 dX10_judge_3 wd_911 ?_
  refine q_callSI (k' := 0) (w' := 0) hB (fun a hf => c_X10_in g l _ _ _ _ a hf) rfl dX10_judge_6 wd_825 cs_X10_in wd_826 rfl ⟨⟨Nat.le_of_ble_eq_true rfl, Nat.le_of_ble_eq_true rfl⟩, ⟨Nat.le_of_ble_eq_true rfl, Nat.le_of_ble_eq_true rfl⟩, Nat.le_of_ble_eq_true rfl⟩ rfl rfl (fun r1 hB => ?_)
  refine q_if_eq (tgt := 26) hB dX10_judge_9 (by decide) (fun hB => ?_) (fun hB => ?_)
  · exact Wq.mask [false, false, false, false, false, false] rfl (wb_X10_judge_26 g l _ o hB)
  · refine q_lload_n dX10_judge_12 rfl rfl ?_
    refine q_lconst (v := 0) dX10_judge_13 (by decide) ?_
    refine q_iload_n dX10_judge_14 rfl rfl ?_
    refine q_callSJ (k' := 0) (w' := 0) hB (fun a hf => c_X10_tenThousandTo g l _ _ a hf) rfl dX10_judge_15 wd_1004 cs_X10_tenThousandTo wd_1005 rfl ⟨⟨Nat.le_of_ble_eq_true rfl, Nat.le_of_ble_eq_true rfl⟩, ⟨Nat.le_of_ble_eq_true rfl, Nat.le_of_ble_eq_true rfl⟩, by simp [rf_cat, cat_i, cat_l]⟩ rfl rfl (fun r2 hB => ?_)
    refine q_lconst (v := 1) dX10_judge_18 (by decide) ?_
    refine q_lsub dX10_judge_19 ?_
    refine q_callSI (k' := 0) (w' := 0) hB (fun a hf => c_X10_in g l _ _ _ _ a hf) rfl dX10_judge_20 wd_825 cs_X10_in wd_826 rfl ⟨⟨Nat.le_of_ble_eq_true rfl, Nat.le_of_ble_eq_true rfl⟩, ⟨Nat.le_of_ble_eq_true rfl, Nat.le_of_ble_eq_true rfl⟩, Nat.le_of_ble_eq_true rfl⟩ rfl rfl (fun r3 hB => ?_)
    refine q_if_ne (tgt := 29) hB dX10_judge_23 (by decide) (fun hB => ?_) (fun hB => ?_)
    · refine q_aload_n dX10_judge_29 rfl rfl ?_
      refine q_callVV (k' := 0) (w' := 0) hB (fun b a hf => c_X10_layTrial g l b _ a hf) rfl rfl dX10_judge_30 wd_992 cs_X10_layTrial wd_994 wd_39 rfl ⟨⟨Nat.le_of_ble_eq_true rfl, Nat.le_of_ble_eq_true rfl⟩, ⟨Nat.le_of_ble_eq_true rfl, Nat.le_of_ble_eq_true rfl⟩, Nat.le_of_ble_eq_true rfl⟩ rfl rfl (fun n5 r4 hB => ?_)
      refine q_iconst (v := 0) dX10_judge_33 (by decide) ?_
      refine q_istore dX10_judge_34 (by decide) (nb_n (j := 3) rfl) ?_
      exact Wq.mask [true, true, true, false, true, false] rfl (wl_X10_judge_36 g l o FU _ _ _ _ _ hB)
    · exact Wq.mask [false, false, false, false, false, false] rfl (wb_X10_judge_26 g l _ o hB)

def b_X9_isRowKey_21  (s0 : Int32) (h : HS) : Option (Int32 × HS) :=
  gd (decide (narrow .boolean (.int s0) = .int s0)) (some (s0, h))
def b_X9_isRowKey_16  (h : HS) : Option (Int32 × HS) :=
  b_X9_isRowKey_21 (1 : Int32) h
def b_X9_isRowKey_10  (a0 : Int32) (h : HS) : Option (Int32 × HS) :=
  (if a0 = (99 : Int32) then b_X9_isRowKey_16 h else b_X9_isRowKey_21 (0 : Int32) h)
def f_X9_isRowKey  (a0 : Int32) (h : HS) : Option (Int32 × HS) :=
  (if a0 < 0 then b_X9_isRowKey_10 a0 h else (if a0 ≤ (20 : Int32) then b_X9_isRowKey_16 h else b_X9_isRowKey_10 a0 h))
set_option maxHeartbeats 4000000 in
set_option maxRecDepth 100000 in
theorem wb_X9_isRowKey_21 (g : GG) (l : Launch) (s0 : Int32) (h : HS) (o : Int32 × HS) (hB : b_X9_isRowKey_21 s0 h = some o) : Wq g l mX9_isRowKey 0 0 21 [none] [.int s0] h (QI o) := by
  unfold b_X9_isRowKey_21 at hB
  exact q_zret hB dX9_isRowKey_21 rfl (by decide) (by decide)
set_option maxHeartbeats 4000000 in
set_option maxRecDepth 100000 in
theorem wb_X9_isRowKey_16 (g : GG) (l : Launch) (h : HS) (o : Int32 × HS) (hB : b_X9_isRowKey_16  h = some o) : Wq g l mX9_isRowKey 0 0 16 [none] [] h (QI o) := by
  unfold b_X9_isRowKey_16 at hB
  refine q_iconst (v := 1) dX9_isRowKey_16 (by decide) ?_
  refine q_goto (tgt := 21) dX9_isRowKey_17 (by decide) ?_
  exact Wq.mask [false] rfl (wb_X9_isRowKey_21 g l _ _ o hB)
set_option maxHeartbeats 4000000 in
set_option maxRecDepth 100000 in
theorem wb_X9_isRowKey_10 (g : GG) (l : Launch) (a0 : Int32) (h : HS) (o : Int32 × HS) (hB : b_X9_isRowKey_10 a0 h = some o) : Wq g l mX9_isRowKey 0 0 10 [some (.int a0)] [] h (QI o) := by
  unfold b_X9_isRowKey_10 at hB
  refine q_iload_n dX9_isRowKey_10 rfl rfl ?_
  refine q_bipush (v := 99) dX9_isRowKey_11 (by decide) ?_
  refine q_icmp_ne (tgt := 20) hB dX9_isRowKey_13 (by decide) (fun hB => ?_) (fun hB => ?_)
  · refine q_iconst (v := 0) dX9_isRowKey_20 (by decide) ?_
    exact Wq.mask [false] rfl (wb_X9_isRowKey_21 g l _ _ o hB)
  · exact Wq.mask [false] rfl (wb_X9_isRowKey_16 g l _ o hB)
set_option maxHeartbeats 4000000 in
set_option maxRecDepth 100000 in
theorem c_X9_isRowKey (g : GG) (l : Launch) (a0 : Int32) (h : HS) (o : Int32 × HS) (hB : f_X9_isRowKey a0 h = some o) : Ct g l mX9_isRowKey [.int a0] h (QI o) := by
  refine Ct.of2 (lv0 := [some (.int a0)]) (by decide +kernel) (by simp [lg_sl, rf_cat, cat_i, cat_l]) rfl ?_
  unfold f_X9_isRowKey at hB
  refine q_iload_n dX9_isRowKey_0 rfl rfl ?_
  refine q_if_lt (tgt := 10) hB dX9_isRowKey_1 (by decide) (fun hB => ?_) (fun hB => ?_)
  · exact Wq.mask [true] rfl (wb_X9_isRowKey_10 g l _ _ o hB)
  · refine q_iload_n dX9_isRowKey_4 rfl rfl ?_
    refine q_bipush (v := 20) dX9_isRowKey_5 (by decide) ?_
    refine q_icmp_le (tgt := 16) hB dX9_isRowKey_7 (by decide) (fun hB => ?_) (fun hB => ?_)
    · exact Wq.mask [false] rfl (wb_X9_isRowKey_16 g l _ o hB)
    · exact Wq.mask [true] rfl (wb_X9_isRowKey_10 g l _ _ o hB)

def b_X9_isSeenMeasure_22  (s0 : Int32) (h : HS) : Option (Int32 × HS) :=
  gd (decide (narrow .boolean (.int s0) = .int s0)) (some (s0, h))
def b_X9_isSeenMeasure_17  (h : HS) : Option (Int32 × HS) :=
  b_X9_isSeenMeasure_22 (1 : Int32) h
def b_X9_isSeenMeasure_21  (h : HS) : Option (Int32 × HS) :=
  b_X9_isSeenMeasure_22 (0 : Int32) h
def f_X9_isSeenMeasure  (a0 : Int32) (h : HS) : Option (Int32 × HS) :=
  (if a0 = (-9 : Int32) then b_X9_isSeenMeasure_17 h else (if a0 < 0 then b_X9_isSeenMeasure_21 h else (if (9999 : Int32) < a0 then b_X9_isSeenMeasure_21 h else b_X9_isSeenMeasure_17 h)))
set_option maxHeartbeats 4000000 in
set_option maxRecDepth 100000 in
theorem wb_X9_isSeenMeasure_22 (g : GG) (l : Launch) (s0 : Int32) (h : HS) (o : Int32 × HS) (hB : b_X9_isSeenMeasure_22 s0 h = some o) : Wq g l mX9_isSeenMeasure 0 0 22 [none] [.int s0] h (QI o) := by
  unfold b_X9_isSeenMeasure_22 at hB
  exact q_zret hB dX9_isSeenMeasure_22 rfl (by decide) (by decide)
set_option maxHeartbeats 4000000 in
set_option maxRecDepth 100000 in
theorem wb_X9_isSeenMeasure_17 (g : GG) (l : Launch) (h : HS) (o : Int32 × HS) (hB : b_X9_isSeenMeasure_17  h = some o) : Wq g l mX9_isSeenMeasure 0 0 17 [none] [] h (QI o) := by
  unfold b_X9_isSeenMeasure_17 at hB
  refine q_iconst (v := 1) dX9_isSeenMeasure_17 (by decide) ?_
  refine q_goto (tgt := 22) dX9_isSeenMeasure_18 (by decide) ?_
  exact Wq.mask [false] rfl (wb_X9_isSeenMeasure_22 g l _ _ o hB)
set_option maxHeartbeats 4000000 in
set_option maxRecDepth 100000 in
theorem wb_X9_isSeenMeasure_21 (g : GG) (l : Launch) (h : HS) (o : Int32 × HS) (hB : b_X9_isSeenMeasure_21  h = some o) : Wq g l mX9_isSeenMeasure 0 0 21 [none] [] h (QI o) := by
  unfold b_X9_isSeenMeasure_21 at hB
  refine q_iconst (v := 0) dX9_isSeenMeasure_21 (by decide) ?_
  exact Wq.mask [false] rfl (wb_X9_isSeenMeasure_22 g l _ _ o hB)
set_option maxHeartbeats 4000000 in
set_option maxRecDepth 100000 in
theorem c_X9_isSeenMeasure (g : GG) (l : Launch) (a0 : Int32) (h : HS) (o : Int32 × HS) (hB : f_X9_isSeenMeasure a0 h = some o) : Ct g l mX9_isSeenMeasure [.int a0] h (QI o) := by
  refine Ct.of2 (lv0 := [some (.int a0)]) (by decide +kernel) (by simp [lg_sl, rf_cat, cat_i, cat_l]) rfl ?_
  unfold f_X9_isSeenMeasure at hB
  refine q_iload_n dX9_isSeenMeasure_0 rfl rfl ?_
  refine q_bipush (v := -9) dX9_isSeenMeasure_1 (by decide) ?_
  refine q_icmp_eq (tgt := 17) hB dX9_isSeenMeasure_3 (by decide) (fun hB => ?_) (fun hB => ?_)
  · exact Wq.mask [false] rfl (wb_X9_isSeenMeasure_17 g l _ o hB)
  · refine q_iload_n dX9_isSeenMeasure_6 rfl rfl ?_
    refine q_if_lt (tgt := 21) hB dX9_isSeenMeasure_7 (by decide) (fun hB => ?_) (fun hB => ?_)
    · exact Wq.mask [false] rfl (wb_X9_isSeenMeasure_21 g l _ o hB)
    · refine q_iload_n dX9_isSeenMeasure_10 rfl rfl ?_
      refine q_sipush (v := 9999) dX9_isSeenMeasure_11 (by decide) ?_
      refine q_icmp_gt (tgt := 21) hB dX9_isSeenMeasure_14 (by decide) (fun hB => ?_) (fun hB => ?_)
      · exact Wq.mask [false] rfl (wb_X9_isSeenMeasure_21 g l _ o hB)
      · exact Wq.mask [false] rfl (wb_X9_isSeenMeasure_17 g l _ o hB)

def b_X8_put_61  (a4 : Int32) (h : HS) : Option (Int32 × HS) :=
  gd (decide (narrow .boolean (.int a4) = .int a4)) (some (a4, h))
def b_X8_put_14  (a0 : Nat) (a1 : Int32) (a2 : Int32) (a3 : Int32) (s0 : Int32) (h : HS) : Option (Int32 × HS) :=
  (if s0 = 0 then b_X8_put_61 s0 h else nn (some a0) (fun n1 => gd (ck h n1 6) (nn (some a0) (fun n2 => gd (ck h n2 6) (nn (hP h n1 0) (fun n3 => gd (ca h n3 9 (hI h n2 3)) (hl (sI h n3 (hI h n2 3).toNatClampNeg a1) (fun h4 => nn (some a0) (fun n5 => gd (ck h4 n5 6) (nn (some a0) (fun n6 => gd (ck h4 n6 6) (nn (hP h4 n5 1) (fun n7 => gd (ca h4 n7 9 (hI h4 n6 3)) (hl (sI h4 n7 (hI h4 n6 3).toNatClampNeg a2) (fun h8 => nn (some a0) (fun n9 => gd (ck h8 n9 6) (nn (some a0) (fun n10 => gd (ck h8 n10 6) (nn (hP h8 n9 2) (fun n11 => gd (ca h8 n11 10 (hI h8 n10 3)) (hl (sI h8 n11 (hI h8 n10 3).toNatClampNeg (a3 &&& 1)) (fun h12 => nn (some a0) (fun n13 => gd (ck h12 n13 6) (nn (some a0) (fun n14 => gd (ck h12 n14 6) (hl (sI h12 n14 3 ((hI h12 n13 3) + (1 : Int32))) (fun h15 => b_X8_put_61 s0 h15)))))))))))))))))))))))))))
def f_X8_put  (a0 : Nat) (a1 : Int32) (a2 : Int32) (a3 : Int32) (h : HS) : Option (Int32 × HS) :=
  nn (some a0) (fun n1 => gd (ck h n1 6) ((if (6 : Int32) ≤ (hI h n1 3) then b_X8_put_14 a0 a1 a2 a3 (0 : Int32) h else b_X8_put_14 a0 a1 a2 a3 (1 : Int32) h)))
set_option maxHeartbeats 4000000 in
set_option maxRecDepth 100000 in
theorem wb_X8_put_61 (g : GG) (l : Launch) (a4 : Int32) (h : HS) (o : Int32 × HS) (hB : b_X8_put_61 a4 h = some o) : Wq g l mX8_put 0 0 61 [none, none, none, none, some (.int a4)] [] h (QI o) := by
  unfold b_X8_put_61 at hB
  refine q_iload dX8_put_61 rfl ?_
  exact q_zret hB dX8_put_63 rfl (by decide) (by decide)
set_option maxHeartbeats 4000000 in
set_option maxRecDepth 100000 in
theorem wb_X8_put_14 (g : GG) (l : Launch) (a0 : Nat) (a1 : Int32) (a2 : Int32) (a3 : Int32) (s0 : Int32) (h : HS) (o : Int32 × HS) (hB : b_X8_put_14 a0 a1 a2 a3 s0 h = some o) : Wq g l mX8_put 0 0 14 [some (va_rf (some a0)), some (.int a1), some (.int a2), some (.int a3), none] [.int s0] h (QI o) := by
  unfold b_X8_put_14 at hB
  refine q_istore dX8_put_14 (by decide) (nb_i (j := 3) rfl) ?_
  refine q_iload dX8_put_16 rfl ?_
  refine q_if_eq (tgt := 61) hB dX8_put_18 (by decide) (fun hB => ?_) (fun hB => ?_)
  · exact Wq.mask [false, false, false, false, true] rfl (wb_X8_put_61 g l _ _ o hB)
  · refine q_aload_n dX8_put_21 rfl rfl ?_
    refine q_getP (j := 0) hB dX8_put_22 fc_6 (by decide) rfl wd_221 (fun n1 hB => ?_)
    refine q_aload_n dX8_put_25 rfl rfl ?_
    refine q_getI (j := 3) hB dX8_put_26 fc_6 (by decide) rfl wd_227 (fun n2 hB => ?_)
    refine q_iload_n dX8_put_29 rfl rfl ?_
    refine q_iast hB dX8_put_30 (fun n3 hB => ?_)
    refine q_nm hB (fun h4 hB => ?_)
    refine q_aload_n dX8_put_31 rfl rfl ?_
    refine q_getP (j := 1) hB dX8_put_32 fc_6 (by decide) rfl wd_223 (fun n5 hB => ?_)
    refine q_aload_n dX8_put_35 rfl rfl ?_
    refine q_getI (j := 3) hB dX8_put_36 fc_6 (by decide) rfl wd_227 (fun n6 hB => ?_)
    refine q_iload_n dX8_put_39 rfl rfl ?_
    refine q_iast hB dX8_put_40 (fun n7 hB => ?_)
    refine q_nm hB (fun h8 hB => ?_)
    refine q_aload_n dX8_put_41 rfl rfl ?_
    refine q_getP (j := 2) hB dX8_put_42 fc_6 (by decide) rfl wd_225 (fun n9 hB => ?_)
    refine q_aload_n dX8_put_45 rfl rfl ?_
    refine q_getI (j := 3) hB dX8_put_46 fc_6 (by decide) rfl wd_227 (fun n10 hB => ?_)
    refine q_iload_n dX8_put_49 rfl rfl ?_
    refine q_zast hB dX8_put_50 (fun n11 hB => ?_)
    refine q_nm hB (fun h12 hB => ?_)
    refine q_aload_n dX8_put_51 rfl rfl ?_
    refine q_dup dX8_put_52 (rf_cat _) ?_
    refine q_getI (j := 3) hB dX8_put_53 fc_6 (by decide) rfl wd_227 (fun n13 hB => ?_)
    refine q_iconst (v := 1) dX8_put_56 (by decide) ?_
    refine q_iadd dX8_put_57 ?_
    refine q_putI (j := 3) hB dX8_put_58 fc_6 (by decide) rfl wd_227 rfl (fun n14 hB => ?_)
    refine q_nm hB (fun h15 hB => ?_)
    exact Wq.mask [false, false, false, false, true] rfl (wb_X8_put_61 g l _ _ o hB)
set_option maxHeartbeats 4000000 in
set_option maxRecDepth 100000 in
theorem c_X8_put (g : GG) (l : Launch) (a0 : Nat) (a1 : Int32) (a2 : Int32) (a3 : Int32) (h : HS) (o : Int32 × HS) (hB : f_X8_put a0 a1 a2 a3 h = some o) : Ct g l mX8_put [va_rf (some a0), .int a1, .int a2, .int a3] h (QI o) := by
  refine Ct.of2 (lv0 := [some (va_rf (some a0)), some (.int a1), some (.int a2), some (.int a3), none]) (by decide +kernel) (by simp [lg_sl, rf_cat, cat_i, cat_l]) rfl ?_
  unfold f_X8_put at hB
  refine q_aload_n dX8_put_0 rfl rfl ?_
  refine q_getI (j := 3) hB dX8_put_1 fc_6 (by decide) rfl wd_227 (fun n1 hB => ?_)
  refine q_bipush (v := 6) dX8_put_4 (by decide) ?_
  refine q_icmp_ge (tgt := 13) hB dX8_put_6 (by decide) (fun hB => ?_) (fun hB => ?_)
  · refine q_iconst (v := 0) dX8_put_13 (by decide) ?_
    exact Wq.mask [true, true, true, true, false] rfl (wb_X8_put_14 g l _ _ _ _ _ _ o hB)
  · refine q_iconst (v := 1) dX8_put_9 (by decide) ?_
    refine q_goto (tgt := 14) dX8_put_10 (by decide) ?_
    exact Wq.mask [true, true, true, true, false] rfl (wb_X8_put_14 g l _ _ _ _ _ _ o hB)

def b_X9_see_21  (h : HS) : Option (Int32 × HS) :=
  some ((-2 : Int32), h)
def b_X9_see_58  (s0 : Int32) (h : HS) : Option (Int32 × HS) :=
  some (s0, h)
def b_X9_see_40  (a0 : Nat) (s0 : Option Nat) (s1 : Int32) (s2 : Int32) (s3 : Int32) (h : HS) : Option (Int32 × HS) :=
  nn s0 (fun n2 => gd (rk h n2 6) (bd (f_X8_put n2 s1 s2 s3 h) (fun r1 => (if r1.1 = 0 then b_X9_see_58 (-4 : Int32) r1.2 else nn (some a0) (fun n3 => gd (ck r1.2 n3 7) (nn (hP r1.2 n3 8) (fun n4 => gd (ck r1.2 n4 6) (b_X9_see_58 (hI r1.2 n4 3) r1.2))))))))
def f_X9_see  (a0 : Nat) (a1 : Int32) (a2 : Int32) (a3 : Int32) (h : HS) : Option (Int32 × HS) :=
  bd (f_X9_isRowKey a1 h) (fun r1 => (if r1.1 = 0 then b_X9_see_21 r1.2 else bd (f_X9_isSeenMeasure a2 r1.2) (fun r2 => (if r2.1 = 0 then b_X9_see_21 r2.2 else bd (f_X9_isOneOfTwo a3 r2.2) (fun r3 => (if r3.1 = 0 then b_X9_see_21 r3.2 else nn (some a0) (fun n4 => gd (ck r3.2 n4 7) ((if a3 = (1 : Int32) then b_X9_see_40 a0 (hP r3.2 n4 8) a1 a2 (1 : Int32) r3.2 else b_X9_see_40 a0 (hP r3.2 n4 8) a1 a2 (0 : Int32) r3.2)))))))))
set_option maxHeartbeats 4000000 in
set_option maxRecDepth 100000 in
theorem wb_X9_see_21 (g : GG) (l : Launch) (h : HS) (o : Int32 × HS) (hB : b_X9_see_21  h = some o) : Wq g l mX9_see 0 0 21 [none, none, none, none] [] h (QI o) := by
  unfold b_X9_see_21 at hB
  refine q_bipush (v := -2) dX9_see_21 (by decide) ?_
  exact q_iret hB dX9_see_23 rfl (by decide) (by decide)
set_option maxHeartbeats 4000000 in
set_option maxRecDepth 100000 in
theorem wb_X9_see_58 (g : GG) (l : Launch) (s0 : Int32) (h : HS) (o : Int32 × HS) (hB : b_X9_see_58 s0 h = some o) : Wq g l mX9_see 0 0 58 [none, none, none, none] [.int s0] h (QI o) := by
  unfold b_X9_see_58 at hB
  exact q_iret hB dX9_see_58 rfl (by decide) (by decide)
set_option maxHeartbeats 4000000 in
set_option maxRecDepth 100000 in
theorem wb_X9_see_40 (g : GG) (l : Launch) (a0 : Nat) (s0 : Option Nat) (s1 : Int32) (s2 : Int32) (s3 : Int32) (h : HS) (o : Int32 × HS) (hB : b_X9_see_40 a0 s0 s1 s2 s3 h = some o) : Wq g l mX9_see 0 0 40 [some (va_rf (some a0)), none, none, none] [.int s3, .int s2, .int s1, va_rf s0] h (QI o) := by
  unfold b_X9_see_40 at hB
  refine q_callVI (k' := 0) (w' := 0) hB (fun b a hf => c_X8_put g l b _ _ _ _ a hf) rfl rfl dX9_see_40 wd_636 cs_X8_put wd_637 wd_638 rfl ⟨⟨Nat.le_of_ble_eq_true rfl, Nat.le_of_ble_eq_true rfl⟩, ⟨Nat.le_of_ble_eq_true rfl, Nat.le_of_ble_eq_true rfl⟩, Nat.le_of_ble_eq_true rfl⟩ rfl rfl (fun n2 r1 hB => ?_)
  refine q_if_eq (tgt := 56) hB dX9_see_43 (by decide) (fun hB => ?_) (fun hB => ?_)
  · refine q_bipush (v := -4) dX9_see_56 (by decide) ?_
    exact Wq.mask [false, false, false, false] rfl (wb_X9_see_58 g l _ _ o hB)
  · refine q_aload_n dX9_see_46 rfl rfl ?_
    refine q_getP (j := 8) hB dX9_see_47 fc_7 (by decide) rfl wd_248 (fun n3 hB => ?_)
    refine q_getI (j := 3) hB dX9_see_50 fc_6 (by decide) rfl wd_228 (fun n4 hB => ?_)
    refine q_goto (tgt := 58) dX9_see_53 (by decide) ?_
    exact Wq.mask [false, false, false, false] rfl (wb_X9_see_58 g l _ _ o hB)
set_option maxHeartbeats 4000000 in
set_option maxRecDepth 100000 in
theorem c_X9_see (g : GG) (l : Launch) (a0 : Nat) (a1 : Int32) (a2 : Int32) (a3 : Int32) (h : HS) (o : Int32 × HS) (hB : f_X9_see a0 a1 a2 a3 h = some o) : Ct g l mX9_see [va_rf (some a0), .int a1, .int a2, .int a3] h (QI o) := by
  refine Ct.of2 (lv0 := [some (va_rf (some a0)), some (.int a1), some (.int a2), some (.int a3)]) (by decide +kernel) (by simp [lg_sl, rf_cat, cat_i, cat_l]) rfl ?_
  unfold f_X9_see at hB
  refine q_iload_n dX9_see_0 rfl rfl ?_
  refine q_callSI (k' := 0) (w' := 0) hB (fun a hf => c_X9_isRowKey g l _ _ a hf) rfl dX9_see_1 wd_630 cs_X9_isRowKey wd_631 rfl ⟨⟨Nat.le_of_ble_eq_true rfl, Nat.le_of_ble_eq_true rfl⟩, ⟨Nat.le_of_ble_eq_true rfl, Nat.le_of_ble_eq_true rfl⟩, Nat.le_of_ble_eq_true rfl⟩ rfl rfl (fun r1 hB => ?_)
  refine q_if_eq (tgt := 21) hB dX9_see_4 (by decide) (fun hB => ?_) (fun hB => ?_)
  · exact Wq.mask [false, false, false, false] rfl (wb_X9_see_21 g l _ o hB)
  · refine q_iload_n dX9_see_7 rfl rfl ?_
    refine q_callSI (k' := 0) (w' := 0) hB (fun a hf => c_X9_isSeenMeasure g l _ _ a hf) rfl dX9_see_8 wd_633 cs_X9_isSeenMeasure wd_634 rfl ⟨⟨Nat.le_of_ble_eq_true rfl, Nat.le_of_ble_eq_true rfl⟩, ⟨Nat.le_of_ble_eq_true rfl, Nat.le_of_ble_eq_true rfl⟩, Nat.le_of_ble_eq_true rfl⟩ rfl rfl (fun r2 hB => ?_)
    refine q_if_eq (tgt := 21) hB dX9_see_11 (by decide) (fun hB => ?_) (fun hB => ?_)
    · exact Wq.mask [false, false, false, false] rfl (wb_X9_see_21 g l _ o hB)
    · refine q_iload_n dX9_see_14 rfl rfl ?_
      refine q_callSI (k' := 0) (w' := 0) hB (fun a hf => c_X9_isOneOfTwo g l _ _ a hf) rfl dX9_see_15 wd_544 cs_X9_isOneOfTwo wd_545 rfl ⟨⟨Nat.le_of_ble_eq_true rfl, Nat.le_of_ble_eq_true rfl⟩, ⟨Nat.le_of_ble_eq_true rfl, Nat.le_of_ble_eq_true rfl⟩, Nat.le_of_ble_eq_true rfl⟩ rfl rfl (fun r3 hB => ?_)
      refine q_if_ne (tgt := 24) hB dX9_see_18 (by decide) (fun hB => ?_) (fun hB => ?_)
      · refine q_aload_n dX9_see_24 rfl rfl ?_
        refine q_getP (j := 8) hB dX9_see_25 fc_7 (by decide) rfl wd_248 (fun n4 hB => ?_)
        refine q_iload_n dX9_see_28 rfl rfl ?_
        refine q_iload_n dX9_see_29 rfl rfl ?_
        refine q_iload_n dX9_see_30 rfl rfl ?_
        refine q_iconst (v := 1) dX9_see_31 (by decide) ?_
        refine q_icmp_ne (tgt := 39) hB dX9_see_32 (by decide) (fun hB => ?_) (fun hB => ?_)
        · refine q_iconst (v := 0) dX9_see_39 (by decide) ?_
          exact Wq.mask [true, false, false, false] rfl (wb_X9_see_40 g l _ _ _ _ _ _ o hB)
        · refine q_iconst (v := 1) dX9_see_35 (by decide) ?_
          refine q_goto (tgt := 40) dX9_see_36 (by decide) ?_
          exact Wq.mask [true, false, false, false] rfl (wb_X9_see_40 g l _ _ _ _ _ _ o hB)
      · exact Wq.mask [false, false, false, false] rfl (wb_X9_see_21 g l _ o hB)

def b_X10_see_51  (a0 : Nat) (a1 : Int32) (a2 : Int32) (a3 : Int32) (s0 : Int32) (h : HS) : Option (Int32 × HS) :=
  (if s0 = 0 then some ((-2 : Int32), h) else nn (some a0) (fun n1 => gd (ck h n1 8) ((if (hI h n1 23) = (6 : Int32) then some ((-4 : Int32), h) else nn (some a0) (fun n2 => gd (ck h n2 8) (nn (some a0) (fun n3 => gd (ck h n3 8) (nn (hP h n2 24) (fun n4 => gd (ca h n4 9 (hI h n3 23)) (hl (sI h n4 (hI h n3 23).toNatClampNeg a1) (fun h5 => nn (some a0) (fun n6 => gd (ck h5 n6 8) (nn (some a0) (fun n7 => gd (ck h5 n7 8) (nn (hP h5 n6 25) (fun n8 => gd (ca h5 n8 9 (hI h5 n7 23)) (hl (sI h5 n8 (hI h5 n7 23).toNatClampNeg a2) (fun h9 => nn (some a0) (fun n10 => gd (ck h9 n10 8) (nn (some a0) (fun n11 => gd (ck h9 n11 8) (nn (hP h9 n10 26) (fun n12 => gd (ca h9 n12 9 (hI h9 n11 23)) (hl (sI h9 n12 (hI h9 n11 23).toNatClampNeg a3) (fun h13 => nn (some a0) (fun n14 => gd (ck h13 n14 8) (nn (some a0) (fun n15 => gd (ck h13 n15 8) (hl (sI h13 n15 23 ((hI h13 n14 23) + (1 : Int32))) (fun h16 => nn (some a0) (fun n17 => gd (ck h16 n17 8) (some ((hI h16 n17 23), h16)))))))))))))))))))))))))))))))))
def b_X10_see_50  (a0 : Nat) (a1 : Int32) (a2 : Int32) (a3 : Int32) (h : HS) : Option (Int32 × HS) :=
  b_X10_see_51 a0 a1 a2 a3 (0 : Int32) h
def b_X10_see_36  (a0 : Nat) (a1 : Int32) (a2 : Int32) (a3 : Int32) (h : HS) : Option (Int32 × HS) :=
  bd (f_X10_in a3.toInt64 (0 : Int64) (1 : Int64) h) (fun r1 => (if r1.1 = 0 then b_X10_see_50 a0 a1 a2 a3 r1.2 else b_X10_see_51 a0 a1 a2 a3 (1 : Int32) r1.2))
def b_X10_see_18  (a0 : Nat) (a1 : Int32) (a2 : Int32) (a3 : Int32) (h : HS) : Option (Int32 × HS) :=
  (if a2 = (-9 : Int32) then b_X10_see_36 a0 a1 a2 a3 h else bd (f_X10_in a2.toInt64 (0 : Int64) (9999 : Int64) h) (fun r1 => (if r1.1 = 0 then b_X10_see_50 a0 a1 a2 a3 r1.2 else b_X10_see_36 a0 a1 a2 a3 r1.2)))
def f_X10_see  (a0 : Nat) (a1 : Int32) (a2 : Int32) (a3 : Int32) (h : HS) : Option (Int32 × HS) :=
  bd (f_X10_in a1.toInt64 (0 : Int64) (20 : Int64) h) (fun r1 => (if r1.1 = 0 then (if a1 = (99 : Int32) then b_X10_see_18 a0 a1 a2 a3 r1.2 else b_X10_see_50 a0 a1 a2 a3 r1.2) else b_X10_see_18 a0 a1 a2 a3 r1.2))
set_option maxHeartbeats 4000000 in
set_option maxRecDepth 100000 in
theorem wb_X10_see_51 (g : GG) (l : Launch) (a0 : Nat) (a1 : Int32) (a2 : Int32) (a3 : Int32) (s0 : Int32) (h : HS) (o : Int32 × HS) (hB : b_X10_see_51 a0 a1 a2 a3 s0 h = some o) : Wq g l mX10_see 0 0 51 [some (va_rf (some a0)), some (.int a1), some (.int a2), some (.int a3), none] [.int s0] h (QI o) := by
  unfold b_X10_see_51 at hB
  refine q_istore dX10_see_51 (by decide) (nb_i (j := 3) rfl) ?_
  refine q_iload dX10_see_53 rfl ?_
  refine q_if_ne (tgt := 61) hB dX10_see_55 (by decide) (fun hB => ?_) (fun hB => ?_)
  · refine q_aload_n dX10_see_61 rfl rfl ?_
    refine q_getI (j := 23) hB dX10_see_62 fc_8 (by decide) rfl wd_752 (fun n1 hB => ?_)
    refine q_bipush (v := 6) dX10_see_65 (by decide) ?_
    refine q_icmp_ne (tgt := 73) hB dX10_see_67 (by decide) (fun hB => ?_) (fun hB => ?_)
    · refine q_aload_n dX10_see_73 rfl rfl ?_
      refine q_getP (j := 24) hB dX10_see_74 fc_8 (by decide) rfl wd_753 (fun n2 hB => ?_)
      refine q_aload_n dX10_see_77 rfl rfl ?_
      refine q_getI (j := 23) hB dX10_see_78 fc_8 (by decide) rfl wd_752 (fun n3 hB => ?_)
      refine q_iload_n dX10_see_81 rfl rfl ?_
      refine q_iast hB dX10_see_82 (fun n4 hB => ?_)
      refine q_nm hB (fun h5 hB => ?_)
      refine q_aload_n dX10_see_83 rfl rfl ?_
      refine q_getP (j := 25) hB dX10_see_84 fc_8 (by decide) rfl wd_754 (fun n6 hB => ?_)
      refine q_aload_n dX10_see_87 rfl rfl ?_
      refine q_getI (j := 23) hB dX10_see_88 fc_8 (by decide) rfl wd_752 (fun n7 hB => ?_)
      refine q_iload_n dX10_see_91 rfl rfl ?_
      refine q_iast hB dX10_see_92 (fun n8 hB => ?_)
      refine q_nm hB (fun h9 hB => ?_)
      refine q_aload_n dX10_see_93 rfl rfl ?_
      refine q_getP (j := 26) hB dX10_see_94 fc_8 (by decide) rfl wd_755 (fun n10 hB => ?_)
      refine q_aload_n dX10_see_97 rfl rfl ?_
      refine q_getI (j := 23) hB dX10_see_98 fc_8 (by decide) rfl wd_752 (fun n11 hB => ?_)
      refine q_iload_n dX10_see_101 rfl rfl ?_
      refine q_iast hB dX10_see_102 (fun n12 hB => ?_)
      refine q_nm hB (fun h13 hB => ?_)
      refine q_aload_n dX10_see_103 rfl rfl ?_
      refine q_dup dX10_see_104 (rf_cat _) ?_
      refine q_getI (j := 23) hB dX10_see_105 fc_8 (by decide) rfl wd_752 (fun n14 hB => ?_)
      refine q_iconst (v := 1) dX10_see_108 (by decide) ?_
      refine q_iadd dX10_see_109 ?_
      refine q_putI (j := 23) hB dX10_see_110 fc_8 (by decide) rfl wd_752 rfl (fun n15 hB => ?_)
      refine q_nm hB (fun h16 hB => ?_)
      refine q_aload_n dX10_see_113 rfl rfl ?_
      refine q_getI (j := 23) hB dX10_see_114 fc_8 (by decide) rfl wd_752 (fun n17 hB => ?_)
      exact q_iret hB dX10_see_117 rfl (by decide) (by decide)
    · refine q_bipush (v := -4) dX10_see_70 (by decide) ?_
      exact q_iret hB dX10_see_72 rfl (by decide) (by decide)
  · refine q_bipush (v := -2) dX10_see_58 (by decide) ?_
    exact q_iret hB dX10_see_60 rfl (by decide) (by decide)
set_option maxHeartbeats 4000000 in
set_option maxRecDepth 100000 in
theorem wb_X10_see_50 (g : GG) (l : Launch) (a0 : Nat) (a1 : Int32) (a2 : Int32) (a3 : Int32) (h : HS) (o : Int32 × HS) (hB : b_X10_see_50 a0 a1 a2 a3 h = some o) : Wq g l mX10_see 0 0 50 [some (va_rf (some a0)), some (.int a1), some (.int a2), some (.int a3), none] [] h (QI o) := by
  unfold b_X10_see_50 at hB
  refine q_iconst (v := 0) dX10_see_50 (by decide) ?_
  exact Wq.mask [true, true, true, true, false] rfl (wb_X10_see_51 g l _ _ _ _ _ _ o hB)
set_option maxHeartbeats 4000000 in
set_option maxRecDepth 100000 in
theorem wb_X10_see_36 (g : GG) (l : Launch) (a0 : Nat) (a1 : Int32) (a2 : Int32) (a3 : Int32) (h : HS) (o : Int32 × HS) (hB : b_X10_see_36 a0 a1 a2 a3 h = some o) : Wq g l mX10_see 0 0 36 [some (va_rf (some a0)), some (.int a1), some (.int a2), some (.int a3), none] [] h (QI o) := by
  unfold b_X10_see_36 at hB
  refine q_iload_n dX10_see_36 rfl rfl ?_
  refine q_i2l dX10_see_37 ?_
  refine q_lconst (v := 0) dX10_see_38 (by decide) ?_
  refine q_lconst (v := 1) dX10_see_39 (by decide) ?_
  refine q_callSI (k' := 0) (w' := 0) hB (fun a hf => c_X10_in g l _ _ _ _ a hf) rfl dX10_see_40 wd_825 cs_X10_in wd_826 rfl ⟨⟨Nat.le_of_ble_eq_true rfl, Nat.le_of_ble_eq_true rfl⟩, ⟨Nat.le_of_ble_eq_true rfl, Nat.le_of_ble_eq_true rfl⟩, Nat.le_of_ble_eq_true rfl⟩ rfl rfl (fun r1 hB => ?_)
  refine q_if_eq (tgt := 50) hB dX10_see_43 (by decide) (fun hB => ?_) (fun hB => ?_)
  · exact Wq.mask [true, true, true, true, false] rfl (wb_X10_see_50 g l _ _ _ _ _ o hB)
  · refine q_iconst (v := 1) dX10_see_46 (by decide) ?_
    refine q_goto (tgt := 51) dX10_see_47 (by decide) ?_
    exact Wq.mask [true, true, true, true, false] rfl (wb_X10_see_51 g l _ _ _ _ _ _ o hB)
set_option maxHeartbeats 4000000 in
set_option maxRecDepth 100000 in
theorem wb_X10_see_18 (g : GG) (l : Launch) (a0 : Nat) (a1 : Int32) (a2 : Int32) (a3 : Int32) (h : HS) (o : Int32 × HS) (hB : b_X10_see_18 a0 a1 a2 a3 h = some o) : Wq g l mX10_see 0 0 18 [some (va_rf (some a0)), some (.int a1), some (.int a2), some (.int a3), none] [] h (QI o) := by
  unfold b_X10_see_18 at hB
  refine q_iload_n dX10_see_18 rfl rfl ?_
  refine q_bipush (v := -9) dX10_see_19 (by decide) ?_
  refine q_icmp_eq (tgt := 36) hB dX10_see_21 (by decide) (fun hB => ?_) (fun hB => ?_)
  · exact Wq.mask [true, true, true, true, false] rfl (wb_X10_see_36 g l _ _ _ _ _ o hB)
  · refine q_iload_n dX10_see_24 rfl rfl ?_
    refine q_i2l dX10_see_25 ?_
    refine q_lconst (v := 0) dX10_see_26 (by decide) ?_
    refine q_ldc2 dX10_see_27 wd_1017 ?_
    refine q_callSI (k' := 0) (w' := 0) hB (fun a hf => c_X10_in g l _ _ _ _ a hf) rfl dX10_see_30 wd_825 cs_X10_in wd_826 rfl ⟨⟨Nat.le_of_ble_eq_true rfl, Nat.le_of_ble_eq_true rfl⟩, ⟨Nat.le_of_ble_eq_true rfl, Nat.le_of_ble_eq_true rfl⟩, Nat.le_of_ble_eq_true rfl⟩ rfl rfl (fun r1 hB => ?_)
    refine q_if_eq (tgt := 50) hB dX10_see_33 (by decide) (fun hB => ?_) (fun hB => ?_)
    · exact Wq.mask [true, true, true, true, false] rfl (wb_X10_see_50 g l _ _ _ _ _ o hB)
    · exact Wq.mask [true, true, true, true, false] rfl (wb_X10_see_36 g l _ _ _ _ _ o hB)
set_option maxHeartbeats 4000000 in
set_option maxRecDepth 100000 in
theorem c_X10_see (g : GG) (l : Launch) (a0 : Nat) (a1 : Int32) (a2 : Int32) (a3 : Int32) (h : HS) (o : Int32 × HS) (hB : f_X10_see a0 a1 a2 a3 h = some o) : Ct g l mX10_see [va_rf (some a0), .int a1, .int a2, .int a3] h (QI o) := by
  refine Ct.of2 (lv0 := [some (va_rf (some a0)), some (.int a1), some (.int a2), some (.int a3), none]) (by decide +kernel) (by simp [lg_sl, rf_cat, cat_i, cat_l]) rfl ?_
  unfold f_X10_see at hB
  refine q_iload_n dX10_see_0 rfl rfl ?_
  refine q_i2l dX10_see_1 ?_
  refine q_lconst (v := 0) dX10_see_2 (by decide) ?_
  refine q_ldc2 dX10_see_3 wd_1016 ?_
  refine q_callSI (k' := 0) (w' := 0) hB (fun a hf => c_X10_in g l _ _ _ _ a hf) rfl dX10_see_6 wd_825 cs_X10_in wd_826 rfl ⟨⟨Nat.le_of_ble_eq_true rfl, Nat.le_of_ble_eq_true rfl⟩, ⟨Nat.le_of_ble_eq_true rfl, Nat.le_of_ble_eq_true rfl⟩, Nat.le_of_ble_eq_true rfl⟩ rfl rfl (fun r1 hB => ?_)
  refine q_if_ne (tgt := 18) hB dX10_see_9 (by decide) (fun hB => ?_) (fun hB => ?_)
  · exact Wq.mask [true, true, true, true, false] rfl (wb_X10_see_18 g l _ _ _ _ _ o hB)
  · refine q_iload_n dX10_see_12 rfl rfl ?_
    refine q_bipush (v := 99) dX10_see_13 (by decide) ?_
    refine q_icmp_ne (tgt := 50) hB dX10_see_15 (by decide) (fun hB => ?_) (fun hB => ?_)
    · exact Wq.mask [true, true, true, true, false] rfl (wb_X10_see_50 g l _ _ _ _ _ o hB)
    · exact Wq.mask [true, true, true, true, false] rfl (wb_X10_see_18 g l _ _ _ _ _ o hB)

def f_X9_unsee  (a0 : Nat) (h : HS) : Option (Int32 × HS) :=
  nn (some a0) (fun n1 => gd (ck h n1 7) (nn (hP h n1 8) (fun n2 => gd (ck h n2 6) (nn (some a0) (fun n3 => gd (ck h n3 7) (nn (hP h n3 8) (fun n4 => gd (ck h n4 6) (some ((hI h n2 3), (sI h n4 3 (0 : Int32)))))))))))
set_option maxHeartbeats 4000000 in
set_option maxRecDepth 100000 in
theorem c_X9_unsee (g : GG) (l : Launch) (a0 : Nat) (h : HS) (o : Int32 × HS) (hB : f_X9_unsee a0 h = some o) : Ct g l mX9_unsee [va_rf (some a0)] h (QI o) := by
  refine Ct.of2 (lv0 := [some (va_rf (some a0)), none]) (by decide +kernel) (by simp [lg_sl, rf_cat, cat_i, cat_l]) rfl ?_
  unfold f_X9_unsee at hB
  refine q_aload_n dX9_unsee_0 rfl rfl ?_
  refine q_getP (j := 8) hB dX9_unsee_1 fc_7 (by decide) rfl wd_248 (fun n1 hB => ?_)
  refine q_getI (j := 3) hB dX9_unsee_4 fc_6 (by decide) rfl wd_228 (fun n2 hB => ?_)
  refine q_istore_n dX9_unsee_7 rfl (by decide) (nb_r (j := 0) rfl) ?_
  refine q_aload_n dX9_unsee_8 rfl rfl ?_
  refine q_getP (j := 8) hB dX9_unsee_9 fc_7 (by decide) rfl wd_248 (fun n3 hB => ?_)
  refine q_iconst (v := 0) dX9_unsee_12 (by decide) ?_
  refine q_putI (j := 3) hB dX9_unsee_13 fc_6 (by decide) rfl wd_228 rfl (fun n4 hB => ?_)
  refine q_iload_n dX9_unsee_16 rfl rfl ?_
  exact q_iret hB dX9_unsee_17 rfl (by decide) (by decide)

def f_X10_unsee  (a0 : Nat) (h : HS) : Option (Int32 × HS) :=
  nn (some a0) (fun n1 => gd (ck h n1 8) (nn (some a0) (fun n2 => gd (ck h n2 8) (some ((hI h n1 23), (sI h n2 23 (0 : Int32)))))))
set_option maxHeartbeats 4000000 in
set_option maxRecDepth 100000 in
theorem c_X10_unsee (g : GG) (l : Launch) (a0 : Nat) (h : HS) (o : Int32 × HS) (hB : f_X10_unsee a0 h = some o) : Ct g l mX10_unsee [va_rf (some a0)] h (QI o) := by
  refine Ct.of2 (lv0 := [some (va_rf (some a0)), none]) (by decide +kernel) (by simp [lg_sl, rf_cat, cat_i, cat_l]) rfl ?_
  unfold f_X10_unsee at hB
  refine q_aload_n dX10_unsee_0 rfl rfl ?_
  refine q_getI (j := 23) hB dX10_unsee_1 fc_8 (by decide) rfl wd_752 (fun n1 hB => ?_)
  refine q_istore_n dX10_unsee_4 rfl (by decide) (nb_r (j := 0) rfl) ?_
  refine q_aload_n dX10_unsee_5 rfl rfl ?_
  refine q_iconst (v := 0) dX10_unsee_6 (by decide) ?_
  refine q_putI (j := 23) hB dX10_unsee_7 fc_8 (by decide) rfl wd_752 rfl (fun n2 hB => ?_)
  refine q_iload_n dX10_unsee_10 rfl rfl ?_
  exact q_iret hB dX10_unsee_11 rfl (by decide) (by decide)

def b_X9_isAllSeenSo_87  (k34 : Nat → Option Nat → Int32 → HS → Option (Int32 × HS)) (a0 : Nat) (a4 : Option Nat) (a5 : Int32) (s0 : Int32) (h : HS) : Option (Int32 × HS) :=
  nn (some a0) (fun n1 => gd (ck h n1 7) (nn (hP h n1 8) (fun n2 => gd (ck h n2 6) (nn (hP h n2 2) (fun n3 => gd (ca h n3 10 a5) ((if s0 = (hI h n3 a5.toNatClampNeg) then k34 a0 a4 (a5 + (1 : Int32)) h else gd (decide (narrow .boolean (.int (0 : Int32)) = .int (0 : Int32))) (some ((0 : Int32), h)))))))))
def b_X9_isAllSeenSo_34  (k34 : Nat → Option Nat → Int32 → HS → Option (Int32 × HS)) (a0 : Nat) (a4 : Option Nat) (a5 : Int32) (h : HS) : Option (Int32 × HS) :=
  nn (some a0) (fun n1 => gd (ck h n1 7) (nn (hP h n1 8) (fun n2 => gd (ck h n2 6) ((if (hI h n2 3) ≤ a5 then gd (decide (narrow .boolean (.int (1 : Int32)) = .int (1 : Int32))) (some ((1 : Int32), h)) else nn (some a0) (fun n3 => gd (ck h n3 7) (nn (some a0) (fun n4 => gd (ck h n4 7) (nn (hP h n4 8) (fun n5 => gd (ck h n5 6) (nn (hP h n5 0) (fun n6 => gd (ca h n6 9 a5) (nn a4 (fun n8 => gd (rk h n8 2) (bd (f_X2_setOf n8 (hI h n6 a5.toNatClampNeg) h) (fun r7 => nn (some a0) (fun n10 => gd (rk r7.2 n10 7) (bd (f_X9_measureOf n10 (hP h n3 4) r7.1 r7.2) (fun r9 => nn (some a0) (fun n11 => gd (ck r9.2 n11 7) (nn (hP r9.2 n11 8) (fun n12 => gd (ck r9.2 n12 6) (nn (hP r9.2 n12 1) (fun n13 => gd (ca r9.2 n13 9 a5) ((if r9.1 = (hI r9.2 n13 a5.toNatClampNeg) then b_X9_isAllSeenSo_87 k34 a0 a4 a5 (1 : Int32) r9.2 else b_X9_isAllSeenSo_87 k34 a0 a4 a5 (0 : Int32) r9.2))))))))))))))))))))))))))
def l_X9_isAllSeenSo_34  : Nat → Nat → Option Nat → Int32 → HS → Option (Int32 × HS)
  | 0 => fun _ _ _ _ => none
  | n + 1 => b_X9_isAllSeenSo_34 (l_X9_isAllSeenSo_34 n)
def f_X9_isAllSeenSo  (a0 : Nat) (a1 : Int32) (a2 : Int32) (a3 : Int32) (h : HS) : Option (Int32 × HS) :=
  nn (some a0) (fun n1 => gd (ck h n1 7) (nn (some a0) (fun n2 => gd (ck h n2 7) (nn (hP h n1 4) (fun n4 => gd (rk h n4 3) (bd (f_X3_copyFrom n4 (hP h n2 3) h) (fun r3 => nn (some a0) (fun n5 => gd (ck r3.2 n5 7) (nn (hP r3.2 n5 4) (fun n7 => gd (rk r3.2 n7 3) (bd (f_X3_append n7 a1 a2 a3 r3.2) (fun r6 => nn (some a0) (fun n8 => gd (ck r6.2 n8 7) (nn (some a0) (fun n10 => gd (rk r6.2 n10 7) (bd (f_X9_rowsOf n10 (hP r6.2 n8 4) r6.2) (fun r9 => l_X9_isAllSeenSo_34 FU a0 r9.1 (0 : Int32) r9.2)))))))))))))))))
set_option maxHeartbeats 4000000 in
set_option maxRecDepth 100000 in
theorem wb_X9_isAllSeenSo_87 (g : GG) (l : Launch) (k34 : Nat → Option Nat → Int32 → HS → Option (Int32 × HS)) (a0 : Nat) (a4 : Option Nat) (a5 : Int32) (s0 : Int32) (h : HS) (o : Int32 × HS) (hB : b_X9_isAllSeenSo_87 k34 a0 a4 a5 s0 h = some o) (hk34 : ∀ (a0 : Nat) (a4 : Option Nat) (a5 : Int32) (h : HS), k34 a0 a4 a5 h = some o → Wq g l mX9_isAllSeenSo 0 0 34 [some (va_rf (some a0)), none, none, none, some (va_rf a4), some (.int a5), none] [] h (QI o)) : Wq g l mX9_isAllSeenSo 0 0 87 [some (va_rf (some a0)), none, none, none, some (va_rf a4), some (.int a5), none] [.int s0] h (QI o) := by
  unfold b_X9_isAllSeenSo_87 at hB
  refine q_istore dX9_isAllSeenSo_87 (by decide) (nb_i (j := 5) rfl) ?_
  refine q_iload dX9_isAllSeenSo_89 rfl ?_
  refine q_aload_n dX9_isAllSeenSo_91 rfl rfl ?_
  refine q_getP (j := 8) hB dX9_isAllSeenSo_92 fc_7 (by decide) rfl wd_248 (fun n1 hB => ?_)
  refine q_getP (j := 2) hB dX9_isAllSeenSo_95 fc_6 (by decide) rfl wd_226 (fun n2 hB => ?_)
  refine q_iload dX9_isAllSeenSo_98 rfl ?_
  refine q_zald hB dX9_isAllSeenSo_100 (fun n3 hB => ?_)
  refine q_icmp_eq (tgt := 106) hB dX9_isAllSeenSo_101 (by decide) (fun hB => ?_) (fun hB => ?_)
  · refine q_iinc dX9_isAllSeenSo_106 rfl (show _ = (a5 + (1 : Int32)) from rfl) (by decide) (nb_r (j := 4) rfl) ?_
    refine q_goto (tgt := 34) dX9_isAllSeenSo_109 (by decide) ?_
    exact Wq.mask [true, false, false, false, true, true, false] rfl (hk34 _ _ _ _ hB)
  · refine q_iconst (v := 0) dX9_isAllSeenSo_104 (by decide) ?_
    exact q_zret hB dX9_isAllSeenSo_105 rfl (by decide) (by decide)
set_option maxHeartbeats 4000000 in
set_option maxRecDepth 100000 in
theorem wb_X9_isAllSeenSo_34 (g : GG) (l : Launch) (k34 : Nat → Option Nat → Int32 → HS → Option (Int32 × HS)) (a0 : Nat) (a4 : Option Nat) (a5 : Int32) (h : HS) (o : Int32 × HS) (hB : b_X9_isAllSeenSo_34 k34 a0 a4 a5 h = some o) (hk34 : ∀ (a0 : Nat) (a4 : Option Nat) (a5 : Int32) (h : HS), k34 a0 a4 a5 h = some o → Wq g l mX9_isAllSeenSo 0 0 34 [some (va_rf (some a0)), none, none, none, some (va_rf a4), some (.int a5), none] [] h (QI o)) : Wq g l mX9_isAllSeenSo 0 0 34 [some (va_rf (some a0)), none, none, none, some (va_rf a4), some (.int a5), none] [] h (QI o) := by
  unfold b_X9_isAllSeenSo_34 at hB
  refine q_iload dX9_isAllSeenSo_34 rfl ?_
  refine q_aload_n dX9_isAllSeenSo_36 rfl rfl ?_
  refine q_getP (j := 8) hB dX9_isAllSeenSo_37 fc_7 (by decide) rfl wd_248 (fun n1 hB => ?_)
  refine q_getI (j := 3) hB dX9_isAllSeenSo_40 fc_6 (by decide) rfl wd_228 (fun n2 hB => ?_)
  refine q_icmp_ge (tgt := 112) hB dX9_isAllSeenSo_43 (by decide) (fun hB => ?_) (fun hB => ?_)
  · refine q_iconst (v := 1) dX9_isAllSeenSo_112 (by decide) ?_
    exact q_zret hB dX9_isAllSeenSo_113 rfl (by decide) (by decide)
  · refine q_aload_n dX9_isAllSeenSo_46 rfl rfl ?_
    refine q_aload_n dX9_isAllSeenSo_47 rfl rfl ?_
    refine q_getP (j := 4) hB dX9_isAllSeenSo_48 fc_7 (by decide) rfl wd_244 (fun n3 hB => ?_)
    refine q_aload dX9_isAllSeenSo_51 rfl ?_
    refine q_aload_n dX9_isAllSeenSo_53 rfl rfl ?_
    refine q_getP (j := 8) hB dX9_isAllSeenSo_54 fc_7 (by decide) rfl wd_248 (fun n4 hB => ?_)
    refine q_getP (j := 0) hB dX9_isAllSeenSo_57 fc_6 (by decide) rfl wd_222 (fun n5 hB => ?_)
    refine q_iload dX9_isAllSeenSo_60 rfl ?_
    refine q_iald hB dX9_isAllSeenSo_62 (fun n6 hB => ?_)
    refine q_callVI (k' := 0) (w' := 0) hB (fun b a hf => c_X2_setOf g l b _ _ a hf) rfl rfl dX9_isAllSeenSo_63 wd_563 cs_X2_setOf wd_564 wd_565 rfl ⟨⟨Nat.le_of_ble_eq_true rfl, Nat.le_of_ble_eq_true rfl⟩, ⟨Nat.le_of_ble_eq_true rfl, Nat.le_of_ble_eq_true rfl⟩, by simp [rf_cat, cat_i, cat_l]⟩ rfl rfl (fun n8 r7 hB => ?_)
    refine q_callVI (k' := 0) (w' := 0) hB (fun b a hf => c_X9_measureOf g l b _ _ _ a hf) rfl rfl dX9_isAllSeenSo_66 wd_567 cs_X9_measureOf wd_569 wd_10 rfl ⟨⟨Nat.le_of_ble_eq_true rfl, Nat.le_of_ble_eq_true rfl⟩, ⟨Nat.le_of_ble_eq_true rfl, Nat.le_of_ble_eq_true rfl⟩, Nat.le_of_ble_eq_true rfl⟩ rfl rfl (fun n10 r9 hB => ?_)
    refine q_aload_n dX9_isAllSeenSo_69 rfl rfl ?_
    refine q_getP (j := 8) hB dX9_isAllSeenSo_70 fc_7 (by decide) rfl wd_248 (fun n11 hB => ?_)
    refine q_getP (j := 1) hB dX9_isAllSeenSo_73 fc_6 (by decide) rfl wd_224 (fun n12 hB => ?_)
    refine q_iload dX9_isAllSeenSo_76 rfl ?_
    refine q_iald hB dX9_isAllSeenSo_78 (fun n13 hB => ?_)
    refine q_icmp_ne (tgt := 86) hB dX9_isAllSeenSo_79 (by decide) (fun hB => ?_) (fun hB => ?_)
    · refine q_iconst (v := 0) dX9_isAllSeenSo_86 (by decide) ?_
      exact Wq.mask [true, false, false, false, true, true, false] rfl (wb_X9_isAllSeenSo_87 g l k34 _ _ _ _ _ o hB hk34)
    · refine q_iconst (v := 1) dX9_isAllSeenSo_82 (by decide) ?_
      refine q_goto (tgt := 87) dX9_isAllSeenSo_83 (by decide) ?_
      exact Wq.mask [true, false, false, false, true, true, false] rfl (wb_X9_isAllSeenSo_87 g l k34 _ _ _ _ _ o hB hk34)
set_option maxHeartbeats 4000000 in
theorem wl_X9_isAllSeenSo_34 (g : GG) (l : Launch) (o : Int32 × HS) : ∀ (n : Nat) (a0 : Nat) (a4 : Option Nat) (a5 : Int32) (h : HS), l_X9_isAllSeenSo_34 n a0 a4 a5 h = some o → Wq g l mX9_isAllSeenSo 0 0 34 [some (va_rf (some a0)), none, none, none, some (va_rf a4), some (.int a5), none] [] h (QI o) := by
  intro n
  induction n with
  | zero =>
    intro a0 a4 a5  h hB
    have q : (none : Option (Int32 × HS)) = some o := hB
    cases q
  | succ n ih =>
    intro a0 a4 a5  h hB
    exact wb_X9_isAllSeenSo_34 g l (l_X9_isAllSeenSo_34 n) a0 a4 a5 h o hB ih
set_option maxHeartbeats 4000000 in
set_option maxRecDepth 100000 in
theorem c_X9_isAllSeenSo (g : GG) (l : Launch) (a0 : Nat) (a1 : Int32) (a2 : Int32) (a3 : Int32) (h : HS) (o : Int32 × HS) (hB : f_X9_isAllSeenSo a0 a1 a2 a3 h = some o) : Ct g l mX9_isAllSeenSo [va_rf (some a0), .int a1, .int a2, .int a3] h (QI o) := by
  refine Ct.of2 (lv0 := [some (va_rf (some a0)), some (.int a1), some (.int a2), some (.int a3), none, none, none]) (by decide +kernel) (by simp [lg_sl, rf_cat, cat_i, cat_l]) rfl ?_
  unfold f_X9_isAllSeenSo at hB
  refine q_aload_n dX9_isAllSeenSo_0 rfl rfl ?_
  refine q_getP (j := 4) hB dX9_isAllSeenSo_1 fc_7 (by decide) rfl wd_244 (fun n1 hB => ?_)
  refine q_aload_n dX9_isAllSeenSo_4 rfl rfl ?_
  refine q_getP (j := 3) hB dX9_isAllSeenSo_5 fc_7 (by decide) rfl wd_243 (fun n2 hB => ?_)
  refine q_callVV (k' := 0) (w' := 0) hB (fun b a hf => c_X3_copyFrom g l b _ _ a hf) rfl rfl dX9_isAllSeenSo_8 wd_596 cs_X3_copyFrom wd_597 wd_598 rfl ⟨⟨Nat.le_of_ble_eq_true rfl, Nat.le_of_ble_eq_true rfl⟩, ⟨Nat.le_of_ble_eq_true rfl, Nat.le_of_ble_eq_true rfl⟩, Nat.le_of_ble_eq_true rfl⟩ rfl rfl (fun n4 r3 hB => ?_)
  refine q_aload_n dX9_isAllSeenSo_11 rfl rfl ?_
  refine q_getP (j := 4) hB dX9_isAllSeenSo_12 fc_7 (by decide) rfl wd_244 (fun n5 hB => ?_)
  refine q_iload_n dX9_isAllSeenSo_15 rfl rfl ?_
  refine q_iload_n dX9_isAllSeenSo_16 rfl rfl ?_
  refine q_iload_n dX9_isAllSeenSo_17 rfl rfl ?_
  refine q_callVV (k' := 0) (w' := 0) hB (fun b a hf => c_X3_append g l b _ _ _ _ a hf) rfl rfl dX9_isAllSeenSo_18 wd_477 cs_X3_append wd_478 wd_479 rfl ⟨⟨Nat.le_of_ble_eq_true rfl, Nat.le_of_ble_eq_true rfl⟩, ⟨Nat.le_of_ble_eq_true rfl, Nat.le_of_ble_eq_true rfl⟩, Nat.le_of_ble_eq_true rfl⟩ rfl rfl (fun n7 r6 hB => ?_)
  refine q_aload_n dX9_isAllSeenSo_21 rfl rfl ?_
  refine q_aload_n dX9_isAllSeenSo_22 rfl rfl ?_
  refine q_getP (j := 4) hB dX9_isAllSeenSo_23 fc_7 (by decide) rfl wd_244 (fun n8 hB => ?_)
  refine q_callVP (k' := 0) (w' := 0) hB (fun b a hf => c_X9_rowsOf g l b _ _ a hf) rfl rfl dX9_isAllSeenSo_26 wd_380 cs_X9_rowsOf wd_382 wd_3 rfl ⟨⟨Nat.le_of_ble_eq_true rfl, Nat.le_of_ble_eq_true rfl⟩, ⟨Nat.le_of_ble_eq_true rfl, Nat.le_of_ble_eq_true rfl⟩, Nat.le_of_ble_eq_true rfl⟩ rfl rfl (fun n10 r9 hB => ?_)
  refine q_astore dX9_isAllSeenSo_29 (by decide) (nb_i (j := 3) rfl) ?_
  refine q_iconst (v := 0) dX9_isAllSeenSo_31 (by decide) ?_
  refine q_istore dX9_isAllSeenSo_32 (by decide) (nb_r (j := 4) rfl) ?_
  exact Wq.mask [true, false, false, false, true, true, false] rfl (wl_X9_isAllSeenSo_34 g l o FU _ _ _ _ hB)

def b_X9_hidden_195  (s0 : Int32) (h : HS) : Option (Int32 × HS) :=
  some (s0, h)
def b_X9_hidden_178  (a1 : Int32) (a4 : Int32) (a5 : Int32) (s0 : Int32) (s1 : Int32) (h : HS) : Option (Int32 × HS) :=
  (if a1 = 0 then b_X9_hidden_195 (a5 * (s0 * s1)) h else b_X9_hidden_195 a4 h)
def b_X9_hidden_168  (a1 : Int32) (a3 : Int32) (a4 : Int32) (a5 : Int32) (s0 : Int32) (h : HS) : Option (Int32 × HS) :=
  (if a3 = (1 : Int32) then b_X9_hidden_178 a1 a4 a5 s0 (5 : Int32) h else b_X9_hidden_178 a1 a4 a5 s0 (1 : Int32) h)
def b_X9_hidden_140  (k71 : Nat → Int32 → Int32 → Int32 → Int32 → Int32 → Int32 → HS → Option (Int32 × HS)) (k80 : Nat → Int32 → Int32 → Int32 → Int32 → Int32 → Int32 → Int32 → HS → Option (Int32 × HS)) (k89 : Nat → Int32 → Int32 → Int32 → Int32 → Int32 → Int32 → Int32 → Int32 → HS → Option (Int32 × HS)) (a0 : Nat) (a1 : Int32) (a2 : Int32) (a3 : Int32) (a4 : Int32) (a5 : Int32) (a6 : Int32) (a7 : Int32) (a8 : Int32) (h : HS) : Option (Int32 × HS) :=
  k89 a0 a1 a2 a3 a4 a5 a6 a7 (a8 + (1 : Int32)) h
def b_X9_hidden_135  (k71 : Nat → Int32 → Int32 → Int32 → Int32 → Int32 → Int32 → HS → Option (Int32 × HS)) (k80 : Nat → Int32 → Int32 → Int32 → Int32 → Int32 → Int32 → Int32 → HS → Option (Int32 × HS)) (k89 : Nat → Int32 → Int32 → Int32 → Int32 → Int32 → Int32 → Int32 → Int32 → HS → Option (Int32 × HS)) (a0 : Nat) (a1 : Int32) (a2 : Int32) (a3 : Int32) (a5 : Int32) (a6 : Int32) (a7 : Int32) (a8 : Int32) (s0 : Int32) (h : HS) : Option (Int32 × HS) :=
  b_X9_hidden_140 k71 k80 k89 a0 a1 a2 a3 s0 (a5 + (1 : Int32)) a6 a7 a8 h
def b_X9_hidden_89  (k71 : Nat → Int32 → Int32 → Int32 → Int32 → Int32 → Int32 → HS → Option (Int32 × HS)) (k80 : Nat → Int32 → Int32 → Int32 → Int32 → Int32 → Int32 → Int32 → HS → Option (Int32 × HS)) (k89 : Nat → Int32 → Int32 → Int32 → Int32 → Int32 → Int32 → Int32 → Int32 → HS → Option (Int32 × HS)) (a0 : Nat) (a1 : Int32) (a2 : Int32) (a3 : Int32) (a4 : Int32) (a5 : Int32) (a6 : Int32) (a7 : Int32) (a8 : Int32) (h : HS) : Option (Int32 × HS) :=
  (if (100 : Int32) < a8 then k80 a0 a1 a2 a3 a4 a5 a6 (a7 + (1 : Int32)) h else nn (some a0) (fun n2 => gd (rk h n2 7) (bd (f_X9_isAllSeenSo n2 a6 a7 a8 h) (fun r1 => (if r1.1 = 0 then b_X9_hidden_140 k71 k80 k89 a0 a1 a2 a3 a4 a5 a6 a7 a8 r1.2 else (if a5 = 0 then b_X9_hidden_135 k71 k80 k89 a0 a1 a2 a3 a5 a6 a7 a8 ((((10000 : Int32) * a6) + ((1000 : Int32) * a7)) + a8) r1.2 else b_X9_hidden_135 k71 k80 k89 a0 a1 a2 a3 a5 a6 a7 a8 a4 r1.2))))))
def l_X9_hidden_89  (k71 : Nat → Int32 → Int32 → Int32 → Int32 → Int32 → Int32 → HS → Option (Int32 × HS)) (k80 : Nat → Int32 → Int32 → Int32 → Int32 → Int32 → Int32 → Int32 → HS → Option (Int32 × HS)) : Nat → Nat → Int32 → Int32 → Int32 → Int32 → Int32 → Int32 → Int32 → Int32 → HS → Option (Int32 × HS)
  | 0 => fun _ _ _ _ _ _ _ _ _ _ => none
  | n + 1 => b_X9_hidden_89 k71 k80 (l_X9_hidden_89 k71 k80 n)
def b_X9_hidden_80  (k71 : Nat → Int32 → Int32 → Int32 → Int32 → Int32 → Int32 → HS → Option (Int32 × HS)) (k80 : Nat → Int32 → Int32 → Int32 → Int32 → Int32 → Int32 → Int32 → HS → Option (Int32 × HS)) (a0 : Nat) (a1 : Int32) (a2 : Int32) (a3 : Int32) (a4 : Int32) (a5 : Int32) (a6 : Int32) (a7 : Int32) (h : HS) : Option (Int32 × HS) :=
  (if a3 ≤ a7 then k71 a0 a1 a2 a3 a4 a5 (a6 + (1 : Int32)) h else l_X9_hidden_89 k71 k80 FU a0 a1 a2 a3 a4 a5 a6 a7 (0 : Int32) h)
def l_X9_hidden_80  (k71 : Nat → Int32 → Int32 → Int32 → Int32 → Int32 → Int32 → HS → Option (Int32 × HS)) : Nat → Nat → Int32 → Int32 → Int32 → Int32 → Int32 → Int32 → Int32 → HS → Option (Int32 × HS)
  | 0 => fun _ _ _ _ _ _ _ _ _ => none
  | n + 1 => b_X9_hidden_80 k71 (l_X9_hidden_80 k71 n)
def b_X9_hidden_71  (k71 : Nat → Int32 → Int32 → Int32 → Int32 → Int32 → Int32 → HS → Option (Int32 × HS)) (a0 : Nat) (a1 : Int32) (a2 : Int32) (a3 : Int32) (a4 : Int32) (a5 : Int32) (a6 : Int32) (h : HS) : Option (Int32 × HS) :=
  (if a2 ≤ a6 then (if a2 = (1 : Int32) then b_X9_hidden_168 a1 a3 a4 a5 (4 : Int32) h else b_X9_hidden_168 a1 a3 a4 a5 (1 : Int32) h) else l_X9_hidden_80 k71 FU a0 a1 a2 a3 a4 a5 a6 (0 : Int32) h)
def l_X9_hidden_71  : Nat → Nat → Int32 → Int32 → Int32 → Int32 → Int32 → Int32 → HS → Option (Int32 × HS)
  | 0 => fun _ _ _ _ _ _ _ _ => none
  | n + 1 => b_X9_hidden_71 (l_X9_hidden_71 n)
def b_X9_hidden_60  (a0 : Nat) (a1 : Int32) (a2 : Int32) (s0 : Int32) (h : HS) : Option (Int32 × HS) :=
  l_X9_hidden_71 FU a0 a1 a2 s0 (-9 : Int32) (0 : Int32) (0 : Int32) h
def b_X9_hidden_41  (a0 : Nat) (a1 : Int32) (s0 : Int32) (h : HS) : Option (Int32 × HS) :=
  nn (some a0) (fun n1 => gd (ck h n1 7) (nn (hP h n1 1) (fun n2 => gd (ck h n2 4) (gd (en1 (hP h n2 0) && en1 (some 1001) || en2 (hP h n2 0) && en2 (some 1001)) ((if (hP h n2 0) = (some 1001) then b_X9_hidden_60 a0 a1 s0 (5 : Int32) h else b_X9_hidden_60 a0 a1 s0 (1 : Int32) h))))))
def f_X9_hidden  (a0 : Nat) (a1 : Int32) (h : HS) : Option (Int32 × HS) :=
  bd (f_X9_isOneOfTwo a1 h) (fun r1 => (if r1.1 = 0 then some ((-2 : Int32), r1.2) else nn (some a0) (fun n2 => gd (ck r1.2 n2 7) (nn (hP r1.2 n2 3) (fun n4 => gd (rk r1.2 n4 3) (bd (f_X3_hasRoom n4 r1.2) (fun r3 => (if r3.1 = 0 then some ((-4 : Int32), r3.2) else nn (some a0) (fun n5 => gd (ck r3.2 n5 7) (nn (hP r3.2 n5 1) (fun n6 => gd (ck r3.2 n6 4) (gd (en1 (hP r3.2 n6 0) && en1 (some 1000) || en2 (hP r3.2 n6 0) && en2 (some 1000)) ((if (hP r3.2 n6 0) = (some 1000) then b_X9_hidden_41 a0 a1 (4 : Int32) r3.2 else b_X9_hidden_41 a0 a1 (1 : Int32) r3.2))))))))))))))
set_option maxHeartbeats 4000000 in
set_option maxRecDepth 100000 in
theorem wb_X9_hidden_195 (g : GG) (l : Launch) (s0 : Int32) (h : HS) (o : Int32 × HS) (hB : b_X9_hidden_195 s0 h = some o) : Wq g l mX9_hidden 0 0 195 [none, none, none, none, none, none, none, none, none] [.int s0] h (QI o) := by
  unfold b_X9_hidden_195 at hB
  exact q_iret hB dX9_hidden_195 rfl (by decide) (by decide)
set_option maxHeartbeats 4000000 in
set_option maxRecDepth 100000 in
theorem wb_X9_hidden_178 (g : GG) (l : Launch) (a1 : Int32) (a4 : Int32) (a5 : Int32) (s0 : Int32) (s1 : Int32) (h : HS) (o : Int32 × HS) (hB : b_X9_hidden_178 a1 a4 a5 s0 s1 h = some o) : Wq g l mX9_hidden 0 0 178 [none, some (.int a1), none, none, some (.int a4), some (.int a5), none, none, none] [.int s1, .int s0] h (QI o) := by
  unfold b_X9_hidden_178 at hB
  refine q_imul dX9_hidden_178 ?_
  refine q_istore dX9_hidden_179 (by decide) (nb_i (j := 5) rfl) ?_
  refine q_iload_n dX9_hidden_181 rfl rfl ?_
  refine q_if_ne (tgt := 193) hB dX9_hidden_182 (by decide) (fun hB => ?_) (fun hB => ?_)
  · refine q_iload dX9_hidden_193 rfl ?_
    exact Wq.mask [false, false, false, false, false, false, false, false, false] rfl (wb_X9_hidden_195 g l _ _ o hB)
  · refine q_iload dX9_hidden_185 rfl ?_
    refine q_iload dX9_hidden_187 rfl ?_
    refine q_imul dX9_hidden_189 ?_
    refine q_goto (tgt := 195) dX9_hidden_190 (by decide) ?_
    exact Wq.mask [false, false, false, false, false, false, false, false, false] rfl (wb_X9_hidden_195 g l _ _ o hB)
set_option maxHeartbeats 4000000 in
set_option maxRecDepth 100000 in
theorem wb_X9_hidden_168 (g : GG) (l : Launch) (a1 : Int32) (a3 : Int32) (a4 : Int32) (a5 : Int32) (s0 : Int32) (h : HS) (o : Int32 × HS) (hB : b_X9_hidden_168 a1 a3 a4 a5 s0 h = some o) : Wq g l mX9_hidden 0 0 168 [none, some (.int a1), none, some (.int a3), some (.int a4), some (.int a5), none, none, none] [.int s0] h (QI o) := by
  unfold b_X9_hidden_168 at hB
  refine q_iload_n dX9_hidden_168 rfl rfl ?_
  refine q_iconst (v := 1) dX9_hidden_169 (by decide) ?_
  refine q_icmp_ne (tgt := 177) hB dX9_hidden_170 (by decide) (fun hB => ?_) (fun hB => ?_)
  · refine q_iconst (v := 1) dX9_hidden_177 (by decide) ?_
    exact Wq.mask [false, true, false, false, true, true, false, false, false] rfl (wb_X9_hidden_178 g l _ _ _ _ _ _ o hB)
  · refine q_iconst (v := 5) dX9_hidden_173 (by decide) ?_
    refine q_goto (tgt := 178) dX9_hidden_174 (by decide) ?_
    exact Wq.mask [false, true, false, false, true, true, false, false, false] rfl (wb_X9_hidden_178 g l _ _ _ _ _ _ o hB)
set_option maxHeartbeats 4000000 in
set_option maxRecDepth 100000 in
theorem wb_X9_hidden_140 (g : GG) (l : Launch) (k71 : Nat → Int32 → Int32 → Int32 → Int32 → Int32 → Int32 → HS → Option (Int32 × HS)) (k80 : Nat → Int32 → Int32 → Int32 → Int32 → Int32 → Int32 → Int32 → HS → Option (Int32 × HS)) (k89 : Nat → Int32 → Int32 → Int32 → Int32 → Int32 → Int32 → Int32 → Int32 → HS → Option (Int32 × HS)) (a0 : Nat) (a1 : Int32) (a2 : Int32) (a3 : Int32) (a4 : Int32) (a5 : Int32) (a6 : Int32) (a7 : Int32) (a8 : Int32) (h : HS) (o : Int32 × HS) (hB : b_X9_hidden_140 k71 k80 k89 a0 a1 a2 a3 a4 a5 a6 a7 a8 h = some o) (hk71 : ∀ (a0 : Nat) (a1 : Int32) (a2 : Int32) (a3 : Int32) (a4 : Int32) (a5 : Int32) (a6 : Int32) (h : HS), k71 a0 a1 a2 a3 a4 a5 a6 h = some o → Wq g l mX9_hidden 0 0 71 [some (va_rf (some a0)), some (.int a1), some (.int a2), some (.int a3), some (.int a4), some (.int a5), some (.int a6), none, none] [] h (QI o)) (hk80 : ∀ (a0 : Nat) (a1 : Int32) (a2 : Int32) (a3 : Int32) (a4 : Int32) (a5 : Int32) (a6 : Int32) (a7 : Int32) (h : HS), k80 a0 a1 a2 a3 a4 a5 a6 a7 h = some o → Wq g l mX9_hidden 0 0 80 [some (va_rf (some a0)), some (.int a1), some (.int a2), some (.int a3), some (.int a4), some (.int a5), some (.int a6), some (.int a7), none] [] h (QI o)) (hk89 : ∀ (a0 : Nat) (a1 : Int32) (a2 : Int32) (a3 : Int32) (a4 : Int32) (a5 : Int32) (a6 : Int32) (a7 : Int32) (a8 : Int32) (h : HS), k89 a0 a1 a2 a3 a4 a5 a6 a7 a8 h = some o → Wq g l mX9_hidden 0 0 89 [some (va_rf (some a0)), some (.int a1), some (.int a2), some (.int a3), some (.int a4), some (.int a5), some (.int a6), some (.int a7), some (.int a8)] [] h (QI o)) : Wq g l mX9_hidden 0 0 140 [some (va_rf (some a0)), some (.int a1), some (.int a2), some (.int a3), some (.int a4), some (.int a5), some (.int a6), some (.int a7), some (.int a8)] [] h (QI o) := by
  unfold b_X9_hidden_140 at hB
  refine q_iinc dX9_hidden_140 rfl (show _ = (a8 + (1 : Int32)) from rfl) (by decide) (nb_i (j := 7) rfl) ?_
  refine q_goto (tgt := 89) dX9_hidden_143 (by decide) ?_
  exact Wq.mask [true, true, true, true, true, true, true, true, true] rfl (hk89 _ _ _ _ _ _ _ _ _ _ hB)
set_option maxHeartbeats 4000000 in
set_option maxRecDepth 100000 in
theorem wb_X9_hidden_135 (g : GG) (l : Launch) (k71 : Nat → Int32 → Int32 → Int32 → Int32 → Int32 → Int32 → HS → Option (Int32 × HS)) (k80 : Nat → Int32 → Int32 → Int32 → Int32 → Int32 → Int32 → Int32 → HS → Option (Int32 × HS)) (k89 : Nat → Int32 → Int32 → Int32 → Int32 → Int32 → Int32 → Int32 → Int32 → HS → Option (Int32 × HS)) (a0 : Nat) (a1 : Int32) (a2 : Int32) (a3 : Int32) (a5 : Int32) (a6 : Int32) (a7 : Int32) (a8 : Int32) (s0 : Int32) (h : HS) (o : Int32 × HS) (hB : b_X9_hidden_135 k71 k80 k89 a0 a1 a2 a3 a5 a6 a7 a8 s0 h = some o) (hk71 : ∀ (a0 : Nat) (a1 : Int32) (a2 : Int32) (a3 : Int32) (a4 : Int32) (a5 : Int32) (a6 : Int32) (h : HS), k71 a0 a1 a2 a3 a4 a5 a6 h = some o → Wq g l mX9_hidden 0 0 71 [some (va_rf (some a0)), some (.int a1), some (.int a2), some (.int a3), some (.int a4), some (.int a5), some (.int a6), none, none] [] h (QI o)) (hk80 : ∀ (a0 : Nat) (a1 : Int32) (a2 : Int32) (a3 : Int32) (a4 : Int32) (a5 : Int32) (a6 : Int32) (a7 : Int32) (h : HS), k80 a0 a1 a2 a3 a4 a5 a6 a7 h = some o → Wq g l mX9_hidden 0 0 80 [some (va_rf (some a0)), some (.int a1), some (.int a2), some (.int a3), some (.int a4), some (.int a5), some (.int a6), some (.int a7), none] [] h (QI o)) (hk89 : ∀ (a0 : Nat) (a1 : Int32) (a2 : Int32) (a3 : Int32) (a4 : Int32) (a5 : Int32) (a6 : Int32) (a7 : Int32) (a8 : Int32) (h : HS), k89 a0 a1 a2 a3 a4 a5 a6 a7 a8 h = some o → Wq g l mX9_hidden 0 0 89 [some (va_rf (some a0)), some (.int a1), some (.int a2), some (.int a3), some (.int a4), some (.int a5), some (.int a6), some (.int a7), some (.int a8)] [] h (QI o)) : Wq g l mX9_hidden 0 0 135 [some (va_rf (some a0)), some (.int a1), some (.int a2), some (.int a3), none, some (.int a5), some (.int a6), some (.int a7), some (.int a8)] [.int s0] h (QI o) := by
  unfold b_X9_hidden_135 at hB
  refine q_istore dX9_hidden_135 (by decide) (nb_i (j := 3) rfl) ?_
  refine q_iinc dX9_hidden_137 rfl (show _ = (a5 + (1 : Int32)) from rfl) (by decide) (nb_i (j := 4) rfl) ?_
  exact Wq.mask [true, true, true, true, true, true, true, true, true] rfl (wb_X9_hidden_140 g l k71 k80 k89 _ _ _ _ _ _ _ _ _ _ o hB hk71 hk80 hk89)
set_option maxHeartbeats 4000000 in
set_option maxRecDepth 100000 in
theorem wb_X9_hidden_89 (g : GG) (l : Launch) (k71 : Nat → Int32 → Int32 → Int32 → Int32 → Int32 → Int32 → HS → Option (Int32 × HS)) (k80 : Nat → Int32 → Int32 → Int32 → Int32 → Int32 → Int32 → Int32 → HS → Option (Int32 × HS)) (k89 : Nat → Int32 → Int32 → Int32 → Int32 → Int32 → Int32 → Int32 → Int32 → HS → Option (Int32 × HS)) (a0 : Nat) (a1 : Int32) (a2 : Int32) (a3 : Int32) (a4 : Int32) (a5 : Int32) (a6 : Int32) (a7 : Int32) (a8 : Int32) (h : HS) (o : Int32 × HS) (hB : b_X9_hidden_89 k71 k80 k89 a0 a1 a2 a3 a4 a5 a6 a7 a8 h = some o) (hk71 : ∀ (a0 : Nat) (a1 : Int32) (a2 : Int32) (a3 : Int32) (a4 : Int32) (a5 : Int32) (a6 : Int32) (h : HS), k71 a0 a1 a2 a3 a4 a5 a6 h = some o → Wq g l mX9_hidden 0 0 71 [some (va_rf (some a0)), some (.int a1), some (.int a2), some (.int a3), some (.int a4), some (.int a5), some (.int a6), none, none] [] h (QI o)) (hk80 : ∀ (a0 : Nat) (a1 : Int32) (a2 : Int32) (a3 : Int32) (a4 : Int32) (a5 : Int32) (a6 : Int32) (a7 : Int32) (h : HS), k80 a0 a1 a2 a3 a4 a5 a6 a7 h = some o → Wq g l mX9_hidden 0 0 80 [some (va_rf (some a0)), some (.int a1), some (.int a2), some (.int a3), some (.int a4), some (.int a5), some (.int a6), some (.int a7), none] [] h (QI o)) (hk89 : ∀ (a0 : Nat) (a1 : Int32) (a2 : Int32) (a3 : Int32) (a4 : Int32) (a5 : Int32) (a6 : Int32) (a7 : Int32) (a8 : Int32) (h : HS), k89 a0 a1 a2 a3 a4 a5 a6 a7 a8 h = some o → Wq g l mX9_hidden 0 0 89 [some (va_rf (some a0)), some (.int a1), some (.int a2), some (.int a3), some (.int a4), some (.int a5), some (.int a6), some (.int a7), some (.int a8)] [] h (QI o)) : Wq g l mX9_hidden 0 0 89 [some (va_rf (some a0)), some (.int a1), some (.int a2), some (.int a3), some (.int a4), some (.int a5), some (.int a6), some (.int a7), some (.int a8)] [] h (QI o) := by
  unfold b_X9_hidden_89 at hB
  refine q_iload dX9_hidden_89 rfl ?_
  refine q_bipush (v := 100) dX9_hidden_91 (by decide) ?_
  refine q_icmp_gt (tgt := 146) hB dX9_hidden_93 (by decide) (fun hB => ?_) (fun hB => ?_)
  · refine q_iinc dX9_hidden_146 rfl (show _ = (a7 + (1 : Int32)) from rfl) (by decide) (nb_i (j := 6) rfl) ?_
    refine q_goto (tgt := 80) dX9_hidden_149 (by decide) ?_
    exact Wq.mask [true, true, true, true, true, true, true, true, false] rfl (hk80 _ _ _ _ _ _ _ _ _ hB)
  · refine q_aload_n dX9_hidden_96 rfl rfl ?_
    refine q_iload dX9_hidden_97 rfl ?_
    refine q_iload dX9_hidden_99 rfl ?_
    refine q_iload dX9_hidden_101 rfl ?_
    refine q_callVI (k' := 0) (w' := 0) hB (fun b a hf => c_X9_isAllSeenSo g l b _ _ _ _ a hf) rfl rfl dX9_hidden_103 wd_650 cs_X9_isAllSeenSo wd_652 wd_16 rfl ⟨⟨Nat.le_of_ble_eq_true rfl, Nat.le_of_ble_eq_true rfl⟩, ⟨Nat.le_of_ble_eq_true rfl, Nat.le_of_ble_eq_true rfl⟩, Nat.le_of_ble_eq_true rfl⟩ rfl rfl (fun n2 r1 hB => ?_)
    refine q_if_eq (tgt := 140) hB dX9_hidden_106 (by decide) (fun hB => ?_) (fun hB => ?_)
    · exact Wq.mask [true, true, true, true, true, true, true, true, true] rfl (wb_X9_hidden_140 g l k71 k80 k89 _ _ _ _ _ _ _ _ _ _ o hB hk71 hk80 hk89)
    · refine q_iload dX9_hidden_109 rfl ?_
      refine q_if_ne (tgt := 133) hB dX9_hidden_111 (by decide) (fun hB => ?_) (fun hB => ?_)
      · refine q_iload dX9_hidden_133 rfl ?_
        exact Wq.mask [true, true, true, true, false, true, true, true, true] rfl (wb_X9_hidden_135 g l k71 k80 k89 _ _ _ _ _ _ _ _ _ _ o hB hk71 hk80 hk89)
      · refine q_sipush (v := 10000) dX9_hidden_114 (by decide) ?_
        refine q_iload dX9_hidden_117 rfl ?_
        refine q_imul dX9_hidden_119 ?_
        refine q_sipush (v := 1000) dX9_hidden_120 (by decide) ?_
        refine q_iload dX9_hidden_123 rfl ?_
        refine q_imul dX9_hidden_125 ?_
        refine q_iadd dX9_hidden_126 ?_
        refine q_iload dX9_hidden_127 rfl ?_
        refine q_iadd dX9_hidden_129 ?_
        refine q_goto (tgt := 135) dX9_hidden_130 (by decide) ?_
        exact Wq.mask [true, true, true, true, false, true, true, true, true] rfl (wb_X9_hidden_135 g l k71 k80 k89 _ _ _ _ _ _ _ _ _ _ o hB hk71 hk80 hk89)
set_option maxHeartbeats 4000000 in
theorem wl_X9_hidden_89 (g : GG) (l : Launch) (k71 : Nat → Int32 → Int32 → Int32 → Int32 → Int32 → Int32 → HS → Option (Int32 × HS)) (k80 : Nat → Int32 → Int32 → Int32 → Int32 → Int32 → Int32 → Int32 → HS → Option (Int32 × HS)) (o : Int32 × HS) (hk71 : ∀ (a0 : Nat) (a1 : Int32) (a2 : Int32) (a3 : Int32) (a4 : Int32) (a5 : Int32) (a6 : Int32) (h : HS), k71 a0 a1 a2 a3 a4 a5 a6 h = some o → Wq g l mX9_hidden 0 0 71 [some (va_rf (some a0)), some (.int a1), some (.int a2), some (.int a3), some (.int a4), some (.int a5), some (.int a6), none, none] [] h (QI o)) (hk80 : ∀ (a0 : Nat) (a1 : Int32) (a2 : Int32) (a3 : Int32) (a4 : Int32) (a5 : Int32) (a6 : Int32) (a7 : Int32) (h : HS), k80 a0 a1 a2 a3 a4 a5 a6 a7 h = some o → Wq g l mX9_hidden 0 0 80 [some (va_rf (some a0)), some (.int a1), some (.int a2), some (.int a3), some (.int a4), some (.int a5), some (.int a6), some (.int a7), none] [] h (QI o)) : ∀ (n : Nat) (a0 : Nat) (a1 : Int32) (a2 : Int32) (a3 : Int32) (a4 : Int32) (a5 : Int32) (a6 : Int32) (a7 : Int32) (a8 : Int32) (h : HS), l_X9_hidden_89 k71 k80 n a0 a1 a2 a3 a4 a5 a6 a7 a8 h = some o → Wq g l mX9_hidden 0 0 89 [some (va_rf (some a0)), some (.int a1), some (.int a2), some (.int a3), some (.int a4), some (.int a5), some (.int a6), some (.int a7), some (.int a8)] [] h (QI o) := by
  intro n
  induction n with
  | zero =>
    intro a0 a1 a2 a3 a4 a5 a6 a7 a8  h hB
    have q : (none : Option (Int32 × HS)) = some o := hB
    cases q
  | succ n ih =>
    intro a0 a1 a2 a3 a4 a5 a6 a7 a8  h hB
    exact wb_X9_hidden_89 g l k71 k80 (l_X9_hidden_89 k71 k80 n) a0 a1 a2 a3 a4 a5 a6 a7 a8 h o hB hk71 hk80 ih
set_option maxHeartbeats 4000000 in
set_option maxRecDepth 100000 in
theorem wb_X9_hidden_80 (g : GG) (l : Launch) (k71 : Nat → Int32 → Int32 → Int32 → Int32 → Int32 → Int32 → HS → Option (Int32 × HS)) (k80 : Nat → Int32 → Int32 → Int32 → Int32 → Int32 → Int32 → Int32 → HS → Option (Int32 × HS)) (a0 : Nat) (a1 : Int32) (a2 : Int32) (a3 : Int32) (a4 : Int32) (a5 : Int32) (a6 : Int32) (a7 : Int32) (h : HS) (o : Int32 × HS) (hB : b_X9_hidden_80 k71 k80 a0 a1 a2 a3 a4 a5 a6 a7 h = some o) (hk71 : ∀ (a0 : Nat) (a1 : Int32) (a2 : Int32) (a3 : Int32) (a4 : Int32) (a5 : Int32) (a6 : Int32) (h : HS), k71 a0 a1 a2 a3 a4 a5 a6 h = some o → Wq g l mX9_hidden 0 0 71 [some (va_rf (some a0)), some (.int a1), some (.int a2), some (.int a3), some (.int a4), some (.int a5), some (.int a6), none, none] [] h (QI o)) (hk80 : ∀ (a0 : Nat) (a1 : Int32) (a2 : Int32) (a3 : Int32) (a4 : Int32) (a5 : Int32) (a6 : Int32) (a7 : Int32) (h : HS), k80 a0 a1 a2 a3 a4 a5 a6 a7 h = some o → Wq g l mX9_hidden 0 0 80 [some (va_rf (some a0)), some (.int a1), some (.int a2), some (.int a3), some (.int a4), some (.int a5), some (.int a6), some (.int a7), none] [] h (QI o)) : Wq g l mX9_hidden 0 0 80 [some (va_rf (some a0)), some (.int a1), some (.int a2), some (.int a3), some (.int a4), some (.int a5), some (.int a6), some (.int a7), none] [] h (QI o) := by
  unfold b_X9_hidden_80 at hB
  refine q_iload dX9_hidden_80 rfl ?_
  refine q_iload_n dX9_hidden_82 rfl rfl ?_
  refine q_icmp_ge (tgt := 152) hB dX9_hidden_83 (by decide) (fun hB => ?_) (fun hB => ?_)
  · refine q_iinc dX9_hidden_152 rfl (show _ = (a6 + (1 : Int32)) from rfl) (by decide) (nb_i (j := 5) rfl) ?_
    refine q_goto (tgt := 71) dX9_hidden_155 (by decide) ?_
    exact Wq.mask [true, true, true, true, true, true, true, false, false] rfl (hk71 _ _ _ _ _ _ _ _ hB)
  · refine q_iconst (v := 0) dX9_hidden_86 (by decide) ?_
    refine q_istore dX9_hidden_87 (by decide) (nb_i (j := 7) rfl) ?_
    exact Wq.mask [true, true, true, true, true, true, true, true, true] rfl (wl_X9_hidden_89 g l k71 k80 o hk71 hk80 FU _ _ _ _ _ _ _ _ _ _ hB)
set_option maxHeartbeats 4000000 in
theorem wl_X9_hidden_80 (g : GG) (l : Launch) (k71 : Nat → Int32 → Int32 → Int32 → Int32 → Int32 → Int32 → HS → Option (Int32 × HS)) (o : Int32 × HS) (hk71 : ∀ (a0 : Nat) (a1 : Int32) (a2 : Int32) (a3 : Int32) (a4 : Int32) (a5 : Int32) (a6 : Int32) (h : HS), k71 a0 a1 a2 a3 a4 a5 a6 h = some o → Wq g l mX9_hidden 0 0 71 [some (va_rf (some a0)), some (.int a1), some (.int a2), some (.int a3), some (.int a4), some (.int a5), some (.int a6), none, none] [] h (QI o)) : ∀ (n : Nat) (a0 : Nat) (a1 : Int32) (a2 : Int32) (a3 : Int32) (a4 : Int32) (a5 : Int32) (a6 : Int32) (a7 : Int32) (h : HS), l_X9_hidden_80 k71 n a0 a1 a2 a3 a4 a5 a6 a7 h = some o → Wq g l mX9_hidden 0 0 80 [some (va_rf (some a0)), some (.int a1), some (.int a2), some (.int a3), some (.int a4), some (.int a5), some (.int a6), some (.int a7), none] [] h (QI o) := by
  intro n
  induction n with
  | zero =>
    intro a0 a1 a2 a3 a4 a5 a6 a7  h hB
    have q : (none : Option (Int32 × HS)) = some o := hB
    cases q
  | succ n ih =>
    intro a0 a1 a2 a3 a4 a5 a6 a7  h hB
    exact wb_X9_hidden_80 g l k71 (l_X9_hidden_80 k71 n) a0 a1 a2 a3 a4 a5 a6 a7 h o hB hk71 ih
set_option maxHeartbeats 4000000 in
set_option maxRecDepth 100000 in
theorem wb_X9_hidden_71 (g : GG) (l : Launch) (k71 : Nat → Int32 → Int32 → Int32 → Int32 → Int32 → Int32 → HS → Option (Int32 × HS)) (a0 : Nat) (a1 : Int32) (a2 : Int32) (a3 : Int32) (a4 : Int32) (a5 : Int32) (a6 : Int32) (h : HS) (o : Int32 × HS) (hB : b_X9_hidden_71 k71 a0 a1 a2 a3 a4 a5 a6 h = some o) (hk71 : ∀ (a0 : Nat) (a1 : Int32) (a2 : Int32) (a3 : Int32) (a4 : Int32) (a5 : Int32) (a6 : Int32) (h : HS), k71 a0 a1 a2 a3 a4 a5 a6 h = some o → Wq g l mX9_hidden 0 0 71 [some (va_rf (some a0)), some (.int a1), some (.int a2), some (.int a3), some (.int a4), some (.int a5), some (.int a6), none, none] [] h (QI o)) : Wq g l mX9_hidden 0 0 71 [some (va_rf (some a0)), some (.int a1), some (.int a2), some (.int a3), some (.int a4), some (.int a5), some (.int a6), none, none] [] h (QI o) := by
  unfold b_X9_hidden_71 at hB
  refine q_iload dX9_hidden_71 rfl ?_
  refine q_iload_n dX9_hidden_73 rfl rfl ?_
  refine q_icmp_ge (tgt := 158) hB dX9_hidden_74 (by decide) (fun hB => ?_) (fun hB => ?_)
  · refine q_iload_n dX9_hidden_158 rfl rfl ?_
    refine q_iconst (v := 1) dX9_hidden_159 (by decide) ?_
    refine q_icmp_ne (tgt := 167) hB dX9_hidden_160 (by decide) (fun hB => ?_) (fun hB => ?_)
    · refine q_iconst (v := 1) dX9_hidden_167 (by decide) ?_
      exact Wq.mask [false, true, false, true, true, true, false, false, false] rfl (wb_X9_hidden_168 g l _ _ _ _ _ _ o hB)
    · refine q_iconst (v := 4) dX9_hidden_163 (by decide) ?_
      refine q_goto (tgt := 168) dX9_hidden_164 (by decide) ?_
      exact Wq.mask [false, true, false, true, true, true, false, false, false] rfl (wb_X9_hidden_168 g l _ _ _ _ _ _ o hB)
  · refine q_iconst (v := 0) dX9_hidden_77 (by decide) ?_
    refine q_istore dX9_hidden_78 (by decide) (nb_i (j := 6) rfl) ?_
    exact Wq.mask [true, true, true, true, true, true, true, true, false] rfl (wl_X9_hidden_80 g l k71 o hk71 FU _ _ _ _ _ _ _ _ _ hB)
set_option maxHeartbeats 4000000 in
theorem wl_X9_hidden_71 (g : GG) (l : Launch) (o : Int32 × HS) : ∀ (n : Nat) (a0 : Nat) (a1 : Int32) (a2 : Int32) (a3 : Int32) (a4 : Int32) (a5 : Int32) (a6 : Int32) (h : HS), l_X9_hidden_71 n a0 a1 a2 a3 a4 a5 a6 h = some o → Wq g l mX9_hidden 0 0 71 [some (va_rf (some a0)), some (.int a1), some (.int a2), some (.int a3), some (.int a4), some (.int a5), some (.int a6), none, none] [] h (QI o) := by
  intro n
  induction n with
  | zero =>
    intro a0 a1 a2 a3 a4 a5 a6  h hB
    have q : (none : Option (Int32 × HS)) = some o := hB
    cases q
  | succ n ih =>
    intro a0 a1 a2 a3 a4 a5 a6  h hB
    exact wb_X9_hidden_71 g l (l_X9_hidden_71 n) a0 a1 a2 a3 a4 a5 a6 h o hB ih
set_option maxHeartbeats 4000000 in
set_option maxRecDepth 100000 in
theorem wb_X9_hidden_60 (g : GG) (l : Launch) (a0 : Nat) (a1 : Int32) (a2 : Int32) (s0 : Int32) (h : HS) (o : Int32 × HS) (hB : b_X9_hidden_60 a0 a1 a2 s0 h = some o) : Wq g l mX9_hidden 0 0 60 [some (va_rf (some a0)), some (.int a1), some (.int a2), none, none, none, none, none, none] [.int s0] h (QI o) := by
  unfold b_X9_hidden_60 at hB
  refine q_istore_n dX9_hidden_60 rfl (by decide) (nb_i (j := 2) rfl) ?_
  refine q_bipush (v := -9) dX9_hidden_61 (by decide) ?_
  refine q_istore dX9_hidden_63 (by decide) (nb_i (j := 3) rfl) ?_
  refine q_iconst (v := 0) dX9_hidden_65 (by decide) ?_
  refine q_istore dX9_hidden_66 (by decide) (nb_i (j := 4) rfl) ?_
  refine q_iconst (v := 0) dX9_hidden_68 (by decide) ?_
  refine q_istore dX9_hidden_69 (by decide) (nb_i (j := 5) rfl) ?_
  exact Wq.mask [true, true, true, true, true, true, true, false, false] rfl (wl_X9_hidden_71 g l o FU _ _ _ _ _ _ _ _ hB)
set_option maxHeartbeats 4000000 in
set_option maxRecDepth 100000 in
theorem wb_X9_hidden_41 (g : GG) (l : Launch) (a0 : Nat) (a1 : Int32) (s0 : Int32) (h : HS) (o : Int32 × HS) (hB : b_X9_hidden_41 a0 a1 s0 h = some o) : Wq g l mX9_hidden 0 0 41 [some (va_rf (some a0)), some (.int a1), none, none, none, none, none, none, none] [.int s0] h (QI o) := by
  unfold b_X9_hidden_41 at hB
  refine q_istore_n dX9_hidden_41 rfl (by decide) (nb_i (j := 1) rfl) ?_
  refine q_aload_n dX9_hidden_42 rfl rfl ?_
  refine q_getP (j := 1) hB dX9_hidden_43 fc_7 (by decide) rfl wd_241 (fun n1 hB => ?_)
  refine q_getP (j := 0) hB dX9_hidden_46 fc_4 (by decide) rfl wd_105 (fun n2 hB => ?_)
  refine q_static (v := va_rf (some 1001)) (fun s hK => z_F 1 (by decide) hK) dX9_hidden_49 wd_649 ?_
  refine q_acmp_ne (tgt := 59) hB dX9_hidden_52 (by decide) (fun hB => ?_) (fun hB => ?_)
  · refine q_iconst (v := 1) dX9_hidden_59 (by decide) ?_
    exact Wq.mask [true, true, true, false, false, false, false, false, false] rfl (wb_X9_hidden_60 g l _ _ _ _ _ o hB)
  · refine q_iconst (v := 5) dX9_hidden_55 (by decide) ?_
    refine q_goto (tgt := 60) dX9_hidden_56 (by decide) ?_
    exact Wq.mask [true, true, true, false, false, false, false, false, false] rfl (wb_X9_hidden_60 g l _ _ _ _ _ o hB)
set_option maxHeartbeats 4000000 in
set_option maxRecDepth 100000 in
theorem c_X9_hidden (g : GG) (l : Launch) (a0 : Nat) (a1 : Int32) (h : HS) (o : Int32 × HS) (hB : f_X9_hidden a0 a1 h = some o) : Ct g l mX9_hidden [va_rf (some a0), .int a1] h (QI o) := by
  refine Ct.of2 (lv0 := [some (va_rf (some a0)), some (.int a1), none, none, none, none, none, none, none]) (by decide +kernel) (by simp [lg_sl, rf_cat, cat_i, cat_l]) rfl ?_
  unfold f_X9_hidden at hB
  refine q_iload_n dX9_hidden_0 rfl rfl ?_
  refine q_callSI (k' := 0) (w' := 0) hB (fun a hf => c_X9_isOneOfTwo g l _ _ a hf) rfl dX9_hidden_1 wd_544 cs_X9_isOneOfTwo wd_545 rfl ⟨⟨Nat.le_of_ble_eq_true rfl, Nat.le_of_ble_eq_true rfl⟩, ⟨Nat.le_of_ble_eq_true rfl, Nat.le_of_ble_eq_true rfl⟩, Nat.le_of_ble_eq_true rfl⟩ rfl rfl (fun r1 hB => ?_)
  refine q_if_ne (tgt := 10) hB dX9_hidden_4 (by decide) (fun hB => ?_) (fun hB => ?_)
  · refine q_aload_n dX9_hidden_10 rfl rfl ?_
    refine q_getP (j := 3) hB dX9_hidden_11 fc_7 (by decide) rfl wd_243 (fun n2 hB => ?_)
    refine q_callVI (k' := 0) (w' := 0) hB (fun b a hf => c_X3_hasRoom g l b _ a hf) rfl rfl dX9_hidden_14 wd_465 cs_X3_hasRoom wd_466 wd_467 rfl ⟨⟨Nat.le_of_ble_eq_true rfl, Nat.le_of_ble_eq_true rfl⟩, ⟨Nat.le_of_ble_eq_true rfl, Nat.le_of_ble_eq_true rfl⟩, Nat.le_of_ble_eq_true rfl⟩ rfl rfl (fun n4 r3 hB => ?_)
    refine q_if_ne (tgt := 23) hB dX9_hidden_17 (by decide) (fun hB => ?_) (fun hB => ?_)
    · refine q_aload_n dX9_hidden_23 rfl rfl ?_
      refine q_getP (j := 1) hB dX9_hidden_24 fc_7 (by decide) rfl wd_241 (fun n5 hB => ?_)
      refine q_getP (j := 0) hB dX9_hidden_27 fc_4 (by decide) rfl wd_105 (fun n6 hB => ?_)
      refine q_static (v := va_rf (some 1000)) (fun s hK => z_F 0 (by decide) hK) dX9_hidden_30 wd_648 ?_
      refine q_acmp_ne (tgt := 40) hB dX9_hidden_33 (by decide) (fun hB => ?_) (fun hB => ?_)
      · refine q_iconst (v := 1) dX9_hidden_40 (by decide) ?_
        exact Wq.mask [true, true, false, false, false, false, false, false, false] rfl (wb_X9_hidden_41 g l _ _ _ _ o hB)
      · refine q_iconst (v := 4) dX9_hidden_36 (by decide) ?_
        refine q_goto (tgt := 41) dX9_hidden_37 (by decide) ?_
        exact Wq.mask [true, true, false, false, false, false, false, false, false] rfl (wb_X9_hidden_41 g l _ _ _ _ o hB)
    · refine q_bipush (v := -4) dX9_hidden_20 (by decide) ?_
      exact q_iret hB dX9_hidden_22 rfl (by decide) (by decide)
  · refine q_bipush (v := -2) dX9_hidden_7 (by decide) ?_
    exact q_iret hB dX9_hidden_9 rfl (by decide) (by decide)

def b_X10_mayBe_92  (k28 : Nat → Int32 → Int32 → HS → Option (Int32 × HS)) (a0 : Nat) (a3 : Int32) (s0 : Int32) (h : HS) : Option (Int32 × HS) :=
  k28 a0 s0 (a3 + (1 : Int32)) h
def b_X10_mayBe_91  (k28 : Nat → Int32 → Int32 → HS → Option (Int32 × HS)) (a0 : Nat) (a3 : Int32) (h : HS) : Option (Int32 × HS) :=
  b_X10_mayBe_92 k28 a0 a3 (0 : Int32) h
def b_X10_mayBe_84  (k28 : Nat → Int32 → Int32 → HS → Option (Int32 × HS)) (a0 : Nat) (a3 : Int32) (s0 : Int32) (s1 : Int32) (h : HS) : Option (Int32 × HS) :=
  (if s0 = s1 then b_X10_mayBe_92 k28 a0 a3 (1 : Int32) h else b_X10_mayBe_91 k28 a0 a3 h)
def b_X10_mayBe_69  (k28 : Nat → Int32 → Int32 → HS → Option (Int32 × HS)) (a0 : Nat) (a3 : Int32) (s0 : Int32) (h : HS) : Option (Int32 × HS) :=
  nn (some a0) (fun n1 => gd (ck h n1 8) (nn (hP h n1 26) (fun n2 => gd (ca h n2 9 a3) ((if (hI h n2 a3.toNatClampNeg) = (1 : Int32) then b_X10_mayBe_84 k28 a0 a3 s0 (1 : Int32) h else b_X10_mayBe_84 k28 a0 a3 s0 (0 : Int32) h)))))
def b_X10_mayBe_28  (k28 : Nat → Int32 → Int32 → HS → Option (Int32 × HS)) (a0 : Nat) (a2 : Int32) (a3 : Int32) (h : HS) : Option (Int32 × HS) :=
  nn (some a0) (fun n1 => gd (ck h n1 8) ((if (hI h n1 23) ≤ a3 then gd (decide (narrow .boolean (.int a2) = .int a2)) (some (a2, h)) else (if a2 = 0 then b_X10_mayBe_91 k28 a0 a3 h else nn (some a0) (fun n2 => gd (ck h n2 8) (nn (hP h n2 24) (fun n3 => gd (ca h n3 9 a3) (nn (some a0) (fun n5 => gd (rk h n5 8) (bd (f_X10_rowOf n5 (hI h n3 a3.toNatClampNeg) h) (fun r4 => nn (some a0) (fun n7 => gd (rk r4.2 n7 8) (bd (f_X10_measureOf n7 (1 : Int32) r4.1 r4.2) (fun r6 => nn (some a0) (fun n8 => gd (ck r6.2 n8 8) (nn (hP r6.2 n8 25) (fun n9 => gd (ca r6.2 n9 9 a3) ((if r6.1 = (hI r6.2 n9 a3.toNatClampNeg) then b_X10_mayBe_69 k28 a0 a3 (1 : Int32) r6.2 else b_X10_mayBe_69 k28 a0 a3 (0 : Int32) r6.2)))))))))))))))))))
def l_X10_mayBe_28  : Nat → Nat → Int32 → Int32 → HS → Option (Int32 × HS)
  | 0 => fun _ _ _ _ => none
  | n + 1 => b_X10_mayBe_28 (l_X10_mayBe_28 n)
def f_X10_mayBe  (a0 : Nat) (a1 : Int32) (h : HS) : Option (Int32 × HS) :=
  nn (some a0) (fun n1 => gd (ck h n1 8) ((if (hI h n1 23) = 0 then gd (decide (narrow .boolean (.int (1 : Int32)) = .int (1 : Int32))) (some ((1 : Int32), h)) else nn (some a0) (fun n3 => gd (rk h n3 8) (bd (f_X10_layTrial n3 h) (fun r2 => nn (some a0) (fun n5 => gd (rk r2.2 n5 8) (bd (f_X10_addOn n5 (1 : Int32) a1 r2.2) (fun r4 => nn (some a0) (fun n7 => gd (rk r4.2 n7 8) (bd (f_X10_findRows n7 (1 : Int32) r4.2) (fun r6 => l_X10_mayBe_28 FU a0 (1 : Int32) (0 : Int32) r6.2))))))))))))
set_option maxHeartbeats 4000000 in
set_option maxRecDepth 100000 in
theorem wb_X10_mayBe_92 (g : GG) (l : Launch) (k28 : Nat → Int32 → Int32 → HS → Option (Int32 × HS)) (a0 : Nat) (a3 : Int32) (s0 : Int32) (h : HS) (o : Int32 × HS) (hB : b_X10_mayBe_92 k28 a0 a3 s0 h = some o) (hk28 : ∀ (a0 : Nat) (a2 : Int32) (a3 : Int32) (h : HS), k28 a0 a2 a3 h = some o → Wq g l mX10_mayBe 0 0 28 [some (va_rf (some a0)), none, some (.int a2), some (.int a3)] [] h (QI o)) : Wq g l mX10_mayBe 0 0 92 [some (va_rf (some a0)), none, none, some (.int a3)] [.int s0] h (QI o) := by
  unfold b_X10_mayBe_92 at hB
  refine q_istore_n dX10_mayBe_92 rfl (by decide) (nb_n (j := 1) rfl) ?_
  refine q_iinc dX10_mayBe_93 rfl (show _ = (a3 + (1 : Int32)) from rfl) (by decide) (nb_i (j := 2) rfl) ?_
  refine q_goto (tgt := 28) dX10_mayBe_96 (by decide) ?_
  exact Wq.mask [true, false, true, true] rfl (hk28 _ _ _ _ hB)
set_option maxHeartbeats 4000000 in
set_option maxRecDepth 100000 in
theorem wb_X10_mayBe_91 (g : GG) (l : Launch) (k28 : Nat → Int32 → Int32 → HS → Option (Int32 × HS)) (a0 : Nat) (a3 : Int32) (h : HS) (o : Int32 × HS) (hB : b_X10_mayBe_91 k28 a0 a3 h = some o) (hk28 : ∀ (a0 : Nat) (a2 : Int32) (a3 : Int32) (h : HS), k28 a0 a2 a3 h = some o → Wq g l mX10_mayBe 0 0 28 [some (va_rf (some a0)), none, some (.int a2), some (.int a3)] [] h (QI o)) : Wq g l mX10_mayBe 0 0 91 [some (va_rf (some a0)), none, none, some (.int a3)] [] h (QI o) := by
  unfold b_X10_mayBe_91 at hB
  refine q_iconst (v := 0) dX10_mayBe_91 (by decide) ?_
  exact Wq.mask [true, false, false, true] rfl (wb_X10_mayBe_92 g l k28 _ _ _ _ o hB hk28)
set_option maxHeartbeats 4000000 in
set_option maxRecDepth 100000 in
theorem wb_X10_mayBe_84 (g : GG) (l : Launch) (k28 : Nat → Int32 → Int32 → HS → Option (Int32 × HS)) (a0 : Nat) (a3 : Int32) (s0 : Int32) (s1 : Int32) (h : HS) (o : Int32 × HS) (hB : b_X10_mayBe_84 k28 a0 a3 s0 s1 h = some o) (hk28 : ∀ (a0 : Nat) (a2 : Int32) (a3 : Int32) (h : HS), k28 a0 a2 a3 h = some o → Wq g l mX10_mayBe 0 0 28 [some (va_rf (some a0)), none, some (.int a2), some (.int a3)] [] h (QI o)) : Wq g l mX10_mayBe 0 0 84 [some (va_rf (some a0)), none, none, some (.int a3)] [.int s1, .int s0] h (QI o) := by
  unfold b_X10_mayBe_84 at hB
  refine q_icmp_ne (tgt := 91) hB dX10_mayBe_84 (by decide) (fun hB => ?_) (fun hB => ?_)
  · exact Wq.mask [true, false, false, true] rfl (wb_X10_mayBe_91 g l k28 _ _ _ o hB hk28)
  · refine q_iconst (v := 1) dX10_mayBe_87 (by decide) ?_
    refine q_goto (tgt := 92) dX10_mayBe_88 (by decide) ?_
    exact Wq.mask [true, false, false, true] rfl (wb_X10_mayBe_92 g l k28 _ _ _ _ o hB hk28)
set_option maxHeartbeats 4000000 in
set_option maxRecDepth 100000 in
theorem wb_X10_mayBe_69 (g : GG) (l : Launch) (k28 : Nat → Int32 → Int32 → HS → Option (Int32 × HS)) (a0 : Nat) (a3 : Int32) (s0 : Int32) (h : HS) (o : Int32 × HS) (hB : b_X10_mayBe_69 k28 a0 a3 s0 h = some o) (hk28 : ∀ (a0 : Nat) (a2 : Int32) (a3 : Int32) (h : HS), k28 a0 a2 a3 h = some o → Wq g l mX10_mayBe 0 0 28 [some (va_rf (some a0)), none, some (.int a2), some (.int a3)] [] h (QI o)) : Wq g l mX10_mayBe 0 0 69 [some (va_rf (some a0)), none, none, some (.int a3)] [.int s0] h (QI o) := by
  unfold b_X10_mayBe_69 at hB
  refine q_aload_n dX10_mayBe_69 rfl rfl ?_
  refine q_getP (j := 26) hB dX10_mayBe_70 fc_8 (by decide) rfl wd_755 (fun n1 hB => ?_)
  refine q_iload_n dX10_mayBe_73 rfl rfl ?_
  refine q_iald hB dX10_mayBe_74 (fun n2 hB => ?_)
  refine q_iconst (v := 1) dX10_mayBe_75 (by decide) ?_
  refine q_icmp_ne (tgt := 83) hB dX10_mayBe_76 (by decide) (fun hB => ?_) (fun hB => ?_)
  · refine q_iconst (v := 0) dX10_mayBe_83 (by decide) ?_
    exact Wq.mask [true, false, false, true] rfl (wb_X10_mayBe_84 g l k28 _ _ _ _ _ o hB hk28)
  · refine q_iconst (v := 1) dX10_mayBe_79 (by decide) ?_
    refine q_goto (tgt := 84) dX10_mayBe_80 (by decide) ?_
    exact Wq.mask [true, false, false, true] rfl (wb_X10_mayBe_84 g l k28 _ _ _ _ _ o hB hk28)
set_option maxHeartbeats 4000000 in
set_option maxRecDepth 100000 in
theorem wb_X10_mayBe_28 (g : GG) (l : Launch) (k28 : Nat → Int32 → Int32 → HS → Option (Int32 × HS)) (a0 : Nat) (a2 : Int32) (a3 : Int32) (h : HS) (o : Int32 × HS) (hB : b_X10_mayBe_28 k28 a0 a2 a3 h = some o) (hk28 : ∀ (a0 : Nat) (a2 : Int32) (a3 : Int32) (h : HS), k28 a0 a2 a3 h = some o → Wq g l mX10_mayBe 0 0 28 [some (va_rf (some a0)), none, some (.int a2), some (.int a3)] [] h (QI o)) : Wq g l mX10_mayBe 0 0 28 [some (va_rf (some a0)), none, some (.int a2), some (.int a3)] [] h (QI o) := by
  unfold b_X10_mayBe_28 at hB
  refine q_iload_n dX10_mayBe_28 rfl rfl ?_
  refine q_aload_n dX10_mayBe_29 rfl rfl ?_
  refine q_getI (j := 23) hB dX10_mayBe_30 fc_8 (by decide) rfl wd_752 (fun n1 hB => ?_)
  refine q_icmp_ge (tgt := 99) hB dX10_mayBe_33 (by decide) (fun hB => ?_) (fun hB => ?_)
  · refine q_iload_n dX10_mayBe_99 rfl rfl ?_
    exact q_zret hB dX10_mayBe_100 rfl (by decide) (by decide)
  · refine q_iload_n dX10_mayBe_36 rfl rfl ?_
    refine q_if_eq (tgt := 91) hB dX10_mayBe_37 (by decide) (fun hB => ?_) (fun hB => ?_)
    · exact Wq.mask [true, false, false, true] rfl (wb_X10_mayBe_91 g l k28 _ _ _ o hB hk28)
    · refine q_aload_n dX10_mayBe_40 rfl rfl ?_
      refine q_iconst (v := 1) dX10_mayBe_41 (by decide) ?_
      refine q_aload_n dX10_mayBe_42 rfl rfl ?_
      refine q_aload_n dX10_mayBe_43 rfl rfl ?_
      refine q_getP (j := 24) hB dX10_mayBe_44 fc_8 (by decide) rfl wd_753 (fun n2 hB => ?_)
      refine q_iload_n dX10_mayBe_47 rfl rfl ?_
      refine q_iald hB dX10_mayBe_48 (fun n3 hB => ?_)
      refine q_callVI (k' := 0) (w' := 0) hB (fun b a hf => c_X10_rowOf g l b _ _ a hf) rfl rfl dX10_mayBe_49 wd_964 cs_X10_rowOf wd_966 wd_36 rfl ⟨⟨Nat.le_of_ble_eq_true rfl, Nat.le_of_ble_eq_true rfl⟩, ⟨Nat.le_of_ble_eq_true rfl, Nat.le_of_ble_eq_true rfl⟩, by simp [rf_cat, cat_i, cat_l]⟩ rfl rfl (fun n5 r4 hB => ?_)
      refine q_callVI (k' := 0) (w' := 0) hB (fun b a hf => c_X10_measureOf g l b _ _ _ a hf) rfl rfl dX10_mayBe_52 wd_883 cs_X10_measureOf wd_885 wd_27 rfl ⟨⟨Nat.le_of_ble_eq_true rfl, Nat.le_of_ble_eq_true rfl⟩, ⟨Nat.le_of_ble_eq_true rfl, Nat.le_of_ble_eq_true rfl⟩, Nat.le_of_ble_eq_true rfl⟩ rfl rfl (fun n7 r6 hB => ?_)
      refine q_aload_n dX10_mayBe_55 rfl rfl ?_
      refine q_getP (j := 25) hB dX10_mayBe_56 fc_8 (by decide) rfl wd_754 (fun n8 hB => ?_)
      refine q_iload_n dX10_mayBe_59 rfl rfl ?_
      refine q_iald hB dX10_mayBe_60 (fun n9 hB => ?_)
      refine q_icmp_ne (tgt := 68) hB dX10_mayBe_61 (by decide) (fun hB => ?_) (fun hB => ?_)
      · refine q_iconst (v := 0) dX10_mayBe_68 (by decide) ?_
        exact Wq.mask [true, false, false, true] rfl (wb_X10_mayBe_69 g l k28 _ _ _ _ o hB hk28)
      · refine q_iconst (v := 1) dX10_mayBe_64 (by decide) ?_
        refine q_goto (tgt := 69) dX10_mayBe_65 (by decide) ?_
        exact Wq.mask [true, false, false, true] rfl (wb_X10_mayBe_69 g l k28 _ _ _ _ o hB hk28)
set_option maxHeartbeats 4000000 in
theorem wl_X10_mayBe_28 (g : GG) (l : Launch) (o : Int32 × HS) : ∀ (n : Nat) (a0 : Nat) (a2 : Int32) (a3 : Int32) (h : HS), l_X10_mayBe_28 n a0 a2 a3 h = some o → Wq g l mX10_mayBe 0 0 28 [some (va_rf (some a0)), none, some (.int a2), some (.int a3)] [] h (QI o) := by
  intro n
  induction n with
  | zero =>
    intro a0 a2 a3  h hB
    have q : (none : Option (Int32 × HS)) = some o := hB
    cases q
  | succ n ih =>
    intro a0 a2 a3  h hB
    exact wb_X10_mayBe_28 g l (l_X10_mayBe_28 n) a0 a2 a3 h o hB ih
set_option maxHeartbeats 4000000 in
set_option maxRecDepth 100000 in
theorem c_X10_mayBe (g : GG) (l : Launch) (a0 : Nat) (a1 : Int32) (h : HS) (o : Int32 × HS) (hB : f_X10_mayBe a0 a1 h = some o) : Ct g l mX10_mayBe [va_rf (some a0), .int a1] h (QI o) := by
  refine Ct.of2 (lv0 := [some (va_rf (some a0)), some (.int a1), none, none]) (by decide +kernel) (by simp [lg_sl, rf_cat, cat_i, cat_l]) rfl ?_
  unfold f_X10_mayBe at hB
  refine q_aload_n dX10_mayBe_0 rfl rfl ?_
  refine q_getI (j := 23) hB dX10_mayBe_1 fc_8 (by decide) rfl wd_752 (fun n1 hB => ?_)
  refine q_if_ne (tgt := 9) hB dX10_mayBe_4 (by decide) (fun hB => ?_) (fun hB => ?_)
  · refine q_aload_n dX10_mayBe_9 rfl rfl ?_
    refine q_callVV (k' := 0) (w' := 0) hB (fun b a hf => c_X10_layTrial g l b _ a hf) rfl rfl dX10_mayBe_10 wd_992 cs_X10_layTrial wd_994 wd_39 rfl ⟨⟨Nat.le_of_ble_eq_true rfl, Nat.le_of_ble_eq_true rfl⟩, ⟨Nat.le_of_ble_eq_true rfl, Nat.le_of_ble_eq_true rfl⟩, Nat.le_of_ble_eq_true rfl⟩ rfl rfl (fun n3 r2 hB => ?_)
    refine q_aload_n dX10_mayBe_13 rfl rfl ?_
    refine q_iconst (v := 1) dX10_mayBe_14 (by decide) ?_
    refine q_iload_n dX10_mayBe_15 rfl rfl ?_
    refine q_callVV (k' := 0) (w' := 0) hB (fun b a hf => c_X10_addOn g l b _ _ _ a hf) rfl rfl dX10_mayBe_16 wd_920 cs_X10_addOn wd_922 wd_31 rfl ⟨⟨Nat.le_of_ble_eq_true rfl, Nat.le_of_ble_eq_true rfl⟩, ⟨Nat.le_of_ble_eq_true rfl, Nat.le_of_ble_eq_true rfl⟩, Nat.le_of_ble_eq_true rfl⟩ rfl rfl (fun n5 r4 hB => ?_)
    refine q_aload_n dX10_mayBe_19 rfl rfl ?_
    refine q_iconst (v := 1) dX10_mayBe_20 (by decide) ?_
    refine q_callVV (k' := 0) (w' := 0) hB (fun b a hf => c_X10_findRows g l b _ _ a hf) rfl rfl dX10_mayBe_21 wd_859 cs_X10_findRows wd_861 wd_21 rfl ⟨⟨Nat.le_of_ble_eq_true rfl, Nat.le_of_ble_eq_true rfl⟩, ⟨Nat.le_of_ble_eq_true rfl, Nat.le_of_ble_eq_true rfl⟩, Nat.le_of_ble_eq_true rfl⟩ rfl rfl (fun n7 r6 hB => ?_)
    refine q_iconst (v := 1) dX10_mayBe_24 (by decide) ?_
    refine q_istore_n dX10_mayBe_25 rfl (by decide) (nb_i (j := 1) rfl) ?_
    refine q_iconst (v := 0) dX10_mayBe_26 (by decide) ?_
    refine q_istore_n dX10_mayBe_27 rfl (by decide) (nb_i (j := 2) rfl) ?_
    exact Wq.mask [true, false, true, true] rfl (wl_X10_mayBe_28 g l o FU _ _ _ _ hB)
  · refine q_iconst (v := 1) dX10_mayBe_7 (by decide) ?_
    exact q_zret hB dX10_mayBe_8 rfl (by decide) (by decide)
