def b_X2_greatestBut_62  (k7 : Nat → Int32 → Int32 → Int32 → Int32 → HS → Option (Int32 × HS)) (a0 : Nat) (a1 : Int32) (a2 : Int32) (a3 : Int32) (a4 : Int32) (h : HS) : Option (Int32 × HS) :=
  k7 a0 a1 a2 a3 (a4 + (1 : Int32)) h
def b_X2_greatestBut_57  (k7 : Nat → Int32 → Int32 → Int32 → Int32 → HS → Option (Int32 × HS)) (a0 : Nat) (a1 : Int32) (a4 : Int32) (h : HS) : Option (Int32 × HS) :=
  b_X2_greatestBut_62 k7 a0 a1 a4 (1 : Int32) a4 h
def b_X2_greatestBut_30  (k7 : Nat → Int32 → Int32 → Int32 → Int32 → HS → Option (Int32 × HS)) (a0 : Nat) (a1 : Int32) (a2 : Int32) (a3 : Int32) (a4 : Int32) (s0 : Int32) (h : HS) : Option (Int32 × HS) :=
  (if s0 = 0 then b_X2_greatestBut_62 k7 a0 a1 a2 a3 a4 h else (if a3 = 0 then b_X2_greatestBut_57 k7 a0 a1 a4 h else nn (some a0) (fun n1 => gd (ck h n1 2) (nn (hP h n1 2) (fun n2 => gd (ca h n2 9 a4) (nn (some a0) (fun n3 => gd (ck h n3 2) (nn (hP h n3 2) (fun n4 => gd (ca h n4 9 a2) ((if (hI h n2 a4.toNatClampNeg) ≤ (hI h n4 a2.toNatClampNeg) then b_X2_greatestBut_62 k7 a0 a1 a2 a3 a4 h else b_X2_greatestBut_57 k7 a0 a1 a4 h)))))))))))
def b_X2_greatestBut_7  (k7 : Nat → Int32 → Int32 → Int32 → Int32 → HS → Option (Int32 × HS)) (a0 : Nat) (a1 : Int32) (a2 : Int32) (a3 : Int32) (a4 : Int32) (h : HS) : Option (Int32 × HS) :=
  nn (some a0) (fun n1 => gd (ck h n1 2) ((if (hI h n1 3) ≤ a4 then some (a2, h) else (if ((a1 >>> (a4 &&& 31)) &&& (1 : Int32)) = 0 then b_X2_greatestBut_30 k7 a0 a1 a2 a3 a4 (1 : Int32) h else b_X2_greatestBut_30 k7 a0 a1 a2 a3 a4 (0 : Int32) h))))
def l_X2_greatestBut_7  : Nat → Nat → Int32 → Int32 → Int32 → Int32 → HS → Option (Int32 × HS)
  | 0 => fun _ _ _ _ _ _ => none
  | n + 1 => b_X2_greatestBut_7 (l_X2_greatestBut_7 n)
def f_X2_greatestBut  (a0 : Nat) (a1 : Int32) (h : HS) : Option (Int32 × HS) :=
  l_X2_greatestBut_7 FU a0 a1 (0 : Int32) (0 : Int32) (0 : Int32) h
set_option maxHeartbeats 4000000 in
set_option maxRecDepth 100000 in
theorem wb_X2_greatestBut_62 (g : GG) (l : Launch) (k7 : Nat → Int32 → Int32 → Int32 → Int32 → HS → Option (Int32 × HS)) (a0 : Nat) (a1 : Int32) (a2 : Int32) (a3 : Int32) (a4 : Int32) (h : HS) (o : Int32 × HS) (hB : b_X2_greatestBut_62 k7 a0 a1 a2 a3 a4 h = some o) (hk7 : ∀ (a0 : Nat) (a1 : Int32) (a2 : Int32) (a3 : Int32) (a4 : Int32) (h : HS), k7 a0 a1 a2 a3 a4 h = some o → Wq g l mX2_greatestBut 0 0 7 [some (va_rf (some a0)), some (.int a1), some (.int a2), some (.int a3), some (.int a4), none] [] h (QI o)) : Wq g l mX2_greatestBut 0 0 62 [some (va_rf (some a0)), some (.int a1), some (.int a2), some (.int a3), some (.int a4), none] [] h (QI o) := by
  unfold b_X2_greatestBut_62 at hB
  refine q_iinc dX2_greatestBut_62 rfl (show _ = (a4 + (1 : Int32)) from rfl) (by decide) (nb_i (j := 3) rfl) ?_
  refine q_goto (tgt := 7) dX2_greatestBut_65 (by decide) ?_
  exact Wq.mask [true, true, true, true, true, false] rfl (hk7 _ _ _ _ _ _ hB)
set_option maxHeartbeats 4000000 in
set_option maxRecDepth 100000 in
theorem wb_X2_greatestBut_57 (g : GG) (l : Launch) (k7 : Nat → Int32 → Int32 → Int32 → Int32 → HS → Option (Int32 × HS)) (a0 : Nat) (a1 : Int32) (a4 : Int32) (h : HS) (o : Int32 × HS) (hB : b_X2_greatestBut_57 k7 a0 a1 a4 h = some o) (hk7 : ∀ (a0 : Nat) (a1 : Int32) (a2 : Int32) (a3 : Int32) (a4 : Int32) (h : HS), k7 a0 a1 a2 a3 a4 h = some o → Wq g l mX2_greatestBut 0 0 7 [some (va_rf (some a0)), some (.int a1), some (.int a2), some (.int a3), some (.int a4), none] [] h (QI o)) : Wq g l mX2_greatestBut 0 0 57 [some (va_rf (some a0)), some (.int a1), none, none, some (.int a4), none] [] h (QI o) := by
  unfold b_X2_greatestBut_57 at hB
  refine q_iload dX2_greatestBut_57 rfl ?_
  refine q_istore_n dX2_greatestBut_59 rfl (by decide) (nb_i (j := 1) rfl) ?_
  refine q_iconst (v := 1) dX2_greatestBut_60 (by decide) ?_
  refine q_istore_n dX2_greatestBut_61 rfl (by decide) (nb_i (j := 2) rfl) ?_
  exact Wq.mask [true, true, true, true, true, false] rfl (wb_X2_greatestBut_62 g l k7 _ _ _ _ _ _ o hB hk7)
set_option maxHeartbeats 4000000 in
set_option maxRecDepth 100000 in
theorem wb_X2_greatestBut_30 (g : GG) (l : Launch) (k7 : Nat → Int32 → Int32 → Int32 → Int32 → HS → Option (Int32 × HS)) (a0 : Nat) (a1 : Int32) (a2 : Int32) (a3 : Int32) (a4 : Int32) (s0 : Int32) (h : HS) (o : Int32 × HS) (hB : b_X2_greatestBut_30 k7 a0 a1 a2 a3 a4 s0 h = some o) (hk7 : ∀ (a0 : Nat) (a1 : Int32) (a2 : Int32) (a3 : Int32) (a4 : Int32) (h : HS), k7 a0 a1 a2 a3 a4 h = some o → Wq g l mX2_greatestBut 0 0 7 [some (va_rf (some a0)), some (.int a1), some (.int a2), some (.int a3), some (.int a4), none] [] h (QI o)) : Wq g l mX2_greatestBut 0 0 30 [some (va_rf (some a0)), some (.int a1), some (.int a2), some (.int a3), some (.int a4), none] [.int s0] h (QI o) := by
  unfold b_X2_greatestBut_30 at hB
  refine q_istore dX2_greatestBut_30 (by decide) (nb_i (j := 4) rfl) ?_
  refine q_iload dX2_greatestBut_32 rfl ?_
  refine q_if_eq (tgt := 62) hB dX2_greatestBut_34 (by decide) (fun hB => ?_) (fun hB => ?_)
  · exact Wq.mask [true, true, true, true, true, false] rfl (wb_X2_greatestBut_62 g l k7 _ _ _ _ _ _ o hB hk7)
  · refine q_iload_n dX2_greatestBut_37 rfl rfl ?_
    refine q_if_eq (tgt := 57) hB dX2_greatestBut_38 (by decide) (fun hB => ?_) (fun hB => ?_)
    · exact Wq.mask [true, true, false, false, true, false] rfl (wb_X2_greatestBut_57 g l k7 _ _ _ _ o hB hk7)
    · refine q_aload_n dX2_greatestBut_41 rfl rfl ?_
      refine q_getP (j := 2) hB dX2_greatestBut_42 fc_2 (by decide) rfl wd_203 (fun n1 hB => ?_)
      refine q_iload dX2_greatestBut_45 rfl ?_
      refine q_iald hB dX2_greatestBut_47 (fun n2 hB => ?_)
      refine q_aload_n dX2_greatestBut_48 rfl rfl ?_
      refine q_getP (j := 2) hB dX2_greatestBut_49 fc_2 (by decide) rfl wd_203 (fun n3 hB => ?_)
      refine q_iload_n dX2_greatestBut_52 rfl rfl ?_
      refine q_iald hB dX2_greatestBut_53 (fun n4 hB => ?_)
      refine q_icmp_le (tgt := 62) hB dX2_greatestBut_54 (by decide) (fun hB => ?_) (fun hB => ?_)
      · exact Wq.mask [true, true, true, true, true, false] rfl (wb_X2_greatestBut_62 g l k7 _ _ _ _ _ _ o hB hk7)
      · exact Wq.mask [true, true, false, false, true, false] rfl (wb_X2_greatestBut_57 g l k7 _ _ _ _ o hB hk7)
set_option maxHeartbeats 4000000 in
set_option maxRecDepth 100000 in
theorem wb_X2_greatestBut_7 (g : GG) (l : Launch) (k7 : Nat → Int32 → Int32 → Int32 → Int32 → HS → Option (Int32 × HS)) (a0 : Nat) (a1 : Int32) (a2 : Int32) (a3 : Int32) (a4 : Int32) (h : HS) (o : Int32 × HS) (hB : b_X2_greatestBut_7 k7 a0 a1 a2 a3 a4 h = some o) (hk7 : ∀ (a0 : Nat) (a1 : Int32) (a2 : Int32) (a3 : Int32) (a4 : Int32) (h : HS), k7 a0 a1 a2 a3 a4 h = some o → Wq g l mX2_greatestBut 0 0 7 [some (va_rf (some a0)), some (.int a1), some (.int a2), some (.int a3), some (.int a4), none] [] h (QI o)) : Wq g l mX2_greatestBut 0 0 7 [some (va_rf (some a0)), some (.int a1), some (.int a2), some (.int a3), some (.int a4), none] [] h (QI o) := by
  unfold b_X2_greatestBut_7 at hB
  refine q_iload dX2_greatestBut_7 rfl ?_
  refine q_aload_n dX2_greatestBut_9 rfl rfl ?_
  refine q_getI (j := 3) hB dX2_greatestBut_10 fc_2 (by decide) rfl wd_204 (fun n1 hB => ?_)
  refine q_icmp_ge (tgt := 68) hB dX2_greatestBut_13 (by decide) (fun hB => ?_) (fun hB => ?_)
  · refine q_iload_n dX2_greatestBut_68 rfl rfl ?_
    exact q_iret hB dX2_greatestBut_69 rfl (by decide) (by decide)
  · refine q_iload_n dX2_greatestBut_16 rfl rfl ?_
    refine q_iload dX2_greatestBut_17 rfl ?_
    refine q_ishr dX2_greatestBut_19 ?_
    refine q_iconst (v := 1) dX2_greatestBut_20 (by decide) ?_
    refine q_iand dX2_greatestBut_21 ?_
    refine q_if_ne (tgt := 29) hB dX2_greatestBut_22 (by decide) (fun hB => ?_) (fun hB => ?_)
    · refine q_iconst (v := 0) dX2_greatestBut_29 (by decide) ?_
      exact Wq.mask [true, true, true, true, true, false] rfl (wb_X2_greatestBut_30 g l k7 _ _ _ _ _ _ _ o hB hk7)
    · refine q_iconst (v := 1) dX2_greatestBut_25 (by decide) ?_
      refine q_goto (tgt := 30) dX2_greatestBut_26 (by decide) ?_
      exact Wq.mask [true, true, true, true, true, false] rfl (wb_X2_greatestBut_30 g l k7 _ _ _ _ _ _ _ o hB hk7)
set_option maxHeartbeats 4000000 in
theorem wl_X2_greatestBut_7 (g : GG) (l : Launch) (o : Int32 × HS) : ∀ (n : Nat) (a0 : Nat) (a1 : Int32) (a2 : Int32) (a3 : Int32) (a4 : Int32) (h : HS), l_X2_greatestBut_7 n a0 a1 a2 a3 a4 h = some o → Wq g l mX2_greatestBut 0 0 7 [some (va_rf (some a0)), some (.int a1), some (.int a2), some (.int a3), some (.int a4), none] [] h (QI o) := by
  intro n
  induction n with
  | zero =>
    intro a0 a1 a2 a3 a4  h hB
    have q : (none : Option (Int32 × HS)) = some o := hB
    cases q
  | succ n ih =>
    intro a0 a1 a2 a3 a4  h hB
    exact wb_X2_greatestBut_7 g l (l_X2_greatestBut_7 n) a0 a1 a2 a3 a4 h o hB ih
set_option maxHeartbeats 4000000 in
set_option maxRecDepth 100000 in
theorem c_X2_greatestBut (g : GG) (l : Launch) (a0 : Nat) (a1 : Int32) (h : HS) (o : Int32 × HS) (hB : f_X2_greatestBut a0 a1 h = some o) : Ct g l mX2_greatestBut [va_rf (some a0), .int a1] h (QI o) := by
  refine Ct.of2 (lv0 := [some (va_rf (some a0)), some (.int a1), none, none, none, none]) (by decide +kernel) (by simp [lg_sl, rf_cat, cat_i, cat_l]) rfl ?_
  unfold f_X2_greatestBut at hB
  refine q_iconst (v := 0) dX2_greatestBut_0 (by decide) ?_
  refine q_istore_n dX2_greatestBut_1 rfl (by decide) (nb_i (j := 1) rfl) ?_
  refine q_iconst (v := 0) dX2_greatestBut_2 (by decide) ?_
  refine q_istore_n dX2_greatestBut_3 rfl (by decide) (nb_i (j := 2) rfl) ?_
  refine q_iconst (v := 0) dX2_greatestBut_4 (by decide) ?_
  refine q_istore dX2_greatestBut_5 (by decide) (nb_i (j := 3) rfl) ?_
  exact Wq.mask [true, true, true, true, true, false] rfl (wl_X2_greatestBut_7 g l o FU _ _ _ _ _ _ hB)

def b_X2_closeUp_104  (h : HS) : Option (Unit × HS) :=
  some ((), h)
def b_X2_closeUp_68  (k7 : Nat → Int32 → Int32 → Int32 → Int32 → HS → Option (Unit × HS)) (a0 : Nat) (a1 : Int32) (a2 : Int32) (a3 : Int32) (a4 : Int32) (h : HS) : Option (Unit × HS) :=
  k7 a0 a1 a2 a3 (a4 + (1 : Int32)) h
def b_X2_closeUp_7  (k7 : Nat → Int32 → Int32 → Int32 → Int32 → HS → Option (Unit × HS)) (a0 : Nat) (a1 : Int32) (a2 : Int32) (a3 : Int32) (a4 : Int32) (h : HS) : Option (Unit × HS) :=
  nn (some a0) (fun n1 => gd (ck h n1 2) ((if (hI h n1 3) ≤ a4 then nn (some a0) (fun n2 => gd (ck h n2 2) ((if (hI h n2 3) ≤ a3 then b_X2_closeUp_104 h else nn (some a0) (fun n3 => gd (ck h n3 2) (nn (hP h n3 0) (fun n4 => gd (ca h n4 9 a3) (hl (sI h n4 a3.toNatClampNeg (99 : Int32)) (fun h5 => nn (some a0) (fun n6 => gd (ck h5 n6 2) (nn (hP h5 n6 1) (fun n7 => gd (ca h5 n7 9 a3) (hl (sI h5 n7 a3.toNatClampNeg a2) (fun h8 => nn (some a0) (fun n9 => gd (ck h8 n9 2) (hl (sI h8 n9 3 (a3 + (1 : Int32))) (fun h10 => b_X2_closeUp_104 h10)))))))))))))))) else (if ((a1 >>> (a4 &&& 31)) &&& (1 : Int32)) = (1 : Int32) then nn (some a0) (fun n13 => gd (ck h n13 2) (nn (some a0) (fun n14 => gd (ck h n14 2) (nn (hP h n14 0) (fun n15 => gd (ca h n15 9 a4) (nn (hP h n13 0) (fun n16 => gd (ca h n16 9 a3) (hl (sI h n16 a3.toNatClampNeg (hI h n15 a4.toNatClampNeg)) (fun h17 => nn (some a0) (fun n18 => gd (ck h17 n18 2) (nn (some a0) (fun n19 => gd (ck h17 n19 2) (nn (hP h17 n19 1) (fun n20 => gd (ca h17 n20 9 a4) (nn (hP h17 n18 1) (fun n21 => gd (ca h17 n21 9 a3) (hl (sI h17 n21 a3.toNatClampNeg (hI h17 n20 a4.toNatClampNeg)) (fun h22 => b_X2_closeUp_68 k7 a0 a1 a2 (a3 + (1 : Int32)) a4 h22)))))))))))))))))) else nn (some a0) (fun n11 => gd (ck h n11 2) (nn (hP h n11 1) (fun n12 => gd (ca h n12 9 a4) (b_X2_closeUp_68 k7 a0 a1 (a2 ||| (hI h n12 a4.toNatClampNeg)) a3 a4 h))))))))
def l_X2_closeUp_7  : Nat → Nat → Int32 → Int32 → Int32 → Int32 → HS → Option (Unit × HS)
  | 0 => fun _ _ _ _ _ _ => none
  | n + 1 => b_X2_closeUp_7 (l_X2_closeUp_7 n)
def f_X2_closeUp  (a0 : Nat) (a1 : Int32) (h : HS) : Option (Unit × HS) :=
  l_X2_closeUp_7 FU a0 a1 (0 : Int32) (0 : Int32) (0 : Int32) h
set_option maxHeartbeats 4000000 in
set_option maxRecDepth 100000 in
theorem wb_X2_closeUp_104 (g : GG) (l : Launch) (h : HS) (o : Unit × HS) (hB : b_X2_closeUp_104  h = some o) : Wq g l mX2_closeUp 0 0 104 [none, none, none, none, none] [] h (QV o) := by
  unfold b_X2_closeUp_104 at hB
  exact q_vret hB dX2_closeUp_104 rfl (by decide) (by decide)
set_option maxHeartbeats 4000000 in
set_option maxRecDepth 100000 in
theorem wb_X2_closeUp_68 (g : GG) (l : Launch) (k7 : Nat → Int32 → Int32 → Int32 → Int32 → HS → Option (Unit × HS)) (a0 : Nat) (a1 : Int32) (a2 : Int32) (a3 : Int32) (a4 : Int32) (h : HS) (o : Unit × HS) (hB : b_X2_closeUp_68 k7 a0 a1 a2 a3 a4 h = some o) (hk7 : ∀ (a0 : Nat) (a1 : Int32) (a2 : Int32) (a3 : Int32) (a4 : Int32) (h : HS), k7 a0 a1 a2 a3 a4 h = some o → Wq g l mX2_closeUp 0 0 7 [some (va_rf (some a0)), some (.int a1), some (.int a2), some (.int a3), some (.int a4)] [] h (QV o)) : Wq g l mX2_closeUp 0 0 68 [some (va_rf (some a0)), some (.int a1), some (.int a2), some (.int a3), some (.int a4)] [] h (QV o) := by
  unfold b_X2_closeUp_68 at hB
  refine q_iinc dX2_closeUp_68 rfl (show _ = (a4 + (1 : Int32)) from rfl) (by decide) (nb_i (j := 3) rfl) ?_
  refine q_goto (tgt := 7) dX2_closeUp_71 (by decide) ?_
  exact Wq.mask [true, true, true, true, true] rfl (hk7 _ _ _ _ _ _ hB)
set_option maxHeartbeats 4000000 in
set_option maxRecDepth 100000 in
theorem wb_X2_closeUp_7 (g : GG) (l : Launch) (k7 : Nat → Int32 → Int32 → Int32 → Int32 → HS → Option (Unit × HS)) (a0 : Nat) (a1 : Int32) (a2 : Int32) (a3 : Int32) (a4 : Int32) (h : HS) (o : Unit × HS) (hB : b_X2_closeUp_7 k7 a0 a1 a2 a3 a4 h = some o) (hk7 : ∀ (a0 : Nat) (a1 : Int32) (a2 : Int32) (a3 : Int32) (a4 : Int32) (h : HS), k7 a0 a1 a2 a3 a4 h = some o → Wq g l mX2_closeUp 0 0 7 [some (va_rf (some a0)), some (.int a1), some (.int a2), some (.int a3), some (.int a4)] [] h (QV o)) : Wq g l mX2_closeUp 0 0 7 [some (va_rf (some a0)), some (.int a1), some (.int a2), some (.int a3), some (.int a4)] [] h (QV o) := by
  unfold b_X2_closeUp_7 at hB
  refine q_iload dX2_closeUp_7 rfl ?_
  refine q_aload_n dX2_closeUp_9 rfl rfl ?_
  refine q_getI (j := 3) hB dX2_closeUp_10 fc_2 (by decide) rfl wd_204 (fun n1 hB => ?_)
  refine q_icmp_ge (tgt := 74) hB dX2_closeUp_13 (by decide) (fun hB => ?_) (fun hB => ?_)
  · refine q_iload_n dX2_closeUp_74 rfl rfl ?_
    refine q_aload_n dX2_closeUp_75 rfl rfl ?_
    refine q_getI (j := 3) hB dX2_closeUp_76 fc_2 (by decide) rfl wd_204 (fun n2 hB => ?_)
    refine q_icmp_ge (tgt := 104) hB dX2_closeUp_79 (by decide) (fun hB => ?_) (fun hB => ?_)
    · exact Wq.mask [false, false, false, false, false] rfl (wb_X2_closeUp_104 g l _ o hB)
    · refine q_aload_n dX2_closeUp_82 rfl rfl ?_
      refine q_getP (j := 0) hB dX2_closeUp_83 fc_2 (by decide) rfl wd_200 (fun n3 hB => ?_)
      refine q_iload_n dX2_closeUp_86 rfl rfl ?_
      refine q_bipush (v := 99) dX2_closeUp_87 (by decide) ?_
      refine q_iast hB dX2_closeUp_89 (fun n4 hB => ?_)
      refine q_nm hB (fun h5 hB => ?_)
      refine q_aload_n dX2_closeUp_90 rfl rfl ?_
      refine q_getP (j := 1) hB dX2_closeUp_91 fc_2 (by decide) rfl wd_202 (fun n6 hB => ?_)
      refine q_iload_n dX2_closeUp_94 rfl rfl ?_
      refine q_iload_n dX2_closeUp_95 rfl rfl ?_
      refine q_iast hB dX2_closeUp_96 (fun n7 hB => ?_)
      refine q_nm hB (fun h8 hB => ?_)
      refine q_aload_n dX2_closeUp_97 rfl rfl ?_
      refine q_iload_n dX2_closeUp_98 rfl rfl ?_
      refine q_iconst (v := 1) dX2_closeUp_99 (by decide) ?_
      refine q_iadd dX2_closeUp_100 ?_
      refine q_putI (j := 3) hB dX2_closeUp_101 fc_2 (by decide) rfl wd_204 rfl (fun n9 hB => ?_)
      refine q_nm hB (fun h10 hB => ?_)
      exact Wq.mask [false, false, false, false, false] rfl (wb_X2_closeUp_104 g l _ o hB)
  · refine q_iload_n dX2_closeUp_16 rfl rfl ?_
    refine q_iload dX2_closeUp_17 rfl ?_
    refine q_ishr dX2_closeUp_19 ?_
    refine q_iconst (v := 1) dX2_closeUp_20 (by decide) ?_
    refine q_iand dX2_closeUp_21 ?_
    refine q_iconst (v := 1) dX2_closeUp_22 (by decide) ?_
    refine q_icmp_ne (tgt := 58) hB dX2_closeUp_23 (by decide) (fun hB => ?_) (fun hB => ?_)
    · refine q_iload_n dX2_closeUp_58 rfl rfl ?_
      refine q_aload_n dX2_closeUp_59 rfl rfl ?_
      refine q_getP (j := 1) hB dX2_closeUp_60 fc_2 (by decide) rfl wd_202 (fun n11 hB => ?_)
      refine q_iload dX2_closeUp_63 rfl ?_
      refine q_iald hB dX2_closeUp_65 (fun n12 hB => ?_)
      refine q_ior dX2_closeUp_66 ?_
      refine q_istore_n dX2_closeUp_67 rfl (by decide) (nb_i (j := 1) rfl) ?_
      exact Wq.mask [true, true, true, true, true] rfl (wb_X2_closeUp_68 g l k7 _ _ _ _ _ _ o hB hk7)
    · refine q_aload_n dX2_closeUp_26 rfl rfl ?_
      refine q_getP (j := 0) hB dX2_closeUp_27 fc_2 (by decide) rfl wd_200 (fun n13 hB => ?_)
      refine q_iload_n dX2_closeUp_30 rfl rfl ?_
      refine q_aload_n dX2_closeUp_31 rfl rfl ?_
      refine q_getP (j := 0) hB dX2_closeUp_32 fc_2 (by decide) rfl wd_200 (fun n14 hB => ?_)
      refine q_iload dX2_closeUp_35 rfl ?_
      refine q_iald hB dX2_closeUp_37 (fun n15 hB => ?_)
      refine q_iast hB dX2_closeUp_38 (fun n16 hB => ?_)
      refine q_nm hB (fun h17 hB => ?_)
      refine q_aload_n dX2_closeUp_39 rfl rfl ?_
      refine q_getP (j := 1) hB dX2_closeUp_40 fc_2 (by decide) rfl wd_202 (fun n18 hB => ?_)
      refine q_iload_n dX2_closeUp_43 rfl rfl ?_
      refine q_aload_n dX2_closeUp_44 rfl rfl ?_
      refine q_getP (j := 1) hB dX2_closeUp_45 fc_2 (by decide) rfl wd_202 (fun n19 hB => ?_)
      refine q_iload dX2_closeUp_48 rfl ?_
      refine q_iald hB dX2_closeUp_50 (fun n20 hB => ?_)
      refine q_iast hB dX2_closeUp_51 (fun n21 hB => ?_)
      refine q_nm hB (fun h22 hB => ?_)
      refine q_iinc dX2_closeUp_52 rfl (show _ = (a3 + (1 : Int32)) from rfl) (by decide) (nb_i (j := 2) rfl) ?_
      refine q_goto (tgt := 68) dX2_closeUp_55 (by decide) ?_
      exact Wq.mask [true, true, true, true, true] rfl (wb_X2_closeUp_68 g l k7 _ _ _ _ _ _ o hB hk7)
set_option maxHeartbeats 4000000 in
theorem wl_X2_closeUp_7 (g : GG) (l : Launch) (o : Unit × HS) : ∀ (n : Nat) (a0 : Nat) (a1 : Int32) (a2 : Int32) (a3 : Int32) (a4 : Int32) (h : HS), l_X2_closeUp_7 n a0 a1 a2 a3 a4 h = some o → Wq g l mX2_closeUp 0 0 7 [some (va_rf (some a0)), some (.int a1), some (.int a2), some (.int a3), some (.int a4)] [] h (QV o) := by
  intro n
  induction n with
  | zero =>
    intro a0 a1 a2 a3 a4  h hB
    have q : (none : Option (Unit × HS)) = some o := hB
    cases q
  | succ n ih =>
    intro a0 a1 a2 a3 a4  h hB
    exact wb_X2_closeUp_7 g l (l_X2_closeUp_7 n) a0 a1 a2 a3 a4 h o hB ih
set_option maxHeartbeats 4000000 in
set_option maxRecDepth 100000 in
theorem c_X2_closeUp (g : GG) (l : Launch) (a0 : Nat) (a1 : Int32) (h : HS) (o : Unit × HS) (hB : f_X2_closeUp a0 a1 h = some o) : Ct g l mX2_closeUp [va_rf (some a0), .int a1] h (QV o) := by
  refine Ct.of2 (lv0 := [some (va_rf (some a0)), some (.int a1), none, none, none]) (by decide +kernel) (by simp [lg_sl, rf_cat, cat_i, cat_l]) rfl ?_
  unfold f_X2_closeUp at hB
  refine q_iconst (v := 0) dX2_closeUp_0 (by decide) ?_
  refine q_istore_n dX2_closeUp_1 rfl (by decide) (nb_i (j := 1) rfl) ?_
  refine q_iconst (v := 0) dX2_closeUp_2 (by decide) ?_
  refine q_istore_n dX2_closeUp_3 rfl (by decide) (nb_i (j := 2) rfl) ?_
  refine q_iconst (v := 0) dX2_closeUp_4 (by decide) ?_
  refine q_istore dX2_closeUp_5 (by decide) (nb_i (j := 3) rfl) ?_
  exact Wq.mask [true, true, true, true, true] rfl (wl_X2_closeUp_7 g l o FU _ _ _ _ _ _ hB)

def b_X2_foldRest_13  (h : HS) : Option (Unit × HS) :=
  some ((), h)
def b_X2_foldRest_57  (k57 : Nat → Int32 → Int32 → Int32 → HS → Option (Unit × HS)) (a0 : Nat) (a3 : Int32) (a4 : Int32) (a5 : Int32) (h : HS) : Option (Unit × HS) :=
  (if a3 ≤ a5 then nn (some a0) (fun n2 => gd (rk h n2 2) (bd (f_X2_closeUp n2 a4 h) (fun r1 => some ((), r1.2)))) else nn (some a0) (fun n4 => gd (rk h n4 2) (bd (f_X2_greatestBut n4 a4 h) (fun r3 => k57 a0 a3 (a4 ||| ((1 : Int32) <<< (r3.1 &&& 31))) (a5 + (1 : Int32)) r3.2))))
def l_X2_foldRest_57  : Nat → Nat → Int32 → Int32 → Int32 → HS → Option (Unit × HS)
  | 0 => fun _ _ _ _ _ => none
  | n + 1 => b_X2_foldRest_57 (l_X2_foldRest_57 n)
def b_X2_foldRest_17  (k17 : Nat → Option Nat → Option Nat → Int32 → Int32 → HS → Option (Unit × HS)) (a0 : Nat) (a1 : Option Nat) (a2 : Option Nat) (a3 : Int32) (a4 : Int32) (h : HS) : Option (Unit × HS) :=
  nn (some a0) (fun n1 => gd (ck h n1 2) ((if (hI h n1 3) ≤ a4 then l_X2_foldRest_57 FU a0 a3 (0 : Int32) (0 : Int32) h else nn (some a0) (fun n2 => gd (ck h n2 2) (nn (some a0) (fun n3 => gd (ck h n3 2) (nn (hP h n3 1) (fun n4 => gd (ca h n4 9 a4) (nn a2 (fun n6 => gd (rk h n6 21) (bd (f_X5_of n6 a1 (hI h n4 a4.toNatClampNeg) h) (fun r5 => nn (hP h n2 2) (fun n7 => gd (ca r5.2 n7 9 a4) (k17 a0 a1 a2 a3 (a4 + (1 : Int32)) (sI r5.2 n7 a4.toNatClampNeg r5.1)))))))))))))))
def l_X2_foldRest_17  : Nat → Nat → Option Nat → Option Nat → Int32 → Int32 → HS → Option (Unit × HS)
  | 0 => fun _ _ _ _ _ _ => none
  | n + 1 => b_X2_foldRest_17 (l_X2_foldRest_17 n)
def f_X2_foldRest  (a0 : Nat) (a1 : Option Nat) (a2 : Option Nat) (a3 : Int32) (h : HS) : Option (Unit × HS) :=
  (if a3 < (1 : Int32) then b_X2_foldRest_13 h else nn (some a0) (fun n1 => gd (ck h n1 2) ((if a3 < (hI h n1 3) then l_X2_foldRest_17 FU a0 a1 a2 a3 (0 : Int32) h else b_X2_foldRest_13 h))))
set_option maxHeartbeats 4000000 in
set_option maxRecDepth 100000 in
theorem wb_X2_foldRest_13 (g : GG) (l : Launch) (h : HS) (o : Unit × HS) (hB : b_X2_foldRest_13  h = some o) : Wq g l mX2_foldRest 0 0 13 [none, none, none, none, none, none] [] h (QV o) := by
  unfold b_X2_foldRest_13 at hB
  exact q_vret hB dX2_foldRest_13 rfl (by decide) (by decide)
set_option maxHeartbeats 4000000 in
set_option maxRecDepth 100000 in
theorem wb_X2_foldRest_57 (g : GG) (l : Launch) (k57 : Nat → Int32 → Int32 → Int32 → HS → Option (Unit × HS)) (a0 : Nat) (a3 : Int32) (a4 : Int32) (a5 : Int32) (h : HS) (o : Unit × HS) (hB : b_X2_foldRest_57 k57 a0 a3 a4 a5 h = some o) (hk57 : ∀ (a0 : Nat) (a3 : Int32) (a4 : Int32) (a5 : Int32) (h : HS), k57 a0 a3 a4 a5 h = some o → Wq g l mX2_foldRest 0 0 57 [some (va_rf (some a0)), none, none, some (.int a3), some (.int a4), some (.int a5)] [] h (QV o)) : Wq g l mX2_foldRest 0 0 57 [some (va_rf (some a0)), none, none, some (.int a3), some (.int a4), some (.int a5)] [] h (QV o) := by
  unfold b_X2_foldRest_57 at hB
  refine q_iload dX2_foldRest_57 rfl ?_
  refine q_iload_n dX2_foldRest_59 rfl rfl ?_
  refine q_icmp_ge (tgt := 82) hB dX2_foldRest_60 (by decide) (fun hB => ?_) (fun hB => ?_)
  · refine q_aload_n dX2_foldRest_82 rfl rfl ?_
    refine q_iload dX2_foldRest_83 rfl ?_
    refine q_callVV (k' := 0) (w' := 0) hB (fun b a hf => c_X2_closeUp g l b _ _ a hf) rfl rfl dX2_foldRest_85 wd_445 cs_X2_closeUp wd_447 wd_5 rfl ⟨⟨Nat.le_of_ble_eq_true rfl, Nat.le_of_ble_eq_true rfl⟩, ⟨Nat.le_of_ble_eq_true rfl, Nat.le_of_ble_eq_true rfl⟩, Nat.le_of_ble_eq_true rfl⟩ rfl rfl (fun n2 r1 hB => ?_)
    exact q_vret hB dX2_foldRest_88 rfl (by decide) (by decide)
  · refine q_iload dX2_foldRest_63 rfl ?_
    refine q_iconst (v := 1) dX2_foldRest_65 (by decide) ?_
    refine q_aload_n dX2_foldRest_66 rfl rfl ?_
    refine q_iload dX2_foldRest_67 rfl ?_
    refine q_callVI (k' := 0) (w' := 0) hB (fun b a hf => c_X2_greatestBut g l b _ _ a hf) rfl rfl dX2_foldRest_69 wd_441 cs_X2_greatestBut wd_443 wd_4 rfl ⟨⟨Nat.le_of_ble_eq_true rfl, Nat.le_of_ble_eq_true rfl⟩, ⟨Nat.le_of_ble_eq_true rfl, Nat.le_of_ble_eq_true rfl⟩, by simp [rf_cat, cat_i, cat_l]⟩ rfl rfl (fun n4 r3 hB => ?_)
    refine q_ishl dX2_foldRest_72 ?_
    refine q_ior dX2_foldRest_73 ?_
    refine q_istore dX2_foldRest_74 (by decide) (nb_i (j := 3) rfl) ?_
    refine q_iinc dX2_foldRest_76 rfl (show _ = (a5 + (1 : Int32)) from rfl) (by decide) (nb_i (j := 4) rfl) ?_
    refine q_goto (tgt := 57) dX2_foldRest_79 (by decide) ?_
    exact Wq.mask [true, false, false, true, true, true] rfl (hk57 _ _ _ _ _ hB)
set_option maxHeartbeats 4000000 in
theorem wl_X2_foldRest_57 (g : GG) (l : Launch) (o : Unit × HS) : ∀ (n : Nat) (a0 : Nat) (a3 : Int32) (a4 : Int32) (a5 : Int32) (h : HS), l_X2_foldRest_57 n a0 a3 a4 a5 h = some o → Wq g l mX2_foldRest 0 0 57 [some (va_rf (some a0)), none, none, some (.int a3), some (.int a4), some (.int a5)] [] h (QV o) := by
  intro n
  induction n with
  | zero =>
    intro a0 a3 a4 a5  h hB
    have q : (none : Option (Unit × HS)) = some o := hB
    cases q
  | succ n ih =>
    intro a0 a3 a4 a5  h hB
    exact wb_X2_foldRest_57 g l (l_X2_foldRest_57 n) a0 a3 a4 a5 h o hB ih
set_option maxHeartbeats 4000000 in
set_option maxRecDepth 100000 in
theorem wb_X2_foldRest_17 (g : GG) (l : Launch) (k17 : Nat → Option Nat → Option Nat → Int32 → Int32 → HS → Option (Unit × HS)) (a0 : Nat) (a1 : Option Nat) (a2 : Option Nat) (a3 : Int32) (a4 : Int32) (h : HS) (o : Unit × HS) (hB : b_X2_foldRest_17 k17 a0 a1 a2 a3 a4 h = some o) (hk17 : ∀ (a0 : Nat) (a1 : Option Nat) (a2 : Option Nat) (a3 : Int32) (a4 : Int32) (h : HS), k17 a0 a1 a2 a3 a4 h = some o → Wq g l mX2_foldRest 0 0 17 [some (va_rf (some a0)), some (va_rf a1), some (va_rf a2), some (.int a3), some (.int a4), none] [] h (QV o)) : Wq g l mX2_foldRest 0 0 17 [some (va_rf (some a0)), some (va_rf a1), some (va_rf a2), some (.int a3), some (.int a4), none] [] h (QV o) := by
  unfold b_X2_foldRest_17 at hB
  refine q_iload dX2_foldRest_17 rfl ?_
  refine q_aload_n dX2_foldRest_19 rfl rfl ?_
  refine q_getI (j := 3) hB dX2_foldRest_20 fc_2 (by decide) rfl wd_204 (fun n1 hB => ?_)
  refine q_icmp_ge (tgt := 51) hB dX2_foldRest_23 (by decide) (fun hB => ?_) (fun hB => ?_)
  · refine q_iconst (v := 0) dX2_foldRest_51 (by decide) ?_
    refine q_istore dX2_foldRest_52 (by decide) (nb_i (j := 3) rfl) ?_
    refine q_iconst (v := 0) dX2_foldRest_54 (by decide) ?_
    refine q_istore dX2_foldRest_55 (by decide) (nb_i (j := 4) rfl) ?_
    exact Wq.mask [true, false, false, true, true, true] rfl (wl_X2_foldRest_57 g l o FU _ _ _ _ _ hB)
  · refine q_aload_n dX2_foldRest_26 rfl rfl ?_
    refine q_getP (j := 2) hB dX2_foldRest_27 fc_2 (by decide) rfl wd_203 (fun n2 hB => ?_)
    refine q_iload dX2_foldRest_30 rfl ?_
    refine q_aload_n dX2_foldRest_32 rfl rfl ?_
    refine q_aload_n dX2_foldRest_33 rfl rfl ?_
    refine q_aload_n dX2_foldRest_34 rfl rfl ?_
    refine q_getP (j := 1) hB dX2_foldRest_35 fc_2 (by decide) rfl wd_202 (fun n3 hB => ?_)
    refine q_iload dX2_foldRest_38 rfl ?_
    refine q_iald hB dX2_foldRest_40 (fun n4 hB => ?_)
    refine q_callVI (k' := 0) (w' := 0) hB (fun b a hf => c_X5_of g l b _ _ _ a hf) rfl rfl dX2_foldRest_41 wd_405 cs_X5_of wd_406 wd_407 rfl ⟨⟨Nat.le_of_ble_eq_true rfl, Nat.le_of_ble_eq_true rfl⟩, ⟨Nat.le_of_ble_eq_true rfl, Nat.le_of_ble_eq_true rfl⟩, by simp [rf_cat, cat_i, cat_l]⟩ rfl rfl (fun n6 r5 hB => ?_)
    refine q_iast hB dX2_foldRest_44 (fun n7 hB => ?_)
    refine q_iinc dX2_foldRest_45 rfl (show _ = (a4 + (1 : Int32)) from rfl) (by decide) (nb_i (j := 3) rfl) ?_
    refine q_goto (tgt := 17) dX2_foldRest_48 (by decide) ?_
    exact Wq.mask [true, true, true, true, true, false] rfl (hk17 _ _ _ _ _ _ hB)
set_option maxHeartbeats 4000000 in
theorem wl_X2_foldRest_17 (g : GG) (l : Launch) (o : Unit × HS) : ∀ (n : Nat) (a0 : Nat) (a1 : Option Nat) (a2 : Option Nat) (a3 : Int32) (a4 : Int32) (h : HS), l_X2_foldRest_17 n a0 a1 a2 a3 a4 h = some o → Wq g l mX2_foldRest 0 0 17 [some (va_rf (some a0)), some (va_rf a1), some (va_rf a2), some (.int a3), some (.int a4), none] [] h (QV o) := by
  intro n
  induction n with
  | zero =>
    intro a0 a1 a2 a3 a4  h hB
    have q : (none : Option (Unit × HS)) = some o := hB
    cases q
  | succ n ih =>
    intro a0 a1 a2 a3 a4  h hB
    exact wb_X2_foldRest_17 g l (l_X2_foldRest_17 n) a0 a1 a2 a3 a4 h o hB ih
set_option maxHeartbeats 4000000 in
set_option maxRecDepth 100000 in
theorem c_X2_foldRest (g : GG) (l : Launch) (a0 : Nat) (a1 : Option Nat) (a2 : Option Nat) (a3 : Int32) (h : HS) (o : Unit × HS) (hB : f_X2_foldRest a0 a1 a2 a3 h = some o) : Ct g l mX2_foldRest [va_rf (some a0), va_rf a1, va_rf a2, .int a3] h (QV o) := by
  refine Ct.of2 (lv0 := [some (va_rf (some a0)), some (va_rf a1), some (va_rf a2), some (.int a3), none, none]) (by decide +kernel) (by simp [lg_sl, rf_cat, cat_i, cat_l]) (by simp only [entL_r, entL_i, entL_l]; rfl) ?_
  unfold f_X2_foldRest at hB
  refine q_iload_n dX2_foldRest_0 rfl rfl ?_
  refine q_iconst (v := 1) dX2_foldRest_1 (by decide) ?_
  refine q_icmp_lt (tgt := 13) hB dX2_foldRest_2 (by decide) (fun hB => ?_) (fun hB => ?_)
  · exact Wq.mask [false, false, false, false, false, false] rfl (wb_X2_foldRest_13 g l _ o hB)
  · refine q_aload_n dX2_foldRest_5 rfl rfl ?_
    refine q_getI (j := 3) hB dX2_foldRest_6 fc_2 (by decide) rfl wd_204 (fun n1 hB => ?_)
    refine q_iload_n dX2_foldRest_9 rfl rfl ?_
    refine q_icmp_gt (tgt := 14) hB dX2_foldRest_10 (by decide) (fun hB => ?_) (fun hB => ?_)
    · refine q_iconst (v := 0) dX2_foldRest_14 (by decide) ?_
      refine q_istore dX2_foldRest_15 (by decide) (nb_i (j := 3) rfl) ?_
      exact Wq.mask [true, true, true, true, true, false] rfl (wl_X2_foldRest_17 g l o FU _ _ _ _ _ _ hB)
    · exact Wq.mask [false, false, false, false, false, false] rfl (wb_X2_foldRest_13 g l _ o hB)

def f_X9_rowsOf  (a0 : Nat) (a1 : Option Nat) (h : HS) : Option (Option Nat × HS) :=
  nn (some a0) (fun n1 => gd (ck h n1 7) (nn (some a0) (fun n2 => gd (ck h n2 7) (nn (hP h n2 1) (fun n3 => gd (ck h n3 4) (nn (some a0) (fun n4 => gd (ck h n4 7) (nn (hP h n4 1) (fun n5 => gd (ck h n5 4) (nn (hP h n1 6) (fun n7 => gd (rk h n7 2) (bd (f_X2_gather n7 a1 (hP h n3 0) (hI h n5 4) h) (fun r6 => nn (some a0) (fun n8 => gd (ck r6.2 n8 7) (nn (some a0) (fun n9 => gd (ck r6.2 n9 7) (nn (hP r6.2 n9 1) (fun n10 => gd (ck r6.2 n10 4) (nn (some a0) (fun n11 => gd (ck r6.2 n11 7) (nn (hP r6.2 n11 1) (fun n12 => gd (ck r6.2 n12 4) (nn (hP r6.2 n8 6) (fun n14 => gd (rk r6.2 n14 2) (bd (f_X2_foldRest n14 a1 (hP r6.2 n10 2) (hI r6.2 n12 3) r6.2) (fun r13 => nn (some a0) (fun n15 => gd (ck r13.2 n15 7) (some ((hP r13.2 n15 6), r13.2)))))))))))))))))))))))))))))
set_option maxHeartbeats 4000000 in
set_option maxRecDepth 100000 in
theorem c_X9_rowsOf (g : GG) (l : Launch) (a0 : Nat) (a1 : Option Nat) (h : HS) (o : Option Nat × HS) (hB : f_X9_rowsOf a0 a1 h = some o) : Ct g l mX9_rowsOf [va_rf (some a0), va_rf a1] h (QP o) := by
  refine Ct.of2 (lv0 := [some (va_rf (some a0)), some (va_rf a1)]) (by decide +kernel) (by simp [lg_sl, rf_cat, cat_i, cat_l]) (by simp only [entL_r, entL_i, entL_l]; rfl) ?_
  unfold f_X9_rowsOf at hB
  refine q_aload_n dX9_rowsOf_0 rfl rfl ?_
  refine q_getP (j := 6) hB dX9_rowsOf_1 fc_7 (by decide) rfl wd_246 (fun n1 hB => ?_)
  refine q_aload_n dX9_rowsOf_4 rfl rfl ?_
  refine q_aload_n dX9_rowsOf_5 rfl rfl ?_
  refine q_getP (j := 1) hB dX9_rowsOf_6 fc_7 (by decide) rfl wd_241 (fun n2 hB => ?_)
  refine q_getP (j := 0) hB dX9_rowsOf_9 fc_4 (by decide) rfl wd_105 (fun n3 hB => ?_)
  refine q_aload_n dX9_rowsOf_12 rfl rfl ?_
  refine q_getP (j := 1) hB dX9_rowsOf_13 fc_7 (by decide) rfl wd_241 (fun n4 hB => ?_)
  refine q_getI (j := 4) hB dX9_rowsOf_16 fc_4 (by decide) rfl wd_117 (fun n5 hB => ?_)
  refine q_callVV (k' := 0) (w' := 0) hB (fun b a hf => c_X2_gather g l b _ _ _ _ a hf) rfl rfl dX9_rowsOf_19 wd_384 cs_X2_gather wd_385 wd_386 rfl ⟨⟨Nat.le_of_ble_eq_true rfl, Nat.le_of_ble_eq_true rfl⟩, ⟨Nat.le_of_ble_eq_true rfl, Nat.le_of_ble_eq_true rfl⟩, Nat.le_of_ble_eq_true rfl⟩ rfl rfl (fun n7 r6 hB => ?_)
  refine q_aload_n dX9_rowsOf_22 rfl rfl ?_
  refine q_getP (j := 6) hB dX9_rowsOf_23 fc_7 (by decide) rfl wd_246 (fun n8 hB => ?_)
  refine q_aload_n dX9_rowsOf_26 rfl rfl ?_
  refine q_aload_n dX9_rowsOf_27 rfl rfl ?_
  refine q_getP (j := 1) hB dX9_rowsOf_28 fc_7 (by decide) rfl wd_241 (fun n9 hB => ?_)
  refine q_getP (j := 2) hB dX9_rowsOf_31 fc_4 (by decide) rfl wd_111 (fun n10 hB => ?_)
  refine q_aload_n dX9_rowsOf_34 rfl rfl ?_
  refine q_getP (j := 1) hB dX9_rowsOf_35 fc_7 (by decide) rfl wd_241 (fun n11 hB => ?_)
  refine q_getI (j := 3) hB dX9_rowsOf_38 fc_4 (by decide) rfl wd_114 (fun n12 hB => ?_)
  refine q_callVV (k' := 0) (w' := 0) hB (fun b a hf => c_X2_foldRest g l b _ _ _ _ a hf) rfl rfl dX9_rowsOf_41 wd_401 cs_X2_foldRest wd_402 wd_403 rfl ⟨⟨Nat.le_of_ble_eq_true rfl, Nat.le_of_ble_eq_true rfl⟩, ⟨Nat.le_of_ble_eq_true rfl, Nat.le_of_ble_eq_true rfl⟩, Nat.le_of_ble_eq_true rfl⟩ rfl rfl (fun n14 r13 hB => ?_)
  refine q_aload_n dX9_rowsOf_44 rfl rfl ?_
  refine q_getP (j := 6) hB dX9_rowsOf_45 fc_7 (by decide) rfl wd_246 (fun n15 hB => ?_)
  exact q_aret hB dX9_rowsOf_48 rfl (by decide) (by decide)

def f_X9_plan  (a0 : Nat) (h : HS) : Option (Int32 × HS) :=
  nn (some a0) (fun n1 => gd (ck h n1 7) (nn (some a0) (fun n2 => gd (ck h n2 7) (nn (hP h n1 0) (fun n4 => gd (rk h n4 5) (bd (f_X7_readInto n4 (hP h n2 2) h) (fun r3 => (if r3.1 = (-9 : Int32) then nn (some a0) (fun n5 => gd (ck r3.2 n5 7) (nn (some a0) (fun n6 => gd (ck r3.2 n6 7) (nn (some a0) (fun n7 => gd (ck r3.2 n7 7) (hl (sP r3.2 n7 1 (hP r3.2 n6 2)) (fun h8 => nn (some a0) (fun n9 => gd (ck h8 n9 7) (hl (sP h8 n9 2 (hP r3.2 n5 1)) (fun h10 => nn (some a0) (fun n11 => gd (ck h10 n11 7) (nn (some a0) (fun n13 => gd (rk h10 n13 7) (bd (f_X9_rowsOf n13 (hP h10 n11 3) h10) (fun r12 => nn r12.1 (fun n14 => gd (ck r12.2 n14 2) (some ((hI r12.2 n14 3), r12.2)))))))))))))))))) else some ((-3 : Int32), r3.2)))))))))
set_option maxHeartbeats 4000000 in
set_option maxRecDepth 100000 in
theorem c_X9_plan (g : GG) (l : Launch) (a0 : Nat) (h : HS) (o : Int32 × HS) (hB : f_X9_plan a0 h = some o) : Ct g l mX9_plan [va_rf (some a0)] h (QI o) := by
  refine Ct.of2 (lv0 := [some (va_rf (some a0)), none]) (by decide +kernel) (by simp [lg_sl, rf_cat, cat_i, cat_l]) rfl ?_
  unfold f_X9_plan at hB
  refine q_aload_n dX9_plan_0 rfl rfl ?_
  refine q_getP (j := 0) hB dX9_plan_1 fc_7 (by decide) rfl wd_240 (fun n1 hB => ?_)
  refine q_aload_n dX9_plan_4 rfl rfl ?_
  refine q_getP (j := 2) hB dX9_plan_5 fc_7 (by decide) rfl wd_242 (fun n2 hB => ?_)
  refine q_callVI (k' := 0) (w' := 0) hB (fun b a hf => c_X7_readInto g l b _ _ a hf) rfl rfl dX9_plan_8 wd_290 cs_X7_readInto wd_291 wd_292 rfl ⟨⟨Nat.le_of_ble_eq_true rfl, Nat.le_of_ble_eq_true rfl⟩, ⟨Nat.le_of_ble_eq_true rfl, Nat.le_of_ble_eq_true rfl⟩, Nat.le_of_ble_eq_true rfl⟩ rfl rfl (fun n4 r3 hB => ?_)
  refine q_bipush (v := -9) dX9_plan_11 (by decide) ?_
  refine q_icmp_eq (tgt := 19) hB dX9_plan_13 (by decide) (fun hB => ?_) (fun hB => ?_)
  · refine q_aload_n dX9_plan_19 rfl rfl ?_
    refine q_getP (j := 1) hB dX9_plan_20 fc_7 (by decide) rfl wd_241 (fun n5 hB => ?_)
    refine q_astore_n dX9_plan_23 rfl (by decide) (nb_r (j := 0) rfl) ?_
    refine q_aload_n dX9_plan_24 rfl rfl ?_
    refine q_aload_n dX9_plan_25 rfl rfl ?_
    refine q_getP (j := 2) hB dX9_plan_26 fc_7 (by decide) rfl wd_242 (fun n6 hB => ?_)
    refine q_putP (j := 1) hB dX9_plan_29 fc_7 (by decide) rfl wd_241 rfl (fun n7 hB => ?_)
    refine q_nm hB (fun h8 hB => ?_)
    refine q_aload_n dX9_plan_32 rfl rfl ?_
    refine q_aload_n dX9_plan_33 rfl rfl ?_
    refine q_putP (j := 2) hB dX9_plan_34 fc_7 (by decide) rfl wd_242 rfl (fun n9 hB => ?_)
    refine q_nm hB (fun h10 hB => ?_)
    refine q_aload_n dX9_plan_37 rfl rfl ?_
    refine q_aload_n dX9_plan_38 rfl rfl ?_
    refine q_getP (j := 3) hB dX9_plan_39 fc_7 (by decide) rfl wd_243 (fun n11 hB => ?_)
    refine q_callVP (k' := 0) (w' := 0) hB (fun b a hf => c_X9_rowsOf g l b _ _ a hf) rfl rfl dX9_plan_42 wd_380 cs_X9_rowsOf wd_382 wd_3 rfl ⟨⟨Nat.le_of_ble_eq_true rfl, Nat.le_of_ble_eq_true rfl⟩, ⟨Nat.le_of_ble_eq_true rfl, Nat.le_of_ble_eq_true rfl⟩, Nat.le_of_ble_eq_true rfl⟩ rfl rfl (fun n13 r12 hB => ?_)
    refine q_getI (j := 3) hB dX9_plan_45 fc_2 (by decide) rfl wd_205 (fun n14 hB => ?_)
    exact q_iret hB dX9_plan_48 rfl (by decide) (by decide)
  · refine q_bipush (v := -3) dX9_plan_16 (by decide) ?_
    exact q_iret hB dX9_plan_18 rfl (by decide) (by decide)

def f_X10_many  (a0 : Nat) (a1 : Int32) (h : HS) : Option (Int32 × HS) :=
  nn (some a0) (fun n1 => gd (ck h n1 8) (nn (hP h n1 12) (fun n2 => gd (ca h n2 9 ((17 : Int32) * a1)) (some ((hI h n2 ((17 : Int32) * a1).toNatClampNeg), h)))))
set_option maxHeartbeats 4000000 in
set_option maxRecDepth 100000 in
theorem c_X10_many (g : GG) (l : Launch) (a0 : Nat) (a1 : Int32) (h : HS) (o : Int32 × HS) (hB : f_X10_many a0 a1 h = some o) : Ct g l mX10_many [va_rf (some a0), .int a1] h (QI o) := by
  refine Ct.of2 (lv0 := [some (va_rf (some a0)), some (.int a1)]) (by decide +kernel) (by simp [lg_sl, rf_cat, cat_i, cat_l]) rfl ?_
  unfold f_X10_many at hB
  refine q_aload_n dX10_many_0 rfl rfl ?_
  refine q_getP (j := 12) hB dX10_many_1 fc_8 (by decide) rfl wd_741 (fun n1 hB => ?_)
  refine q_bipush (v := 17) dX10_many_4 (by decide) ?_
  refine q_iload_n dX10_many_6 rfl rfl ?_
  refine q_imul dX10_many_7 ?_
  refine q_iald hB dX10_many_8 (fun n2 hB => ?_)
  exact q_iret hB dX10_many_9 rfl (by decide) (by decide)

def f_X10_at  (a0 : Nat) (a1 : Int32) (a2 : Int32) (h : HS) : Option (Int32 × HS) :=
  nn (some a0) (fun n1 => gd (ck h n1 8) (nn (hP h n1 12) (fun n2 => gd (ca h n2 9 ((((17 : Int32) * a1) + (1 : Int32)) + a2)) (some ((hI h n2 ((((17 : Int32) * a1) + (1 : Int32)) + a2).toNatClampNeg), h)))))
set_option maxHeartbeats 4000000 in
set_option maxRecDepth 100000 in
theorem c_X10_at (g : GG) (l : Launch) (a0 : Nat) (a1 : Int32) (a2 : Int32) (h : HS) (o : Int32 × HS) (hB : f_X10_at a0 a1 a2 h = some o) : Ct g l mX10_at [va_rf (some a0), .int a1, .int a2] h (QI o) := by
  refine Ct.of2 (lv0 := [some (va_rf (some a0)), some (.int a1), some (.int a2)]) (by decide +kernel) (by simp [lg_sl, rf_cat, cat_i, cat_l]) rfl ?_
  unfold f_X10_at at hB
  refine q_aload_n dX10_at_0 rfl rfl ?_
  refine q_getP (j := 12) hB dX10_at_1 fc_8 (by decide) rfl wd_741 (fun n1 hB => ?_)
  refine q_bipush (v := 17) dX10_at_4 (by decide) ?_
  refine q_iload_n dX10_at_6 rfl rfl ?_
  refine q_imul dX10_at_7 ?_
  refine q_iconst (v := 1) dX10_at_8 (by decide) ?_
  refine q_iadd dX10_at_9 ?_
  refine q_iload_n dX10_at_10 rfl rfl ?_
  refine q_iadd dX10_at_11 ?_
  refine q_iald hB dX10_at_12 (fun n2 hB => ?_)
  exact q_iret hB dX10_at_13 rfl (by decide) (by decide)

def b_X10_keyOf_36  (a4 : Int32) (h : HS) : Option (Int32 × HS) :=
  gd (decide (¬ (10000 : Int32) = 0)) (some ((a4 / (10000 : Int32)), h))
def b_X10_keyOf_43  (a4 : Int32) (h : HS) : Option (Int32 × HS) :=
  gd (decide (¬ (1000 : Int32) = 0)) (gd (decide (¬ (10 : Int32) = 0)) (some (((a4 / (1000 : Int32)) - (a4 / (1000 : Int32)) / (10 : Int32) * (10 : Int32)), h)))
def b_X10_keyOf_82  (s0 : Int32) (h : HS) : Option (Int32 × HS) :=
  some (s0, h)
def b_X10_keyOf_53  (a0 : Nat) (a4 : Int32) (h : HS) : Option (Int32 × HS) :=
  gd (decide (¬ (1000 : Int32) = 0)) ((if (a4 - a4 / (1000 : Int32) * (1000 : Int32)) = (100 : Int32) then b_X10_keyOf_82 (20 : Int32) h else gd (decide (¬ (1000 : Int32) = 0)) (nn (some a0) (fun n1 => gd (ck h n1 8) (gd (decide (¬ ((5 : Int32) * (hI h n1 4)) = 0)) (b_X10_keyOf_82 ((a4 - a4 / (1000 : Int32) * (1000 : Int32)) / ((5 : Int32) * (hI h n1 4))) h))))))
def b_X10_keyOf_83  (h : HS) : Option (Int32 × HS) :=
  some ((0 : Int32), h)
def f_X10_keyOf  (a0 : Nat) (a1 : Int32) (a2 : Int32) (a3 : Int32) (h : HS) : Option (Int32 × HS) :=
  nn (some a0) (fun n2 => gd (rk h n2 8) (bd (f_X10_at n2 a1 a2 h) (fun r1 => swT a3 0 [b_X10_keyOf_36 r1.1 r1.2, b_X10_keyOf_43 r1.1 r1.2, b_X10_keyOf_53 a0 r1.1 r1.2] (b_X10_keyOf_83 r1.2))))
set_option maxHeartbeats 4000000 in
set_option maxRecDepth 100000 in
theorem wb_X10_keyOf_36 (g : GG) (l : Launch) (a4 : Int32) (h : HS) (o : Int32 × HS) (hB : b_X10_keyOf_36 a4 h = some o) : Wq g l mX10_keyOf 0 0 36 [none, none, none, none, some (.int a4)] [] h (QI o) := by
  unfold b_X10_keyOf_36 at hB
  refine q_iload dX10_keyOf_36 rfl ?_
  refine q_sipush (v := 10000) dX10_keyOf_38 (by decide) ?_
  refine q_idiv hB dX10_keyOf_41 (fun hB => ?_)
  exact q_iret hB dX10_keyOf_42 rfl (by decide) (by decide)
set_option maxHeartbeats 4000000 in
set_option maxRecDepth 100000 in
theorem wb_X10_keyOf_43 (g : GG) (l : Launch) (a4 : Int32) (h : HS) (o : Int32 × HS) (hB : b_X10_keyOf_43 a4 h = some o) : Wq g l mX10_keyOf 0 0 43 [none, none, none, none, some (.int a4)] [] h (QI o) := by
  unfold b_X10_keyOf_43 at hB
  refine q_iload dX10_keyOf_43 rfl ?_
  refine q_sipush (v := 1000) dX10_keyOf_45 (by decide) ?_
  refine q_idiv hB dX10_keyOf_48 (fun hB => ?_)
  refine q_bipush (v := 10) dX10_keyOf_49 (by decide) ?_
  refine q_irem hB dX10_keyOf_51 (fun hB => ?_)
  exact q_iret hB dX10_keyOf_52 rfl (by decide) (by decide)
set_option maxHeartbeats 4000000 in
set_option maxRecDepth 100000 in
theorem wb_X10_keyOf_82 (g : GG) (l : Launch) (s0 : Int32) (h : HS) (o : Int32 × HS) (hB : b_X10_keyOf_82 s0 h = some o) : Wq g l mX10_keyOf 0 0 82 [none, none, none, none, none] [.int s0] h (QI o) := by
  unfold b_X10_keyOf_82 at hB
  exact q_iret hB dX10_keyOf_82 rfl (by decide) (by decide)
set_option maxHeartbeats 4000000 in
set_option maxRecDepth 100000 in
theorem wb_X10_keyOf_53 (g : GG) (l : Launch) (a0 : Nat) (a4 : Int32) (h : HS) (o : Int32 × HS) (hB : b_X10_keyOf_53 a0 a4 h = some o) : Wq g l mX10_keyOf 0 0 53 [some (va_rf (some a0)), none, none, none, some (.int a4)] [] h (QI o) := by
  unfold b_X10_keyOf_53 at hB
  refine q_iload dX10_keyOf_53 rfl ?_
  refine q_sipush (v := 1000) dX10_keyOf_55 (by decide) ?_
  refine q_irem hB dX10_keyOf_58 (fun hB => ?_)
  refine q_bipush (v := 100) dX10_keyOf_59 (by decide) ?_
  refine q_icmp_ne (tgt := 69) hB dX10_keyOf_61 (by decide) (fun hB => ?_) (fun hB => ?_)
  · refine q_iload dX10_keyOf_69 rfl ?_
    refine q_sipush (v := 1000) dX10_keyOf_71 (by decide) ?_
    refine q_irem hB dX10_keyOf_74 (fun hB => ?_)
    refine q_iconst (v := 5) dX10_keyOf_75 (by decide) ?_
    refine q_aload_n dX10_keyOf_76 rfl rfl ?_
    refine q_getI (j := 4) hB dX10_keyOf_77 fc_8 (by decide) rfl wd_733 (fun n1 hB => ?_)
    refine q_imul dX10_keyOf_80 ?_
    refine q_idiv hB dX10_keyOf_81 (fun hB => ?_)
    exact Wq.mask [false, false, false, false, false] rfl (wb_X10_keyOf_82 g l _ _ o hB)
  · refine q_bipush (v := 20) dX10_keyOf_64 (by decide) ?_
    refine q_goto (tgt := 82) dX10_keyOf_66 (by decide) ?_
    exact Wq.mask [false, false, false, false, false] rfl (wb_X10_keyOf_82 g l _ _ o hB)
set_option maxHeartbeats 4000000 in
set_option maxRecDepth 100000 in
theorem wb_X10_keyOf_83 (g : GG) (l : Launch) (h : HS) (o : Int32 × HS) (hB : b_X10_keyOf_83  h = some o) : Wq g l mX10_keyOf 0 0 83 [none, none, none, none, none] [] h (QI o) := by
  unfold b_X10_keyOf_83 at hB
  refine q_iconst (v := 0) dX10_keyOf_83 (by decide) ?_
  exact q_iret hB dX10_keyOf_84 rfl (by decide) (by decide)
set_option maxHeartbeats 4000000 in
set_option maxRecDepth 100000 in
theorem c_X10_keyOf (g : GG) (l : Launch) (a0 : Nat) (a1 : Int32) (a2 : Int32) (a3 : Int32) (h : HS) (o : Int32 × HS) (hB : f_X10_keyOf a0 a1 a2 a3 h = some o) : Ct g l mX10_keyOf [va_rf (some a0), .int a1, .int a2, .int a3] h (QI o) := by
  refine Ct.of2 (lv0 := [some (va_rf (some a0)), some (.int a1), some (.int a2), some (.int a3), none]) (by decide +kernel) (by simp [lg_sl, rf_cat, cat_i, cat_l]) rfl ?_
  unfold f_X10_keyOf at hB
  refine q_aload_n dX10_keyOf_0 rfl rfl ?_
  refine q_iload_n dX10_keyOf_1 rfl rfl ?_
  refine q_iload_n dX10_keyOf_2 rfl rfl ?_
  refine q_callVI (k' := 0) (w' := 0) hB (fun b a hf => c_X10_at g l b _ _ _ a hf) rfl rfl dX10_keyOf_3 wd_875 cs_X10_at wd_877 wd_25 rfl ⟨⟨Nat.le_of_ble_eq_true rfl, Nat.le_of_ble_eq_true rfl⟩, ⟨Nat.le_of_ble_eq_true rfl, Nat.le_of_ble_eq_true rfl⟩, Nat.le_of_ble_eq_true rfl⟩ rfl rfl (fun n2 r1 hB => ?_)
  refine q_istore dX10_keyOf_6 (by decide) (nb_i (j := 3) rfl) ?_
  refine q_iload_n dX10_keyOf_8 rfl rfl ?_
  refine q_tab (dt := 83) [36, 43, 53] hB dX10_keyOf_9 rfl rfl (by decide) (by decide) (fun hB => ?_) (fun i hi hB => ?_)
  · exact Wq.mask [false, false, false, false, false] rfl (wb_X10_keyOf_83 g l _ o hB)
  · match i, hi, hB with
    | 0, _, hB =>
      simp only [List.getD_cons_zero, List.getD_cons_succ] at hB
      exact Wq.mask [false, false, false, false, true] rfl (wb_X10_keyOf_36 g l _ _ o hB)
    | 1, _, hB =>
      simp only [List.getD_cons_zero, List.getD_cons_succ] at hB
      exact Wq.mask [false, false, false, false, true] rfl (wb_X10_keyOf_43 g l _ _ o hB)
    | 2, _, hB =>
      simp only [List.getD_cons_zero, List.getD_cons_succ] at hB
      exact Wq.mask [true, false, false, false, true] rfl (wb_X10_keyOf_53 g l _ _ _ o hB)
    | n + 3, hi, _ => exact absurd hi (by simp only [List.length_cons, List.length_nil]; omega)

def b_X10_groupOf_38  (k6 : Nat → Int32 → Int32 → Int32 → Int32 → Int32 → HS → Option (Int32 × HS)) (a0 : Nat) (a1 : Int32) (a2 : Int32) (a3 : Int32) (a5 : Int32) (s0 : Int32) (s1 : Int32) (h : HS) : Option (Int32 × HS) :=
  k6 a0 a1 a2 a3 (s0 ||| s1) (a5 + (1 : Int32)) h
def b_X10_groupOf_6  (k6 : Nat → Int32 → Int32 → Int32 → Int32 → Int32 → HS → Option (Int32 × HS)) (a0 : Nat) (a1 : Int32) (a2 : Int32) (a3 : Int32) (a4 : Int32) (a5 : Int32) (h : HS) : Option (Int32 × HS) :=
  nn (some a0) (fun n2 => gd (rk h n2 8) (bd (f_X10_many n2 a1 h) (fun r1 => (if r1.1 ≤ a5 then some (a4, r1.2) else nn (some a0) (fun n4 => gd (rk r1.2 n4 8) (bd (f_X10_keyOf n4 a1 a5 a2 r1.2) (fun r3 => (if r3.1 = a3 then b_X10_groupOf_38 k6 a0 a1 a2 a3 a5 a4 ((1 : Int32) <<< (a5 &&& 31)) r3.2 else b_X10_groupOf_38 k6 a0 a1 a2 a3 a5 a4 (0 : Int32) r3.2))))))))
def l_X10_groupOf_6  : Nat → Nat → Int32 → Int32 → Int32 → Int32 → Int32 → HS → Option (Int32 × HS)
  | 0 => fun _ _ _ _ _ _ _ => none
  | n + 1 => b_X10_groupOf_6 (l_X10_groupOf_6 n)
def f_X10_groupOf  (a0 : Nat) (a1 : Int32) (a2 : Int32) (a3 : Int32) (h : HS) : Option (Int32 × HS) :=
  l_X10_groupOf_6 FU a0 a1 a2 a3 (0 : Int32) (0 : Int32) h
set_option maxHeartbeats 4000000 in
set_option maxRecDepth 100000 in
theorem wb_X10_groupOf_38 (g : GG) (l : Launch) (k6 : Nat → Int32 → Int32 → Int32 → Int32 → Int32 → HS → Option (Int32 × HS)) (a0 : Nat) (a1 : Int32) (a2 : Int32) (a3 : Int32) (a5 : Int32) (s0 : Int32) (s1 : Int32) (h : HS) (o : Int32 × HS) (hB : b_X10_groupOf_38 k6 a0 a1 a2 a3 a5 s0 s1 h = some o) (hk6 : ∀ (a0 : Nat) (a1 : Int32) (a2 : Int32) (a3 : Int32) (a4 : Int32) (a5 : Int32) (h : HS), k6 a0 a1 a2 a3 a4 a5 h = some o → Wq g l mX10_groupOf 0 0 6 [some (va_rf (some a0)), some (.int a1), some (.int a2), some (.int a3), some (.int a4), some (.int a5)] [] h (QI o)) : Wq g l mX10_groupOf 0 0 38 [some (va_rf (some a0)), some (.int a1), some (.int a2), some (.int a3), none, some (.int a5)] [.int s1, .int s0] h (QI o) := by
  unfold b_X10_groupOf_38 at hB
  refine q_ior dX10_groupOf_38 ?_
  refine q_istore dX10_groupOf_39 (by decide) (nb_i (j := 3) rfl) ?_
  refine q_iinc dX10_groupOf_41 rfl (show _ = (a5 + (1 : Int32)) from rfl) (by decide) (nb_i (j := 4) rfl) ?_
  refine q_goto (tgt := 6) dX10_groupOf_44 (by decide) ?_
  exact Wq.mask [true, true, true, true, true, true] rfl (hk6 _ _ _ _ _ _ _ hB)
set_option maxHeartbeats 4000000 in
set_option maxRecDepth 100000 in
theorem wb_X10_groupOf_6 (g : GG) (l : Launch) (k6 : Nat → Int32 → Int32 → Int32 → Int32 → Int32 → HS → Option (Int32 × HS)) (a0 : Nat) (a1 : Int32) (a2 : Int32) (a3 : Int32) (a4 : Int32) (a5 : Int32) (h : HS) (o : Int32 × HS) (hB : b_X10_groupOf_6 k6 a0 a1 a2 a3 a4 a5 h = some o) (hk6 : ∀ (a0 : Nat) (a1 : Int32) (a2 : Int32) (a3 : Int32) (a4 : Int32) (a5 : Int32) (h : HS), k6 a0 a1 a2 a3 a4 a5 h = some o → Wq g l mX10_groupOf 0 0 6 [some (va_rf (some a0)), some (.int a1), some (.int a2), some (.int a3), some (.int a4), some (.int a5)] [] h (QI o)) : Wq g l mX10_groupOf 0 0 6 [some (va_rf (some a0)), some (.int a1), some (.int a2), some (.int a3), some (.int a4), some (.int a5)] [] h (QI o) := by
  unfold b_X10_groupOf_6 at hB
  refine q_iload dX10_groupOf_6 rfl ?_
  refine q_aload_n dX10_groupOf_8 rfl rfl ?_
  refine q_iload_n dX10_groupOf_9 rfl rfl ?_
  refine q_callVI (k' := 0) (w' := 0) hB (fun b a hf => c_X10_many g l b _ _ a hf) rfl rfl dX10_groupOf_10 wd_867 cs_X10_many wd_869 wd_23 rfl ⟨⟨Nat.le_of_ble_eq_true rfl, Nat.le_of_ble_eq_true rfl⟩, ⟨Nat.le_of_ble_eq_true rfl, Nat.le_of_ble_eq_true rfl⟩, by simp [rf_cat, cat_i, cat_l]⟩ rfl rfl (fun n2 r1 hB => ?_)
  refine q_icmp_ge (tgt := 47) hB dX10_groupOf_13 (by decide) (fun hB => ?_) (fun hB => ?_)
  · refine q_iload dX10_groupOf_47 rfl ?_
    exact q_iret hB dX10_groupOf_49 rfl (by decide) (by decide)
  · refine q_iload dX10_groupOf_16 rfl ?_
    refine q_aload_n dX10_groupOf_18 rfl rfl ?_
    refine q_iload_n dX10_groupOf_19 rfl rfl ?_
    refine q_iload dX10_groupOf_20 rfl ?_
    refine q_iload_n dX10_groupOf_22 rfl rfl ?_
    refine q_callVI (k' := 0) (w' := 0) hB (fun b a hf => c_X10_keyOf g l b _ _ _ _ a hf) rfl rfl dX10_groupOf_23 wd_871 cs_X10_keyOf wd_873 wd_24 rfl ⟨⟨Nat.le_of_ble_eq_true rfl, Nat.le_of_ble_eq_true rfl⟩, ⟨Nat.le_of_ble_eq_true rfl, Nat.le_of_ble_eq_true rfl⟩, by simp [rf_cat, cat_i, cat_l]⟩ rfl rfl (fun n4 r3 hB => ?_)
    refine q_iload_n dX10_groupOf_26 rfl rfl ?_
    refine q_icmp_ne (tgt := 37) hB dX10_groupOf_27 (by decide) (fun hB => ?_) (fun hB => ?_)
    · refine q_iconst (v := 0) dX10_groupOf_37 (by decide) ?_
      exact Wq.mask [true, true, true, true, false, true] rfl (wb_X10_groupOf_38 g l k6 _ _ _ _ _ _ _ _ o hB hk6)
    · refine q_iconst (v := 1) dX10_groupOf_30 (by decide) ?_
      refine q_iload dX10_groupOf_31 rfl ?_
      refine q_ishl dX10_groupOf_33 ?_
      refine q_goto (tgt := 38) dX10_groupOf_34 (by decide) ?_
      exact Wq.mask [true, true, true, true, false, true] rfl (wb_X10_groupOf_38 g l k6 _ _ _ _ _ _ _ _ o hB hk6)
set_option maxHeartbeats 4000000 in
theorem wl_X10_groupOf_6 (g : GG) (l : Launch) (o : Int32 × HS) : ∀ (n : Nat) (a0 : Nat) (a1 : Int32) (a2 : Int32) (a3 : Int32) (a4 : Int32) (a5 : Int32) (h : HS), l_X10_groupOf_6 n a0 a1 a2 a3 a4 a5 h = some o → Wq g l mX10_groupOf 0 0 6 [some (va_rf (some a0)), some (.int a1), some (.int a2), some (.int a3), some (.int a4), some (.int a5)] [] h (QI o) := by
  intro n
  induction n with
  | zero =>
    intro a0 a1 a2 a3 a4 a5  h hB
    have q : (none : Option (Int32 × HS)) = some o := hB
    cases q
  | succ n ih =>
    intro a0 a1 a2 a3 a4 a5  h hB
    exact wb_X10_groupOf_6 g l (l_X10_groupOf_6 n) a0 a1 a2 a3 a4 a5 h o hB ih
set_option maxHeartbeats 4000000 in
set_option maxRecDepth 100000 in
theorem c_X10_groupOf (g : GG) (l : Launch) (a0 : Nat) (a1 : Int32) (a2 : Int32) (a3 : Int32) (h : HS) (o : Int32 × HS) (hB : f_X10_groupOf a0 a1 a2 a3 h = some o) : Ct g l mX10_groupOf [va_rf (some a0), .int a1, .int a2, .int a3] h (QI o) := by
  refine Ct.of2 (lv0 := [some (va_rf (some a0)), some (.int a1), some (.int a2), some (.int a3), none, none]) (by decide +kernel) (by simp [lg_sl, rf_cat, cat_i, cat_l]) rfl ?_
  unfold f_X10_groupOf at hB
  refine q_iconst (v := 0) dX10_groupOf_0 (by decide) ?_
  refine q_istore dX10_groupOf_1 (by decide) (nb_i (j := 3) rfl) ?_
  refine q_iconst (v := 0) dX10_groupOf_3 (by decide) ?_
  refine q_istore dX10_groupOf_4 (by decide) (nb_i (j := 4) rfl) ?_
  exact Wq.mask [true, true, true, true, true, true] rfl (wl_X10_groupOf_6 g l o FU _ _ _ _ _ _ _ hB)

def b_X10_has_14  (s0 : Int32) (h : HS) : Option (Int32 × HS) :=
  gd (decide (narrow .boolean (.int s0) = .int s0)) (some (s0, h))
def f_X10_has  (a0 : Int32) (a1 : Int32) (h : HS) : Option (Int32 × HS) :=
  (if ((a0 >>> (a1 &&& 31)) &&& (1 : Int32)) = (1 : Int32) then b_X10_has_14 (1 : Int32) h else b_X10_has_14 (0 : Int32) h)
set_option maxHeartbeats 4000000 in
set_option maxRecDepth 100000 in
theorem wb_X10_has_14 (g : GG) (l : Launch) (s0 : Int32) (h : HS) (o : Int32 × HS) (hB : b_X10_has_14 s0 h = some o) : Wq g l mX10_has 0 0 14 [none, none] [.int s0] h (QI o) := by
  unfold b_X10_has_14 at hB
  exact q_zret hB dX10_has_14 rfl (by decide) (by decide)
set_option maxHeartbeats 4000000 in
set_option maxRecDepth 100000 in
theorem c_X10_has (g : GG) (l : Launch) (a0 : Int32) (a1 : Int32) (h : HS) (o : Int32 × HS) (hB : f_X10_has a0 a1 h = some o) : Ct g l mX10_has [.int a0, .int a1] h (QI o) := by
  refine Ct.of2 (lv0 := [some (.int a0), some (.int a1)]) (by decide +kernel) (by simp [lg_sl, rf_cat, cat_i, cat_l]) rfl ?_
  unfold f_X10_has at hB
  refine q_iload_n dX10_has_0 rfl rfl ?_
  refine q_iload_n dX10_has_1 rfl rfl ?_
  refine q_ishr dX10_has_2 ?_
  refine q_iconst (v := 1) dX10_has_3 (by decide) ?_
  refine q_iand dX10_has_4 ?_
  refine q_iconst (v := 1) dX10_has_5 (by decide) ?_
  refine q_icmp_ne (tgt := 13) hB dX10_has_6 (by decide) (fun hB => ?_) (fun hB => ?_)
  · refine q_iconst (v := 0) dX10_has_13 (by decide) ?_
    exact Wq.mask [false, false] rfl (wb_X10_has_14 g l _ _ o hB)
  · refine q_iconst (v := 1) dX10_has_9 (by decide) ?_
    refine q_goto (tgt := 14) dX10_has_10 (by decide) ?_
    exact Wq.mask [false, false] rfl (wb_X10_has_14 g l _ _ o hB)

def f_X10_amountOf  (a0 : Nat) (a1 : Int32) (a2 : Int32) (h : HS) : Option (Int32 × HS) :=
  nn (some a0) (fun n2 => gd (rk h n2 8) (bd (f_X10_at n2 a1 a2 h) (fun r1 => gd (decide (¬ (1000 : Int32) = 0)) (some ((r1.1 - r1.1 / (1000 : Int32) * (1000 : Int32)), r1.2)))))
set_option maxHeartbeats 4000000 in
set_option maxRecDepth 100000 in
theorem c_X10_amountOf (g : GG) (l : Launch) (a0 : Nat) (a1 : Int32) (a2 : Int32) (h : HS) (o : Int32 × HS) (hB : f_X10_amountOf a0 a1 a2 h = some o) : Ct g l mX10_amountOf [va_rf (some a0), .int a1, .int a2] h (QI o) := by
  refine Ct.of2 (lv0 := [some (va_rf (some a0)), some (.int a1), some (.int a2)]) (by decide +kernel) (by simp [lg_sl, rf_cat, cat_i, cat_l]) rfl ?_
  unfold f_X10_amountOf at hB
  refine q_aload_n dX10_amountOf_0 rfl rfl ?_
  refine q_iload_n dX10_amountOf_1 rfl rfl ?_
  refine q_iload_n dX10_amountOf_2 rfl rfl ?_
  refine q_callVI (k' := 0) (w' := 0) hB (fun b a hf => c_X10_at g l b _ _ _ a hf) rfl rfl dX10_amountOf_3 wd_875 cs_X10_at wd_877 wd_25 rfl ⟨⟨Nat.le_of_ble_eq_true rfl, Nat.le_of_ble_eq_true rfl⟩, ⟨Nat.le_of_ble_eq_true rfl, Nat.le_of_ble_eq_true rfl⟩, Nat.le_of_ble_eq_true rfl⟩ rfl rfl (fun n2 r1 hB => ?_)
  refine q_sipush (v := 1000) dX10_amountOf_6 (by decide) ?_
  refine q_irem hB dX10_amountOf_9 (fun hB => ?_)
  exact q_iret hB dX10_amountOf_10 rfl (by decide) (by decide)

def b_X10_twinsOf_69  (k5 : Nat → Int32 → Int32 → Int32 → Int32 → HS → Option (Int32 × HS)) (k18 : Nat → Int32 → Int32 → Int32 → Int32 → Int32 → HS → Option (Int32 × HS)) (a0 : Nat) (a1 : Int32) (a2 : Int32) (a4 : Int32) (a5 : Int32) (s0 : Int32) (s1 : Int32) (h : HS) : Option (Int32 × HS) :=
  k18 a0 a1 a2 (s0 ||| s1) a4 (a5 + (1 : Int32)) h
def b_X10_twinsOf_68  (k5 : Nat → Int32 → Int32 → Int32 → Int32 → HS → Option (Int32 × HS)) (k18 : Nat → Int32 → Int32 → Int32 → Int32 → Int32 → HS → Option (Int32 × HS)) (a0 : Nat) (a1 : Int32) (a2 : Int32) (a4 : Int32) (a5 : Int32) (s0 : Int32) (h : HS) : Option (Int32 × HS) :=
  b_X10_twinsOf_69 k5 k18 a0 a1 a2 a4 a5 s0 (0 : Int32) h
def b_X10_twinsOf_18  (k5 : Nat → Int32 → Int32 → Int32 → Int32 → HS → Option (Int32 × HS)) (k18 : Nat → Int32 → Int32 → Int32 → Int32 → Int32 → HS → Option (Int32 × HS)) (a0 : Nat) (a1 : Int32) (a2 : Int32) (a3 : Int32) (a4 : Int32) (a5 : Int32) (h : HS) : Option (Int32 × HS) :=
  (if a4 ≤ a5 then k5 a0 a1 a2 a3 (a4 + (1 : Int32)) h else bd (f_X10_has a2 a4 h) (fun r1 => (if r1.1 = 0 then b_X10_twinsOf_68 k5 k18 a0 a1 a2 a4 a5 a3 r1.2 else bd (f_X10_has a2 a5 r1.2) (fun r2 => (if r2.1 = 0 then b_X10_twinsOf_68 k5 k18 a0 a1 a2 a4 a5 a3 r2.2 else nn (some a0) (fun n4 => gd (rk r2.2 n4 8) (bd (f_X10_amountOf n4 a1 a4 r2.2) (fun r3 => nn (some a0) (fun n6 => gd (rk r3.2 n6 8) (bd (f_X10_amountOf n6 a1 a5 r3.2) (fun r5 => (if r3.1 = r5.1 then b_X10_twinsOf_69 k5 k18 a0 a1 a2 a4 a5 a3 ((1 : Int32) <<< (a4 &&& 31)) r5.2 else b_X10_twinsOf_68 k5 k18 a0 a1 a2 a4 a5 a3 r5.2))))))))))))
def l_X10_twinsOf_18  (k5 : Nat → Int32 → Int32 → Int32 → Int32 → HS → Option (Int32 × HS)) : Nat → Nat → Int32 → Int32 → Int32 → Int32 → Int32 → HS → Option (Int32 × HS)
  | 0 => fun _ _ _ _ _ _ _ => none
  | n + 1 => b_X10_twinsOf_18 k5 (l_X10_twinsOf_18 k5 n)
def b_X10_twinsOf_5  (k5 : Nat → Int32 → Int32 → Int32 → Int32 → HS → Option (Int32 × HS)) (a0 : Nat) (a1 : Int32) (a2 : Int32) (a3 : Int32) (a4 : Int32) (h : HS) : Option (Int32 × HS) :=
  nn (some a0) (fun n2 => gd (rk h n2 8) (bd (f_X10_many n2 a1 h) (fun r1 => (if r1.1 ≤ a4 then some (a3, r1.2) else l_X10_twinsOf_18 k5 FU a0 a1 a2 a3 a4 (0 : Int32) r1.2))))
def l_X10_twinsOf_5  : Nat → Nat → Int32 → Int32 → Int32 → Int32 → HS → Option (Int32 × HS)
  | 0 => fun _ _ _ _ _ _ => none
  | n + 1 => b_X10_twinsOf_5 (l_X10_twinsOf_5 n)
def f_X10_twinsOf  (a0 : Nat) (a1 : Int32) (a2 : Int32) (h : HS) : Option (Int32 × HS) :=
  l_X10_twinsOf_5 FU a0 a1 a2 (0 : Int32) (0 : Int32) h
set_option maxHeartbeats 4000000 in
set_option maxRecDepth 100000 in
theorem wb_X10_twinsOf_69 (g : GG) (l : Launch) (k5 : Nat → Int32 → Int32 → Int32 → Int32 → HS → Option (Int32 × HS)) (k18 : Nat → Int32 → Int32 → Int32 → Int32 → Int32 → HS → Option (Int32 × HS)) (a0 : Nat) (a1 : Int32) (a2 : Int32) (a4 : Int32) (a5 : Int32) (s0 : Int32) (s1 : Int32) (h : HS) (o : Int32 × HS) (hB : b_X10_twinsOf_69 k5 k18 a0 a1 a2 a4 a5 s0 s1 h = some o) (hk5 : ∀ (a0 : Nat) (a1 : Int32) (a2 : Int32) (a3 : Int32) (a4 : Int32) (h : HS), k5 a0 a1 a2 a3 a4 h = some o → Wq g l mX10_twinsOf 0 0 5 [some (va_rf (some a0)), some (.int a1), some (.int a2), some (.int a3), some (.int a4), none] [] h (QI o)) (hk18 : ∀ (a0 : Nat) (a1 : Int32) (a2 : Int32) (a3 : Int32) (a4 : Int32) (a5 : Int32) (h : HS), k18 a0 a1 a2 a3 a4 a5 h = some o → Wq g l mX10_twinsOf 0 0 18 [some (va_rf (some a0)), some (.int a1), some (.int a2), some (.int a3), some (.int a4), some (.int a5)] [] h (QI o)) : Wq g l mX10_twinsOf 0 0 69 [some (va_rf (some a0)), some (.int a1), some (.int a2), none, some (.int a4), some (.int a5)] [.int s1, .int s0] h (QI o) := by
  unfold b_X10_twinsOf_69 at hB
  refine q_ior dX10_twinsOf_69 ?_
  refine q_istore_n dX10_twinsOf_70 rfl (by decide) (nb_i (j := 2) rfl) ?_
  refine q_iinc dX10_twinsOf_71 rfl (show _ = (a5 + (1 : Int32)) from rfl) (by decide) (nb_i (j := 4) rfl) ?_
  refine q_goto (tgt := 18) dX10_twinsOf_74 (by decide) ?_
  exact Wq.mask [true, true, true, true, true, true] rfl (hk18 _ _ _ _ _ _ _ hB)
set_option maxHeartbeats 4000000 in
set_option maxRecDepth 100000 in
theorem wb_X10_twinsOf_68 (g : GG) (l : Launch) (k5 : Nat → Int32 → Int32 → Int32 → Int32 → HS → Option (Int32 × HS)) (k18 : Nat → Int32 → Int32 → Int32 → Int32 → Int32 → HS → Option (Int32 × HS)) (a0 : Nat) (a1 : Int32) (a2 : Int32) (a4 : Int32) (a5 : Int32) (s0 : Int32) (h : HS) (o : Int32 × HS) (hB : b_X10_twinsOf_68 k5 k18 a0 a1 a2 a4 a5 s0 h = some o) (hk5 : ∀ (a0 : Nat) (a1 : Int32) (a2 : Int32) (a3 : Int32) (a4 : Int32) (h : HS), k5 a0 a1 a2 a3 a4 h = some o → Wq g l mX10_twinsOf 0 0 5 [some (va_rf (some a0)), some (.int a1), some (.int a2), some (.int a3), some (.int a4), none] [] h (QI o)) (hk18 : ∀ (a0 : Nat) (a1 : Int32) (a2 : Int32) (a3 : Int32) (a4 : Int32) (a5 : Int32) (h : HS), k18 a0 a1 a2 a3 a4 a5 h = some o → Wq g l mX10_twinsOf 0 0 18 [some (va_rf (some a0)), some (.int a1), some (.int a2), some (.int a3), some (.int a4), some (.int a5)] [] h (QI o)) : Wq g l mX10_twinsOf 0 0 68 [some (va_rf (some a0)), some (.int a1), some (.int a2), none, some (.int a4), some (.int a5)] [.int s0] h (QI o) := by
  unfold b_X10_twinsOf_68 at hB
  refine q_iconst (v := 0) dX10_twinsOf_68 (by decide) ?_
  exact Wq.mask [true, true, true, false, true, true] rfl (wb_X10_twinsOf_69 g l k5 k18 _ _ _ _ _ _ _ _ o hB hk5 hk18)
set_option maxHeartbeats 4000000 in
set_option maxRecDepth 100000 in
theorem wb_X10_twinsOf_18 (g : GG) (l : Launch) (k5 : Nat → Int32 → Int32 → Int32 → Int32 → HS → Option (Int32 × HS)) (k18 : Nat → Int32 → Int32 → Int32 → Int32 → Int32 → HS → Option (Int32 × HS)) (a0 : Nat) (a1 : Int32) (a2 : Int32) (a3 : Int32) (a4 : Int32) (a5 : Int32) (h : HS) (o : Int32 × HS) (hB : b_X10_twinsOf_18 k5 k18 a0 a1 a2 a3 a4 a5 h = some o) (hk5 : ∀ (a0 : Nat) (a1 : Int32) (a2 : Int32) (a3 : Int32) (a4 : Int32) (h : HS), k5 a0 a1 a2 a3 a4 h = some o → Wq g l mX10_twinsOf 0 0 5 [some (va_rf (some a0)), some (.int a1), some (.int a2), some (.int a3), some (.int a4), none] [] h (QI o)) (hk18 : ∀ (a0 : Nat) (a1 : Int32) (a2 : Int32) (a3 : Int32) (a4 : Int32) (a5 : Int32) (h : HS), k18 a0 a1 a2 a3 a4 a5 h = some o → Wq g l mX10_twinsOf 0 0 18 [some (va_rf (some a0)), some (.int a1), some (.int a2), some (.int a3), some (.int a4), some (.int a5)] [] h (QI o)) : Wq g l mX10_twinsOf 0 0 18 [some (va_rf (some a0)), some (.int a1), some (.int a2), some (.int a3), some (.int a4), some (.int a5)] [] h (QI o) := by
  unfold b_X10_twinsOf_18 at hB
  refine q_iload dX10_twinsOf_18 rfl ?_
  refine q_iload dX10_twinsOf_20 rfl ?_
  refine q_icmp_ge (tgt := 77) hB dX10_twinsOf_22 (by decide) (fun hB => ?_) (fun hB => ?_)
  · refine q_iinc dX10_twinsOf_77 rfl (show _ = (a4 + (1 : Int32)) from rfl) (by decide) (nb_i (j := 3) rfl) ?_
    refine q_goto (tgt := 5) dX10_twinsOf_80 (by decide) ?_
    exact Wq.mask [true, true, true, true, true, false] rfl (hk5 _ _ _ _ _ _ hB)
  · refine q_iload_n dX10_twinsOf_25 rfl rfl ?_
    refine q_iload_n dX10_twinsOf_26 rfl rfl ?_
    refine q_iload dX10_twinsOf_27 rfl ?_
    refine q_callSI (k' := 0) (w' := 0) hB (fun a hf => c_X10_has g l _ _ _ a hf) rfl dX10_twinsOf_29 wd_891 cs_X10_has wd_892 rfl ⟨⟨Nat.le_of_ble_eq_true rfl, Nat.le_of_ble_eq_true rfl⟩, ⟨Nat.le_of_ble_eq_true rfl, Nat.le_of_ble_eq_true rfl⟩, by simp [rf_cat, cat_i, cat_l]⟩ rfl rfl (fun r1 hB => ?_)
    refine q_if_eq (tgt := 68) hB dX10_twinsOf_32 (by decide) (fun hB => ?_) (fun hB => ?_)
    · exact Wq.mask [true, true, true, false, true, true] rfl (wb_X10_twinsOf_68 g l k5 k18 _ _ _ _ _ _ _ o hB hk5 hk18)
    · refine q_iload_n dX10_twinsOf_35 rfl rfl ?_
      refine q_iload dX10_twinsOf_36 rfl ?_
      refine q_callSI (k' := 0) (w' := 0) hB (fun a hf => c_X10_has g l _ _ _ a hf) rfl dX10_twinsOf_38 wd_891 cs_X10_has wd_892 rfl ⟨⟨Nat.le_of_ble_eq_true rfl, Nat.le_of_ble_eq_true rfl⟩, ⟨Nat.le_of_ble_eq_true rfl, Nat.le_of_ble_eq_true rfl⟩, by simp [rf_cat, cat_i, cat_l]⟩ rfl rfl (fun r2 hB => ?_)
      refine q_if_eq (tgt := 68) hB dX10_twinsOf_41 (by decide) (fun hB => ?_) (fun hB => ?_)
      · exact Wq.mask [true, true, true, false, true, true] rfl (wb_X10_twinsOf_68 g l k5 k18 _ _ _ _ _ _ _ o hB hk5 hk18)
      · refine q_aload_n dX10_twinsOf_44 rfl rfl ?_
        refine q_iload_n dX10_twinsOf_45 rfl rfl ?_
        refine q_iload dX10_twinsOf_46 rfl ?_
        refine q_callVI (k' := 0) (w' := 0) hB (fun b a hf => c_X10_amountOf g l b _ _ _ a hf) rfl rfl dX10_twinsOf_48 wd_894 cs_X10_amountOf wd_896 wd_29 rfl ⟨⟨Nat.le_of_ble_eq_true rfl, Nat.le_of_ble_eq_true rfl⟩, ⟨Nat.le_of_ble_eq_true rfl, Nat.le_of_ble_eq_true rfl⟩, by simp [rf_cat, cat_i, cat_l]⟩ rfl rfl (fun n4 r3 hB => ?_)
        refine q_aload_n dX10_twinsOf_51 rfl rfl ?_
        refine q_iload_n dX10_twinsOf_52 rfl rfl ?_
        refine q_iload dX10_twinsOf_53 rfl ?_
        refine q_callVI (k' := 0) (w' := 0) hB (fun b a hf => c_X10_amountOf g l b _ _ _ a hf) rfl rfl dX10_twinsOf_55 wd_894 cs_X10_amountOf wd_896 wd_29 rfl ⟨⟨Nat.le_of_ble_eq_true rfl, Nat.le_of_ble_eq_true rfl⟩, ⟨Nat.le_of_ble_eq_true rfl, Nat.le_of_ble_eq_true rfl⟩, by simp [rf_cat, cat_i, cat_l]⟩ rfl rfl (fun n6 r5 hB => ?_)
        refine q_icmp_ne (tgt := 68) hB dX10_twinsOf_58 (by decide) (fun hB => ?_) (fun hB => ?_)
        · exact Wq.mask [true, true, true, false, true, true] rfl (wb_X10_twinsOf_68 g l k5 k18 _ _ _ _ _ _ _ o hB hk5 hk18)
        · refine q_iconst (v := 1) dX10_twinsOf_61 (by decide) ?_
          refine q_iload dX10_twinsOf_62 rfl ?_
          refine q_ishl dX10_twinsOf_64 ?_
          refine q_goto (tgt := 69) dX10_twinsOf_65 (by decide) ?_
          exact Wq.mask [true, true, true, false, true, true] rfl (wb_X10_twinsOf_69 g l k5 k18 _ _ _ _ _ _ _ _ o hB hk5 hk18)
set_option maxHeartbeats 4000000 in
theorem wl_X10_twinsOf_18 (g : GG) (l : Launch) (k5 : Nat → Int32 → Int32 → Int32 → Int32 → HS → Option (Int32 × HS)) (o : Int32 × HS) (hk5 : ∀ (a0 : Nat) (a1 : Int32) (a2 : Int32) (a3 : Int32) (a4 : Int32) (h : HS), k5 a0 a1 a2 a3 a4 h = some o → Wq g l mX10_twinsOf 0 0 5 [some (va_rf (some a0)), some (.int a1), some (.int a2), some (.int a3), some (.int a4), none] [] h (QI o)) : ∀ (n : Nat) (a0 : Nat) (a1 : Int32) (a2 : Int32) (a3 : Int32) (a4 : Int32) (a5 : Int32) (h : HS), l_X10_twinsOf_18 k5 n a0 a1 a2 a3 a4 a5 h = some o → Wq g l mX10_twinsOf 0 0 18 [some (va_rf (some a0)), some (.int a1), some (.int a2), some (.int a3), some (.int a4), some (.int a5)] [] h (QI o) := by
  intro n
  induction n with
  | zero =>
    intro a0 a1 a2 a3 a4 a5  h hB
    have q : (none : Option (Int32 × HS)) = some o := hB
    cases q
  | succ n ih =>
    intro a0 a1 a2 a3 a4 a5  h hB
    exact wb_X10_twinsOf_18 g l k5 (l_X10_twinsOf_18 k5 n) a0 a1 a2 a3 a4 a5 h o hB hk5 ih
set_option maxHeartbeats 4000000 in
set_option maxRecDepth 100000 in
theorem wb_X10_twinsOf_5 (g : GG) (l : Launch) (k5 : Nat → Int32 → Int32 → Int32 → Int32 → HS → Option (Int32 × HS)) (a0 : Nat) (a1 : Int32) (a2 : Int32) (a3 : Int32) (a4 : Int32) (h : HS) (o : Int32 × HS) (hB : b_X10_twinsOf_5 k5 a0 a1 a2 a3 a4 h = some o) (hk5 : ∀ (a0 : Nat) (a1 : Int32) (a2 : Int32) (a3 : Int32) (a4 : Int32) (h : HS), k5 a0 a1 a2 a3 a4 h = some o → Wq g l mX10_twinsOf 0 0 5 [some (va_rf (some a0)), some (.int a1), some (.int a2), some (.int a3), some (.int a4), none] [] h (QI o)) : Wq g l mX10_twinsOf 0 0 5 [some (va_rf (some a0)), some (.int a1), some (.int a2), some (.int a3), some (.int a4), none] [] h (QI o) := by
  unfold b_X10_twinsOf_5 at hB
  refine q_iload dX10_twinsOf_5 rfl ?_
  refine q_aload_n dX10_twinsOf_7 rfl rfl ?_
  refine q_iload_n dX10_twinsOf_8 rfl rfl ?_
  refine q_callVI (k' := 0) (w' := 0) hB (fun b a hf => c_X10_many g l b _ _ a hf) rfl rfl dX10_twinsOf_9 wd_867 cs_X10_many wd_869 wd_23 rfl ⟨⟨Nat.le_of_ble_eq_true rfl, Nat.le_of_ble_eq_true rfl⟩, ⟨Nat.le_of_ble_eq_true rfl, Nat.le_of_ble_eq_true rfl⟩, by simp [rf_cat, cat_i, cat_l]⟩ rfl rfl (fun n2 r1 hB => ?_)
  refine q_icmp_ge (tgt := 83) hB dX10_twinsOf_12 (by decide) (fun hB => ?_) (fun hB => ?_)
  · refine q_iload_n dX10_twinsOf_83 rfl rfl ?_
    exact q_iret hB dX10_twinsOf_84 rfl (by decide) (by decide)
  · refine q_iconst (v := 0) dX10_twinsOf_15 (by decide) ?_
    refine q_istore dX10_twinsOf_16 (by decide) (nb_i (j := 4) rfl) ?_
    exact Wq.mask [true, true, true, true, true, true] rfl (wl_X10_twinsOf_18 g l k5 o hk5 FU _ _ _ _ _ _ _ hB)
set_option maxHeartbeats 4000000 in
theorem wl_X10_twinsOf_5 (g : GG) (l : Launch) (o : Int32 × HS) : ∀ (n : Nat) (a0 : Nat) (a1 : Int32) (a2 : Int32) (a3 : Int32) (a4 : Int32) (h : HS), l_X10_twinsOf_5 n a0 a1 a2 a3 a4 h = some o → Wq g l mX10_twinsOf 0 0 5 [some (va_rf (some a0)), some (.int a1), some (.int a2), some (.int a3), some (.int a4), none] [] h (QI o) := by
  intro n
  induction n with
  | zero =>
    intro a0 a1 a2 a3 a4  h hB
    have q : (none : Option (Int32 × HS)) = some o := hB
    cases q
  | succ n ih =>
    intro a0 a1 a2 a3 a4  h hB
    exact wb_X10_twinsOf_5 g l (l_X10_twinsOf_5 n) a0 a1 a2 a3 a4 h o hB ih
set_option maxHeartbeats 4000000 in
set_option maxRecDepth 100000 in
theorem c_X10_twinsOf (g : GG) (l : Launch) (a0 : Nat) (a1 : Int32) (a2 : Int32) (h : HS) (o : Int32 × HS) (hB : f_X10_twinsOf a0 a1 a2 h = some o) : Ct g l mX10_twinsOf [va_rf (some a0), .int a1, .int a2] h (QI o) := by
  refine Ct.of2 (lv0 := [some (va_rf (some a0)), some (.int a1), some (.int a2), none, none, none]) (by decide +kernel) (by simp [lg_sl, rf_cat, cat_i, cat_l]) rfl ?_
  unfold f_X10_twinsOf at hB
  refine q_iconst (v := 0) dX10_twinsOf_0 (by decide) ?_
  refine q_istore_n dX10_twinsOf_1 rfl (by decide) (nb_i (j := 2) rfl) ?_
  refine q_iconst (v := 0) dX10_twinsOf_2 (by decide) ?_
  refine q_istore dX10_twinsOf_3 (by decide) (nb_i (j := 3) rfl) ?_
  exact Wq.mask [true, true, true, true, true, false] rfl (wl_X10_twinsOf_5 g l o FU _ _ _ _ _ _ hB)

def b_X10_measureOf_205  (s0 : Int32) (h : HS) : Option (Int32 × HS) :=
  some (s0, h)
def b_X10_measureOf_147  (k34 : Nat → Int32 → Int32 → Int32 → Int32 → Int32 → Int32 → Int32 → Int32 → Int32 → HS → Option (Int32 × HS)) (a0 : Nat) (a1 : Int32) (a2 : Int32) (a3 : Int32) (a4 : Int32) (a5 : Int32) (a6 : Int32) (a7 : Int32) (a8 : Int32) (a9 : Int32) (h : HS) : Option (Int32 × HS) :=
  k34 a0 a1 a2 a3 a4 a5 a6 a7 a8 (a9 + (1 : Int32)) h
def b_X10_measureOf_144  (k34 : Nat → Int32 → Int32 → Int32 → Int32 → Int32 → Int32 → Int32 → Int32 → Int32 → HS → Option (Int32 × HS)) (a0 : Nat) (a1 : Int32) (a2 : Int32) (a3 : Int32) (a4 : Int32) (a5 : Int32) (a6 : Int32) (a8 : Int32) (a9 : Int32) (s0 : Int32) (s1 : Int32) (h : HS) : Option (Int32 × HS) :=
  b_X10_measureOf_147 k34 a0 a1 a2 a3 a4 a5 a6 (s0 + s1) a8 a9 h
def b_X10_measureOf_125  (k34 : Nat → Int32 → Int32 → Int32 → Int32 → Int32 → Int32 → Int32 → Int32 → Int32 → HS → Option (Int32 × HS)) (a0 : Nat) (a1 : Int32) (a2 : Int32) (a3 : Int32) (a4 : Int32) (a5 : Int32) (a7 : Int32) (a8 : Int32) (a9 : Int32) (s0 : Int32) (h : HS) : Option (Int32 × HS) :=
  bd (f_X10_has a8 a9 h) (fun r1 => (if r1.1 = 0 then b_X10_measureOf_144 k34 a0 a1 a2 a3 a4 a5 s0 a8 a9 a7 (1 : Int32) r1.2 else b_X10_measureOf_144 k34 a0 a1 a2 a3 a4 a5 s0 a8 a9 a7 (0 : Int32) r1.2))
def b_X10_measureOf_118  (k34 : Nat → Int32 → Int32 → Int32 → Int32 → Int32 → Int32 → Int32 → Int32 → Int32 → HS → Option (Int32 × HS)) (a0 : Nat) (a1 : Int32) (a2 : Int32) (a3 : Int32) (a4 : Int32) (a5 : Int32) (a7 : Int32) (a8 : Int32) (a9 : Int32) (a10 : Int32) (h : HS) : Option (Int32 × HS) :=
  b_X10_measureOf_125 k34 a0 a1 a2 a3 a4 a5 a7 a8 a9 a10 h
def b_X10_measureOf_102  (k34 : Nat → Int32 → Int32 → Int32 → Int32 → Int32 → Int32 → Int32 → Int32 → Int32 → HS → Option (Int32 × HS)) (a0 : Nat) (a1 : Int32) (a2 : Int32) (a3 : Int32) (a4 : Int32) (a6 : Int32) (a7 : Int32) (a8 : Int32) (a9 : Int32) (a10 : Int32) (s0 : Int32) (h : HS) : Option (Int32 × HS) :=
  (if a6 = (-9 : Int32) then b_X10_measureOf_118 k34 a0 a1 a2 a3 a4 s0 a7 a8 a9 a10 h else (if a6 ≤ a10 then b_X10_measureOf_125 k34 a0 a1 a2 a3 a4 s0 a7 a8 a9 a6 h else b_X10_measureOf_118 k34 a0 a1 a2 a3 a4 s0 a7 a8 a9 a10 h))
def b_X10_measureOf_65  (k34 : Nat → Int32 → Int32 → Int32 → Int32 → Int32 → Int32 → Int32 → Int32 → Int32 → HS → Option (Int32 × HS)) (a0 : Nat) (a1 : Int32) (a2 : Int32) (a3 : Int32) (a4 : Int32) (a5 : Int32) (a6 : Int32) (a7 : Int32) (a8 : Int32) (a9 : Int32) (a10 : Int32) (h : HS) : Option (Int32 × HS) :=
  bd (f_X10_has a2 a9 h) (fun r1 => (if r1.1 = 0 then b_X10_measureOf_147 k34 a0 a1 a2 a3 a4 a5 a6 a7 a8 a9 r1.2 else (if a10 = (100 : Int32) then b_X10_measureOf_147 k34 a0 a1 a2 a3 a4 a5 a6 a7 a8 a9 r1.2 else (if a10 ≤ a5 then b_X10_measureOf_102 k34 a0 a1 a2 a3 (a4 + a10) a6 a7 a8 a9 a10 a5 r1.2 else b_X10_measureOf_102 k34 a0 a1 a2 a3 (a4 + a10) a6 a7 a8 a9 a10 a10 r1.2))))
def b_X10_measureOf_34  (k34 : Nat → Int32 → Int32 → Int32 → Int32 → Int32 → Int32 → Int32 → Int32 → Int32 → HS → Option (Int32 × HS)) (a0 : Nat) (a1 : Int32) (a2 : Int32) (a3 : Int32) (a4 : Int32) (a5 : Int32) (a6 : Int32) (a7 : Int32) (a8 : Int32) (a9 : Int32) (h : HS) : Option (Int32 × HS) :=
  nn (some a0) (fun n2 => gd (rk h n2 8) (bd (f_X10_many n2 a1 h) (fun r1 => (if r1.1 ≤ a9 then nn (some a0) (fun n3 => gd (ck r1.2 n3 8) ((if (hI r1.2 n3 2) = 0 then b_X10_measureOf_205 a3 r1.2 else nn (some a0) (fun n4 => gd (ck r1.2 n4 8) ((if (hI r1.2 n4 2) = (1 : Int32) then b_X10_measureOf_205 a4 r1.2 else nn (some a0) (fun n5 => gd (ck r1.2 n5 8) ((if (hI r1.2 n5 2) = (2 : Int32) then b_X10_measureOf_205 a5 r1.2 else nn (some a0) (fun n6 => gd (ck r1.2 n6 8) ((if (hI r1.2 n6 2) = (3 : Int32) then b_X10_measureOf_205 a6 r1.2 else b_X10_measureOf_205 a7 r1.2)))))))))))) else nn (some a0) (fun n8 => gd (rk r1.2 n8 8) (bd (f_X10_amountOf n8 a1 a9 r1.2) (fun r7 => bd (f_X10_has a2 a9 r7.2) (fun r9 => (if r9.1 = 0 then b_X10_measureOf_65 k34 a0 a1 a2 a3 a4 a5 a6 a7 a8 a9 r7.1 r9.2 else b_X10_measureOf_65 k34 a0 a1 a2 (a3 + (1 : Int32)) a4 a5 a6 a7 a8 a9 r7.1 r9.2)))))))))
def l_X10_measureOf_34  : Nat → Nat → Int32 → Int32 → Int32 → Int32 → Int32 → Int32 → Int32 → Int32 → Int32 → HS → Option (Int32 × HS)
  | 0 => fun _ _ _ _ _ _ _ _ _ _ _ => none
  | n + 1 => b_X10_measureOf_34 (l_X10_measureOf_34 n)
def f_X10_measureOf  (a0 : Nat) (a1 : Int32) (a2 : Int32) (h : HS) : Option (Int32 × HS) :=
  (if a2 = 0 then some ((-9 : Int32), h) else nn (some a0) (fun n2 => gd (rk h n2 8) (bd (f_X10_twinsOf n2 a1 a2 h) (fun r1 => l_X10_measureOf_34 FU a0 a1 a2 (0 : Int32) (0 : Int32) (-9 : Int32) (-9 : Int32) (0 : Int32) r1.1 (0 : Int32) r1.2))))
set_option maxHeartbeats 4000000 in
set_option maxRecDepth 100000 in
theorem wb_X10_measureOf_205 (g : GG) (l : Launch) (s0 : Int32) (h : HS) (o : Int32 × HS) (hB : b_X10_measureOf_205 s0 h = some o) : Wq g l mX10_measureOf 0 0 205 [none, none, none, none, none, none, none, none, none, none, none] [.int s0] h (QI o) := by
  unfold b_X10_measureOf_205 at hB
  exact q_iret hB dX10_measureOf_205 rfl (by decide) (by decide)
set_option maxHeartbeats 4000000 in
set_option maxRecDepth 100000 in
theorem wb_X10_measureOf_147 (g : GG) (l : Launch) (k34 : Nat → Int32 → Int32 → Int32 → Int32 → Int32 → Int32 → Int32 → Int32 → Int32 → HS → Option (Int32 × HS)) (a0 : Nat) (a1 : Int32) (a2 : Int32) (a3 : Int32) (a4 : Int32) (a5 : Int32) (a6 : Int32) (a7 : Int32) (a8 : Int32) (a9 : Int32) (h : HS) (o : Int32 × HS) (hB : b_X10_measureOf_147 k34 a0 a1 a2 a3 a4 a5 a6 a7 a8 a9 h = some o) (hk34 : ∀ (a0 : Nat) (a1 : Int32) (a2 : Int32) (a3 : Int32) (a4 : Int32) (a5 : Int32) (a6 : Int32) (a7 : Int32) (a8 : Int32) (a9 : Int32) (h : HS), k34 a0 a1 a2 a3 a4 a5 a6 a7 a8 a9 h = some o → Wq g l mX10_measureOf 0 0 34 [some (va_rf (some a0)), some (.int a1), some (.int a2), some (.int a3), some (.int a4), some (.int a5), some (.int a6), some (.int a7), some (.int a8), some (.int a9), none] [] h (QI o)) : Wq g l mX10_measureOf 0 0 147 [some (va_rf (some a0)), some (.int a1), some (.int a2), some (.int a3), some (.int a4), some (.int a5), some (.int a6), some (.int a7), some (.int a8), some (.int a9), none] [] h (QI o) := by
  unfold b_X10_measureOf_147 at hB
  refine q_iinc dX10_measureOf_147 rfl (show _ = (a9 + (1 : Int32)) from rfl) (by decide) (nb_i (j := 8) rfl) ?_
  refine q_goto (tgt := 34) dX10_measureOf_150 (by decide) ?_
  exact Wq.mask [true, true, true, true, true, true, true, true, true, true, false] rfl (hk34 _ _ _ _ _ _ _ _ _ _ _ hB)
set_option maxHeartbeats 4000000 in
set_option maxRecDepth 100000 in
theorem wb_X10_measureOf_144 (g : GG) (l : Launch) (k34 : Nat → Int32 → Int32 → Int32 → Int32 → Int32 → Int32 → Int32 → Int32 → Int32 → HS → Option (Int32 × HS)) (a0 : Nat) (a1 : Int32) (a2 : Int32) (a3 : Int32) (a4 : Int32) (a5 : Int32) (a6 : Int32) (a8 : Int32) (a9 : Int32) (s0 : Int32) (s1 : Int32) (h : HS) (o : Int32 × HS) (hB : b_X10_measureOf_144 k34 a0 a1 a2 a3 a4 a5 a6 a8 a9 s0 s1 h = some o) (hk34 : ∀ (a0 : Nat) (a1 : Int32) (a2 : Int32) (a3 : Int32) (a4 : Int32) (a5 : Int32) (a6 : Int32) (a7 : Int32) (a8 : Int32) (a9 : Int32) (h : HS), k34 a0 a1 a2 a3 a4 a5 a6 a7 a8 a9 h = some o → Wq g l mX10_measureOf 0 0 34 [some (va_rf (some a0)), some (.int a1), some (.int a2), some (.int a3), some (.int a4), some (.int a5), some (.int a6), some (.int a7), some (.int a8), some (.int a9), none] [] h (QI o)) : Wq g l mX10_measureOf 0 0 144 [some (va_rf (some a0)), some (.int a1), some (.int a2), some (.int a3), some (.int a4), some (.int a5), some (.int a6), none, some (.int a8), some (.int a9), none] [.int s1, .int s0] h (QI o) := by
  unfold b_X10_measureOf_144 at hB
  refine q_iadd dX10_measureOf_144 ?_
  refine q_istore dX10_measureOf_145 (by decide) (nb_i (j := 6) rfl) ?_
  exact Wq.mask [true, true, true, true, true, true, true, true, true, true, false] rfl (wb_X10_measureOf_147 g l k34 _ _ _ _ _ _ _ _ _ _ _ o hB hk34)
set_option maxHeartbeats 4000000 in
set_option maxRecDepth 100000 in
theorem wb_X10_measureOf_125 (g : GG) (l : Launch) (k34 : Nat → Int32 → Int32 → Int32 → Int32 → Int32 → Int32 → Int32 → Int32 → Int32 → HS → Option (Int32 × HS)) (a0 : Nat) (a1 : Int32) (a2 : Int32) (a3 : Int32) (a4 : Int32) (a5 : Int32) (a7 : Int32) (a8 : Int32) (a9 : Int32) (s0 : Int32) (h : HS) (o : Int32 × HS) (hB : b_X10_measureOf_125 k34 a0 a1 a2 a3 a4 a5 a7 a8 a9 s0 h = some o) (hk34 : ∀ (a0 : Nat) (a1 : Int32) (a2 : Int32) (a3 : Int32) (a4 : Int32) (a5 : Int32) (a6 : Int32) (a7 : Int32) (a8 : Int32) (a9 : Int32) (h : HS), k34 a0 a1 a2 a3 a4 a5 a6 a7 a8 a9 h = some o → Wq g l mX10_measureOf 0 0 34 [some (va_rf (some a0)), some (.int a1), some (.int a2), some (.int a3), some (.int a4), some (.int a5), some (.int a6), some (.int a7), some (.int a8), some (.int a9), none] [] h (QI o)) : Wq g l mX10_measureOf 0 0 125 [some (va_rf (some a0)), some (.int a1), some (.int a2), some (.int a3), some (.int a4), some (.int a5), none, some (.int a7), some (.int a8), some (.int a9), none] [.int s0] h (QI o) := by
  unfold b_X10_measureOf_125 at hB
  refine q_istore dX10_measureOf_125 (by decide) (nb_i (j := 5) rfl) ?_
  refine q_iload dX10_measureOf_127 rfl ?_
  refine q_iload dX10_measureOf_129 rfl ?_
  refine q_iload dX10_measureOf_131 rfl ?_
  refine q_callSI (k' := 0) (w' := 0) hB (fun a hf => c_X10_has g l _ _ _ a hf) rfl dX10_measureOf_133 wd_891 cs_X10_has wd_892 rfl ⟨⟨Nat.le_of_ble_eq_true rfl, Nat.le_of_ble_eq_true rfl⟩, ⟨Nat.le_of_ble_eq_true rfl, Nat.le_of_ble_eq_true rfl⟩, by simp [rf_cat, cat_i, cat_l]⟩ rfl rfl (fun r1 hB => ?_)
  refine q_if_eq (tgt := 143) hB dX10_measureOf_136 (by decide) (fun hB => ?_) (fun hB => ?_)
  · refine q_iconst (v := 1) dX10_measureOf_143 (by decide) ?_
    exact Wq.mask [true, true, true, true, true, true, true, false, true, true, false] rfl (wb_X10_measureOf_144 g l k34 _ _ _ _ _ _ _ _ _ _ _ _ o hB hk34)
  · refine q_iconst (v := 0) dX10_measureOf_139 (by decide) ?_
    refine q_goto (tgt := 144) dX10_measureOf_140 (by decide) ?_
    exact Wq.mask [true, true, true, true, true, true, true, false, true, true, false] rfl (wb_X10_measureOf_144 g l k34 _ _ _ _ _ _ _ _ _ _ _ _ o hB hk34)
set_option maxHeartbeats 4000000 in
set_option maxRecDepth 100000 in
theorem wb_X10_measureOf_118 (g : GG) (l : Launch) (k34 : Nat → Int32 → Int32 → Int32 → Int32 → Int32 → Int32 → Int32 → Int32 → Int32 → HS → Option (Int32 × HS)) (a0 : Nat) (a1 : Int32) (a2 : Int32) (a3 : Int32) (a4 : Int32) (a5 : Int32) (a7 : Int32) (a8 : Int32) (a9 : Int32) (a10 : Int32) (h : HS) (o : Int32 × HS) (hB : b_X10_measureOf_118 k34 a0 a1 a2 a3 a4 a5 a7 a8 a9 a10 h = some o) (hk34 : ∀ (a0 : Nat) (a1 : Int32) (a2 : Int32) (a3 : Int32) (a4 : Int32) (a5 : Int32) (a6 : Int32) (a7 : Int32) (a8 : Int32) (a9 : Int32) (h : HS), k34 a0 a1 a2 a3 a4 a5 a6 a7 a8 a9 h = some o → Wq g l mX10_measureOf 0 0 34 [some (va_rf (some a0)), some (.int a1), some (.int a2), some (.int a3), some (.int a4), some (.int a5), some (.int a6), some (.int a7), some (.int a8), some (.int a9), none] [] h (QI o)) : Wq g l mX10_measureOf 0 0 118 [some (va_rf (some a0)), some (.int a1), some (.int a2), some (.int a3), some (.int a4), some (.int a5), none, some (.int a7), some (.int a8), some (.int a9), some (.int a10)] [] h (QI o) := by
  unfold b_X10_measureOf_118 at hB
  refine q_iload dX10_measureOf_118 rfl ?_
  refine q_goto (tgt := 125) dX10_measureOf_120 (by decide) ?_
  exact Wq.mask [true, true, true, true, true, true, false, true, true, true, false] rfl (wb_X10_measureOf_125 g l k34 _ _ _ _ _ _ _ _ _ _ _ o hB hk34)
set_option maxHeartbeats 4000000 in
set_option maxRecDepth 100000 in
theorem wb_X10_measureOf_102 (g : GG) (l : Launch) (k34 : Nat → Int32 → Int32 → Int32 → Int32 → Int32 → Int32 → Int32 → Int32 → Int32 → HS → Option (Int32 × HS)) (a0 : Nat) (a1 : Int32) (a2 : Int32) (a3 : Int32) (a4 : Int32) (a6 : Int32) (a7 : Int32) (a8 : Int32) (a9 : Int32) (a10 : Int32) (s0 : Int32) (h : HS) (o : Int32 × HS) (hB : b_X10_measureOf_102 k34 a0 a1 a2 a3 a4 a6 a7 a8 a9 a10 s0 h = some o) (hk34 : ∀ (a0 : Nat) (a1 : Int32) (a2 : Int32) (a3 : Int32) (a4 : Int32) (a5 : Int32) (a6 : Int32) (a7 : Int32) (a8 : Int32) (a9 : Int32) (h : HS), k34 a0 a1 a2 a3 a4 a5 a6 a7 a8 a9 h = some o → Wq g l mX10_measureOf 0 0 34 [some (va_rf (some a0)), some (.int a1), some (.int a2), some (.int a3), some (.int a4), some (.int a5), some (.int a6), some (.int a7), some (.int a8), some (.int a9), none] [] h (QI o)) : Wq g l mX10_measureOf 0 0 102 [some (va_rf (some a0)), some (.int a1), some (.int a2), some (.int a3), some (.int a4), none, some (.int a6), some (.int a7), some (.int a8), some (.int a9), some (.int a10)] [.int s0] h (QI o) := by
  unfold b_X10_measureOf_102 at hB
  refine q_istore dX10_measureOf_102 (by decide) (nb_i (j := 4) rfl) ?_
  refine q_iload dX10_measureOf_104 rfl ?_
  refine q_bipush (v := -9) dX10_measureOf_106 (by decide) ?_
  refine q_icmp_eq (tgt := 118) hB dX10_measureOf_108 (by decide) (fun hB => ?_) (fun hB => ?_)
  · exact Wq.mask [true, true, true, true, true, true, false, true, true, true, true] rfl (wb_X10_measureOf_118 g l k34 _ _ _ _ _ _ _ _ _ _ _ o hB hk34)
  · refine q_iload dX10_measureOf_111 rfl ?_
    refine q_iload dX10_measureOf_113 rfl ?_
    refine q_icmp_ge (tgt := 123) hB dX10_measureOf_115 (by decide) (fun hB => ?_) (fun hB => ?_)
    · refine q_iload dX10_measureOf_123 rfl ?_
      exact Wq.mask [true, true, true, true, true, true, false, true, true, true, false] rfl (wb_X10_measureOf_125 g l k34 _ _ _ _ _ _ _ _ _ _ _ o hB hk34)
    · exact Wq.mask [true, true, true, true, true, true, false, true, true, true, true] rfl (wb_X10_measureOf_118 g l k34 _ _ _ _ _ _ _ _ _ _ _ o hB hk34)
set_option maxHeartbeats 4000000 in
set_option maxRecDepth 100000 in
theorem wb_X10_measureOf_65 (g : GG) (l : Launch) (k34 : Nat → Int32 → Int32 → Int32 → Int32 → Int32 → Int32 → Int32 → Int32 → Int32 → HS → Option (Int32 × HS)) (a0 : Nat) (a1 : Int32) (a2 : Int32) (a3 : Int32) (a4 : Int32) (a5 : Int32) (a6 : Int32) (a7 : Int32) (a8 : Int32) (a9 : Int32) (a10 : Int32) (h : HS) (o : Int32 × HS) (hB : b_X10_measureOf_65 k34 a0 a1 a2 a3 a4 a5 a6 a7 a8 a9 a10 h = some o) (hk34 : ∀ (a0 : Nat) (a1 : Int32) (a2 : Int32) (a3 : Int32) (a4 : Int32) (a5 : Int32) (a6 : Int32) (a7 : Int32) (a8 : Int32) (a9 : Int32) (h : HS), k34 a0 a1 a2 a3 a4 a5 a6 a7 a8 a9 h = some o → Wq g l mX10_measureOf 0 0 34 [some (va_rf (some a0)), some (.int a1), some (.int a2), some (.int a3), some (.int a4), some (.int a5), some (.int a6), some (.int a7), some (.int a8), some (.int a9), none] [] h (QI o)) : Wq g l mX10_measureOf 0 0 65 [some (va_rf (some a0)), some (.int a1), some (.int a2), some (.int a3), some (.int a4), some (.int a5), some (.int a6), some (.int a7), some (.int a8), some (.int a9), some (.int a10)] [] h (QI o) := by
  unfold b_X10_measureOf_65 at hB
  refine q_iload_n dX10_measureOf_65 rfl rfl ?_
  refine q_iload dX10_measureOf_66 rfl ?_
  refine q_callSI (k' := 0) (w' := 0) hB (fun a hf => c_X10_has g l _ _ _ a hf) rfl dX10_measureOf_68 wd_891 cs_X10_has wd_892 rfl ⟨⟨Nat.le_of_ble_eq_true rfl, Nat.le_of_ble_eq_true rfl⟩, ⟨Nat.le_of_ble_eq_true rfl, Nat.le_of_ble_eq_true rfl⟩, Nat.le_of_ble_eq_true rfl⟩ rfl rfl (fun r1 hB => ?_)
  refine q_if_eq (tgt := 147) hB dX10_measureOf_71 (by decide) (fun hB => ?_) (fun hB => ?_)
  · exact Wq.mask [true, true, true, true, true, true, true, true, true, true, false] rfl (wb_X10_measureOf_147 g l k34 _ _ _ _ _ _ _ _ _ _ _ o hB hk34)
  · refine q_iload dX10_measureOf_74 rfl ?_
    refine q_bipush (v := 100) dX10_measureOf_76 (by decide) ?_
    refine q_icmp_eq (tgt := 147) hB dX10_measureOf_78 (by decide) (fun hB => ?_) (fun hB => ?_)
    · exact Wq.mask [true, true, true, true, true, true, true, true, true, true, false] rfl (wb_X10_measureOf_147 g l k34 _ _ _ _ _ _ _ _ _ _ _ o hB hk34)
    · refine q_iload dX10_measureOf_81 rfl ?_
      refine q_iload dX10_measureOf_83 rfl ?_
      refine q_iadd dX10_measureOf_85 ?_
      refine q_istore dX10_measureOf_86 (by decide) (nb_i (j := 3) rfl) ?_
      refine q_iload dX10_measureOf_88 rfl ?_
      refine q_iload dX10_measureOf_90 rfl ?_
      refine q_icmp_le (tgt := 100) hB dX10_measureOf_92 (by decide) (fun hB => ?_) (fun hB => ?_)
      · refine q_iload dX10_measureOf_100 rfl ?_
        exact Wq.mask [true, true, true, true, true, false, true, true, true, true, true] rfl (wb_X10_measureOf_102 g l k34 _ _ _ _ _ _ _ _ _ _ _ _ o hB hk34)
      · refine q_iload dX10_measureOf_95 rfl ?_
        refine q_goto (tgt := 102) dX10_measureOf_97 (by decide) ?_
        exact Wq.mask [true, true, true, true, true, false, true, true, true, true, true] rfl (wb_X10_measureOf_102 g l k34 _ _ _ _ _ _ _ _ _ _ _ _ o hB hk34)
set_option maxHeartbeats 4000000 in
set_option maxRecDepth 100000 in
theorem wb_X10_measureOf_34 (g : GG) (l : Launch) (k34 : Nat → Int32 → Int32 → Int32 → Int32 → Int32 → Int32 → Int32 → Int32 → Int32 → HS → Option (Int32 × HS)) (a0 : Nat) (a1 : Int32) (a2 : Int32) (a3 : Int32) (a4 : Int32) (a5 : Int32) (a6 : Int32) (a7 : Int32) (a8 : Int32) (a9 : Int32) (h : HS) (o : Int32 × HS) (hB : b_X10_measureOf_34 k34 a0 a1 a2 a3 a4 a5 a6 a7 a8 a9 h = some o) (hk34 : ∀ (a0 : Nat) (a1 : Int32) (a2 : Int32) (a3 : Int32) (a4 : Int32) (a5 : Int32) (a6 : Int32) (a7 : Int32) (a8 : Int32) (a9 : Int32) (h : HS), k34 a0 a1 a2 a3 a4 a5 a6 a7 a8 a9 h = some o → Wq g l mX10_measureOf 0 0 34 [some (va_rf (some a0)), some (.int a1), some (.int a2), some (.int a3), some (.int a4), some (.int a5), some (.int a6), some (.int a7), some (.int a8), some (.int a9), none] [] h (QI o)) : Wq g l mX10_measureOf 0 0 34 [some (va_rf (some a0)), some (.int a1), some (.int a2), some (.int a3), some (.int a4), some (.int a5), some (.int a6), some (.int a7), some (.int a8), some (.int a9), none] [] h (QI o) := by
  unfold b_X10_measureOf_34 at hB
  refine q_iload dX10_measureOf_34 rfl ?_
  refine q_aload_n dX10_measureOf_36 rfl rfl ?_
  refine q_iload_n dX10_measureOf_37 rfl rfl ?_
  refine q_callVI (k' := 0) (w' := 0) hB (fun b a hf => c_X10_many g l b _ _ a hf) rfl rfl dX10_measureOf_38 wd_867 cs_X10_many wd_869 wd_23 rfl ⟨⟨Nat.le_of_ble_eq_true rfl, Nat.le_of_ble_eq_true rfl⟩, ⟨Nat.le_of_ble_eq_true rfl, Nat.le_of_ble_eq_true rfl⟩, by simp [rf_cat, cat_i, cat_l]⟩ rfl rfl (fun n2 r1 hB => ?_)
  refine q_icmp_ge (tgt := 153) hB dX10_measureOf_41 (by decide) (fun hB => ?_) (fun hB => ?_)
  · refine q_aload_n dX10_measureOf_153 rfl rfl ?_
    refine q_getI (j := 2) hB dX10_measureOf_154 fc_8 (by decide) rfl wd_731 (fun n3 hB => ?_)
    refine q_if_ne (tgt := 164) hB dX10_measureOf_157 (by decide) (fun hB => ?_) (fun hB => ?_)
    · refine q_aload_n dX10_measureOf_164 rfl rfl ?_
      refine q_getI (j := 2) hB dX10_measureOf_165 fc_8 (by decide) rfl wd_731 (fun n4 hB => ?_)
      refine q_iconst (v := 1) dX10_measureOf_168 (by decide) ?_
      refine q_icmp_ne (tgt := 177) hB dX10_measureOf_169 (by decide) (fun hB => ?_) (fun hB => ?_)
      · refine q_aload_n dX10_measureOf_177 rfl rfl ?_
        refine q_getI (j := 2) hB dX10_measureOf_178 fc_8 (by decide) rfl wd_731 (fun n5 hB => ?_)
        refine q_iconst (v := 2) dX10_measureOf_181 (by decide) ?_
        refine q_icmp_ne (tgt := 190) hB dX10_measureOf_182 (by decide) (fun hB => ?_) (fun hB => ?_)
        · refine q_aload_n dX10_measureOf_190 rfl rfl ?_
          refine q_getI (j := 2) hB dX10_measureOf_191 fc_8 (by decide) rfl wd_731 (fun n6 hB => ?_)
          refine q_iconst (v := 3) dX10_measureOf_194 (by decide) ?_
          refine q_icmp_ne (tgt := 203) hB dX10_measureOf_195 (by decide) (fun hB => ?_) (fun hB => ?_)
          · refine q_iload dX10_measureOf_203 rfl ?_
            exact Wq.mask [false, false, false, false, false, false, false, false, false, false, false] rfl (wb_X10_measureOf_205 g l _ _ o hB)
          · refine q_iload dX10_measureOf_198 rfl ?_
            refine q_goto (tgt := 205) dX10_measureOf_200 (by decide) ?_
            exact Wq.mask [false, false, false, false, false, false, false, false, false, false, false] rfl (wb_X10_measureOf_205 g l _ _ o hB)
        · refine q_iload dX10_measureOf_185 rfl ?_
          refine q_goto (tgt := 205) dX10_measureOf_187 (by decide) ?_
          exact Wq.mask [false, false, false, false, false, false, false, false, false, false, false] rfl (wb_X10_measureOf_205 g l _ _ o hB)
      · refine q_iload dX10_measureOf_172 rfl ?_
        refine q_goto (tgt := 205) dX10_measureOf_174 (by decide) ?_
        exact Wq.mask [false, false, false, false, false, false, false, false, false, false, false] rfl (wb_X10_measureOf_205 g l _ _ o hB)
    · refine q_iload_n dX10_measureOf_160 rfl rfl ?_
      refine q_goto (tgt := 205) dX10_measureOf_161 (by decide) ?_
      exact Wq.mask [false, false, false, false, false, false, false, false, false, false, false] rfl (wb_X10_measureOf_205 g l _ _ o hB)
  · refine q_aload_n dX10_measureOf_44 rfl rfl ?_
    refine q_iload_n dX10_measureOf_45 rfl rfl ?_
    refine q_iload dX10_measureOf_46 rfl ?_
    refine q_callVI (k' := 0) (w' := 0) hB (fun b a hf => c_X10_amountOf g l b _ _ _ a hf) rfl rfl dX10_measureOf_48 wd_894 cs_X10_amountOf wd_896 wd_29 rfl ⟨⟨Nat.le_of_ble_eq_true rfl, Nat.le_of_ble_eq_true rfl⟩, ⟨Nat.le_of_ble_eq_true rfl, Nat.le_of_ble_eq_true rfl⟩, Nat.le_of_ble_eq_true rfl⟩ rfl rfl (fun n8 r7 hB => ?_)
    refine q_istore dX10_measureOf_51 (by decide) (nb_i (j := 9) rfl) ?_
    refine q_iload_n dX10_measureOf_53 rfl rfl ?_
    refine q_iload dX10_measureOf_54 rfl ?_
    refine q_callSI (k' := 0) (w' := 0) hB (fun a hf => c_X10_has g l _ _ _ a hf) rfl dX10_measureOf_56 wd_891 cs_X10_has wd_892 rfl ⟨⟨Nat.le_of_ble_eq_true rfl, Nat.le_of_ble_eq_true rfl⟩, ⟨Nat.le_of_ble_eq_true rfl, Nat.le_of_ble_eq_true rfl⟩, Nat.le_of_ble_eq_true rfl⟩ rfl rfl (fun r9 hB => ?_)
    refine q_if_eq (tgt := 65) hB dX10_measureOf_59 (by decide) (fun hB => ?_) (fun hB => ?_)
    · exact Wq.mask [true, true, true, true, true, true, true, true, true, true, true] rfl (wb_X10_measureOf_65 g l k34 _ _ _ _ _ _ _ _ _ _ _ _ o hB hk34)
    · refine q_iinc dX10_measureOf_62 rfl (show _ = (a3 + (1 : Int32)) from rfl) (by decide) (nb_i (j := 2) rfl) ?_
      exact Wq.mask [true, true, true, true, true, true, true, true, true, true, true] rfl (wb_X10_measureOf_65 g l k34 _ _ _ _ _ _ _ _ _ _ _ _ o hB hk34)
set_option maxHeartbeats 4000000 in
theorem wl_X10_measureOf_34 (g : GG) (l : Launch) (o : Int32 × HS) : ∀ (n : Nat) (a0 : Nat) (a1 : Int32) (a2 : Int32) (a3 : Int32) (a4 : Int32) (a5 : Int32) (a6 : Int32) (a7 : Int32) (a8 : Int32) (a9 : Int32) (h : HS), l_X10_measureOf_34 n a0 a1 a2 a3 a4 a5 a6 a7 a8 a9 h = some o → Wq g l mX10_measureOf 0 0 34 [some (va_rf (some a0)), some (.int a1), some (.int a2), some (.int a3), some (.int a4), some (.int a5), some (.int a6), some (.int a7), some (.int a8), some (.int a9), none] [] h (QI o) := by
  intro n
  induction n with
  | zero =>
    intro a0 a1 a2 a3 a4 a5 a6 a7 a8 a9  h hB
    have q : (none : Option (Int32 × HS)) = some o := hB
    cases q
  | succ n ih =>
    intro a0 a1 a2 a3 a4 a5 a6 a7 a8 a9  h hB
    exact wb_X10_measureOf_34 g l (l_X10_measureOf_34 n) a0 a1 a2 a3 a4 a5 a6 a7 a8 a9 h o hB ih
set_option maxHeartbeats 4000000 in
set_option maxRecDepth 100000 in
theorem c_X10_measureOf (g : GG) (l : Launch) (a0 : Nat) (a1 : Int32) (a2 : Int32) (h : HS) (o : Int32 × HS) (hB : f_X10_measureOf a0 a1 a2 h = some o) : Ct g l mX10_measureOf [va_rf (some a0), .int a1, .int a2] h (QI o) := by
  refine Ct.of2 (lv0 := [some (va_rf (some a0)), some (.int a1), some (.int a2), none, none, none, none, none, none, none, none]) (by decide +kernel) (by simp [lg_sl, rf_cat, cat_i, cat_l]) rfl ?_
  unfold f_X10_measureOf at hB
  refine q_iload_n dX10_measureOf_0 rfl rfl ?_
  refine q_if_ne (tgt := 7) hB dX10_measureOf_1 (by decide) (fun hB => ?_) (fun hB => ?_)
  · refine q_iconst (v := 0) dX10_measureOf_7 (by decide) ?_
    refine q_istore_n dX10_measureOf_8 rfl (by decide) (nb_i (j := 2) rfl) ?_
    refine q_iconst (v := 0) dX10_measureOf_9 (by decide) ?_
    refine q_istore dX10_measureOf_10 (by decide) (nb_i (j := 3) rfl) ?_
    refine q_bipush (v := -9) dX10_measureOf_12 (by decide) ?_
    refine q_istore dX10_measureOf_14 (by decide) (nb_i (j := 4) rfl) ?_
    refine q_bipush (v := -9) dX10_measureOf_16 (by decide) ?_
    refine q_istore dX10_measureOf_18 (by decide) (nb_i (j := 5) rfl) ?_
    refine q_iconst (v := 0) dX10_measureOf_20 (by decide) ?_
    refine q_istore dX10_measureOf_21 (by decide) (nb_i (j := 6) rfl) ?_
    refine q_aload_n dX10_measureOf_23 rfl rfl ?_
    refine q_iload_n dX10_measureOf_24 rfl rfl ?_
    refine q_iload_n dX10_measureOf_25 rfl rfl ?_
    refine q_callVI (k' := 0) (w' := 0) hB (fun b a hf => c_X10_twinsOf g l b _ _ _ a hf) rfl rfl dX10_measureOf_26 wd_887 cs_X10_twinsOf wd_889 wd_28 rfl ⟨⟨Nat.le_of_ble_eq_true rfl, Nat.le_of_ble_eq_true rfl⟩, ⟨Nat.le_of_ble_eq_true rfl, Nat.le_of_ble_eq_true rfl⟩, Nat.le_of_ble_eq_true rfl⟩ rfl rfl (fun n2 r1 hB => ?_)
    refine q_istore dX10_measureOf_29 (by decide) (nb_i (j := 7) rfl) ?_
    refine q_iconst (v := 0) dX10_measureOf_31 (by decide) ?_
    refine q_istore dX10_measureOf_32 (by decide) (nb_i (j := 8) rfl) ?_
    exact Wq.mask [true, true, true, true, true, true, true, true, true, true, false] rfl (wl_X10_measureOf_34 g l o FU _ _ _ _ _ _ _ _ _ _ _ hB)
  · refine q_bipush (v := -9) dX10_measureOf_4 (by decide) ?_
    exact q_iret hB dX10_measureOf_6 rfl (by decide) (by decide)

def b_X10_pick_122  (k23 : Nat → Int32 → Int32 → Int32 → HS → Option (Unit × HS)) (k35 : Nat → Int32 → Int32 → Int32 → Int32 → Int32 → HS → Option (Unit × HS)) (a0 : Nat) (a1 : Int32) (a2 : Int32) (a3 : Int32) (a5 : Int32) (s0 : Int32) (h : HS) : Option (Unit × HS) :=
  k35 a0 a1 a2 a3 s0 (a5 + (1 : Int32)) h
def b_X10_pick_120  (k23 : Nat → Int32 → Int32 → Int32 → HS → Option (Unit × HS)) (k35 : Nat → Int32 → Int32 → Int32 → Int32 → Int32 → HS → Option (Unit × HS)) (a0 : Nat) (a1 : Int32) (a2 : Int32) (a3 : Int32) (a4 : Int32) (a5 : Int32) (h : HS) : Option (Unit × HS) :=
  b_X10_pick_122 k23 k35 a0 a1 a2 a3 a5 a4 h
def b_X10_pick_115  (k23 : Nat → Int32 → Int32 → Int32 → HS → Option (Unit × HS)) (k35 : Nat → Int32 → Int32 → Int32 → Int32 → Int32 → HS → Option (Unit × HS)) (a0 : Nat) (a1 : Int32) (a2 : Int32) (a3 : Int32) (a5 : Int32) (h : HS) : Option (Unit × HS) :=
  b_X10_pick_122 k23 k35 a0 a1 a2 a3 a5 a5 h
def b_X10_pick_75  (k23 : Nat → Int32 → Int32 → Int32 → HS → Option (Unit × HS)) (k35 : Nat → Int32 → Int32 → Int32 → Int32 → Int32 → HS → Option (Unit × HS)) (a0 : Nat) (a1 : Int32) (a2 : Int32) (a3 : Int32) (a4 : Int32) (a5 : Int32) (a6 : Int32) (s0 : Int32) (h : HS) : Option (Unit × HS) :=
  (if s0 = 0 then b_X10_pick_120 k23 k35 a0 a1 a2 a3 a4 a5 h else (if a4 = (-9 : Int32) then b_X10_pick_115 k23 k35 a0 a1 a2 a3 a5 h else nn (some a0) (fun n2 => gd (rk h n2 8) (bd (f_X10_measureOf n2 a1 a6 h) (fun r1 => nn (some a0) (fun n3 => gd (ck r1.2 n3 8) (nn (some a0) (fun n5 => gd (rk r1.2 n5 8) (bd (f_X10_groupOf n5 a1 (hI r1.2 n3 0) a4 r1.2) (fun r4 => nn (some a0) (fun n7 => gd (rk r4.2 n7 8) (bd (f_X10_measureOf n7 a1 r4.1 r4.2) (fun r6 => (if r1.1 ≤ r6.1 then b_X10_pick_120 k23 k35 a0 a1 a2 a3 a4 a5 r6.2 else b_X10_pick_115 k23 k35 a0 a1 a2 a3 a5 r6.2))))))))))))))
def b_X10_pick_74  (k23 : Nat → Int32 → Int32 → Int32 → HS → Option (Unit × HS)) (k35 : Nat → Int32 → Int32 → Int32 → Int32 → Int32 → HS → Option (Unit × HS)) (a0 : Nat) (a1 : Int32) (a2 : Int32) (a3 : Int32) (a4 : Int32) (a5 : Int32) (a6 : Int32) (h : HS) : Option (Unit × HS) :=
  b_X10_pick_75 k23 k35 a0 a1 a2 a3 a4 a5 a6 (0 : Int32) h
def b_X10_pick_35  (k23 : Nat → Int32 → Int32 → Int32 → HS → Option (Unit × HS)) (k35 : Nat → Int32 → Int32 → Int32 → Int32 → Int32 → HS → Option (Unit × HS)) (a0 : Nat) (a1 : Int32) (a2 : Int32) (a3 : Int32) (a4 : Int32) (a5 : Int32) (h : HS) : Option (Unit × HS) :=
  (if (20 : Int32) < a5 then nn (some a0) (fun n1 => gd (ck h n1 8) (nn (hP h n1 19) (fun n2 => gd (ca h n2 9 a4) (hl (sI h n2 a4.toNatClampNeg (1 : Int32)) (fun h3 => k23 a0 a1 a2 (a3 + (1 : Int32)) h3))))) else nn (some a0) (fun n4 => gd (ck h n4 8) (nn (some a0) (fun n6 => gd (rk h n6 8) (bd (f_X10_groupOf n6 a1 (hI h n4 0) a5 h) (fun r5 => (if r5.1 = 0 then b_X10_pick_74 k23 k35 a0 a1 a2 a3 a4 a5 r5.1 r5.2 else nn (some a0) (fun n7 => gd (ck r5.2 n7 8) (nn (hP r5.2 n7 19) (fun n8 => gd (ca r5.2 n8 9 a5) ((if (hI r5.2 n8 a5.toNatClampNeg) = 0 then b_X10_pick_75 k23 k35 a0 a1 a2 a3 a4 a5 r5.1 (1 : Int32) r5.2 else b_X10_pick_74 k23 k35 a0 a1 a2 a3 a4 a5 r5.1 r5.2))))))))))))
def l_X10_pick_35  (k23 : Nat → Int32 → Int32 → Int32 → HS → Option (Unit × HS)) : Nat → Nat → Int32 → Int32 → Int32 → Int32 → Int32 → HS → Option (Unit × HS)
  | 0 => fun _ _ _ _ _ _ _ => none
  | n + 1 => b_X10_pick_35 k23 (l_X10_pick_35 k23 n)
def b_X10_pick_23  (k23 : Nat → Int32 → Int32 → Int32 → HS → Option (Unit × HS)) (a0 : Nat) (a1 : Int32) (a2 : Int32) (a3 : Int32) (h : HS) : Option (Unit × HS) :=
  (if a2 ≤ a3 then some ((), h) else l_X10_pick_35 k23 FU a0 a1 a2 a3 (-9 : Int32) (0 : Int32) h)
def l_X10_pick_23  : Nat → Nat → Int32 → Int32 → Int32 → HS → Option (Unit × HS)
  | 0 => fun _ _ _ _ _ => none
  | n + 1 => b_X10_pick_23 (l_X10_pick_23 n)
def b_X10_pick_2  (k2 : Nat → Int32 → Int32 → Int32 → HS → Option (Unit × HS)) (a0 : Nat) (a1 : Int32) (a2 : Int32) (a3 : Int32) (h : HS) : Option (Unit × HS) :=
  (if (20 : Int32) < a3 then l_X10_pick_23 FU a0 a1 a2 (0 : Int32) h else nn (some a0) (fun n1 => gd (ck h n1 8) (nn (hP h n1 19) (fun n2 => gd (ca h n2 9 a3) (hl (sI h n2 a3.toNatClampNeg (0 : Int32)) (fun h3 => k2 a0 a1 a2 (a3 + (1 : Int32)) h3))))))
def l_X10_pick_2  : Nat → Nat → Int32 → Int32 → Int32 → HS → Option (Unit × HS)
  | 0 => fun _ _ _ _ _ => none
  | n + 1 => b_X10_pick_2 (l_X10_pick_2 n)
def f_X10_pick  (a0 : Nat) (a1 : Int32) (a2 : Int32) (h : HS) : Option (Unit × HS) :=
  l_X10_pick_2 FU a0 a1 a2 (0 : Int32) h
set_option maxHeartbeats 4000000 in
set_option maxRecDepth 100000 in
theorem wb_X10_pick_122 (g : GG) (l : Launch) (k23 : Nat → Int32 → Int32 → Int32 → HS → Option (Unit × HS)) (k35 : Nat → Int32 → Int32 → Int32 → Int32 → Int32 → HS → Option (Unit × HS)) (a0 : Nat) (a1 : Int32) (a2 : Int32) (a3 : Int32) (a5 : Int32) (s0 : Int32) (h : HS) (o : Unit × HS) (hB : b_X10_pick_122 k23 k35 a0 a1 a2 a3 a5 s0 h = some o) (hk23 : ∀ (a0 : Nat) (a1 : Int32) (a2 : Int32) (a3 : Int32) (h : HS), k23 a0 a1 a2 a3 h = some o → Wq g l mX10_pick 0 0 23 [some (va_rf (some a0)), some (.int a1), some (.int a2), some (.int a3), none, none, none, none] [] h (QV o)) (hk35 : ∀ (a0 : Nat) (a1 : Int32) (a2 : Int32) (a3 : Int32) (a4 : Int32) (a5 : Int32) (h : HS), k35 a0 a1 a2 a3 a4 a5 h = some o → Wq g l mX10_pick 0 0 35 [some (va_rf (some a0)), some (.int a1), some (.int a2), some (.int a3), some (.int a4), some (.int a5), none, none] [] h (QV o)) : Wq g l mX10_pick 0 0 122 [some (va_rf (some a0)), some (.int a1), some (.int a2), some (.int a3), none, some (.int a5), none, none] [.int s0] h (QV o) := by
  unfold b_X10_pick_122 at hB
  refine q_istore dX10_pick_122 (by decide) (nb_i (j := 3) rfl) ?_
  refine q_iinc dX10_pick_124 rfl (show _ = (a5 + (1 : Int32)) from rfl) (by decide) (nb_i (j := 4) rfl) ?_
  refine q_goto (tgt := 35) dX10_pick_127 (by decide) ?_
  exact Wq.mask [true, true, true, true, true, true, false, false] rfl (hk35 _ _ _ _ _ _ _ hB)
set_option maxHeartbeats 4000000 in
set_option maxRecDepth 100000 in
theorem wb_X10_pick_120 (g : GG) (l : Launch) (k23 : Nat → Int32 → Int32 → Int32 → HS → Option (Unit × HS)) (k35 : Nat → Int32 → Int32 → Int32 → Int32 → Int32 → HS → Option (Unit × HS)) (a0 : Nat) (a1 : Int32) (a2 : Int32) (a3 : Int32) (a4 : Int32) (a5 : Int32) (h : HS) (o : Unit × HS) (hB : b_X10_pick_120 k23 k35 a0 a1 a2 a3 a4 a5 h = some o) (hk23 : ∀ (a0 : Nat) (a1 : Int32) (a2 : Int32) (a3 : Int32) (h : HS), k23 a0 a1 a2 a3 h = some o → Wq g l mX10_pick 0 0 23 [some (va_rf (some a0)), some (.int a1), some (.int a2), some (.int a3), none, none, none, none] [] h (QV o)) (hk35 : ∀ (a0 : Nat) (a1 : Int32) (a2 : Int32) (a3 : Int32) (a4 : Int32) (a5 : Int32) (h : HS), k35 a0 a1 a2 a3 a4 a5 h = some o → Wq g l mX10_pick 0 0 35 [some (va_rf (some a0)), some (.int a1), some (.int a2), some (.int a3), some (.int a4), some (.int a5), none, none] [] h (QV o)) : Wq g l mX10_pick 0 0 120 [some (va_rf (some a0)), some (.int a1), some (.int a2), some (.int a3), some (.int a4), some (.int a5), none, none] [] h (QV o) := by
  unfold b_X10_pick_120 at hB
  refine q_iload dX10_pick_120 rfl ?_
  exact Wq.mask [true, true, true, true, false, true, false, false] rfl (wb_X10_pick_122 g l k23 k35 _ _ _ _ _ _ _ o hB hk23 hk35)
set_option maxHeartbeats 4000000 in
set_option maxRecDepth 100000 in
theorem wb_X10_pick_115 (g : GG) (l : Launch) (k23 : Nat → Int32 → Int32 → Int32 → HS → Option (Unit × HS)) (k35 : Nat → Int32 → Int32 → Int32 → Int32 → Int32 → HS → Option (Unit × HS)) (a0 : Nat) (a1 : Int32) (a2 : Int32) (a3 : Int32) (a5 : Int32) (h : HS) (o : Unit × HS) (hB : b_X10_pick_115 k23 k35 a0 a1 a2 a3 a5 h = some o) (hk23 : ∀ (a0 : Nat) (a1 : Int32) (a2 : Int32) (a3 : Int32) (h : HS), k23 a0 a1 a2 a3 h = some o → Wq g l mX10_pick 0 0 23 [some (va_rf (some a0)), some (.int a1), some (.int a2), some (.int a3), none, none, none, none] [] h (QV o)) (hk35 : ∀ (a0 : Nat) (a1 : Int32) (a2 : Int32) (a3 : Int32) (a4 : Int32) (a5 : Int32) (h : HS), k35 a0 a1 a2 a3 a4 a5 h = some o → Wq g l mX10_pick 0 0 35 [some (va_rf (some a0)), some (.int a1), some (.int a2), some (.int a3), some (.int a4), some (.int a5), none, none] [] h (QV o)) : Wq g l mX10_pick 0 0 115 [some (va_rf (some a0)), some (.int a1), some (.int a2), some (.int a3), none, some (.int a5), none, none] [] h (QV o) := by
  unfold b_X10_pick_115 at hB
  refine q_iload dX10_pick_115 rfl ?_
  refine q_goto (tgt := 122) dX10_pick_117 (by decide) ?_
  exact Wq.mask [true, true, true, true, false, true, false, false] rfl (wb_X10_pick_122 g l k23 k35 _ _ _ _ _ _ _ o hB hk23 hk35)
set_option maxHeartbeats 4000000 in
set_option maxRecDepth 100000 in
theorem wb_X10_pick_75 (g : GG) (l : Launch) (k23 : Nat → Int32 → Int32 → Int32 → HS → Option (Unit × HS)) (k35 : Nat → Int32 → Int32 → Int32 → Int32 → Int32 → HS → Option (Unit × HS)) (a0 : Nat) (a1 : Int32) (a2 : Int32) (a3 : Int32) (a4 : Int32) (a5 : Int32) (a6 : Int32) (s0 : Int32) (h : HS) (o : Unit × HS) (hB : b_X10_pick_75 k23 k35 a0 a1 a2 a3 a4 a5 a6 s0 h = some o) (hk23 : ∀ (a0 : Nat) (a1 : Int32) (a2 : Int32) (a3 : Int32) (h : HS), k23 a0 a1 a2 a3 h = some o → Wq g l mX10_pick 0 0 23 [some (va_rf (some a0)), some (.int a1), some (.int a2), some (.int a3), none, none, none, none] [] h (QV o)) (hk35 : ∀ (a0 : Nat) (a1 : Int32) (a2 : Int32) (a3 : Int32) (a4 : Int32) (a5 : Int32) (h : HS), k35 a0 a1 a2 a3 a4 a5 h = some o → Wq g l mX10_pick 0 0 35 [some (va_rf (some a0)), some (.int a1), some (.int a2), some (.int a3), some (.int a4), some (.int a5), none, none] [] h (QV o)) : Wq g l mX10_pick 0 0 75 [some (va_rf (some a0)), some (.int a1), some (.int a2), some (.int a3), some (.int a4), some (.int a5), some (.int a6), none] [.int s0] h (QV o) := by
  unfold b_X10_pick_75 at hB
  refine q_istore dX10_pick_75 (by decide) (nb_i (j := 6) rfl) ?_
  refine q_iload dX10_pick_77 rfl ?_
  refine q_if_eq (tgt := 120) hB dX10_pick_79 (by decide) (fun hB => ?_) (fun hB => ?_)
  · exact Wq.mask [true, true, true, true, true, true, false, false] rfl (wb_X10_pick_120 g l k23 k35 _ _ _ _ _ _ _ o hB hk23 hk35)
  · refine q_iload dX10_pick_82 rfl ?_
    refine q_bipush (v := -9) dX10_pick_84 (by decide) ?_
    refine q_icmp_eq (tgt := 115) hB dX10_pick_86 (by decide) (fun hB => ?_) (fun hB => ?_)
    · exact Wq.mask [true, true, true, true, false, true, false, false] rfl (wb_X10_pick_115 g l k23 k35 _ _ _ _ _ _ o hB hk23 hk35)
    · refine q_aload_n dX10_pick_89 rfl rfl ?_
      refine q_iload_n dX10_pick_90 rfl rfl ?_
      refine q_iload dX10_pick_91 rfl ?_
      refine q_callVI (k' := 0) (w' := 0) hB (fun b a hf => c_X10_measureOf g l b _ _ _ a hf) rfl rfl dX10_pick_93 wd_883 cs_X10_measureOf wd_885 wd_27 rfl ⟨⟨Nat.le_of_ble_eq_true rfl, Nat.le_of_ble_eq_true rfl⟩, ⟨Nat.le_of_ble_eq_true rfl, Nat.le_of_ble_eq_true rfl⟩, Nat.le_of_ble_eq_true rfl⟩ rfl rfl (fun n2 r1 hB => ?_)
      refine q_aload_n dX10_pick_96 rfl rfl ?_
      refine q_iload_n dX10_pick_97 rfl rfl ?_
      refine q_aload_n dX10_pick_98 rfl rfl ?_
      refine q_iload_n dX10_pick_99 rfl rfl ?_
      refine q_aload_n dX10_pick_100 rfl rfl ?_
      refine q_getI (j := 0) hB dX10_pick_101 fc_8 (by decide) rfl wd_729 (fun n3 hB => ?_)
      refine q_iload dX10_pick_104 rfl ?_
      refine q_callVI (k' := 0) (w' := 0) hB (fun b a hf => c_X10_groupOf g l b _ _ _ _ a hf) rfl rfl dX10_pick_106 wd_863 cs_X10_groupOf wd_865 wd_22 rfl ⟨⟨Nat.le_of_ble_eq_true rfl, Nat.le_of_ble_eq_true rfl⟩, ⟨Nat.le_of_ble_eq_true rfl, Nat.le_of_ble_eq_true rfl⟩, by simp [rf_cat, cat_i, cat_l]⟩ rfl rfl (fun n5 r4 hB => ?_)
      refine q_callVI (k' := 0) (w' := 0) hB (fun b a hf => c_X10_measureOf g l b _ _ _ a hf) rfl rfl dX10_pick_109 wd_883 cs_X10_measureOf wd_885 wd_27 rfl ⟨⟨Nat.le_of_ble_eq_true rfl, Nat.le_of_ble_eq_true rfl⟩, ⟨Nat.le_of_ble_eq_true rfl, Nat.le_of_ble_eq_true rfl⟩, by simp [rf_cat, cat_i, cat_l]⟩ rfl rfl (fun n7 r6 hB => ?_)
      refine q_icmp_le (tgt := 120) hB dX10_pick_112 (by decide) (fun hB => ?_) (fun hB => ?_)
      · exact Wq.mask [true, true, true, true, true, true, false, false] rfl (wb_X10_pick_120 g l k23 k35 _ _ _ _ _ _ _ o hB hk23 hk35)
      · exact Wq.mask [true, true, true, true, false, true, false, false] rfl (wb_X10_pick_115 g l k23 k35 _ _ _ _ _ _ o hB hk23 hk35)
set_option maxHeartbeats 4000000 in
set_option maxRecDepth 100000 in
theorem wb_X10_pick_74 (g : GG) (l : Launch) (k23 : Nat → Int32 → Int32 → Int32 → HS → Option (Unit × HS)) (k35 : Nat → Int32 → Int32 → Int32 → Int32 → Int32 → HS → Option (Unit × HS)) (a0 : Nat) (a1 : Int32) (a2 : Int32) (a3 : Int32) (a4 : Int32) (a5 : Int32) (a6 : Int32) (h : HS) (o : Unit × HS) (hB : b_X10_pick_74 k23 k35 a0 a1 a2 a3 a4 a5 a6 h = some o) (hk23 : ∀ (a0 : Nat) (a1 : Int32) (a2 : Int32) (a3 : Int32) (h : HS), k23 a0 a1 a2 a3 h = some o → Wq g l mX10_pick 0 0 23 [some (va_rf (some a0)), some (.int a1), some (.int a2), some (.int a3), none, none, none, none] [] h (QV o)) (hk35 : ∀ (a0 : Nat) (a1 : Int32) (a2 : Int32) (a3 : Int32) (a4 : Int32) (a5 : Int32) (h : HS), k35 a0 a1 a2 a3 a4 a5 h = some o → Wq g l mX10_pick 0 0 35 [some (va_rf (some a0)), some (.int a1), some (.int a2), some (.int a3), some (.int a4), some (.int a5), none, none] [] h (QV o)) : Wq g l mX10_pick 0 0 74 [some (va_rf (some a0)), some (.int a1), some (.int a2), some (.int a3), some (.int a4), some (.int a5), some (.int a6), none] [] h (QV o) := by
  unfold b_X10_pick_74 at hB
  refine q_iconst (v := 0) dX10_pick_74 (by decide) ?_
  exact Wq.mask [true, true, true, true, true, true, true, false] rfl (wb_X10_pick_75 g l k23 k35 _ _ _ _ _ _ _ _ _ o hB hk23 hk35)
set_option maxHeartbeats 4000000 in
set_option maxRecDepth 100000 in
theorem wb_X10_pick_35 (g : GG) (l : Launch) (k23 : Nat → Int32 → Int32 → Int32 → HS → Option (Unit × HS)) (k35 : Nat → Int32 → Int32 → Int32 → Int32 → Int32 → HS → Option (Unit × HS)) (a0 : Nat) (a1 : Int32) (a2 : Int32) (a3 : Int32) (a4 : Int32) (a5 : Int32) (h : HS) (o : Unit × HS) (hB : b_X10_pick_35 k23 k35 a0 a1 a2 a3 a4 a5 h = some o) (hk23 : ∀ (a0 : Nat) (a1 : Int32) (a2 : Int32) (a3 : Int32) (h : HS), k23 a0 a1 a2 a3 h = some o → Wq g l mX10_pick 0 0 23 [some (va_rf (some a0)), some (.int a1), some (.int a2), some (.int a3), none, none, none, none] [] h (QV o)) (hk35 : ∀ (a0 : Nat) (a1 : Int32) (a2 : Int32) (a3 : Int32) (a4 : Int32) (a5 : Int32) (h : HS), k35 a0 a1 a2 a3 a4 a5 h = some o → Wq g l mX10_pick 0 0 35 [some (va_rf (some a0)), some (.int a1), some (.int a2), some (.int a3), some (.int a4), some (.int a5), none, none] [] h (QV o)) : Wq g l mX10_pick 0 0 35 [some (va_rf (some a0)), some (.int a1), some (.int a2), some (.int a3), some (.int a4), some (.int a5), none, none] [] h (QV o) := by
  unfold b_X10_pick_35 at hB
  refine q_iload dX10_pick_35 rfl ?_
  refine q_bipush (v := 20) dX10_pick_37 (by decide) ?_
  refine q_icmp_gt (tgt := 130) hB dX10_pick_39 (by decide) (fun hB => ?_) (fun hB => ?_)
  · refine q_aload_n dX10_pick_130 rfl rfl ?_
    refine q_getP (j := 19) hB dX10_pick_131 fc_8 (by decide) rfl wd_748 (fun n1 hB => ?_)
    refine q_iload dX10_pick_134 rfl ?_
    refine q_iconst (v := 1) dX10_pick_136 (by decide) ?_
    refine q_iast hB dX10_pick_137 (fun n2 hB => ?_)
    refine q_nm hB (fun h3 hB => ?_)
    refine q_iinc dX10_pick_138 rfl (show _ = (a3 + (1 : Int32)) from rfl) (by decide) (nb_i (j := 2) rfl) ?_
    refine q_goto (tgt := 23) dX10_pick_141 (by decide) ?_
    exact Wq.mask [true, true, true, true, false, false, false, false] rfl (hk23 _ _ _ _ _ hB)
  · refine q_aload_n dX10_pick_42 rfl rfl ?_
    refine q_iload_n dX10_pick_43 rfl rfl ?_
    refine q_aload_n dX10_pick_44 rfl rfl ?_
    refine q_getI (j := 0) hB dX10_pick_45 fc_8 (by decide) rfl wd_729 (fun n4 hB => ?_)
    refine q_iload dX10_pick_48 rfl ?_
    refine q_callVI (k' := 0) (w' := 0) hB (fun b a hf => c_X10_groupOf g l b _ _ _ _ a hf) rfl rfl dX10_pick_50 wd_863 cs_X10_groupOf wd_865 wd_22 rfl ⟨⟨Nat.le_of_ble_eq_true rfl, Nat.le_of_ble_eq_true rfl⟩, ⟨Nat.le_of_ble_eq_true rfl, Nat.le_of_ble_eq_true rfl⟩, Nat.le_of_ble_eq_true rfl⟩ rfl rfl (fun n6 r5 hB => ?_)
    refine q_istore dX10_pick_53 (by decide) (nb_i (j := 5) rfl) ?_
    refine q_iload dX10_pick_55 rfl ?_
    refine q_if_eq (tgt := 74) hB dX10_pick_57 (by decide) (fun hB => ?_) (fun hB => ?_)
    · exact Wq.mask [true, true, true, true, true, true, true, false] rfl (wb_X10_pick_74 g l k23 k35 _ _ _ _ _ _ _ _ o hB hk23 hk35)
    · refine q_aload_n dX10_pick_60 rfl rfl ?_
      refine q_getP (j := 19) hB dX10_pick_61 fc_8 (by decide) rfl wd_748 (fun n7 hB => ?_)
      refine q_iload dX10_pick_64 rfl ?_
      refine q_iald hB dX10_pick_66 (fun n8 hB => ?_)
      refine q_if_ne (tgt := 74) hB dX10_pick_67 (by decide) (fun hB => ?_) (fun hB => ?_)
      · exact Wq.mask [true, true, true, true, true, true, true, false] rfl (wb_X10_pick_74 g l k23 k35 _ _ _ _ _ _ _ _ o hB hk23 hk35)
      · refine q_iconst (v := 1) dX10_pick_70 (by decide) ?_
        refine q_goto (tgt := 75) dX10_pick_71 (by decide) ?_
        exact Wq.mask [true, true, true, true, true, true, true, false] rfl (wb_X10_pick_75 g l k23 k35 _ _ _ _ _ _ _ _ _ o hB hk23 hk35)
set_option maxHeartbeats 4000000 in
theorem wl_X10_pick_35 (g : GG) (l : Launch) (k23 : Nat → Int32 → Int32 → Int32 → HS → Option (Unit × HS)) (o : Unit × HS) (hk23 : ∀ (a0 : Nat) (a1 : Int32) (a2 : Int32) (a3 : Int32) (h : HS), k23 a0 a1 a2 a3 h = some o → Wq g l mX10_pick 0 0 23 [some (va_rf (some a0)), some (.int a1), some (.int a2), some (.int a3), none, none, none, none] [] h (QV o)) : ∀ (n : Nat) (a0 : Nat) (a1 : Int32) (a2 : Int32) (a3 : Int32) (a4 : Int32) (a5 : Int32) (h : HS), l_X10_pick_35 k23 n a0 a1 a2 a3 a4 a5 h = some o → Wq g l mX10_pick 0 0 35 [some (va_rf (some a0)), some (.int a1), some (.int a2), some (.int a3), some (.int a4), some (.int a5), none, none] [] h (QV o) := by
  intro n
  induction n with
  | zero =>
    intro a0 a1 a2 a3 a4 a5  h hB
    have q : (none : Option (Unit × HS)) = some o := hB
    cases q
  | succ n ih =>
    intro a0 a1 a2 a3 a4 a5  h hB
    exact wb_X10_pick_35 g l k23 (l_X10_pick_35 k23 n) a0 a1 a2 a3 a4 a5 h o hB hk23 ih
set_option maxHeartbeats 4000000 in
set_option maxRecDepth 100000 in
theorem wb_X10_pick_23 (g : GG) (l : Launch) (k23 : Nat → Int32 → Int32 → Int32 → HS → Option (Unit × HS)) (a0 : Nat) (a1 : Int32) (a2 : Int32) (a3 : Int32) (h : HS) (o : Unit × HS) (hB : b_X10_pick_23 k23 a0 a1 a2 a3 h = some o) (hk23 : ∀ (a0 : Nat) (a1 : Int32) (a2 : Int32) (a3 : Int32) (h : HS), k23 a0 a1 a2 a3 h = some o → Wq g l mX10_pick 0 0 23 [some (va_rf (some a0)), some (.int a1), some (.int a2), some (.int a3), none, none, none, none] [] h (QV o)) : Wq g l mX10_pick 0 0 23 [some (va_rf (some a0)), some (.int a1), some (.int a2), some (.int a3), none, none, none, none] [] h (QV o) := by
  unfold b_X10_pick_23 at hB
  refine q_iload_n dX10_pick_23 rfl rfl ?_
  refine q_iload_n dX10_pick_24 rfl rfl ?_
  refine q_icmp_ge (tgt := 144) hB dX10_pick_25 (by decide) (fun hB => ?_) (fun hB => ?_)
  · exact q_vret hB dX10_pick_144 rfl (by decide) (by decide)
  · refine q_bipush (v := -9) dX10_pick_28 (by decide) ?_
    refine q_istore dX10_pick_30 (by decide) (nb_i (j := 3) rfl) ?_
    refine q_iconst (v := 0) dX10_pick_32 (by decide) ?_
    refine q_istore dX10_pick_33 (by decide) (nb_i (j := 4) rfl) ?_
    exact Wq.mask [true, true, true, true, true, true, false, false] rfl (wl_X10_pick_35 g l k23 o hk23 FU _ _ _ _ _ _ _ hB)
set_option maxHeartbeats 4000000 in
theorem wl_X10_pick_23 (g : GG) (l : Launch) (o : Unit × HS) : ∀ (n : Nat) (a0 : Nat) (a1 : Int32) (a2 : Int32) (a3 : Int32) (h : HS), l_X10_pick_23 n a0 a1 a2 a3 h = some o → Wq g l mX10_pick 0 0 23 [some (va_rf (some a0)), some (.int a1), some (.int a2), some (.int a3), none, none, none, none] [] h (QV o) := by
  intro n
  induction n with
  | zero =>
    intro a0 a1 a2 a3  h hB
    have q : (none : Option (Unit × HS)) = some o := hB
    cases q
  | succ n ih =>
    intro a0 a1 a2 a3  h hB
    exact wb_X10_pick_23 g l (l_X10_pick_23 n) a0 a1 a2 a3 h o hB ih
set_option maxHeartbeats 4000000 in
set_option maxRecDepth 100000 in
theorem wb_X10_pick_2 (g : GG) (l : Launch) (k2 : Nat → Int32 → Int32 → Int32 → HS → Option (Unit × HS)) (a0 : Nat) (a1 : Int32) (a2 : Int32) (a3 : Int32) (h : HS) (o : Unit × HS) (hB : b_X10_pick_2 k2 a0 a1 a2 a3 h = some o) (hk2 : ∀ (a0 : Nat) (a1 : Int32) (a2 : Int32) (a3 : Int32) (h : HS), k2 a0 a1 a2 a3 h = some o → Wq g l mX10_pick 0 0 2 [some (va_rf (some a0)), some (.int a1), some (.int a2), some (.int a3), none, none, none, none] [] h (QV o)) : Wq g l mX10_pick 0 0 2 [some (va_rf (some a0)), some (.int a1), some (.int a2), some (.int a3), none, none, none, none] [] h (QV o) := by
  unfold b_X10_pick_2 at hB
  refine q_iload_n dX10_pick_2 rfl rfl ?_
  refine q_bipush (v := 20) dX10_pick_3 (by decide) ?_
  refine q_icmp_gt (tgt := 21) hB dX10_pick_5 (by decide) (fun hB => ?_) (fun hB => ?_)
  · refine q_iconst (v := 0) dX10_pick_21 (by decide) ?_
    refine q_istore_n dX10_pick_22 rfl (by decide) (nb_i (j := 2) rfl) ?_
    exact Wq.mask [true, true, true, true, false, false, false, false] rfl (wl_X10_pick_23 g l o FU _ _ _ _ _ hB)
  · refine q_aload_n dX10_pick_8 rfl rfl ?_
    refine q_getP (j := 19) hB dX10_pick_9 fc_8 (by decide) rfl wd_748 (fun n1 hB => ?_)
    refine q_iload_n dX10_pick_12 rfl rfl ?_
    refine q_iconst (v := 0) dX10_pick_13 (by decide) ?_
    refine q_iast hB dX10_pick_14 (fun n2 hB => ?_)
    refine q_nm hB (fun h3 hB => ?_)
    refine q_iinc dX10_pick_15 rfl (show _ = (a3 + (1 : Int32)) from rfl) (by decide) (nb_i (j := 2) rfl) ?_
    refine q_goto (tgt := 2) dX10_pick_18 (by decide) ?_
    exact Wq.mask [true, true, true, true, false, false, false, false] rfl (hk2 _ _ _ _ _ hB)
set_option maxHeartbeats 4000000 in
theorem wl_X10_pick_2 (g : GG) (l : Launch) (o : Unit × HS) : ∀ (n : Nat) (a0 : Nat) (a1 : Int32) (a2 : Int32) (a3 : Int32) (h : HS), l_X10_pick_2 n a0 a1 a2 a3 h = some o → Wq g l mX10_pick 0 0 2 [some (va_rf (some a0)), some (.int a1), some (.int a2), some (.int a3), none, none, none, none] [] h (QV o) := by
  intro n
  induction n with
  | zero =>
    intro a0 a1 a2 a3  h hB
    have q : (none : Option (Unit × HS)) = some o := hB
    cases q
  | succ n ih =>
    intro a0 a1 a2 a3  h hB
    exact wb_X10_pick_2 g l (l_X10_pick_2 n) a0 a1 a2 a3 h o hB ih
set_option maxHeartbeats 4000000 in
set_option maxRecDepth 100000 in
theorem c_X10_pick (g : GG) (l : Launch) (a0 : Nat) (a1 : Int32) (a2 : Int32) (h : HS) (o : Unit × HS) (hB : f_X10_pick a0 a1 a2 h = some o) : Ct g l mX10_pick [va_rf (some a0), .int a1, .int a2] h (QV o) := by
  refine Ct.of2 (lv0 := [some (va_rf (some a0)), some (.int a1), some (.int a2), none, none, none, none, none]) (by decide +kernel) (by simp [lg_sl, rf_cat, cat_i, cat_l]) rfl ?_
  unfold f_X10_pick at hB
  refine q_iconst (v := 0) dX10_pick_0 (by decide) ?_
  refine q_istore_n dX10_pick_1 rfl (by decide) (nb_i (j := 2) rfl) ?_
  exact Wq.mask [true, true, true, true, false, false, false, false] rfl (wl_X10_pick_2 g l o FU _ _ _ _ _ hB)

def b_X10_findRows_211  (h : HS) : Option (Unit × HS) :=
  some ((), h)
def b_X10_findRows_168  (k86 : Nat → Int32 → Int32 → Int32 → Int32 → HS → Option (Unit × HS)) (a0 : Nat) (a1 : Int32) (a3 : Int32) (a4 : Int32) (a5 : Int32) (h : HS) : Option (Unit × HS) :=
  k86 a0 a1 a3 a4 (a5 + (1 : Int32)) h
def b_X10_findRows_161  (k86 : Nat → Int32 → Int32 → Int32 → Int32 → HS → Option (Unit × HS)) (a0 : Nat) (a1 : Int32) (a3 : Int32) (a4 : Int32) (a5 : Int32) (a6 : Int32) (h : HS) : Option (Unit × HS) :=
  b_X10_findRows_168 k86 a0 a1 a3 (a4 ||| a6) a5 h
def b_X10_findRows_126  (k86 : Nat → Int32 → Int32 → Int32 → Int32 → HS → Option (Unit × HS)) (a0 : Nat) (a1 : Int32) (a3 : Int32) (a4 : Int32) (a5 : Int32) (a6 : Int32) (h : HS) : Option (Unit × HS) :=
  nn (some a0) (fun n1 => gd (ck h n1 8) (nn (some a0) (fun n2 => gd (ck h n2 8) (nn (hP h n1 15) (fun n3 => gd (ca h n3 9 (hI h n2 13)) (hl (sI h n3 (hI h n2 13).toNatClampNeg a5) (fun h4 => nn (some a0) (fun n5 => gd (ck h4 n5 8) (nn (some a0) (fun n6 => gd (ck h4 n6 8) (nn (hP h4 n5 16) (fun n7 => gd (ca h4 n7 9 (hI h4 n6 13)) (hl (sI h4 n7 (hI h4 n6 13).toNatClampNeg a6) (fun h8 => nn (some a0) (fun n9 => gd (ck h8 n9 8) (nn (some a0) (fun n10 => gd (ck h8 n10 8) (hl (sI h8 n10 13 ((hI h8 n9 13) + (1 : Int32))) (fun h11 => b_X10_findRows_168 k86 a0 a1 a3 a4 a5 h11)))))))))))))))))))
def b_X10_findRows_86  (k86 : Nat → Int32 → Int32 → Int32 → Int32 → HS → Option (Unit × HS)) (a0 : Nat) (a1 : Int32) (a3 : Int32) (a4 : Int32) (a5 : Int32) (h : HS) : Option (Unit × HS) :=
  (if (20 : Int32) < a5 then (if a4 = 0 then b_X10_findRows_211 h else nn (some a0) (fun n1 => gd (ck h n1 8) (nn (some a0) (fun n2 => gd (ck h n2 8) (nn (hP h n1 15) (fun n3 => gd (ca h n3 9 (hI h n2 13)) (hl (sI h n3 (hI h n2 13).toNatClampNeg (99 : Int32)) (fun h4 => nn (some a0) (fun n5 => gd (ck h4 n5 8) (nn (some a0) (fun n6 => gd (ck h4 n6 8) (nn (hP h4 n5 16) (fun n7 => gd (ca h4 n7 9 (hI h4 n6 13)) (hl (sI h4 n7 (hI h4 n6 13).toNatClampNeg a4) (fun h8 => nn (some a0) (fun n9 => gd (ck h8 n9 8) (nn (some a0) (fun n10 => gd (ck h8 n10 8) (hl (sI h8 n10 13 ((hI h8 n9 13) + (1 : Int32))) (fun h11 => b_X10_findRows_211 h11)))))))))))))))))))) else nn (some a0) (fun n12 => gd (ck h n12 8) (nn (some a0) (fun n14 => gd (rk h n14 8) (bd (f_X10_groupOf n14 a1 (hI h n12 0) a5 h) (fun r13 => (if r13.1 = 0 then b_X10_findRows_161 k86 a0 a1 a3 a4 a5 r13.1 r13.2 else (if a3 = 0 then nn (some a0) (fun n15 => gd (ck r13.2 n15 8) (nn (hP r13.2 n15 19) (fun n16 => gd (ca r13.2 n16 9 a5) ((if (hI r13.2 n16 a5.toNatClampNeg) = (1 : Int32) then b_X10_findRows_126 k86 a0 a1 a3 a4 a5 r13.1 r13.2 else b_X10_findRows_161 k86 a0 a1 a3 a4 a5 r13.1 r13.2))))) else b_X10_findRows_126 k86 a0 a1 a3 a4 a5 r13.1 r13.2))))))))
def l_X10_findRows_86  : Nat → Nat → Int32 → Int32 → Int32 → Int32 → HS → Option (Unit × HS)
  | 0 => fun _ _ _ _ _ _ => none
  | n + 1 => b_X10_findRows_86 (l_X10_findRows_86 n)
def b_X10_findRows_72  (a0 : Nat) (a1 : Int32) (a3 : Int32) (s0 : Option Nat) (s1 : Int32) (s2 : Int32) (h : HS) : Option (Unit × HS) :=
  nn s0 (fun n2 => gd (rk h n2 8) (bd (f_X10_pick n2 s1 s2 h) (fun r1 => nn (some a0) (fun n3 => gd (ck r1.2 n3 8) (hl (sI r1.2 n3 13 (0 : Int32)) (fun h4 => l_X10_findRows_86 FU a0 a1 a3 (0 : Int32) (0 : Int32) h4))))))
def b_X10_findRows_57  (a0 : Nat) (a1 : Int32) (s0 : Int32) (h : HS) : Option (Unit × HS) :=
  (if s0 = 0 then nn (some a0) (fun n1 => gd (ck h n1 8) (b_X10_findRows_72 a0 a1 s0 (some a0) a1 (hI h n1 3) h)) else b_X10_findRows_72 a0 a1 s0 (some a0) a1 (0 : Int32) h)
def b_X10_findRows_52  (a0 : Nat) (a1 : Int32) (h : HS) : Option (Unit × HS) :=
  b_X10_findRows_57 a0 a1 (1 : Int32) h
def b_X10_findRows_29  (k4 : Nat → Int32 → Int32 → Int32 → HS → Option (Unit × HS)) (a0 : Nat) (a1 : Int32) (a3 : Int32) (s0 : Int32) (s1 : Int32) (h : HS) : Option (Unit × HS) :=
  k4 a0 a1 (s0 + s1) (a3 + (1 : Int32)) h
def b_X10_findRows_4  (k4 : Nat → Int32 → Int32 → Int32 → HS → Option (Unit × HS)) (a0 : Nat) (a1 : Int32) (a2 : Int32) (a3 : Int32) (h : HS) : Option (Unit × HS) :=
  (if (20 : Int32) < a3 then nn (some a0) (fun n1 => gd (ck h n1 8) ((if (hI h n1 3) = 0 then b_X10_findRows_52 a0 a1 h else nn (some a0) (fun n2 => gd (ck h n2 8) ((if (hI h n2 3) < a2 then b_X10_findRows_57 a0 a1 (0 : Int32) h else b_X10_findRows_52 a0 a1 h)))))) else nn (some a0) (fun n3 => gd (ck h n3 8) (nn (some a0) (fun n5 => gd (rk h n5 8) (bd (f_X10_groupOf n5 a1 (hI h n3 0) a3 h) (fun r4 => (if r4.1 = 0 then b_X10_findRows_29 k4 a0 a1 a3 a2 (0 : Int32) r4.2 else b_X10_findRows_29 k4 a0 a1 a3 a2 (1 : Int32) r4.2)))))))
def l_X10_findRows_4  : Nat → Nat → Int32 → Int32 → Int32 → HS → Option (Unit × HS)
  | 0 => fun _ _ _ _ _ => none
  | n + 1 => b_X10_findRows_4 (l_X10_findRows_4 n)
def f_X10_findRows  (a0 : Nat) (a1 : Int32) (h : HS) : Option (Unit × HS) :=
  l_X10_findRows_4 FU a0 a1 (0 : Int32) (0 : Int32) h
set_option maxHeartbeats 4000000 in
set_option maxRecDepth 100000 in
theorem wb_X10_findRows_211 (g : GG) (l : Launch) (h : HS) (o : Unit × HS) (hB : b_X10_findRows_211  h = some o) : Wq g l mX10_findRows 0 0 211 [none, none, none, none, none, none, none] [] h (QV o) := by
  unfold b_X10_findRows_211 at hB
  exact q_vret hB dX10_findRows_211 rfl (by decide) (by decide)
set_option maxHeartbeats 4000000 in
set_option maxRecDepth 100000 in
theorem wb_X10_findRows_168 (g : GG) (l : Launch) (k86 : Nat → Int32 → Int32 → Int32 → Int32 → HS → Option (Unit × HS)) (a0 : Nat) (a1 : Int32) (a3 : Int32) (a4 : Int32) (a5 : Int32) (h : HS) (o : Unit × HS) (hB : b_X10_findRows_168 k86 a0 a1 a3 a4 a5 h = some o) (hk86 : ∀ (a0 : Nat) (a1 : Int32) (a3 : Int32) (a4 : Int32) (a5 : Int32) (h : HS), k86 a0 a1 a3 a4 a5 h = some o → Wq g l mX10_findRows 0 0 86 [some (va_rf (some a0)), some (.int a1), none, some (.int a3), some (.int a4), some (.int a5), none] [] h (QV o)) : Wq g l mX10_findRows 0 0 168 [some (va_rf (some a0)), some (.int a1), none, some (.int a3), some (.int a4), some (.int a5), none] [] h (QV o) := by
  unfold b_X10_findRows_168 at hB
  refine q_iinc dX10_findRows_168 rfl (show _ = (a5 + (1 : Int32)) from rfl) (by decide) (nb_i (j := 4) rfl) ?_
  refine q_goto (tgt := 86) dX10_findRows_171 (by decide) ?_
  exact Wq.mask [true, true, false, true, true, true, false] rfl (hk86 _ _ _ _ _ _ hB)
set_option maxHeartbeats 4000000 in
set_option maxRecDepth 100000 in
theorem wb_X10_findRows_161 (g : GG) (l : Launch) (k86 : Nat → Int32 → Int32 → Int32 → Int32 → HS → Option (Unit × HS)) (a0 : Nat) (a1 : Int32) (a3 : Int32) (a4 : Int32) (a5 : Int32) (a6 : Int32) (h : HS) (o : Unit × HS) (hB : b_X10_findRows_161 k86 a0 a1 a3 a4 a5 a6 h = some o) (hk86 : ∀ (a0 : Nat) (a1 : Int32) (a3 : Int32) (a4 : Int32) (a5 : Int32) (h : HS), k86 a0 a1 a3 a4 a5 h = some o → Wq g l mX10_findRows 0 0 86 [some (va_rf (some a0)), some (.int a1), none, some (.int a3), some (.int a4), some (.int a5), none] [] h (QV o)) : Wq g l mX10_findRows 0 0 161 [some (va_rf (some a0)), some (.int a1), none, some (.int a3), some (.int a4), some (.int a5), some (.int a6)] [] h (QV o) := by
  unfold b_X10_findRows_161 at hB
  refine q_iload dX10_findRows_161 rfl ?_
  refine q_iload dX10_findRows_163 rfl ?_
  refine q_ior dX10_findRows_165 ?_
  refine q_istore dX10_findRows_166 (by decide) (nb_i (j := 3) rfl) ?_
  exact Wq.mask [true, true, false, true, true, true, false] rfl (wb_X10_findRows_168 g l k86 _ _ _ _ _ _ o hB hk86)
set_option maxHeartbeats 4000000 in
set_option maxRecDepth 100000 in
theorem wb_X10_findRows_126 (g : GG) (l : Launch) (k86 : Nat → Int32 → Int32 → Int32 → Int32 → HS → Option (Unit × HS)) (a0 : Nat) (a1 : Int32) (a3 : Int32) (a4 : Int32) (a5 : Int32) (a6 : Int32) (h : HS) (o : Unit × HS) (hB : b_X10_findRows_126 k86 a0 a1 a3 a4 a5 a6 h = some o) (hk86 : ∀ (a0 : Nat) (a1 : Int32) (a3 : Int32) (a4 : Int32) (a5 : Int32) (h : HS), k86 a0 a1 a3 a4 a5 h = some o → Wq g l mX10_findRows 0 0 86 [some (va_rf (some a0)), some (.int a1), none, some (.int a3), some (.int a4), some (.int a5), none] [] h (QV o)) : Wq g l mX10_findRows 0 0 126 [some (va_rf (some a0)), some (.int a1), none, some (.int a3), some (.int a4), some (.int a5), some (.int a6)] [] h (QV o) := by
  unfold b_X10_findRows_126 at hB
  refine q_aload_n dX10_findRows_126 rfl rfl ?_
  refine q_getP (j := 15) hB dX10_findRows_127 fc_8 (by decide) rfl wd_744 (fun n1 hB => ?_)
  refine q_aload_n dX10_findRows_130 rfl rfl ?_
  refine q_getI (j := 13) hB dX10_findRows_131 fc_8 (by decide) rfl wd_742 (fun n2 hB => ?_)
  refine q_iload dX10_findRows_134 rfl ?_
  refine q_iast hB dX10_findRows_136 (fun n3 hB => ?_)
  refine q_nm hB (fun h4 hB => ?_)
  refine q_aload_n dX10_findRows_137 rfl rfl ?_
  refine q_getP (j := 16) hB dX10_findRows_138 fc_8 (by decide) rfl wd_745 (fun n5 hB => ?_)
  refine q_aload_n dX10_findRows_141 rfl rfl ?_
  refine q_getI (j := 13) hB dX10_findRows_142 fc_8 (by decide) rfl wd_742 (fun n6 hB => ?_)
  refine q_iload dX10_findRows_145 rfl ?_
  refine q_iast hB dX10_findRows_147 (fun n7 hB => ?_)
  refine q_nm hB (fun h8 hB => ?_)
  refine q_aload_n dX10_findRows_148 rfl rfl ?_
  refine q_dup dX10_findRows_149 (rf_cat _) ?_
  refine q_getI (j := 13) hB dX10_findRows_150 fc_8 (by decide) rfl wd_742 (fun n9 hB => ?_)
  refine q_iconst (v := 1) dX10_findRows_153 (by decide) ?_
  refine q_iadd dX10_findRows_154 ?_
  refine q_putI (j := 13) hB dX10_findRows_155 fc_8 (by decide) rfl wd_742 rfl (fun n10 hB => ?_)
  refine q_nm hB (fun h11 hB => ?_)
  refine q_goto (tgt := 168) dX10_findRows_158 (by decide) ?_
  exact Wq.mask [true, true, false, true, true, true, false] rfl (wb_X10_findRows_168 g l k86 _ _ _ _ _ _ o hB hk86)
set_option maxHeartbeats 4000000 in
set_option maxRecDepth 100000 in
theorem wb_X10_findRows_86 (g : GG) (l : Launch) (k86 : Nat → Int32 → Int32 → Int32 → Int32 → HS → Option (Unit × HS)) (a0 : Nat) (a1 : Int32) (a3 : Int32) (a4 : Int32) (a5 : Int32) (h : HS) (o : Unit × HS) (hB : b_X10_findRows_86 k86 a0 a1 a3 a4 a5 h = some o) (hk86 : ∀ (a0 : Nat) (a1 : Int32) (a3 : Int32) (a4 : Int32) (a5 : Int32) (h : HS), k86 a0 a1 a3 a4 a5 h = some o → Wq g l mX10_findRows 0 0 86 [some (va_rf (some a0)), some (.int a1), none, some (.int a3), some (.int a4), some (.int a5), none] [] h (QV o)) : Wq g l mX10_findRows 0 0 86 [some (va_rf (some a0)), some (.int a1), none, some (.int a3), some (.int a4), some (.int a5), none] [] h (QV o) := by
  unfold b_X10_findRows_86 at hB
  refine q_iload dX10_findRows_86 rfl ?_
  refine q_bipush (v := 20) dX10_findRows_88 (by decide) ?_
  refine q_icmp_gt (tgt := 174) hB dX10_findRows_90 (by decide) (fun hB => ?_) (fun hB => ?_)
  · refine q_iload dX10_findRows_174 rfl ?_
    refine q_if_eq (tgt := 211) hB dX10_findRows_176 (by decide) (fun hB => ?_) (fun hB => ?_)
    · exact Wq.mask [false, false, false, false, false, false, false] rfl (wb_X10_findRows_211 g l _ o hB)
    · refine q_aload_n dX10_findRows_179 rfl rfl ?_
      refine q_getP (j := 15) hB dX10_findRows_180 fc_8 (by decide) rfl wd_744 (fun n1 hB => ?_)
      refine q_aload_n dX10_findRows_183 rfl rfl ?_
      refine q_getI (j := 13) hB dX10_findRows_184 fc_8 (by decide) rfl wd_742 (fun n2 hB => ?_)
      refine q_bipush (v := 99) dX10_findRows_187 (by decide) ?_
      refine q_iast hB dX10_findRows_189 (fun n3 hB => ?_)
      refine q_nm hB (fun h4 hB => ?_)
      refine q_aload_n dX10_findRows_190 rfl rfl ?_
      refine q_getP (j := 16) hB dX10_findRows_191 fc_8 (by decide) rfl wd_745 (fun n5 hB => ?_)
      refine q_aload_n dX10_findRows_194 rfl rfl ?_
      refine q_getI (j := 13) hB dX10_findRows_195 fc_8 (by decide) rfl wd_742 (fun n6 hB => ?_)
      refine q_iload dX10_findRows_198 rfl ?_
      refine q_iast hB dX10_findRows_200 (fun n7 hB => ?_)
      refine q_nm hB (fun h8 hB => ?_)
      refine q_aload_n dX10_findRows_201 rfl rfl ?_
      refine q_dup dX10_findRows_202 (rf_cat _) ?_
      refine q_getI (j := 13) hB dX10_findRows_203 fc_8 (by decide) rfl wd_742 (fun n9 hB => ?_)
      refine q_iconst (v := 1) dX10_findRows_206 (by decide) ?_
      refine q_iadd dX10_findRows_207 ?_
      refine q_putI (j := 13) hB dX10_findRows_208 fc_8 (by decide) rfl wd_742 rfl (fun n10 hB => ?_)
      refine q_nm hB (fun h11 hB => ?_)
      exact Wq.mask [false, false, false, false, false, false, false] rfl (wb_X10_findRows_211 g l _ o hB)
  · refine q_aload_n dX10_findRows_93 rfl rfl ?_
    refine q_iload_n dX10_findRows_94 rfl rfl ?_
    refine q_aload_n dX10_findRows_95 rfl rfl ?_
    refine q_getI (j := 0) hB dX10_findRows_96 fc_8 (by decide) rfl wd_729 (fun n12 hB => ?_)
    refine q_iload dX10_findRows_99 rfl ?_
    refine q_callVI (k' := 0) (w' := 0) hB (fun b a hf => c_X10_groupOf g l b _ _ _ _ a hf) rfl rfl dX10_findRows_101 wd_863 cs_X10_groupOf wd_865 wd_22 rfl ⟨⟨Nat.le_of_ble_eq_true rfl, Nat.le_of_ble_eq_true rfl⟩, ⟨Nat.le_of_ble_eq_true rfl, Nat.le_of_ble_eq_true rfl⟩, Nat.le_of_ble_eq_true rfl⟩ rfl rfl (fun n14 r13 hB => ?_)
    refine q_istore dX10_findRows_104 (by decide) (nb_i (j := 5) rfl) ?_
    refine q_iload dX10_findRows_106 rfl ?_
    refine q_if_eq (tgt := 161) hB dX10_findRows_108 (by decide) (fun hB => ?_) (fun hB => ?_)
    · exact Wq.mask [true, true, false, true, true, true, true] rfl (wb_X10_findRows_161 g l k86 _ _ _ _ _ _ _ o hB hk86)
    · refine q_iload_n dX10_findRows_111 rfl rfl ?_
      refine q_if_ne (tgt := 126) hB dX10_findRows_112 (by decide) (fun hB => ?_) (fun hB => ?_)
      · exact Wq.mask [true, true, false, true, true, true, true] rfl (wb_X10_findRows_126 g l k86 _ _ _ _ _ _ _ o hB hk86)
      · refine q_aload_n dX10_findRows_115 rfl rfl ?_
        refine q_getP (j := 19) hB dX10_findRows_116 fc_8 (by decide) rfl wd_748 (fun n15 hB => ?_)
        refine q_iload dX10_findRows_119 rfl ?_
        refine q_iald hB dX10_findRows_121 (fun n16 hB => ?_)
        refine q_iconst (v := 1) dX10_findRows_122 (by decide) ?_
        refine q_icmp_ne (tgt := 161) hB dX10_findRows_123 (by decide) (fun hB => ?_) (fun hB => ?_)
        · exact Wq.mask [true, true, false, true, true, true, true] rfl (wb_X10_findRows_161 g l k86 _ _ _ _ _ _ _ o hB hk86)
        · exact Wq.mask [true, true, false, true, true, true, true] rfl (wb_X10_findRows_126 g l k86 _ _ _ _ _ _ _ o hB hk86)
set_option maxHeartbeats 4000000 in
theorem wl_X10_findRows_86 (g : GG) (l : Launch) (o : Unit × HS) : ∀ (n : Nat) (a0 : Nat) (a1 : Int32) (a3 : Int32) (a4 : Int32) (a5 : Int32) (h : HS), l_X10_findRows_86 n a0 a1 a3 a4 a5 h = some o → Wq g l mX10_findRows 0 0 86 [some (va_rf (some a0)), some (.int a1), none, some (.int a3), some (.int a4), some (.int a5), none] [] h (QV o) := by
  intro n
  induction n with
  | zero =>
    intro a0 a1 a3 a4 a5  h hB
    have q : (none : Option (Unit × HS)) = some o := hB
    cases q
  | succ n ih =>
    intro a0 a1 a3 a4 a5  h hB
    exact wb_X10_findRows_86 g l (l_X10_findRows_86 n) a0 a1 a3 a4 a5 h o hB ih
set_option maxHeartbeats 4000000 in
set_option maxRecDepth 100000 in
theorem wb_X10_findRows_72 (g : GG) (l : Launch) (a0 : Nat) (a1 : Int32) (a3 : Int32) (s0 : Option Nat) (s1 : Int32) (s2 : Int32) (h : HS) (o : Unit × HS) (hB : b_X10_findRows_72 a0 a1 a3 s0 s1 s2 h = some o) : Wq g l mX10_findRows 0 0 72 [some (va_rf (some a0)), some (.int a1), none, some (.int a3), none, none, none] [.int s2, .int s1, va_rf s0] h (QV o) := by
  unfold b_X10_findRows_72 at hB
  refine q_callVV (k' := 0) (w' := 0) hB (fun b a hf => c_X10_pick g l b _ _ _ a hf) rfl rfl dX10_findRows_72 wd_879 cs_X10_pick wd_881 wd_26 rfl ⟨⟨Nat.le_of_ble_eq_true rfl, Nat.le_of_ble_eq_true rfl⟩, ⟨Nat.le_of_ble_eq_true rfl, Nat.le_of_ble_eq_true rfl⟩, Nat.le_of_ble_eq_true rfl⟩ rfl rfl (fun n2 r1 hB => ?_)
  refine q_aload_n dX10_findRows_75 rfl rfl ?_
  refine q_iconst (v := 0) dX10_findRows_76 (by decide) ?_
  refine q_putI (j := 13) hB dX10_findRows_77 fc_8 (by decide) rfl wd_742 rfl (fun n3 hB => ?_)
  refine q_nm hB (fun h4 hB => ?_)
  refine q_iconst (v := 0) dX10_findRows_80 (by decide) ?_
  refine q_istore dX10_findRows_81 (by decide) (nb_i (j := 3) rfl) ?_
  refine q_iconst (v := 0) dX10_findRows_83 (by decide) ?_
  refine q_istore dX10_findRows_84 (by decide) (nb_i (j := 4) rfl) ?_
  exact Wq.mask [true, true, false, true, true, true, false] rfl (wl_X10_findRows_86 g l o FU _ _ _ _ _ _ hB)
set_option maxHeartbeats 4000000 in
set_option maxRecDepth 100000 in
theorem wb_X10_findRows_57 (g : GG) (l : Launch) (a0 : Nat) (a1 : Int32) (s0 : Int32) (h : HS) (o : Unit × HS) (hB : b_X10_findRows_57 a0 a1 s0 h = some o) : Wq g l mX10_findRows 0 0 57 [some (va_rf (some a0)), some (.int a1), none, none, none, none, none] [.int s0] h (QV o) := by
  unfold b_X10_findRows_57 at hB
  refine q_istore_n dX10_findRows_57 rfl (by decide) (nb_n (j := 2) rfl) ?_
  refine q_aload_n dX10_findRows_58 rfl rfl ?_
  refine q_iload_n dX10_findRows_59 rfl rfl ?_
  refine q_iload_n dX10_findRows_60 rfl rfl ?_
  refine q_if_eq (tgt := 68) hB dX10_findRows_61 (by decide) (fun hB => ?_) (fun hB => ?_)
  · refine q_aload_n dX10_findRows_68 rfl rfl ?_
    refine q_getI (j := 3) hB dX10_findRows_69 fc_8 (by decide) rfl wd_732 (fun n1 hB => ?_)
    exact Wq.mask [true, true, false, true, false, false, false] rfl (wb_X10_findRows_72 g l _ _ _ _ _ _ _ o hB)
  · refine q_iconst (v := 0) dX10_findRows_64 (by decide) ?_
    refine q_goto (tgt := 72) dX10_findRows_65 (by decide) ?_
    exact Wq.mask [true, true, false, true, false, false, false] rfl (wb_X10_findRows_72 g l _ _ _ _ _ _ _ o hB)
set_option maxHeartbeats 4000000 in
set_option maxRecDepth 100000 in
theorem wb_X10_findRows_52 (g : GG) (l : Launch) (a0 : Nat) (a1 : Int32) (h : HS) (o : Unit × HS) (hB : b_X10_findRows_52 a0 a1 h = some o) : Wq g l mX10_findRows 0 0 52 [some (va_rf (some a0)), some (.int a1), none, none, none, none, none] [] h (QV o) := by
  unfold b_X10_findRows_52 at hB
  refine q_iconst (v := 1) dX10_findRows_52 (by decide) ?_
  refine q_goto (tgt := 57) dX10_findRows_53 (by decide) ?_
  exact Wq.mask [true, true, false, false, false, false, false] rfl (wb_X10_findRows_57 g l _ _ _ _ o hB)
set_option maxHeartbeats 4000000 in
set_option maxRecDepth 100000 in
theorem wb_X10_findRows_29 (g : GG) (l : Launch) (k4 : Nat → Int32 → Int32 → Int32 → HS → Option (Unit × HS)) (a0 : Nat) (a1 : Int32) (a3 : Int32) (s0 : Int32) (s1 : Int32) (h : HS) (o : Unit × HS) (hB : b_X10_findRows_29 k4 a0 a1 a3 s0 s1 h = some o) (hk4 : ∀ (a0 : Nat) (a1 : Int32) (a2 : Int32) (a3 : Int32) (h : HS), k4 a0 a1 a2 a3 h = some o → Wq g l mX10_findRows 0 0 4 [some (va_rf (some a0)), some (.int a1), some (.int a2), some (.int a3), none, none, none] [] h (QV o)) : Wq g l mX10_findRows 0 0 29 [some (va_rf (some a0)), some (.int a1), none, some (.int a3), none, none, none] [.int s1, .int s0] h (QV o) := by
  unfold b_X10_findRows_29 at hB
  refine q_iadd dX10_findRows_29 ?_
  refine q_istore_n dX10_findRows_30 rfl (by decide) (nb_i (j := 1) rfl) ?_
  refine q_iinc dX10_findRows_31 rfl (show _ = (a3 + (1 : Int32)) from rfl) (by decide) (nb_i (j := 2) rfl) ?_
  refine q_goto (tgt := 4) dX10_findRows_34 (by decide) ?_
  exact Wq.mask [true, true, true, true, false, false, false] rfl (hk4 _ _ _ _ _ hB)
set_option maxHeartbeats 4000000 in
set_option maxRecDepth 100000 in
theorem wb_X10_findRows_4 (g : GG) (l : Launch) (k4 : Nat → Int32 → Int32 → Int32 → HS → Option (Unit × HS)) (a0 : Nat) (a1 : Int32) (a2 : Int32) (a3 : Int32) (h : HS) (o : Unit × HS) (hB : b_X10_findRows_4 k4 a0 a1 a2 a3 h = some o) (hk4 : ∀ (a0 : Nat) (a1 : Int32) (a2 : Int32) (a3 : Int32) (h : HS), k4 a0 a1 a2 a3 h = some o → Wq g l mX10_findRows 0 0 4 [some (va_rf (some a0)), some (.int a1), some (.int a2), some (.int a3), none, none, none] [] h (QV o)) : Wq g l mX10_findRows 0 0 4 [some (va_rf (some a0)), some (.int a1), some (.int a2), some (.int a3), none, none, none] [] h (QV o) := by
  unfold b_X10_findRows_4 at hB
  refine q_iload_n dX10_findRows_4 rfl rfl ?_
  refine q_bipush (v := 20) dX10_findRows_5 (by decide) ?_
  refine q_icmp_gt (tgt := 37) hB dX10_findRows_7 (by decide) (fun hB => ?_) (fun hB => ?_)
  · refine q_aload_n dX10_findRows_37 rfl rfl ?_
    refine q_getI (j := 3) hB dX10_findRows_38 fc_8 (by decide) rfl wd_732 (fun n1 hB => ?_)
    refine q_if_eq (tgt := 52) hB dX10_findRows_41 (by decide) (fun hB => ?_) (fun hB => ?_)
    · exact Wq.mask [true, true, false, false, false, false, false] rfl (wb_X10_findRows_52 g l _ _ _ o hB)
    · refine q_iload_n dX10_findRows_44 rfl rfl ?_
      refine q_aload_n dX10_findRows_45 rfl rfl ?_
      refine q_getI (j := 3) hB dX10_findRows_46 fc_8 (by decide) rfl wd_732 (fun n2 hB => ?_)
      refine q_icmp_gt (tgt := 56) hB dX10_findRows_49 (by decide) (fun hB => ?_) (fun hB => ?_)
      · refine q_iconst (v := 0) dX10_findRows_56 (by decide) ?_
        exact Wq.mask [true, true, false, false, false, false, false] rfl (wb_X10_findRows_57 g l _ _ _ _ o hB)
      · exact Wq.mask [true, true, false, false, false, false, false] rfl (wb_X10_findRows_52 g l _ _ _ o hB)
  · refine q_iload_n dX10_findRows_10 rfl rfl ?_
    refine q_aload_n dX10_findRows_11 rfl rfl ?_
    refine q_iload_n dX10_findRows_12 rfl rfl ?_
    refine q_aload_n dX10_findRows_13 rfl rfl ?_
    refine q_getI (j := 0) hB dX10_findRows_14 fc_8 (by decide) rfl wd_729 (fun n3 hB => ?_)
    refine q_iload_n dX10_findRows_17 rfl rfl ?_
    refine q_callVI (k' := 0) (w' := 0) hB (fun b a hf => c_X10_groupOf g l b _ _ _ _ a hf) rfl rfl dX10_findRows_18 wd_863 cs_X10_groupOf wd_865 wd_22 rfl ⟨⟨Nat.le_of_ble_eq_true rfl, Nat.le_of_ble_eq_true rfl⟩, ⟨Nat.le_of_ble_eq_true rfl, Nat.le_of_ble_eq_true rfl⟩, by simp [rf_cat, cat_i, cat_l]⟩ rfl rfl (fun n5 r4 hB => ?_)
    refine q_if_ne (tgt := 28) hB dX10_findRows_21 (by decide) (fun hB => ?_) (fun hB => ?_)
    · refine q_iconst (v := 1) dX10_findRows_28 (by decide) ?_
      exact Wq.mask [true, true, false, true, false, false, false] rfl (wb_X10_findRows_29 g l k4 _ _ _ _ _ _ o hB hk4)
    · refine q_iconst (v := 0) dX10_findRows_24 (by decide) ?_
      refine q_goto (tgt := 29) dX10_findRows_25 (by decide) ?_
      exact Wq.mask [true, true, false, true, false, false, false] rfl (wb_X10_findRows_29 g l k4 _ _ _ _ _ _ o hB hk4)
set_option maxHeartbeats 4000000 in
theorem wl_X10_findRows_4 (g : GG) (l : Launch) (o : Unit × HS) : ∀ (n : Nat) (a0 : Nat) (a1 : Int32) (a2 : Int32) (a3 : Int32) (h : HS), l_X10_findRows_4 n a0 a1 a2 a3 h = some o → Wq g l mX10_findRows 0 0 4 [some (va_rf (some a0)), some (.int a1), some (.int a2), some (.int a3), none, none, none] [] h (QV o) := by
  intro n
  induction n with
  | zero =>
    intro a0 a1 a2 a3  h hB
    have q : (none : Option (Unit × HS)) = some o := hB
    cases q
  | succ n ih =>
    intro a0 a1 a2 a3  h hB
    exact wb_X10_findRows_4 g l (l_X10_findRows_4 n) a0 a1 a2 a3 h o hB ih
set_option maxHeartbeats 4000000 in
set_option maxRecDepth 100000 in
theorem c_X10_findRows (g : GG) (l : Launch) (a0 : Nat) (a1 : Int32) (h : HS) (o : Unit × HS) (hB : f_X10_findRows a0 a1 h = some o) : Ct g l mX10_findRows [va_rf (some a0), .int a1] h (QV o) := by
  refine Ct.of2 (lv0 := [some (va_rf (some a0)), some (.int a1), none, none, none, none, none]) (by decide +kernel) (by simp [lg_sl, rf_cat, cat_i, cat_l]) rfl ?_
  unfold f_X10_findRows at hB
  refine q_iconst (v := 0) dX10_findRows_0 (by decide) ?_
  refine q_istore_n dX10_findRows_1 rfl (by decide) (nb_i (j := 1) rfl) ?_
  refine q_iconst (v := 0) dX10_findRows_2 (by decide) ?_
  refine q_istore_n dX10_findRows_3 rfl (by decide) (nb_i (j := 2) rfl) ?_
  exact Wq.mask [true, true, true, true, false, false, false] rfl (wl_X10_findRows_4 g l o FU _ _ _ _ _ hB)
