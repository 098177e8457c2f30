def f_X7_init  (a0 : Nat) (h : HS) : Option (Unit × HS) :=
  nn (some a0) (fun _ => gd (cn h 9 && decide (al (hN h) = 32)) (hl (nw h) (fun h2 => nn (some a0) (fun n3 => gd (ck h2 n3 5) (hl (sP h2 n3 0 (some (hN h))) (fun h4 => nn (some a0) (fun n5 => gd (ck h4 n5 5) (hl (sI h4 n5 1 (0 : Int32)) (fun h6 => some ((), h6))))))))))
set_option maxHeartbeats 4000000 in
set_option maxRecDepth 100000 in
theorem c_X7_init (g : GG) (l : Launch) (a0 : Nat) (h : HS) (o : Unit × HS) (hB : f_X7_init a0 h = some o) : Ct g l mX7_init [va_rf (some a0)] h (QV o) := by
  refine Ct.of2 (lv0 := [some (va_rf (some a0))]) (by decide +kernel) (by simp [lg_sl, rf_cat, cat_i, cat_l]) rfl ?_
  unfold f_X7_init at hB
  refine q_aload_n dX7_init_0 rfl rfl ?_
  refine q_objInit hB dX7_init_1 wd_81 wd_74 wd_75 (by decide) (Nat.le_of_ble_eq_true rfl) (fun hB => ?_)
  refine q_aload_n dX7_init_4 rfl rfl ?_
  refine q_bipush (v := 32) dX7_init_5 (by decide) ?_
  refine q_newaI hB dX7_init_7 wd_90 (by decide) (by decide) (by decide) (by decide) (by decide) (fun hB => ?_)
  refine q_nm hB (fun h2 hB => ?_)
  refine q_putPF (j := 0) hB dX7_init_9 fc_5 (by decide) rfl wd_82 rfl rfl rfl (fun n3 hB => ?_)
  refine q_nm hB (fun h4 hB => ?_)
  refine q_aload_n dX7_init_12 rfl rfl ?_
  refine q_iconst (v := 0) dX7_init_13 (by decide) ?_
  refine q_putI (j := 1) hB dX7_init_14 fc_5 (by decide) rfl wd_83 rfl (fun n5 hB => ?_)
  refine q_nm hB (fun h6 hB => ?_)
  exact q_vret hB dX7_init_17 rfl (by decide) (by decide)

def f_X6_init  (a0 : Nat) (h : HS) : Option (Unit × HS) :=
  nn (some a0) (fun _ => nn (some a0) (fun n2 => gd (ck h n2 4) (hl (sP h n2 0 (some 1000)) (fun h3 => nn (some a0) (fun n4 => gd (ck h3 n4 4) (hl (sP h3 n4 1 (some 1001)) (fun h5 => nn (some a0) (fun n6 => gd (ck h5 n6 4) (hl (sP h5 n6 2 (some 1010)) (fun h7 => nn (some a0) (fun n8 => gd (ck h7 n8 4) (hl (sI h7 n8 3 (0 : Int32)) (fun h9 => nn (some a0) (fun n10 => gd (ck h9 n10 4) (hl (sI h9 n10 4 (1 : Int32)) (fun h11 => some ((), h11)))))))))))))))))
set_option maxHeartbeats 4000000 in
set_option maxRecDepth 100000 in
theorem c_X6_init (g : GG) (l : Launch) (a0 : Nat) (h : HS) (o : Unit × HS) (hB : f_X6_init a0 h = some o) : Ct g l mX6_init [va_rf (some a0)] h (QV o) := by
  refine Ct.of2 (lv0 := [some (va_rf (some a0))]) (by decide +kernel) (by simp [lg_sl, rf_cat, cat_i, cat_l]) rfl ?_
  unfold f_X6_init at hB
  refine q_aload_n dX6_init_0 rfl rfl ?_
  refine q_objInit hB dX6_init_1 wd_96 wd_74 wd_75 (by decide) (Nat.le_of_ble_eq_true rfl) (fun hB => ?_)
  refine q_aload_n dX6_init_4 rfl rfl ?_
  refine q_static (v := va_rf (some 1000)) (fun s hK => z_F 0 (by decide) hK) dX6_init_5 wd_97 ?_
  refine q_putP (j := 0) hB dX6_init_8 fc_4 (by decide) rfl wd_103 rfl (fun n2 hB => ?_)
  refine q_nm hB (fun h3 hB => ?_)
  refine q_aload_n dX6_init_11 rfl rfl ?_
  refine q_static (v := va_rf (some 1001)) (fun s hK => z_F 1 (by decide) hK) dX6_init_12 wd_99 ?_
  refine q_putP (j := 1) hB dX6_init_15 fc_4 (by decide) rfl wd_106 rfl (fun n4 hB => ?_)
  refine q_nm hB (fun h5 hB => ?_)
  refine q_aload_n dX6_init_18 rfl rfl ?_
  refine q_static (v := va_rf (some 1010)) (fun s hK => z_M 0 (by decide) hK) dX6_init_19 wd_101 ?_
  refine q_putP (j := 2) hB dX6_init_22 fc_4 (by decide) rfl wd_109 rfl (fun n6 hB => ?_)
  refine q_nm hB (fun h7 hB => ?_)
  refine q_aload_n dX6_init_25 rfl rfl ?_
  refine q_iconst (v := 0) dX6_init_26 (by decide) ?_
  refine q_putI (j := 3) hB dX6_init_27 fc_4 (by decide) rfl wd_112 rfl (fun n8 hB => ?_)
  refine q_nm hB (fun h9 hB => ?_)
  refine q_aload_n dX6_init_30 rfl rfl ?_
  refine q_iconst (v := 1) dX6_init_31 (by decide) ?_
  refine q_putI (j := 4) hB dX6_init_32 fc_4 (by decide) rfl wd_115 rfl (fun n10 hB => ?_)
  refine q_nm hB (fun h11 hB => ?_)
  exact q_vret hB dX6_init_35 rfl (by decide) (by decide)

def f_X3_init  (a0 : Nat) (h : HS) : Option (Unit × HS) :=
  nn (some a0) (fun _ => gd (cn h 9 && decide (al (hN h) = 16)) (hl (nw h) (fun h2 => nn (some a0) (fun n3 => gd (ck h2 n3 3) (hl (sP h2 n3 0 (some (hN h))) (fun h4 => gd (cn h4 9 && decide (al (hN h4) = 16)) (hl (nw h4) (fun h5 => nn (some a0) (fun n6 => gd (ck h5 n6 3) (hl (sP h5 n6 1 (some (hN h4))) (fun h7 => gd (cn h7 9 && decide (al (hN h7) = 16)) (hl (nw h7) (fun h8 => nn (some a0) (fun n9 => gd (ck h8 n9 3) (hl (sP h8 n9 2 (some (hN h7))) (fun h10 => nn (some a0) (fun n11 => gd (ck h10 n11 3) (hl (sI h10 n11 3 (0 : Int32)) (fun h12 => some ((), h12))))))))))))))))))))
set_option maxHeartbeats 4000000 in
set_option maxRecDepth 100000 in
theorem c_X3_init (g : GG) (l : Launch) (a0 : Nat) (h : HS) (o : Unit × HS) (hB : f_X3_init a0 h = some o) : Ct g l mX3_init [va_rf (some a0)] h (QV o) := by
  refine Ct.of2 (lv0 := [some (va_rf (some a0))]) (by decide +kernel) (by simp [lg_sl, rf_cat, cat_i, cat_l]) rfl ?_
  unfold f_X3_init at hB
  refine q_aload_n dX3_init_0 rfl rfl ?_
  refine q_objInit hB dX3_init_1 wd_134 wd_74 wd_75 (by decide) (Nat.le_of_ble_eq_true rfl) (fun hB => ?_)
  refine q_aload_n dX3_init_4 rfl rfl ?_
  refine q_bipush (v := 16) dX3_init_5 (by decide) ?_
  refine q_newaI hB dX3_init_7 wd_90 (by decide) (by decide) (by decide) (by decide) (by decide) (fun hB => ?_)
  refine q_nm hB (fun h2 hB => ?_)
  refine q_putPF (j := 0) hB dX3_init_9 fc_3 (by decide) rfl wd_135 rfl rfl rfl (fun n3 hB => ?_)
  refine q_nm hB (fun h4 hB => ?_)
  refine q_aload_n dX3_init_12 rfl rfl ?_
  refine q_bipush (v := 16) dX3_init_13 (by decide) ?_
  refine q_newaI hB dX3_init_15 wd_90 (by decide) (by decide) (by decide) (by decide) (by decide) (fun hB => ?_)
  refine q_nm hB (fun h5 hB => ?_)
  refine q_putPF (j := 1) hB dX3_init_17 fc_3 (by decide) rfl wd_138 rfl rfl rfl (fun n6 hB => ?_)
  refine q_nm hB (fun h7 hB => ?_)
  refine q_aload_n dX3_init_20 rfl rfl ?_
  refine q_bipush (v := 16) dX3_init_21 (by decide) ?_
  refine q_newaI hB dX3_init_23 wd_90 (by decide) (by decide) (by decide) (by decide) (by decide) (fun hB => ?_)
  refine q_nm hB (fun h8 hB => ?_)
  refine q_putPF (j := 2) hB dX3_init_25 fc_3 (by decide) rfl wd_141 rfl rfl rfl (fun n9 hB => ?_)
  refine q_nm hB (fun h10 hB => ?_)
  refine q_aload_n dX3_init_28 rfl rfl ?_
  refine q_iconst (v := 0) dX3_init_29 (by decide) ?_
  refine q_putI (j := 3) hB dX3_init_30 fc_3 (by decide) rfl wd_145 rfl (fun n11 hB => ?_)
  refine q_nm hB (fun h12 hB => ?_)
  exact q_vret hB dX3_init_33 rfl (by decide) (by decide)

def f_X0_init  (a0 : Nat) (h : HS) : Option (Unit × HS) :=
  nn (some a0) (fun _ => some ((), h))
set_option maxHeartbeats 4000000 in
set_option maxRecDepth 100000 in
theorem c_X0_init (g : GG) (l : Launch) (a0 : Nat) (h : HS) (o : Unit × HS) (hB : f_X0_init a0 h = some o) : Ct g l mX0_init [va_rf (some a0)] h (QV o) := by
  refine Ct.of2 (lv0 := [some (va_rf (some a0))]) (by decide +kernel) (by simp [lg_sl, rf_cat, cat_i, cat_l]) rfl ?_
  unfold f_X0_init at hB
  refine q_aload_n dX0_init_0 rfl rfl ?_
  refine q_objInit hB dX0_init_1 wd_169 wd_74 wd_75 (by decide) (Nat.le_of_ble_eq_true rfl) (fun hB => ?_)
  exact q_vret hB dX0_init_4 rfl (by decide) (by decide)

set_option maxRecDepth 100000 in
def f_X1_init  (a0 : Nat) (h : HS) : Option (Unit × HS) :=
  nn (some a0) (fun _ => gd (cn h 11 && decide (al (hN h) = 14)) (hl (nw h) (fun h2 => nn (some a0) (fun n3 => gd (ck h2 n3 1) (hl (sP h2 n3 0 (some (hN h))) (fun h4 => nn (some a0) (fun n5 => gd (ck h4 n5 1) (hl (sI h4 n5 1 (0 : Int32)) (fun h6 => nn (some a0) (fun n7 => gd (ck h6 n7 1) (nn (hP h6 n7 0) (fun n8 => gd (ck h6 n8 11) ((if (Int32.ofNat (al n8)) ≤ (0 : Int32) then some ((), h6) else nn (some a0) (fun n9 => gd (ck h6 n9 1) (gd (cn h6 0) (hl (nw h6) (fun h10 => nn (some (hN h6)) (fun n12 => bd (f_X0_init n12 h10) (fun r11 => nn (hP h6 n9 0) (fun n13 => nn (some (hN h6)) (fun n14 => gd (ca r11.2 n13 11 (0 : Int32) && ck r11.2 n14 0) (hl (sP r11.2 n13 (0 : Int32).toNatClampNeg (some n14)) (fun h15 => nn (some a0) (fun n16 => gd (ck h15 n16 1) (nn (hP h15 n16 0) (fun n17 => gd (ck h15 n17 11) ((if (Int32.ofNat (al n17)) ≤ ((0 : Int32) + (1 : Int32)) then some ((), h15) else nn (some a0) (fun n18 => gd (ck h15 n18 1) (gd (cn h15 0) (hl (nw h15) (fun h19 => nn (some (hN h15)) (fun n21 => bd (f_X0_init n21 h19) (fun r20 => nn (hP h15 n18 0) (fun n22 => nn (some (hN h15)) (fun n23 => gd (ca r20.2 n22 11 ((0 : Int32) + (1 : Int32)) && ck r20.2 n23 0) (hl (sP r20.2 n22 ((0 : Int32) + (1 : Int32)).toNatClampNeg (some n23)) (fun h24 => nn (some a0) (fun n25 => gd (ck h24 n25 1) (nn (hP h24 n25 0) (fun n26 => gd (ck h24 n26 11) ((if (Int32.ofNat (al n26)) ≤ (((0 : Int32) + (1 : Int32)) + (1 : Int32)) then some ((), h24) else nn (some a0) (fun n27 => gd (ck h24 n27 1) (gd (cn h24 0) (hl (nw h24) (fun h28 => nn (some (hN h24)) (fun n30 => bd (f_X0_init n30 h28) (fun r29 => nn (hP h24 n27 0) (fun n31 => nn (some (hN h24)) (fun n32 => gd (ca r29.2 n31 11 (((0 : Int32) + (1 : Int32)) + (1 : Int32)) && ck r29.2 n32 0) (hl (sP r29.2 n31 (((0 : Int32) + (1 : Int32)) + (1 : Int32)).toNatClampNeg (some n32)) (fun h33 => nn (some a0) (fun n34 => gd (ck h33 n34 1) (nn (hP h33 n34 0) (fun n35 => gd (ck h33 n35 11) ((if (Int32.ofNat (al n35)) ≤ ((((0 : Int32) + (1 : Int32)) + (1 : Int32)) + (1 : Int32)) then some ((), h33) else nn (some a0) (fun n36 => gd (ck h33 n36 1) (gd (cn h33 0) (hl (nw h33) (fun h37 => nn (some (hN h33)) (fun n39 => bd (f_X0_init n39 h37) (fun r38 => nn (hP h33 n36 0) (fun n40 => nn (some (hN h33)) (fun n41 => gd (ca r38.2 n40 11 ((((0 : Int32) + (1 : Int32)) + (1 : Int32)) + (1 : Int32)) && ck r38.2 n41 0) (hl (sP r38.2 n40 ((((0 : Int32) + (1 : Int32)) + (1 : Int32)) + (1 : Int32)).toNatClampNeg (some n41)) (fun h42 => nn (some a0) (fun n43 => gd (ck h42 n43 1) (nn (hP h42 n43 0) (fun n44 => gd (ck h42 n44 11) ((if (Int32.ofNat (al n44)) ≤ (((((0 : Int32) + (1 : Int32)) + (1 : Int32)) + (1 : Int32)) + (1 : Int32)) then some ((), h42) else nn (some a0) (fun n45 => gd (ck h42 n45 1) (gd (cn h42 0) (hl (nw h42) (fun h46 => nn (some (hN h42)) (fun n48 => bd (f_X0_init n48 h46) (fun r47 => nn (hP h42 n45 0) (fun n49 => nn (some (hN h42)) (fun n50 => gd (ca r47.2 n49 11 (((((0 : Int32) + (1 : Int32)) + (1 : Int32)) + (1 : Int32)) + (1 : Int32)) && ck r47.2 n50 0) (hl (sP r47.2 n49 (((((0 : Int32) + (1 : Int32)) + (1 : Int32)) + (1 : Int32)) + (1 : Int32)).toNatClampNeg (some n50)) (fun h51 => nn (some a0) (fun n52 => gd (ck h51 n52 1) (nn (hP h51 n52 0) (fun n53 => gd (ck h51 n53 11) ((if (Int32.ofNat (al n53)) ≤ ((((((0 : Int32) + (1 : Int32)) + (1 : Int32)) + (1 : Int32)) + (1 : Int32)) + (1 : Int32)) then some ((), h51) else nn (some a0) (fun n54 => gd (ck h51 n54 1) (gd (cn h51 0) (hl (nw h51) (fun h55 => nn (some (hN h51)) (fun n57 => bd (f_X0_init n57 h55) (fun r56 => nn (hP h51 n54 0) (fun n58 => nn (some (hN h51)) (fun n59 => gd (ca r56.2 n58 11 ((((((0 : Int32) + (1 : Int32)) + (1 : Int32)) + (1 : Int32)) + (1 : Int32)) + (1 : Int32)) && ck r56.2 n59 0) (hl (sP r56.2 n58 ((((((0 : Int32) + (1 : Int32)) + (1 : Int32)) + (1 : Int32)) + (1 : Int32)) + (1 : Int32)).toNatClampNeg (some n59)) (fun h60 => nn (some a0) (fun n61 => gd (ck h60 n61 1) (nn (hP h60 n61 0) (fun n62 => gd (ck h60 n62 11) ((if (Int32.ofNat (al n62)) ≤ (((((((0 : Int32) + (1 : Int32)) + (1 : Int32)) + (1 : Int32)) + (1 : Int32)) + (1 : Int32)) + (1 : Int32)) then some ((), h60) else nn (some a0) (fun n63 => gd (ck h60 n63 1) (gd (cn h60 0) (hl (nw h60) (fun h64 => nn (some (hN h60)) (fun n66 => bd (f_X0_init n66 h64) (fun r65 => nn (hP h60 n63 0) (fun n67 => nn (some (hN h60)) (fun n68 => gd (ca r65.2 n67 11 (((((((0 : Int32) + (1 : Int32)) + (1 : Int32)) + (1 : Int32)) + (1 : Int32)) + (1 : Int32)) + (1 : Int32)) && ck r65.2 n68 0) (hl (sP r65.2 n67 (((((((0 : Int32) + (1 : Int32)) + (1 : Int32)) + (1 : Int32)) + (1 : Int32)) + (1 : Int32)) + (1 : Int32)).toNatClampNeg (some n68)) (fun h69 => nn (some a0) (fun n70 => gd (ck h69 n70 1) (nn (hP h69 n70 0) (fun n71 => gd (ck h69 n71 11) ((if (Int32.ofNat (al n71)) ≤ ((((((((0 : Int32) + (1 : Int32)) + (1 : Int32)) + (1 : Int32)) + (1 : Int32)) + (1 : Int32)) + (1 : Int32)) + (1 : Int32)) then some ((), h69) else nn (some a0) (fun n72 => gd (ck h69 n72 1) (gd (cn h69 0) (hl (nw h69) (fun h73 => nn (some (hN h69)) (fun n75 => bd (f_X0_init n75 h73) (fun r74 => nn (hP h69 n72 0) (fun n76 => nn (some (hN h69)) (fun n77 => gd (ca r74.2 n76 11 ((((((((0 : Int32) + (1 : Int32)) + (1 : Int32)) + (1 : Int32)) + (1 : Int32)) + (1 : Int32)) + (1 : Int32)) + (1 : Int32)) && ck r74.2 n77 0) (hl (sP r74.2 n76 ((((((((0 : Int32) + (1 : Int32)) + (1 : Int32)) + (1 : Int32)) + (1 : Int32)) + (1 : Int32)) + (1 : Int32)) + (1 : Int32)).toNatClampNeg (some n77)) (fun h78 => nn (some a0) (fun n79 => gd (ck h78 n79 1) (nn (hP h78 n79 0) (fun n80 => gd (ck h78 n80 11) ((if (Int32.ofNat (al n80)) ≤ (((((((((0 : Int32) + (1 : Int32)) + (1 : Int32)) + (1 : Int32)) + (1 : Int32)) + (1 : Int32)) + (1 : Int32)) + (1 : Int32)) + (1 : Int32)) then some ((), h78) else nn (some a0) (fun n81 => gd (ck h78 n81 1) (gd (cn h78 0) (hl (nw h78) (fun h82 => nn (some (hN h78)) (fun n84 => bd (f_X0_init n84 h82) (fun r83 => nn (hP h78 n81 0) (fun n85 => nn (some (hN h78)) (fun n86 => gd (ca r83.2 n85 11 (((((((((0 : Int32) + (1 : Int32)) + (1 : Int32)) + (1 : Int32)) + (1 : Int32)) + (1 : Int32)) + (1 : Int32)) + (1 : Int32)) + (1 : Int32)) && ck r83.2 n86 0) (hl (sP r83.2 n85 (((((((((0 : Int32) + (1 : Int32)) + (1 : Int32)) + (1 : Int32)) + (1 : Int32)) + (1 : Int32)) + (1 : Int32)) + (1 : Int32)) + (1 : Int32)).toNatClampNeg (some n86)) (fun h87 => nn (some a0) (fun n88 => gd (ck h87 n88 1) (nn (hP h87 n88 0) (fun n89 => gd (ck h87 n89 11) ((if (Int32.ofNat (al n89)) ≤ ((((((((((0 : Int32) + (1 : Int32)) + (1 : Int32)) + (1 : Int32)) + (1 : Int32)) + (1 : Int32)) + (1 : Int32)) + (1 : Int32)) + (1 : Int32)) + (1 : Int32)) then some ((), h87) else nn (some a0) (fun n90 => gd (ck h87 n90 1) (gd (cn h87 0) (hl (nw h87) (fun h91 => nn (some (hN h87)) (fun n93 => bd (f_X0_init n93 h91) (fun r92 => nn (hP h87 n90 0) (fun n94 => nn (some (hN h87)) (fun n95 => gd (ca r92.2 n94 11 ((((((((((0 : Int32) + (1 : Int32)) + (1 : Int32)) + (1 : Int32)) + (1 : Int32)) + (1 : Int32)) + (1 : Int32)) + (1 : Int32)) + (1 : Int32)) + (1 : Int32)) && ck r92.2 n95 0) (hl (sP r92.2 n94 ((((((((((0 : Int32) + (1 : Int32)) + (1 : Int32)) + (1 : Int32)) + (1 : Int32)) + (1 : Int32)) + (1 : Int32)) + (1 : Int32)) + (1 : Int32)) + (1 : Int32)).toNatClampNeg (some n95)) (fun h96 => nn (some a0) (fun n97 => gd (ck h96 n97 1) (nn (hP h96 n97 0) (fun n98 => gd (ck h96 n98 11) ((if (Int32.ofNat (al n98)) ≤ (((((((((((0 : Int32) + (1 : Int32)) + (1 : Int32)) + (1 : Int32)) + (1 : Int32)) + (1 : Int32)) + (1 : Int32)) + (1 : Int32)) + (1 : Int32)) + (1 : Int32)) + (1 : Int32)) then some ((), h96) else nn (some a0) (fun n99 => gd (ck h96 n99 1) (gd (cn h96 0) (hl (nw h96) (fun h100 => nn (some (hN h96)) (fun n102 => bd (f_X0_init n102 h100) (fun r101 => nn (hP h96 n99 0) (fun n103 => nn (some (hN h96)) (fun n104 => gd (ca r101.2 n103 11 (((((((((((0 : Int32) + (1 : Int32)) + (1 : Int32)) + (1 : Int32)) + (1 : Int32)) + (1 : Int32)) + (1 : Int32)) + (1 : Int32)) + (1 : Int32)) + (1 : Int32)) + (1 : Int32)) && ck r101.2 n104 0) (hl (sP r101.2 n103 (((((((((((0 : Int32) + (1 : Int32)) + (1 : Int32)) + (1 : Int32)) + (1 : Int32)) + (1 : Int32)) + (1 : Int32)) + (1 : Int32)) + (1 : Int32)) + (1 : Int32)) + (1 : Int32)).toNatClampNeg (some n104)) (fun h105 => nn (some a0) (fun n106 => gd (ck h105 n106 1) (nn (hP h105 n106 0) (fun n107 => gd (ck h105 n107 11) ((if (Int32.ofNat (al n107)) ≤ ((((((((((((0 : Int32) + (1 : Int32)) + (1 : Int32)) + (1 : Int32)) + (1 : Int32)) + (1 : Int32)) + (1 : Int32)) + (1 : Int32)) + (1 : Int32)) + (1 : Int32)) + (1 : Int32)) + (1 : Int32)) then some ((), h105) else nn (some a0) (fun n108 => gd (ck h105 n108 1) (gd (cn h105 0) (hl (nw h105) (fun h109 => nn (some (hN h105)) (fun n111 => bd (f_X0_init n111 h109) (fun r110 => nn (hP h105 n108 0) (fun n112 => nn (some (hN h105)) (fun n113 => gd (ca r110.2 n112 11 ((((((((((((0 : Int32) + (1 : Int32)) + (1 : Int32)) + (1 : Int32)) + (1 : Int32)) + (1 : Int32)) + (1 : Int32)) + (1 : Int32)) + (1 : Int32)) + (1 : Int32)) + (1 : Int32)) + (1 : Int32)) && ck r110.2 n113 0) (hl (sP r110.2 n112 ((((((((((((0 : Int32) + (1 : Int32)) + (1 : Int32)) + (1 : Int32)) + (1 : Int32)) + (1 : Int32)) + (1 : Int32)) + (1 : Int32)) + (1 : Int32)) + (1 : Int32)) + (1 : Int32)) + (1 : Int32)).toNatClampNeg (some n113)) (fun h114 => nn (some a0) (fun n115 => gd (ck h114 n115 1) (nn (hP h114 n115 0) (fun n116 => gd (ck h114 n116 11) ((if (Int32.ofNat (al n116)) ≤ (((((((((((((0 : Int32) + (1 : Int32)) + (1 : Int32)) + (1 : Int32)) + (1 : Int32)) + (1 : Int32)) + (1 : Int32)) + (1 : Int32)) + (1 : Int32)) + (1 : Int32)) + (1 : Int32)) + (1 : Int32)) + (1 : Int32)) then some ((), h114) else nn (some a0) (fun n117 => gd (ck h114 n117 1) (gd (cn h114 0) (hl (nw h114) (fun h118 => nn (some (hN h114)) (fun n120 => bd (f_X0_init n120 h118) (fun r119 => nn (hP h114 n117 0) (fun n121 => nn (some (hN h114)) (fun n122 => gd (ca r119.2 n121 11 (((((((((((((0 : Int32) + (1 : Int32)) + (1 : Int32)) + (1 : Int32)) + (1 : Int32)) + (1 : Int32)) + (1 : Int32)) + (1 : Int32)) + (1 : Int32)) + (1 : Int32)) + (1 : Int32)) + (1 : Int32)) + (1 : Int32)) && ck r119.2 n122 0) (hl (sP r119.2 n121 (((((((((((((0 : Int32) + (1 : Int32)) + (1 : Int32)) + (1 : Int32)) + (1 : Int32)) + (1 : Int32)) + (1 : Int32)) + (1 : Int32)) + (1 : Int32)) + (1 : Int32)) + (1 : Int32)) + (1 : Int32)) + (1 : Int32)).toNatClampNeg (some n122)) (fun h123 => nn (some a0) (fun n124 => gd (ck h123 n124 1) (nn (hP h123 n124 0) (fun n125 => gd (ck h123 n125 11) ((if (Int32.ofNat (al n125)) ≤ ((((((((((((((0 : Int32) + (1 : Int32)) + (1 : Int32)) + (1 : Int32)) + (1 : Int32)) + (1 : Int32)) + (1 : Int32)) + (1 : Int32)) + (1 : Int32)) + (1 : Int32)) + (1 : Int32)) + (1 : Int32)) + (1 : Int32)) + (1 : Int32)) then some ((), h123) else nn (some a0) (fun n126 => gd (ck h123 n126 1) (gd (cn h123 0) (hl (nw h123) (fun h127 => nn (some (hN h123)) (fun n129 => bd (f_X0_init n129 h127) (fun r128 => nn (hP h123 n126 0) (fun n130 => nn (some (hN h123)) (fun n131 => gd (ca r128.2 n130 11 ((((((((((((((0 : Int32) + (1 : Int32)) + (1 : Int32)) + (1 : Int32)) + (1 : Int32)) + (1 : Int32)) + (1 : Int32)) + (1 : Int32)) + (1 : Int32)) + (1 : Int32)) + (1 : Int32)) + (1 : Int32)) + (1 : Int32)) + (1 : Int32)) && ck r128.2 n131 0) (hl (sP r128.2 n130 ((((((((((((((0 : Int32) + (1 : Int32)) + (1 : Int32)) + (1 : Int32)) + (1 : Int32)) + (1 : Int32)) + (1 : Int32)) + (1 : Int32)) + (1 : Int32)) + (1 : Int32)) + (1 : Int32)) + (1 : Int32)) + (1 : Int32)) + (1 : Int32)).toNatClampNeg (some n131)) (fun h132 => nn (some a0) (fun n133 => gd (ck h132 n133 1) (nn (hP h132 n133 0) (fun n134 => gd (ck h132 n134 11) ((if (Int32.ofNat (al n134)) ≤ (((((((((((((((0 : Int32) + (1 : Int32)) + (1 : Int32)) + (1 : Int32)) + (1 : Int32)) + (1 : Int32)) + (1 : Int32)) + (1 : Int32)) + (1 : Int32)) + (1 : Int32)) + (1 : Int32)) + (1 : Int32)) + (1 : Int32)) + (1 : Int32)) + (1 : Int32)) then some ((), h132) else none))))))))))))))))))))))))))))))))))))))))))))))))))))))))))))))))))))))))))))))))))))))))))))))))))))))))))))))))))))))))))))))))))))))))))))))))))))))))))))))))))))))))))))))))))))))))))))))))))))))))))))))))))))))))))))))))
set_option maxHeartbeats 4000000 in
set_option maxRecDepth 100000 in
theorem c_X1_init (g : GG) (l : Launch) (a0 : Nat) (h : HS) (o : Unit × HS) (hB : f_X1_init a0 h = some o) : Ct g l mX1_init [va_rf (some a0)] h (QV o) := by
  refine Ct.of2 (lv0 := [some (va_rf (some a0)), none]) (by decide +kernel) (by simp [lg_sl, rf_cat, cat_i, cat_l]) rfl ?_
  unfold f_X1_init at hB
  refine q_aload_n dX1_init_0 rfl rfl ?_
  refine q_objInit hB dX1_init_1 wd_162 wd_74 wd_75 (by decide) (Nat.le_of_ble_eq_true rfl) (fun hB => ?_)
  refine q_aload_n dX1_init_4 rfl rfl ?_
  refine q_bipush (v := 14) dX1_init_5 (by decide) ?_
  refine q_newqA hB dX1_init_7 wd_163 (by decide) (by decide) (by decide) (by decide) (by decide) (fun hB => ?_)
  refine q_nm hB (fun h2 hB => ?_)
  refine q_putPF (j := 0) hB dX1_init_10 fc_1 (by decide) rfl wd_186 rfl rfl rfl (fun n3 hB => ?_)
  refine q_nm hB (fun h4 hB => ?_)
  refine q_aload_n dX1_init_13 rfl rfl ?_
  refine q_iconst (v := 0) dX1_init_14 (by decide) ?_
  refine q_putI (j := 1) hB dX1_init_15 fc_1 (by decide) rfl wd_187 rfl (fun n5 hB => ?_)
  refine q_nm hB (fun h6 hB => ?_)
  refine q_iconst (v := 0) dX1_init_18 (by decide) ?_
  refine q_istore_n dX1_init_19 rfl (by decide) (nb_r (j := 0) rfl) ?_
  refine q_iload_n dX1_init_20 rfl rfl ?_
  refine q_aload_n dX1_init_21 rfl rfl ?_
  refine q_getP (j := 0) hB dX1_init_22 fc_1 (by decide) rfl wd_186 (fun n7 hB => ?_)
  refine q_alenA hB dX1_init_25 (fun n8 hB => ?_)
  refine q_icmp_ge (tgt := 48) hB dX1_init_26 (by decide) (fun hB => ?_) (fun hB => ?_)
  · exact q_vret hB dX1_init_48 rfl (by decide) (by decide)
  · refine q_aload_n dX1_init_29 rfl rfl ?_
    refine q_getP (j := 0) hB dX1_init_30 fc_1 (by decide) rfl wd_186 (fun n9 hB => ?_)
    refine q_iload_n dX1_init_33 rfl rfl ?_
    refine q_new hB dX1_init_34 fc_0 (by decide) wd_163 wd_165 wd_55 (by decide) (by decide) (fun hB => ?_)
    refine q_nm hB (fun h10 hB => ?_)
    refine q_dup dX1_init_37 (rf_cat _) ?_
    refine q_callIN_ (k' := 2) (w' := 19) (host := RX9) hB (fun b a hf => c_X0_init g l b _ a hf) rfl dX1_init_38 (by decide +kernel) cs_X0_init wd_167 rfl rfl rfl ⟨⟨Nat.le_of_ble_eq_true rfl, Nat.le_of_ble_eq_true rfl⟩, ⟨Nat.le_of_ble_eq_true rfl, Nat.le_of_ble_eq_true rfl⟩, by simp [rf_cat, cat_i, cat_l]⟩ rfl rfl (fun n12 r11 hB => ?_)
    refine q_aastA hB dX1_init_41 fc_0 (fun n13 n14 hB => ?_)
    refine q_nm hB (fun h15 hB => ?_)
    refine q_iinc dX1_init_42 rfl (show _ = ((0 : Int32) + (1 : Int32)) from rfl) (by decide) (nb_r (j := 0) rfl) ?_
    refine q_goto (tgt := 20) dX1_init_45 (by decide) ?_
    refine q_iload_n dX1_init_20 rfl rfl ?_
    refine q_aload_n dX1_init_21 rfl rfl ?_
    refine q_getP (j := 0) hB dX1_init_22 fc_1 (by decide) rfl wd_186 (fun n16 hB => ?_)
    refine q_alenA hB dX1_init_25 (fun n17 hB => ?_)
    refine q_icmp_ge (tgt := 48) hB dX1_init_26 (by decide) (fun hB => ?_) (fun hB => ?_)
    · exact q_vret hB dX1_init_48 rfl (by decide) (by decide)
    · refine q_aload_n dX1_init_29 rfl rfl ?_
      refine q_getP (j := 0) hB dX1_init_30 fc_1 (by decide) rfl wd_186 (fun n18 hB => ?_)
      refine q_iload_n dX1_init_33 rfl rfl ?_
      refine q_new hB dX1_init_34 fc_0 (by decide) wd_163 wd_165 wd_55 (by decide) (by decide) (fun hB => ?_)
      refine q_nm hB (fun h19 hB => ?_)
      refine q_dup dX1_init_37 (rf_cat _) ?_
      refine q_callIN_ (k' := 3) (w' := 24) (host := RX9) hB (fun b a hf => c_X0_init g l b _ a hf) rfl dX1_init_38 (by decide +kernel) cs_X0_init wd_167 rfl rfl rfl ⟨⟨Nat.le_of_ble_eq_true rfl, Nat.le_of_ble_eq_true rfl⟩, ⟨Nat.le_of_ble_eq_true rfl, Nat.le_of_ble_eq_true rfl⟩, by simp [rf_cat, cat_i, cat_l]⟩ rfl rfl (fun n21 r20 hB => ?_)
      refine q_aastA hB dX1_init_41 fc_0 (fun n22 n23 hB => ?_)
      refine q_nm hB (fun h24 hB => ?_)
      refine q_iinc dX1_init_42 rfl (show _ = (((0 : Int32) + (1 : Int32)) + (1 : Int32)) from rfl) (by decide) (nb_r (j := 0) rfl) ?_
      refine q_goto (tgt := 20) dX1_init_45 (by decide) ?_
      refine q_iload_n dX1_init_20 rfl rfl ?_
      refine q_aload_n dX1_init_21 rfl rfl ?_
      refine q_getP (j := 0) hB dX1_init_22 fc_1 (by decide) rfl wd_186 (fun n25 hB => ?_)
      refine q_alenA hB dX1_init_25 (fun n26 hB => ?_)
      refine q_icmp_ge (tgt := 48) hB dX1_init_26 (by decide) (fun hB => ?_) (fun hB => ?_)
      · exact q_vret hB dX1_init_48 rfl (by decide) (by decide)
      · refine q_aload_n dX1_init_29 rfl rfl ?_
        refine q_getP (j := 0) hB dX1_init_30 fc_1 (by decide) rfl wd_186 (fun n27 hB => ?_)
        refine q_iload_n dX1_init_33 rfl rfl ?_
        refine q_new hB dX1_init_34 fc_0 (by decide) wd_163 wd_165 wd_55 (by decide) (by decide) (fun hB => ?_)
        refine q_nm hB (fun h28 hB => ?_)
        refine q_dup dX1_init_37 (rf_cat _) ?_
        refine q_callIN_ (k' := 4) (w' := 29) (host := RX9) hB (fun b a hf => c_X0_init g l b _ a hf) rfl dX1_init_38 (by decide +kernel) cs_X0_init wd_167 rfl rfl rfl ⟨⟨Nat.le_of_ble_eq_true rfl, Nat.le_of_ble_eq_true rfl⟩, ⟨Nat.le_of_ble_eq_true rfl, Nat.le_of_ble_eq_true rfl⟩, by simp [rf_cat, cat_i, cat_l]⟩ rfl rfl (fun n30 r29 hB => ?_)
        refine q_aastA hB dX1_init_41 fc_0 (fun n31 n32 hB => ?_)
        refine q_nm hB (fun h33 hB => ?_)
        refine q_iinc dX1_init_42 rfl (show _ = ((((0 : Int32) + (1 : Int32)) + (1 : Int32)) + (1 : Int32)) from rfl) (by decide) (nb_r (j := 0) rfl) ?_
        refine q_goto (tgt := 20) dX1_init_45 (by decide) ?_
        refine q_iload_n dX1_init_20 rfl rfl ?_
        refine q_aload_n dX1_init_21 rfl rfl ?_
        refine q_getP (j := 0) hB dX1_init_22 fc_1 (by decide) rfl wd_186 (fun n34 hB => ?_)
        refine q_alenA hB dX1_init_25 (fun n35 hB => ?_)
        refine q_icmp_ge (tgt := 48) hB dX1_init_26 (by decide) (fun hB => ?_) (fun hB => ?_)
        · exact q_vret hB dX1_init_48 rfl (by decide) (by decide)
        · refine q_aload_n dX1_init_29 rfl rfl ?_
          refine q_getP (j := 0) hB dX1_init_30 fc_1 (by decide) rfl wd_186 (fun n36 hB => ?_)
          refine q_iload_n dX1_init_33 rfl rfl ?_
          refine q_new hB dX1_init_34 fc_0 (by decide) wd_163 wd_165 wd_55 (by decide) (by decide) (fun hB => ?_)
          refine q_nm hB (fun h37 hB => ?_)
          refine q_dup dX1_init_37 (rf_cat _) ?_
          refine q_callIN_ (k' := 5) (w' := 34) (host := RX9) hB (fun b a hf => c_X0_init g l b _ a hf) rfl dX1_init_38 (by decide +kernel) cs_X0_init wd_167 rfl rfl rfl ⟨⟨Nat.le_of_ble_eq_true rfl, Nat.le_of_ble_eq_true rfl⟩, ⟨Nat.le_of_ble_eq_true rfl, Nat.le_of_ble_eq_true rfl⟩, by simp [rf_cat, cat_i, cat_l]⟩ rfl rfl (fun n39 r38 hB => ?_)
          refine q_aastA hB dX1_init_41 fc_0 (fun n40 n41 hB => ?_)
          refine q_nm hB (fun h42 hB => ?_)
          refine q_iinc dX1_init_42 rfl (show _ = (((((0 : Int32) + (1 : Int32)) + (1 : Int32)) + (1 : Int32)) + (1 : Int32)) from rfl) (by decide) (nb_r (j := 0) rfl) ?_
          refine q_goto (tgt := 20) dX1_init_45 (by decide) ?_
          refine q_iload_n dX1_init_20 rfl rfl ?_
          refine q_aload_n dX1_init_21 rfl rfl ?_
          refine q_getP (j := 0) hB dX1_init_22 fc_1 (by decide) rfl wd_186 (fun n43 hB => ?_)
          refine q_alenA hB dX1_init_25 (fun n44 hB => ?_)
          refine q_icmp_ge (tgt := 48) hB dX1_init_26 (by decide) (fun hB => ?_) (fun hB => ?_)
          · exact q_vret hB dX1_init_48 rfl (by decide) (by decide)
          · refine q_aload_n dX1_init_29 rfl rfl ?_
            refine q_getP (j := 0) hB dX1_init_30 fc_1 (by decide) rfl wd_186 (fun n45 hB => ?_)
            refine q_iload_n dX1_init_33 rfl rfl ?_
            refine q_new hB dX1_init_34 fc_0 (by decide) wd_163 wd_165 wd_55 (by decide) (by decide) (fun hB => ?_)
            refine q_nm hB (fun h46 hB => ?_)
            refine q_dup dX1_init_37 (rf_cat _) ?_
            refine q_callIN_ (k' := 6) (w' := 39) (host := RX9) hB (fun b a hf => c_X0_init g l b _ a hf) rfl dX1_init_38 (by decide +kernel) cs_X0_init wd_167 rfl rfl rfl ⟨⟨Nat.le_of_ble_eq_true rfl, Nat.le_of_ble_eq_true rfl⟩, ⟨Nat.le_of_ble_eq_true rfl, Nat.le_of_ble_eq_true rfl⟩, by simp [rf_cat, cat_i, cat_l]⟩ rfl rfl (fun n48 r47 hB => ?_)
            refine q_aastA hB dX1_init_41 fc_0 (fun n49 n50 hB => ?_)
            refine q_nm hB (fun h51 hB => ?_)
            refine q_iinc dX1_init_42 rfl (show _ = ((((((0 : Int32) + (1 : Int32)) + (1 : Int32)) + (1 : Int32)) + (1 : Int32)) + (1 : Int32)) from rfl) (by decide) (nb_r (j := 0) rfl) ?_
            refine q_goto (tgt := 20) dX1_init_45 (by decide) ?_
            refine q_iload_n dX1_init_20 rfl rfl ?_
            refine q_aload_n dX1_init_21 rfl rfl ?_
            refine q_getP (j := 0) hB dX1_init_22 fc_1 (by decide) rfl wd_186 (fun n52 hB => ?_)
            refine q_alenA hB dX1_init_25 (fun n53 hB => ?_)
            refine q_icmp_ge (tgt := 48) hB dX1_init_26 (by decide) (fun hB => ?_) (fun hB => ?_)
            · exact q_vret hB dX1_init_48 rfl (by decide) (by decide)
            · refine q_aload_n dX1_init_29 rfl rfl ?_
              refine q_getP (j := 0) hB dX1_init_30 fc_1 (by decide) rfl wd_186 (fun n54 hB => ?_)
              refine q_iload_n dX1_init_33 rfl rfl ?_
              refine q_new hB dX1_init_34 fc_0 (by decide) wd_163 wd_165 wd_55 (by decide) (by decide) (fun hB => ?_)
              refine q_nm hB (fun h55 hB => ?_)
              refine q_dup dX1_init_37 (rf_cat _) ?_
              refine q_callIN_ (k' := 7) (w' := 44) (host := RX9) hB (fun b a hf => c_X0_init g l b _ a hf) rfl dX1_init_38 (by decide +kernel) cs_X0_init wd_167 rfl rfl rfl ⟨⟨Nat.le_of_ble_eq_true rfl, Nat.le_of_ble_eq_true rfl⟩, ⟨Nat.le_of_ble_eq_true rfl, Nat.le_of_ble_eq_true rfl⟩, by simp [rf_cat, cat_i, cat_l]⟩ rfl rfl (fun n57 r56 hB => ?_)
              refine q_aastA hB dX1_init_41 fc_0 (fun n58 n59 hB => ?_)
              refine q_nm hB (fun h60 hB => ?_)
              refine q_iinc dX1_init_42 rfl (show _ = (((((((0 : Int32) + (1 : Int32)) + (1 : Int32)) + (1 : Int32)) + (1 : Int32)) + (1 : Int32)) + (1 : Int32)) from rfl) (by decide) (nb_r (j := 0) rfl) ?_
              refine q_goto (tgt := 20) dX1_init_45 (by decide) ?_
              refine q_iload_n dX1_init_20 rfl rfl ?_
              refine q_aload_n dX1_init_21 rfl rfl ?_
              refine q_getP (j := 0) hB dX1_init_22 fc_1 (by decide) rfl wd_186 (fun n61 hB => ?_)
              refine q_alenA hB dX1_init_25 (fun n62 hB => ?_)
              refine q_icmp_ge (tgt := 48) hB dX1_init_26 (by decide) (fun hB => ?_) (fun hB => ?_)
              · exact q_vret hB dX1_init_48 rfl (by decide) (by decide)
              · refine q_aload_n dX1_init_29 rfl rfl ?_
                refine q_getP (j := 0) hB dX1_init_30 fc_1 (by decide) rfl wd_186 (fun n63 hB => ?_)
                refine q_iload_n dX1_init_33 rfl rfl ?_
                refine q_new hB dX1_init_34 fc_0 (by decide) wd_163 wd_165 wd_55 (by decide) (by decide) (fun hB => ?_)
                refine q_nm hB (fun h64 hB => ?_)
                refine q_dup dX1_init_37 (rf_cat _) ?_
                refine q_callIN_ (k' := 8) (w' := 49) (host := RX9) hB (fun b a hf => c_X0_init g l b _ a hf) rfl dX1_init_38 (by decide +kernel) cs_X0_init wd_167 rfl rfl rfl ⟨⟨Nat.le_of_ble_eq_true rfl, Nat.le_of_ble_eq_true rfl⟩, ⟨Nat.le_of_ble_eq_true rfl, Nat.le_of_ble_eq_true rfl⟩, by simp [rf_cat, cat_i, cat_l]⟩ rfl rfl (fun n66 r65 hB => ?_)
                refine q_aastA hB dX1_init_41 fc_0 (fun n67 n68 hB => ?_)
                refine q_nm hB (fun h69 hB => ?_)
                refine q_iinc dX1_init_42 rfl (show _ = ((((((((0 : Int32) + (1 : Int32)) + (1 : Int32)) + (1 : Int32)) + (1 : Int32)) + (1 : Int32)) + (1 : Int32)) + (1 : Int32)) from rfl) (by decide) (nb_r (j := 0) rfl) ?_
                refine q_goto (tgt := 20) dX1_init_45 (by decide) ?_
                refine q_iload_n dX1_init_20 rfl rfl ?_
                refine q_aload_n dX1_init_21 rfl rfl ?_
                refine q_getP (j := 0) hB dX1_init_22 fc_1 (by decide) rfl wd_186 (fun n70 hB => ?_)
                refine q_alenA hB dX1_init_25 (fun n71 hB => ?_)
                refine q_icmp_ge (tgt := 48) hB dX1_init_26 (by decide) (fun hB => ?_) (fun hB => ?_)
                · exact q_vret hB dX1_init_48 rfl (by decide) (by decide)
                · refine q_aload_n dX1_init_29 rfl rfl ?_
                  refine q_getP (j := 0) hB dX1_init_30 fc_1 (by decide) rfl wd_186 (fun n72 hB => ?_)
                  refine q_iload_n dX1_init_33 rfl rfl ?_
                  refine q_new hB dX1_init_34 fc_0 (by decide) wd_163 wd_165 wd_55 (by decide) (by decide) (fun hB => ?_)
                  refine q_nm hB (fun h73 hB => ?_)
                  refine q_dup dX1_init_37 (rf_cat _) ?_
                  refine q_callIN_ (k' := 9) (w' := 54) (host := RX9) hB (fun b a hf => c_X0_init g l b _ a hf) rfl dX1_init_38 (by decide +kernel) cs_X0_init wd_167 rfl rfl rfl ⟨⟨Nat.le_of_ble_eq_true rfl, Nat.le_of_ble_eq_true rfl⟩, ⟨Nat.le_of_ble_eq_true rfl, Nat.le_of_ble_eq_true rfl⟩, by simp [rf_cat, cat_i, cat_l]⟩ rfl rfl (fun n75 r74 hB => ?_)
                  refine q_aastA hB dX1_init_41 fc_0 (fun n76 n77 hB => ?_)
                  refine q_nm hB (fun h78 hB => ?_)
                  refine q_iinc dX1_init_42 rfl (show _ = (((((((((0 : Int32) + (1 : Int32)) + (1 : Int32)) + (1 : Int32)) + (1 : Int32)) + (1 : Int32)) + (1 : Int32)) + (1 : Int32)) + (1 : Int32)) from rfl) (by decide) (nb_r (j := 0) rfl) ?_
                  refine q_goto (tgt := 20) dX1_init_45 (by decide) ?_
                  refine q_iload_n dX1_init_20 rfl rfl ?_
                  refine q_aload_n dX1_init_21 rfl rfl ?_
                  refine q_getP (j := 0) hB dX1_init_22 fc_1 (by decide) rfl wd_186 (fun n79 hB => ?_)
                  refine q_alenA hB dX1_init_25 (fun n80 hB => ?_)
                  refine q_icmp_ge (tgt := 48) hB dX1_init_26 (by decide) (fun hB => ?_) (fun hB => ?_)
                  · exact q_vret hB dX1_init_48 rfl (by decide) (by decide)
                  · refine q_aload_n dX1_init_29 rfl rfl ?_
                    refine q_getP (j := 0) hB dX1_init_30 fc_1 (by decide) rfl wd_186 (fun n81 hB => ?_)
                    refine q_iload_n dX1_init_33 rfl rfl ?_
                    refine q_new hB dX1_init_34 fc_0 (by decide) wd_163 wd_165 wd_55 (by decide) (by decide) (fun hB => ?_)
                    refine q_nm hB (fun h82 hB => ?_)
                    refine q_dup dX1_init_37 (rf_cat _) ?_
                    refine q_callIN_ (k' := 10) (w' := 59) (host := RX9) hB (fun b a hf => c_X0_init g l b _ a hf) rfl dX1_init_38 (by decide +kernel) cs_X0_init wd_167 rfl rfl rfl ⟨⟨Nat.le_of_ble_eq_true rfl, Nat.le_of_ble_eq_true rfl⟩, ⟨Nat.le_of_ble_eq_true rfl, Nat.le_of_ble_eq_true rfl⟩, by simp [rf_cat, cat_i, cat_l]⟩ rfl rfl (fun n84 r83 hB => ?_)
                    refine q_aastA hB dX1_init_41 fc_0 (fun n85 n86 hB => ?_)
                    refine q_nm hB (fun h87 hB => ?_)
                    refine q_iinc dX1_init_42 rfl (show _ = ((((((((((0 : Int32) + (1 : Int32)) + (1 : Int32)) + (1 : Int32)) + (1 : Int32)) + (1 : Int32)) + (1 : Int32)) + (1 : Int32)) + (1 : Int32)) + (1 : Int32)) from rfl) (by decide) (nb_r (j := 0) rfl) ?_
                    refine q_goto (tgt := 20) dX1_init_45 (by decide) ?_
                    refine q_iload_n dX1_init_20 rfl rfl ?_
                    refine q_aload_n dX1_init_21 rfl rfl ?_
                    refine q_getP (j := 0) hB dX1_init_22 fc_1 (by decide) rfl wd_186 (fun n88 hB => ?_)
                    refine q_alenA hB dX1_init_25 (fun n89 hB => ?_)
                    refine q_icmp_ge (tgt := 48) hB dX1_init_26 (by decide) (fun hB => ?_) (fun hB => ?_)
                    · exact q_vret hB dX1_init_48 rfl (by decide) (by decide)
                    · refine q_aload_n dX1_init_29 rfl rfl ?_
                      refine q_getP (j := 0) hB dX1_init_30 fc_1 (by decide) rfl wd_186 (fun n90 hB => ?_)
                      refine q_iload_n dX1_init_33 rfl rfl ?_
                      refine q_new hB dX1_init_34 fc_0 (by decide) wd_163 wd_165 wd_55 (by decide) (by decide) (fun hB => ?_)
                      refine q_nm hB (fun h91 hB => ?_)
                      refine q_dup dX1_init_37 (rf_cat _) ?_
                      refine q_callIN_ (k' := 11) (w' := 64) (host := RX9) hB (fun b a hf => c_X0_init g l b _ a hf) rfl dX1_init_38 (by decide +kernel) cs_X0_init wd_167 rfl rfl rfl ⟨⟨Nat.le_of_ble_eq_true rfl, Nat.le_of_ble_eq_true rfl⟩, ⟨Nat.le_of_ble_eq_true rfl, Nat.le_of_ble_eq_true rfl⟩, by simp [rf_cat, cat_i, cat_l]⟩ rfl rfl (fun n93 r92 hB => ?_)
                      refine q_aastA hB dX1_init_41 fc_0 (fun n94 n95 hB => ?_)
                      refine q_nm hB (fun h96 hB => ?_)
                      refine q_iinc dX1_init_42 rfl (show _ = (((((((((((0 : Int32) + (1 : Int32)) + (1 : Int32)) + (1 : Int32)) + (1 : Int32)) + (1 : Int32)) + (1 : Int32)) + (1 : Int32)) + (1 : Int32)) + (1 : Int32)) + (1 : Int32)) from rfl) (by decide) (nb_r (j := 0) rfl) ?_
                      refine q_goto (tgt := 20) dX1_init_45 (by decide) ?_
                      refine q_iload_n dX1_init_20 rfl rfl ?_
                      refine q_aload_n dX1_init_21 rfl rfl ?_
                      refine q_getP (j := 0) hB dX1_init_22 fc_1 (by decide) rfl wd_186 (fun n97 hB => ?_)
                      refine q_alenA hB dX1_init_25 (fun n98 hB => ?_)
                      refine q_icmp_ge (tgt := 48) hB dX1_init_26 (by decide) (fun hB => ?_) (fun hB => ?_)
                      · exact q_vret hB dX1_init_48 rfl (by decide) (by decide)
                      · refine q_aload_n dX1_init_29 rfl rfl ?_
                        refine q_getP (j := 0) hB dX1_init_30 fc_1 (by decide) rfl wd_186 (fun n99 hB => ?_)
                        refine q_iload_n dX1_init_33 rfl rfl ?_
                        refine q_new hB dX1_init_34 fc_0 (by decide) wd_163 wd_165 wd_55 (by decide) (by decide) (fun hB => ?_)
                        refine q_nm hB (fun h100 hB => ?_)
                        refine q_dup dX1_init_37 (rf_cat _) ?_
                        refine q_callIN_ (k' := 12) (w' := 69) (host := RX9) hB (fun b a hf => c_X0_init g l b _ a hf) rfl dX1_init_38 (by decide +kernel) cs_X0_init wd_167 rfl rfl rfl ⟨⟨Nat.le_of_ble_eq_true rfl, Nat.le_of_ble_eq_true rfl⟩, ⟨Nat.le_of_ble_eq_true rfl, Nat.le_of_ble_eq_true rfl⟩, by simp [rf_cat, cat_i, cat_l]⟩ rfl rfl (fun n102 r101 hB => ?_)
                        refine q_aastA hB dX1_init_41 fc_0 (fun n103 n104 hB => ?_)
                        refine q_nm hB (fun h105 hB => ?_)
                        refine q_iinc dX1_init_42 rfl (show _ = ((((((((((((0 : Int32) + (1 : Int32)) + (1 : Int32)) + (1 : Int32)) + (1 : Int32)) + (1 : Int32)) + (1 : Int32)) + (1 : Int32)) + (1 : Int32)) + (1 : Int32)) + (1 : Int32)) + (1 : Int32)) from rfl) (by decide) (nb_r (j := 0) rfl) ?_
                        refine q_goto (tgt := 20) dX1_init_45 (by decide) ?_
                        refine q_iload_n dX1_init_20 rfl rfl ?_
                        refine q_aload_n dX1_init_21 rfl rfl ?_
                        refine q_getP (j := 0) hB dX1_init_22 fc_1 (by decide) rfl wd_186 (fun n106 hB => ?_)
                        refine q_alenA hB dX1_init_25 (fun n107 hB => ?_)
                        refine q_icmp_ge (tgt := 48) hB dX1_init_26 (by decide) (fun hB => ?_) (fun hB => ?_)
                        · exact q_vret hB dX1_init_48 rfl (by decide) (by decide)
                        · refine q_aload_n dX1_init_29 rfl rfl ?_
                          refine q_getP (j := 0) hB dX1_init_30 fc_1 (by decide) rfl wd_186 (fun n108 hB => ?_)
                          refine q_iload_n dX1_init_33 rfl rfl ?_
                          refine q_new hB dX1_init_34 fc_0 (by decide) wd_163 wd_165 wd_55 (by decide) (by decide) (fun hB => ?_)
                          refine q_nm hB (fun h109 hB => ?_)
                          refine q_dup dX1_init_37 (rf_cat _) ?_
                          refine q_callIN_ (k' := 13) (w' := 74) (host := RX9) hB (fun b a hf => c_X0_init g l b _ a hf) rfl dX1_init_38 (by decide +kernel) cs_X0_init wd_167 rfl rfl rfl ⟨⟨Nat.le_of_ble_eq_true rfl, Nat.le_of_ble_eq_true rfl⟩, ⟨Nat.le_of_ble_eq_true rfl, Nat.le_of_ble_eq_true rfl⟩, by simp [rf_cat, cat_i, cat_l]⟩ rfl rfl (fun n111 r110 hB => ?_)
                          refine q_aastA hB dX1_init_41 fc_0 (fun n112 n113 hB => ?_)
                          refine q_nm hB (fun h114 hB => ?_)
                          refine q_iinc dX1_init_42 rfl (show _ = (((((((((((((0 : Int32) + (1 : Int32)) + (1 : Int32)) + (1 : Int32)) + (1 : Int32)) + (1 : Int32)) + (1 : Int32)) + (1 : Int32)) + (1 : Int32)) + (1 : Int32)) + (1 : Int32)) + (1 : Int32)) + (1 : Int32)) from rfl) (by decide) (nb_r (j := 0) rfl) ?_
                          refine q_goto (tgt := 20) dX1_init_45 (by decide) ?_
                          refine q_iload_n dX1_init_20 rfl rfl ?_
                          refine q_aload_n dX1_init_21 rfl rfl ?_
                          refine q_getP (j := 0) hB dX1_init_22 fc_1 (by decide) rfl wd_186 (fun n115 hB => ?_)
                          refine q_alenA hB dX1_init_25 (fun n116 hB => ?_)
                          refine q_icmp_ge (tgt := 48) hB dX1_init_26 (by decide) (fun hB => ?_) (fun hB => ?_)
                          · exact q_vret hB dX1_init_48 rfl (by decide) (by decide)
                          · refine q_aload_n dX1_init_29 rfl rfl ?_
                            refine q_getP (j := 0) hB dX1_init_30 fc_1 (by decide) rfl wd_186 (fun n117 hB => ?_)
                            refine q_iload_n dX1_init_33 rfl rfl ?_
                            refine q_new hB dX1_init_34 fc_0 (by decide) wd_163 wd_165 wd_55 (by decide) (by decide) (fun hB => ?_)
                            refine q_nm hB (fun h118 hB => ?_)
                            refine q_dup dX1_init_37 (rf_cat _) ?_
                            refine q_callIN_ (k' := 14) (w' := 79) (host := RX9) hB (fun b a hf => c_X0_init g l b _ a hf) rfl dX1_init_38 (by decide +kernel) cs_X0_init wd_167 rfl rfl rfl ⟨⟨Nat.le_of_ble_eq_true rfl, Nat.le_of_ble_eq_true rfl⟩, ⟨Nat.le_of_ble_eq_true rfl, Nat.le_of_ble_eq_true rfl⟩, by simp [rf_cat, cat_i, cat_l]⟩ rfl rfl (fun n120 r119 hB => ?_)
                            refine q_aastA hB dX1_init_41 fc_0 (fun n121 n122 hB => ?_)
                            refine q_nm hB (fun h123 hB => ?_)
                            refine q_iinc dX1_init_42 rfl (show _ = ((((((((((((((0 : Int32) + (1 : Int32)) + (1 : Int32)) + (1 : Int32)) + (1 : Int32)) + (1 : Int32)) + (1 : Int32)) + (1 : Int32)) + (1 : Int32)) + (1 : Int32)) + (1 : Int32)) + (1 : Int32)) + (1 : Int32)) + (1 : Int32)) from rfl) (by decide) (nb_r (j := 0) rfl) ?_
                            refine q_goto (tgt := 20) dX1_init_45 (by decide) ?_
                            refine q_iload_n dX1_init_20 rfl rfl ?_
                            refine q_aload_n dX1_init_21 rfl rfl ?_
                            refine q_getP (j := 0) hB dX1_init_22 fc_1 (by decide) rfl wd_186 (fun n124 hB => ?_)
                            refine q_alenA hB dX1_init_25 (fun n125 hB => ?_)
                            refine q_icmp_ge (tgt := 48) hB dX1_init_26 (by decide) (fun hB => ?_) (fun hB => ?_)
                            · exact q_vret hB dX1_init_48 rfl (by decide) (by decide)
                            · refine q_aload_n dX1_init_29 rfl rfl ?_
                              refine q_getP (j := 0) hB dX1_init_30 fc_1 (by decide) rfl wd_186 (fun n126 hB => ?_)
                              refine q_iload_n dX1_init_33 rfl rfl ?_
                              refine q_new hB dX1_init_34 fc_0 (by decide) wd_163 wd_165 wd_55 (by decide) (by decide) (fun hB => ?_)
                              refine q_nm hB (fun h127 hB => ?_)
                              refine q_dup dX1_init_37 (rf_cat _) ?_
                              refine q_callIN_ (k' := 15) (w' := 84) (host := RX9) hB (fun b a hf => c_X0_init g l b _ a hf) rfl dX1_init_38 (by decide +kernel) cs_X0_init wd_167 rfl rfl rfl ⟨⟨Nat.le_of_ble_eq_true rfl, Nat.le_of_ble_eq_true rfl⟩, ⟨Nat.le_of_ble_eq_true rfl, Nat.le_of_ble_eq_true rfl⟩, by simp [rf_cat, cat_i, cat_l]⟩ rfl rfl (fun n129 r128 hB => ?_)
                              refine q_aastA hB dX1_init_41 fc_0 (fun n130 n131 hB => ?_)
                              refine q_nm hB (fun h132 hB => ?_)
                              refine q_iinc dX1_init_42 rfl (show _ = (((((((((((((((0 : Int32) + (1 : Int32)) + (1 : Int32)) + (1 : Int32)) + (1 : Int32)) + (1 : Int32)) + (1 : Int32)) + (1 : Int32)) + (1 : Int32)) + (1 : Int32)) + (1 : Int32)) + (1 : Int32)) + (1 : Int32)) + (1 : Int32)) + (1 : Int32)) from rfl) (by decide) (nb_r (j := 0) rfl) ?_
                              refine q_goto (tgt := 20) dX1_init_45 (by decide) ?_
                              refine q_iload_n dX1_init_20 rfl rfl ?_
                              refine q_aload_n dX1_init_21 rfl rfl ?_
                              refine q_getP (j := 0) hB dX1_init_22 fc_1 (by decide) rfl wd_186 (fun n133 hB => ?_)
                              refine q_alenA hB dX1_init_25 (fun n134 hB => ?_)
                              refine q_icmp_ge (tgt := 48) hB dX1_init_26 (by decide) (fun hB => ?_) (fun hB => ?_)
                              · exact q_vret hB dX1_init_48 rfl (by decide) (by decide)
                              · cases hB

def f_X2_init  (a0 : Nat) (h : HS) : Option (Unit × HS) :=
  nn (some a0) (fun _ => gd (cn h 9 && decide (al (hN h) = 21)) (hl (nw h) (fun h2 => nn (some a0) (fun n3 => gd (ck h2 n3 2) (hl (sP h2 n3 0 (some (hN h))) (fun h4 => gd (cn h4 9 && decide (al (hN h4) = 21)) (hl (nw h4) (fun h5 => nn (some a0) (fun n6 => gd (ck h5 n6 2) (hl (sP h5 n6 1 (some (hN h4))) (fun h7 => gd (cn h7 9 && decide (al (hN h7) = 21)) (hl (nw h7) (fun h8 => nn (some a0) (fun n9 => gd (ck h8 n9 2) (hl (sP h8 n9 2 (some (hN h7))) (fun h10 => nn (some a0) (fun n11 => gd (ck h10 n11 2) (hl (sI h10 n11 3 (0 : Int32)) (fun h12 => some ((), h12))))))))))))))))))))
set_option maxHeartbeats 4000000 in
set_option maxRecDepth 100000 in
theorem c_X2_init (g : GG) (l : Launch) (a0 : Nat) (h : HS) (o : Unit × HS) (hB : f_X2_init a0 h = some o) : Ct g l mX2_init [va_rf (some a0)] h (QV o) := by
  refine Ct.of2 (lv0 := [some (va_rf (some a0))]) (by decide +kernel) (by simp [lg_sl, rf_cat, cat_i, cat_l]) rfl ?_
  unfold f_X2_init at hB
  refine q_aload_n dX2_init_0 rfl rfl ?_
  refine q_objInit hB dX2_init_1 wd_199 wd_74 wd_75 (by decide) (Nat.le_of_ble_eq_true rfl) (fun hB => ?_)
  refine q_aload_n dX2_init_4 rfl rfl ?_
  refine q_bipush (v := 21) dX2_init_5 (by decide) ?_
  refine q_newaI hB dX2_init_7 wd_90 (by decide) (by decide) (by decide) (by decide) (by decide) (fun hB => ?_)
  refine q_nm hB (fun h2 hB => ?_)
  refine q_putPF (j := 0) hB dX2_init_9 fc_2 (by decide) rfl wd_200 rfl rfl rfl (fun n3 hB => ?_)
  refine q_nm hB (fun h4 hB => ?_)
  refine q_aload_n dX2_init_12 rfl rfl ?_
  refine q_bipush (v := 21) dX2_init_13 (by decide) ?_
  refine q_newaI hB dX2_init_15 wd_90 (by decide) (by decide) (by decide) (by decide) (by decide) (fun hB => ?_)
  refine q_nm hB (fun h5 hB => ?_)
  refine q_putPF (j := 1) hB dX2_init_17 fc_2 (by decide) rfl wd_202 rfl rfl rfl (fun n6 hB => ?_)
  refine q_nm hB (fun h7 hB => ?_)
  refine q_aload_n dX2_init_20 rfl rfl ?_
  refine q_bipush (v := 21) dX2_init_21 (by decide) ?_
  refine q_newaI hB dX2_init_23 wd_90 (by decide) (by decide) (by decide) (by decide) (by decide) (fun hB => ?_)
  refine q_nm hB (fun h8 hB => ?_)
  refine q_putPF (j := 2) hB dX2_init_25 fc_2 (by decide) rfl wd_203 rfl rfl rfl (fun n9 hB => ?_)
  refine q_nm hB (fun h10 hB => ?_)
  refine q_aload_n dX2_init_28 rfl rfl ?_
  refine q_iconst (v := 0) dX2_init_29 (by decide) ?_
  refine q_putI (j := 3) hB dX2_init_30 fc_2 (by decide) rfl wd_204 rfl (fun n11 hB => ?_)
  refine q_nm hB (fun h12 hB => ?_)
  exact q_vret hB dX2_init_33 rfl (by decide) (by decide)

def f_X8_init  (a0 : Nat) (h : HS) : Option (Unit × HS) :=
  nn (some a0) (fun _ => gd (cn h 9 && decide (al (hN h) = 6)) (hl (nw h) (fun h2 => nn (some a0) (fun n3 => gd (ck h2 n3 6) (hl (sP h2 n3 0 (some (hN h))) (fun h4 => gd (cn h4 9 && decide (al (hN h4) = 6)) (hl (nw h4) (fun h5 => nn (some a0) (fun n6 => gd (ck h5 n6 6) (hl (sP h5 n6 1 (some (hN h4))) (fun h7 => gd (cn h7 10 && decide (al (hN h7) = 6)) (hl (nw h7) (fun h8 => nn (some a0) (fun n9 => gd (ck h8 n9 6) (hl (sP h8 n9 2 (some (hN h7))) (fun h10 => nn (some a0) (fun n11 => gd (ck h10 n11 6) (hl (sI h10 n11 3 (0 : Int32)) (fun h12 => some ((), h12))))))))))))))))))))
set_option maxHeartbeats 4000000 in
set_option maxRecDepth 100000 in
theorem c_X8_init (g : GG) (l : Launch) (a0 : Nat) (h : HS) (o : Unit × HS) (hB : f_X8_init a0 h = some o) : Ct g l mX8_init [va_rf (some a0)] h (QV o) := by
  refine Ct.of2 (lv0 := [some (va_rf (some a0))]) (by decide +kernel) (by simp [lg_sl, rf_cat, cat_i, cat_l]) rfl ?_
  unfold f_X8_init at hB
  refine q_aload_n dX8_init_0 rfl rfl ?_
  refine q_objInit hB dX8_init_1 wd_220 wd_74 wd_75 (by decide) (Nat.le_of_ble_eq_true rfl) (fun hB => ?_)
  refine q_aload_n dX8_init_4 rfl rfl ?_
  refine q_bipush (v := 6) dX8_init_5 (by decide) ?_
  refine q_newaI hB dX8_init_7 wd_90 (by decide) (by decide) (by decide) (by decide) (by decide) (fun hB => ?_)
  refine q_nm hB (fun h2 hB => ?_)
  refine q_putPF (j := 0) hB dX8_init_9 fc_6 (by decide) rfl wd_221 rfl rfl rfl (fun n3 hB => ?_)
  refine q_nm hB (fun h4 hB => ?_)
  refine q_aload_n dX8_init_12 rfl rfl ?_
  refine q_bipush (v := 6) dX8_init_13 (by decide) ?_
  refine q_newaI hB dX8_init_15 wd_90 (by decide) (by decide) (by decide) (by decide) (by decide) (fun hB => ?_)
  refine q_nm hB (fun h5 hB => ?_)
  refine q_putPF (j := 1) hB dX8_init_17 fc_6 (by decide) rfl wd_223 rfl rfl rfl (fun n6 hB => ?_)
  refine q_nm hB (fun h7 hB => ?_)
  refine q_aload_n dX8_init_20 rfl rfl ?_
  refine q_bipush (v := 6) dX8_init_21 (by decide) ?_
  refine q_newaZ hB dX8_init_23 wd_238 (by decide) (by decide) (by decide) (by decide) (by decide) (fun hB => ?_)
  refine q_nm hB (fun h8 hB => ?_)
  refine q_putPF (j := 2) hB dX8_init_25 fc_6 (by decide) rfl wd_225 rfl rfl rfl (fun n9 hB => ?_)
  refine q_nm hB (fun h10 hB => ?_)
  refine q_aload_n dX8_init_28 rfl rfl ?_
  refine q_iconst (v := 0) dX8_init_29 (by decide) ?_
  refine q_putI (j := 3) hB dX8_init_30 fc_6 (by decide) rfl wd_227 rfl (fun n11 hB => ?_)
  refine q_nm hB (fun h12 hB => ?_)
  exact q_vret hB dX8_init_33 rfl (by decide) (by decide)

set_option maxRecDepth 100000 in
def f_X9_init  (a0 : Nat) (h : HS) : Option (Unit × HS) :=
  nn (some a0) (fun _ => gd (cn h 5) (hl (nw h) (fun h2 => nn (some (hN h)) (fun n4 => bd (f_X7_init n4 h2) (fun r3 => nn (some a0) (fun n5 => gd (ck r3.2 n5 7) (hl (sP r3.2 n5 0 (some (hN h))) (fun h6 => gd (cn h6 4) (hl (nw h6) (fun h7 => nn (some (hN h6)) (fun n9 => bd (f_X6_init n9 h7) (fun r8 => nn (some a0) (fun n10 => gd (ck r8.2 n10 7) (hl (sP r8.2 n10 1 (some (hN h6))) (fun h11 => gd (cn h11 4) (hl (nw h11) (fun h12 => nn (some (hN h11)) (fun n14 => bd (f_X6_init n14 h12) (fun r13 => nn (some a0) (fun n15 => gd (ck r13.2 n15 7) (hl (sP r13.2 n15 2 (some (hN h11))) (fun h16 => gd (cn h16 3) (hl (nw h16) (fun h17 => nn (some (hN h16)) (fun n19 => bd (f_X3_init n19 h17) (fun r18 => nn (some a0) (fun n20 => gd (ck r18.2 n20 7) (hl (sP r18.2 n20 3 (some (hN h16))) (fun h21 => gd (cn h21 3) (hl (nw h21) (fun h22 => nn (some (hN h21)) (fun n24 => bd (f_X3_init n24 h22) (fun r23 => nn (some a0) (fun n25 => gd (ck r23.2 n25 7) (hl (sP r23.2 n25 4 (some (hN h21))) (fun h26 => gd (cn h26 1) (hl (nw h26) (fun h27 => nn (some (hN h26)) (fun n29 => bd (f_X1_init n29 h27) (fun r28 => nn (some a0) (fun n30 => gd (ck r28.2 n30 7) (hl (sP r28.2 n30 5 (some (hN h26))) (fun h31 => gd (cn h31 2) (hl (nw h31) (fun h32 => nn (some (hN h31)) (fun n34 => bd (f_X2_init n34 h32) (fun r33 => nn (some a0) (fun n35 => gd (ck r33.2 n35 7) (hl (sP r33.2 n35 6 (some (hN h31))) (fun h36 => gd (cn h36 2) (hl (nw h36) (fun h37 => nn (some (hN h36)) (fun n39 => bd (f_X2_init n39 h37) (fun r38 => nn (some a0) (fun n40 => gd (ck r38.2 n40 7) (hl (sP r38.2 n40 7 (some (hN h36))) (fun h41 => gd (cn h41 6) (hl (nw h41) (fun h42 => nn (some (hN h41)) (fun n44 => bd (f_X8_init n44 h42) (fun r43 => nn (some a0) (fun n45 => gd (ck r43.2 n45 7) (hl (sP r43.2 n45 8 (some (hN h41))) (fun h46 => gd (cn h46 12 && decide (al (hN h46) = 2)) (hl (nw h46) (fun h47 => nn (some a0) (fun n48 => gd (ck h47 n48 7) (hl (sP h47 n48 9 (some (hN h46))) (fun h49 => nn (some a0) (fun n50 => gd (ck h49 n50 7) (hl (sJ h49 n50 10 (0 : Int64)) (fun h51 => some ((), h51)))))))))))))))))))))))))))))))))))))))))))))))))))))))))))))))))))))))))
set_option maxHeartbeats 4000000 in
set_option maxRecDepth 100000 in
theorem c_X9_init (g : GG) (l : Launch) (a0 : Nat) (h : HS) (o : Unit × HS) (hB : f_X9_init a0 h = some o) : Ct g l mX9_init [va_rf (some a0)] h (QV o) := by
  refine Ct.of2 (lv0 := [some (va_rf (some a0))]) (by decide +kernel) (by simp [lg_sl, rf_cat, cat_i, cat_l]) rfl ?_
  unfold f_X9_init at hB
  refine q_aload_n dX9_init_0 rfl rfl ?_
  refine q_objInit hB dX9_init_1 wd_73 wd_74 wd_75 (by decide) (Nat.le_of_ble_eq_true rfl) (fun hB => ?_)
  refine q_aload_n dX9_init_4 rfl rfl ?_
  refine q_new hB dX9_init_5 fc_5 (by decide) wd_76 wd_77 wd_48 (by decide) (by decide) (fun hB => ?_)
  refine q_nm hB (fun h2 hB => ?_)
  refine q_dup dX9_init_8 (rf_cat _) ?_
  refine q_callIN_ (k' := 2) (w' := 34) (host := RX9) hB (fun b a hf => c_X7_init g l b _ a hf) rfl dX9_init_9 (by decide +kernel) cs_X7_init wd_79 rfl rfl rfl ⟨⟨Nat.le_of_ble_eq_true rfl, Nat.le_of_ble_eq_true rfl⟩, ⟨Nat.le_of_ble_eq_true rfl, Nat.le_of_ble_eq_true rfl⟩, by simp [rf_cat, cat_i, cat_l]⟩ rfl rfl (fun n4 r3 hB => ?_)
  refine q_putPF (j := 0) hB dX9_init_12 fc_7 (by decide) rfl wd_240 rfl rfl rfl (fun n5 hB => ?_)
  refine q_nm hB (fun h6 hB => ?_)
  refine q_aload_n dX9_init_15 rfl rfl ?_
  refine q_new hB dX9_init_16 fc_4 (by decide) wd_91 wd_92 wd_49 (by decide) (by decide) (fun hB => ?_)
  refine q_nm hB (fun h7 hB => ?_)
  refine q_dup dX9_init_19 (rf_cat _) ?_
  refine q_callIN_ (k' := 3) (w' := 39) (host := RX9) hB (fun b a hf => c_X6_init g l b _ a hf) rfl dX9_init_20 (by decide +kernel) cs_X6_init wd_94 rfl rfl rfl ⟨⟨Nat.le_of_ble_eq_true rfl, Nat.le_of_ble_eq_true rfl⟩, ⟨Nat.le_of_ble_eq_true rfl, Nat.le_of_ble_eq_true rfl⟩, by simp [rf_cat, cat_i, cat_l]⟩ rfl rfl (fun n9 r8 hB => ?_)
  refine q_putP (j := 1) hB dX9_init_23 fc_7 (by decide) rfl wd_241 rfl (fun n10 hB => ?_)
  refine q_nm hB (fun h11 hB => ?_)
  refine q_aload_n dX9_init_26 rfl rfl ?_
  refine q_new hB dX9_init_27 fc_4 (by decide) wd_91 wd_92 wd_49 (by decide) (by decide) (fun hB => ?_)
  refine q_nm hB (fun h12 hB => ?_)
  refine q_dup dX9_init_30 (rf_cat _) ?_
  refine q_callIN_ (k' := 4) (w' := 44) (host := RX9) hB (fun b a hf => c_X6_init g l b _ a hf) rfl dX9_init_31 (by decide +kernel) cs_X6_init wd_94 rfl rfl rfl ⟨⟨Nat.le_of_ble_eq_true rfl, Nat.le_of_ble_eq_true rfl⟩, ⟨Nat.le_of_ble_eq_true rfl, Nat.le_of_ble_eq_true rfl⟩, by simp [rf_cat, cat_i, cat_l]⟩ rfl rfl (fun n14 r13 hB => ?_)
  refine q_putP (j := 2) hB dX9_init_34 fc_7 (by decide) rfl wd_242 rfl (fun n15 hB => ?_)
  refine q_nm hB (fun h16 hB => ?_)
  refine q_aload_n dX9_init_37 rfl rfl ?_
  refine q_new hB dX9_init_38 fc_3 (by decide) wd_129 wd_130 wd_53 (by decide) (by decide) (fun hB => ?_)
  refine q_nm hB (fun h17 hB => ?_)
  refine q_dup dX9_init_41 (rf_cat _) ?_
  refine q_callIN_ (k' := 8) (w' := 96) (host := RX9) hB (fun b a hf => c_X3_init g l b _ a hf) rfl dX9_init_42 (by decide +kernel) cs_X3_init wd_132 rfl rfl rfl ⟨⟨Nat.le_of_ble_eq_true rfl, Nat.le_of_ble_eq_true rfl⟩, ⟨Nat.le_of_ble_eq_true rfl, Nat.le_of_ble_eq_true rfl⟩, by simp [rf_cat, cat_i, cat_l]⟩ rfl rfl (fun n19 r18 hB => ?_)
  refine q_putPF (j := 3) hB dX9_init_45 fc_7 (by decide) rfl wd_243 rfl rfl rfl (fun n20 hB => ?_)
  refine q_nm hB (fun h21 hB => ?_)
  refine q_aload_n dX9_init_48 rfl rfl ?_
  refine q_new hB dX9_init_49 fc_3 (by decide) wd_129 wd_130 wd_53 (by decide) (by decide) (fun hB => ?_)
  refine q_nm hB (fun h22 hB => ?_)
  refine q_dup dX9_init_52 (rf_cat _) ?_
  refine q_callIN_ (k' := 12) (w' := 148) (host := RX9) hB (fun b a hf => c_X3_init g l b _ a hf) rfl dX9_init_53 (by decide +kernel) cs_X3_init wd_132 rfl rfl rfl ⟨⟨Nat.le_of_ble_eq_true rfl, Nat.le_of_ble_eq_true rfl⟩, ⟨Nat.le_of_ble_eq_true rfl, Nat.le_of_ble_eq_true rfl⟩, by simp [rf_cat, cat_i, cat_l]⟩ rfl rfl (fun n24 r23 hB => ?_)
  refine q_putPF (j := 4) hB dX9_init_56 fc_7 (by decide) rfl wd_244 rfl rfl rfl (fun n25 hB => ?_)
  refine q_nm hB (fun h26 hB => ?_)
  refine q_aload_n dX9_init_59 rfl rfl ?_
  refine q_new hB dX9_init_60 fc_1 (by decide) wd_157 wd_158 wd_54 (by decide) (by decide) (fun hB => ?_)
  refine q_nm hB (fun h27 hB => ?_)
  refine q_dup dX9_init_63 (rf_cat _) ?_
  refine q_callI_ (k' := 28) (w' := 234) hB (fun b a hf => c_X1_init g l b _ a hf) rfl dX9_init_64 wd_159 cs_X1_init wd_160 rfl rfl rfl ⟨⟨Nat.le_of_ble_eq_true rfl, Nat.le_of_ble_eq_true rfl⟩, ⟨Nat.le_of_ble_eq_true rfl, Nat.le_of_ble_eq_true rfl⟩, by simp [rf_cat, cat_i, cat_l]⟩ rfl rfl (fun n29 r28 hB => ?_)
  refine q_putPF (j := 5) hB dX9_init_67 fc_7 (by decide) rfl wd_245 rfl rfl rfl (fun n30 hB => ?_)
  refine q_nm hB (fun h31 hB => ?_)
  refine q_aload_n dX9_init_70 rfl rfl ?_
  refine q_new hB dX9_init_71 fc_2 (by decide) wd_194 wd_195 wd_56 (by decide) (by decide) (fun hB => ?_)
  refine q_nm hB (fun h32 hB => ?_)
  refine q_dup dX9_init_74 (rf_cat _) ?_
  refine q_callIN_ (k' := 32) (w' := 301) (host := RX9) hB (fun b a hf => c_X2_init g l b _ a hf) rfl dX9_init_75 (by decide +kernel) cs_X2_init wd_197 rfl rfl rfl ⟨⟨Nat.le_of_ble_eq_true rfl, Nat.le_of_ble_eq_true rfl⟩, ⟨Nat.le_of_ble_eq_true rfl, Nat.le_of_ble_eq_true rfl⟩, by simp [rf_cat, cat_i, cat_l]⟩ rfl rfl (fun n34 r33 hB => ?_)
  refine q_putPF (j := 6) hB dX9_init_78 fc_7 (by decide) rfl wd_246 rfl rfl rfl (fun n35 hB => ?_)
  refine q_nm hB (fun h36 hB => ?_)
  refine q_aload_n dX9_init_81 rfl rfl ?_
  refine q_new hB dX9_init_82 fc_2 (by decide) wd_194 wd_195 wd_56 (by decide) (by decide) (fun hB => ?_)
  refine q_nm hB (fun h37 hB => ?_)
  refine q_dup dX9_init_85 (rf_cat _) ?_
  refine q_callIN_ (k' := 36) (w' := 368) (host := RX9) hB (fun b a hf => c_X2_init g l b _ a hf) rfl dX9_init_86 (by decide +kernel) cs_X2_init wd_197 rfl rfl rfl ⟨⟨Nat.le_of_ble_eq_true rfl, Nat.le_of_ble_eq_true rfl⟩, ⟨Nat.le_of_ble_eq_true rfl, Nat.le_of_ble_eq_true rfl⟩, by simp [rf_cat, cat_i, cat_l]⟩ rfl rfl (fun n39 r38 hB => ?_)
  refine q_putPF (j := 7) hB dX9_init_89 fc_7 (by decide) rfl wd_247 rfl rfl rfl (fun n40 hB => ?_)
  refine q_nm hB (fun h41 hB => ?_)
  refine q_aload_n dX9_init_92 rfl rfl ?_
  refine q_new hB dX9_init_93 fc_6 (by decide) wd_215 wd_216 wd_57 (by decide) (by decide) (fun hB => ?_)
  refine q_nm hB (fun h42 hB => ?_)
  refine q_dup dX9_init_96 (rf_cat _) ?_
  refine q_callIN_ (k' := 40) (w' := 390) (host := RX9) hB (fun b a hf => c_X8_init g l b _ a hf) rfl dX9_init_97 (by decide +kernel) cs_X8_init wd_218 rfl rfl rfl ⟨⟨Nat.le_of_ble_eq_true rfl, Nat.le_of_ble_eq_true rfl⟩, ⟨Nat.le_of_ble_eq_true rfl, Nat.le_of_ble_eq_true rfl⟩, by simp [rf_cat, cat_i, cat_l]⟩ rfl rfl (fun n44 r43 hB => ?_)
  refine q_putPF (j := 8) hB dX9_init_100 fc_7 (by decide) rfl wd_248 rfl rfl rfl (fun n45 hB => ?_)
  refine q_nm hB (fun h46 hB => ?_)
  refine q_aload_n dX9_init_103 rfl rfl ?_
  refine q_iconst (v := 2) dX9_init_104 (by decide) ?_
  refine q_newqE hB dX9_init_105 wd_129 (by decide) (by decide) (by decide) (by decide) (by decide) (fun hB => ?_)
  refine q_nm hB (fun h47 hB => ?_)
  refine q_putPF (j := 9) hB dX9_init_108 fc_7 (by decide) rfl wd_249 rfl rfl rfl (fun n48 hB => ?_)
  refine q_nm hB (fun h49 hB => ?_)
  refine q_aload_n dX9_init_111 rfl rfl ?_
  refine q_lconst (v := 0) dX9_init_112 (by decide) ?_
  refine q_putJ (j := 10) hB dX9_init_113 fc_7 (by decide) rfl wd_250 rfl (fun n50 hB => ?_)
  refine q_nm hB (fun h51 hB => ?_)
  exact q_vret hB dX9_init_116 rfl (by decide) (by decide)

set_option maxRecDepth 100000 in
def f_X10_init  (a0 : Nat) (h : HS) : Option (Unit × HS) :=
  nn (some a0) (fun _ => nn (some a0) (fun n2 => gd (ck h n2 8) (hl (sI h n2 0 (0 : Int32)) (fun h3 => nn (some a0) (fun n4 => gd (ck h3 n4 8) (hl (sI h3 n4 1 (1 : Int32)) (fun h5 => nn (some a0) (fun n6 => gd (ck h5 n6 8) (hl (sI h5 n6 4 (1 : Int32)) (fun h7 => gd (cn h7 9 && decide (al (hN h7) = 32)) (hl (nw h7) (fun h8 => nn (some a0) (fun n9 => gd (ck h8 n9 8) (hl (sP h8 n9 10 (some (hN h7))) (fun h10 => gd (cn h10 9 && decide (al (hN h10) = 34)) (hl (nw h10) (fun h11 => nn (some a0) (fun n12 => gd (ck h11 n12 8) (hl (sP h11 n12 12 (some (hN h10))) (fun h13 => gd (cn h13 9 && decide (al (hN h13) = 17)) (hl (nw h13) (fun h14 => nn (some a0) (fun n15 => gd (ck h14 n15 8) (hl (sP h14 n15 15 (some (hN h13))) (fun h16 => gd (cn h16 9 && decide (al (hN h16) = 17)) (hl (nw h16) (fun h17 => nn (some a0) (fun n18 => gd (ck h17 n18 8) (hl (sP h17 n18 16 (some (hN h16))) (fun h19 => gd (cn h19 9 && decide (al (hN h19) = 21)) (hl (nw h19) (fun h20 => nn (some a0) (fun n21 => gd (ck h20 n21 8) (hl (sP h20 n21 17 (some (hN h19))) (fun h22 => gd (cn h22 9 && decide (al (hN h22) = 21)) (hl (nw h22) (fun h23 => nn (some a0) (fun n24 => gd (ck h23 n24 8) (hl (sP h23 n24 18 (some (hN h22))) (fun h25 => gd (cn h25 9 && decide (al (hN h25) = 21)) (hl (nw h25) (fun h26 => nn (some a0) (fun n27 => gd (ck h26 n27 8) (hl (sP h26 n27 19 (some (hN h25))) (fun h28 => gd (cn h28 9 && decide (al (hN h28) = 238)) (hl (nw h28) (fun h29 => nn (some a0) (fun n30 => gd (ck h29 n30 8) (hl (sP h29 n30 22 (some (hN h28))) (fun h31 => gd (cn h31 9 && decide (al (hN h31) = 6)) (hl (nw h31) (fun h32 => nn (some a0) (fun n33 => gd (ck h32 n33 8) (hl (sP h32 n33 24 (some (hN h31))) (fun h34 => gd (cn h34 9 && decide (al (hN h34) = 6)) (hl (nw h34) (fun h35 => nn (some a0) (fun n36 => gd (ck h35 n36 8) (hl (sP h35 n36 25 (some (hN h34))) (fun h37 => gd (cn h37 9 && decide (al (hN h37) = 6)) (hl (nw h37) (fun h38 => nn (some a0) (fun n39 => gd (ck h38 n39 8) (hl (sP h38 n39 26 (some (hN h37))) (fun h40 => gd (cn h40 10 && decide (al (hN h40) = 2)) (hl (nw h40) (fun h41 => nn (some a0) (fun n42 => gd (ck h41 n42 8) (hl (sP h41 n42 28 (some (hN h40))) (fun h43 => gd (cn h43 9 && decide (al (hN h43) = 34)) (hl (nw h43) (fun h44 => nn (some a0) (fun n45 => gd (ck h44 n45 8) (hl (sP h44 n45 29 (some (hN h43))) (fun h46 => some ((), h46))))))))))))))))))))))))))))))))))))))))))))))))))))))))))))))))))))))))))))
set_option maxHeartbeats 4000000 in
set_option maxRecDepth 100000 in
theorem c_X10_init (g : GG) (l : Launch) (a0 : Nat) (h : HS) (o : Unit × HS) (hB : f_X10_init a0 h = some o) : Ct g l mX10_init [va_rf (some a0)] h (QV o) := by
  refine Ct.of2 (lv0 := [some (va_rf (some a0))]) (by decide +kernel) (by simp [lg_sl, rf_cat, cat_i, cat_l]) rfl ?_
  unfold f_X10_init at hB
  refine q_aload_n dX10_init_0 rfl rfl ?_
  refine q_objInit hB dX10_init_1 wd_728 wd_74 wd_75 (by decide) (Nat.le_of_ble_eq_true rfl) (fun hB => ?_)
  refine q_aload_n dX10_init_4 rfl rfl ?_
  refine q_iconst (v := 0) dX10_init_5 (by decide) ?_
  refine q_putI (j := 0) hB dX10_init_6 fc_8 (by decide) rfl wd_729 rfl (fun n2 hB => ?_)
  refine q_nm hB (fun h3 hB => ?_)
  refine q_aload_n dX10_init_9 rfl rfl ?_
  refine q_iconst (v := 1) dX10_init_10 (by decide) ?_
  refine q_putI (j := 1) hB dX10_init_11 fc_8 (by decide) rfl wd_730 rfl (fun n4 hB => ?_)
  refine q_nm hB (fun h5 hB => ?_)
  refine q_aload_n dX10_init_14 rfl rfl ?_
  refine q_iconst (v := 1) dX10_init_15 (by decide) ?_
  refine q_putI (j := 4) hB dX10_init_16 fc_8 (by decide) rfl wd_733 rfl (fun n6 hB => ?_)
  refine q_nm hB (fun h7 hB => ?_)
  refine q_aload_n dX10_init_19 rfl rfl ?_
  refine q_bipush (v := 32) dX10_init_20 (by decide) ?_
  refine q_newaI hB dX10_init_22 wd_90 (by decide) (by decide) (by decide) (by decide) (by decide) (fun hB => ?_)
  refine q_nm hB (fun h8 hB => ?_)
  refine q_putPF (j := 10) hB dX10_init_24 fc_8 (by decide) rfl wd_739 rfl rfl rfl (fun n9 hB => ?_)
  refine q_nm hB (fun h10 hB => ?_)
  refine q_aload_n dX10_init_27 rfl rfl ?_
  refine q_bipush (v := 34) dX10_init_28 (by decide) ?_
  refine q_newaI hB dX10_init_30 wd_90 (by decide) (by decide) (by decide) (by decide) (by decide) (fun hB => ?_)
  refine q_nm hB (fun h11 hB => ?_)
  refine q_putPF (j := 12) hB dX10_init_32 fc_8 (by decide) rfl wd_741 rfl rfl rfl (fun n12 hB => ?_)
  refine q_nm hB (fun h13 hB => ?_)
  refine q_aload_n dX10_init_35 rfl rfl ?_
  refine q_bipush (v := 17) dX10_init_36 (by decide) ?_
  refine q_newaI hB dX10_init_38 wd_90 (by decide) (by decide) (by decide) (by decide) (by decide) (fun hB => ?_)
  refine q_nm hB (fun h14 hB => ?_)
  refine q_putPF (j := 15) hB dX10_init_40 fc_8 (by decide) rfl wd_744 rfl rfl rfl (fun n15 hB => ?_)
  refine q_nm hB (fun h16 hB => ?_)
  refine q_aload_n dX10_init_43 rfl rfl ?_
  refine q_bipush (v := 17) dX10_init_44 (by decide) ?_
  refine q_newaI hB dX10_init_46 wd_90 (by decide) (by decide) (by decide) (by decide) (by decide) (fun hB => ?_)
  refine q_nm hB (fun h17 hB => ?_)
  refine q_putPF (j := 16) hB dX10_init_48 fc_8 (by decide) rfl wd_745 rfl rfl rfl (fun n18 hB => ?_)
  refine q_nm hB (fun h19 hB => ?_)
  refine q_aload_n dX10_init_51 rfl rfl ?_
  refine q_bipush (v := 21) dX10_init_52 (by decide) ?_
  refine q_newaI hB dX10_init_54 wd_90 (by decide) (by decide) (by decide) (by decide) (by decide) (fun hB => ?_)
  refine q_nm hB (fun h20 hB => ?_)
  refine q_putPF (j := 17) hB dX10_init_56 fc_8 (by decide) rfl wd_746 rfl rfl rfl (fun n21 hB => ?_)
  refine q_nm hB (fun h22 hB => ?_)
  refine q_aload_n dX10_init_59 rfl rfl ?_
  refine q_bipush (v := 21) dX10_init_60 (by decide) ?_
  refine q_newaI hB dX10_init_62 wd_90 (by decide) (by decide) (by decide) (by decide) (by decide) (fun hB => ?_)
  refine q_nm hB (fun h23 hB => ?_)
  refine q_putPF (j := 18) hB dX10_init_64 fc_8 (by decide) rfl wd_747 rfl rfl rfl (fun n24 hB => ?_)
  refine q_nm hB (fun h25 hB => ?_)
  refine q_aload_n dX10_init_67 rfl rfl ?_
  refine q_bipush (v := 21) dX10_init_68 (by decide) ?_
  refine q_newaI hB dX10_init_70 wd_90 (by decide) (by decide) (by decide) (by decide) (by decide) (fun hB => ?_)
  refine q_nm hB (fun h26 hB => ?_)
  refine q_putPF (j := 19) hB dX10_init_72 fc_8 (by decide) rfl wd_748 rfl rfl rfl (fun n27 hB => ?_)
  refine q_nm hB (fun h28 hB => ?_)
  refine q_aload_n dX10_init_75 rfl rfl ?_
  refine q_sipush (v := 238) dX10_init_76 (by decide) ?_
  refine q_newaI hB dX10_init_79 wd_90 (by decide) (by decide) (by decide) (by decide) (by decide) (fun hB => ?_)
  refine q_nm hB (fun h29 hB => ?_)
  refine q_putPF (j := 22) hB dX10_init_81 fc_8 (by decide) rfl wd_751 rfl rfl rfl (fun n30 hB => ?_)
  refine q_nm hB (fun h31 hB => ?_)
  refine q_aload_n dX10_init_84 rfl rfl ?_
  refine q_bipush (v := 6) dX10_init_85 (by decide) ?_
  refine q_newaI hB dX10_init_87 wd_90 (by decide) (by decide) (by decide) (by decide) (by decide) (fun hB => ?_)
  refine q_nm hB (fun h32 hB => ?_)
  refine q_putPF (j := 24) hB dX10_init_89 fc_8 (by decide) rfl wd_753 rfl rfl rfl (fun n33 hB => ?_)
  refine q_nm hB (fun h34 hB => ?_)
  refine q_aload_n dX10_init_92 rfl rfl ?_
  refine q_bipush (v := 6) dX10_init_93 (by decide) ?_
  refine q_newaI hB dX10_init_95 wd_90 (by decide) (by decide) (by decide) (by decide) (by decide) (fun hB => ?_)
  refine q_nm hB (fun h35 hB => ?_)
  refine q_putPF (j := 25) hB dX10_init_97 fc_8 (by decide) rfl wd_754 rfl rfl rfl (fun n36 hB => ?_)
  refine q_nm hB (fun h37 hB => ?_)
  refine q_aload_n dX10_init_100 rfl rfl ?_
  refine q_bipush (v := 6) dX10_init_101 (by decide) ?_
  refine q_newaI hB dX10_init_103 wd_90 (by decide) (by decide) (by decide) (by decide) (by decide) (fun hB => ?_)
  refine q_nm hB (fun h38 hB => ?_)
  refine q_putPF (j := 26) hB dX10_init_105 fc_8 (by decide) rfl wd_755 rfl rfl rfl (fun n39 hB => ?_)
  refine q_nm hB (fun h40 hB => ?_)
  refine q_aload_n dX10_init_108 rfl rfl ?_
  refine q_iconst (v := 2) dX10_init_109 (by decide) ?_
  refine q_newaZ hB dX10_init_110 wd_238 (by decide) (by decide) (by decide) (by decide) (by decide) (fun hB => ?_)
  refine q_nm hB (fun h41 hB => ?_)
  refine q_putPF (j := 28) hB dX10_init_112 fc_8 (by decide) rfl wd_757 rfl rfl rfl (fun n42 hB => ?_)
  refine q_nm hB (fun h43 hB => ?_)
  refine q_aload_n dX10_init_115 rfl rfl ?_
  refine q_bipush (v := 34) dX10_init_116 (by decide) ?_
  refine q_newaI hB dX10_init_118 wd_90 (by decide) (by decide) (by decide) (by decide) (by decide) (fun hB => ?_)
  refine q_nm hB (fun h44 hB => ?_)
  refine q_putPF (j := 29) hB dX10_init_120 fc_8 (by decide) rfl wd_758 rfl rfl rfl (fun n45 hB => ?_)
  refine q_nm hB (fun h46 hB => ?_)
  exact q_vret hB dX10_init_123 rfl (by decide) (by decide)

def b_X7_put_42  (a2 : Int32) (h : HS) : Option (Int32 × HS) :=
  gd (decide (narrow .boolean (.int a2) = .int a2)) (some (a2, h))
def b_X7_put_17  (a0 : Nat) (a1 : Int32) (s0 : Int32) (h : HS) : Option (Int32 × HS) :=
  (if s0 = 0 then b_X7_put_42 s0 h else nn (some a0) (fun n1 => gd (ck h n1 5) (nn (some a0) (fun n2 => gd (ck h n2 5) (nn (hP h n1 0) (fun n3 => gd (ca h n3 9 (hI h n2 1)) (hl (sI h n3 (hI h n2 1).toNatClampNeg a1) (fun h4 => nn (some a0) (fun n5 => gd (ck h4 n5 5) (nn (some a0) (fun n6 => gd (ck h4 n6 5) (hl (sI h4 n6 1 ((hI h4 n5 1) + (1 : Int32))) (fun h7 => b_X7_put_42 s0 h7)))))))))))))
def f_X7_put  (a0 : Nat) (a1 : Int32) (h : HS) : Option (Int32 × HS) :=
  nn (some a0) (fun n1 => gd (ck h n1 5) (nn (some a0) (fun n2 => gd (ck h n2 5) (nn (hP h n2 0) (fun n3 => gd (ck h n3 9) ((if (Int32.ofNat (al n3)) ≤ (hI h n1 1) then b_X7_put_17 a0 a1 (0 : Int32) h else b_X7_put_17 a0 a1 (1 : Int32) h)))))))
set_option maxHeartbeats 4000000 in
set_option maxRecDepth 100000 in
theorem wb_X7_put_42 (g : GG) (l : Launch) (a2 : Int32) (h : HS) (o : Int32 × HS) (hB : b_X7_put_42 a2 h = some o) : Wq g l mX7_put 0 0 42 [none, none, some (.int a2)] [] h (QI o) := by
  unfold b_X7_put_42 at hB
  refine q_iload_n dX7_put_42 rfl rfl ?_
  exact q_zret hB dX7_put_43 rfl (by decide) (by decide)
set_option maxHeartbeats 4000000 in
set_option maxRecDepth 100000 in
theorem wb_X7_put_17 (g : GG) (l : Launch) (a0 : Nat) (a1 : Int32) (s0 : Int32) (h : HS) (o : Int32 × HS) (hB : b_X7_put_17 a0 a1 s0 h = some o) : Wq g l mX7_put 0 0 17 [some (va_rf (some a0)), some (.int a1), none] [.int s0] h (QI o) := by
  unfold b_X7_put_17 at hB
  refine q_istore_n dX7_put_17 rfl (by decide) (nb_i (j := 1) rfl) ?_
  refine q_iload_n dX7_put_18 rfl rfl ?_
  refine q_if_eq (tgt := 42) hB dX7_put_19 (by decide) (fun hB => ?_) (fun hB => ?_)
  · exact Wq.mask [false, false, true] rfl (wb_X7_put_42 g l _ _ o hB)
  · refine q_aload_n dX7_put_22 rfl rfl ?_
    refine q_getP (j := 0) hB dX7_put_23 fc_5 (by decide) rfl wd_82 (fun n1 hB => ?_)
    refine q_aload_n dX7_put_26 rfl rfl ?_
    refine q_getI (j := 1) hB dX7_put_27 fc_5 (by decide) rfl wd_83 (fun n2 hB => ?_)
    refine q_iload_n dX7_put_30 rfl rfl ?_
    refine q_iast hB dX7_put_31 (fun n3 hB => ?_)
    refine q_nm hB (fun h4 hB => ?_)
    refine q_aload_n dX7_put_32 rfl rfl ?_
    refine q_dup dX7_put_33 (rf_cat _) ?_
    refine q_getI (j := 1) hB dX7_put_34 fc_5 (by decide) rfl wd_83 (fun n5 hB => ?_)
    refine q_iconst (v := 1) dX7_put_37 (by decide) ?_
    refine q_iadd dX7_put_38 ?_
    refine q_putI (j := 1) hB dX7_put_39 fc_5 (by decide) rfl wd_83 rfl (fun n6 hB => ?_)
    refine q_nm hB (fun h7 hB => ?_)
    exact Wq.mask [false, false, true] rfl (wb_X7_put_42 g l _ _ o hB)
set_option maxHeartbeats 4000000 in
set_option maxRecDepth 100000 in
theorem c_X7_put (g : GG) (l : Launch) (a0 : Nat) (a1 : Int32) (h : HS) (o : Int32 × HS) (hB : f_X7_put a0 a1 h = some o) : Ct g l mX7_put [va_rf (some a0), .int a1] h (QI o) := by
  refine Ct.of2 (lv0 := [some (va_rf (some a0)), some (.int a1), none]) (by decide +kernel) (by simp [lg_sl, rf_cat, cat_i, cat_l]) rfl ?_
  unfold f_X7_put at hB
  refine q_aload_n dX7_put_0 rfl rfl ?_
  refine q_getI (j := 1) hB dX7_put_1 fc_5 (by decide) rfl wd_83 (fun n1 hB => ?_)
  refine q_aload_n dX7_put_4 rfl rfl ?_
  refine q_getP (j := 0) hB dX7_put_5 fc_5 (by decide) rfl wd_82 (fun n2 hB => ?_)
  refine q_alenI hB dX7_put_8 (fun n3 hB => ?_)
  refine q_icmp_ge (tgt := 16) hB dX7_put_9 (by decide) (fun hB => ?_) (fun hB => ?_)
  · refine q_iconst (v := 0) dX7_put_16 (by decide) ?_
    exact Wq.mask [true, true, false] rfl (wb_X7_put_17 g l _ _ _ _ o hB)
  · refine q_iconst (v := 1) dX7_put_12 (by decide) ?_
    refine q_goto (tgt := 17) dX7_put_13 (by decide) ?_
    exact Wq.mask [true, true, false] rfl (wb_X7_put_17 g l _ _ _ _ o hB)

def b_X9_write_11  (h : HS) : Option (Int32 × HS) :=
  some ((-2 : Int32), h)
def b_X9_write_37  (s0 : Int32) (h : HS) : Option (Int32 × HS) :=
  some (s0, h)
def f_X9_write  (a0 : Nat) (a1 : Int32) (h : HS) : Option (Int32 × HS) :=
  (if a1 < 0 then b_X9_write_11 h else (if a1 ≤ (255 : Int32) then nn (some a0) (fun n1 => gd (ck h n1 7) (nn (hP h n1 0) (fun n3 => gd (rk h n3 5) (bd (f_X7_put n3 a1 h) (fun r2 => (if r2.1 = 0 then b_X9_write_37 (-4 : Int32) r2.2 else nn (some a0) (fun n4 => gd (ck r2.2 n4 7) (nn (hP r2.2 n4 0) (fun n5 => gd (ck r2.2 n5 5) (b_X9_write_37 (hI r2.2 n5 1) r2.2)))))))))) else b_X9_write_11 h))
set_option maxHeartbeats 4000000 in
set_option maxRecDepth 100000 in
theorem wb_X9_write_11 (g : GG) (l : Launch) (h : HS) (o : Int32 × HS) (hB : b_X9_write_11  h = some o) : Wq g l mX9_write 0 0 11 [none, none] [] h (QI o) := by
  unfold b_X9_write_11 at hB
  refine q_bipush (v := -2) dX9_write_11 (by decide) ?_
  exact q_iret hB dX9_write_13 rfl (by decide) (by decide)
set_option maxHeartbeats 4000000 in
set_option maxRecDepth 100000 in
theorem wb_X9_write_37 (g : GG) (l : Launch) (s0 : Int32) (h : HS) (o : Int32 × HS) (hB : b_X9_write_37 s0 h = some o) : Wq g l mX9_write 0 0 37 [none, none] [.int s0] h (QI o) := by
  unfold b_X9_write_37 at hB
  exact q_iret hB dX9_write_37 rfl (by decide) (by decide)
set_option maxHeartbeats 4000000 in
set_option maxRecDepth 100000 in
theorem c_X9_write (g : GG) (l : Launch) (a0 : Nat) (a1 : Int32) (h : HS) (o : Int32 × HS) (hB : f_X9_write a0 a1 h = some o) : Ct g l mX9_write [va_rf (some a0), .int a1] h (QI o) := by
  refine Ct.of2 (lv0 := [some (va_rf (some a0)), some (.int a1)]) (by decide +kernel) (by simp [lg_sl, rf_cat, cat_i, cat_l]) rfl ?_
  unfold f_X9_write at hB
  refine q_iload_n dX9_write_0 rfl rfl ?_
  refine q_if_lt (tgt := 11) hB dX9_write_1 (by decide) (fun hB => ?_) (fun hB => ?_)
  · exact Wq.mask [false, false] rfl (wb_X9_write_11 g l _ o hB)
  · refine q_iload_n dX9_write_4 rfl rfl ?_
    refine q_sipush (v := 255) dX9_write_5 (by decide) ?_
    refine q_icmp_le (tgt := 14) hB dX9_write_8 (by decide) (fun hB => ?_) (fun hB => ?_)
    · refine q_aload_n dX9_write_14 rfl rfl ?_
      refine q_getP (j := 0) hB dX9_write_15 fc_7 (by decide) rfl wd_240 (fun n1 hB => ?_)
      refine q_iload_n dX9_write_18 rfl rfl ?_
      refine q_callVI (k' := 0) (w' := 0) hB (fun b a hf => c_X7_put g l b _ _ a hf) rfl rfl dX9_write_19 wd_278 cs_X7_put wd_279 wd_280 rfl ⟨⟨Nat.le_of_ble_eq_true rfl, Nat.le_of_ble_eq_true rfl⟩, ⟨Nat.le_of_ble_eq_true rfl, Nat.le_of_ble_eq_true rfl⟩, Nat.le_of_ble_eq_true rfl⟩ rfl rfl (fun n3 r2 hB => ?_)
      refine q_if_eq (tgt := 35) hB dX9_write_22 (by decide) (fun hB => ?_) (fun hB => ?_)
      · refine q_bipush (v := -4) dX9_write_35 (by decide) ?_
        exact Wq.mask [false, false] rfl (wb_X9_write_37 g l _ _ o hB)
      · refine q_aload_n dX9_write_25 rfl rfl ?_
        refine q_getP (j := 0) hB dX9_write_26 fc_7 (by decide) rfl wd_240 (fun n4 hB => ?_)
        refine q_getI (j := 1) hB dX9_write_29 fc_5 (by decide) rfl wd_84 (fun n5 hB => ?_)
        refine q_goto (tgt := 37) dX9_write_32 (by decide) ?_
        exact Wq.mask [false, false] rfl (wb_X9_write_37 g l _ _ o hB)
    · exact Wq.mask [false, false] rfl (wb_X9_write_11 g l _ o hB)

def b_X10_in_18  (s0 : Int32) (h : HS) : Option (Int32 × HS) :=
  gd (decide (narrow .boolean (.int s0) = .int s0)) (some (s0, h))
def b_X10_in_17  (h : HS) : Option (Int32 × HS) :=
  b_X10_in_18 (0 : Int32) h
def f_X10_in  (a0 : Int64) (a2 : Int64) (a4 : Int64) (h : HS) : Option (Int32 × HS) :=
  (if (lg_cmp a0 a2) < 0 then b_X10_in_17 h else (if 0 < (lg_cmp a0 a4) then b_X10_in_17 h else b_X10_in_18 (1 : Int32) h))
set_option maxHeartbeats 4000000 in
set_option maxRecDepth 100000 in
theorem wb_X10_in_18 (g : GG) (l : Launch) (s0 : Int32) (h : HS) (o : Int32 × HS) (hB : b_X10_in_18 s0 h = some o) : Wq g l mX10_in 0 0 18 [none, none, none, none, none, none] [.int s0] h (QI o) := by
  unfold b_X10_in_18 at hB
  exact q_zret hB dX10_in_18 rfl (by decide) (by decide)
set_option maxHeartbeats 4000000 in
set_option maxRecDepth 100000 in
theorem wb_X10_in_17 (g : GG) (l : Launch) (h : HS) (o : Int32 × HS) (hB : b_X10_in_17  h = some o) : Wq g l mX10_in 0 0 17 [none, none, none, none, none, none] [] h (QI o) := by
  unfold b_X10_in_17 at hB
  refine q_iconst (v := 0) dX10_in_17 (by decide) ?_
  exact Wq.mask [false, false, false, false, false, false] rfl (wb_X10_in_18 g l _ _ o hB)
set_option maxHeartbeats 4000000 in
set_option maxRecDepth 100000 in
theorem c_X10_in (g : GG) (l : Launch) (a0 : Int64) (a2 : Int64) (a4 : Int64) (h : HS) (o : Int32 × HS) (hB : f_X10_in a0 a2 a4 h = some o) : Ct g l mX10_in [.long a0, .long a2, .long a4] h (QI o) := by
  refine Ct.of2 (lv0 := [some (.long a0), none, some (.long a2), none, some (.long a4), none]) (by decide +kernel) (by simp [lg_sl, rf_cat, cat_i, cat_l]) rfl ?_
  unfold f_X10_in at hB
  refine q_lload_n dX10_in_0 rfl rfl ?_
  refine q_lload_n dX10_in_1 rfl rfl ?_
  refine q_lcmp dX10_in_2 ?_
  refine q_if_lt (tgt := 17) hB dX10_in_3 (by decide) (fun hB => ?_) (fun hB => ?_)
  · exact Wq.mask [false, false, false, false, false, false] rfl (wb_X10_in_17 g l _ o hB)
  · refine q_lload_n dX10_in_6 rfl rfl ?_
    refine q_lload dX10_in_7 rfl ?_
    refine q_lcmp dX10_in_9 ?_
    refine q_if_gt (tgt := 17) hB dX10_in_10 (by decide) (fun hB => ?_) (fun hB => ?_)
    · exact Wq.mask [false, false, false, false, false, false] rfl (wb_X10_in_17 g l _ o hB)
    · refine q_iconst (v := 1) dX10_in_13 (by decide) ?_
      refine q_goto (tgt := 18) dX10_in_14 (by decide) ?_
      exact Wq.mask [false, false, false, false, false, false] rfl (wb_X10_in_18 g l _ _ o hB)

def f_X10_write  (a0 : Nat) (a1 : Int32) (h : HS) : Option (Int32 × HS) :=
  bd (f_X10_in a1.toInt64 (0 : Int64) (255 : Int64) h) (fun r1 => (if r1.1 = 0 then some ((-2 : Int32), r1.2) else nn (some a0) (fun n2 => gd (ck r1.2 n2 8) ((if (hI r1.2 n2 11) = (32 : Int32) then some ((-4 : Int32), r1.2) else nn (some a0) (fun n3 => gd (ck r1.2 n3 8) (nn (some a0) (fun n4 => gd (ck r1.2 n4 8) (nn (hP r1.2 n3 10) (fun n5 => gd (ca r1.2 n5 9 (hI r1.2 n4 11)) (hl (sI r1.2 n5 (hI r1.2 n4 11).toNatClampNeg a1) (fun h6 => nn (some a0) (fun n7 => gd (ck h6 n7 8) (nn (some a0) (fun n8 => gd (ck h6 n8 8) (hl (sI h6 n8 11 ((hI h6 n7 11) + (1 : Int32))) (fun h9 => nn (some a0) (fun n10 => gd (ck h9 n10 8) (some ((hI h9 n10 11), h9))))))))))))))))))))
set_option maxHeartbeats 4000000 in
set_option maxRecDepth 100000 in
theorem c_X10_write (g : GG) (l : Launch) (a0 : Nat) (a1 : Int32) (h : HS) (o : Int32 × HS) (hB : f_X10_write a0 a1 h = some o) : Ct g l mX10_write [va_rf (some a0), .int a1] h (QI o) := by
  refine Ct.of2 (lv0 := [some (va_rf (some a0)), some (.int a1)]) (by decide +kernel) (by simp [lg_sl, rf_cat, cat_i, cat_l]) rfl ?_
  unfold f_X10_write at hB
  refine q_iload_n dX10_write_0 rfl rfl ?_
  refine q_i2l dX10_write_1 ?_
  refine q_lconst (v := 0) dX10_write_2 (by decide) ?_
  refine q_ldc2 dX10_write_3 wd_824 ?_
  refine q_callSI (k' := 0) (w' := 0) hB (fun a hf => c_X10_in g l _ _ _ _ a hf) rfl dX10_write_6 wd_825 cs_X10_in wd_826 rfl ⟨⟨Nat.le_of_ble_eq_true rfl, Nat.le_of_ble_eq_true rfl⟩, ⟨Nat.le_of_ble_eq_true rfl, Nat.le_of_ble_eq_true rfl⟩, Nat.le_of_ble_eq_true rfl⟩ rfl rfl (fun r1 hB => ?_)
  refine q_if_ne (tgt := 15) hB dX10_write_9 (by decide) (fun hB => ?_) (fun hB => ?_)
  · refine q_aload_n dX10_write_15 rfl rfl ?_
    refine q_getI (j := 11) hB dX10_write_16 fc_8 (by decide) rfl wd_740 (fun n2 hB => ?_)
    refine q_bipush (v := 32) dX10_write_19 (by decide) ?_
    refine q_icmp_ne (tgt := 27) hB dX10_write_21 (by decide) (fun hB => ?_) (fun hB => ?_)
    · refine q_aload_n dX10_write_27 rfl rfl ?_
      refine q_getP (j := 10) hB dX10_write_28 fc_8 (by decide) rfl wd_739 (fun n3 hB => ?_)
      refine q_aload_n dX10_write_31 rfl rfl ?_
      refine q_getI (j := 11) hB dX10_write_32 fc_8 (by decide) rfl wd_740 (fun n4 hB => ?_)
      refine q_iload_n dX10_write_35 rfl rfl ?_
      refine q_iast hB dX10_write_36 (fun n5 hB => ?_)
      refine q_nm hB (fun h6 hB => ?_)
      refine q_aload_n dX10_write_37 rfl rfl ?_
      refine q_dup dX10_write_38 (rf_cat _) ?_
      refine q_getI (j := 11) hB dX10_write_39 fc_8 (by decide) rfl wd_740 (fun n7 hB => ?_)
      refine q_iconst (v := 1) dX10_write_42 (by decide) ?_
      refine q_iadd dX10_write_43 ?_
      refine q_putI (j := 11) hB dX10_write_44 fc_8 (by decide) rfl wd_740 rfl (fun n8 hB => ?_)
      refine q_nm hB (fun h9 hB => ?_)
      refine q_aload_n dX10_write_47 rfl rfl ?_
      refine q_getI (j := 11) hB dX10_write_48 fc_8 (by decide) rfl wd_740 (fun n10 hB => ?_)
      exact q_iret hB dX10_write_51 rfl (by decide) (by decide)
    · refine q_bipush (v := -4) dX10_write_24 (by decide) ?_
      exact q_iret hB dX10_write_26 rfl (by decide) (by decide)
  · refine q_bipush (v := -2) dX10_write_12 (by decide) ?_
    exact q_iret hB dX10_write_14 rfl (by decide) (by decide)

def f_X9_wipe  (a0 : Nat) (h : HS) : Option (Int32 × HS) :=
  nn (some a0) (fun n1 => gd (ck h n1 7) (nn (hP h n1 0) (fun n2 => gd (ck h n2 5) (nn (some a0) (fun n3 => gd (ck h n3 7) (nn (hP h n3 0) (fun n4 => gd (ck h n4 5) (some ((hI h n2 1), (sI h n4 1 (0 : Int32)))))))))))
set_option maxHeartbeats 4000000 in
set_option maxRecDepth 100000 in
theorem c_X9_wipe (g : GG) (l : Launch) (a0 : Nat) (h : HS) (o : Int32 × HS) (hB : f_X9_wipe a0 h = some o) : Ct g l mX9_wipe [va_rf (some a0)] h (QI o) := by
  refine Ct.of2 (lv0 := [some (va_rf (some a0)), none]) (by decide +kernel) (by simp [lg_sl, rf_cat, cat_i, cat_l]) rfl ?_
  unfold f_X9_wipe at hB
  refine q_aload_n dX9_wipe_0 rfl rfl ?_
  refine q_getP (j := 0) hB dX9_wipe_1 fc_7 (by decide) rfl wd_240 (fun n1 hB => ?_)
  refine q_getI (j := 1) hB dX9_wipe_4 fc_5 (by decide) rfl wd_84 (fun n2 hB => ?_)
  refine q_istore_n dX9_wipe_7 rfl (by decide) (nb_r (j := 0) rfl) ?_
  refine q_aload_n dX9_wipe_8 rfl rfl ?_
  refine q_getP (j := 0) hB dX9_wipe_9 fc_7 (by decide) rfl wd_240 (fun n3 hB => ?_)
  refine q_iconst (v := 0) dX9_wipe_12 (by decide) ?_
  refine q_putI (j := 1) hB dX9_wipe_13 fc_5 (by decide) rfl wd_84 rfl (fun n4 hB => ?_)
  refine q_iload_n dX9_wipe_16 rfl rfl ?_
  exact q_iret hB dX9_wipe_17 rfl (by decide) (by decide)

def f_X10_wipe  (a0 : Nat) (h : HS) : Option (Int32 × HS) :=
  nn (some a0) (fun n1 => gd (ck h n1 8) (nn (some a0) (fun n2 => gd (ck h n2 8) (some ((hI h n1 11), (sI h n2 11 (0 : Int32)))))))
set_option maxHeartbeats 4000000 in
set_option maxRecDepth 100000 in
theorem c_X10_wipe (g : GG) (l : Launch) (a0 : Nat) (h : HS) (o : Int32 × HS) (hB : f_X10_wipe a0 h = some o) : Ct g l mX10_wipe [va_rf (some a0)] h (QI o) := by
  refine Ct.of2 (lv0 := [some (va_rf (some a0)), none]) (by decide +kernel) (by simp [lg_sl, rf_cat, cat_i, cat_l]) rfl ?_
  unfold f_X10_wipe at hB
  refine q_aload_n dX10_wipe_0 rfl rfl ?_
  refine q_getI (j := 11) hB dX10_wipe_1 fc_8 (by decide) rfl wd_740 (fun n1 hB => ?_)
  refine q_istore_n dX10_wipe_4 rfl (by decide) (nb_r (j := 0) rfl) ?_
  refine q_aload_n dX10_wipe_5 rfl rfl ?_
  refine q_iconst (v := 0) dX10_wipe_6 (by decide) ?_
  refine q_putI (j := 11) hB dX10_wipe_7 fc_8 (by decide) rfl wd_740 rfl (fun n2 hB => ?_)
  refine q_iload_n dX10_wipe_10 rfl rfl ?_
  exact q_iret hB dX10_wipe_11 rfl (by decide) (by decide)

def b_X7_letterAt_22  (s0 : Int32) (h : HS) : Option (Int32 × HS) :=
  some (s0, h)
def b_X7_letterAt_21  (h : HS) : Option (Int32 × HS) :=
  b_X7_letterAt_22 (-1 : Int32) h
def f_X7_letterAt  (a0 : Nat) (a1 : Int32) (h : HS) : Option (Int32 × HS) :=
  (if a1 < 0 then b_X7_letterAt_21 h else nn (some a0) (fun n1 => gd (ck h n1 5) ((if (hI h n1 1) ≤ a1 then b_X7_letterAt_21 h else nn (some a0) (fun n2 => gd (ck h n2 5) (nn (hP h n2 0) (fun n3 => gd (ca h n3 9 a1) (b_X7_letterAt_22 (hI h n3 a1.toNatClampNeg) h))))))))
set_option maxHeartbeats 4000000 in
set_option maxRecDepth 100000 in
theorem wb_X7_letterAt_22 (g : GG) (l : Launch) (s0 : Int32) (h : HS) (o : Int32 × HS) (hB : b_X7_letterAt_22 s0 h = some o) : Wq g l mX7_letterAt 0 0 22 [none, none] [.int s0] h (QI o) := by
  unfold b_X7_letterAt_22 at hB
  exact q_iret hB dX7_letterAt_22 rfl (by decide) (by decide)
set_option maxHeartbeats 4000000 in
set_option maxRecDepth 100000 in
theorem wb_X7_letterAt_21 (g : GG) (l : Launch) (h : HS) (o : Int32 × HS) (hB : b_X7_letterAt_21  h = some o) : Wq g l mX7_letterAt 0 0 21 [none, none] [] h (QI o) := by
  unfold b_X7_letterAt_21 at hB
  refine q_iconst (v := -1) dX7_letterAt_21 (by decide) ?_
  exact Wq.mask [false, false] rfl (wb_X7_letterAt_22 g l _ _ o hB)
set_option maxHeartbeats 4000000 in
set_option maxRecDepth 100000 in
theorem c_X7_letterAt (g : GG) (l : Launch) (a0 : Nat) (a1 : Int32) (h : HS) (o : Int32 × HS) (hB : f_X7_letterAt a0 a1 h = some o) : Ct g l mX7_letterAt [va_rf (some a0), .int a1] h (QI o) := by
  refine Ct.of2 (lv0 := [some (va_rf (some a0)), some (.int a1)]) (by decide +kernel) (by simp [lg_sl, rf_cat, cat_i, cat_l]) rfl ?_
  unfold f_X7_letterAt at hB
  refine q_iload_n dX7_letterAt_0 rfl rfl ?_
  refine q_if_lt (tgt := 21) hB dX7_letterAt_1 (by decide) (fun hB => ?_) (fun hB => ?_)
  · exact Wq.mask [false, false] rfl (wb_X7_letterAt_21 g l _ o hB)
  · refine q_iload_n dX7_letterAt_4 rfl rfl ?_
    refine q_aload_n dX7_letterAt_5 rfl rfl ?_
    refine q_getI (j := 1) hB dX7_letterAt_6 fc_5 (by decide) rfl wd_83 (fun n1 hB => ?_)
    refine q_icmp_ge (tgt := 21) hB dX7_letterAt_9 (by decide) (fun hB => ?_) (fun hB => ?_)
    · exact Wq.mask [false, false] rfl (wb_X7_letterAt_21 g l _ o hB)
    · refine q_aload_n dX7_letterAt_12 rfl rfl ?_
      refine q_getP (j := 0) hB dX7_letterAt_13 fc_5 (by decide) rfl wd_82 (fun n2 hB => ?_)
      refine q_iload_n dX7_letterAt_16 rfl rfl ?_
      refine q_iald hB dX7_letterAt_17 (fun n3 hB => ?_)
      refine q_goto (tgt := 22) dX7_letterAt_18 (by decide) ?_
      exact Wq.mask [false, false] rfl (wb_X7_letterAt_22 g l _ _ o hB)

def b_X4_named_56  (h : HS) : Option (Option Nat × HS) :=
  some ((some 1003), h)
def b_X4_named_44  (h : HS) : Option (Option Nat × HS) :=
  some ((some 1000), h)
def b_X4_named_48  (h : HS) : Option (Option Nat × HS) :=
  some ((some 1001), h)
def b_X4_named_52  (h : HS) : Option (Option Nat × HS) :=
  some ((some 1002), h)
def b_X4_named_60  (h : HS) : Option (Option Nat × HS) :=
  some (none, h)
def f_X4_named  (a0 : Int32) (h : HS) : Option (Option Nat × HS) :=
  sw a0 [((45 : Int32), b_X4_named_56 h), ((97 : Int32), b_X4_named_44 h), ((98 : Int32), b_X4_named_48 h), ((118 : Int32), b_X4_named_52 h)] (b_X4_named_60 h)
set_option maxHeartbeats 4000000 in
set_option maxRecDepth 100000 in
theorem wb_X4_named_56 (g : GG) (l : Launch) (h : HS) (o : Option Nat × HS) (hB : b_X4_named_56  h = some o) : Wq g l mX4_named 0 0 56 [none] [] h (QP o) := by
  unfold b_X4_named_56 at hB
  refine q_static (v := va_rf (some 1003)) (fun s hK => z_F 3 (by decide) hK) dX4_named_56 wd_305 ?_
  exact q_aret hB dX4_named_59 rfl (by decide) (by decide)
set_option maxHeartbeats 4000000 in
set_option maxRecDepth 100000 in
theorem wb_X4_named_44 (g : GG) (l : Launch) (h : HS) (o : Option Nat × HS) (hB : b_X4_named_44  h = some o) : Wq g l mX4_named 0 0 44 [none] [] h (QP o) := by
  unfold b_X4_named_44 at hB
  refine q_static (v := va_rf (some 1000)) (fun s hK => z_F 0 (by decide) hK) dX4_named_44 wd_301 ?_
  exact q_aret hB dX4_named_47 rfl (by decide) (by decide)
set_option maxHeartbeats 4000000 in
set_option maxRecDepth 100000 in
theorem wb_X4_named_48 (g : GG) (l : Launch) (h : HS) (o : Option Nat × HS) (hB : b_X4_named_48  h = some o) : Wq g l mX4_named 0 0 48 [none] [] h (QP o) := by
  unfold b_X4_named_48 at hB
  refine q_static (v := va_rf (some 1001)) (fun s hK => z_F 1 (by decide) hK) dX4_named_48 wd_302 ?_
  exact q_aret hB dX4_named_51 rfl (by decide) (by decide)
set_option maxHeartbeats 4000000 in
set_option maxRecDepth 100000 in
theorem wb_X4_named_52 (g : GG) (l : Launch) (h : HS) (o : Option Nat × HS) (hB : b_X4_named_52  h = some o) : Wq g l mX4_named 0 0 52 [none] [] h (QP o) := by
  unfold b_X4_named_52 at hB
  refine q_static (v := va_rf (some 1002)) (fun s hK => z_F 2 (by decide) hK) dX4_named_52 wd_303 ?_
  exact q_aret hB dX4_named_55 rfl (by decide) (by decide)
set_option maxHeartbeats 4000000 in
set_option maxRecDepth 100000 in
theorem wb_X4_named_60 (g : GG) (l : Launch) (h : HS) (o : Option Nat × HS) (hB : b_X4_named_60  h = some o) : Wq g l mX4_named 0 0 60 [none] [] h (QP o) := by
  unfold b_X4_named_60 at hB
  refine q_null dX4_named_60 ?_
  exact q_aret hB dX4_named_61 rfl (by decide) (by decide)
set_option maxHeartbeats 4000000 in
set_option maxRecDepth 100000 in
theorem c_X4_named (g : GG) (l : Launch) (a0 : Int32) (h : HS) (o : Option Nat × HS) (hB : f_X4_named a0 h = some o) : Ct g l mX4_named [.int a0] h (QP o) := by
  refine Ct.of2 (lv0 := [some (.int a0)]) (by decide +kernel) (by simp [lg_sl, rf_cat, cat_i, cat_l]) rfl ?_
  unfold f_X4_named at hB
  refine q_iload_n dX4_named_0 rfl rfl ?_
  refine q_look (dt := 60) [56, 44, 48, 52] hB dX4_named_1 (by decide) rfl (by decide) (by decide) (fun hB => ?_) (fun i hi hB => ?_)
  · exact Wq.mask [false] rfl (wb_X4_named_60 g l _ o hB)
  · match i, hi, hB with
    | 0, _, hB =>
      simp only [List.map_cons, List.map_nil, List.getD_cons_zero, List.getD_cons_succ] at hB
      exact Wq.mask [false] rfl (wb_X4_named_56 g l _ o hB)
    | 1, _, hB =>
      simp only [List.map_cons, List.map_nil, List.getD_cons_zero, List.getD_cons_succ] at hB
      exact Wq.mask [false] rfl (wb_X4_named_44 g l _ o hB)
    | 2, _, hB =>
      simp only [List.map_cons, List.map_nil, List.getD_cons_zero, List.getD_cons_succ] at hB
      exact Wq.mask [false] rfl (wb_X4_named_48 g l _ o hB)
    | 3, _, hB =>
      simp only [List.map_cons, List.map_nil, List.getD_cons_zero, List.getD_cons_succ] at hB
      exact Wq.mask [false] rfl (wb_X4_named_52 g l _ o hB)
    | n + 4, hi, _ => exact absurd hi (by simp only [List.length_cons, List.length_nil]; omega)

def b_X5_startingWith_52  (h : HS) : Option (Option Nat × HS) :=
  some ((some 1010), h)
def b_X5_startingWith_68  (h : HS) : Option (Option Nat × HS) :=
  some ((some 1014), h)
def b_X5_startingWith_64  (h : HS) : Option (Option Nat × HS) :=
  some ((some 1013), h)
def b_X5_startingWith_60  (h : HS) : Option (Option Nat × HS) :=
  some ((some 1012), h)
def b_X5_startingWith_56  (h : HS) : Option (Option Nat × HS) :=
  some ((some 1011), h)
def b_X5_startingWith_72  (h : HS) : Option (Option Nat × HS) :=
  some (none, h)
def f_X5_startingWith  (a0 : Int32) (h : HS) : Option (Option Nat × HS) :=
  sw a0 [((99 : Int32), b_X5_startingWith_52 h), ((107 : Int32), b_X5_startingWith_68 h), ((108 : Int32), b_X5_startingWith_64 h), ((109 : Int32), b_X5_startingWith_60 h), ((115 : Int32), b_X5_startingWith_56 h)] (b_X5_startingWith_72 h)
set_option maxHeartbeats 4000000 in
set_option maxRecDepth 100000 in
theorem wb_X5_startingWith_52 (g : GG) (l : Launch) (h : HS) (o : Option Nat × HS) (hB : b_X5_startingWith_52  h = some o) : Wq g l mX5_startingWith 0 0 52 [none] [] h (QP o) := by
  unfold b_X5_startingWith_52 at hB
  refine q_static (v := va_rf (some 1010)) (fun s hK => z_M 0 (by decide) hK) dX5_startingWith_52 wd_311 ?_
  exact q_aret hB dX5_startingWith_55 rfl (by decide) (by decide)
set_option maxHeartbeats 4000000 in
set_option maxRecDepth 100000 in
theorem wb_X5_startingWith_68 (g : GG) (l : Launch) (h : HS) (o : Option Nat × HS) (hB : b_X5_startingWith_68  h = some o) : Wq g l mX5_startingWith 0 0 68 [none] [] h (QP o) := by
  unfold b_X5_startingWith_68 at hB
  refine q_static (v := va_rf (some 1014)) (fun s hK => z_M 4 (by decide) hK) dX5_startingWith_68 wd_318 ?_
  exact q_aret hB dX5_startingWith_71 rfl (by decide) (by decide)
set_option maxHeartbeats 4000000 in
set_option maxRecDepth 100000 in
theorem wb_X5_startingWith_64 (g : GG) (l : Launch) (h : HS) (o : Option Nat × HS) (hB : b_X5_startingWith_64  h = some o) : Wq g l mX5_startingWith 0 0 64 [none] [] h (QP o) := by
  unfold b_X5_startingWith_64 at hB
  refine q_static (v := va_rf (some 1013)) (fun s hK => z_M 3 (by decide) hK) dX5_startingWith_64 wd_316 ?_
  exact q_aret hB dX5_startingWith_67 rfl (by decide) (by decide)
set_option maxHeartbeats 4000000 in
set_option maxRecDepth 100000 in
theorem wb_X5_startingWith_60 (g : GG) (l : Launch) (h : HS) (o : Option Nat × HS) (hB : b_X5_startingWith_60  h = some o) : Wq g l mX5_startingWith 0 0 60 [none] [] h (QP o) := by
  unfold b_X5_startingWith_60 at hB
  refine q_static (v := va_rf (some 1012)) (fun s hK => z_M 2 (by decide) hK) dX5_startingWith_60 wd_314 ?_
  exact q_aret hB dX5_startingWith_63 rfl (by decide) (by decide)
set_option maxHeartbeats 4000000 in
set_option maxRecDepth 100000 in
theorem wb_X5_startingWith_56 (g : GG) (l : Launch) (h : HS) (o : Option Nat × HS) (hB : b_X5_startingWith_56  h = some o) : Wq g l mX5_startingWith 0 0 56 [none] [] h (QP o) := by
  unfold b_X5_startingWith_56 at hB
  refine q_static (v := va_rf (some 1011)) (fun s hK => z_M 1 (by decide) hK) dX5_startingWith_56 wd_312 ?_
  exact q_aret hB dX5_startingWith_59 rfl (by decide) (by decide)
set_option maxHeartbeats 4000000 in
set_option maxRecDepth 100000 in
theorem wb_X5_startingWith_72 (g : GG) (l : Launch) (h : HS) (o : Option Nat × HS) (hB : b_X5_startingWith_72  h = some o) : Wq g l mX5_startingWith 0 0 72 [none] [] h (QP o) := by
  unfold b_X5_startingWith_72 at hB
  refine q_null dX5_startingWith_72 ?_
  exact q_aret hB dX5_startingWith_73 rfl (by decide) (by decide)
set_option maxHeartbeats 4000000 in
set_option maxRecDepth 100000 in
theorem c_X5_startingWith (g : GG) (l : Launch) (a0 : Int32) (h : HS) (o : Option Nat × HS) (hB : f_X5_startingWith a0 h = some o) : Ct g l mX5_startingWith [.int a0] h (QP o) := by
  refine Ct.of2 (lv0 := [some (.int a0)]) (by decide +kernel) (by simp [lg_sl, rf_cat, cat_i, cat_l]) rfl ?_
  unfold f_X5_startingWith at hB
  refine q_iload_n dX5_startingWith_0 rfl rfl ?_
  refine q_look (dt := 72) [52, 68, 64, 60, 56] hB dX5_startingWith_1 (by decide) rfl (by decide) (by decide) (fun hB => ?_) (fun i hi hB => ?_)
  · exact Wq.mask [false] rfl (wb_X5_startingWith_72 g l _ o hB)
  · match i, hi, hB with
    | 0, _, hB =>
      simp only [List.map_cons, List.map_nil, List.getD_cons_zero, List.getD_cons_succ] at hB
      exact Wq.mask [false] rfl (wb_X5_startingWith_52 g l _ o hB)
    | 1, _, hB =>
      simp only [List.map_cons, List.map_nil, List.getD_cons_zero, List.getD_cons_succ] at hB
      exact Wq.mask [false] rfl (wb_X5_startingWith_68 g l _ o hB)
    | 2, _, hB =>
      simp only [List.map_cons, List.map_nil, List.getD_cons_zero, List.getD_cons_succ] at hB
      exact Wq.mask [false] rfl (wb_X5_startingWith_64 g l _ o hB)
    | 3, _, hB =>
      simp only [List.map_cons, List.map_nil, List.getD_cons_zero, List.getD_cons_succ] at hB
      exact Wq.mask [false] rfl (wb_X5_startingWith_60 g l _ o hB)
    | 4, _, hB =>
      simp only [List.map_cons, List.map_nil, List.getD_cons_zero, List.getD_cons_succ] at hB
      exact Wq.mask [false] rfl (wb_X5_startingWith_56 g l _ o hB)
    | n + 5, hi, _ => exact absurd hi (by simp only [List.length_cons, List.length_nil]; omega)

def b_J0_coder_7d493_14  (s0 : Int32) (h : HS) : Option (Int32 × HS) :=
  gd (decide (narrow .byte (.int s0) = .int s0)) (some (s0, h))
def f_J0_coder_7d493  (a0 : Nat) (h : HS) : Option (Int32 × HS) :=
  (if (1 : Int32) = 0 then b_J0_coder_7d493_14 (1 : Int32) h else nn (some a0) (fun n1 => gd (isS n1) (b_J0_coder_7d493_14 (0 : Int32) h)))
set_option maxHeartbeats 4000000 in
set_option maxRecDepth 100000 in
theorem wb_J0_coder_7d493_14 (g : GG) (l : Launch) (s0 : Int32) (h : HS) (o : Int32 × HS) (hB : b_J0_coder_7d493_14 s0 h = some o) : Wq g l mJ0_coder_7d493 0 0 14 [none] [.int s0] h (QI o) := by
  unfold b_J0_coder_7d493_14 at hB
  exact q_zret hB dJ0_coder_7d493_14 rfl (by decide) (by decide)
set_option maxHeartbeats 4000000 in
set_option maxRecDepth 100000 in
theorem c_J0_coder_7d493 (g : GG) (l : Launch) (a0 : Nat) (h : HS) (o : Int32 × HS) (hB : f_J0_coder_7d493 a0 h = some o) : Ct g l mJ0_coder_7d493 [va_rf (some a0)] h (QI o) := by
  refine Ct.of2 (lv0 := [some (va_rf (some a0))]) (by decide +kernel) (by simp [lg_sl, rf_cat, cat_i, cat_l]) rfl ?_
  unfold f_J0_coder_7d493 at hB
  refine q_static (v := .int (1 : Int32)) (fun s hK => z_C hK) dJ0_coder_7d493_0 wd_332 ?_
  refine q_if_eq (tgt := 13) hB dJ0_coder_7d493_3 (by decide) (fun hB => ?_) (fun hB => ?_)
  · refine q_iconst (v := 1) dJ0_coder_7d493_13 (by decide) ?_
    exact Wq.mask [false] rfl (wb_J0_coder_7d493_14 g l _ _ o hB)
  · refine q_aload_n dJ0_coder_7d493_6 rfl rfl ?_
    refine q_getSc hB dJ0_coder_7d493_7 wd_1090 (fun n1 hB => ?_)
    refine q_goto (tgt := 14) dJ0_coder_7d493_10 (by decide) ?_
    exact Wq.mask [false] rfl (wb_J0_coder_7d493_14 g l _ _ o hB)

def f_J0_length_8abf5  (a0 : Nat) (h : HS) : Option (Int32 × HS) :=
  nn (some a0) (fun n1 => gd (isS n1) (nn (some (n1 + 20)) (fun n2 => gd (isB n2) (nn (some a0) (fun n4 => gd (rk h n4 22) (bd (f_J0_coder_7d493 n4 h) (fun r3 => some (((Int32.ofNat (byL n2)) >>> (r3.1 &&& 31)), r3.2))))))))
set_option maxHeartbeats 4000000 in
set_option maxRecDepth 100000 in
theorem c_J0_length_8abf5 (g : GG) (l : Launch) (a0 : Nat) (h : HS) (o : Int32 × HS) (hB : f_J0_length_8abf5 a0 h = some o) : Ct g l mJ0_length_8abf5 [va_rf (some a0)] h (QI o) := by
  refine Ct.of2 (lv0 := [some (va_rf (some a0))]) (by decide +kernel) (by simp [lg_sl, rf_cat, cat_i, cat_l]) rfl ?_
  unfold f_J0_length_8abf5 at hB
  refine q_aload_n dJ0_length_8abf5_0 rfl rfl ?_
  refine q_getSv hB dJ0_length_8abf5_1 wd_1089 (fun n1 hB => ?_)
  refine q_alenB hB dJ0_length_8abf5_4 (fun n2 hB => ?_)
  refine q_aload_n dJ0_length_8abf5_5 rfl rfl ?_
  refine q_callVI (k' := 0) (w' := 0) hB (fun b a hf => c_J0_coder_7d493 g l b _ a hf) rfl rfl dJ0_length_8abf5_6 wd_328 cs_J0_coder_7d493 wd_329 wd_330 rfl ⟨⟨Nat.le_of_ble_eq_true rfl, Nat.le_of_ble_eq_true rfl⟩, ⟨Nat.le_of_ble_eq_true rfl, Nat.le_of_ble_eq_true rfl⟩, by simp [rf_cat, cat_i, cat_l]⟩ rfl rfl (fun n4 r3 hB => ?_)
  refine q_ishr dJ0_length_8abf5_9 ?_
  exact q_iret hB dJ0_length_8abf5_10 rfl (by decide) (by decide)

def b_J0_isLatin1_aae02_18  (s0 : Int32) (h : HS) : Option (Int32 × HS) :=
  gd (decide (narrow .boolean (.int s0) = .int s0)) (some (s0, h))
def b_J0_isLatin1_aae02_17  (h : HS) : Option (Int32 × HS) :=
  b_J0_isLatin1_aae02_18 (0 : Int32) h
def f_J0_isLatin1_aae02  (a0 : Nat) (h : HS) : Option (Int32 × HS) :=
  (if (1 : Int32) = 0 then b_J0_isLatin1_aae02_17 h else nn (some a0) (fun n1 => gd (isS n1) ((if (0 : Int32) = 0 then b_J0_isLatin1_aae02_18 (1 : Int32) h else b_J0_isLatin1_aae02_17 h))))
set_option maxHeartbeats 4000000 in
set_option maxRecDepth 100000 in
theorem wb_J0_isLatin1_aae02_18 (g : GG) (l : Launch) (s0 : Int32) (h : HS) (o : Int32 × HS) (hB : b_J0_isLatin1_aae02_18 s0 h = some o) : Wq g l mJ0_isLatin1_aae02 0 0 18 [none] [.int s0] h (QI o) := by
  unfold b_J0_isLatin1_aae02_18 at hB
  exact q_zret hB dJ0_isLatin1_aae02_18 rfl (by decide) (by decide)
set_option maxHeartbeats 4000000 in
set_option maxRecDepth 100000 in
theorem wb_J0_isLatin1_aae02_17 (g : GG) (l : Launch) (h : HS) (o : Int32 × HS) (hB : b_J0_isLatin1_aae02_17  h = some o) : Wq g l mJ0_isLatin1_aae02 0 0 17 [none] [] h (QI o) := by
  unfold b_J0_isLatin1_aae02_17 at hB
  refine q_iconst (v := 0) dJ0_isLatin1_aae02_17 (by decide) ?_
  exact Wq.mask [false] rfl (wb_J0_isLatin1_aae02_18 g l _ _ o hB)
set_option maxHeartbeats 4000000 in
set_option maxRecDepth 100000 in
theorem c_J0_isLatin1_aae02 (g : GG) (l : Launch) (a0 : Nat) (h : HS) (o : Int32 × HS) (hB : f_J0_isLatin1_aae02 a0 h = some o) : Ct g l mJ0_isLatin1_aae02 [va_rf (some a0)] h (QI o) := by
  refine Ct.of2 (lv0 := [some (va_rf (some a0))]) (by decide +kernel) (by simp [lg_sl, rf_cat, cat_i, cat_l]) rfl ?_
  unfold f_J0_isLatin1_aae02 at hB
  refine q_static (v := .int (1 : Int32)) (fun s hK => z_C hK) dJ0_isLatin1_aae02_0 wd_332 ?_
  refine q_if_eq (tgt := 17) hB dJ0_isLatin1_aae02_3 (by decide) (fun hB => ?_) (fun hB => ?_)
  · exact Wq.mask [false] rfl (wb_J0_isLatin1_aae02_17 g l _ o hB)
  · refine q_aload_n dJ0_isLatin1_aae02_6 rfl rfl ?_
    refine q_getSc hB dJ0_isLatin1_aae02_7 wd_1090 (fun n1 hB => ?_)
    refine q_if_ne (tgt := 17) hB dJ0_isLatin1_aae02_10 (by decide) (fun hB => ?_) (fun hB => ?_)
    · exact Wq.mask [false] rfl (wb_J0_isLatin1_aae02_17 g l _ o hB)
    · refine q_iconst (v := 1) dJ0_isLatin1_aae02_13 (by decide) ?_
      refine q_goto (tgt := 18) dJ0_isLatin1_aae02_14 (by decide) ?_
      exact Wq.mask [false] rfl (wb_J0_isLatin1_aae02_18 g l _ _ o hB)

def b_J3_checkIndex_8e157_9  (h : HS) : Option (Int32 × HS) :=
  none
def f_J3_checkIndex_8e157  (a0 : Int32) (a1 : Int32) (h : HS) : Option (Int32 × HS) :=
  (if a0 < 0 then b_J3_checkIndex_8e157_9 h else (if a0 < a1 then some (a0, h) else b_J3_checkIndex_8e157_9 h))
set_option maxHeartbeats 4000000 in
set_option maxRecDepth 100000 in
theorem wb_J3_checkIndex_8e157_9 (g : GG) (l : Launch) (h : HS) (o : Int32 × HS) (hB : b_J3_checkIndex_8e157_9  h = some o) : Wq g l mJ3_checkIndex_8e157 0 0 9 [none, none, none] [] h (QI o) := by
  unfold b_J3_checkIndex_8e157_9 at hB
  cases hB
set_option maxHeartbeats 4000000 in
set_option maxRecDepth 100000 in
theorem c_J3_checkIndex_8e157 (g : GG) (l : Launch) (a0 : Int32) (a1 : Int32) (a2 : Option Nat) (h : HS) (o : Int32 × HS) (hB : f_J3_checkIndex_8e157 a0 a1 h = some o) : Ct g l mJ3_checkIndex_8e157 [.int a0, .int a1, va_rf a2] h (QI o) := by
  refine Ct.of2 (lv0 := [some (.int a0), some (.int a1), some (va_rf a2)]) (by decide +kernel) (by simp [lg_sl, rf_cat, cat_i, cat_l]) (by simp only [entL_r, entL_i, entL_l]; rfl) ?_
  unfold f_J3_checkIndex_8e157 at hB
  refine q_iload_n dJ3_checkIndex_8e157_0 rfl rfl ?_
  refine q_if_lt (tgt := 9) hB dJ3_checkIndex_8e157_1 (by decide) (fun hB => ?_) (fun hB => ?_)
  · exact Wq.mask [false, false, false] rfl (wb_J3_checkIndex_8e157_9 g l _ o hB)
  · refine q_iload_n dJ3_checkIndex_8e157_4 rfl rfl ?_
    refine q_iload_n dJ3_checkIndex_8e157_5 rfl rfl ?_
    refine q_icmp_lt (tgt := 16) hB dJ3_checkIndex_8e157_6 (by decide) (fun hB => ?_) (fun hB => ?_)
    · refine q_iload_n dJ3_checkIndex_8e157_16 rfl rfl ?_
      exact q_iret hB dJ3_checkIndex_8e157_17 rfl (by decide) (by decide)
    · exact Wq.mask [false, false, false] rfl (wb_J3_checkIndex_8e157_9 g l _ o hB)

def f_J0_checkIndex_df160  (a0 : Int32) (a1 : Int32) (h : HS) : Option (Unit × HS) :=
  bd (f_J3_checkIndex_8e157 a0 a1 h) (fun r1 => some ((), r1.2))
set_option maxHeartbeats 4000000 in
set_option maxRecDepth 100000 in
theorem c_J0_checkIndex_df160 (g : GG) (l : Launch) (a0 : Int32) (a1 : Int32) (h : HS) (o : Unit × HS) (hB : f_J0_checkIndex_df160 a0 a1 h = some o) : Ct g l mJ0_checkIndex_df160 [.int a0, .int a1] h (QV o) := by
  refine Ct.of2 (lv0 := [some (.int a0), some (.int a1)]) (by decide +kernel) (by simp [lg_sl, rf_cat, cat_i, cat_l]) rfl ?_
  unfold f_J0_checkIndex_df160 at hB
  refine q_iload_n dJ0_checkIndex_df160_0 rfl rfl ?_
  refine q_iload_n dJ0_checkIndex_df160_1 rfl rfl ?_
  refine q_static (v := va_rf (gF g)) (fun s hK => z_P hK) dJ0_checkIndex_df160_2 wd_348 ?_
  refine q_callSI (k' := 0) (w' := 0) hB (fun a hf => c_J3_checkIndex_8e157 g l _ _ _ _ a hf) rfl dJ0_checkIndex_df160_5 wd_350 cs_J3_checkIndex_8e157 wd_351 rfl ⟨⟨Nat.le_of_ble_eq_true rfl, Nat.le_of_ble_eq_true rfl⟩, ⟨Nat.le_of_ble_eq_true rfl, Nat.le_of_ble_eq_true rfl⟩, Nat.le_of_ble_eq_true rfl⟩ rfl rfl (fun r1 hB => ?_)
  refine q_pop dJ0_checkIndex_df160_8 rfl ?_
  exact q_vret hB dJ0_checkIndex_df160_9 rfl (by decide) (by decide)

def f_J1_charAt_3b067  (a0 : Option Nat) (a1 : Int32) (h : HS) : Option (Int32 × HS) :=
  nn a0 (fun n1 => gd (isB n1) (bd (f_J0_checkIndex_df160 a1 (Int32.ofNat (byL n1)) h) (fun r2 => nn a0 (fun n3 => gd (isB n3 && inb a1 (byL n3)) (gd (decide (narrow .char (.int (((byV n3 a1.toNatClampNeg) &&& (255 : Int32)).toUInt32 % 65536).toInt32) = .int (((byV n3 a1.toNatClampNeg) &&& (255 : Int32)).toUInt32 % 65536).toInt32)) (some ((((byV n3 a1.toNatClampNeg) &&& (255 : Int32)).toUInt32 % 65536).toInt32, r2.2)))))))
set_option maxHeartbeats 4000000 in
set_option maxRecDepth 100000 in
theorem c_J1_charAt_3b067 (g : GG) (l : Launch) (a0 : Option Nat) (a1 : Int32) (h : HS) (o : Int32 × HS) (hB : f_J1_charAt_3b067 a0 a1 h = some o) : Ct g l mJ1_charAt_3b067 [va_rf a0, .int a1] h (QI o) := by
  refine Ct.of2 (lv0 := [some (va_rf a0), some (.int a1)]) (by decide +kernel) (by simp [lg_sl, rf_cat, cat_i, cat_l]) (by simp only [entL_r, entL_i, entL_l]; rfl) ?_
  unfold f_J1_charAt_3b067 at hB
  refine q_iload_n dJ1_charAt_3b067_0 rfl rfl ?_
  refine q_aload_n dJ1_charAt_3b067_1 rfl rfl ?_
  refine q_alenB hB dJ1_charAt_3b067_2 (fun n1 hB => ?_)
  refine q_callSV (k' := 0) (w' := 0) hB (fun a hf => c_J0_checkIndex_df160 g l _ _ _ a hf) rfl dJ1_charAt_3b067_3 wd_345 cs_J0_checkIndex_df160 wd_346 rfl ⟨⟨Nat.le_of_ble_eq_true rfl, Nat.le_of_ble_eq_true rfl⟩, ⟨Nat.le_of_ble_eq_true rfl, Nat.le_of_ble_eq_true rfl⟩, Nat.le_of_ble_eq_true rfl⟩ rfl rfl (fun r2 hB => ?_)
  refine q_aload_n dJ1_charAt_3b067_6 rfl rfl ?_
  refine q_iload_n dJ1_charAt_3b067_7 rfl rfl ?_
  refine q_bald hB dJ1_charAt_3b067_8 (fun n3 hB => ?_)
  refine q_sipush (v := 255) dJ1_charAt_3b067_9 (by decide) ?_
  refine q_iand dJ1_charAt_3b067_12 ?_
  refine q_i2c dJ1_charAt_3b067_13 ?_
  exact q_zret hB dJ1_charAt_3b067_14 rfl (by decide) (by decide)

def f_J0_charAt_5068e  (a0 : Nat) (a1 : Int32) (h : HS) : Option (Int32 × HS) :=
  nn (some a0) (fun n2 => gd (rk h n2 22) (bd (f_J0_isLatin1_aae02 n2 h) (fun r1 => (if r1.1 = 0 then none else nn (some a0) (fun n3 => gd (isS n3) (bd (f_J1_charAt_3b067 (some (n3 + 20)) a1 r1.2) (fun r4 => gd (decide (narrow .char (.int r4.1) = .int r4.1)) (some (r4.1, r4.2)))))))))
set_option maxHeartbeats 4000000 in
set_option maxRecDepth 100000 in
theorem c_J0_charAt_5068e (g : GG) (l : Launch) (a0 : Nat) (a1 : Int32) (h : HS) (o : Int32 × HS) (hB : f_J0_charAt_5068e a0 a1 h = some o) : Ct g l mJ0_charAt_5068e [va_rf (some a0), .int a1] h (QI o) := by
  refine Ct.of2 (lv0 := [some (va_rf (some a0)), some (.int a1)]) (by decide +kernel) (by simp [lg_sl, rf_cat, cat_i, cat_l]) rfl ?_
  unfold f_J0_charAt_5068e at hB
  refine q_aload_n dJ0_charAt_5068e_0 rfl rfl ?_
  refine q_callVI (k' := 0) (w' := 0) hB (fun b a hf => c_J0_isLatin1_aae02 g l b _ a hf) rfl rfl dJ0_charAt_5068e_1 wd_338 cs_J0_isLatin1_aae02 wd_339 wd_340 rfl ⟨⟨Nat.le_of_ble_eq_true rfl, Nat.le_of_ble_eq_true rfl⟩, ⟨Nat.le_of_ble_eq_true rfl, Nat.le_of_ble_eq_true rfl⟩, Nat.le_of_ble_eq_true rfl⟩ rfl rfl (fun n2 r1 hB => ?_)
  refine q_if_eq (tgt := 16) hB dJ0_charAt_5068e_4 (by decide) (fun hB => ?_) (fun hB => ?_)
  · cases hB
  · refine q_aload_n dJ0_charAt_5068e_7 rfl rfl ?_
    refine q_getSv hB dJ0_charAt_5068e_8 wd_1089 (fun n3 hB => ?_)
    refine q_iload_n dJ0_charAt_5068e_11 rfl rfl ?_
    refine q_callSI (k' := 0) (w' := 0) hB (fun a hf => c_J1_charAt_3b067 g l _ _ _ a hf) rfl dJ0_charAt_5068e_12 wd_342 cs_J1_charAt_3b067 wd_343 rfl ⟨⟨Nat.le_of_ble_eq_true rfl, Nat.le_of_ble_eq_true rfl⟩, ⟨Nat.le_of_ble_eq_true rfl, Nat.le_of_ble_eq_true rfl⟩, Nat.le_of_ble_eq_true rfl⟩ rfl rfl (fun r4 hB => ?_)
    exact q_zret hB dJ0_charAt_5068e_15 rfl (by decide) (by decide)

def b_X7_spelt_2  (k2 : Nat → Option Nat → Int32 → HS → Option (Int32 × HS)) (a0 : Nat) (a1 : Option Nat) (a2 : Int32) (h : HS) : Option (Int32 × HS) :=
  nn a1 (fun n2 => gd (rk h n2 22) (bd (f_J0_length_8abf5 n2 h) (fun r1 => (if r1.1 ≤ a2 then nn a1 (fun n4 => gd (rk r1.2 n4 22) (bd (f_J0_length_8abf5 n4 r1.2) (fun r3 => some (r3.1, r3.2)))) else nn (some a0) (fun n6 => gd (rk r1.2 n6 5) (bd (f_X7_letterAt n6 ((2 : Int32) + a2) r1.2) (fun r5 => nn a1 (fun n8 => gd (rk r5.2 n8 22) (bd (f_J0_charAt_5068e n8 a2 r5.2) (fun r7 => (if r5.1 = r7.1 then k2 a0 a1 (a2 + (1 : Int32)) r7.2 else some (a2, r7.2))))))))))))
def l_X7_spelt_2  : Nat → Nat → Option Nat → Int32 → HS → Option (Int32 × HS)
  | 0 => fun _ _ _ _ => none
  | n + 1 => b_X7_spelt_2 (l_X7_spelt_2 n)
def f_X7_spelt  (a0 : Nat) (a1 : Option Nat) (h : HS) : Option (Int32 × HS) :=
  l_X7_spelt_2 FU a0 a1 (0 : Int32) h
set_option maxHeartbeats 4000000 in
set_option maxRecDepth 100000 in
theorem wb_X7_spelt_2 (g : GG) (l : Launch) (k2 : Nat → Option Nat → Int32 → HS → Option (Int32 × HS)) (a0 : Nat) (a1 : Option Nat) (a2 : Int32) (h : HS) (o : Int32 × HS) (hB : b_X7_spelt_2 k2 a0 a1 a2 h = some o) (hk2 : ∀ (a0 : Nat) (a1 : Option Nat) (a2 : Int32) (h : HS), k2 a0 a1 a2 h = some o → Wq g l mX7_spelt 0 0 2 [some (va_rf (some a0)), some (va_rf a1), some (.int a2)] [] h (QI o)) : Wq g l mX7_spelt 0 0 2 [some (va_rf (some a0)), some (va_rf a1), some (.int a2)] [] h (QI o) := by
  unfold b_X7_spelt_2 at hB
  refine q_iload_n dX7_spelt_2 rfl rfl ?_
  refine q_aload_n dX7_spelt_3 rfl rfl ?_
  refine q_callVI (k' := 0) (w' := 0) hB (fun b a hf => c_J0_length_8abf5 g l b _ a hf) rfl rfl dX7_spelt_4 wd_324 cs_J0_length_8abf5 wd_325 wd_326 rfl ⟨⟨Nat.le_of_ble_eq_true rfl, Nat.le_of_ble_eq_true rfl⟩, ⟨Nat.le_of_ble_eq_true rfl, Nat.le_of_ble_eq_true rfl⟩, by simp [rf_cat, cat_i, cat_l]⟩ rfl rfl (fun n2 r1 hB => ?_)
  refine q_icmp_ge (tgt := 33) hB dX7_spelt_7 (by decide) (fun hB => ?_) (fun hB => ?_)
  · refine q_aload_n dX7_spelt_33 rfl rfl ?_
    refine q_callVI (k' := 0) (w' := 0) hB (fun b a hf => c_J0_length_8abf5 g l b _ a hf) rfl rfl dX7_spelt_34 wd_324 cs_J0_length_8abf5 wd_325 wd_326 rfl ⟨⟨Nat.le_of_ble_eq_true rfl, Nat.le_of_ble_eq_true rfl⟩, ⟨Nat.le_of_ble_eq_true rfl, Nat.le_of_ble_eq_true rfl⟩, Nat.le_of_ble_eq_true rfl⟩ rfl rfl (fun n4 r3 hB => ?_)
    exact q_iret hB dX7_spelt_37 rfl (by decide) (by decide)
  · refine q_aload_n dX7_spelt_10 rfl rfl ?_
    refine q_iconst (v := 2) dX7_spelt_11 (by decide) ?_
    refine q_iload_n dX7_spelt_12 rfl rfl ?_
    refine q_iadd dX7_spelt_13 ?_
    refine q_callVI (k' := 0) (w' := 0) hB (fun b a hf => c_X7_letterAt g l b _ _ a hf) rfl rfl dX7_spelt_14 wd_294 cs_X7_letterAt wd_296 wd_0 rfl ⟨⟨Nat.le_of_ble_eq_true rfl, Nat.le_of_ble_eq_true rfl⟩, ⟨Nat.le_of_ble_eq_true rfl, Nat.le_of_ble_eq_true rfl⟩, Nat.le_of_ble_eq_true rfl⟩ rfl rfl (fun n6 r5 hB => ?_)
    refine q_aload_n dX7_spelt_17 rfl rfl ?_
    refine q_iload_n dX7_spelt_18 rfl rfl ?_
    refine q_callVI (k' := 0) (w' := 0) hB (fun b a hf => c_J0_charAt_5068e g l b _ _ a hf) rfl rfl dX7_spelt_19 wd_334 cs_J0_charAt_5068e wd_335 wd_336 rfl ⟨⟨Nat.le_of_ble_eq_true rfl, Nat.le_of_ble_eq_true rfl⟩, ⟨Nat.le_of_ble_eq_true rfl, Nat.le_of_ble_eq_true rfl⟩, by simp [rf_cat, cat_i, cat_l]⟩ rfl rfl (fun n8 r7 hB => ?_)
    refine q_icmp_eq (tgt := 27) hB dX7_spelt_22 (by decide) (fun hB => ?_) (fun hB => ?_)
    · refine q_iinc dX7_spelt_27 rfl (show _ = (a2 + (1 : Int32)) from rfl) (by decide) (nb_r (j := 1) rfl) ?_
      refine q_goto (tgt := 2) dX7_spelt_30 (by decide) ?_
      exact Wq.mask [true, true, true] rfl (hk2 _ _ _ _ hB)
    · refine q_iload_n dX7_spelt_25 rfl rfl ?_
      exact q_iret hB dX7_spelt_26 rfl (by decide) (by decide)
set_option maxHeartbeats 4000000 in
theorem wl_X7_spelt_2 (g : GG) (l : Launch) (o : Int32 × HS) : ∀ (n : Nat) (a0 : Nat) (a1 : Option Nat) (a2 : Int32) (h : HS), l_X7_spelt_2 n a0 a1 a2 h = some o → Wq g l mX7_spelt 0 0 2 [some (va_rf (some a0)), some (va_rf a1), some (.int a2)] [] h (QI o) := by
  intro n
  induction n with
  | zero =>
    intro a0 a1 a2  h hB
    have q : (none : Option (Int32 × HS)) = some o := hB
    cases q
  | succ n ih =>
    intro a0 a1 a2  h hB
    exact wb_X7_spelt_2 g l (l_X7_spelt_2 n) a0 a1 a2 h o hB ih
set_option maxHeartbeats 4000000 in
set_option maxRecDepth 100000 in
theorem c_X7_spelt (g : GG) (l : Launch) (a0 : Nat) (a1 : Option Nat) (h : HS) (o : Int32 × HS) (hB : f_X7_spelt a0 a1 h = some o) : Ct g l mX7_spelt [va_rf (some a0), va_rf a1] h (QI o) := by
  refine Ct.of2 (lv0 := [some (va_rf (some a0)), some (va_rf a1), none]) (by decide +kernel) (by simp [lg_sl, rf_cat, cat_i, cat_l]) (by simp only [entL_r, entL_i, entL_l]; rfl) ?_
  unfold f_X7_spelt at hB
  refine q_iconst (v := 0) dX7_spelt_0 (by decide) ?_
  refine q_istore_n dX7_spelt_1 rfl (by decide) (nb_r (j := 1) rfl) ?_
  exact Wq.mask [true, true, true] rfl (wl_X7_spelt_2 g l o FU _ _ _ _ hB)

def b_X7_figureAt_26  (s0 : Int32) (h : HS) : Option (Int32 × HS) :=
  some (s0, h)
def b_X7_figureAt_25  (h : HS) : Option (Int32 × HS) :=
  b_X7_figureAt_26 (-1 : Int32) h
def f_X7_figureAt  (a0 : Nat) (a1 : Int32) (h : HS) : Option (Int32 × HS) :=
  nn (some a0) (fun n2 => gd (rk h n2 5) (bd (f_X7_letterAt n2 a1 h) (fun r1 => (if r1.1 < (48 : Int32) then b_X7_figureAt_25 r1.2 else (if (57 : Int32) < r1.1 then b_X7_figureAt_25 r1.2 else b_X7_figureAt_26 (r1.1 - (48 : Int32)) r1.2)))))
set_option maxHeartbeats 4000000 in
set_option maxRecDepth 100000 in
theorem wb_X7_figureAt_26 (g : GG) (l : Launch) (s0 : Int32) (h : HS) (o : Int32 × HS) (hB : b_X7_figureAt_26 s0 h = some o) : Wq g l mX7_figureAt 0 0 26 [none, none, none] [.int s0] h (QI o) := by
  unfold b_X7_figureAt_26 at hB
  exact q_iret hB dX7_figureAt_26 rfl (by decide) (by decide)
set_option maxHeartbeats 4000000 in
set_option maxRecDepth 100000 in
theorem wb_X7_figureAt_25 (g : GG) (l : Launch) (h : HS) (o : Int32 × HS) (hB : b_X7_figureAt_25  h = some o) : Wq g l mX7_figureAt 0 0 25 [none, none, none] [] h (QI o) := by
  unfold b_X7_figureAt_25 at hB
  refine q_iconst (v := -1) dX7_figureAt_25 (by decide) ?_
  exact Wq.mask [false, false, false] rfl (wb_X7_figureAt_26 g l _ _ o hB)
set_option maxHeartbeats 4000000 in
set_option maxRecDepth 100000 in
theorem c_X7_figureAt (g : GG) (l : Launch) (a0 : Nat) (a1 : Int32) (h : HS) (o : Int32 × HS) (hB : f_X7_figureAt a0 a1 h = some o) : Ct g l mX7_figureAt [va_rf (some a0), .int a1] h (QI o) := by
  refine Ct.of2 (lv0 := [some (va_rf (some a0)), some (.int a1), none]) (by decide +kernel) (by simp [lg_sl, rf_cat, cat_i, cat_l]) rfl ?_
  unfold f_X7_figureAt at hB
  refine q_aload_n dX7_figureAt_0 rfl rfl ?_
  refine q_iload_n dX7_figureAt_1 rfl rfl ?_
  refine q_callVI (k' := 0) (w' := 0) hB (fun b a hf => c_X7_letterAt g l b _ _ a hf) rfl rfl dX7_figureAt_2 wd_294 cs_X7_letterAt wd_296 wd_0 rfl ⟨⟨Nat.le_of_ble_eq_true rfl, Nat.le_of_ble_eq_true rfl⟩, ⟨Nat.le_of_ble_eq_true rfl, Nat.le_of_ble_eq_true rfl⟩, Nat.le_of_ble_eq_true rfl⟩ rfl rfl (fun n2 r1 hB => ?_)
  refine q_istore_n dX7_figureAt_5 rfl (by decide) (nb_i (j := 1) rfl) ?_
  refine q_iload_n dX7_figureAt_6 rfl rfl ?_
  refine q_bipush (v := 48) dX7_figureAt_7 (by decide) ?_
  refine q_icmp_lt (tgt := 25) hB dX7_figureAt_9 (by decide) (fun hB => ?_) (fun hB => ?_)
  · exact Wq.mask [false, false, false] rfl (wb_X7_figureAt_25 g l _ o hB)
  · refine q_iload_n dX7_figureAt_12 rfl rfl ?_
    refine q_bipush (v := 57) dX7_figureAt_13 (by decide) ?_
    refine q_icmp_gt (tgt := 25) hB dX7_figureAt_15 (by decide) (fun hB => ?_) (fun hB => ?_)
    · exact Wq.mask [false, false, false] rfl (wb_X7_figureAt_25 g l _ o hB)
    · refine q_iload_n dX7_figureAt_18 rfl rfl ?_
      refine q_bipush (v := 48) dX7_figureAt_19 (by decide) ?_
      refine q_isub dX7_figureAt_21 ?_
      refine q_goto (tgt := 26) dX7_figureAt_22 (by decide) ?_
      exact Wq.mask [false, false, false] rfl (wb_X7_figureAt_26 g l _ _ o hB)

def b_X7_readInto_20  (h : HS) : Option (Int32 × HS) :=
  some ((0 : Int32), h)
def b_X7_readInto_40  (h : HS) : Option (Int32 × HS) :=
  some ((1 : Int32), h)
def b_X7_readInto_98  (a5 : Int32) (h : HS) : Option (Int32 × HS) :=
  some (a5, h)
def b_X7_readInto_122  (a5 : Int32) (h : HS) : Option (Int32 × HS) :=
  some ((a5 + (1 : Int32)), h)
def f_X7_readInto  (a0 : Nat) (a1 : Option Nat) (h : HS) : Option (Int32 × HS) :=
  nn (some a0) (fun n2 => gd (rk h n2 5) (bd (f_X7_letterAt n2 (0 : Int32) h) (fun r1 => bd (f_X4_named r1.1 r1.2) (fun r3 => (if r3.1 = none then b_X7_readInto_20 r3.2 else gd (en1 r3.1 && en1 (some 1003) || en2 r3.1 && en2 (some 1003)) ((if r3.1 = (some 1003) then b_X7_readInto_20 r3.2 else nn (some a0) (fun n5 => gd (rk r3.2 n5 5) (bd (f_X7_letterAt n5 (1 : Int32) r3.2) (fun r4 => bd (f_X4_named r4.1 r4.2) (fun r6 => (if r6.1 = none then b_X7_readInto_40 r6.2 else gd (en1 r6.1 && en1 r3.1 || en2 r6.1 && en2 r3.1) ((if r6.1 = r3.1 then b_X7_readInto_40 r6.2 else nn (some a0) (fun n8 => gd (rk r6.2 n8 5) (bd (f_X7_letterAt n8 (2 : Int32) r6.2) (fun r7 => bd (f_X5_startingWith r7.1 r7.2) (fun r9 => (if r9.1 = none then some ((2 : Int32), r9.2) else nn r9.1 (fun n10 => gd (isM n10) (nn (some a0) (fun n12 => gd (rk r9.2 n12 5) (bd (f_X7_spelt n12 (some (n10 + 10)) r9.2) (fun r11 => nn r9.1 (fun n13 => gd (isM n13) (nn (some (n13 + 10)) (fun n15 => gd (rk r11.2 n15 22) (bd (f_J0_length_8abf5 n15 r11.2) (fun r14 => (if ((2 : Int32) + r11.1) < ((2 : Int32) + r14.1) then b_X7_readInto_98 ((2 : Int32) + r11.1) r14.2 else nn (some a0) (fun n17 => gd (rk r14.2 n17 5) (bd (f_X7_letterAt n17 ((2 : Int32) + r11.1) r14.2) (fun r16 => (if r16.1 = (46 : Int32) then nn (some a0) (fun n19 => gd (rk r16.2 n19 5) (bd (f_X7_figureAt n19 (((2 : Int32) + r11.1) + (1 : Int32)) r16.2) (fun r18 => (if r18.1 < 0 then b_X7_readInto_122 ((2 : Int32) + r11.1) r18.2 else (if r18.1 ≤ (4 : Int32) then nn (some a0) (fun n21 => gd (rk r18.2 n21 5) (bd (f_X7_figureAt n21 (((2 : Int32) + r11.1) + (2 : Int32)) r18.2) (fun r20 => (if (1 : Int32) ≤ r20.1 then nn (some a0) (fun n22 => gd (ck r20.2 n22 5) ((if (hI r20.2 n22 1) ≤ (((2 : Int32) + r11.1) + (3 : Int32)) then nn a1 (fun n23 => gd (ck r20.2 n23 4) (hl (sP r20.2 n23 0 r3.1) (fun h24 => nn a1 (fun n25 => gd (ck h24 n25 4) (hl (sP h24 n25 1 r6.1) (fun h26 => nn a1 (fun n27 => gd (ck h26 n27 4) (hl (sP h26 n27 2 r9.1) (fun h28 => nn a1 (fun n29 => gd (ck h28 n29 4) (hl (sI h28 n29 3 r18.1) (fun h30 => nn a1 (fun n31 => gd (ck h30 n31 4) (hl (sI h30 n31 4 r20.1) (fun h32 => some ((-9 : Int32), h32)))))))))))))))) else some ((((2 : Int32) + r11.1) + (3 : Int32)), r20.2)))) else some ((((2 : Int32) + r11.1) + (2 : Int32)), r20.2))))) else b_X7_readInto_122 ((2 : Int32) + r11.1) r18.2))))) else b_X7_readInto_98 ((2 : Int32) + r11.1) r16.2))))))))))))))))))))))))))))))))))
set_option maxHeartbeats 4000000 in
set_option maxRecDepth 100000 in
theorem wb_X7_readInto_20 (g : GG) (l : Launch) (h : HS) (o : Int32 × HS) (hB : b_X7_readInto_20  h = some o) : Wq g l mX7_readInto 0 0 20 [none, none, none, none, none, none, none, none] [] h (QI o) := by
  unfold b_X7_readInto_20 at hB
  refine q_iconst (v := 0) dX7_readInto_20 (by decide) ?_
  exact q_iret hB dX7_readInto_21 rfl (by decide) (by decide)
set_option maxHeartbeats 4000000 in
set_option maxRecDepth 100000 in
theorem wb_X7_readInto_40 (g : GG) (l : Launch) (h : HS) (o : Int32 × HS) (hB : b_X7_readInto_40  h = some o) : Wq g l mX7_readInto 0 0 40 [none, none, none, none, none, none, none, none] [] h (QI o) := by
  unfold b_X7_readInto_40 at hB
  refine q_iconst (v := 1) dX7_readInto_40 (by decide) ?_
  exact q_iret hB dX7_readInto_41 rfl (by decide) (by decide)
set_option maxHeartbeats 4000000 in
set_option maxRecDepth 100000 in
theorem wb_X7_readInto_98 (g : GG) (l : Launch) (a5 : Int32) (h : HS) (o : Int32 × HS) (hB : b_X7_readInto_98 a5 h = some o) : Wq g l mX7_readInto 0 0 98 [none, none, none, none, none, some (.int a5), none, none] [] h (QI o) := by
  unfold b_X7_readInto_98 at hB
  refine q_iload dX7_readInto_98 rfl ?_
  exact q_iret hB dX7_readInto_100 rfl (by decide) (by decide)
set_option maxHeartbeats 4000000 in
set_option maxRecDepth 100000 in
theorem wb_X7_readInto_122 (g : GG) (l : Launch) (a5 : Int32) (h : HS) (o : Int32 × HS) (hB : b_X7_readInto_122 a5 h = some o) : Wq g l mX7_readInto 0 0 122 [none, none, none, none, none, some (.int a5), none, none] [] h (QI o) := by
  unfold b_X7_readInto_122 at hB
  refine q_iload dX7_readInto_122 rfl ?_
  refine q_iconst (v := 1) dX7_readInto_124 (by decide) ?_
  refine q_iadd dX7_readInto_125 ?_
  exact q_iret hB dX7_readInto_126 rfl (by decide) (by decide)
set_option maxHeartbeats 4000000 in
set_option maxRecDepth 100000 in
theorem c_X7_readInto (g : GG) (l : Launch) (a0 : Nat) (a1 : Option Nat) (h : HS) (o : Int32 × HS) (hB : f_X7_readInto a0 a1 h = some o) : Ct g l mX7_readInto [va_rf (some a0), va_rf a1] h (QI o) := by
  refine Ct.of2 (lv0 := [some (va_rf (some a0)), some (va_rf a1), none, none, none, none, none, none]) (by decide +kernel) (by simp [lg_sl, rf_cat, cat_i, cat_l]) (by simp only [entL_r, entL_i, entL_l]; rfl) ?_
  unfold f_X7_readInto at hB
  refine q_aload_n dX7_readInto_0 rfl rfl ?_
  refine q_iconst (v := 0) dX7_readInto_1 (by decide) ?_
  refine q_callVI (k' := 0) (w' := 0) hB (fun b a hf => c_X7_letterAt g l b _ _ a hf) rfl rfl dX7_readInto_2 wd_294 cs_X7_letterAt wd_296 wd_0 rfl ⟨⟨Nat.le_of_ble_eq_true rfl, Nat.le_of_ble_eq_true rfl⟩, ⟨Nat.le_of_ble_eq_true rfl, Nat.le_of_ble_eq_true rfl⟩, Nat.le_of_ble_eq_true rfl⟩ rfl rfl (fun n2 r1 hB => ?_)
  refine q_callSP (k' := 0) (w' := 0) hB (fun a hf => c_X4_named g l _ _ a hf) rfl dX7_readInto_5 wd_298 cs_X4_named wd_299 rfl ⟨⟨Nat.le_of_ble_eq_true rfl, Nat.le_of_ble_eq_true rfl⟩, ⟨Nat.le_of_ble_eq_true rfl, Nat.le_of_ble_eq_true rfl⟩, Nat.le_of_ble_eq_true rfl⟩ rfl rfl (fun r3 hB => ?_)
  refine q_astore_n dX7_readInto_8 rfl (by decide) (nb_r (j := 1) rfl) ?_
  refine q_aload_n dX7_readInto_9 rfl rfl ?_
  refine q_ifnull (tgt := 20) hB dX7_readInto_10 (by decide) (fun hB => ?_) (fun hB => ?_)
  · exact Wq.mask [false, false, false, false, false, false, false, false] rfl (wb_X7_readInto_20 g l _ o hB)
  · refine q_aload_n dX7_readInto_13 rfl rfl ?_
    refine q_static (v := va_rf (some 1003)) (fun s hK => z_F 3 (by decide) hK) dX7_readInto_14 wd_307 ?_
    refine q_acmp_ne (tgt := 22) hB dX7_readInto_17 (by decide) (fun hB => ?_) (fun hB => ?_)
    · refine q_aload_n dX7_readInto_22 rfl rfl ?_
      refine q_iconst (v := 1) dX7_readInto_23 (by decide) ?_
      refine q_callVI (k' := 0) (w' := 0) hB (fun b a hf => c_X7_letterAt g l b _ _ a hf) rfl rfl dX7_readInto_24 wd_294 cs_X7_letterAt wd_296 wd_0 rfl ⟨⟨Nat.le_of_ble_eq_true rfl, Nat.le_of_ble_eq_true rfl⟩, ⟨Nat.le_of_ble_eq_true rfl, Nat.le_of_ble_eq_true rfl⟩, Nat.le_of_ble_eq_true rfl⟩ rfl rfl (fun n5 r4 hB => ?_)
      refine q_callSP (k' := 0) (w' := 0) hB (fun a hf => c_X4_named g l _ _ a hf) rfl dX7_readInto_27 wd_298 cs_X4_named wd_299 rfl ⟨⟨Nat.le_of_ble_eq_true rfl, Nat.le_of_ble_eq_true rfl⟩, ⟨Nat.le_of_ble_eq_true rfl, Nat.le_of_ble_eq_true rfl⟩, Nat.le_of_ble_eq_true rfl⟩ rfl rfl (fun r6 hB => ?_)
      refine q_astore_n dX7_readInto_30 rfl (by decide) (nb_r (j := 2) rfl) ?_
      refine q_aload_n dX7_readInto_31 rfl rfl ?_
      refine q_ifnull (tgt := 40) hB dX7_readInto_32 (by decide) (fun hB => ?_) (fun hB => ?_)
      · exact Wq.mask [false, false, false, false, false, false, false, false] rfl (wb_X7_readInto_40 g l _ o hB)
      · refine q_aload_n dX7_readInto_35 rfl rfl ?_
        refine q_aload_n dX7_readInto_36 rfl rfl ?_
        refine q_acmp_ne (tgt := 42) hB dX7_readInto_37 (by decide) (fun hB => ?_) (fun hB => ?_)
        · refine q_aload_n dX7_readInto_42 rfl rfl ?_
          refine q_iconst (v := 2) dX7_readInto_43 (by decide) ?_
          refine q_callVI (k' := 0) (w' := 0) hB (fun b a hf => c_X7_letterAt g l b _ _ a hf) rfl rfl dX7_readInto_44 wd_294 cs_X7_letterAt wd_296 wd_0 rfl ⟨⟨Nat.le_of_ble_eq_true rfl, Nat.le_of_ble_eq_true rfl⟩, ⟨Nat.le_of_ble_eq_true rfl, Nat.le_of_ble_eq_true rfl⟩, Nat.le_of_ble_eq_true rfl⟩ rfl rfl (fun n8 r7 hB => ?_)
          refine q_callSP (k' := 0) (w' := 0) hB (fun a hf => c_X5_startingWith g l _ _ a hf) rfl dX7_readInto_47 wd_308 cs_X5_startingWith wd_309 rfl ⟨⟨Nat.le_of_ble_eq_true rfl, Nat.le_of_ble_eq_true rfl⟩, ⟨Nat.le_of_ble_eq_true rfl, Nat.le_of_ble_eq_true rfl⟩, Nat.le_of_ble_eq_true rfl⟩ rfl rfl (fun r9 hB => ?_)
          refine q_astore dX7_readInto_50 (by decide) (nb_r (j := 3) rfl) ?_
          refine q_aload dX7_readInto_52 rfl ?_
          refine q_ifnonnull (tgt := 59) hB dX7_readInto_54 (by decide) (fun hB => ?_) (fun hB => ?_)
          · refine q_iconst (v := 2) dX7_readInto_59 (by decide) ?_
            refine q_aload_n dX7_readInto_60 rfl rfl ?_
            refine q_aload dX7_readInto_61 rfl ?_
            refine q_getW hB dX7_readInto_63 wd_1088 (fun n10 hB => ?_)
            refine q_callVI (k' := 0) (w' := 0) hB (fun b a hf => c_X7_spelt g l b _ _ a hf) rfl rfl dX7_readInto_66 wd_320 cs_X7_spelt wd_322 wd_1 rfl ⟨⟨Nat.le_of_ble_eq_true rfl, Nat.le_of_ble_eq_true rfl⟩, ⟨Nat.le_of_ble_eq_true rfl, Nat.le_of_ble_eq_true rfl⟩, by simp [rf_cat, cat_i, cat_l]⟩ rfl rfl (fun n12 r11 hB => ?_)
            refine q_iadd dX7_readInto_69 ?_
            refine q_istore dX7_readInto_70 (by decide) (nb_r (j := 4) rfl) ?_
            refine q_iload dX7_readInto_72 rfl ?_
            refine q_iconst (v := 2) dX7_readInto_74 (by decide) ?_
            refine q_aload dX7_readInto_75 rfl ?_
            refine q_getW hB dX7_readInto_77 wd_1088 (fun n13 hB => ?_)
            refine q_callVI (k' := 0) (w' := 0) hB (fun b a hf => c_J0_length_8abf5 g l b _ a hf) rfl rfl dX7_readInto_80 wd_324 cs_J0_length_8abf5 wd_325 wd_326 rfl ⟨⟨Nat.le_of_ble_eq_true rfl, Nat.le_of_ble_eq_true rfl⟩, ⟨Nat.le_of_ble_eq_true rfl, Nat.le_of_ble_eq_true rfl⟩, by simp [rf_cat, cat_i, cat_l]⟩ rfl rfl (fun n15 r14 hB => ?_)
            refine q_iadd dX7_readInto_83 ?_
            refine q_icmp_lt (tgt := 98) hB dX7_readInto_84 (by decide) (fun hB => ?_) (fun hB => ?_)
            · exact Wq.mask [false, false, false, false, false, true, false, false] rfl (wb_X7_readInto_98 g l _ _ o hB)
            · refine q_aload_n dX7_readInto_87 rfl rfl ?_
              refine q_iload dX7_readInto_88 rfl ?_
              refine q_callVI (k' := 0) (w' := 0) hB (fun b a hf => c_X7_letterAt g l b _ _ a hf) rfl rfl dX7_readInto_90 wd_294 cs_X7_letterAt wd_296 wd_0 rfl ⟨⟨Nat.le_of_ble_eq_true rfl, Nat.le_of_ble_eq_true rfl⟩, ⟨Nat.le_of_ble_eq_true rfl, Nat.le_of_ble_eq_true rfl⟩, Nat.le_of_ble_eq_true rfl⟩ rfl rfl (fun n17 r16 hB => ?_)
              refine q_bipush (v := 46) dX7_readInto_93 (by decide) ?_
              refine q_icmp_eq (tgt := 101) hB dX7_readInto_95 (by decide) (fun hB => ?_) (fun hB => ?_)
              · refine q_aload_n dX7_readInto_101 rfl rfl ?_
                refine q_iload dX7_readInto_102 rfl ?_
                refine q_iconst (v := 1) dX7_readInto_104 (by decide) ?_
                refine q_iadd dX7_readInto_105 ?_
                refine q_callVI (k' := 0) (w' := 0) hB (fun b a hf => c_X7_figureAt g l b _ _ a hf) rfl rfl dX7_readInto_106 wd_372 cs_X7_figureAt wd_374 wd_2 rfl ⟨⟨Nat.le_of_ble_eq_true rfl, Nat.le_of_ble_eq_true rfl⟩, ⟨Nat.le_of_ble_eq_true rfl, Nat.le_of_ble_eq_true rfl⟩, Nat.le_of_ble_eq_true rfl⟩ rfl rfl (fun n19 r18 hB => ?_)
                refine q_istore dX7_readInto_109 (by decide) (nb_i (j := 5) rfl) ?_
                refine q_iload dX7_readInto_111 rfl ?_
                refine q_if_lt (tgt := 122) hB dX7_readInto_113 (by decide) (fun hB => ?_) (fun hB => ?_)
                · exact Wq.mask [false, false, false, false, false, true, false, false] rfl (wb_X7_readInto_122 g l _ _ o hB)
                · refine q_iload dX7_readInto_116 rfl ?_
                  refine q_iconst (v := 4) dX7_readInto_118 (by decide) ?_
                  refine q_icmp_le (tgt := 127) hB dX7_readInto_119 (by decide) (fun hB => ?_) (fun hB => ?_)
                  · refine q_aload_n dX7_readInto_127 rfl rfl ?_
                    refine q_iload dX7_readInto_128 rfl ?_
                    refine q_iconst (v := 2) dX7_readInto_130 (by decide) ?_
                    refine q_iadd dX7_readInto_131 ?_
                    refine q_callVI (k' := 0) (w' := 0) hB (fun b a hf => c_X7_figureAt g l b _ _ a hf) rfl rfl dX7_readInto_132 wd_372 cs_X7_figureAt wd_374 wd_2 rfl ⟨⟨Nat.le_of_ble_eq_true rfl, Nat.le_of_ble_eq_true rfl⟩, ⟨Nat.le_of_ble_eq_true rfl, Nat.le_of_ble_eq_true rfl⟩, Nat.le_of_ble_eq_true rfl⟩ rfl rfl (fun n21 r20 hB => ?_)
                    refine q_istore dX7_readInto_135 (by decide) (nb_i (j := 6) rfl) ?_
                    refine q_iload dX7_readInto_137 rfl ?_
                    refine q_iconst (v := 1) dX7_readInto_139 (by decide) ?_
                    refine q_icmp_ge (tgt := 148) hB dX7_readInto_140 (by decide) (fun hB => ?_) (fun hB => ?_)
                    · refine q_aload_n dX7_readInto_148 rfl rfl ?_
                      refine q_getI (j := 1) hB dX7_readInto_149 fc_5 (by decide) rfl wd_83 (fun n22 hB => ?_)
                      refine q_iload dX7_readInto_152 rfl ?_
                      refine q_iconst (v := 3) dX7_readInto_154 (by decide) ?_
                      refine q_iadd dX7_readInto_155 ?_
                      refine q_icmp_le (tgt := 164) hB dX7_readInto_156 (by decide) (fun hB => ?_) (fun hB => ?_)
                      · refine q_aload_n dX7_readInto_164 rfl rfl ?_
                        refine q_aload_n dX7_readInto_165 rfl rfl ?_
                        refine q_putP (j := 0) hB dX7_readInto_166 fc_4 (by decide) rfl wd_104 rfl (fun n23 hB => ?_)
                        refine q_nm hB (fun h24 hB => ?_)
                        refine q_aload_n dX7_readInto_169 rfl rfl ?_
                        refine q_aload_n dX7_readInto_170 rfl rfl ?_
                        refine q_putP (j := 1) hB dX7_readInto_171 fc_4 (by decide) rfl wd_107 rfl (fun n25 hB => ?_)
                        refine q_nm hB (fun h26 hB => ?_)
                        refine q_aload_n dX7_readInto_174 rfl rfl ?_
                        refine q_aload dX7_readInto_175 rfl ?_
                        refine q_putP (j := 2) hB dX7_readInto_177 fc_4 (by decide) rfl wd_110 rfl (fun n27 hB => ?_)
                        refine q_nm hB (fun h28 hB => ?_)
                        refine q_aload_n dX7_readInto_180 rfl rfl ?_
                        refine q_iload dX7_readInto_181 rfl ?_
                        refine q_putI (j := 3) hB dX7_readInto_183 fc_4 (by decide) rfl wd_113 rfl (fun n29 hB => ?_)
                        refine q_nm hB (fun h30 hB => ?_)
                        refine q_aload_n dX7_readInto_186 rfl rfl ?_
                        refine q_iload dX7_readInto_187 rfl ?_
                        refine q_putI (j := 4) hB dX7_readInto_189 fc_4 (by decide) rfl wd_116 rfl (fun n31 hB => ?_)
                        refine q_nm hB (fun h32 hB => ?_)
                        refine q_bipush (v := -9) dX7_readInto_192 (by decide) ?_
                        exact q_iret hB dX7_readInto_194 rfl (by decide) (by decide)
                      · refine q_iload dX7_readInto_159 rfl ?_
                        refine q_iconst (v := 3) dX7_readInto_161 (by decide) ?_
                        refine q_iadd dX7_readInto_162 ?_
                        exact q_iret hB dX7_readInto_163 rfl (by decide) (by decide)
                    · refine q_iload dX7_readInto_143 rfl ?_
                      refine q_iconst (v := 2) dX7_readInto_145 (by decide) ?_
                      refine q_iadd dX7_readInto_146 ?_
                      exact q_iret hB dX7_readInto_147 rfl (by decide) (by decide)
                  · exact Wq.mask [false, false, false, false, false, true, false, false] rfl (wb_X7_readInto_122 g l _ _ o hB)
              · exact Wq.mask [false, false, false, false, false, true, false, false] rfl (wb_X7_readInto_98 g l _ _ o hB)
          · refine q_iconst (v := 2) dX7_readInto_57 (by decide) ?_
            exact q_iret hB dX7_readInto_58 rfl (by decide) (by decide)
        · exact Wq.mask [false, false, false, false, false, false, false, false] rfl (wb_X7_readInto_40 g l _ o hB)
    · exact Wq.mask [false, false, false, false, false, false, false, false] rfl (wb_X7_readInto_20 g l _ o hB)
