/-! PURE: the reference: reads of rows, blocks of seventeen numbers -/
theorem lg_lt0 (x y : Int64) : lg_cmp x y < 0 ↔ x < y := by
  unfold lg_cmp
  by_cases h1 : x > y
  · rw [if_pos h1]
    have : ¬ x < y := fun z => absurd (Int64.lt_trans z h1) (Int64.lt_irrefl)
    simp only [this, iff_false]
    decide
  · rw [if_neg h1]
    by_cases h2 : x = y
    · rw [if_pos h2, h2]
      have : ¬ y < y := Int64.lt_irrefl
      simp only [this, iff_false]
      decide
    · rw [if_neg h2]
      have : x < y := by
        rw [Int64.lt_iff_toInt_lt]
        have a1 : ¬ y.toInt < x.toInt := fun z => h1 (Int64.lt_iff_toInt_lt.mpr z)
        have a2 : ¬ x.toInt = y.toInt := fun z => h2 (Int64.toInt_inj.mp z)
        omega
      simp only [this, iff_true]
      decide
theorem lg_gt0 (x y : Int64) : 0 < lg_cmp x y ↔ y < x := by
  unfold lg_cmp
  by_cases h1 : x > y
  · rw [if_pos h1]
    have : y < x := h1
    simp only [this, iff_true]
    decide
  · rw [if_neg h1]
    have : ¬ y < x := h1
    simp only [this, iff_false]
    by_cases h2 : x = y
    · rw [if_pos h2]; decide
    · rw [if_neg h2]; decide
theorem s_X10_inJ (x lo hi : Int64) (h : HS) : f_X10_in x lo hi h = some (if lo.toInt ≤ x.toInt ∧ x.toInt ≤ hi.toInt then 1 else 0, h) := by
  unfold f_X10_in b_X10_in_17 b_X10_in_18
  simp only [lg_lt0, lg_gt0, z0, z1, gd_t, Int64.lt_iff_toInt_lt]
  by_cases h1 : x.toInt < lo.toInt
  · rw [if_pos h1, if_neg (by omega)]
  · rw [if_neg h1]
    by_cases h2 : hi.toInt < x.toInt
    · rw [if_pos h2, if_neg (by omega)]
    · rw [if_neg h2, if_pos (by omega)]
theorem s_X10_in (x : Int32) (lo hi : Int64) (h : HS) : f_X10_in x.toInt64 lo hi h = some (if lo.toInt ≤ x.toInt ∧ x.toInt ≤ hi.toInt then 1 else 0, h) := by
  rw [s_X10_inJ, Int32.toInt_toInt64]
section RD
variable {h : HS} {E : EL} {pl : PL} {R C : RW}
theorem s_X10_rowOf (hC : C10 h) (hR : MR h R) (hN : KN R) (x : Int32) : f_X10_rowOf 42 x h = some (so R x, h) := by
  obtain ⟨r1, r2, r3⟩ := hR
  have key : f_X10_rowOf 42 x h = some (fw (fun i s => (fun (s : Int32) (y : Nat × Int32) => if nI y.1 = x then s ||| y.2 else s) s (R.getD i (0, 0))) 0 R.length 0, h) := by
    unfold f_X10_rowOf
    refine it_up (fun n (s : Int32) k => l_X10_rowOf_4 n 42 x s (nI k) h) R.length _ (fun s => some (s, h)) (fun _ _ => True) ?_ ?_ R.length FU 0 0 (by omega) (by have := FU_gt; omega) trivial
    · intro fu s k hk _
      refine ⟨?_, trivial⟩
      have hca1 : ca h 45 9 (nI k) = true := ca_nI hC.1.2.2.2.1 (by rw [al45]; omega) (by rw [al45]; omega)
      have hca2 : ca h 46 9 (nI k) = true := ca_nI hC.1.2.2.2.2.1 (by rw [al46]; omega) (by rw [al46]; omega)
      show b_X10_rowOf_4 (l_X10_rowOf_4 fu) 42 x s (nI k) h = _
      unfold b_X10_rowOf_4 b_X10_rowOf_33
      simp only [nn_s, hC.1.1, gd_t, r2]
      rw [ite_le (by omega) (by omega), if_neg (by omega)]
      simp only [hC.2.2.2.1, hC.2.2.2.2.1, nn_s, hca1, hca2, gd_t, nI_clamp (show k < 2 ^ 31 by omega), (r3 k hk).1, (r3 k hk).2, nI_1, or_0]
      show (if nI (gk R k) = x then _ else _) = l_X10_rowOf_4 fu 42 x (if nI (gk R k) = x then s ||| gs R k else s) _ _
      split <;> rfl
    · intro fu s _
      show b_X10_rowOf_4 (l_X10_rowOf_4 fu) 42 x s (nI R.length) h = _
      unfold b_X10_rowOf_4
      simp only [nn_s, hC.1.1, gd_t, r2]
      rw [ite_le (by omega) (by omega), if_pos (by omega)]
  rw [key, fw_list (fun (s : Int32) (y : Nat × Int32) => if nI y.1 = x then s ||| y.2 else s), so_fold R x 0 hN]
  congr 2
  refine b_ext (fun i _ => ?_)
  rw [b_or, b_0, Bool.false_or]
theorem s_X10_columnOf (hC : C10 h) (hR : MK h R) (hN : KN R) (x : Int32) : f_X10_columnOf 42 x h = some (so R x, h) := by
  obtain ⟨r1, r2, r3⟩ := hR
  have key : f_X10_columnOf 42 x h = some (fw (fun i s => (fun (s : Int32) (y : Nat × Int32) => if nI y.1 = x then s ||| y.2 else s) s (R.getD i (0, 0))) 0 R.length 0, h) := by
    unfold f_X10_columnOf
    refine it_up (fun n (s : Int32) k => l_X10_columnOf_4 n 42 x s (nI k) h) R.length _ (fun s => some (s, h)) (fun _ _ => True) ?_ ?_ R.length FU 0 0 (by omega) (by have := FU_gt; omega) trivial
    · intro fu s k hk _
      refine ⟨?_, trivial⟩
      have hca1 : ca h 47 9 (nI k) = true := ca_nI hC.1.2.2.2.2.2.1 (by rw [al47]; omega) (by rw [al47]; omega)
      have hca2 : ca h 48 9 (nI k) = true := ca_nI hC.1.2.2.2.2.2.2.1 (by rw [al48]; omega) (by rw [al48]; omega)
      show b_X10_columnOf_4 (l_X10_columnOf_4 fu) 42 x s (nI k) h = _
      unfold b_X10_columnOf_4 b_X10_columnOf_33
      simp only [nn_s, hC.1.1, gd_t, r2]
      rw [ite_le (by omega) (by omega), if_neg (by omega)]
      simp only [hC.2.2.2.2.2.1, hC.2.2.2.2.2.2.1, nn_s, hca1, hca2, gd_t, nI_clamp (show k < 2 ^ 31 by omega), (r3 k hk).1, (r3 k hk).2, nI_1, or_0]
      show (if nI (gk R k) = x then _ else _) = l_X10_columnOf_4 fu 42 x (if nI (gk R k) = x then s ||| gs R k else s) _ _
      split <;> rfl
    · intro fu s _
      show b_X10_columnOf_4 (l_X10_columnOf_4 fu) 42 x s (nI R.length) h = _
      unfold b_X10_columnOf_4
      simp only [nn_s, hC.1.1, gd_t, r2]
      rw [ite_le (by omega) (by omega), if_pos (by omega)]
  rw [key, fw_list (fun (s : Int32) (y : Nat × Int32) => if nI y.1 = x then s ||| y.2 else s), so_fold R x 0 hN]
  congr 2
  refine b_ext (fun i _ => ?_)
  rw [b_or, b_0, Bool.false_or]
theorem s_X10_rowKeyOf (hC : C10 h) (hR : MR h R) (hD : DJ R) {e : Nat} (he : e < 32) : f_X10_rowKeyOf 42 (nI e) h = some (ko R e, h) := by
  obtain ⟨r1, r2, r3⟩ := hR
  have key : f_X10_rowKeyOf 42 (nI e) h = some (fw (fun i s => (fun (s : Int32) (y : Nat × Int32) => if bt y.2 e = true then nI y.1 else s) s (R.getD i (0, 0))) 0 R.length (-9), h) := by
    unfold f_X10_rowKeyOf
    refine it_up (fun n (s : Int32) k => l_X10_rowKeyOf_5 n 42 (nI e) s (nI k) h) R.length _ (fun s => some (s, h)) (fun _ _ => True) ?_ ?_ R.length FU (-9) 0 (by omega) (by have := FU_gt; omega) trivial
    · intro fu s k hk _
      refine ⟨?_, trivial⟩
      have hca1 : ca h 45 9 (nI k) = true := ca_nI hC.1.2.2.2.1 (by rw [al45]; omega) (by rw [al45]; omega)
      have hca2 : ca h 46 9 (nI k) = true := ca_nI hC.1.2.2.2.2.1 (by rw [al46]; omega) (by rw [al46]; omega)
      show b_X10_rowKeyOf_5 (l_X10_rowKeyOf_5 fu) 42 (nI e) s (nI k) h = _
      unfold b_X10_rowKeyOf_5 b_X10_rowKeyOf_36
      simp only [nn_s, hC.1.1, gd_t, r2]
      rw [ite_le (by omega) (by omega), if_neg (by omega)]
      simp only [hC.1.1, hC.2.2.2.1, hC.2.2.2.2.1, nn_s, hca1, hca2, gd_t, nI_clamp (show k < 2 ^ 31 by omega), (r3 k hk).1, (r3 k hk).2, nI_1, s_X10_has _ he, bd_s]
      show _ = l_X10_rowKeyOf_5 fu 42 (nI e) (if bt (gs R k) e = true then nI (gk R k) else s) _ _
      by_cases q : bt (gs R k) e = true
      · simp [q]
      · simp [q]
    · intro fu s _
      show b_X10_rowKeyOf_5 (l_X10_rowKeyOf_5 fu) 42 (nI e) s (nI R.length) h = _
      unfold b_X10_rowKeyOf_5
      simp only [nn_s, hC.1.1, gd_t, r2]
      rw [ite_le (by omega) (by omega), if_pos (by omega)]
  rw [key, fw_list (fun (s : Int32) (y : Nat × Int32) => if bt y.2 e = true then nI y.1 else s), ko_fold e R _ hD]
  congr 2
  split
  · rfl
  · next q => exact (ko_none e R q).symm
theorem un_SB {n : Nat} (hS : ∀ y, y ∈ R → SB n y.2) (places : Int32) : SB n (un R places) := by
  have : ∀ i, n ≤ i → ∀ (d k : Nat) (s : Int32), k + d = R.length → bt s i = false → bt (fw (fun i s => if bt places i = true then s ||| gs R i else s) k d s) i = false := by
    intro i hi d
    induction d with
    | zero => intro k s _ hs; exact hs
    | succ d ih =>
      intro k s hk hs
      refine ih (k + 1) _ (by omega) ?_
      show bt (if bt places k = true then s ||| gs R k else s) i = false
      have hm : SB n (gs R k) := by
        have hk2 : k < R.length := by omega
        have : gs R k = R[k].2 := by simp [gs, List.getD_eq_getElem?_getD, hk2]
        rw [this]
        exact hS _ (List.getElem_mem hk2)
      split
      · rw [b_or, hs, hm i hi]; rfl
      · exact hs
  intro i hi
  exact this i hi R.length 0 0 (by omega) (b_0 i)
theorem s_X10_measureBy (hC : C10 h) (hM : MV h 0 E) (hP : MP h pl) (hV : PV pl) (hR : MR h R) (hS : ∀ y, y ∈ R → SB E.length y.2) (places : Int32) : f_X10_measureBy 42 places h = some (mL pl.2.2.1 (sel E (un R places)), h) := by
  obtain ⟨r1, r2, r3⟩ := hR
  have hn := hM.1.1
  unfold f_X10_measureBy
  refine it_up (fun n (s : Int32) k => l_X10_measureBy_4 n 42 places s (nI k) h) R.length (fun i s => if bt places i = true then s ||| gs R i else s) (fun s => some (mL pl.2.2.1 (sel E s), h)) (fun k s => SB E.length s) ?_ ?_ R.length FU 0 0 (by omega) (by have := FU_gt; omega) (fun i _ => b_0 i)
  · intro fu s k hk hs
    refine ⟨?_, ?_⟩
    · have hca2 : ca h 46 9 (nI k) = true := ca_nI hC.1.2.2.2.2.1 (by rw [al46]; omega) (by rw [al46]; omega)
      show b_X10_measureBy_4 (l_X10_measureBy_4 fu) 42 places s (nI k) h = _
      unfold b_X10_measureBy_4 b_X10_measureBy_31
      simp only [nn_s, hC.1.1, gd_t, r2]
      rw [ite_le (by omega) (by omega), if_neg (by omega)]
      simp only [hC.1.1, hC.2.2.2.2.1, nn_s, hca2, gd_t, nI_clamp (show k < 2 ^ 31 by omega), (r3 k hk).2, nI_1, s_X10_has places (show k < 32 by omega), bd_s, or_0]
      by_cases q : bt places k = true
      · simp [q]
      · simp [q]
    · have hm : SB E.length (gs R k) := by
        have : gs R k = R[k].2 := by simp [gs, List.getD_eq_getElem?_getD, hk]
        rw [this]
        exact hS _ (List.getElem_mem hk)
      intro i hi
      split
      · rw [b_or, hs i hi, hm i hi]; rfl
      · exact hs i hi
  · intro fu s hs
    show b_X10_measureBy_4 (l_X10_measureBy_4 fu) 42 places s (nI R.length) h = _
    unfold b_X10_measureBy_4
    simp only [nn_s, hC.1.1, gd_t, r2]
    rw [ite_le (by omega) (by omega), if_pos (by omega)]
    have hm := s_X10_measureOf hC (lv := 0) (by omega) hM (me := pl.2.2.1) hV.2.2.1 hP.2.2.1 hs
    rw [show nI 0 = 0 from rfl] at hm
    simp only [rk8, hC.1.1, gd_t, hm, bd_s]
def nz (x : Int32) : Int32 := if x = -9 then 0 else x
theorem s_X10_worthBy (hC : C10 h) (hM : MV h 0 E) (hP : MP h pl) (hV : PV pl) (hR : MR h R) (hS : ∀ y, y ∈ R → SB E.length y.2) (places : Int32) : f_X10_worthBy 42 places h = some (nz (mL pl.2.2.1 (sel E (un R places))), h) := by
  unfold f_X10_worthBy b_X10_worthBy_17
  simp only [nn_s, rk8, hC.1.1, gd_t, s_X10_measureBy hC hM hP hV hR hS, bd_s, nz]
  split <;> rfl
theorem s_X10_filledCells (hC : C10 h) (hR : MR h R) (hK : MK h C) : f_X10_filledCells 42 h = some (mt R C, h) := by
  obtain ⟨r1, r2, r3⟩ := hR
  obtain ⟨c1, c2, c3⟩ := hK
  unfold f_X10_filledCells
  refine it_up (fun n (s : Int32) k => l_X10_filledCells_4 n 42 s (nI k) h) R.length (fun i s => fw (fun j s => if gs R i &&& gs C j = 0 then s else s + 1) 0 C.length s) (fun s => some (s, h)) (fun _ _ => True) ?_ ?_ R.length FU 0 0 (by omega) (by have := FU_gt; omega) trivial
  · intro fu s k hk _
    refine ⟨?_, trivial⟩
    have hca2 : ca h 46 9 (nI k) = true := ca_nI hC.1.2.2.2.2.1 (by rw [al46]; omega) (by rw [al46]; omega)
    show b_X10_filledCells_4 (l_X10_filledCells_4 fu) 42 s (nI k) h = _
    unfold b_X10_filledCells_4
    simp only [nn_s, hC.1.1, gd_t, r2]
    rw [ite_le (by omega) (by omega), if_neg (by omega)]
    refine it_up (fun n (s : Int32) j => l_X10_filledCells_14 (l_X10_filledCells_4 fu) n 42 s (nI k) (nI j) h) C.length (fun j s => if gs R k &&& gs C j = 0 then s else s + 1) (fun s => l_X10_filledCells_4 fu 42 s (nI (k + 1)) h) (fun _ _ => True) ?_ ?_ C.length FU s 0 (by omega) (by have := FU_gt; omega) trivial
    · intro fu2 s j hj _
      refine ⟨?_, trivial⟩
      have hcc2 : ca h 48 9 (nI j) = true := ca_nI hC.1.2.2.2.2.2.2.1 (by rw [al48]; omega) (by rw [al48]; omega)
      show b_X10_filledCells_14 (l_X10_filledCells_4 fu) (l_X10_filledCells_14 (l_X10_filledCells_4 fu) fu2) 42 s (nI k) (nI j) h = _
      unfold b_X10_filledCells_14 b_X10_filledCells_44
      simp only [nn_s, hC.1.1, gd_t, c2]
      rw [ite_le (by omega) (by omega), if_neg (by omega)]
      simp only [nn_s, hC.2.2.2.2.1, hC.2.2.2.2.2.2.1, gd_t, hca2, hcc2, nI_clamp (show k < 2 ^ 31 by omega), nI_clamp (show j < 2 ^ 31 by omega), (r3 k hk).2, (c3 j hj).2, nI_1, Int32.add_zero]
      split <;> rfl
    · intro fu2 s _
      show b_X10_filledCells_14 (l_X10_filledCells_4 fu) (l_X10_filledCells_14 (l_X10_filledCells_4 fu) fu2) 42 s (nI k) (nI C.length) h = _
      unfold b_X10_filledCells_14
      simp only [nn_s, hC.1.1, gd_t, c2]
      rw [ite_le (by omega) (by omega), if_pos (by omega), nI_1]
  · intro fu s _
    show b_X10_filledCells_4 (l_X10_filledCells_4 fu) 42 s (nI R.length) h = _
    unfold b_X10_filledCells_4
    simp only [nn_s, hC.1.1, gd_t, r2]
    rw [ite_le (by omega) (by omega), if_pos (by omega)]
def mc (E : EL) : Nat := ((List.range E.length).filter (fun e => am E e == 100)).length
theorem mi_cnt (hE : E.length ≤ 16) : pc 32 (uI (fw (miS E) 0 E.length 0)) = mc E := by
  rw [pc_range]
  unfold mc
  obtain ⟨d, hd⟩ : ∃ d, 32 = E.length + d := ⟨32 - E.length, by omega⟩
  rw [hd, List.range_add, List.filter_append, List.length_append]
  have e1 : (List.range E.length).filter (fun i => (uI (fw (miS E) 0 E.length 0)).testBit i) = (List.range E.length).filter (fun e => am E e == 100) := by
    refine List.filter_congr (fun i hi => ?_)
    have hi2 := List.mem_range.mp hi
    rw [← bt_uI, bt_mi hE E.length 0 0 (by omega) i (by omega), b_0]
    simp [hi2]
  have e2 : (List.map (fun x => E.length + x) (List.range d)).filter (fun i => (uI (fw (miS E) 0 E.length 0)).testBit i) = [] := by
    rw [List.filter_eq_nil_iff]
    intro i hi
    obtain ⟨j, hj, rfl⟩ := List.mem_map.mp hi
    have hj2 := List.mem_range.mp hj
    rw [← bt_uI, bt_mi hE E.length 0 0 (by omega) _ (by omega), b_0]
    simp
    intro z
    omega
  rw [e1, e2, List.length_nil, Nat.add_zero]
theorem s_X10_missingAmounts (hC : C10 h) (hM : MV h 0 E) : f_X10_missingAmounts 42 h = some (nI (mc E), h) := by
  have hn := hM.1.1
  have hmany := s_X10_many hC (lv := 0) (by omega) hM
  have key : f_X10_missingAmounts 42 h = some (fw (fun e s => if (am E e == 100) = true then s + 1 else s) 0 E.length 0, h) := by
    unfold f_X10_missingAmounts
    refine it_up (fun n (s : Int32) k => l_X10_missingAmounts_4 n 42 s (nI k) h) E.length _ (fun s => some (s, h)) (fun _ _ => True) ?_ ?_ E.length FU 0 0 (by omega) (by have := FU_gt; omega) trivial
    · intro fu s k hk _
      refine ⟨?_, trivial⟩
      have ham := s_X10_amountOf hC (lv := 0) (by omega) hM hk
      rw [show nI 0 = 0 from rfl] at ham hmany
      have ha := (hM.1.2 k hk).2.2
      show b_X10_missingAmounts_4 (l_X10_missingAmounts_4 fu) 42 s (nI k) h = _
      unfold b_X10_missingAmounts_4 b_X10_missingAmounts_30
      simp only [nn_s, rk8, hC.1.1, gd_t, hmany, bd_s]
      rw [ite_le (by omega) (by omega), if_neg (by omega)]
      simp only [ham, bd_s, nI_1, Int32.add_zero]
      rw [show (100 : Int32) = nI 100 from rfl, ite_eq (by omega) (by omega)]
      by_cases q : am E k = 100
      · simp [q]
      · simp [q]
    · intro fu s _
      rw [show nI 0 = 0 from rfl] at hmany
      show b_X10_missingAmounts_4 (l_X10_missingAmounts_4 fu) 42 s (nI E.length) h = _
      unfold b_X10_missingAmounts_4
      simp only [nn_s, rk8, hC.1.1, gd_t, hmany, bd_s]
      rw [ite_le (by omega) (by omega), if_pos (by omega)]
  rw [key, fw_sel (fun e => am E e == 100) (am E) (fun (s : Int32) _ => s + 1)]
  congr 2
  exact (fold_len _ 0).trans (by rw [Nat.zero_add, List.length_map]; rfl)
end RD
/-! blocks -/
def BV (h : HS) (n b : Nat) (E : EL) : Prop := EV E ∧ hI h n b = nI E.length ∧ ∀ i, i < E.length → hI h n (b + 1 + i) = nI (one (en E i))
theorem BV.fr {S : Nat → Nat → Prop} {h h' : HS} {n b : Nat} {E : EL} (x : BV h n b E) (c : Ch S h h') (hS : ∀ k, b ≤ k → k < b + 17 → ¬ S n k) : BV h' n b E := by
  have := x.1.1
  refine ⟨x.1, ?_, fun i hi => ?_⟩
  · rw [c.I (hS _ (by omega) (by omega))]; exact x.2.1
  · rw [c.I (hS _ (by omega) (by omega))]; exact x.2.2 i hi
def cpS (n1 b1 n2 b2 : Nat) (k : Nat) (s : HS) : HS := sI s n2 (b2 + k) (hI s n1 (b1 + k))
def SC (n b : Nat) (m k : Nat) : Prop := m = n ∧ b ≤ k ∧ k < b + 17
theorem cp_inv {h : HS} {n1 b1 n2 b2 : Nat} (hd : n1 ≠ n2 ∨ b1 + 17 ≤ b2 ∨ b2 + 17 ≤ b1) : Ch (SC n2 b2) h (fw (cpS n1 b1 n2 b2) 0 17 h) ∧ ∀ k, k < 17 → hI (fw (cpS n1 b1 n2 b2) 0 17 h) n2 (b2 + k) = hI h n1 (b1 + k) := by
  refine fw_inv (cpS n1 b1 n2 b2) (fun k s => Ch (SC n2 b2) h s ∧ ∀ j, j < k → hI s n2 (b2 + j) = hI h n1 (b1 + j)) 17 (fun k s hk hs => ⟨hs.1.trans (Ch.sI ⟨rfl, by omega, by omega⟩), fun j hj => ?_⟩) 17 0 h (by omega) ⟨Ch.rf, fun j hj => by omega⟩
  unfold cpS
  rw [hI_sI]
  by_cases q : j = k
  · subst q
    rw [if_pos ⟨rfl, rfl⟩]
    exact hs.1.I (fun z => by unfold SC at z; omega)
  · rw [if_neg (fun z => q (by omega))]
    exact hs.2 j (by omega)
theorem BV.cp {h : HS} {n1 b1 n2 b2 : Nat} {E : EL} (x : BV h n1 b1 E) (hd : n1 ≠ n2 ∨ b1 + 17 ≤ b2 ∨ b2 + 17 ≤ b1) : BV (fw (cpS n1 b1 n2 b2) 0 17 h) n2 b2 E := by
  have := x.1.1
  obtain ⟨_, c2⟩ := cp_inv (h := h) hd
  refine ⟨x.1, ?_, fun i hi => ?_⟩
  · have := c2 0 (by omega)
    rw [Nat.add_zero, Nat.add_zero] at this
    rw [this]; exact x.2.1
  · have := c2 (1 + i) (by omega)
    rw [← Nat.add_assoc, ← Nat.add_assoc] at this
    rw [this]; exact x.2.2 i hi
theorem s_X10_layTrial {h : HS} (hC : C10 h) : f_X10_layTrial 42 h = some ((), fw (cpS 44 0 44 17) 0 17 h) := by
  unfold f_X10_layTrial
  refine it_up (fun n (s : HS) k => l_X10_layTrial_2 n 42 (nI k) s) 17 (cpS 44 0 44 17) (fun s => some ((), s)) (fun k s => Ch (SC 44 17) h s) ?_ ?_ 17 FU h 0 (by omega) (by have := FU_gt; omega) Ch.rf
  · intro fu s k hk hs
    refine ⟨?_, hs.trans (Ch.sI ⟨rfl, by omega, by omega⟩)⟩
    have hC2 := hC.fr hs (fun n k z q => by unfold SC at z; omega)
    have hca1 : ca s 44 9 (nI k) = true := ca_nI hC2.1.2.2.1 (by rw [al44]; omega) (by rw [al44]; omega)
    have hca2 : ca s 44 9 (nI (17 + k)) = true := ca_nI hC2.1.2.2.1 (by rw [al44]; omega) (by rw [al44]; omega)
    have e : (17 : Int32) + nI k = nI (17 + k) := nI_add 17 k
    show b_X10_layTrial_2 (l_X10_layTrial_2 fu) 42 (nI k) s = _
    unfold b_X10_layTrial_2
    rw [if_neg (show ¬ (17 : Int32) ≤ nI k from nI_ge (a := k) (b := 17) (by omega) (by omega))]
    simp only [nn_s, hC2.1.1, gd_t, hC2.2.2.1, hca1, e, hca2, nI_clamp (show k < 2 ^ 31 by omega), nI_clamp (show 17 + k < 2 ^ 31 by omega), nI_1, cpS, Nat.zero_add]
  · intro fu s _
    show b_X10_layTrial_2 (l_X10_layTrial_2 fu) 42 (nI 17) s = _
    unfold b_X10_layTrial_2
    rw [if_pos (show (17 : Int32) ≤ nI 17 by decide)]
theorem s_X10_addOn {h : HS} (hC : C10 h) {lv : Nat} (hl : lv < 2) {E : EL} (hM : MV h lv E) (hn : E.length < 16) {v : Nat × Nat × Nat} (hv : EOK v) : ∃ h', f_X10_addOn 42 (nI lv) (nI (one v)) h = some ((), h') ∧ MV h' lv (E ++ [v]) ∧ Ch (SC 44 (17 * lv)) h h' := by
  have e1 : (17 : Int32) * nI lv = nI (17 * lv) := nI_mul 17 lv
  have e2 : nI (17 * lv + 1) + nI E.length = nI (17 * lv + 1 + E.length) := nI_add _ _
  have c1 : ca h 44 9 (nI (17 * lv + 1 + E.length)) = true := ca_nI hC.1.2.2.1 (by rw [al44]; omega) (by rw [al44]; omega)
  have c2 : ∀ a b x, ca (sI h a b x) 44 9 (nI (17 * lv)) = true := fun a b x => ca_nI (by rw [ck_sI]; exact hC.1.2.2.1) (by rw [al44]; omega) (by rw [al44]; omega)
  refine ⟨sI (sI h 44 (17 * lv + 1 + E.length) (nI (one v))) 44 (17 * lv) (nI (E.length + 1)), ?_, ?_, ?_⟩
  · unfold f_X10_addOn
    simp only [nn_s, hC.1.1, gd_t, rk8, s_X10_many hC hl hM, bd_s, hC.2.2.1, e1, e2, c1, c2, hl_s, ck_sI, hP_sI, nI_clamp (show 17 * lv + 1 + E.length < 2 ^ 31 by omega), nI_clamp (show 17 * lv < 2 ^ 31 by omega), hI_sI, true_and, show (17 * lv = 17 * lv + 1 + E.length) = False by simp; omega, if_false, hM.2.1, nI_1]
  · refine ⟨?_, ?_, fun i hi => ?_⟩
    · have := hM.1.ins hn (Nat.le_refl _) hv
      rw [ins_end] at this
      exact this
    · rw [hI_sI, if_pos ⟨rfl, rfl⟩, List.length_append]; rfl
    · have hi' : i < E.length + 1 := by simpa using hi
      rw [← ins_end, en_ins (Nat.le_refl _), hI_sI, if_neg (by omega), hI_sI]
      by_cases q : i = E.length
      · subst q
        rw [if_pos ⟨rfl, rfl⟩, if_neg (by omega), if_pos rfl]
      · rw [if_neg (by omega), if_pos (by omega)]
        exact hM.2.2 i (by omega)
  · exact (Ch.sI ⟨rfl, by omega, by omega⟩).trans (Ch.sI ⟨rfl, by omega, by omega⟩)
theorem s_X10_dropOn {h : HS} (hC : C10 h) {lv : Nat} (hl : lv < 2) {E : EL} (hM : MV h lv E) {p : Nat} (hp : p < E.length) : ∃ r : Unit × HS, f_X10_dropOn 42 (nI lv) (nI p) h = some r ∧ (MV r.2 lv (E.eraseIdx p) ∧ Ch (SC 44 (17 * lv)) h r.2) := by
  have hn := hM.1.1
  have e1 : (17 : Int32) * nI lv = nI (17 * lv) := nI_mul 17 lv
  have c0 : ca h 44 9 (nI (17 * lv)) = true := ca_nI hC.1.2.2.1 (by rw [al44]; omega) (by rw [al44]; omega)
  have e3 : nI E.length - 1 = nI (E.length - 1) := nI_sub (b := 1) (by omega)
  have hlen := List.length_eraseIdx_of_lt hp
  unfold f_X10_dropOn
  simp only [nn_s, hC.1.1, gd_t, hC.2.2.1, e1, c0, hl_s, nI_clamp (show 17 * lv < 2 ^ 31 by omega), hM.2.1, e3]
  refine it_ex (fun fu (s : HS) k => l_X10_dropOn_15 fu 42 (nI lv) (nI k) s) (E.length - 1) (fun k s => p ≤ k ∧ Ch (SC 44 (17 * lv)) h s ∧ hI s 44 (17 * lv) = nI (E.length - 1) ∧ (∀ i, i < k → hI s 44 (17 * lv + 1 + i) = nI (one (en (E.eraseIdx p) i))) ∧ ∀ i, k ≤ i → i < E.length → hI s 44 (17 * lv + 1 + i) = nI (one (en E i))) _ ?_ ?_ (E.length - 1 - p) FU (sI h 44 (17 * lv) (nI (E.length - 1))) p (by omega) (by have := FU_gt; omega) ⟨Nat.le_refl _, Ch.sI ⟨rfl, by omega, by omega⟩, by rw [hI_sI, if_pos ⟨rfl, rfl⟩], fun i hi => ?_, fun i _ hi => ?_⟩
  · intro fu s k hk hI0
    obtain ⟨hpk, i1, i2, i3, i4⟩ := hI0
    have hC2 := hC.fr i1 (fun n k z q => by unfold SC at z; omega)
    have hmany : f_X10_many 42 (nI lv) s = some (nI (E.length - 1), s) := by
      have hca : ca s 44 9 (nI (17 * lv)) = true := ca_nI hC2.1.2.2.1 (by rw [al44]; omega) (by rw [al44]; omega)
      unfold f_X10_many
      simp only [nn_s, hC2.1.1, gd_t, hC2.2.2.1, e1, hca, nI_clamp (show 17 * lv < 2 ^ 31 by omega), i2]
    have ea : nI (17 * lv) + 2 + nI k = nI (17 * lv + 2 + k) := by rw [show nI (17 * lv) + 2 = nI (17 * lv + 2) from nI_add _ 2, nI_add]
    have eb : nI (17 * lv + 1) + nI k = nI (17 * lv + 1 + k) := nI_add _ _
    have ca1 : ca s 44 9 (nI (17 * lv + 2 + k)) = true := ca_nI hC2.1.2.2.1 (by rw [al44]; omega) (by rw [al44]; omega)
    have ca2 : ca s 44 9 (nI (17 * lv + 1 + k)) = true := ca_nI hC2.1.2.2.1 (by rw [al44]; omega) (by rw [al44]; omega)
    have hv : hI s 44 (17 * lv + 2 + k) = nI (one (en E (k + 1))) := by
      rw [show 17 * lv + 2 + k = 17 * lv + 1 + (k + 1) by omega]; exact i4 (k + 1) (by omega) (by omega)
    right
    · refine ⟨sI s 44 (17 * lv + 1 + k) (nI (one (en E (k + 1)))), ?_, by omega, i1.trans (Ch.sI ⟨rfl, by omega, by omega⟩), ?_, fun i hi => ?_, fun i h1 h2 => ?_⟩
      · show b_X10_dropOn_15 (l_X10_dropOn_15 fu) 42 (nI lv) (nI k) s = _
        unfold b_X10_dropOn_15
        simp only [nn_s, rk8, hC2.1.1, gd_t, hmany, bd_s]
        rw [ite_le (by omega) (by omega), if_neg (by omega)]
        simp only [nn_s, hC2.1.1, gd_t, hC2.2.2.1, e1, ea, eb, ca1, ca2, hl_s, nI_clamp (show 17 * lv + 2 + k < 2 ^ 31 by omega), nI_clamp (show 17 * lv + 1 + k < 2 ^ 31 by omega), hv, nI_1]
      · rw [hI_sI, if_neg (by omega)]; exact i2
      · rw [hI_sI]
        by_cases q : i = k
        · subst q
          rw [if_pos ⟨rfl, rfl⟩, en_era, if_neg (by omega)]
        · rw [if_neg (by omega)]; exact i3 i (by omega)
      · rw [hI_sI, if_neg (by omega)]; exact i4 i (by omega) h2
  · intro fu s hI0
    obtain ⟨hpk, i1, i2, i3, i4⟩ := hI0
    have hC2 := hC.fr i1 (fun n k z q => by unfold SC at z; omega)
    have hmany : f_X10_many 42 (nI lv) s = some (nI (E.length - 1), s) := by
      have hca : ca s 44 9 (nI (17 * lv)) = true := ca_nI hC2.1.2.2.1 (by rw [al44]; omega) (by rw [al44]; omega)
      unfold f_X10_many
      simp only [nn_s, hC2.1.1, gd_t, hC2.2.2.1, e1, hca, nI_clamp (show 17 * lv < 2 ^ 31 by omega), i2]
    refine ⟨((), s), ?_, ⟨hM.1.era hp, by rw [hlen]; exact i2, fun i hi => i3 i (by omega)⟩, i1⟩
    show b_X10_dropOn_15 (l_X10_dropOn_15 fu) 42 (nI lv) (nI (E.length - 1)) s = _
    unfold b_X10_dropOn_15
    simp only [nn_s, rk8, hC2.1.1, gd_t, hmany, bd_s]
    rw [ite_le (by omega) (by omega), if_pos (by omega)]
  · rw [hI_sI, if_neg (by omega), en_era, if_pos hi]
    exact hM.2.2 i (by omega)
  · rw [hI_sI, if_neg (by omega)]
    exact hM.2.2 i hi
