/-! OPS: questions of the table: total, drill, cell, along, key, entry, count -/
theorem a9_sa {h h' : HS} {a : ST} {v : Int32} {F : Option (Int32 × HS)} (hR : R9 h a) (e : F = some (v, h')) (c : Ch SA h h') : ∃ h', F = some (v, h') ∧ R9 h' a ∧ Ch F9 h h' := ⟨h', e, hR.sa c, c.mono (fun m k z => SA_F9 z)⟩
theorem a10_q {h h' : HS} {a : ST} {v : Int32} {F : Option (Int32 × HS)} (hR : R10 h a) (e : F = some (v, h')) (c : Ch FM h h') : ∃ h', F = some (v, h') ∧ R10 h' a ∧ Ch F10 h h' := ⟨h', e, hR.q c, c.mono (fun m k z => FM_F10 z)⟩
theorem MR.fr {S : Nat → Nat → Prop} {h h' : HS} {R : RW} (x : MR h R) (c : Ch S h h') (hS : ∀ n k, S n k → n ≠ 45 ∧ n ≠ 46 ∧ (n = 42 → k ≠ 13)) : MR h' R := by
  obtain ⟨x1, x2, x3⟩ := x
  refine ⟨x1, ?_, fun i hi => ?_⟩
  · rw [c.I (fun z => (hS _ _ z).2.2 rfl rfl)]; exact x2
  · rw [c.I (fun z => (hS _ _ z).1 rfl), c.I (fun z => (hS _ _ z).2.1 rfl)]; exact x3 i hi
theorem MK.fr {S : Nat → Nat → Prop} {h h' : HS} {R : RW} (x : MK h R) (c : Ch S h h') (hS : ∀ n k, S n k → n ≠ 47 ∧ n ≠ 48 ∧ (n = 42 → k ≠ 14)) : MK h' R := by
  obtain ⟨x1, x2, x3⟩ := x
  refine ⟨x1, ?_, fun i hi => ?_⟩
  · rw [c.I (fun z => (hS _ _ z).2.2 rfl rfl)]; exact x2
  · rw [c.I (fun z => (hS _ _ z).1 rfl), c.I (fun z => (hS _ _ z).2.1 rfl)]; exact x3 i hi
theorem q9_rows {h : HS} {a : ST} (hR : R9 h a) : ∃ h', f_X9_rowsOf 0 (some 5) h = some (some 29, h') ∧ AR h' 29 (rwl a.2.1 a.2.2.1) ∧ Ch SA h h' := by
  obtain ⟨⟨p, q, hW⟩, x2, x3, x4, x5, x6, x7, x8⟩ := id hR
  obtain ⟨h1, r1, r2, r3⟩ := s_X9_rowsOf hW x3 (Or.inl (by omega))
  exact ⟨h1, r1, r2, r3.mono (fun m k z => by unfold SA; omega)⟩
theorem q9_cols {h : HS} {a : ST} (hR : R9 h a) : ∃ h', f_X9_columnsOf 0 (some 5) h = some (some 33, h') ∧ AR h' 33 (cll a.2.1 a.2.2.1) ∧ Ch (fun m k => (m = 33 ∧ k = 3) ∨ (33 < m ∧ m < 37)) h h' := by
  obtain ⟨⟨p, q, hW⟩, x2, x3, x4, x5, x6, x7, x8⟩ := id hR
  exact s_X9_columnsOf hW x3 (Or.inl (by omega))
theorem CS_SA {m k : Nat} (z : (m = 33 ∧ k = 3) ∨ (33 < m ∧ m < 37)) : SA m k := by unfold SA; omega
theorem q10_rows {h : HS} {a : ST} (hR : R10 h a) : ∃ h', f_X10_findRows 42 0 h = some ((), h') ∧ MR h' (rwl a.2.1 a.2.2.1) ∧ Ch SR h h' := by
  obtain ⟨hC, hP, hV, x4, x5, x6, x7, x8, k0, k1⟩ := id hR
  obtain ⟨r, e1, e2, e3⟩ := s_X10_findRows hC (lv := 0) (by omega) x5 hP hV
  exact ⟨r.2, e1, e3, e2⟩
theorem SR_FM {m k : Nat} (z : SR m k) : FM m k := Or.inl z
theorem SK_FM {m k : Nat} (z : SK m k) : FM m k := Or.inr (Or.inl z)
theorem q10_both {h : HS} {a : ST} (hR : R10 h a) : ∃ h1 h2, f_X10_findRows 42 0 h = some ((), h1) ∧ ck h1 42 8 = true ∧ f_X10_findColumns 42 0 h1 = some ((), h2) ∧ MR h2 (rwl a.2.1 a.2.2.1) ∧ MK h2 (cll a.2.1 a.2.2.1) ∧ R10 h2 a ∧ Ch FM h h2 := by
  obtain ⟨h1, r1, r2, r3⟩ := q10_rows hR
  have hR1 : R10 h1 a := hR.q (r3.mono (fun m k z => SR_FM z))
  obtain ⟨hC, hP, hV, x4, x5, x6, x7, x8, k0, k1⟩ := id hR1
  obtain ⟨r, e1, e2, e3⟩ := s_X10_findColumns hC (lv := 0) (by omega) x5 hP hV
  have c : Ch FM h r.2 := (r3.mono (fun m k z => SR_FM z)).trans (e2.mono (fun m k z => SK_FM z))
  exact ⟨h1, r.2, r1, hC.1.1, e1, r2.fr e2 (fun n k z => by unfold SK at z; omega), e3, hR.q c, c⟩
theorem rw_SB {a : ST} (hE : EV a.2.2.1) (x : Int32) : SB a.2.2.1.length (so (rwl a.2.1 a.2.2.1) x) := so_SB _ x (rwl_ok hE.1 a.2.1).2.2
theorem cl_SB {a : ST} (hE : EV a.2.2.1) (x : Int32) : SB a.2.2.1.length (so (cll a.2.1 a.2.2.1) x) := so_SB _ x (cll_ok hE.1 a.2.1).2
def sp_total (a : ST) : Int32 := tot a.2.1 a.2.2.1
theorem o9_total {h : HS} {a : ST} (hR : R9 h a) : ∃ h', f_X9_total 0 h = some (sp_total a, h') ∧ R9 h' a ∧ Ch F9 h h' := by
  obtain ⟨⟨p, q, hW⟩, x2, x3, x4, x5, x6, x7, x8⟩ := id hR
  refine ⟨h, ?_, hR, Ch.rf⟩
  unfold f_X9_total sp_total
  simp only [nn_s, hW.1.1, gd_t, rk7, hW.1.2.2.2.2.1, s_X9_totalOf hW x3, bd_s]
theorem o10_total {h : HS} {a : ST} (hR : R10 h a) : ∃ h', f_X10_total 42 h = some (sp_total a, h') ∧ R10 h' a ∧ Ch F10 h h' := by
  obtain ⟨hC, hP, hV, x4, x5, x6, x7, x8, k0, k1⟩ := id hR
  refine ⟨h, ?_, hR, Ch.rf⟩
  have e1 := s_X10_allOf hC (lv := 0) (by omega) x5
  have e2 := s_X10_measureOf hC (lv := 0) (by omega) x5 hV.2.2.1 hP.2.2.1 (SB_all x5.1.1)
  rw [show nI 0 = 0 from rfl] at e1 e2
  unfold f_X10_total sp_total tot
  simp only [nn_s, rk8, hC.1.1, gd_t, e1, bd_s, e2]
def sp_drill (x y : Int32) (a : ST) : Int32 := so (rwl a.2.1 a.2.2.1) x &&& so (cll a.2.1 a.2.2.1) y
theorem o9_drill {h : HS} {a : ST} (hR : R9 h a) (x y : Int32) : ∃ h', f_X9_drill 0 x y h = some (sp_drill x y a, h') ∧ R9 h' a ∧ Ch F9 h h' := by
  obtain ⟨⟨p, q, hW⟩, x2, x3, x4, x5, x6, x7, x8⟩ := id hR
  obtain ⟨h1, r1, r2⟩ := s_X9_cellOf hW x3 (Or.inl (by omega)) x y
  refine a9_sa hR ?_ r2
  unfold f_X9_drill sp_drill
  simp only [nn_s, hW.1.1, gd_t, rk7, hW.1.2.2.2.2.1, r1, bd_s]
theorem o10_drill {h : HS} {a : ST} (hR : R10 h a) (x y : Int32) : ∃ h', f_X10_drill 42 x y h = some (sp_drill x y a, h') ∧ R10 h' a ∧ Ch F10 h h' := by
  obtain ⟨h1, h2, r1, r2, r3, r4, r5, r6, r7⟩ := q10_both hR
  refine a10_q hR ?_ r7
  have hE := r6.2.2.2.2.1.1.1
  unfold f_X10_drill sp_drill
  simp only [nn_s, rk8, hR.1.1.1, gd_t, r1, bd_s, r2, r3, r6.1.1.1, s_X10_rowOf r6.1 r4 (rwl_ok hE a.2.1).1, s_X10_columnOf r6.1 r5 (cll_ok hE a.2.1).1]
def sp_cell (x y : Int32) (a : ST) : Int32 := mL a.2.1.2.2.1 (sel a.2.2.1 (so (rwl a.2.1 a.2.2.1) x &&& so (cll a.2.1 a.2.2.1) y))
theorem o9_cell {h : HS} {a : ST} (hR : R9 h a) (x y : Int32) : ∃ h', f_X9_cell 0 x y h = some (sp_cell x y a, h') ∧ R9 h' a ∧ Ch F9 h h' := by
  obtain ⟨⟨p, q, hW⟩, x2, x3, x4, x5, x6, x7, x8⟩ := id hR
  obtain ⟨h1, r1, r2⟩ := s_X9_cellOf hW x3 (Or.inl (by omega)) x y
  refine a9_sa hR ?_ r2
  have hW1 := hW.sa r2
  have hE1 := x3.sa r2 (Or.inl (by omega))
  unfold f_X9_cell sp_cell
  simp only [nn_s, hW.1.1, gd_t, rk7, hW.1.2.2.2.2.1, r1, bd_s, hW1.1.1, s_X9_measureOf hW1 hE1 (b_and_SB (rw_SB x3.2.1 x))]
theorem o10_cell {h : HS} {a : ST} (hR : R10 h a) (x y : Int32) : ∃ h', f_X10_cell 42 x y h = some (sp_cell x y a, h') ∧ R10 h' a ∧ Ch F10 h h' := by
  obtain ⟨h1, h2, r1, r2, r3, r4, r5, r6, r7⟩ := q10_both hR
  refine a10_q hR ?_ r7
  obtain ⟨hC, hP, hV, x4, x5, x6, x7, x8, k0, k1⟩ := id r6
  have e2 := s_X10_measureOf hC (lv := 0) (by omega) x5 hV.2.2.1 hP.2.2.1 (set := so (rwl a.2.1 a.2.2.1) x &&& so (cll a.2.1 a.2.2.1) y) (b_and_SB (rw_SB x5.1 x))
  rw [show nI 0 = 0 from rfl] at e2
  unfold f_X10_cell sp_cell
  simp only [nn_s, rk8, hR.1.1.1, gd_t, r1, bd_s, r2, r3, hC.1.1, s_X10_rowOf hC r4 (rwl_ok x5.1.1 a.2.1).1, s_X10_columnOf hC r5 (cll_ok x5.1.1 a.2.1).1, e2]
theorem s_X9_isAxis (w : Int32) (h : HS) : f_X9_isAxis w h = some (if w.toInt = 0 ∨ w.toInt = 1 then 1 else 0, h) := by
  unfold f_X9_isAxis
  rw [s_X9_isOneOfTwo]
  simp only [bd_s]
  split <;> simp only [z0, z1, gd_t]
theorem t01 (w : Int32) : ((0 : Int64).toInt ≤ w.toInt ∧ w.toInt ≤ (1 : Int64).toInt) ↔ (w.toInt = 0 ∨ w.toInt = 1) := by
  rw [show (0 : Int64).toInt = 0 from rfl, show (1 : Int64).toInt = 1 from rfl]
  omega
theorem s_in01 (w : Int32) (h : HS) : f_X10_in w.toInt64 0 1 h = some (if w.toInt = 0 ∨ w.toInt = 1 then 1 else 0, h) := by
  rw [s_X10_in]
  simp only [t01]
theorem is01 {w : Int32} (q : w.toInt = 0 ∨ w.toInt = 1) : w = 0 ∨ w = 1 := by
  rcases q with q | q
  · exact Or.inl ((i32_eq _ _).mpr q)
  · exact Or.inr ((i32_eq _ _).mpr q)
theorem ti0 : ((0 : Int32).toInt = 0 ∨ (0 : Int32).toInt = 1) := Or.inl rfl
theorem ti1 : ((1 : Int32).toInt = 0 ∨ (1 : Int32).toInt = 1) := Or.inr rfl
def sp_along (w x : Int32) (a : ST) : Int32 := if w.toInt = 0 ∨ w.toInt = 1 then (if w = 0 then mL a.2.1.2.2.1 (sel a.2.2.1 (so (rwl a.2.1 a.2.2.1) x)) else mL a.2.1.2.2.1 (sel a.2.2.1 (so (cll a.2.1 a.2.2.1) x))) else -2
theorem o9_along {h : HS} {a : ST} (hR : R9 h a) (w x : Int32) : ∃ h', f_X9_along 0 w x h = some (sp_along w x a, h') ∧ R9 h' a ∧ Ch F9 h h' := by
  obtain ⟨⟨p, q, hW⟩, x2, x3, x4, x5, x6, x7, x8⟩ := id hR
  unfold f_X9_along sp_along
  rw [s_X9_isAxis]
  simp only [bd_s]
  by_cases q0 : w.toInt = 0 ∨ w.toInt = 1
  · simp only [q0, if_true, one0, if_false, nn_s, hW.1.1, gd_t, rk7, hW.1.2.2.2.2.1]
    rcases is01 q0 with e | e
    · subst e
      obtain ⟨h1, r1, r2, r3⟩ := q9_rows hR
      refine a9_sa hR ?_ r3
      have hW1 := hW.sa r3
      have hE1 := x3.sa r3 (Or.inl (by omega))
      unfold f_X9_axisOf b_X9_axisOf_23
      simp only [if_true, nn_s, hW.1.1, gd_t, rk7, hW.1.2.2.2.2.1, r1, bd_s, rk2, r2.1.1, s_X2_setOf r2, hW1.1.1, s_X9_measureOf hW1 hE1 (rw_SB x3.2.1 x)]
    · subst e
      obtain ⟨h1, r1, r2, r3'⟩ := q9_cols hR
      have r3 := r3'.mono (fun m k z => CS_SA z)
      refine a9_sa hR ?_ r3
      have hW1 := hW.sa r3
      have hE1 := x3.sa r3 (Or.inl (by omega))
      unfold f_X9_axisOf b_X9_axisOf_23
      simp only [one0, if_false, nn_s, hW.1.1, gd_t, rk7, hW.1.2.2.2.2.1, r1, bd_s, rk2, r2.1.1, s_X2_setOf r2, hW1.1.1, s_X9_measureOf hW1 hE1 (cl_SB x3.2.1 x)]
  · simp only [q0, if_false, if_true]
    exact ⟨h, rfl, hR, Ch.rf⟩
theorem o10_along {h : HS} {a : ST} (hR : R10 h a) (w x : Int32) : ∃ h', f_X10_along 42 w x h = some (sp_along w x a, h') ∧ R10 h' a ∧ Ch F10 h h' := by
  obtain ⟨h1, h2, r1, r2, r3, r4, r5, r6, r7⟩ := q10_both hR
  obtain ⟨hC, hP, hV, x4, x5, x6, x7, x8, k0, k1⟩ := id r6
  unfold f_X10_along sp_along b_X10_along_42
  rw [s_in01]
  simp only [bd_s]
  by_cases q0 : w.toInt = 0 ∨ w.toInt = 1
  · refine a10_q hR ?_ r7
    have e1 := s_X10_measureOf hC (lv := 0) (by omega) x5 hV.2.2.1 hP.2.2.1 (rw_SB x5.1 x)
    have e2 := s_X10_measureOf hC (lv := 0) (by omega) x5 hV.2.2.1 hP.2.2.1 (cl_SB x5.1 x)
    rw [show nI 0 = 0 from rfl] at e1 e2
    simp only [q0, if_true, one0, if_false, nn_s, rk8, hR.1.1.1, gd_t, r1, bd_s, r2, r3, hC.1.1, s_X10_rowOf hC r4 (rwl_ok x5.1.1 a.2.1).1, s_X10_columnOf hC r5 (cll_ok x5.1.1 a.2.1).1, e1, e2]
    split <;> rfl
  · simp only [q0, if_false, if_true]
    exact ⟨h, rfl, hR, Ch.rf⟩
def kAt (R : RW) (i : Int32) : Int32 := if 0 ≤ i.toInt ∧ i.toInt < R.length then nI (gk R i.toInt.toNat) else -9
def sp_key (w i : Int32) (a : ST) : Int32 := if w.toInt = 0 ∨ w.toInt = 1 then (if w = 0 then kAt (rwl a.2.1 a.2.2.1) i else kAt (cll a.2.1 a.2.2.1) i) else -2
theorem kAt9 {h : HS} {n : Nat} {R : RW} (hA : AR h n R) (i : Int32) : bd (f_X2_has n i h) (fun r4 => (if r4.1 = 0 then b_X9_key_35 (-9 : Int32) r4.2 else nn (some n) (fun n6 => gd (ck r4.2 n6 2) (nn (hP r4.2 n6 0) (fun n7 => gd (ca r4.2 n7 9 i) (b_X9_key_35 (hI r4.2 n7 i.toNatClampNeg) r4.2)))))) = some (kAt R i, h) := by
  have hl := hA.2.1
  rw [s_X2_has hA]
  unfold b_X9_key_35 kAt
  simp only [bd_s]
  by_cases q : 0 ≤ i.toInt ∧ i.toInt < R.length
  · have ei := nat_of q.1
    have hi : i.toInt.toNat < R.length := by omega
    simp only [q, and_self, if_true, one0, if_false]
    generalize i.toInt.toNat = j at *
    subst ei
    have hca : ca h (n + 1) 9 (nI j) = true := ca_nI hA.1.2.2.1.1 (by rw [hA.1.2.2.2.1]; omega) (by rw [hA.1.2.2.2.1]; omega)
    simp only [nn_s, hA.1.1, gd_t, hA.1.2.1.1, hca, nI_clamp (show j < 2 ^ 31 by omega), (hA.2.2.2 j hi).1]
  · simp only [q, if_false, if_true]
theorem o9_key {h : HS} {a : ST} (hR : R9 h a) (w i : Int32) : ∃ h', f_X9_key 0 w i h = some (sp_key w i a, h') ∧ R9 h' a ∧ Ch F9 h h' := by
  obtain ⟨⟨p, q, hW⟩, x2, x3, x4, x5, x6, x7, x8⟩ := id hR
  unfold f_X9_key sp_key
  rw [s_X9_isAxis]
  simp only [bd_s]
  by_cases q0 : w.toInt = 0 ∨ w.toInt = 1
  · simp only [q0, if_true, one0, if_false, nn_s, hW.1.1, gd_t, rk7]
    rcases is01 q0 with e | e
    · subst e
      obtain ⟨h1, r1, r2, r3⟩ := q9_rows hR
      refine a9_sa hR ?_ r3
      unfold f_X9_axisOf b_X9_axisOf_23
      simp only [if_true, nn_s, hW.1.1, gd_t, rk7, hW.1.2.2.2.2.1, r1, bd_s, rk2, r2.1.1]
      exact kAt9 r2 i
    · subst e
      obtain ⟨h1, r1, r2, r3'⟩ := q9_cols hR
      refine a9_sa hR ?_ (r3'.mono (fun m k z => CS_SA z))
      unfold f_X9_axisOf b_X9_axisOf_23
      simp only [one0, if_false, nn_s, hW.1.1, gd_t, rk7, hW.1.2.2.2.2.1, r1, bd_s, rk2, r2.1.1]
      exact kAt9 r2 i
  · simp only [q0, if_false, if_true]
    exact ⟨h, rfl, hR, Ch.rf⟩
theorem pred_i {n : Nat} (hn : n ≤ 1000) : ((nI n - 1).toInt64).toInt = (n : Int) - 1 := by
  rw [Int32.toInt_toInt64]
  cases n with
  | zero => decide
  | succ n => rw [nI_pred n, nI_i (by omega)]; omega
theorem s_inR {n : Nat} (hn : n ≤ 1000) (i : Int32) (h : HS) : f_X10_in i.toInt64 0 (nI n - 1).toInt64 h = some (if 0 ≤ i.toInt ∧ i.toInt < n then 1 else 0, h) := by
  rw [s_X10_in, pred_i hn, show (0 : Int64).toInt = 0 from rfl]
  by_cases q : 0 ≤ i.toInt ∧ i.toInt < n
  · rw [if_pos q, if_pos (by omega)]
  · rw [if_neg q, if_neg (by omega)]
theorem o10_key {h : HS} {a : ST} (hR : R10 h a) (w i : Int32) : ∃ h', f_X10_key 42 w i h = some (sp_key w i a, h') ∧ R10 h' a ∧ Ch F10 h h' := by
  obtain ⟨h1, h2, r1, r2, r3, r4, r5, r6, r7⟩ := q10_both hR
  obtain ⟨hC, hP, hV, x4, x5, x6, x7, x8, k0, k1⟩ := id r6
  have l4 := r4.1
  have l5 := r5.1
  unfold f_X10_key sp_key b_X10_key_54 b_X10_key_82
  rw [s_in01]
  simp only [bd_s]
  by_cases q0 : w.toInt = 0 ∨ w.toInt = 1
  · refine a10_q hR ?_ r7
    simp only [q0, if_true, one0, if_false, nn_s, rk8, hR.1.1.1, gd_t, r1, bd_s, r2, r3, hC.1.1, r4.2.1, r5.2.1, s_inR (show (rwl a.2.1 a.2.2.1).length ≤ 1000 by omega), s_inR (show (cll a.2.1 a.2.2.1).length ≤ 1000 by omega), hC.2.2.2.1, hC.2.2.2.2.2.1]
    rcases is01 q0 with e | e
    · subst e
      simp only [if_true]
      unfold kAt
      by_cases q : 0 ≤ i.toInt ∧ i.toInt < (rwl a.2.1 a.2.2.1).length
      · have ei := nat_of q.1
        have hi : i.toInt.toNat < (rwl a.2.1 a.2.2.1).length := by omega
        simp only [q, and_self, if_true, one0, if_false]
        generalize i.toInt.toNat = j at *
        subst ei
        have hca : ca h2 45 9 (nI j) = true := ca_nI hC.1.2.2.2.1 (by rw [al45]; omega) (by rw [al45]; omega)
        simp only [hca, gd_t, nI_clamp (show j < 2 ^ 31 by omega), (r4.2.2 j hi).1]
      · simp only [q, if_false, if_true]
    · subst e
      simp only [one0, if_false]
      unfold kAt
      by_cases q : 0 ≤ i.toInt ∧ i.toInt < (cll a.2.1 a.2.2.1).length
      · have ei := nat_of q.1
        have hi : i.toInt.toNat < (cll a.2.1 a.2.2.1).length := by omega
        simp only [q, and_self, if_true, one0, if_false]
        generalize i.toInt.toNat = j at *
        subst ei
        have hca : ca h2 47 9 (nI j) = true := ca_nI hC.1.2.2.2.2.2.1 (by rw [al47]; omega) (by rw [al47]; omega)
        simp only [hca, gd_t, nI_clamp (show j < 2 ^ 31 by omega), (r5.2.2 j hi).1]
      · simp only [q, if_false, if_true]
  · simp only [q0, if_false, if_true]
    exact ⟨h, rfl, hR, Ch.rf⟩
theorem swT5 {α : Type} (x : Int32) (a b c d e f : Option α) : swT x 0 [a, b, c, d, e] f = if x.toInt = 0 then a else if x.toInt = 1 then b else if x.toInt = 2 then c else if x.toInt = 3 then d else if x.toInt = 4 then e else f := by
  unfold swT
  generalize x.toInt = i
  by_cases h0 : i = 0
  · subst h0; rfl
  by_cases h1 : i = 1
  · subst h1; rfl
  by_cases h2 : i = 2
  · subst h2; rfl
  by_cases h3 : i = 3
  · subst h3; rfl
  by_cases h4 : i = 4
  · subst h4; rfl
  rw [if_neg h0, if_neg h1, if_neg h2, if_neg h3, if_neg h4, if_neg (by simp only [List.length_cons, List.length_nil]; omega)]
theorem swT8 {α : Type} (x : Int32) (a b c d e g u v f : Option α) : swT x 0 [a, b, c, d, e, g, u, v] f = if x.toInt = 0 then a else if x.toInt = 1 then b else if x.toInt = 2 then c else if x.toInt = 3 then d else if x.toInt = 4 then e else if x.toInt = 5 then g else if x.toInt = 6 then u else if x.toInt = 7 then v else f := by
  unfold swT
  generalize x.toInt = i
  by_cases h0 : i = 0
  · subst h0; rfl
  by_cases h1 : i = 1
  · subst h1; rfl
  by_cases h2 : i = 2
  · subst h2; rfl
  by_cases h3 : i = 3
  · subst h3; rfl
  by_cases h4 : i = 4
  · subst h4; rfl
  by_cases h5 : i = 5
  · subst h5; rfl
  by_cases h6 : i = 6
  · subst h6; rfl
  by_cases h7 : i = 7
  · subst h7; rfl
  rw [if_neg h0, if_neg h1, if_neg h2, if_neg h3, if_neg h4, if_neg h5, if_neg h6, if_neg h7, if_neg (by simp only [List.length_cons, List.length_nil]; omega)]
def enV (w : Int32) (e : Nat) (a : ST) : Int32 := if w.toInt = 0 then nI (tw a.2.2.1 e) else if w.toInt = 1 then nI (wa a.2.2.1 e) else if w.toInt = 2 then nI (am a.2.2.1 e) else if w.toInt = 3 then ko (rwl a.2.1 a.2.2.1) e else if w.toInt = 4 then nI (ky a.2.1.2.1 a.2.1.2.2.2.2 a.2.2.1 e) else -2
def sp_entry (e w : Int32) (a : ST) : Int32 := if 0 ≤ e.toInt ∧ e.toInt < a.2.2.1.length then enV w e.toInt.toNat a else -1
theorem o9_entry {h : HS} {a : ST} (hR : R9 h a) (e w : Int32) : ∃ h', f_X9_entry 0 e w h = some (sp_entry e w a, h') ∧ R9 h' a ∧ Ch F9 h h' := by
  obtain ⟨⟨p, q, hW⟩, x2, x3, x4, x5, x6, x7, x8⟩ := id hR
  have hn := x3.2.1.1
  unfold f_X9_entry sp_entry
  simp only [nn_s, hW.1.1, gd_t, hW.1.2.2.2.2.1, rk3, x3.1.1, s_X3_has x3, bd_s, swT5]
  by_cases hok : 0 ≤ e.toInt ∧ e.toInt < a.2.2.1.length
  · have ee := nat_of hok.1
    have hp : e.toInt.toNat < a.2.2.1.length := by omega
    simp only [hok, and_self, if_true, one0, if_false]
    generalize e.toInt.toNat = j at *
    subst ee
    obtain ⟨d1, d2, d3, d4⟩ := id x3
    obtain ⟨y1, ⟨y2, y3, y4⟩, ⟨y5, y6, y7⟩, ⟨y8, y9, z1_⟩⟩ := d1
    have hc1 : ca h (5 + 1) 9 (nI j) = true := ca_nI y5 (by rw [y8]; omega) (by rw [y8]; omega)
    have hc2 : ca h (5 + 2) 9 (nI j) = true := ca_nI y6 (by rw [y9]; omega) (by rw [y9]; omega)
    have hc3 : ca h (5 + 3) 9 (nI j) = true := ca_nI y7 (by rw [z1_]; omega) (by rw [z1_]; omega)
    unfold enV
    by_cases q0 : w.toInt = 0
    · rw [if_pos q0, if_pos q0]
      refine ⟨h, ?_, hR, Ch.rf⟩
      unfold b_X9_entry_48
      simp only [nn_s, hW.1.1, gd_t, hW.1.2.2.2.2.1, y1, y2, hc1, nI_clamp (show j < 2 ^ 31 by omega), (d4 j hp).1]
    rw [if_neg q0, if_neg q0]
    by_cases q1 : w.toInt = 1
    · rw [if_pos q1, if_pos q1]
      refine ⟨h, ?_, hR, Ch.rf⟩
      unfold b_X9_entry_58
      simp only [nn_s, hW.1.1, gd_t, hW.1.2.2.2.2.1, y1, y3, hc2, nI_clamp (show j < 2 ^ 31 by omega), (d4 j hp).2.1]
    rw [if_neg q1, if_neg q1]
    by_cases q2 : w.toInt = 2
    · rw [if_pos q2, if_pos q2]
      refine ⟨h, ?_, hR, Ch.rf⟩
      unfold b_X9_entry_68
      simp only [nn_s, hW.1.1, gd_t, hW.1.2.2.2.2.1, y1, y4, hc3, nI_clamp (show j < 2 ^ 31 by omega), (d4 j hp).2.2]
    rw [if_neg q2, if_neg q2]
    by_cases q3 : w.toInt = 3
    · rw [if_pos q3, if_pos q3]
      obtain ⟨h1, r1, r2, r3⟩ := q9_rows hR
      refine a9_sa hR ?_ r3
      unfold b_X9_entry_78
      simp only [nn_s, hW.1.1, gd_t, hW.1.2.2.2.2.1, rk7, r1, bd_s, rk2, r2.1.1, s_X2_keyOfEntry r2 (show j < 32 by omega)]
    rw [if_neg q3, if_neg q3]
    by_cases q4 : w.toInt = 4
    · rw [if_pos q4, if_pos q4]
      obtain ⟨h1, r1, r2, r3⟩ := q9_cols hR
      refine a9_sa hR ?_ (r3.mono (fun m k z => CS_SA z))
      unfold b_X9_entry_91
      simp only [nn_s, hW.1.1, gd_t, hW.1.2.2.2.2.1, rk7, r1, bd_s, rk2, r2.1.1, s_X2_keyOfEntry r2 (show j < 32 by omega), ko_cll x3.2.1 hW.2.2.1 hp]
    rw [if_neg q4, if_neg q4]
    exact ⟨h, rfl, hR, Ch.rf⟩
  · simp only [hok, if_false, if_true]
    exact ⟨h, rfl, hR, Ch.rf⟩
theorem o10_entry {h : HS} {a : ST} (hR : R10 h a) (e w : Int32) : ∃ h', f_X10_entry 42 e w h = some (sp_entry e w a, h') ∧ R10 h' a ∧ Ch F10 h h' := by
  have hT := s_X10_isThere hR.1 hR.2.2.2.2.1 e
  obtain ⟨h1, r1, r4, r3⟩ := q10_rows hR
  have r7 := r3.mono (fun m k z => SR_FM z)
  have r6 := hR.q r7
  obtain ⟨hC, hP, hV, x4, x5, x6, x7, x8, k0, k1⟩ := id r6
  have hn := x5.1.1
  unfold f_X10_entry sp_entry
  simp only [nn_s, rk8, hR.1.1.1, gd_t, hT, bd_s, swT5, r1]
  by_cases hok : 0 ≤ e.toInt ∧ e.toInt < a.2.2.1.length
  · have ee := nat_of hok.1
    have hp : e.toInt.toNat < a.2.2.1.length := by omega
    simp only [hok, and_self, if_true, one0, if_false]
    generalize e.toInt.toNat = j at *
    subst ee
    refine a10_q hR ?_ r7
    have ky0 := s_X10_keyOf hC (lv := 0) (by omega) x5 (f := 0) (by omega) hV.2.2.2.2.1 hV.2.2.2.2.2 hP.2.2.2.2 hp
    have ky1 := s_X10_keyOf hC (lv := 0) (by omega) x5 (f := 1) (by omega) hV.2.2.2.2.1 hV.2.2.2.2.2 hP.2.2.2.2 hp
    have ky4 := s_X10_keyOf hC (lv := 0) (by omega) x5 (f := a.2.1.2.1) hV.2.1 hV.2.2.2.2.1 hV.2.2.2.2.2 hP.2.2.2.2 hp
    have am2 := s_X10_amountOf hC (lv := 0) (by omega) x5 hp
    rw [show nI 0 = 0 from rfl] at ky0 ky1 ky4 am2
    rw [show nI 1 = 1 from rfl] at ky1
    unfold enV b_X10_entry_52 b_X10_entry_60 b_X10_entry_68 b_X10_entry_75 b_X10_entry_81 b_X10_entry_92
    simp only [nn_s, rk8, hC.1.1, gd_t, ky0, ky1, am2, bd_s, hP.2.1, ky4, s_X10_rowKeyOf hC r4 (rwl_ok hn a.2.1).2.1 (show j < 32 by omega)]
    by_cases q0 : w.toInt = 0
    · rw [if_pos q0, if_pos q0]; rfl
    rw [if_neg q0, if_neg q0]
    by_cases q1 : w.toInt = 1
    · rw [if_pos q1, if_pos q1]; rfl
    rw [if_neg q1, if_neg q1]
    by_cases q2 : w.toInt = 2
    · rw [if_pos q2, if_pos q2]
    rw [if_neg q2, if_neg q2]
    by_cases q3 : w.toInt = 3
    · rw [if_pos q3, if_pos q3]
    rw [if_neg q3, if_neg q3]
    by_cases q4 : w.toInt = 4
    · rw [if_pos q4, if_pos q4]
    rw [if_neg q4, if_neg q4]
  · simp only [hok, if_false, if_true]
    exact ⟨h, rfl, hR, Ch.rf⟩
def sp_count (w : Int32) (a : ST) : Int32 := if w.toInt = 0 then nI a.1.length else if w.toInt = 1 then nI a.2.2.1.length else if w.toInt = 2 then nI (rwl a.2.1 a.2.2.1).length else if w.toInt = 3 then nI (cll a.2.1 a.2.2.1).length else if w.toInt = 4 then mt (rwl a.2.1 a.2.2.1) (cll a.2.1 a.2.2.1) else if w.toInt = 5 then nI (mc a.2.2.1) else if w.toInt = 6 then nI a.2.2.2.1.length else if w.toInt = 7 then nI a.2.2.2.2.1.length else -2
theorem o9_count {h : HS} {a : ST} (hR : R9 h a) (w : Int32) : ∃ h', f_X9_count 0 w h = some (sp_count w a, h') ∧ R9 h' a ∧ Ch F9 h h' := by
  obtain ⟨⟨p, q, hW⟩, x2, x3, x4, x5, x6, x7, x8⟩ := id hR
  obtain ⟨c0, c1, c2, c3, c4, c5, c6, c7, c8, c9, c10⟩ := hW.1
  unfold f_X9_count sp_count
  rw [swT8]
  by_cases q0 : w.toInt = 0
  · rw [if_pos q0, if_pos q0]
    refine ⟨h, ?_, hR, Ch.rf⟩
    unfold b_X9_count_48
    simp only [nn_s, c0, c1, gd_t, x2.1, x2.2.2.2.2.1]
  rw [if_neg q0, if_neg q0]
  by_cases q1 : w.toInt = 1
  · rw [if_pos q1, if_pos q1]
    refine ⟨h, ?_, hR, Ch.rf⟩
    unfold b_X9_count_56
    simp only [nn_s, c0, c4, gd_t, x3.1.1, x3.2.2.1]
  rw [if_neg q1, if_neg q1]
  by_cases q2 : w.toInt = 2
  · rw [if_pos q2, if_pos q2]
    obtain ⟨h1, r1, r2, r3⟩ := q9_rows hR
    refine a9_sa hR ?_ r3
    unfold b_X9_count_64
    simp only [nn_s, c0, c4, gd_t, rk7, r1, bd_s, r2.1.1, r2.2.2.1]
  rw [if_neg q2, if_neg q2]
  by_cases q3 : w.toInt = 3
  · rw [if_pos q3, if_pos q3]
    obtain ⟨h1, r1, r2, r3⟩ := q9_cols hR
    refine a9_sa hR ?_ (r3.mono (fun m k z => CS_SA z))
    unfold b_X9_count_76
    simp only [nn_s, c0, c4, gd_t, rk7, r1, bd_s, r2.1.1, r2.2.2.1]
  rw [if_neg q3, if_neg q3]
  by_cases q4 : w.toInt = 4
  · rw [if_pos q4, if_pos q4]
    obtain ⟨h1, r1, r2, r3⟩ := q9_rows hR
    have hR1 := hR.sa r3
    obtain ⟨h2, s1, s2, s3⟩ := q9_cols hR1
    have r2' := r2.fr s3 (fun n k _ _ z => by omega)
    have hW1 := hW.sa r3
    refine a9_sa hR ?_ (r3.trans (s3.mono (fun m k z => CS_SA z)))
    unfold b_X9_count_88
    simp only [nn_s, c0, c4, gd_t, rk7, r1, bd_s, hW1.1.1, hW1.1.2.2.2.2.1, s1, rk2, r2'.1.1, s_X2_meetings r2' s2]
  rw [if_neg q4, if_neg q4]
  by_cases q5 : w.toInt = 5
  · rw [if_pos q5, if_pos q5]
    refine ⟨h, ?_, hR, Ch.rf⟩
    unfold b_X9_count_108
    simp only [nn_s, c0, c4, gd_t, rk3, x3.1.1, s_X3_missing x3, bd_s, bc32, mi_cnt x3.2.1.1]
  rw [if_neg q5, if_neg q5]
  by_cases q6 : w.toInt = 6
  · rw [if_pos q6, if_pos q6]
    refine ⟨h, ?_, hR, Ch.rf⟩
    unfold b_X9_count_119
    simp only [nn_s, c0, c6, gd_t, x5.1, x5.2.2.2.2.1]
  rw [if_neg q6, if_neg q6]
  by_cases q7 : w.toInt = 7
  · rw [if_pos q7, if_pos q7]
    refine ⟨h, ?_, hR, Ch.rf⟩
    unfold b_X9_count_127
    simp only [nn_s, c0, c9, gd_t, x6.1, x6.2.2.2.2.1]
  rw [if_neg q7, if_neg q7]
  exact ⟨h, rfl, hR, Ch.rf⟩
theorem o10_count {h : HS} {a : ST} (hR : R10 h a) (w : Int32) : ∃ h', f_X10_count 42 w h = some (sp_count w a, h') ∧ R10 h' a ∧ Ch F10 h h' := by
  obtain ⟨h1, h2, r1, r2, r3, r4, r5, r6, r7⟩ := q10_both hR
  refine a10_q hR ?_ r7
  obtain ⟨hC, hP, hV, x4, x5, x6, x7, x8, k0, k1⟩ := id r6
  have hm := s_X10_many hC (lv := 0) (by omega) x5
  rw [show nI 0 = 0 from rfl] at hm
  unfold f_X10_count sp_count b_X10_count_56 b_X10_count_61 b_X10_count_67 b_X10_count_72 b_X10_count_77 b_X10_count_82 b_X10_count_87 b_X10_count_92 b_X10_count_97
  simp only [nn_s, rk8, hR.1.1.1, gd_t, r1, bd_s, r2, r3, hC.1.1, swT8, x4.2.1, hm, r4.2.1, r5.2.1, s_X10_filledCells hC r4 r5, s_X10_missingAmounts hC x5, x6.2.1, x7.2.1]
  by_cases q0 : w.toInt = 0
  · rw [if_pos q0, if_pos q0]
  rw [if_neg q0, if_neg q0]
  by_cases q1 : w.toInt = 1
  · rw [if_pos q1, if_pos q1]
  rw [if_neg q1, if_neg q1]
  by_cases q2 : w.toInt = 2
  · rw [if_pos q2, if_pos q2]
  rw [if_neg q2, if_neg q2]
  by_cases q3 : w.toInt = 3
  · rw [if_pos q3, if_pos q3]
  rw [if_neg q3, if_neg q3]
  by_cases q4 : w.toInt = 4
  · rw [if_pos q4, if_pos q4]
  rw [if_neg q4, if_neg q4]
  by_cases q5 : w.toInt = 5
  · rw [if_pos q5, if_pos q5]
  rw [if_neg q5, if_neg q5]
  by_cases q6 : w.toInt = 6
  · rw [if_pos q6, if_pos q6]
  rw [if_neg q6, if_neg q6]
  by_cases q7 : w.toInt = 7
  · rw [if_pos q7, if_pos q7]
  rw [if_neg q7, if_neg q7]
