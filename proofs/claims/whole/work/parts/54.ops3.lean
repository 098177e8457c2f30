/-! OPS: add, drop, change, undo of the reference -/
theorem al50 : al 50 = 238 := by decide
def SQ (m k : Nat) : Prop := m = 50 ∨ (m = 42 ∧ (k = 20 ∨ k = 21))
theorem getD_take {α : Type} (A : List α) (n j : Nat) (d : α) (h : j < n) : (A.take n).getD j d = A.getD j d := by
  simp only [List.getD_eq_getElem?_getD, List.getElem?_take, h, if_true]
def kaE (s : HS) : Option (Unit × HS) := nn (some 42) (fun n1 => gd (ck s n1 8) (gd (decide (¬ (14 : Int32) = 0)) (nn (some 42) (fun n2 => gd (ck s n2 8) (hl (sI s n2 21 (((hI s n1 21) + (1)) - ((hI s n1 21) + (1)) / (14) * (14))) (fun h3 => nn (some 42) (fun n4 => gd (ck h3 n4 8) ((if (14) ≤ (hI h3 n4 20) then b_X10_keepAct_68 (some 42) (14) h3 else nn (some 42) (fun n5 => gd (ck h3 n5 8) (b_X10_keepAct_68 (some 42) ((hI h3 n5 20) + (1)) h3)))))))))))
theorem s_X10_keepAct {h : HS} (hC : C10 h) {E : EL} {A : List EL} (hM : MV h 0 E) (hA : A10 h A) : ∃ h', f_X10_keepAct 42 h = some ((), h') ∧ A10 h' (E :: A.take 13) ∧ Ch SQ h h' := by
  obtain ⟨a1, a2, nx, a3, a4, a5⟩ := hA
  have hB : BV h 44 0 E := hM
  have key : f_X10_keepAct 42 h = kaE (fw (cpS 44 0 50 (17 * nx)) 0 17 h) := by
    unfold f_X10_keepAct
    refine it_up (fun n (s : HS) k => l_X10_keepAct_2 n 42 (nI k) s) 17 (cpS 44 0 50 (17 * nx)) kaE (fun k s => Ch (SC 50 (17 * nx)) h s) ?_ ?_ 17 FU h 0 (by omega) (by have := FU_gt; omega) Ch.rf
    · intro fu s k hk hs
      refine ⟨?_, hs.trans (Ch.sI ⟨rfl, by omega, by omega⟩)⟩
      have hC2 := hC.fr hs (fun n k z q => by unfold SC at z; omega)
      have hnx : hI s 42 21 = nI nx := by rw [hs.I (fun z => by unfold SC at z; omega)]; exact a4
      have hca1 : ca s 44 9 (nI k) = true := ca_nI hC2.1.2.2.1 (by rw [al44]; omega) (by rw [al44]; omega)
      have hca2 : ca s 50 9 (nI (17 * nx + k)) = true := ca_nI hC2.1.2.2.2.2.2.2.2.2.1 (by rw [al50]; omega) (by rw [al50]; omega)
      have e : (17 : Int32) * nI nx + nI k = nI (17 * nx + k) := by rw [show (17 : Int32) * nI nx = nI (17 * nx) from nI_mul 17 nx, nI_add]
      show b_X10_keepAct_2 (l_X10_keepAct_2 fu) 42 (nI k) s = _
      unfold b_X10_keepAct_2
      rw [if_neg (show ¬ (17 : Int32) ≤ nI k from nI_ge (a := k) (b := 17) (by omega) (by omega))]
      simp only [nn_s, hC2.1.1, gd_t, hC2.2.2.1, hC2.2.2.2.2.2.2.2.2.1, hnx, hca1, e, hca2, hl_s, nI_clamp (show k < 2 ^ 31 by omega), nI_clamp (show 17 * nx + k < 2 ^ 31 by omega), nI_1, cpS, Nat.zero_add]
    · intro fu s _
      show b_X10_keepAct_2 (l_X10_keepAct_2 fu) 42 (nI 17) s = _
      unfold b_X10_keepAct_2
      rw [if_pos (show (17 : Int32) ≤ nI 17 by decide)]
      rfl
  obtain ⟨c1, c2⟩ := cp_inv (h := h) (n1 := 44) (b1 := 0) (n2 := 50) (b2 := 17 * nx) (Or.inl (by decide))
  have hB2 := hB.cp (n2 := 50) (b2 := 17 * nx) (Or.inl (by decide))
  rw [key]
  generalize fw (cpS 44 0 50 (17 * nx)) 0 17 h = s at *
  have hC2 := hC.fr c1 (fun n k z q => by unfold SC at z; omega)
  have hnx : hI s 42 21 = nI nx := by rw [c1.I (fun z => by unfold SC at z; omega)]; exact a4
  have hac : hI s 42 20 = nI A.length := by rw [c1.I (fun z => by unfold SC at z; omega)]; exact a2
  have e14 : nI (nx + 1) - nI (nx + 1) / 14 * 14 = nI ((nx + 1) % 14) := nI_rem (d := 14) (by omega) (by omega) (by omega)
  have et : (A.take 13).length + 1 = if 14 ≤ A.length then 14 else A.length + 1 := by
    rw [List.length_take]
    split <;> omega
  have fin : kaE s = some ((), sI (sI s 42 21 (nI ((nx + 1) % 14))) 42 20 (nI ((A.take 13).length + 1))) := by
    unfold kaE b_X10_keepAct_68
    simp only [nn_s, hC2.1.1, gd_t, show decide (¬ (14 : Int32) = 0) = true by decide, hl_s, hnx, nI_1, e14, ck_sI, hI_sI, show ((20 : Nat) = 21) = False by decide, and_false, if_false, hac, et]
    by_cases q : 14 ≤ A.length
    · rw [if_pos (show (14 : Int32) ≤ nI A.length from nI_le (a := 14) q (by omega)), if_pos q]; rfl
    · rw [if_neg (show ¬ (14 : Int32) ≤ nI A.length from nI_ge (b := 14) (by omega) (by omega)), if_neg q]
  refine ⟨_, fin, ⟨?_, ?_, (nx + 1) % 14, by omega, ?_, fun j hj => ?_⟩, (c1.mono (fun m k z => by unfold SC at z; unfold SQ; omega)).trans ((Ch.sI (Or.inr ⟨rfl, Or.inr rfl⟩)).trans (Ch.sI (Or.inr ⟨rfl, Or.inl rfl⟩)))⟩
  · simp only [List.length_cons]; rw [et]; split <;> omega
  · rw [hI_sI, if_pos ⟨rfl, rfl⟩]; rfl
  · rw [hI_sI, if_neg (by omega), hI_sI, if_pos ⟨rfl, rfl⟩]
  · have cS : Ch (fun m k => m = 42) s (sI (sI s 42 21 (nI ((nx + 1) % 14))) 42 20 (nI ((A.take 13).length + 1))) := (Ch.sI (S := fun m k => m = 42) rfl).trans (Ch.sI rfl)
    cases j with
    | zero =>
      have : ((nx + 1) % 14 + 13 - 0) % 14 = nx := by omega
      rw [this]
      exact hB2.fr cS (fun k _ _ z => by omega)
    | succ j =>
      have hj2 : j < (A.take 13).length := by simpa using hj
      have hj3 : j < 13 ∧ j < A.length := by rw [List.length_take] at hj2; omega
      have e1 : ((nx + 1) % 14 + 13 - (j + 1)) % 14 = (nx + 13 - j) % 14 := by omega
      have e2 : (E :: A.take 13).getD (j + 1) [] = A.getD j [] := by
        show (A.take 13).getD j [] = _
        exact getD_take A 13 j [] hj3.1
      rw [e1, e2]
      refine BV.fr (BV.fr (a5 j hj3.2) c1 (fun k h1 h2 z => ?_)) cS (fun k _ _ z => by omega)
      unfold SC at z
      omega
theorem R10.acts {S : Nat → Nat → Prop} {h h' : HS} {a : ST} {E' : EL} {A' : List EL} (x : R10 h a) (c : Ch S h h') (hS : ∀ n k, S n k → n = 44 ∨ SQ n k) (hE : MV h' 0 E') (hA : A10 h' A') : R10 h' (a.1, a.2.1, E', A', a.2.2.2.2) := by
  obtain ⟨hC, hP, hV, t, x5, x6, x7, x8, k0, k1⟩ := id x
  exact x.mk2 c rfl (fun n k z q => by have := hS n k z; unfold SQ at this; omega) (t.fr c (fun n k z => by have := hS n k z; unfold SQ at this; omega)) hE hA (x7.fr c (fun n k z => by have := hS n k z; unfold SQ at this; omega)) (by rw [c.J (fun z => by have := hS _ _ z; unfold SQ at this; omega)]; exact x8) (k0.fr c (fun n k z => by have := hS n k z; unfold SQ at this; omega)) (k1.fr c (fun n k z => by have := hS n k z; unfold SQ at this; omega))
theorem asOne_eq (t w m : Nat) (h : HS) : f_X10_asOne (nI t) (nI w) (nI m) h = some (nI (one (t, w, m)), h) := by
  unfold f_X10_asOne one
  rw [show (10000 : Int32) = nI 10000 from rfl, show (1000 : Int32) = nI 1000 from rfl, nI_mul, nI_mul, nI_add, nI_add]
theorem o10_add {h : HS} {a : ST} (hR : R10 h a) (t w m : Int32) : ∃ h', f_X10_add 42 t w m h = some ((sp_add t w m a).1, h') ∧ R10 h' (sp_add t w m a).2 ∧ Ch F10 h h' := by
  obtain ⟨hC, hP, hV, x4, x5, x6, x7, x8, k0, k1⟩ := id hR
  have hn := x5.1.1
  unfold f_X10_add sp_add
  rw [s_X10_isEntry]
  simp only [bd_s]
  by_cases hok : eOk t w m
  · have e1 : eB t w m = 1 := by unfold eB; rw [if_pos hok]
    rw [if_pos hok, e1, if_neg (by decide)]
    have hmany := s_X10_many hC (lv := 0) (by omega) x5
    rw [show nI 0 = 0 from rfl] at hmany
    simp only [nn_s, rk8, hC.1.1, gd_t, hmany, bd_s]
    rw [show (16 : Int32) = nI 16 from rfl, ite_eq (by omega) (by omega)]
    by_cases h16 : a.2.2.1.length < 16
    · rw [if_neg (by omega), if_pos h16]
      obtain ⟨hv, et, ew, em⟩ := eOk_nat hok
      generalize t.toInt.toNat = t' at *
      generalize w.toInt.toNat = w' at *
      generalize m.toInt.toNat = m' at *
      subst et ew em
      obtain ⟨h1, b1, b2_, b3⟩ := s_X10_keepAct hC x5 x6
      have hC1 := hC.fr b3 (fun n k z q => by unfold SQ at z; omega)
      have hM1 := x5.fr b3 (fun k _ _ z => by unfold SQ at z; omega)
      obtain ⟨h2, d1, d2, d3⟩ := s_X10_addOn hC1 (lv := 0) (by omega) hM1 h16 hv
      rw [show nI 0 = 0 from rfl] at d1
      have hC2 := hC1.fr d3 (fun n k z q => by unfold SC at z; omega)
      have hmany2 := s_X10_many hC2 (lv := 0) (by omega) d2
      rw [show nI 0 = 0 from rfl] at hmany2
      simp only [b1, bd_s, asOne_eq, hC1.1.1, gd_t, d1, hC2.1.1, hmany2]
      have call : Ch (fun n k => n = 44 ∨ SQ n k) h h2 := (b3.mono (fun n k z => Or.inr z)).trans (d3.mono (fun n k z => Or.inl z.1))
      refine ⟨h2, ?_, hR.acts call (fun n k z => z) d2 (b2_.fr d3 (fun n k z => by unfold SC at z; omega)), call.mono (fun n k z => by unfold SQ at z; unfold F10; omega)⟩
      simp only [List.length_append, List.length_cons, List.length_nil]
    · rw [if_pos (by omega), if_neg h16]
      exact ⟨h, rfl, hR, Ch.rf⟩
  · have e1 : eB t w m = 0 := by unfold eB; rw [if_neg hok]
    rw [if_neg hok, e1, if_pos rfl]
    exact ⟨h, rfl, hR, Ch.rf⟩
theorem s_X10_isThere {h : HS} (hC : C10 h) {E : EL} (hM : MV h 0 E) (e : Int32) : f_X10_isThere 42 e h = some (if 0 ≤ e.toInt ∧ e.toInt < E.length then 1 else 0, h) := by
  have hn := hM.1.1
  have hmany := s_X10_many hC (lv := 0) (by omega) hM
  rw [show nI 0 = 0 from rfl] at hmany
  have e1 : ((nI E.length - 1).toInt64).toInt = (E.length : Int) - 1 := by
    rw [Int32.toInt_toInt64]
    cases hl : E.length with
    | zero => decide
    | succ n => rw [show nI (n + 1) - 1 = nI n from nI_pred n, nI_i (by omega)]; omega
  unfold f_X10_isThere
  simp only [nn_s, rk8, hC.1.1, gd_t, hmany, bd_s, s_X10_in, e1, show (0 : Int64).toInt = 0 from rfl]
  by_cases h1 : 0 ≤ e.toInt ∧ e.toInt < E.length
  · rw [if_pos h1, if_pos (by omega)]; simp only [z1, gd_t]
  · rw [if_neg h1, if_neg (by omega)]; simp only [z0, gd_t]
theorem o10_drop {h : HS} {a : ST} (hR : R10 h a) (e : Int32) : ∃ h', f_X10_drop 42 e h = some ((sp_drop e a).1, h') ∧ R10 h' (sp_drop e a).2 ∧ Ch F10 h h' := by
  obtain ⟨hC, hP, hV, x4, x5, x6, x7, x8, k0, k1⟩ := id hR
  have hn := x5.1.1
  unfold f_X10_drop sp_drop
  simp only [nn_s, rk8, hC.1.1, gd_t, s_X10_isThere hC x5, bd_s]
  by_cases hok : 0 ≤ e.toInt ∧ e.toInt < a.2.2.1.length
  · have ee := nat_of hok.1
    have hp : e.toInt.toNat < a.2.2.1.length := by omega
    simp only [hok, and_self, if_true, one0, if_false]
    generalize e.toInt.toNat = e' at *
    subst ee
    obtain ⟨h1, b1, b2_, b3⟩ := s_X10_keepAct hC x5 x6
    have hC1 := hC.fr b3 (fun n k z q => by unfold SQ at z; omega)
    have hM1 := x5.fr b3 (fun k _ _ z => by unfold SQ at z; omega)
    have ham := s_X10_amountOf hC1 (lv := 0) (by omega) hM1 hp
    obtain ⟨r, d1, d2, d3⟩ := s_X10_dropOn hC1 (lv := 0) (by omega) hM1 hp
    rw [show nI 0 = 0 from rfl] at d1 ham
    simp only [b1, bd_s, hC1.1.1, gd_t, ham, d1]
    have call : Ch (fun n k => n = 44 ∨ SQ n k) h r.2 := (b3.mono (fun n k z => Or.inr z)).trans (d3.mono (fun n k z => Or.inl z.1))
    exact ⟨r.2, rfl, hR.acts call (fun n k z => z) d2 (b2_.fr d3 (fun n k z => by unfold SC at z; omega)), call.mono (fun n k z => by unfold SQ at z; unfold F10; omega)⟩
  · simp only [hok, if_false, if_true]
    exact ⟨h, rfl, hR, Ch.rf⟩
theorem MV.amt {h : HS} {lv : Nat} {E : EL} (hM : MV h lv E) {p m : Nat} (hp : p < E.length) (hm : m ≤ 100) : MV (sI h 44 (17 * lv + 1 + p) (nI (one (en E p)) + (nI m - nI (am E p)))) lv (E.set p (tw E p, wa E p, m)) := by
  have hv := hM.1.2 p hp
  have e1 : nI (one (en E p)) + (nI m - nI (am E p)) = nI (one (tw E p, wa E p, m)) := by
    have h1 : one (en E p) = (10000 * tw E p + 1000 * wa E p) + am E p := rfl
    have h2 : one (tw E p, wa E p, m) = (10000 * tw E p + 1000 * wa E p) + m := rfl
    rw [h1, h2]
    generalize 10000 * tw E p + 1000 * wa E p = K
    rw [← nI_add K, ← nI_add K, Int32.add_assoc]
    congr 1
    rw [Int32.add_comm, Int32.sub_add_cancel]
  rw [e1]
  refine ⟨hM.1.set hp ⟨hv.1, hv.2.1, hm⟩, ?_, fun i hi => ?_⟩
  · rw [hI_sI, if_neg (by omega), List.length_set]; exact hM.2.1
  · rw [List.length_set] at hi
    rw [en_set hp, hI_sI]
    by_cases q : i = p
    · subst q; rw [if_pos ⟨rfl, rfl⟩, if_pos rfl]
    · rw [if_neg (by omega), if_neg q]; exact hM.2.2 i hi
theorem o10_change {h : HS} {a : ST} (hR : R10 h a) (e m : Int32) : ∃ h', f_X10_change 42 e m h = some ((sp_change e m a).1, h') ∧ R10 h' (sp_change e m a).2 ∧ Ch F10 h h' := by
  obtain ⟨hC, hP, hV, x4, x5, x6, x7, x8, k0, k1⟩ := id hR
  have hn := x5.1.1
  unfold f_X10_change sp_change
  simp only [nn_s, rk8, hC.1.1, gd_t, s_X10_isThere hC x5, bd_s, s_X10_in, show (0 : Int64).toInt = 0 from rfl, show (100 : Int64).toInt = 100 from rfl]
  by_cases hok : 0 ≤ e.toInt ∧ e.toInt < a.2.2.1.length
  · by_cases hm : 0 ≤ m.toInt ∧ m.toInt ≤ 100
    · have ee := nat_of hok.1
      have em := nat_of hm.1
      have hp : e.toInt.toNat < a.2.2.1.length := by omega
      have hm2 : m.toInt.toNat ≤ 100 := by omega
      simp only [hok, hm, and_self, if_true, one0, if_false]
      generalize e.toInt.toNat = e' at *
      generalize m.toInt.toNat = m' at *
      subst ee em
      obtain ⟨h1, b1, b2_, b3⟩ := s_X10_keepAct hC x5 x6
      have hC1 := hC.fr b3 (fun n k z q => by unfold SQ at z; omega)
      have hM1 := x5.fr b3 (fun k _ _ z => by unfold SQ at z; omega)
      have ham := s_X10_amountOf hC1 (lv := 0) (by omega) hM1 hp
      rw [show nI 0 = 0 from rfl] at ham
      have ei : (1 : Int32) + nI e' = nI (17 * 0 + 1 + e') := nI_add 1 e'
      have hca : ca h1 44 9 (nI (17 * 0 + 1 + e')) = true := ca_nI hC1.1.2.2.1 (by rw [al44]; omega) (by rw [al44]; omega)
      simp only [b1, bd_s, hC1.1.1, gd_t, ham, hC1.2.2.1, nn_s, ei, hca, nI_clamp (show 17 * 0 + 1 + e' < 2 ^ 31 by omega), hM1.2.2 e' hp]
      have d3 : Ch (fun n k => n = 44) h1 (sI h1 44 (17 * 0 + 1 + e') (nI (one (en a.2.2.1 e')) + (nI m' - nI (am a.2.2.1 e')))) := Ch.sI rfl
      have call : Ch (fun n k => n = 44 ∨ SQ n k) h (sI h1 44 (17 * 0 + 1 + e') (nI (one (en a.2.2.1 e')) + (nI m' - nI (am a.2.2.1 e')))) := (b3.mono (fun n k z => Or.inr z)).trans (d3.mono (fun n k z => Or.inl z))
      exact ⟨_, rfl, hR.acts call (fun n k z => z) (hM1.amt hp hm2) (b2_.fr d3 (fun n k z => by omega)), call.mono (fun n k z => by unfold SQ at z; unfold F10; omega)⟩
    · simp only [hok, hm, and_self, if_true, one0, if_false]
      exact ⟨h, rfl, hR, Ch.rf⟩
  · simp only [hok, if_false, if_true]
    exact ⟨h, rfl, hR, Ch.rf⟩
theorem o10_undo {h : HS} {a : ST} (hR : R10 h a) : ∃ h', f_X10_undo 42 h = some ((sp_undo a).1, h') ∧ R10 h' (sp_undo a).2 ∧ Ch F10 h h' := by
  obtain ⟨hC, hP, hV, x4, x5, ⟨a1, a2, nx, a3, a4, a5⟩, x7, x8, k0, k1⟩ := id hR
  unfold f_X10_undo sp_undo
  simp only [nn_s, hC.1.1, gd_t]
  cases hA : a.2.2.2.1 with
  | nil =>
    rw [hA] at a2
    rw [if_pos (show hI h 42 20 = 0 from a2)]
    exact ⟨h, rfl, hR, Ch.rf⟩
  | cons s t =>
    rw [hA] at a1 a2 a5
    simp only [List.length_cons] at a1 a2
    rw [a2, if_neg (nI_ne0 (by omega) (by omega))]
    have e1 : nI (t.length + 1) - 1 = nI t.length := nI_pred t.length
    have e14 : nI nx + 13 - (nI nx + 13) / 14 * 14 = nI ((nx + 13) % 14) := by
      rw [show nI nx + 13 = nI (nx + 13) from nI_add nx 13]
      exact nI_rem (d := 14) (by omega) (by omega) (by omega)
    simp only [e1, hl_s, ck_sI, hC.1.1, gd_t, show decide (¬ (14 : Int32) = 0) = true by decide, nn_s, hI_sI, show ((21 : Nat) = 20) = False by decide, and_false, if_false, a4, e14]
    have c0 : Ch (fun m k => m = 42 ∧ (k = 20 ∨ k = 21)) h (sI (sI h 42 20 (nI t.length)) 42 21 (nI ((nx + 13) % 14))) := (Ch.sI ⟨rfl, Or.inl rfl⟩).trans (Ch.sI ⟨rfl, Or.inr rfl⟩)
    have n21 : hI (sI (sI h 42 20 (nI t.length)) 42 21 (nI ((nx + 13) % 14))) 42 21 = nI ((nx + 13) % 14) := by rw [hI_sI, if_pos ⟨rfl, rfl⟩]
    have n20 : hI (sI (sI h 42 20 (nI t.length)) 42 21 (nI ((nx + 13) % 14))) 42 20 = nI t.length := by rw [hI_sI, if_neg (by omega), hI_sI, if_pos ⟨rfl, rfl⟩]
    have hBs : BV h 50 (17 * ((nx + 13) % 14)) s := by
      have := a5 0 (by simp)
      simpa using this
    generalize hg : sI (sI h 42 20 (nI t.length)) 42 21 (nI ((nx + 13) % 14)) = g at *
    have hC1 := hC.fr c0 (fun n k z q => by omega)
    have hB1 := hBs.fr c0 (fun k _ _ z => by omega)
    have hm : (nx + 13) % 14 < 14 := by omega
    generalize hy : (nx + 13) % 14 = y at *
    have key : l_X10_undo_36 FU 42 0 g = (fun s : HS => some (hI s 42 20, s)) (fw (cpS 50 (17 * y) 44 0) 0 17 g) := by
      refine it_up (fun n (s : HS) k => l_X10_undo_36 n 42 (nI k) s) 17 (cpS 50 (17 * y) 44 0) (fun s : HS => some (hI s 42 20, s)) (fun k s => Ch (SC 44 0) g s) ?_ ?_ 17 FU g 0 (by omega) (by have := FU_gt; omega) Ch.rf
      · intro fu s k hk hs
        refine ⟨?_, hs.trans (Ch.sI ⟨rfl, by omega, by omega⟩)⟩
        have hC2 := hC1.fr hs (fun n k z q => by unfold SC at z; omega)
        have hnx : hI s 42 21 = nI y := by rw [hs.I (fun z => by unfold SC at z; omega)]; exact n21
        have hca1 : ca s 44 9 (nI k) = true := ca_nI hC2.1.2.2.1 (by rw [al44]; omega) (by rw [al44]; omega)
        have hca2 : ca s 50 9 (nI (17 * y + k)) = true := ca_nI hC2.1.2.2.2.2.2.2.2.2.1 (by rw [al50]; omega) (by rw [al50]; omega)
        have e : (17 : Int32) * nI y + nI k = nI (17 * y + k) := by rw [show (17 : Int32) * nI y = nI (17 * y) from nI_mul 17 y, nI_add]
        show b_X10_undo_36 (l_X10_undo_36 fu) 42 (nI k) s = _
        unfold b_X10_undo_36
        rw [if_neg (show ¬ (17 : Int32) ≤ nI k from nI_ge (a := k) (b := 17) (by omega) (by omega))]
        simp only [nn_s, hC2.1.1, gd_t, hC2.2.2.1, hC2.2.2.2.2.2.2.2.2.1, hnx, hca1, e, hca2, hl_s, nI_clamp (show k < 2 ^ 31 by omega), nI_clamp (show 17 * y + k < 2 ^ 31 by omega), nI_1, cpS, Nat.zero_add]
      · intro fu s hs
        have hC2 := hC1.fr hs (fun n k z q => by unfold SC at z; omega)
        show b_X10_undo_36 (l_X10_undo_36 fu) 42 (nI 17) s = _
        unfold b_X10_undo_36
        rw [if_pos (show (17 : Int32) ≤ nI 17 by decide)]
        simp only [nn_s, hC2.1.1, gd_t]
    obtain ⟨c1, c2⟩ := cp_inv (h := g) (n1 := 50) (b1 := 17 * y) (n2 := 44) (b2 := 0) (Or.inl (by decide))
    have hB2 : BV (fw (cpS 50 (17 * y) 44 0) 0 17 g) 44 0 s := hB1.cp (Or.inl (by decide))
    rw [key]
    generalize fw (cpS 50 (17 * y) 44 0) 0 17 g = u at *
    have m20 : hI u 42 20 = nI t.length := by rw [c1.I (fun z => by unfold SC at z; omega)]; exact n20
    have m21 : hI u 42 21 = nI y := by rw [c1.I (fun z => by unfold SC at z; omega)]; exact n21
    have call : Ch (fun n k => n = 44 ∨ SQ n k) h u := (c0.mono (fun n k z => Or.inr (Or.inr z))).trans (c1.mono (fun n k z => Or.inl z.1))
    simp only [m20]
    refine ⟨u, rfl, hR.acts call (fun n k z => z) hB2 ⟨by omega, m20, y, hm, m21, fun j hj => ?_⟩, call.mono (fun n k z => by unfold SQ at z; unfold F10; omega)⟩
    have e1 : (y + 13 - j) % 14 = (nx + 13 - (j + 1)) % 14 := by omega
    rw [e1]
    have := a5 (j + 1) (by simp only [List.length_cons]; omega)
    exact BV.fr (BV.fr this c0 (fun k _ _ z => by omega)) c1 (fun k _ _ z => by unfold SC at z; omega)
