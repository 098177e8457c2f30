/-! OPS: write, wipe, seed, see, unsee -/
theorem nat_of {x : Int32} (h : 0 ≤ x.toInt) : x = nI x.toInt.toNat := by
  have hlt := Int32.toInt_lt x
  refine Int32.toInt_inj.mp ?_
  rw [nI_toInt (by omega)]
  omega
theorem i32_lt (p q : Int32) : p < q ↔ p.toInt < q.toInt := Int32.lt_iff_toInt_lt
theorem i32_eq (p q : Int32) : p = q ↔ p.toInt = q.toInt := Int32.toInt_inj.symm
theorem ka_snoc (T : List Nat) (x i : Nat) (hi : i < T.length + 1) : ka (T ++ [x]) i = if i = T.length then x else ka T i := by
  simp only [ka, List.getD_eq_getElem?_getD, List.getElem?_append]
  by_cases q : i = T.length
  · subst q; simp
  · simp [q, show i < T.length by omega]
theorem al2 : al 2 = 32 := by decide
theorem al43 : al 43 = 32 := by decide
theorem rk5 (h : HS) (n : Nat) : rk h n 5 = ck h n 5 := rk_lo (by omega)
theorem rk6 (h : HS) (n : Nat) : rk h n 6 = ck h n 6 := rk_lo (by omega)
theorem rk1 (h : HS) (n : Nat) : rk h n 1 = ck h n 1 := rk_lo (by omega)
theorem rk0 (h : HS) (n : Nat) : rk h n 0 = ck h n 0 := rk_lo (by omega)
theorem one0 : ((1 : Int32) = 0) = False := by decide
/-- R9 where only some parts have changed -/
theorem R9.mk2 {S : Nat → Nat → Prop} {h h' : HS} {a a' : ST} (x : R9 h a) (c : Ch S h h') (hW : a'.2.1 = a.2.1) (h0 : ∀ n k, S n k → n ≠ 0 ∧ n ≠ 3 ∧ n ≠ 4 ∧ n ≠ 29 ∧ n ≠ 33) (hT : T9 h' a'.1) (hE : ER h' 5 a'.2.2.1) (h9 : EN h' 9) (hA : A9 h' a'.2.2.1 a'.2.2.2.1) (hS : S9 h' a'.2.2.2.2.1) (hD : hJ h' 0 10 = a'.2.2.2.2.2.1) (hK : K9 h' a'.2.2.2.2.2.2.1 a'.2.2.2.2.2.2.2) : R9 h' a' := by
  obtain ⟨⟨p, q, x1⟩, -⟩ := x
  refine ⟨⟨p, q, ?_⟩, hT, hE, h9, hA, hS, hD, hK⟩
  rw [hW]
  exact x1.fr c (fun k _ z => (h0 _ _ z).1 rfl) (fun k z => (h0 _ _ z).2.1 rfl) (fun k z => (h0 _ _ z).2.2.1 rfl) (fun k _ z => (h0 _ _ z).2.2.2.1 rfl) (fun k _ z => (h0 _ _ z).2.2.2.2 rfl)
def sp_write (x : Int32) (a : ST) : Int32 × ST := if 0 ≤ x.toInt ∧ x.toInt ≤ 255 then (if a.1.length < 32 then (nI (a.1.length + 1), (a.1 ++ [x.toInt.toNat], a.2)) else (-4, a)) else (-2, a)
theorem o9_write {h : HS} {a : ST} (hR : R9 h a) (x : Int32) : ∃ h', f_X9_write 0 x h = some ((sp_write x a).1, h') ∧ R9 h' (sp_write x a).2 ∧ Ch F9 h h' := by
  obtain ⟨⟨p, q, hW⟩, ⟨t1, t2, t3, t4, t5, t6, t7⟩, x3, x4, x5, x6, x7, x8⟩ := id hR
  unfold f_X9_write b_X9_write_11 b_X9_write_37 sp_write
  simp only [i32_lt, i32_le, show (255 : Int32).toInt = 255 from rfl, show (0 : Int32).toInt = 0 from rfl]
  by_cases h1 : 0 ≤ x.toInt ∧ x.toInt ≤ 255
  · rw [if_neg (by omega), if_pos h1.2, if_pos h1]
    unfold f_X7_put b_X7_put_17 b_X7_put_42
    simp only [nn_s, hW.1.1, gd_t, hW.1.2.1, rk5, t1, t2, t3, al2, t5, show Int32.ofNat 32 = nI 32 from rfl]
    rw [ite_le (by omega) (by omega)]
    by_cases h2 : a.1.length < 32
    · rw [if_neg (by omega), if_pos h2]
      have hca : ca h 2 9 (nI a.1.length) = true := ca_nI t3 (by rw [al2]; omega) (by rw [al2]; omega)
      simp only [one0, if_false, hca, gd_t, hl_s, nI_clamp (show a.1.length < 2 ^ 31 by omega), hI_sI, show ((1 : Nat) = 2) = False by decide, false_and, ck_sI, t1, t5, nI_1, z1, bd_s, hP_sI, hW.1.1, hW.1.2.1, and_self, if_true, nn_s]
      have c : Ch (fun m _ => m = 1 ∨ m = 2) h (sI (sI h 2 a.1.length x) 1 1 (nI (a.1.length + 1))) := (Ch.sI (Or.inr rfl)).trans (Ch.sI (Or.inl rfl))
      refine ⟨_, rfl, ?_, c.mono (fun m k z => Or.inl (by omega))⟩
      refine hR.mk2 c rfl (fun n k z => by omega) ?_ (x3.fr c (fun n k _ _ z => by omega)) (x4.fr c (fun n k _ _ z => by omega)) (x5.fr c (fun n k z => by omega)) (x6.fr c (fun n k z => by omega)) (by rw [c.J (fun z => by omega)]; exact x7) (x8.fr c (fun n k z => by omega))
      refine ⟨t1, t2, t3, ?_, ?_, fun i hi => ?_, fun i hi => ?_⟩
      · simp only [List.length_append, List.length_cons, List.length_nil]; omega
      · rw [hI_sI, if_pos ⟨rfl, rfl⟩]
        simp only [List.length_append, List.length_cons, List.length_nil]
      · have hi' : i < a.1.length + 1 := by simpa using hi
        rw [ka_snoc _ _ _ hi', hI_sI, if_neg (by omega), hI_sI]
        by_cases q : i = a.1.length
        · rw [if_pos ⟨rfl, q⟩, if_pos q]; exact nat_of h1.1
        · rw [if_neg (fun z => q z.2), if_neg q]; exact t6 i (by omega)
      · have hi' : i < a.1.length + 1 := by simpa using hi
        rw [ka_snoc _ _ _ hi']
        split
        · omega
        · exact t7 i (by omega)
    · rw [if_pos (by omega), if_neg h2]
      simp only [if_true, z0, gd_t, bd_s]
      exact ⟨h, rfl, hR, Ch.rf⟩
  · rw [if_neg h1]
    by_cases h2 : x.toInt < 0
    · rw [if_pos h2]; exact ⟨h, rfl, hR, Ch.rf⟩
    · rw [if_neg h2, if_neg (by omega)]; exact ⟨h, rfl, hR, Ch.rf⟩
/-- R10 where only some parts have changed -/
theorem R10.mk2 {S : Nat → Nat → Prop} {h h' : HS} {a : ST} {a' : ST} (x : R10 h a) (c : Ch S h h') (hW : a'.2.1 = a.2.1) (h0 : ∀ n k, S n k → n = 42 → k = 11 ∨ k = 13 ∨ k = 14 ∨ k = 20 ∨ k = 21 ∨ k = 23 ∨ k = 27) (hT : T10 h' a'.1) (hE : MV h' 0 a'.2.2.1) (hA : A10 h' a'.2.2.2.1) (hS : S10 h' a'.2.2.2.2.1) (hD : hJ h' 42 27 = a'.2.2.2.2.2.1) (hK0 : Kq h' 0 a'.2.2.2.2.2.2.1) (hK1 : Kq h' 1 a'.2.2.2.2.2.2.2) : R10 h' a' := by
  obtain ⟨x1, x2, hV, -⟩ := x
  refine ⟨x1.fr c (fun n k z q => by have := h0 n k z q; omega), ?_, by rw [hW]; exact hV, hT, hE, hA, hS, hD, hK0, hK1⟩
  rw [hW]
  exact x2.fr c (fun k _ z => by have := h0 _ k z rfl; omega)
theorem A10.fr {S : Nat → Nat → Prop} {h h' : HS} {A : List EL} (x : A10 h A) (c : Ch S h h') (hS : ∀ n k, S n k → n ≠ 50 ∧ (n = 42 → k ≠ 20 ∧ k ≠ 21)) : A10 h' A := by
  obtain ⟨a1, a2, nx, a3, a4, a5⟩ := x
  refine ⟨a1, ?_, nx, a3, ?_, fun j hj => (a5 j hj).fr c (fun k _ _ z => (hS _ _ z).1 rfl)⟩
  · rw [c.I (fun z => ((hS _ _ z).2 rfl).1 rfl)]; exact a2
  · rw [c.I (fun z => ((hS _ _ z).2 rfl).2 rfl)]; exact a4
theorem S10.fr {S : Nat → Nat → Prop} {h h' : HS} {L : SL} (x : S10 h L) (c : Ch S h h') (hS : ∀ n k, S n k → n ≠ 51 ∧ n ≠ 52 ∧ n ≠ 53 ∧ (n = 42 → k ≠ 23)) : S10 h' L := by
  obtain ⟨s1, s2, s3⟩ := x
  refine ⟨s1, ?_, fun i hi => ?_⟩
  · rw [c.I (fun z => (hS _ _ z).2.2.2 rfl rfl)]; exact s2
  · rw [c.I (fun z => (hS _ _ z).1 rfl), c.I (fun z => (hS _ _ z).2.1 rfl), c.I (fun z => (hS _ _ z).2.2.1 rfl)]; exact s3 i hi
theorem T10.fr {S : Nat → Nat → Prop} {h h' : HS} {T : List Nat} (x : T10 h T) (c : Ch S h h') (hS : ∀ n k, S n k → n ≠ 43 ∧ (n = 42 → k ≠ 11)) : T10 h' T := by
  obtain ⟨t1, t2, t3, t4⟩ := x
  refine ⟨t1, ?_, fun i hi => ?_, t4⟩
  · rw [c.I (fun z => (hS _ _ z).2 rfl rfl)]; exact t2
  · rw [c.I (fun z => (hS _ _ z).1 rfl)]; exact t3 i hi
theorem Kq.fr {S : Nat → Nat → Prop} {h h' : HS} {s : Nat} {k : Option EL} (x : Kq h s k) (c : Ch S h h') (hS : ∀ n k, S n k → n ≠ 54 ∧ n ≠ 55) : Kq h' s k := by
  cases k with
  | none => show hI h' 54 s = 0; rw [c.I (fun z => (hS _ _ z).1 rfl)]; exact x
  | some X => exact ⟨by rw [c.I (fun z => (hS _ _ z).1 rfl)]; exact x.1, x.2.fr c (fun k _ _ z => (hS _ _ z).2 rfl)⟩
theorem o10_write {h : HS} {a : ST} (hR : R10 h a) (x : Int32) : ∃ h', f_X10_write 42 x h = some ((sp_write x a).1, h') ∧ R10 h' (sp_write x a).2 ∧ Ch F10 h h' := by
  obtain ⟨hC, hP, hV, ⟨t1, t2, t3, t4⟩, x5, x6, x7, x8, k0, k1⟩ := id hR
  unfold f_X10_write sp_write
  rw [s_X10_in]
  simp only [bd_s, show (0 : Int64).toInt = 0 from rfl, show (255 : Int64).toInt = 255 from rfl]
  by_cases h1 : 0 ≤ x.toInt ∧ x.toInt ≤ 255
  · rw [if_pos h1, if_neg (by decide), if_pos h1]
    simp only [nn_s, hC.1.1, gd_t, t2]
    rw [show (32 : Int32) = nI 32 from rfl, ite_eq (by omega) (by omega)]
    by_cases h2 : a.1.length < 32
    · rw [if_neg (by omega), if_pos h2]
      have hca : ca h 43 9 (nI a.1.length) = true := ca_nI hC.1.2.1 (by rw [al43]; omega) (by rw [al43]; omega)
      simp only [hC.1.1, hC.2.1, nn_s, hca, gd_t, hl_s, nI_clamp (show a.1.length < 2 ^ 31 by omega), hI_sI, show ((42 : Nat) = 43) = False by decide, false_and, if_false, ck_sI, t2, nI_1, and_self, if_true]
      have c : Ch (fun m k => (m = 42 ∧ k = 11) ∨ m = 43) h (sI (sI h 43 a.1.length x) 42 11 (nI (a.1.length + 1))) := (Ch.sI (Or.inr rfl)).trans (Ch.sI (Or.inl ⟨rfl, rfl⟩))
      refine ⟨_, rfl, ?_, c.mono (fun m k z => by unfold F10; omega)⟩
      refine hR.mk2 c rfl (fun n k z q => by omega) ?_ (x5.fr c (fun k _ _ z => by omega)) (x6.fr c (fun n k z => by omega)) (x7.fr c (fun n k z => by omega)) (by rw [c.J (fun z => by omega)]; exact x8) (k0.fr c (fun n k z => by omega)) (k1.fr c (fun n k z => by omega))
      refine ⟨?_, ?_, fun i hi => ?_, fun i hi => ?_⟩
      · simp only [List.length_append, List.length_cons, List.length_nil]; omega
      · rw [hI_sI, if_pos ⟨rfl, rfl⟩]
        simp only [List.length_append, List.length_cons, List.length_nil]
      · have hi' : i < a.1.length + 1 := by simpa using hi
        rw [ka_snoc _ _ _ hi', hI_sI, if_neg (by omega), hI_sI]
        by_cases q : i = a.1.length
        · rw [if_pos ⟨rfl, q⟩, if_pos q]; exact nat_of h1.1
        · rw [if_neg (fun z => q z.2), if_neg q]; exact t3 i (by omega)
      · have hi' : i < a.1.length + 1 := by simpa using hi
        rw [ka_snoc _ _ _ hi']
        split
        · omega
        · exact t4 i (by omega)
    · rw [if_pos (by omega), if_neg h2]
      exact ⟨h, rfl, hR, Ch.rf⟩
  · rw [if_neg h1, if_pos rfl, if_neg h1]
    exact ⟨h, rfl, hR, Ch.rf⟩
def sp_wipe (a : ST) : Int32 × ST := (nI a.1.length, ([], a.2))
theorem o9_wipe {h : HS} {a : ST} (hR : R9 h a) : ∃ h', f_X9_wipe 0 h = some ((sp_wipe a).1, h') ∧ R9 h' (sp_wipe a).2 ∧ Ch F9 h h' := by
  obtain ⟨⟨p, q, hW⟩, ⟨t1, t2, t3, t4, t5, t6, t7⟩, x3, x4, x5, x6, x7, x8⟩ := id hR
  unfold f_X9_wipe sp_wipe
  simp only [nn_s, hW.1.1, gd_t, hW.1.2.1, t1, t5]
  have c : Ch (fun m _ => m = 1) h (sI h 1 1 0) := Ch.sI rfl
  refine ⟨_, rfl, ?_, c.mono (fun m k z => Or.inl (by omega))⟩
  refine hR.mk2 c rfl (fun n k z => by omega) ⟨t1, t2, t3, by simp, by rw [hI_sI, if_pos ⟨rfl, rfl⟩]; rfl, fun i hi => by simp at hi, fun i hi => by simp at hi⟩ (x3.fr c (fun n k _ _ z => by omega)) (x4.fr c (fun n k _ _ z => by omega)) (x5.fr c (fun n k z => by omega)) (x6.fr c (fun n k z => by omega)) (by rw [c.J (fun z => by omega)]; exact x7) (x8.fr c (fun n k z => by omega))
theorem o10_wipe {h : HS} {a : ST} (hR : R10 h a) : ∃ h', f_X10_wipe 42 h = some ((sp_wipe a).1, h') ∧ R10 h' (sp_wipe a).2 ∧ Ch F10 h h' := by
  obtain ⟨hC, hP, hV, ⟨t1, t2, t3, t4⟩, x5, x6, x7, x8, k0, k1⟩ := id hR
  unfold f_X10_wipe sp_wipe
  simp only [nn_s, hC.1.1, gd_t, t2]
  have c : Ch (fun m k => m = 42 ∧ k = 11) h (sI h 42 11 0) := Ch.sI ⟨rfl, rfl⟩
  refine ⟨_, rfl, ?_, c.mono (fun m k z => by unfold F10; omega)⟩
  refine hR.mk2 c rfl (fun n k z q => by omega) ⟨by simp, by rw [hI_sI, if_pos ⟨rfl, rfl⟩]; rfl, fun i hi => by simp at hi, fun i hi => by simp at hi⟩ (x5.fr c (fun k _ _ z => by omega)) (x6.fr c (fun n k z => by omega)) (x7.fr c (fun n k z => by omega)) (by rw [c.J (fun z => by omega)]; exact x8) (k0.fr c (fun n k z => by omega)) (k1.fr c (fun n k z => by omega))
def sp_seed (x : Int64) (a : ST) : Int64 × ST := (a.2.2.2.2.2.1, (a.1, a.2.1, a.2.2.1, a.2.2.2.1, a.2.2.2.2.1, x, a.2.2.2.2.2.2))
theorem o9_seed {h : HS} {a : ST} (hR : R9 h a) (x : Int64) : ∃ h', f_X9_seed 0 x h = some ((sp_seed x a).1, h') ∧ R9 h' (sp_seed x a).2 ∧ Ch F9 h h' := by
  obtain ⟨⟨p, q, hW⟩, x2, x3, x4, x5, x6, x7, x8⟩ := id hR
  unfold f_X9_seed sp_seed
  simp only [nn_s, hW.1.1, gd_t, x7]
  have c : Ch (fun m k => m = 0 ∧ k = 10) h (sJ h 0 10 x) := Ch.sJ ⟨rfl, rfl⟩
  refine ⟨_, rfl, ⟨⟨p, q, hW.fr c (fun k _ z => by omega) (fun k z => by omega) (fun k z => by omega) (fun k _ z => by omega) (fun k _ z => by omega)⟩, x2.fr c (fun n k z => by omega), x3.fr c (fun n k _ _ z => by omega), x4.fr c (fun n k _ _ z => by omega), x5.fr c (fun n k z => by omega), x6.fr c (fun n k z => by omega), by rw [hJ_sJ, if_pos ⟨rfl, rfl⟩], x8.fr c (fun n k z => by omega)⟩, c.mono (fun m k z => Or.inl (by omega))⟩
theorem o10_seed {h : HS} {a : ST} (hR : R10 h a) (x : Int64) : ∃ h', f_X10_seed 42 x h = some ((sp_seed x a).1, h') ∧ R10 h' (sp_seed x a).2 ∧ Ch F10 h h' := by
  obtain ⟨hC, hP, hV, t, x5, x6, x7, x8, k0, k1⟩ := id hR
  unfold f_X10_seed sp_seed
  simp only [nn_s, hC.1.1, gd_t, x8]
  have c : Ch (fun m k => m = 42 ∧ k = 27) h (sJ h 42 27 x) := Ch.sJ ⟨rfl, rfl⟩
  refine ⟨_, rfl, ?_, c.mono (fun m k z => by unfold F10; omega)⟩
  refine hR.mk2 c rfl (fun n k z q => by omega) (t.fr c (fun n k z => by omega)) (x5.fr c (fun k _ _ z => by omega)) (x6.fr c (fun n k z => by omega)) (x7.fr c (fun n k z => by omega)) (by rw [hJ_sJ, if_pos ⟨rfl, rfl⟩]) (k0.fr c (fun n k z => by omega)) (k1.fr c (fun n k z => by omega))
def sp_unsee (a : ST) : Int32 × ST := (nI a.2.2.2.2.1.length, (a.1, a.2.1, a.2.2.1, a.2.2.2.1, [], a.2.2.2.2.2))
theorem o9_unsee {h : HS} {a : ST} (hR : R9 h a) : ∃ h', f_X9_unsee 0 h = some ((sp_unsee a).1, h') ∧ R9 h' (sp_unsee a).2 ∧ Ch F9 h h' := by
  obtain ⟨⟨p, q, hW⟩, x2, x3, x4, x5, ⟨s1, s2, s3, s4, s5, s6⟩, x7, x8⟩ := id hR
  unfold f_X9_unsee sp_unsee
  simp only [nn_s, hW.1.1, gd_t, hW.1.2.2.2.2.2.2.2.2.2.1, s1, s5]
  have c : Ch (fun m k => m = 37 ∧ k = 3) h (sI h 37 3 0) := Ch.sI ⟨rfl, rfl⟩
  refine ⟨_, rfl, ?_, c.mono (fun m k z => Or.inl (by omega))⟩
  refine hR.mk2 c rfl (fun n k z => by omega) (x2.fr c (fun n k z => by omega)) (x3.fr c (fun n k _ _ z => by omega)) (x4.fr c (fun n k _ _ z => by omega)) (x5.fr c (fun n k z => by omega)) ⟨s1, s2, s3, by simp, by rw [hI_sI, if_pos ⟨rfl, rfl⟩]; rfl, fun i hi => by simp at hi⟩ (by rw [c.J (fun z => by omega)]; exact x7) (x8.fr c (fun n k z => by omega))
theorem o10_unsee {h : HS} {a : ST} (hR : R10 h a) : ∃ h', f_X10_unsee 42 h = some ((sp_unsee a).1, h') ∧ R10 h' (sp_unsee a).2 ∧ Ch F10 h h' := by
  obtain ⟨hC, hP, hV, t, x5, x6, ⟨s1, s2, s3⟩, x8, k0, k1⟩ := id hR
  unfold f_X10_unsee sp_unsee
  simp only [nn_s, hC.1.1, gd_t, s2]
  have c : Ch (fun m k => m = 42 ∧ k = 23) h (sI h 42 23 0) := Ch.sI ⟨rfl, rfl⟩
  refine ⟨_, rfl, ?_, c.mono (fun m k z => by unfold F10; omega)⟩
  refine hR.mk2 c rfl (fun n k z q => by omega) (t.fr c (fun n k z => by omega)) (x5.fr c (fun k _ _ z => by omega)) (x6.fr c (fun n k z => by omega)) ⟨by simp, by rw [hI_sI, if_pos ⟨rfl, rfl⟩]; rfl, fun i hi => by simp at hi⟩ (by rw [c.J (fun z => by omega)]; exact x8) (k0.fr c (fun n k z => by omega)) (k1.fr c (fun n k z => by omega))
def seeOk (k v w : Int32) : Prop := ((0 ≤ k.toInt ∧ k.toInt ≤ 20) ∨ k.toInt = 99) ∧ (v.toInt = -9 ∨ (0 ≤ v.toInt ∧ v.toInt ≤ 9999)) ∧ (w.toInt = 0 ∨ w.toInt = 1)
noncomputable def sp_see (k v w : Int32) (a : ST) : Int32 × ST := haveI := Classical.propDecidable (seeOk k v w); if seeOk k v w then (if a.2.2.2.2.1.length < 6 then (nI (a.2.2.2.2.1.length + 1), (a.1, a.2.1, a.2.2.1, a.2.2.2.1, a.2.2.2.2.1 ++ [(k, v, w == 1)], a.2.2.2.2.2)) else (-4, a)) else (-2, a)
theorem s_X9_isRowKey (k : Int32) (h : HS) : f_X9_isRowKey k h = some (if (0 ≤ k.toInt ∧ k.toInt ≤ 20) ∨ k.toInt = 99 then 1 else 0, h) := by
  unfold f_X9_isRowKey b_X9_isRowKey_10 b_X9_isRowKey_16 b_X9_isRowKey_21
  simp only [z0, z1, gd_t, i32_lt, i32_le, i32_eq k, show (99 : Int32).toInt = 99 from rfl, show (20 : Int32).toInt = 20 from rfl, show (0 : Int32).toInt = 0 from rfl]
  by_cases h1 : k.toInt < 0
  · rw [if_pos h1, if_neg (by omega), if_neg (by omega)]
  · rw [if_neg h1]
    by_cases h2 : k.toInt ≤ 20
    · rw [if_pos h2, if_pos (by omega)]
    · rw [if_neg h2]
      by_cases h3 : k.toInt = 99
      · rw [if_pos h3, if_pos (by omega)]
      · rw [if_neg h3, if_neg (by omega)]
theorem s_X9_isSeenMeasure (v : Int32) (h : HS) : f_X9_isSeenMeasure v h = some (if v.toInt = -9 ∨ (0 ≤ v.toInt ∧ v.toInt ≤ 9999) then 1 else 0, h) := by
  unfold f_X9_isSeenMeasure b_X9_isSeenMeasure_17 b_X9_isSeenMeasure_21 b_X9_isSeenMeasure_22
  simp only [z0, z1, gd_t, i32_lt, i32_eq v, show (-9 : Int32).toInt = -9 from rfl, show (9999 : Int32).toInt = 9999 from rfl, show (0 : Int32).toInt = 0 from rfl]
  by_cases h1 : v.toInt = -9
  · rw [if_pos h1, if_pos (by omega)]
  · rw [if_neg h1]
    by_cases h2 : v.toInt < 0
    · rw [if_pos h2, if_neg (by omega)]
    · rw [if_neg h2]
      by_cases h3 : 9999 < v.toInt
      · rw [if_pos h3, if_neg (by omega)]
      · rw [if_neg h3, if_pos (by omega)]
theorem s_X9_isOneOfTwo (w : Int32) (h : HS) : f_X9_isOneOfTwo w h = some (if w.toInt = 0 ∨ w.toInt = 1 then 1 else 0, h) := by
  unfold f_X9_isOneOfTwo b_X9_isOneOfTwo_9 b_X9_isOneOfTwo_14
  simp only [z0, z1, gd_t, i32_eq w, show (1 : Int32).toInt = 1 from rfl, show (0 : Int32).toInt = 0 from rfl]
  by_cases h1 : w.toInt = 0
  · rw [if_pos h1, if_pos (by omega)]
  · rw [if_neg h1]
    by_cases h2 : w.toInt = 1
    · rw [if_pos h2, if_pos (by omega)]
    · rw [if_neg h2, if_neg (by omega)]
theorem al38 : al 38 = 6 := by decide
theorem al39 : al 39 = 6 := by decide
theorem al40 : al 40 = 6 := by decide
theorem al51 : al 51 = 6 := by decide
theorem al52 : al 52 = 6 := by decide
theorem al53 : al 53 = 6 := by decide
theorem sl_snoc (S : SL) (x : Int32 × Int32 × Bool) (i : Nat) (hi : i < S.length + 1) : (S ++ [x]).getD i (0, 0, false) = if i = S.length then x else S.getD i (0, 0, false) := by
  simp only [List.getD_eq_getElem?_getD, List.getElem?_append]
  by_cases q : i = S.length
  · subst q; simp
  · simp [q, show i < S.length by omega]
theorem s_X8_put {h : HS} {S : SL} (hS : S9 h S) (hn : S.length < 6) (k v : Int32) (w : Bool) : ∃ h', f_X8_put 37 k v (b2 w) h = some (1, h') ∧ S9 h' (S ++ [(k, v, w)]) ∧ Ch (fun m _ => 37 ≤ m ∧ m ≤ 40) h h' ∧ (∀ j, hP h' 0 j = hP h 0 j) := by
  obtain ⟨s1, ⟨s2, s3, s4⟩, ⟨s5, s6, s7⟩, s8, s9, s10⟩ := hS
  have c1 : ca h 38 9 (nI S.length) = true := ca_nI s5 (by rw [al38]; omega) (by rw [al38]; omega)
  have c2 : ∀ a b x, ca (sI h a b x) 39 9 (nI S.length) = true := fun a b x => ca_nI (by rw [ck_sI]; exact s6) (by rw [al39]; omega) (by rw [al39]; omega)
  have c3 : ∀ a b x a' b' x', ca (sI (sI h a b x) a' b' x') 40 10 (nI S.length) = true := fun a b x a' b' x' => ca_nI (by rw [ck_sI, ck_sI]; exact s7) (by rw [al40]; omega) (by rw [al40]; omega)
  have ew : b2 w &&& 1 = b2 w := by cases w <;> decide
  refine ⟨sI (sI (sI (sI h 38 S.length k) 39 S.length v) 40 S.length (b2 w)) 37 3 (nI (S.length + 1)), ?_, ?_, ?_, fun j => rfl⟩
  · unfold f_X8_put b_X8_put_14 b_X8_put_61
    simp only [nn_s, s1, gd_t, s9]
    rw [if_neg (show ¬ (6 : Int32) ≤ nI S.length from nI_ge (b := 6) hn (by omega))]
    simp only [one0, if_false, s2, s3, s4, nn_s, s1, gd_t, s9, c1, c2, c3, hl_s, ck_sI, hP_sI, hI_sI, nI_clamp (show S.length < 2 ^ 31 by omega), show ((37 : Nat) = 38) = False by decide, show ((37 : Nat) = 39) = False by decide, show ((37 : Nat) = 40) = False by decide, false_and, ew, nI_1, z1]
  · refine ⟨s1, ⟨s2, s3, s4⟩, ⟨s5, s6, s7⟩, ?_, ?_, fun i hi => ?_⟩
    · simp only [List.length_append, List.length_cons, List.length_nil]; omega
    · rw [hI_sI, if_pos ⟨rfl, rfl⟩]
      simp only [List.length_append, List.length_cons, List.length_nil]
    · have hi' : i < S.length + 1 := by simpa using hi
      rw [sl_snoc _ _ _ hi']
      simp only [hI_sI, show ((38 : Nat) = 37) = False by decide, show ((39 : Nat) = 37) = False by decide, show ((40 : Nat) = 37) = False by decide, show ((38 : Nat) = 39) = False by decide, show ((38 : Nat) = 40) = False by decide, show ((39 : Nat) = 40) = False by decide, show ((39 : Nat) = 38) = False by decide, show ((40 : Nat) = 38) = False by decide, show ((40 : Nat) = 39) = False by decide, false_and, if_false, true_and]
      by_cases q : i = S.length
      · simp only [q, if_true, and_self]
      · simp only [q, if_false]; exact s10 i (by omega)
  · exact (((Ch.sI ⟨by omega, by omega⟩).trans (Ch.sI ⟨by omega, by omega⟩)).trans (Ch.sI ⟨by omega, by omega⟩)).trans (Ch.sI ⟨by omega, by omega⟩)
theorem o9_see {h : HS} {a : ST} (hR : R9 h a) (k v w : Int32) : ∃ h', f_X9_see 0 k v w h = some ((sp_see k v w a).1, h') ∧ R9 h' (sp_see k v w a).2 ∧ Ch F9 h h' := by
  obtain ⟨⟨p, q, hW⟩, x2, x3, x4, x5, x6, x7, x8⟩ := id hR
  unfold f_X9_see b_X9_see_21
  rw [s_X9_isRowKey]
  simp only [bd_s, s_X9_isSeenMeasure, s_X9_isOneOfTwo, nn_s, hW.1.1, gd_t]
  by_cases hok : seeOk k v w
  · obtain ⟨q1, q2, q3⟩ := id hok
    simp only [q1, q2, q3, if_true, one0, if_false]
    have hb : ∀ X : Int32, (if w = 1 then b_X9_see_40 0 (hP h 0 8) k v 1 h else b_X9_see_40 0 (hP h 0 8) k v 0 h) = b_X9_see_40 0 (hP h 0 8) k v (b2 (w == 1)) h := fun _ => by
      by_cases z : w = 1
      · simp [z, b2]
      · simp [z, b2]
    rw [hb 0]
    unfold b_X9_see_40 b_X9_see_58 sp_see
    rw [if_pos hok]
    simp only [hW.1.2.2.2.2.2.2.2.2.2.1, nn_s, rk6, x6.1, gd_t]
    by_cases h6 : a.2.2.2.2.1.length < 6
    · obtain ⟨h', e1, e2, e3, e4⟩ := s_X8_put x6 h6 k v (w == 1)
      have ck0 : ck h' 0 7 = true := by rw [e3.ck]; exact hW.1.1
      rw [if_pos h6]
      simp only [e1, bd_s, one0, if_false, ck0, e4, hW.1.2.2.2.2.2.2.2.2.2.1, nn_s, e2.1, gd_t, e2.2.2.2.2.1]
      refine ⟨h', ?_, ?_, e3.mono (fun m k z => Or.inl (by omega))⟩
      · simp only [List.length_append, List.length_cons, List.length_nil]
      · exact hR.mk2 e3 rfl (fun n k z => by omega) (x2.fr e3 (fun n k z => by omega)) (x3.fr e3 (fun n k _ _ z => by omega)) (x4.fr e3 (fun n k _ _ z => by omega)) (x5.fr e3 (fun n k z => by omega)) e2 (by rw [e3.J (fun z => by omega)]; exact x7) (x8.fr e3 (fun n k z => by omega))
    · rw [if_neg h6]
      have : f_X8_put 37 k v (b2 (w == 1)) h = some (0, h) := by
        unfold f_X8_put b_X8_put_14 b_X8_put_61
        simp only [nn_s, x6.1, gd_t, x6.2.2.2.2.1]
        rw [if_pos (show (6 : Int32) ≤ nI a.2.2.2.2.1.length from nI_le (a := 6) (by omega) (by have := x6.2.2.2.1; omega)), if_pos trivial]
        simp only [z0, gd_t]
      simp only [this, bd_s, if_true]
      exact ⟨h, rfl, hR, Ch.rf⟩
  · have e : sp_see k v w a = (-2, a) := by unfold sp_see; rw [if_neg hok]
    rw [e]
    refine ⟨h, ?_, hR, Ch.rf⟩
    by_cases q1 : (0 ≤ k.toInt ∧ k.toInt ≤ 20) ∨ k.toInt = 99
    · by_cases q2 : v.toInt = -9 ∨ (0 ≤ v.toInt ∧ v.toInt ≤ 9999)
      · have q3 : ¬ (w.toInt = 0 ∨ w.toInt = 1) := fun z => hok ⟨q1, q2, z⟩
        simp only [q1, q2, q3, if_true, if_false, one0]
      · simp only [q1, q2, if_true, if_false, one0]
    · simp only [q1, if_false, if_true]
theorem o10_see {h : HS} {a : ST} (hR : R10 h a) (k v w : Int32) : ∃ h', f_X10_see 42 k v w h = some ((sp_see k v w a).1, h') ∧ R10 h' (sp_see k v w a).2 ∧ Ch F10 h h' := by
  obtain ⟨hC, hP, hV, t, x5, x6, ⟨s1, s2, s3⟩, x8, k0, k1⟩ := id hR
  have red : f_X10_see 42 k v w h = (haveI := Classical.propDecidable (seeOk k v w); b_X10_see_51 42 k v w (if seeOk k v w then 1 else 0) h) := by
    unfold f_X10_see b_X10_see_18 b_X10_see_36 b_X10_see_50
    simp only [s_X10_in, bd_s, show (0 : Int64).toInt = 0 from rfl, show (20 : Int64).toInt = 20 from rfl, show (9999 : Int64).toInt = 9999 from rfl, show (1 : Int64).toInt = 1 from rfl, i32_eq k, i32_eq v, show (99 : Int32).toInt = 99 from rfl, show (-9 : Int32).toInt = -9 from rfl]
    have w01 : (0 ≤ w.toInt ∧ w.toInt ≤ 1) ↔ (w.toInt = 0 ∨ w.toInt = 1) := by omega
    unfold seeOk
    by_cases q1 : 0 ≤ k.toInt ∧ k.toInt ≤ 20
    · by_cases q2 : v.toInt = -9
      · by_cases q3 : w.toInt = 0 ∨ w.toInt = 1
        · simp [q1, q2, q3, w01]
        · simp [q1, q2, q3, w01]
      · by_cases q4 : 0 ≤ v.toInt ∧ v.toInt ≤ 9999
        · by_cases q3 : w.toInt = 0 ∨ w.toInt = 1
          · simp [q1, q2, q3, q4, w01]
          · simp [q1, q2, q3, q4, w01]
        · simp [q1, q2, q4]
    · by_cases q5 : k.toInt = 99
      · by_cases q2 : v.toInt = -9
        · by_cases q3 : w.toInt = 0 ∨ w.toInt = 1
          · simp [q5, q2, q3, w01]
          · simp [q5, q2, q3, w01]
        · by_cases q4 : 0 ≤ v.toInt ∧ v.toInt ≤ 9999
          · by_cases q3 : w.toInt = 0 ∨ w.toInt = 1
            · simp [q5, q2, q3, q4, w01]
            · simp [q5, q2, q3, q4, w01]
          · simp [q5, q2, q4]
      · simp [q1, q5]
  rw [red]
  unfold b_X10_see_51 sp_see
  by_cases hok : seeOk k v w
  · simp only [hok, if_true, one0, if_false, nn_s, hC.1.1, gd_t, s2]
    rw [show (6 : Int32) = nI 6 from rfl, ite_eq (by omega) (by omega)]
    by_cases h6 : a.2.2.2.2.1.length < 6
    · rw [if_neg (by omega), if_pos h6]
      have c1 : ca h 51 9 (nI a.2.2.2.2.1.length) = true := ca_nI hC.1.2.2.2.2.2.2.2.2.2.1 (by rw [al51]; omega) (by rw [al51]; omega)
      have c2 : ∀ a1 b x, ca (sI h a1 b x) 52 9 (nI a.2.2.2.2.1.length) = true := fun a1 b x => ca_nI (by rw [ck_sI]; exact hC.1.2.2.2.2.2.2.2.2.2.2.1) (by rw [al52]; omega) (by rw [al52]; omega)
      have c3 : ∀ a1 b x a' b' x', ca (sI (sI h a1 b x) a' b' x') 53 9 (nI a.2.2.2.2.1.length) = true := fun a1 b x a' b' x' => ca_nI (by rw [ck_sI, ck_sI]; exact hC.1.2.2.2.2.2.2.2.2.2.2.2.1) (by rw [al53]; omega) (by rw [al53]; omega)
      simp only [nn_s, hC.1.1, hC.2.2.2.2.2.2.2.2.2.1, hC.2.2.2.2.2.2.2.2.2.2.1, hC.2.2.2.2.2.2.2.2.2.2.2.1, gd_t, s2, c1, c2, c3, hl_s, ck_sI, hP_sI, hI_sI, nI_clamp (show a.2.2.2.2.1.length < 2 ^ 31 by omega), show ((42 : Nat) = 51) = False by decide, show ((42 : Nat) = 52) = False by decide, show ((42 : Nat) = 53) = False by decide, false_and, if_false, nI_1, and_self, if_true]
      have c : Ch (fun m k => (m = 42 ∧ k = 23) ∨ (51 ≤ m ∧ m ≤ 53)) h (sI (sI (sI (sI h 51 a.2.2.2.2.1.length k) 52 a.2.2.2.2.1.length v) 53 a.2.2.2.2.1.length w) 42 23 (nI (a.2.2.2.2.1.length + 1))) := (((Ch.sI (Or.inr ⟨by omega, by omega⟩)).trans (Ch.sI (Or.inr ⟨by omega, by omega⟩))).trans (Ch.sI (Or.inr ⟨by omega, by omega⟩))).trans (Ch.sI (Or.inl ⟨rfl, rfl⟩))
      refine ⟨_, rfl, ?_, c.mono (fun m k z => by unfold F10; omega)⟩
      refine hR.mk2 c rfl (fun n k z q => by omega) (t.fr c (fun n k z => by omega)) (x5.fr c (fun k _ _ z => by omega)) (x6.fr c (fun n k z => by omega)) ⟨?_, ?_, fun i hi => ?_⟩ (by rw [c.J (fun z => by omega)]; exact x8) (k0.fr c (fun n k z => by omega)) (k1.fr c (fun n k z => by omega))
      · simp only [List.length_append, List.length_cons, List.length_nil]; omega
      · rw [hI_sI, if_pos ⟨rfl, rfl⟩]
        simp only [List.length_append, List.length_cons, List.length_nil]
      · have hi' : i < a.2.2.2.2.1.length + 1 := by simpa using hi
        rw [sl_snoc _ _ _ hi']
        simp only [hI_sI, show ((51 : Nat) = 42) = False by decide, show ((52 : Nat) = 42) = False by decide, show ((53 : Nat) = 42) = False by decide, show ((51 : Nat) = 52) = False by decide, show ((51 : Nat) = 53) = False by decide, show ((52 : Nat) = 53) = False by decide, show ((52 : Nat) = 51) = False by decide, show ((53 : Nat) = 51) = False by decide, show ((53 : Nat) = 52) = False by decide, false_and, if_false, true_and]
        by_cases q : i = a.2.2.2.2.1.length
        · simp only [q, if_true, true_and]
          obtain ⟨_, _, q3⟩ := hok
          rcases q3 with q3 | q3
          · have : w = 0 := (i32_eq w 0).mpr q3
            subst this; decide
          · have : w = 1 := (i32_eq w 1).mpr q3
            subst this; decide
        · simp only [q, if_false]; exact s3 i (by omega)
    · rw [if_pos (by omega), if_neg h6]
      exact ⟨h, rfl, hR, Ch.rf⟩
  · simp only [hok, if_false, if_true]
    exact ⟨h, rfl, hR, Ch.rf⟩
