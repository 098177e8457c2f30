/-! OPS: acts of the class -/
theorem al14 : al 14 = 14 := by decide
theorem AC.drop {h : HS} {g : Nat → Nat} : ∀ (A : List EL) (E : EL), AC h g E A → AC h (fun i => g (i + 1)) E A.dropLast
  | [], _, _ => trivial
  | [s], _, _ => trivial
  | s :: s2 :: t, E, x => by
    rw [List.dropLast_cons_cons]
    refine ⟨?_, x.2.1, AC.drop (s2 :: t) s x.2.2⟩
    have : (s2 :: t).dropLast.length + 1 = (s2 :: t).length := by simp
    simp only [this]
    exact x.1
def SN (m k : Nat) : Prop := (m = 13 ∧ k = 1) ∨ m = 14
theorem s_X1_next {h : HS} {E : EL} {A : List EL} (hA : A9 h E A) : ∃ h' j, f_X1_next 13 h = some (some (15 + j), h') ∧ j < 14 ∧ Ch SN h h' ∧ hI h' 13 1 = nI ((A.take 13).length + 1) ∧ ∃ g : Nat → Nat, (∀ i, i < 14 → hP h' 14 i = some (15 + g i) ∧ g i < 14) ∧ (∀ i k, i < 14 → k < 14 → g i = g k → i = k) ∧ g (A.take 13).length = j ∧ AC h' g E (A.take 13) := by
  obtain ⟨x1, x2, x3, x4, x5, x6, g, x7, x8, x9⟩ := hA
  unfold f_X1_next
  simp only [nn_s, x1, gd_t, x5]
  by_cases h14 : A.length < 14
  · rw [if_neg (show ¬ (14 : Int32) ≤ nI A.length from nI_ge (b := 14) h14 (by omega))]
    have et : A.take 13 = A := List.take_of_length_le (by omega)
    have e1 : nI (A.length + 1) - 1 = nI A.length := nI_sub (a := A.length + 1) (b := 1) (by omega)
    have hca : ∀ a b x, ca (sI h a b x) 14 11 (nI A.length) = true := fun a b x => ca_nI (by rw [ck_sI]; exact x3) (by rw [al14]; omega) (by rw [al14]; omega)
    simp only [nI_1, hl_s, ck_sI, x1, gd_t, hP_sI, x2, nn_s, hI_sI, and_self, if_true, e1, hca, nI_clamp (show A.length < 2 ^ 31 by omega), (x7 A.length h14).1]
    refine ⟨sI h 13 1 (nI (A.length + 1)), g A.length, rfl, (x7 _ h14).2, Ch.sI (Or.inl ⟨rfl, rfl⟩), ?_, g, x7, x8, by rw [et], ?_⟩
    · rw [hI_sI, if_pos ⟨rfl, rfl⟩, et]
    · rw [et]
      refine AC.fr A E x9 (fun i hi => ⟨rfl, fun k _ => ?_⟩)
      rw [hI_sI, if_neg (by have := (x7 i (by omega)).2; omega)]
  · have eA : A.length = 14 := by omega
    rw [if_pos (show (14 : Int32) ≤ nI A.length from by rw [eA]; decide)]
    have et : A.take 13 = A.dropLast := by rw [List.dropLast_eq_take, eA]
    have el : (A.take 13).length = 13 := by rw [List.length_take]; omega
    have hca0 : ca h 14 11 0 = true := ca_nI (i := 0) x3 (by rw [al14]; omega) (by rw [al14]; omega)
    simp only [x2, nn_s, hca0, gd_t, show (0 : Int32).toNatClampNeg = 0 from rfl, (x7 0 (by omega)).1]
    have key : ∃ r : Option Nat × HS, l_X1_next_40 FU 13 (some (15 + g 0)) (nI 1) h = some r ∧ (r.1 = some (15 + g 0) ∧ Ch (fun m _ => m = 14) h r.2 ∧ (∀ i, i < 13 → hP r.2 14 i = hP h 14 (i + 1)) ∧ hP r.2 14 13 = some (15 + g 0)) := by
      refine it_ex (fun fu (s : HS) k => l_X1_next_40 fu 13 (some (15 + g 0)) (nI k) s) 14 (fun k s => 1 ≤ k ∧ Ch (fun m _ => m = 14) h s ∧ (∀ i, i + 1 < k → hP s 14 i = hP h 14 (i + 1)) ∧ ∀ i, k ≤ i + 1 → hP s 14 i = hP h 14 i) _ ?_ ?_ 13 FU h 1 (by omega) (by have := FU_gt; omega) ⟨by omega, Ch.rf, fun i hi => by omega, fun i _ => rfl⟩
      · intro fu s k hk hI0
        obtain ⟨i0, i1, i2, i3⟩ := hI0
        right
        have ck1 : ck s 13 1 = true := by rw [i1.ck]; exact x1
        have cp : hP s 13 0 = some 14 := by rw [i1.P (by omega)]; exact x2
        have ca1 : ca s 14 11 (nI k) = true := ca_nI (by rw [i1.ck]; exact x3) (by rw [al14]; omega) (by rw [al14]; omega)
        have ca2 : ca s 14 11 (nI (k - 1)) = true := ca_nI (by rw [i1.ck]; exact x3) (by rw [al14]; omega) (by rw [al14]; omega)
        have e1 : nI k - 1 = nI (k - 1) := nI_sub (b := 1) i0
        have hv : hP s 14 k = some (15 + g k) := by rw [i3 k (by omega)]; exact (x7 k hk).1
        have ckg : ck s (15 + g k) 0 = true := by rw [i1.ck]; exact x6 _ (x7 k hk).2
        refine ⟨sP s 14 (k - 1) (some (15 + g k)), ?_, by omega, i1.trans (Ch.sP rfl), fun i hi => ?_, fun i hi => ?_⟩
        · show b_X1_next_40 (l_X1_next_40 fu) 13 (some (15 + g 0)) (nI k) s = _
          unfold b_X1_next_40
          rw [if_neg (show ¬ (14 : Int32) ≤ nI k from nI_ge (b := 14) hk (by omega))]
          simp only [nn_s, ck1, gd_t, cp, ca1, nI_clamp (show k < 2 ^ 31 by omega), hv, e1, ca2, ckg, Bool.and_self, hl_s, nI_clamp (show k - 1 < 2 ^ 31 by omega), nI_1]
        · rw [hP_sP]
          by_cases q : i = k - 1
          · rw [if_pos ⟨rfl, q⟩, q, show k - 1 + 1 = k by omega, (x7 k hk).1]
          · rw [if_neg (fun z => q z.2)]; exact i2 i (by omega)
        · rw [hP_sP, if_neg (by omega)]; exact i3 i (by omega)
      · intro fu s hI0
        obtain ⟨i0, i1, i2, i3⟩ := hI0
        have ck1 : ck s 13 1 = true := by rw [i1.ck]; exact x1
        have cp : hP s 13 0 = some 14 := by rw [i1.P (by omega)]; exact x2
        have ca1 : ca s 14 11 13 = true := ca_nI (i := 13) (by rw [i1.ck]; exact x3) (by rw [al14]; omega) (by rw [al14]; omega)
        have ckg : ck s (15 + g 0) 0 = true := by rw [i1.ck]; exact x6 _ (x7 0 (by omega)).2
        refine ⟨(some (15 + g 0), sP s 14 13 (some (15 + g 0))), ?_, rfl, i1.trans (Ch.sP rfl), fun i hi => ?_, ?_⟩
        · show b_X1_next_40 (l_X1_next_40 fu) 13 (some (15 + g 0)) (nI 14) s = _
          unfold b_X1_next_40
          rw [if_pos (show (14 : Int32) ≤ nI 14 by decide)]
          simp only [nn_s, ck1, gd_t, cp, ca1, ckg, Bool.and_self, hl_s, show (13 : Int32).toNatClampNeg = 13 from rfl]
        · rw [hP_sP, if_neg (by omega)]; exact i2 i (by omega)
        · rw [hP_sP, if_pos ⟨rfl, rfl⟩]
    obtain ⟨r, k1, k2, k3, k4, k5⟩ := key
    refine ⟨r.2, g 0, ?_, (x7 0 (by omega)).2, k3.mono (fun m k z => Or.inr z), ?_, fun i => if i = 13 then g 0 else g (i + 1), fun i hi => ?_, fun i k hi hk z => ?_, ?_, ?_⟩
    · rw [show (1 : Int32) = nI 1 from rfl, k1, ← k2]
    · rw [k3.I (by omega), x5, el, eA]
    · by_cases q : i = 13
      · subst q
        exact ⟨by simpa using k5, by simpa using (x7 0 (by omega)).2⟩
      · have := x7 (i + 1) (by omega)
        simp only [q, if_false]
        exact ⟨by rw [k4 i (by omega)]; exact this.1, this.2⟩
    · by_cases q1 : i = 13
      · by_cases q2 : k = 13
        · omega
        · simp only [q1, q2, if_true, if_false] at z
          have := x8 0 (k + 1) (by omega) (by omega) z
          omega
      · by_cases q2 : k = 13
        · simp only [q1, q2, if_true, if_false] at z
          have := x8 (i + 1) 0 (by omega) (by omega) z
          omega
        · simp only [q1, q2, if_false] at z
          have := x8 (i + 1) (k + 1) (by omega) (by omega) z
          omega
    · rw [el]; simp
    · rw [et]
      have ed : A.dropLast.length = 13 := by rw [List.length_dropLast]; omega
      refine AC.fr _ E (x9.drop) (fun i hi => ⟨?_, fun k _ => k3.I (by have := (x7 (i + 1) (by omega)).2; omega)⟩)
      simp only [show ¬ i = 13 by omega, if_false]
theorem s_X0_tell {h : HS} {o : Nat} (hc : ck h o 0 = true) (k p t w m : Int32) : ∃ h', f_X0_tell o k p t w m h = some ((), h') ∧ Ch (fun n _ => n = o) h h' ∧ hI h' o 0 = k ∧ hI h' o 1 = p ∧ hI h' o 2 = t ∧ hI h' o 3 = w ∧ hI h' o 4 = m := by
  unfold f_X0_tell
  simp only [nn_s, hc, gd_t, hl_s, ck_sI]
  have c : Ch (fun n _ => n = o) h (sI (sI (sI (sI (sI h o 0 k) o 1 p) o 2 t) o 3 w) o 4 m) := ((((Ch.sI (S := fun n _ => n = o) rfl).trans (Ch.sI rfl)).trans (Ch.sI rfl)).trans (Ch.sI rfl)).trans (Ch.sI rfl)
  refine ⟨_, rfl, c, ?_, ?_, ?_, ?_, ?_⟩ <;> simp [hI_sI]
/-- the acts after one more; E is what there was before -/
theorem A9.push {h h' : HS} {S : Nat → Nat → Prop} {E E' : EL} {A : List EL} {j : Nat} {g : Nat → Nat} (hA : A9 h E A) (c : Ch S h h') (hS : ∀ n k, S n k → n < 13 ∨ 28 < n ∨ SN n k ∨ n = 15 + j) (hsz : hI h' 13 1 = nI ((A.take 13).length + 1)) (hg : ∀ i, i < 14 → hP h' 14 i = some (15 + g i) ∧ g i < 14) (hi : ∀ i k, i < 14 → k < 14 → g i = g k → i = k) (hj : g (A.take 13).length = j) (hAC : AC h' g E (A.take 13)) (hE : EV E) (hTB : TB h' (15 + j) E' E) : A9 h' E' (E :: A.take 13) := by
  obtain ⟨x1, x2, x3, x4, x5, x6, -⟩ := hA
  have hl : (A.take 13).length ≤ 13 := by rw [List.length_take]; omega
  refine ⟨by rw [c.ck]; exact x1, ?_, by rw [c.ck]; exact x3, by simp only [List.length_cons]; omega, by simp only [List.length_cons]; exact hsz, fun i hi => by rw [c.ck]; exact x6 i hi, g, hg, hi, ?_, hE, hAC⟩
  · rw [c.P (fun z => by have := hS _ _ z; unfold SN at this; have := (hg (A.take 13).length (by omega)).2; omega)]; exact x2
  · rw [hj]; exact hTB
theorem AC.tell {h h' : HS} {g : Nat → Nat} {E : EL} {A : List EL} {j : Nat} {S : Nat → Nat → Prop} (x : AC h g E A) (c : Ch S h h') (hS : ∀ n k, S n k → n < 13 ∨ 28 < n ∨ n = 15 + j) (hl : A.length ≤ 13) (hg : ∀ i, i < 14 → g i < 14) (hi : ∀ i k, i < 14 → k < 14 → g i = g k → i = k) (hj : g A.length = j) : AC h' g E A := by
  refine AC.fr A E x (fun i hi2 => ⟨rfl, fun k _ => c.I (fun z => ?_)⟩)
  have h1 := hS _ _ z
  have h2 := hg i (by omega)
  have h3 : ¬ g i = j := fun q => by
    have := hi i A.length (by omega) (by omega) (q.trans hj.symm)
    omega
  omega
/-- an act told: the row of acts, its room taken and filled -/
theorem s_act {h : HS} {E : EL} {A : List EL} (hA : A9 h E A) : ∃ h1 o, f_X1_next 13 h = some (some o, h1) ∧ 15 ≤ o ∧ o < 29 ∧ ck h1 o 0 = true ∧ Ch SN h h1 ∧ ∀ k p t w m, ∃ h2, f_X0_tell o k p t w m h1 = some ((), h2) ∧ Ch (fun n k => SN n k ∨ n = o) h h2 ∧ ∀ (S : Nat → Nat → Prop) (h3 : HS) (E' : EL), Ch S h2 h3 → (∀ n k, S n k → n < 13 ∨ 28 < n) → EV E → (∀ h4 : HS, hI h4 o 0 = k → hI h4 o 1 = p → hI h4 o 2 = t → hI h4 o 3 = w → hI h4 o 4 = m → TB h4 o E' E) → A9 h3 E' (E :: A.take 13) := by
  obtain ⟨h1, j, e1, e2, e3, e4, g, e5, e6, e7, e8⟩ := s_X1_next hA
  have hc : ck h1 (15 + j) 0 = true := by rw [e3.ck]; exact hA.2.2.2.2.2.1 j e2
  have hl : (A.take 13).length ≤ 13 := by rw [List.length_take]; omega
  refine ⟨h1, 15 + j, e1, by omega, by omega, hc, e3, fun k p t w m => ?_⟩
  obtain ⟨h2, t1, t2, t3, t4, t5, t6, t7⟩ := s_X0_tell hc k p t w m
  refine ⟨h2, t1, (e3.mono (fun n k z => Or.inl z)).trans (t2.mono (fun n k z => Or.inr z)), fun S h3 E' c hS hE hTB => ?_⟩
  have c23 : Ch (fun n k => n = 15 + j ∨ S n k) h1 h3 := (t2.mono (fun n k z => Or.inl z)).trans (c.mono (fun n k z => Or.inr z))
  have c03 : Ch (fun n k => SN n k ∨ n = 15 + j ∨ S n k) h h3 := (e3.mono (fun n k z => Or.inl z)).trans (c23.mono (fun n k z => Or.inr z))
  have nS : ∀ n k, 13 ≤ n → n ≤ 28 → ¬ S n k := fun n k h1 h2 z => by have := hS n k z; omega
  refine hA.push (j := j) c03 (fun n k z => ?_) ?_ (g := g) (fun i hi => ⟨?_, (e5 i hi).2⟩) e6 e7 ?_ hE (hTB h3 ?_ ?_ ?_ ?_ ?_)
  · rcases z with z | z | z
    · exact Or.inr (Or.inr (Or.inl z))
    · exact Or.inr (Or.inr (Or.inr z))
    · have := hS n k z; omega
  · rw [c23.I (fun z => z.elim (fun z => by omega) (nS _ _ (by omega) (by omega)))]; exact e4
  · rw [c23.P (fun z => z.elim (fun z => by omega) (nS _ _ (by omega) (by omega)))]; exact (e5 i hi).1
  · exact e8.tell c23 (j := j) (fun n k z => z.elim (fun z => by omega) (fun z => by have := hS n k z; omega)) hl (fun i hi => (e5 i hi).2) e6 e7
  · rw [c.I (nS _ _ (by omega) (by omega))]; exact t3
  · rw [c.I (nS _ _ (by omega) (by omega))]; exact t4
  · rw [c.I (nS _ _ (by omega) (by omega))]; exact t5
  · rw [c.I (nS _ _ (by omega) (by omega))]; exact t6
  · rw [c.I (nS _ _ (by omega) (by omega))]; exact t7
theorem s_X9_isAmount (x : Int32) (h : HS) : f_X9_isAmount x h = some (if 0 ≤ x.toInt ∧ x.toInt ≤ 100 then 1 else 0, h) := by
  unfold f_X9_isAmount b_X9_isAmount_14 b_X9_isAmount_15
  simp only [z0, z1, gd_t, i32_lt, show (100 : Int32).toInt = 100 from rfl, show (0 : Int32).toInt = 0 from rfl]
  by_cases h1 : x.toInt < 0
  · rw [if_pos h1, if_neg (by omega)]
  · rw [if_neg h1]
    by_cases h2 : 100 < x.toInt
    · rw [if_pos h2, if_neg (by omega)]
    · rw [if_neg h2, if_pos (by omega)]
def eOk (t w m : Int32) : Prop := (0 ≤ t.toInt ∧ t.toInt ≤ 3) ∧ (0 ≤ w.toInt ∧ w.toInt ≤ 4) ∧ (0 ≤ m.toInt ∧ m.toInt ≤ 100)
theorem eOk_nat {t w m : Int32} (h : eOk t w m) : EOK (t.toInt.toNat, w.toInt.toNat, m.toInt.toNat) ∧ t = nI t.toInt.toNat ∧ w = nI w.toInt.toNat ∧ m = nI m.toInt.toNat := by
  obtain ⟨h1, h2, h3⟩ := h
  refine ⟨⟨?_, ?_, ?_⟩, nat_of h1.1, nat_of h2.1, nat_of h3.1⟩ <;> simp only <;> omega
noncomputable def eB (t w m : Int32) : Int32 := haveI := Classical.propDecidable (eOk t w m); if eOk t w m then 1 else 0
theorem s_X9_isEntry (t w m : Int32) (h : HS) : f_X9_isEntry t w m h = some (eB t w m, h) := by
  unfold f_X9_isEntry b_X9_isEntry_29 b_X9_isEntry_30 eB eOk
  simp only [s_X9_isAmount, bd_s, z0, z1, gd_t, i32_lt, i32_le, show (4 : Int32).toInt = 4 from rfl, show (5 : Int32).toInt = 5 from rfl, show (0 : Int32).toInt = 0 from rfl]
  by_cases h1 : t.toInt < 0
  · rw [if_pos h1, if_neg (by omega)]
  · rw [if_neg h1]
    by_cases h2 : 4 ≤ t.toInt
    · rw [if_pos h2, if_neg (by omega)]
    · rw [if_neg h2]
      by_cases h3 : w.toInt < 0
      · rw [if_pos h3, if_neg (by omega)]
      · rw [if_neg h3]
        by_cases h4 : 5 ≤ w.toInt
        · rw [if_pos h4, if_neg (by omega)]
        · rw [if_neg h4]
          by_cases h5 : 0 ≤ m.toInt ∧ m.toInt ≤ 100
          · rw [if_pos h5, if_neg (by decide), if_pos (by omega)]
          · rw [if_neg h5, if_pos rfl, if_neg (by omega)]
theorem s_X10_isEntry (t w m : Int32) (h : HS) : f_X10_isEntry t w m h = some (eB t w m, h) := by
  unfold f_X10_isEntry b_X10_isEntry_40 b_X10_isEntry_41 eB eOk
  simp only [s_X10_in, bd_s, z0, z1, gd_t, show (0 : Int64).toInt = 0 from rfl, show (3 : Int64).toInt = 3 from rfl, show (4 : Int64).toInt = 4 from rfl, show (100 : Int64).toInt = 100 from rfl]
  by_cases h1 : 0 ≤ t.toInt ∧ t.toInt ≤ 3
  · rw [if_pos h1, if_neg (by decide)]
    by_cases h2 : 0 ≤ w.toInt ∧ w.toInt ≤ 4
    · rw [if_pos h2, if_neg (by decide)]
      by_cases h3 : 0 ≤ m.toInt ∧ m.toInt ≤ 100
      · rw [if_pos h3, if_neg (by decide), if_pos ⟨h1, h2, h3⟩]
      · rw [if_neg h3, if_pos rfl, if_neg (fun z => h3 z.2.2)]
    · rw [if_neg h2, if_pos rfl, if_neg (fun z => h2 z.2.1)]
  · rw [if_neg h1, if_pos rfl, if_neg (fun z => h1 z.1)]
theorem insert_erase (E : EL) {p : Nat} (hp : p < E.length) : (E.eraseIdx p).insertIdx p (tw E p, wa E p, am E p) = E := by
  refine List.ext_getElem? (fun i => ?_)
  have hl := List.length_eraseIdx_of_lt hp
  rw [List.getElem?_insertIdx, List.getElem?_eraseIdx]
  by_cases q : i < p
  · simp [q]
  · rw [if_neg q]
    by_cases q2 : i = p
    · subst q2
      rw [if_pos rfl, if_pos (by omega)]
      simp [hp, tw, wa, am]
    · rw [if_neg q2, List.getElem?_eraseIdx, if_neg (by omega), show i - 1 + 1 = i by omega]
theorem erase_last (E : EL) (v : Nat × Nat × Nat) : (E ++ [v]).eraseIdx E.length = E := by
  rw [← ins_end, List.eraseIdx_insertIdx_self]
theorem set_set (E : EL) {p a : Nat} (hp : p < E.length) : (E.set p (tw E p, wa E p, a)).set p (tw (E.set p (tw E p, wa E p, a)) p, wa (E.set p (tw E p, wa E p, a)) p, am E p) = E := by
  have e1 : tw (E.set p (tw E p, wa E p, a)) p = tw E p := by show (en _ p).1 = _; rw [en_set hp, if_pos rfl]
  have e2 : wa (E.set p (tw E p, wa E p, a)) p = wa E p := by show (en _ p).2.1 = _; rw [en_set hp, if_pos rfl]
  rw [e1, e2, List.set_set]
  refine List.ext_getElem? (fun i => ?_)
  rw [List.getElem?_set]
  by_cases q : p = i
  · subst q
    simp [hp, tw, wa, am]
  · simp [q]
