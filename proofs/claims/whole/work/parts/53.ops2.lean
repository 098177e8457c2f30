/-! OPS: add, drop, change, undo -/
noncomputable def sp_add (t w m : Int32) (a : ST) : Int32 × ST := haveI := Classical.propDecidable (eOk t w m); if eOk t w m then (if a.2.2.1.length < 16 then (nI (a.2.2.1.length + 1), (a.1, a.2.1, a.2.2.1 ++ [(t.toInt.toNat, w.toInt.toNat, m.toInt.toNat)], a.2.2.1 :: a.2.2.2.1.take 13, a.2.2.2.2)) else (-4, a)) else (-2, a)
/-- what holds of R9 beyond acts and entries, when only these change -/
theorem R9.acts {S : Nat → Nat → Prop} {h h' : HS} {a : ST} {E' : EL} {A' : List EL} (x : R9 h a) (c : Ch S h h') (hS : ∀ n k, S n k → (5 ≤ n ∧ n ≤ 8) ∨ (13 ≤ n ∧ n ≤ 28)) (hE : ER h' 5 E') (hA : A9 h' E' A') : R9 h' (a.1, a.2.1, E', A', a.2.2.2.2) := by
  obtain ⟨_, x2, x3, x4, x5, x6, x7, x8⟩ := id x
  exact x.mk2 c rfl (fun n k z => by have := hS n k z; omega) (x2.fr c (fun n k z => by have := hS n k z; omega)) hE (x4.fr c (fun n k _ _ z => by have := hS n k z; omega)) hA (x6.fr c (fun n k z => by have := hS n k z; omega)) (by rw [c.J (fun z => by have := hS _ _ z; omega)]; exact x7) (x8.fr c (fun n k z => by have := hS n k z; omega))
theorem o9_add {h : HS} {a : ST} (hR : R9 h a) (t w m : Int32) : ∃ h', f_X9_add 0 t w m h = some ((sp_add t w m a).1, h') ∧ R9 h' (sp_add t w m a).2 ∧ Ch F9 h h' := by
  obtain ⟨⟨p, q, hW⟩, x2, x3, x4, x5, x6, x7, x8⟩ := id hR
  unfold f_X9_add sp_add
  rw [s_X9_isEntry]
  simp only [bd_s]
  by_cases hok : eOk t w m
  · have e1 : eB t w m = 1 := by unfold eB; rw [if_pos hok]
    rw [if_pos hok, e1, if_neg (by decide)]
    simp only [nn_s, hW.1.1, gd_t, hW.1.2.2.2.2.1, rk3, x3.1.1, s_X3_hasRoom x3, bd_s]
    by_cases h16 : a.2.2.1.length < 16
    · simp only [h16, if_true, one0, if_false]
      obtain ⟨hv, et, ew, em⟩ := eOk_nat hok
      generalize t.toInt.toNat = t' at *
      generalize w.toInt.toNat = w' at *
      generalize m.toInt.toNat = m' at *
      subst et ew em
      obtain ⟨h1, o, n1, n2, n3, n4, n5, n6⟩ := s_act x5
      obtain ⟨h2, t1, t2, t3⟩ := n6 0 (nI a.2.2.1.length) (nI t') (nI w') (nI m')
      have hE2 := x3.fr t2 (fun n k _ _ z => by unfold SN at z; omega)
      obtain ⟨h3, a1, a2, a3⟩ := s_X3_append hE2 h16 hv
      have ck01 : ck h1 0 7 = true := by rw [n5.ck]; exact hW.1.1
      have p01 : hP h1 0 3 = some 5 := by rw [n5.P (by unfold SN; omega)]; exact hW.1.2.2.2.2.1
      have ck51 : ck h1 5 3 = true := by rw [n5.ck]; exact x3.1.1
      have s51 : hI h1 5 3 = nI a.2.2.1.length := by rw [n5.I (by unfold SN; omega)]; exact x3.2.2.1
      have ck02 : ck h2 0 7 = true := by rw [t2.ck]; exact hW.1.1
      have p02 : hP h2 0 3 = some 5 := by rw [t2.P (by unfold SN; omega)]; exact hW.1.2.2.2.2.1
      have ck03 : ck h3 0 7 = true := by rw [a3.ck]; exact ck02
      have p03 : hP h3 0 3 = some 5 := by rw [a3.P (by omega)]; exact p02
      simp only [hW.1.2.2.2.2.2.2.1, nn_s, rk1, rk0, rk3, x5.1, gd_t, n1, bd_s, ck01, p01, ck51, s51, n4, t1, ck02, p02, hE2.1.1, a1, ck03, p03, a2.1.1, a2.2.2.1]
      have call : Ch (fun n _ => (5 ≤ n ∧ n ≤ 8) ∨ (13 ≤ n ∧ n ≤ 28)) h h3 := (t2.mono (fun n k z => by unfold SN at z; omega)).trans (a3.mono (fun n k z => by omega))
      refine ⟨h3, ?_, hR.acts call (fun n k z => z) a2 (t3 _ h3 _ a3 (fun n k z => by omega) x3.2.1 (fun h4 q0 q1 _ _ _ => Or.inl ⟨q0, _, q1, ?_, ?_⟩)), call.mono (fun n k z => Or.inl (by omega))⟩
      · simp only [List.length_append, List.length_cons, List.length_nil]
      · simp only [List.length_append, List.length_cons, List.length_nil]; omega
      · exact (erase_last _ _).symm
    · simp only [h16, if_false, if_true]
      exact ⟨h, rfl, hR, Ch.rf⟩
  · have e1 : eB t w m = 0 := by unfold eB; rw [if_neg hok]
    rw [if_neg hok, e1, if_pos rfl]
    exact ⟨h, rfl, hR, Ch.rf⟩
def sp_drop (e : Int32) (a : ST) : Int32 × ST := if 0 ≤ e.toInt ∧ e.toInt < a.2.2.1.length then (nI (am a.2.2.1 e.toInt.toNat), (a.1, a.2.1, a.2.2.1.eraseIdx e.toInt.toNat, a.2.2.1 :: a.2.2.2.1.take 13, a.2.2.2.2)) else (-1, a)
theorem o9_drop {h : HS} {a : ST} (hR : R9 h a) (e : Int32) : ∃ h', f_X9_drop 0 e h = some ((sp_drop e a).1, h') ∧ R9 h' (sp_drop e a).2 ∧ Ch F9 h h' := by
  obtain ⟨⟨p, q, hW⟩, x2, x3, x4, x5, x6, x7, x8⟩ := id hR
  unfold f_X9_drop sp_drop
  simp only [nn_s, hW.1.1, gd_t, hW.1.2.2.2.2.1, rk3, x3.1.1, s_X3_has x3, bd_s]
  by_cases hok : 0 ≤ e.toInt ∧ e.toInt < a.2.2.1.length
  · have hn := x3.2.1.1
    have ee := nat_of hok.1
    have hp : e.toInt.toNat < a.2.2.1.length := by omega
    simp only [hok, and_self, if_true, one0, if_false]
    generalize e.toInt.toNat = e' at *
    subst ee
    obtain ⟨d1, d2, d3, d4⟩ := id x3
    obtain ⟨y1, ⟨y2, y3, y4⟩, ⟨y5, y6, y7⟩, ⟨y8, y9, z1_⟩⟩ := d1
    have hv := d2.2 e' hp
    obtain ⟨h1, o, n1, n2, n3, n4, n5, n6⟩ := s_act x5
    obtain ⟨h2, t1, t2, t3⟩ := n6 1 (nI e') (nI (tw a.2.2.1 e')) (nI (wa a.2.2.1 e')) (nI (am a.2.2.1 e'))
    have hE1 := x3.fr n5 (fun n k _ _ z => by unfold SN at z; omega)
    have hE2 := x3.fr t2 (fun n k _ _ z => by unfold SN at z; omega)
    obtain ⟨f1, f2, f3, f4⟩ := id hE1
    obtain ⟨u1, ⟨u2, u3, u4⟩, ⟨u5, u6, u7⟩, ⟨u8, u9, u10⟩⟩ := f1
    obtain ⟨h3, a1, a2, a3⟩ := s_X3_remove hE2 hp
    have ck01 : ck h1 0 7 = true := by rw [n5.ck]; exact hW.1.1
    have p01 : hP h1 0 3 = some 5 := by rw [n5.P (by unfold SN; omega)]; exact hW.1.2.2.2.2.1
    have ck02 : ck h2 0 7 = true := by rw [t2.ck]; exact hW.1.1
    have p02 : hP h2 0 3 = some 5 := by rw [t2.P (by unfold SN; omega)]; exact hW.1.2.2.2.2.1
    have c0 : ca h (5 + 3) 9 (nI e') = true := ca_nI y7 (by omega) (by omega)
    have c1 : ca h1 (5 + 1) 9 (nI e') = true := ca_nI u5 (by omega) (by omega)
    have c2 : ca h1 (5 + 2) 9 (nI e') = true := ca_nI u6 (by omega) (by omega)
    simp only [y4, hW.1.2.2.2.2.2.2.1, nn_s, rk1, rk0, rk3, x5.1, gd_t, n1, bd_s, ck01, p01, u1, u2, u3, c0, c1, c2, nI_clamp (show e' < 2 ^ 31 by omega), (d4 e' hp).2.2, (f4 e' hp).1, (f4 e' hp).2.1, n4, t1, ck02, p02, hE2.1.1, a1]
    have call : Ch (fun n _ => (5 ≤ n ∧ n ≤ 8) ∨ (13 ≤ n ∧ n ≤ 28)) h h3 := (t2.mono (fun n k z => by unfold SN at z; omega)).trans (a3.mono (fun n k z => by omega))
    have hlen := List.length_eraseIdx_of_lt hp
    exact ⟨h3, rfl, hR.acts call (fun n k z => z) a2 (t3 _ h3 _ a3 (fun n k z => by omega) x3.2.1 (fun h4 q0 q1 q2 q3 q4 => Or.inr (Or.inl ⟨q0, _, _, _, _, q1, q2, q3, q4, by omega, by omega, hv, (insert_erase _ hp).symm⟩))), call.mono (fun n k z => Or.inl (by omega))⟩
  · simp only [hok, if_false, if_true]
    exact ⟨h, rfl, hR, Ch.rf⟩
def sp_change (e m : Int32) (a : ST) : Int32 × ST := if 0 ≤ e.toInt ∧ e.toInt < a.2.2.1.length then (if 0 ≤ m.toInt ∧ m.toInt ≤ 100 then (nI (am a.2.2.1 e.toInt.toNat), (a.1, a.2.1, a.2.2.1.set e.toInt.toNat (tw a.2.2.1 e.toInt.toNat, wa a.2.2.1 e.toInt.toNat, m.toInt.toNat), a.2.2.1 :: a.2.2.2.1.take 13, a.2.2.2.2)) else (-2, a)) else (-1, a)
theorem o9_change {h : HS} {a : ST} (hR : R9 h a) (e m : Int32) : ∃ h', f_X9_change 0 e m h = some ((sp_change e m a).1, h') ∧ R9 h' (sp_change e m a).2 ∧ Ch F9 h h' := by
  obtain ⟨⟨p, q, hW⟩, x2, x3, x4, x5, x6, x7, x8⟩ := id hR
  unfold f_X9_change sp_change
  simp only [nn_s, hW.1.1, gd_t, hW.1.2.2.2.2.1, rk3, x3.1.1, s_X3_has x3, bd_s, s_X9_isAmount]
  by_cases hok : 0 ≤ e.toInt ∧ e.toInt < a.2.2.1.length
  · by_cases hm : 0 ≤ m.toInt ∧ m.toInt ≤ 100
    · have hn := x3.2.1.1
      have ee := nat_of hok.1
      have em := nat_of hm.1
      have hp : e.toInt.toNat < a.2.2.1.length := by omega
      have hm2 : m.toInt.toNat ≤ 100 := by omega
      simp only [hok, hm, and_self, if_true, one0, if_false]
      generalize e.toInt.toNat = e' at *
      generalize m.toInt.toNat = m' at *
      subst ee em
      obtain ⟨d1, d2, d3, d4⟩ := id x3
      obtain ⟨y1, ⟨y2, y3, y4⟩, ⟨y5, y6, y7⟩, ⟨y8, y9, z1_⟩⟩ := d1
      have hv := d2.2 e' hp
      obtain ⟨h1, o, n1, n2, n3, n4, n5, n6⟩ := s_act x5
      obtain ⟨h2, t1, t2, t3⟩ := n6 2 (nI e') (nI (tw a.2.2.1 e')) (nI (wa a.2.2.1 e')) (nI (am a.2.2.1 e'))
      have hE1 := x3.fr n5 (fun n k _ _ z => by unfold SN at z; omega)
      have hE2 := x3.fr t2 (fun n k _ _ z => by unfold SN at z; omega)
      obtain ⟨f1, f2, f3, f4⟩ := id hE1
      obtain ⟨u1, ⟨u2, u3, u4⟩, ⟨u5, u6, u7⟩, ⟨u8, u9, u10⟩⟩ := f1
      have ck01 : ck h1 0 7 = true := by rw [n5.ck]; exact hW.1.1
      have p01 : hP h1 0 3 = some 5 := by rw [n5.P (by unfold SN; omega)]; exact hW.1.2.2.2.2.1
      have ck02 : ck h2 0 7 = true := by rw [t2.ck]; exact hW.1.1
      have p02 : hP h2 0 3 = some 5 := by rw [t2.P (by unfold SN; omega)]; exact hW.1.2.2.2.2.1
      have c0 : ca h (5 + 3) 9 (nI e') = true := ca_nI y7 (by omega) (by omega)
      have c1 : ca h1 (5 + 1) 9 (nI e') = true := ca_nI u5 (by omega) (by omega)
      have c2 : ca h1 (5 + 2) 9 (nI e') = true := ca_nI u6 (by omega) (by omega)
      have c3 : ca h2 (5 + 3) 9 (nI e') = true := ca_nI hE2.1.2.2.1.2.2 (by omega) (by omega)
      simp only [y4, hW.1.2.2.2.2.2.2.1, nn_s, rk1, rk0, rk3, x5.1, gd_t, n1, bd_s, ck01, p01, u1, u2, u3, c0, c1, c2, nI_clamp (show e' < 2 ^ 31 by omega), (d4 e' hp).2.2, (f4 e' hp).1, (f4 e' hp).2.1, n4, t1, ck02, p02, hE2.1.1, hE2.1.2.1.2.2, c3]
      have a3 : Ch (fun n _ => n = 8) h2 (sI h2 (5 + 3) e' (nI m')) := Ch.sI rfl
      have call : Ch (fun n _ => (5 ≤ n ∧ n ≤ 8) ∨ (13 ≤ n ∧ n ≤ 28)) h (sI h2 (5 + 3) e' (nI m')) := (t2.mono (fun n k z => by unfold SN at z; omega)).trans (a3.mono (fun n k z => by omega))
      refine ⟨_, rfl, hR.acts call (fun n k z => z) (hE2.amt hp hm2) (t3 _ _ _ a3 (fun n k z => by omega) x3.2.1 (fun h4 q0 q1 q2 q3 q4 => Or.inr (Or.inr ⟨q0, _, _, q1, q4, by rw [List.length_set]; exact hp, hv.2.2, (set_set _ hp).symm⟩))), call.mono (fun n k z => Or.inl (by omega))⟩
    · simp only [hok, hm, and_self, if_true, one0, if_false]
      exact ⟨h, rfl, hR, Ch.rf⟩
  · simp only [hok, if_false, if_true]
    exact ⟨h, rfl, hR, Ch.rf⟩
def sp_undo (a : ST) : Int32 × ST := match a.2.2.2.1 with
  | [] => (-3, a)
  | s :: t => (nI t.length, (a.1, a.2.1, s, t, a.2.2.2.2))
theorem s_X0_takeBack {h : HS} {o : Nat} {E s : EL} (hc : ck h o 0 = true) (ho : o < 5 ∨ 8 < o) (hE : ER h 5 E) (hT : TB h o E s) : ∃ h', f_X0_takeBack o (some 5) h = some ((), h') ∧ ER h' 5 s ∧ Ch (fun m _ => 5 ≤ m ∧ m ≤ 8) h h' := by
  unfold f_X0_takeBack b_X0_takeBack_73
  have hn := hE.2.1.1
  rcases hT with ⟨q0, p, q1, q2, rfl⟩ | ⟨q0, p, t, w, m, q1, q2, q3, q4, q5, q6, q7, rfl⟩ | ⟨q0, p, m, q1, q4, q5, q6, rfl⟩
  · obtain ⟨h', a1, a2, a3⟩ := s_X3_remove hE q2
    simp only [nn_s, hc, gd_t, q0, if_true, rk3, hE.1.1, q1, a1, bd_s]
    exact ⟨h', rfl, a2, a3⟩
  · obtain ⟨h', a1, a2, a3⟩ := s_X3_insert hE q6 q5 q7
    simp only [nn_s, hc, gd_t, q0, one0, if_false, if_true, rk3, hE.1.1, q1, q2, q3, q4, a1, bd_s]
    exact ⟨h', rfl, a2, a3⟩
  · have hh : 0 ≤ (nI p).toInt ∧ (nI p).toInt < E.length := by rw [nI_i (by omega)]; omega
    have c3 : ca h (5 + 3) 9 (nI p) = true := ca_nI hE.1.2.2.1.2.2 (by rw [hE.1.2.2.2.2.2]; omega) (by rw [hE.1.2.2.2.2.2]; omega)
    simp only [nn_s, hc, gd_t, q0, show ((2 : Int32) = 0) = False by decide, show ((2 : Int32) = 1) = False by decide, if_false, rk3, hE.1.1, q1, q4, s_X3_has hE, hh, and_self, if_true, one0, bd_s, hE.1.2.1.2.2, c3, nI_clamp (show p < 2 ^ 31 by omega)]
    exact ⟨_, rfl, hE.amt q5 q6, Ch.sI ⟨by omega, by omega⟩⟩
theorem o9_undo {h : HS} {a : ST} (hR : R9 h a) : ∃ h', f_X9_undo 0 h = some ((sp_undo a).1, h') ∧ R9 h' (sp_undo a).2 ∧ Ch F9 h h' := by
  obtain ⟨⟨p, q, hW⟩, x2, x3, x4, x5, x6, x7, x8⟩ := id hR
  obtain ⟨y1, y2, y3, y4, y5, y6, g, y7, y8, y9⟩ := id x5
  unfold f_X9_undo f_X1_takeLast sp_undo
  simp only [nn_s, hW.1.1, gd_t, hW.1.2.2.2.2.2.2.1, rk1, y1]
  cases hA : a.2.2.2.1 with
  | nil =>
    rw [hA] at y5
    simp only [y5, List.length_nil, show ((1 : Int32) ≤ nI 0) = False by decide, if_false, bd_s, if_true]
    exact ⟨h, rfl, hR, Ch.rf⟩
  | cons s t =>
    rw [hA] at y4 y5 y9
    obtain ⟨hTB, hEs, hAC⟩ := y9
    simp only [List.length_cons] at y4 y5
    have e1 : nI (t.length + 1) - 1 = nI t.length := nI_sub (a := t.length + 1) (b := 1) (by omega)
    have hg := y7 t.length (by omega)
    have hca : ∀ x, ca (sI h 13 1 x) 14 11 (nI t.length) = true := fun x => ca_nI (by rw [ck_sI]; exact y3) (by rw [al14]; omega) (by rw [al14]; omega)
    have cS : Ch (fun m k => m = 13 ∧ k = 1) h (sI h 13 1 (nI t.length)) := Ch.sI ⟨rfl, rfl⟩
    have hE1 := x3.fr cS (fun n k _ _ z => by omega)
    have hTB1 : TB (sI h 13 1 (nI t.length)) (15 + g t.length) a.2.2.1 s := hTB.fr (fun k _ => cS.I (by omega))
    have hck := y6 _ hg.2
    obtain ⟨h', b1, b2_, b3⟩ := s_X0_takeBack (h := sI h 13 1 (nI t.length)) (by rw [ck_sI]; exact hck) (by omega) hE1 hTB1
    have ck0 : ck h' 0 7 = true := by rw [b3.ck, ck_sI]; exact hW.1.1
    have p05 : hP h' 0 5 = some 13 := by rw [b3.P (by omega)]; exact hW.1.2.2.2.2.2.2.1
    have ck13 : ck h' 13 1 = true := by rw [b3.ck, ck_sI]; exact y1
    have s13 : hI h' 13 1 = nI t.length := by rw [b3.I (by omega), hI_sI, if_pos ⟨rfl, rfl⟩]
    simp only [y5, show (1 : Int32) ≤ nI (t.length + 1) from nI_le (a := 1) (by omega) (by omega), if_true, e1, ck_sI, y1, gd_t, hP_sI, y2, nn_s, hI_sI, and_self, hca, nI_clamp (show t.length < 2 ^ 31 by omega), hg.1, bd_s, reduceCtorEq, if_false, hW.1.1, hW.1.2.2.2.2.1, rk0, hck, b1, ck0, p05, ck13, s13]
    have call : Ch (fun n _ => (5 ≤ n ∧ n ≤ 8) ∨ (13 ≤ n ∧ n ≤ 28)) h h' := (cS.mono (fun n k z => by omega)).trans (b3.mono (fun n k z => by omega))
    have c2 : Ch (fun n k => (5 ≤ n ∧ n ≤ 8) ∨ (n = 13 ∧ k = 1)) h h' := (cS.mono (fun n k z => by omega)).trans (b3.mono (fun n k z => by omega))
    refine ⟨h', rfl, hR.acts call (fun n k z => z) b2_ ⟨ck13, ?_, by rw [call.ck]; exact y3, by omega, s13, fun j hj => by rw [call.ck]; exact y6 j hj, g, fun i hi => ⟨?_, (y7 i hi).2⟩, y8, ?_⟩, call.mono (fun n k z => Or.inl (by omega))⟩
    · rw [c2.P (by omega)]; exact y2
    · rw [c2.P (by omega)]; exact (y7 i hi).1
    · exact AC.fr t s hAC (fun i hi => ⟨rfl, fun k _ => c2.I (by have := (y7 i (by omega)).2; omega)⟩)
