/-! OPS: what would be: would, best, drawn -/
theorem a9_fq {h h' : HS} {a : ST} {v : Int32} {F : Option (Int32 × HS)} (hR : R9 h a) (e : F = some (v, h')) (c : Ch FQ h h') (h9 : EN h' 9) : ∃ h', F = some (v, h') ∧ R9 h' a ∧ Ch F9 h h' := ⟨h', e, hR.q c h9, c.mono (fun m k z => FQ_F9 z)⟩
theorem W9.tr {h h' : HS} {p q : Nat} {pl : PL} (x : W9 h p q pl) (c : Ch (fun m _ => 9 ≤ m ∧ m ≤ 9 + 3) h h') : W9 h' p q pl := x.fr c (fun k _ z => by omega) (fun k z => by omega) (fun k z => by omega) (fun k _ z => by omega) (fun k _ z => by omega)
theorem TR_FQ {m k : Nat} (z : 9 ≤ m ∧ m ≤ 9 + 3) : FQ m k := Or.inr (by omega)
theorem SA_FQ {m k : Nat} (z : SA m k) : FQ m k := Or.inl z
theorem q10_lay {h : HS} {a : ST} (hR : R10 h a) : ∃ h1, f_X10_layTrial 42 h = some ((), h1) ∧ MV h1 1 a.2.2.1 ∧ Ch (SC 44 17) h h1 ∧ R10 h1 a := by
  obtain ⟨hC, hP, hV, x4, x5, x6, x7, x8, k0, k1⟩ := id hR
  obtain ⟨c1, c2⟩ := cp_inv (h := h) (n1 := 44) (b1 := 0) (n2 := 44) (b2 := 17) (Or.inr (Or.inl (by omega)))
  have hB : BV h 44 0 a.2.2.1 := x5
  have hB2 := hB.cp (n2 := 44) (b2 := 17) (Or.inr (Or.inl (by omega)))
  exact ⟨_, s_X10_layTrial hC, hB2, c1, hR.q (c1.mono (fun m k z => Or.inr (Or.inr z)))⟩
theorem s_total10 {h : HS} (hC : C10 h) {lv : Nat} (hl : lv < 2) {E : EL} (hM : MV h lv E) {pl : PL} (hP : MP h pl) (hV : PV pl) : f_X10_allOf 42 (nI lv) h = some (allS E.length, h) ∧ f_X10_measureOf 42 (nI lv) (allS E.length) h = some (tot pl E, h) := ⟨s_X10_allOf hC hl hM, s_X10_measureOf hC hl hM hV.2.2.1 hP.2.2.1 (SB_all hM.1.1)⟩
noncomputable def sp_would (t w m o : Int32) (a : ST) : Int32 := if eB t w m = 0 then -2 else if o.toInt = 0 ∨ o.toInt = 1 then (if a.2.2.1.length < 16 then (if o = 0 then tot a.2.1 (a.2.2.1 ++ [(t.toInt.toNat, w.toInt.toNat, m.toInt.toNat)]) else nI (rwl a.2.1 (a.2.2.1 ++ [(t.toInt.toNat, w.toInt.toNat, m.toInt.toNat)])).length) else -4) else -2
theorem o9_would {h : HS} {a : ST} (hR : R9 h a) (t w m o : Int32) : ∃ h', f_X9_would 0 t w m o h = some (sp_would t w m o a, h') ∧ R9 h' a ∧ Ch F9 h h' := by
  obtain ⟨⟨p, q, hW⟩, x2, x3, x4, x5, x6, x7, x8⟩ := id hR
  unfold f_X9_would sp_would b_X9_would_17 b_X9_would_81
  rw [s_X9_isEntry]
  simp only [bd_s, s_X9_isOneOfTwo]
  by_cases hok : eOk t w m
  · have e1 : eB t w m = 1 := by unfold eB; rw [if_pos hok]
    rw [e1]
    simp only [one0, if_false]
    by_cases q0 : o.toInt = 0 ∨ o.toInt = 1
    · simp only [q0, if_true, one0, if_false, nn_s, hW.1.1, gd_t, hW.1.2.2.2.2.1, rk3, x3.1.1, s_X3_hasRoom x3, bd_s]
      by_cases h16 : a.2.2.1.length < 16
      · simp only [h16, if_true, one0, if_false]
        obtain ⟨hv, et, ew, em⟩ := eOk_nat hok
        clear e1 hok
        generalize t.toInt.toNat = t' at *
        generalize w.toInt.toNat = w' at *
        generalize m.toInt.toNat = m' at *
        subst et ew em
        obtain ⟨h1, b1, b2_, b3⟩ := s_X3_copyFrom x3 x4 (Or.inr (by omega))
        have hW1 := hW.tr b3
        obtain ⟨h2, c1, c2, c3⟩ := s_X3_append b2_ h16 hv
        have hW2 := hW1.tr c3
        have call : Ch FQ h h2 := (b3.mono (fun m k z => TR_FQ z)).trans (c3.mono (fun m k z => TR_FQ z))
        simp only [hW.1.2.2.2.2.2.1, rk3, x4.1, gd_t, nn_s, b1, bd_s, hW1.1.1, hW1.1.2.2.2.2.2.1, b2_.1.1, c1, hW2.1.1, hW2.1.2.2.2.2.2.1, rk7]
        by_cases qo : o = 0
        · simp only [qo, if_true, s_X9_totalOf hW2 c2, bd_s]
          exact a9_fq hR rfl call c2.1
        · obtain ⟨h3, d1, d2, d3⟩ := s_X9_rowsOf hW2 c2 (Or.inl (by omega))
          simp only [qo, if_false, d1, bd_s, nn_s, d2.1.1, gd_t, d2.2.2.1]
          have d3' : Ch SA h2 h3 := d3.mono (fun m k z => by unfold SA; omega)
          exact a9_fq hR rfl (call.trans (d3'.mono (fun m k z => SA_FQ z))) (c2.1.fr d3' (fun n k _ _ z => by unfold SA at z; omega))
      · simp only [h16, if_false, if_true]
        exact ⟨h, rfl, hR, Ch.rf⟩
    · simp only [q0, if_false, if_true]
      exact ⟨h, rfl, hR, Ch.rf⟩
  · have e1 : eB t w m = 0 := by unfold eB; rw [if_neg hok]
    rw [e1]
    simp only [if_true]
    exact ⟨h, rfl, hR, Ch.rf⟩
theorem o10_would {h : HS} {a : ST} (hR : R10 h a) (t w m o : Int32) : ∃ h', f_X10_would 42 t w m o h = some (sp_would t w m o a, h') ∧ R10 h' a ∧ Ch F10 h h' := by
  obtain ⟨hC, hP, hV, x4, x5, x6, x7, x8, k0, k1⟩ := id hR
  have hn := x5.1.1
  have hmany := s_X10_many hC (lv := 0) (by omega) x5
  rw [show nI 0 = 0 from rfl] at hmany
  unfold f_X10_would sp_would b_X10_would_20 b_X10_would_78
  rw [s_X10_isEntry]
  simp only [bd_s, s_in01]
  by_cases hok : eOk t w m
  · have e1 : eB t w m = 1 := by unfold eB; rw [if_pos hok]
    rw [e1]
    simp only [one0, if_false]
    by_cases q0 : o.toInt = 0 ∨ o.toInt = 1
    · simp only [q0, if_true, one0, if_false, nn_s, rk8, hC.1.1, gd_t, hmany, bd_s]
      rw [show (16 : Int32) = nI 16 from rfl, ite_eq (by omega) (by omega)]
      by_cases h16 : a.2.2.1.length < 16
      · rw [if_neg (by omega), if_pos h16]
        obtain ⟨hv, et, ew, em⟩ := eOk_nat hok
        clear e1 hok
        generalize t.toInt.toNat = t' at *
        generalize w.toInt.toNat = w' at *
        generalize m.toInt.toNat = m' at *
        subst et ew em
        obtain ⟨h1, b1, b2_, b3, hR1⟩ := q10_lay hR
        obtain ⟨h2, c1, c2, c3⟩ := s_X10_addOn hR1.1 (lv := 1) (by omega) b2_ h16 hv
        rw [show nI 1 = 1 from rfl] at c1
        have c3' : Ch FM h1 h2 := c3.mono (fun m k z => Or.inr (Or.inr z))
        have hR2 := hR1.q c3'
        obtain ⟨r, d1, d2, d3⟩ := s_X10_findRows hR2.1 (lv := 1) (by omega) c2 hR2.2.1 hV
        rw [show nI 1 = 1 from rfl] at d1
        have d2' : Ch FM h2 r.2 := d2.mono (fun m k z => SR_FM z)
        have hR3 := hR2.q d2'
        have hM3 := c2.fr d2 (fun k _ _ z => by unfold SR at z; omega)
        obtain ⟨t1, t2⟩ := s_total10 hR3.1 (lv := 1) (by omega) hM3 hR3.2.1 hV
        rw [show nI 1 = 1 from rfl] at t1 t2
        have call : Ch FM h r.2 := ((b3.mono (fun m k z => Or.inr (Or.inr z))).trans c3').trans d2'
        simp only [b1, bd_s, asOne_eq, hR1.1.1.1, gd_t, c1, hR2.1.1.1, d1, hR3.1.1.1, t1, t2, d3.2.1]
        by_cases qo : o = 0
        · simp only [qo, if_true]
          exact a10_q hR rfl call
        · simp only [qo, if_false]
          exact a10_q hR rfl call
      · rw [if_pos (by omega), if_neg h16]
        exact ⟨h, rfl, hR, Ch.rf⟩
    · simp only [q0, if_false, if_true]
      exact ⟨h, rfl, hR, Ch.rf⟩
  · have e1 : eB t w m = 0 := by unfold eB; rw [if_neg hok]
    rw [e1]
    simp only [if_true]
    exact ⟨h, rfl, hR, Ch.rf⟩
/-! all entries but one -/
theorem range_map {α β : Type} (f : α → β) (d : α) : ∀ L : List α, (List.range L.length).map (fun i => f (L.getD i d)) = L.map f
  | [] => rfl
  | x :: L => by
    rw [List.length_cons, List.range_succ_eq_map, List.map_cons, List.map_map]
    exact congrArg (fun y => f x :: y) (range_map f d L)
theorem range_erase {α β : Type} (f : α → β) (d : α) : ∀ (L : List α) (e : Nat), ((List.range L.length).filter (fun i => !(i == e))).map (fun i => f (L.getD i d)) = (L.eraseIdx e).map f
  | [], e => by simp
  | x :: L, 0 => by
    have h1 : ((List.range L.length).map Nat.succ).filter (fun i => !(i == 0)) = (List.range L.length).map Nat.succ := List.filter_eq_self.mpr (by
      intro a ha
      obtain ⟨b, _, rfl⟩ := List.mem_map.mp ha
      simp)
    rw [List.length_cons, List.range_succ_eq_map, List.filter_cons_of_neg (by simp), h1, List.map_map]
    exact range_map f d L
  | x :: L, e + 1 => by
    have h1 : ((List.range L.length).map Nat.succ).filter (fun i => !(i == e + 1)) = ((List.range L.length).filter (fun i => !(i == e))).map Nat.succ := by
      rw [List.filter_map]
      congr 1
      refine List.filter_congr (fun i _ => ?_)
      simp
    rw [List.length_cons, List.range_succ_eq_map, List.filter_cons_of_pos (by simp), List.map_cons, h1, List.map_map]
    exact congrArg (fun y => f x :: y) (range_erase f d L e)
theorem sel_all {E : EL} (hE : E.length ≤ 16) : sel E (allS E.length) = E.map (fun v => v.2.2) := by
  unfold sel
  rw [List.filter_eq_self.mpr (fun i hi => by rw [bt_all _ hE i (by have := List.mem_range.mp hi; omega)]; simpa using hi)]
  exact range_map (fun v => v.2.2) (0, 0, 0) E
theorem tot_map {E : EL} (hE : E.length ≤ 16) (pl : PL) : tot pl E = mL pl.2.2.1 (E.map (fun v => v.2.2)) := by
  unfold tot
  rw [sel_all hE]
theorem sel_drop {E : EL} (hE : E.length ≤ 16) (e : Nat) : e < E.length → sel E (allS E.length &&& (((1 : Int32) <<< (nI e &&& 31)) ^^^ (-1))) = (E.eraseIdx e).map (fun v => v.2.2) := by
  intro he
  unfold sel
  have h1 : (List.range E.length).filter (fun i => bt (allS E.length &&& (((1 : Int32) <<< (nI e &&& 31)) ^^^ (-1))) i) = (List.range E.length).filter (fun i => !(i == e)) := by
    refine List.filter_congr (fun i hi => ?_)
    have hi := List.mem_range.mp hi
    rw [b_and, bt_all _ hE i (by omega), bt_not _ (by omega), sh1 (by omega) (by omega)]
    simp [hi]
    by_cases q : i = e
    · simp [q]
    · simp [q]
  rw [h1]
  exact range_erase (fun v => v.2.2) (0, 0, 0) E e
def beS (pl : PL) (E : EL) (k : Nat) (s : Int32 × Int32) : Int32 × Int32 := if s.1 = -9 then (nI k, tot pl (E.eraseIdx k)) else if tot pl (E.eraseIdx k) ≤ s.2 then s else (nI k, tot pl (E.eraseIdx k))
def beR (a : ST) : Int32 × Int32 := fw (beS a.2.1 a.2.2.1) 0 a.2.2.1.length (-9, -9)
def sp_best (w : Int32) (a : ST) : Int32 := if w.toInt = 0 ∨ w.toInt = 1 then (if w = 0 then (beR a).1 else (beR a).2) else -2
theorem o9_best {h : HS} {a : ST} (hR : R9 h a) (w : Int32) : ∃ h', f_X9_best 0 w h = some (sp_best w a, h') ∧ R9 h' a ∧ Ch F9 h h' := by
  obtain ⟨⟨p, q, hW⟩, x2, x3, x4, x5, x6, x7, x8⟩ := id hR
  have hn := x3.2.1.1
  refine ⟨h, ?_, hR, Ch.rf⟩
  unfold f_X9_best sp_best
  rw [s_X9_isOneOfTwo]
  simp only [bd_s]
  by_cases q0 : w.toInt = 0 ∨ w.toInt = 1
  · simp only [q0, if_true, one0, if_false]
    unfold beR
    refine it_up (fun n (s : Int32 × Int32) k => l_X9_best_19 n 0 w s.1 s.2 (nI k) h) a.2.2.1.length (beS a.2.1 a.2.2.1) (fun s => some (if w = 0 then s.1 else s.2, h)) (fun _ _ => True) ?_ ?_ a.2.2.1.length FU (-9, -9) 0 (by omega) (by have := FU_gt; omega) trivial
    · intro n s k hk _
      refine ⟨?_, trivial⟩
      show b_X9_best_19 (l_X9_best_19 n) 0 w s.1 s.2 (nI k) h = _
      unfold b_X9_best_19 b_X9_best_67 b_X9_best_73
      have hA : f_X3_all 5 h = some (allS a.2.2.1.length, h) := s_X3_all x3
      have hSB : SB a.2.2.1.length (allS a.2.2.1.length &&& (((1 : Int32) <<< (nI k &&& 31)) ^^^ (-1))) := b_and_SB (SB_all hn)
      have hm := s_X9_measureOf hW x3 hSB
      rw [sel_drop hn k hk, ← tot_map (by rw [List.length_eraseIdx_of_lt hk]; omega)] at hm
      simp only [nn_s, hW.1.1, gd_t, hW.1.2.2.2.2.1, x3.1.1, x3.2.2.1]
      rw [ite_le (by omega) (by omega), if_neg (by omega)]
      simp only [rk3, x3.1.1, gd_t, hA, bd_s, rk7, hW.1.1, hm, nI_1]
      unfold beS
      by_cases q1 : s.1 = -9
      · simp only [q1, if_true]
      · simp only [q1, if_false]
        by_cases q2 : tot a.2.1 (a.2.2.1.eraseIdx k) ≤ s.2
        · simp only [q2, if_true]
        · simp only [q2, if_false]
    · intro n s _
      show b_X9_best_19 (l_X9_best_19 n) 0 w s.1 s.2 (nI a.2.2.1.length) h = _
      unfold b_X9_best_19 b_X9_best_88
      simp only [nn_s, hW.1.1, gd_t, hW.1.2.2.2.2.1, x3.1.1, x3.2.2.1]
      rw [ite_le (by omega) (by omega), if_pos (by omega)]
      split <;> rfl
  · simp only [q0, if_false, if_true]
theorem o10_best {h : HS} {a : ST} (hR : R10 h a) (w : Int32) : ∃ h', f_X10_best 42 w h = some (sp_best w a, h') ∧ R10 h' a ∧ Ch F10 h h' := by
  obtain ⟨hC, hP, hV, x4, x5, x6, x7, x8, k0, k1⟩ := id hR
  have hn := x5.1.1
  unfold f_X10_best sp_best
  rw [s_in01]
  simp only [bd_s]
  by_cases q0 : w.toInt = 0 ∨ w.toInt = 1
  · simp only [q0, if_true, one0, if_false]
    have key : ∃ r : Int32 × HS, l_X10_best_22 FU 42 w (-9) (-9) 0 h = some r ∧ (r.1 = (if w = 0 then (beR a).1 else (beR a).2) ∧ Ch FM h r.2) := by
      refine it_ex (fun n (s : (Int32 × Int32) × HS) k => l_X10_best_22 n 42 w s.1.1 s.1.2 (nI k) s.2) a.2.2.1.length (fun k s => s.1 = fw (beS a.2.1 a.2.2.1) 0 k (-9, -9) ∧ Ch FM h s.2) _ ?_ ?_ a.2.2.1.length FU ((-9, -9), h) 0 (by omega) (by have := FU_gt; omega) ⟨rfl, Ch.rf⟩
      · intro n s k hk hs
        obtain ⟨⟨s1, s2⟩, g⟩ := s
        obtain ⟨i1, i2⟩ := hs
        have hR1 := hR.q i2
        obtain ⟨h1, b1, b2_, b3, hR2⟩ := q10_lay hR1
        obtain ⟨r, d1, d2, d3⟩ := s_X10_dropOn hR2.1 (lv := 1) (by omega) b2_ hk
        have d3' : Ch FM h1 r.2 := d3.mono (fun m k z => Or.inr (Or.inr z))
        have hR3 := hR2.q d3'
        obtain ⟨t1, t2⟩ := s_total10 hR3.1 (lv := 1) (by omega) d2 hR3.2.1 hV
        have hmany := s_X10_many hR1.1 (lv := 0) (by omega) hR1.2.2.2.2.1
        rw [show nI 0 = 0 from rfl] at hmany
        rw [show nI 1 = 1 from rfl] at t1 t2 d1
        have call : Ch FM h r.2 := (i2.trans (b3.mono (fun m k z => Or.inr (Or.inr z)))).trans d3'
        right
        refine ⟨(beS a.2.1 a.2.2.1 k (s1, s2), r.2), ?_, ?_, call⟩
        · show b_X10_best_22 (l_X10_best_22 n) 42 w s1 s2 (nI k) g = _
          unfold b_X10_best_22 b_X10_best_67 b_X10_best_72 b_X10_best_85 b_X10_best_97
          simp only [nn_s, rk8, hR1.1.1.1, gd_t, hmany, bd_s]
          rw [ite_le (by omega) (by omega), if_neg (by omega)]
          simp only [b1, bd_s, hR2.1.1.1, gd_t, d1, hR3.1.1.1, t1, t2, nI_1, one0, if_false, if_true]
          unfold beS
          by_cases q1 : s1 = -9
          · simp only [q1, if_true]
          · simp only [q1, if_false]
            by_cases q2 : tot a.2.1 (a.2.2.1.eraseIdx k) ≤ s2
            · simp only [q2, if_true]
            · simp only [q2, if_false]
        · rw [fw_last, ← i1, Nat.zero_add]
      · intro n s hs
        obtain ⟨⟨s1, s2⟩, g⟩ := s
        obtain ⟨i1, i2⟩ := hs
        have hR1 := hR.q i2
        have hmany := s_X10_many hR1.1 (lv := 0) (by omega) hR1.2.2.2.2.1
        rw [show nI 0 = 0 from rfl] at hmany
        refine ⟨(if w = 0 then s1 else s2, g), ?_, ?_, i2⟩
        · show b_X10_best_22 (l_X10_best_22 n) 42 w s1 s2 (nI a.2.2.1.length) g = _
          unfold b_X10_best_22 b_X10_best_113
          simp only [nn_s, rk8, hR1.1.1.1, gd_t, hmany, bd_s]
          rw [ite_le (by omega) (by omega), if_pos (by omega)]
          split <;> rfl
        · show (if w = 0 then s1 else s2) = _
          unfold beR
          rw [← i1]
    obtain ⟨r, e1, e2, e3⟩ := key
    exact a10_q hR (by rw [e1, ← e2]) e3
  · simp only [q0, if_false, if_true]
    exact ⟨h, rfl, hR, Ch.rf⟩
/-! drawn -/
theorem s_nz9 (x : Int32) (h : HS) : f_X9_noneAsZero x h = some (nz x, h) := by
  unfold f_X9_noneAsZero b_X9_noneAsZero_11 nz
  split <;> rfl
theorem uS33 (x : Int64) : (uS x 33).toInt32 = nI (uJ x / 2 ^ 33) := by
  refine b_ext (fun i hi => ?_)
  rw [bt_l2i _ hi, bt_nI _ hi, show (33 : Int32) = nI 33 from rfl, uS_k x 33 (by omega)]
theorem uJ33 (x : Int64) : uJ x / 2 ^ 33 < 2 ^ 31 := by
  have := uJ_lt x
  omega
def nxD (x : Int64) : Int64 := x * 6364136223846793005 + 1442695040888963407
def dV (v : Nat) : Nat × Nat × Nat := (v % 4, v / 4 % 5, v / 32 % 101)
theorem dV_ok (v : Nat) : EOK (dV v) := ⟨Nat.mod_lt _ (by omega), Nat.mod_lt _ (by omega), Nat.le_of_lt_succ (Nat.mod_lt _ (by omega))⟩
def drX (v : Nat) (X : EL) : EL := if X.length < 16 then X ++ [dV v] else X.eraseIdx 0
def drS (pl : PL) (_k : Nat) (s : Int64 × EL × Int32) : Int64 × EL × Int32 := (nxD s.1, drX (uJ (nxD s.1) / 2 ^ 33) s.2.1, s.2.2 + nz (tot pl (drX (uJ (nxD s.1) / 2 ^ 33) s.2.1)))
def drR (a : ST) (k : Nat) : Int64 × EL × Int32 := fw (drS a.2.1) 0 k (a.2.2.2.2.2.1, a.2.2.1, 0)
def wSd (a : ST) (x : Int64) : ST := (a.1, a.2.1, a.2.2.1, a.2.2.2.1, a.2.2.2.2.1, x, a.2.2.2.2.2.2)
theorem wSd_pl (a : ST) (x : Int64) : (wSd a x).2.1 = a.2.1 := rfl
def sp_drawn (m : Int32) (a : ST) : Int32 × ST := if 1 ≤ m.toInt ∧ m.toInt ≤ 20 then ((drR a m.toInt.toNat).2.2, wSd a (drR a m.toInt.toNat).1) else (-2, a)
theorem dq (v : Nat) (hv : v < 2 ^ 31) : nI v - nI v / 4 * 4 = nI (v % 4) ∧ nI v / 4 - nI v / 4 / 5 * 5 = nI (v / 4 % 5) ∧ nI v / 32 - nI v / 32 / 101 * 101 = nI (v / 32 % 101) := by
  have a1 : nI v / 4 = nI (v / 4) := nI_div (b := 4) hv (by omega) (by omega)
  have a2 : nI v / 32 = nI (v / 32) := nI_div (b := 32) hv (by omega) (by omega)
  refine ⟨nI_rem (d := 4) hv (by omega) (by omega), ?_, ?_⟩
  · rw [a1]; exact nI_rem (d := 5) (by omega) (by omega) (by omega)
  · rw [a2]; exact nI_rem (d := 101) (by omega) (by omega) (by omega)
theorem s_draw {h : HS} {p q : Nat} {pl : PL} {X : EL} (hW : W9 h p q pl) (hX : ER h 9 X) (v : Nat) (hv : v < 2 ^ 31) : ∃ h', f_X9_drawIntoTrial 0 (nI v) h = some ((), h') ∧ ER h' 9 (drX v X) ∧ Ch (fun m _ => 9 ≤ m ∧ m ≤ 9 + 3) h h' := by
  obtain ⟨q1, q2, q3⟩ := dq v hv
  have hn := hX.2.1.1
  unfold f_X9_drawIntoTrial b_X9_drawIntoTrial_43 drX
  simp only [nn_s, hW.1.1, gd_t, hW.1.2.2.2.2.2.1, rk3, hX.1.1, s_X3_hasRoom hX, bd_s, q1, q2, q3, show decide (¬ (4 : Int32) = 0) = true by decide, show decide (¬ (5 : Int32) = 0) = true by decide, show decide (¬ (32 : Int32) = 0) = true by decide, show decide (¬ (101 : Int32) = 0) = true by decide]
  by_cases h16 : X.length < 16
  · simp only [h16, if_true, one0, if_false]
    obtain ⟨h1, c1, c2, c3⟩ := s_X3_append hX h16 (dV_ok v)
    exact ⟨h1, by rw [show f_X3_append 9 (nI (v % 4)) (nI (v / 4 % 5)) (nI (v / 32 % 101)) h = some ((), h1) from c1]; rfl, c2, c3⟩
  · simp only [h16, if_false, if_true]
    obtain ⟨h1, c1, c2, c3⟩ := s_X3_remove hX (p := 0) (by omega)
    rw [show nI 0 = 0 from rfl] at c1
    exact ⟨h1, by rw [c1]; rfl, c2, c3⟩
def SD9 (m k : Nat) : Prop := (9 ≤ m ∧ m ≤ 9 + 3) ∨ (m = 0 ∧ k = 10)
theorem W9.sd {h h' : HS} {p q : Nat} {pl : PL} (x : W9 h p q pl) (c : Ch SD9 h h') : W9 h' p q pl := x.fr c (fun k _ z => by unfold SD9 at z; omega) (fun k z => by unfold SD9 at z; omega) (fun k z => by unfold SD9 at z; omega) (fun k _ z => by unfold SD9 at z; omega) (fun k _ z => by unfold SD9 at z; omega)
theorem R9.sd {h h' : HS} {a : ST} {x : Int64} (hR : R9 h a) (c : Ch SD9 h h') (h9 : EN h' 9) (hx : hJ h' 0 10 = x) : R9 h' (wSd a x) := by
  obtain ⟨⟨p, q, x1⟩, x2, x3, x4, x5, x6, x7, x8⟩ := hR
  exact ⟨⟨p, q, x1.sd c⟩, x2.fr c (fun n k z => by unfold SD9 at z; omega), x3.fr c (fun n k _ _ z => by unfold SD9 at z; omega), h9, x5.fr c (fun n k z => by unfold SD9 at z; omega), x6.fr c (fun n k z => by unfold SD9 at z; omega), hx, x8.fr c (fun n k z => by unfold SD9 at z; omega)⟩
theorem o9_drawn {h : HS} {a : ST} (hR : R9 h a) (m : Int32) : ∃ h', f_X9_drawn 0 m h = some ((sp_drawn m a).1, h') ∧ R9 h' (sp_drawn m a).2 ∧ Ch F9 h h' := by
  obtain ⟨⟨p, q, hW⟩, x2, x3, x4, x5, x6, x7, x8⟩ := id hR
  unfold f_X9_drawn b_X9_drawn_11 sp_drawn
  simp only [i32_lt, i32_le, show (1 : Int32).toInt = 1 from rfl, show (20 : Int32).toInt = 20 from rfl]
  by_cases q0 : 1 ≤ m.toInt ∧ m.toInt ≤ 20
  · rw [if_pos q0, if_neg (by omega), if_pos q0.2]
    have em := nat_of (x := m) (by omega)
    have hN : m.toInt.toNat ≤ 20 := by omega
    generalize m.toInt.toNat = N at *
    subst em
    clear q0
    obtain ⟨h1, b1, b2_, b3⟩ := s_X3_copyFrom x3 x4 (Or.inr (by omega))
    have key : ∃ r : Int32 × HS, l_X9_drawn_29 FU 0 (nI N) 0 0 h1 = some r ∧ (r.1 = (drR a N).2.2 ∧ ER r.2 9 (drR a N).2.1 ∧ hJ r.2 0 10 = (drR a N).1 ∧ Ch SD9 h r.2) := by
      refine it_ex (fun n (s : Int32 × HS) k => l_X9_drawn_29 n 0 (nI N) s.1 (nI k) s.2) N (fun k s => s.1 = (drR a k).2.2 ∧ ER s.2 9 (drR a k).2.1 ∧ hJ s.2 0 10 = (drR a k).1 ∧ Ch SD9 h s.2) _ ?_ ?_ N FU (0, h1) 0 (by omega) (by have := FU_gt; omega) ⟨rfl, b2_, by rw [b3.J (by omega)]; exact x7, b3.mono (fun m k z => Or.inl z)⟩
      · intro n s k hk hs
        obtain ⟨s1, g⟩ := s
        obtain ⟨i1, i2, i3, i4⟩ := hs
        simp only at i1 i2 i3 i4
        have eS : drR a (k + 1) = drS a.2.1 k (drR a k) := by unfold drR; rw [fw_last, Nat.zero_add]
        have hWg := hW.sd i4
        have cJ0 : Ch (fun m k => m = 0 ∧ k = 10) g (sJ g 0 10 (nxD (drR a k).1)) := Ch.sJ ⟨rfl, rfl⟩
        have cJ : Ch SD9 g (sJ g 0 10 (nxD (drR a k).1)) := cJ0.mono (fun m k z => Or.inr z)
        have hJ1 : hJ (sJ g 0 10 (nxD (drR a k).1)) 0 10 = nxD (drR a k).1 := by rw [hJ_sJ, if_pos ⟨rfl, rfl⟩]
        right
        have step : l_X9_drawn_29 (n + 1) 0 (nI N) s1 (nI k) g = b_X9_drawn_29 (l_X9_drawn_29 n) 0 (nI N) s1 (nI k) g := rfl
        simp only [step]
        unfold b_X9_drawn_29
        rw [if_neg (nI_ge hk (by omega))]
        simp only [nn_s, hWg.1.1, gd_t, i3]
        rw [show (drR a k).1 * 6364136223846793005 + 1442695040888963407 = nxD (drR a k).1 from rfl]
        generalize sJ g 0 10 (nxD (drR a k).1) = g1 at *
        have hW1 := hWg.sd cJ
        have hX1 := i2.fr cJ0 (fun n k _ _ z => by omega)
        have eU : (Int64.toInt32 (Int64.ofBitVec (UInt64.toBitVec ((hJ g1 0 10).toUInt64 >>> ((33 : Int32).toInt64.toUInt64 &&& Int64.toUInt64 63))))) = nI (uJ (nxD (drR a k).1) / 2 ^ 33) := by
          rw [hJ1]; exact uS33 _
        obtain ⟨g2, d1, d2, d3⟩ := s_draw hW1 hX1 (uJ (nxD (drR a k).1) / 2 ^ 33) (uJ33 _)
        have hW2 := hW1.tr d3
        have eU2 : ((hJ g1 0 10).toUInt64 >>> ((33 : Int32).toInt64.toUInt64 &&& Int64.toUInt64 63)).toInt64.toInt32 = nI (uJ (nxD (drR a k).1) / 2 ^ 33) := by
          rw [hJ1]; exact uS33 _
        simp only [hW1.1.1, gd_t, rk7, eU2, d1, bd_s, hW2.1.1, hW2.1.2.2.2.2.2.1, s_X9_totalOf hW2 d2, s_nz9, nI_1]
        refine ⟨(s1 + nz (tot a.2.1 (drX (uJ (nxD (drR a k).1) / 2 ^ 33) (drR a k).2.1)), g2), rfl, ?_, ?_, ?_, (i4.trans cJ).trans (d3.mono (fun m k z => Or.inl z))⟩
        · show s1 + _ = _
          rw [eS, i1]; rfl
        · rw [eS]; exact d2
        · show hJ g2 0 10 = _
          rw [d3.J (by omega), hJ1, eS]; rfl
      · intro n s hs
        obtain ⟨s1, g⟩ := s
        refine ⟨(s1, g), ?_, hs⟩
        show b_X9_drawn_29 (l_X9_drawn_29 n) 0 (nI N) s1 (nI N) g = _
        unfold b_X9_drawn_29
        rw [if_pos (nI_le (by omega) (by omega))]
    obtain ⟨r, e1, e2, e3, e4, e5⟩ := key
    simp only [nn_s, hW.1.1, gd_t, hW.1.2.2.2.2.1, hW.1.2.2.2.2.2.1, rk3, x4.1, b1, bd_s, e1]
    exact ⟨r.2, by rw [← e2], hR.sd e5 e3.1 e4, e5.mono (fun m k z => by unfold SD9 at z; unfold F9; omega)⟩
  · rw [if_neg q0]
    refine ⟨h, ?_, hR, Ch.rf⟩
    by_cases q1 : m.toInt < 1
    · rw [if_pos q1]
    · rw [if_neg q1, if_neg (by omega)]
def SD10 (m k : Nat) : Prop := SC 44 17 m k ∨ (m = 42 ∧ k = 27)
theorem R10.sd {h h' : HS} {a : ST} {x : Int64} (hR : R10 h a) (c : Ch SD10 h h') (hx : hJ h' 42 27 = x) : R10 h' (wSd a x) := by
  obtain ⟨hC, hP, hV, x4, x5, x6, x7, x8, k0, k1⟩ := hR
  exact ⟨hC.fr c (fun n k z q => by unfold SD10 SC at z; omega), hP.fr c (fun k _ z => by unfold SD10 SC at z; omega), hV, x4.fr c (fun n k z => by unfold SD10 SC at z; omega), x5.fr c (fun k _ _ z => by unfold SD10 SC at z; omega), x6.fr c (fun n k z => by unfold SD10 SC at z; omega), x7.fr c (fun n k z => by unfold SD10 SC at z; omega), hx, k0.fr c (fun n k z => by unfold SD10 SC at z; omega), k1.fr c (fun n k z => by unfold SD10 SC at z; omega)⟩
theorem o10_drawn {h : HS} {a : ST} (hR : R10 h a) (m : Int32) : ∃ h', f_X10_drawn 42 m h = some ((sp_drawn m a).1, h') ∧ R10 h' (sp_drawn m a).2 ∧ Ch F10 h h' := by
  obtain ⟨hC, hP, hV, x4, x5, x6, x7, x8, k0, k1⟩ := id hR
  unfold f_X10_drawn sp_drawn
  rw [s_X10_in, show (1 : Int64).toInt = 1 from rfl, show (20 : Int64).toInt = 20 from rfl]
  simp only [bd_s]
  by_cases q0 : 1 ≤ m.toInt ∧ m.toInt ≤ 20
  · rw [if_pos q0, if_pos q0, if_neg (by decide)]
    have em := nat_of (x := m) (by omega)
    have hN : m.toInt.toNat ≤ 20 := by omega
    generalize m.toInt.toNat = N at *
    subst em
    clear q0
    obtain ⟨h1, b1, b2_, b3, hR1⟩ := q10_lay hR
    have key : ∃ r : Int32 × HS, l_X10_drawn_23 FU 42 (nI N) 0 0 h1 = some r ∧ (r.1 = (drR a N).2.2 ∧ hJ r.2 42 27 = (drR a N).1 ∧ Ch SD10 h r.2) := by
      refine it_ex (fun n (s : Int32 × HS) k => l_X10_drawn_23 n 42 (nI N) s.1 (nI k) s.2) N (fun k s => s.1 = (drR a k).2.2 ∧ MV s.2 1 (drR a k).2.1 ∧ hJ s.2 42 27 = (drR a k).1 ∧ Ch SD10 h s.2) _ ?_ ?_ N FU (0, h1) 0 (by omega) (by have := FU_gt; omega) ⟨rfl, b2_, by rw [b3.J (fun z => by unfold SC at z; omega)]; exact x8, b3.mono (fun m k z => Or.inl z)⟩
      · intro n s k hk hs
        obtain ⟨s1, g⟩ := s
        obtain ⟨i1, i2, i3, i4⟩ := hs
        simp only at i1 i2 i3 i4
        have eS : drR a (k + 1) = drS a.2.1 k (drR a k) := by unfold drR; rw [fw_last, Nat.zero_add]
        have hRg := hR.sd i4 i3
        have cJ0 : Ch (fun m k => m = 42 ∧ k = 27) g (sJ g 42 27 (nxD (drR a k).1)) := Ch.sJ ⟨rfl, rfl⟩
        have cJ : Ch SD10 g (sJ g 42 27 (nxD (drR a k).1)) := cJ0.mono (fun m k z => Or.inr z)
        have hJ1 : hJ (sJ g 42 27 (nxD (drR a k).1)) 42 27 = nxD (drR a k).1 := by rw [hJ_sJ, if_pos ⟨rfl, rfl⟩]
        right
        have step : l_X10_drawn_23 (n + 1) 42 (nI N) s1 (nI k) g = b_X10_drawn_23 (l_X10_drawn_23 n) 42 (nI N) s1 (nI k) g := rfl
        simp only [step]
        unfold b_X10_drawn_23 b_X10_drawn_99 b_X10_drawn_125
        rw [if_neg (nI_ge hk (by omega))]
        simp only [nn_s, hRg.1.1.1, gd_t, i3]
        rw [show (drR a k).1 * 6364136223846793005 + 1442695040888963407 = nxD (drR a k).1 from rfl]
        generalize sJ g 42 27 (nxD (drR a k).1) = g1 at *
        have c1 := i4.trans cJ
        have hR2 := hR.sd c1 hJ1
        have hM1 := i2.fr cJ0 (fun k _ _ z => by omega)
        have hn := hM1.1.1
        have eU2 : ((hJ g1 42 27).toUInt64 >>> ((33 : Int32).toInt64.toUInt64 &&& Int64.toUInt64 63)).toInt64.toInt32 = nI (uJ (nxD (drR a k).1) / 2 ^ 33) := by
          rw [hJ1]; exact uS33 _
        obtain ⟨q1, q2, q3⟩ := dq (uJ (nxD (drR a k).1) / 2 ^ 33) (uJ33 _)
        have hmany := s_X10_many hR2.1 (lv := 1) (by omega) hM1
        rw [show nI 1 = 1 from rfl] at hmany
        simp only [rk8, hR2.1.1.1, gd_t, hmany, bd_s, eU2, q1, q2, q3, show decide (¬ (4 : Int32) = 0) = true by decide, show decide (¬ (5 : Int32) = 0) = true by decide, show decide (¬ (32 : Int32) = 0) = true by decide, show decide (¬ (101 : Int32) = 0) = true by decide, asOne_eq, nI_1]
        have fin : ∀ g2 : HS, MV g2 1 (drX (uJ (nxD (drR a k).1) / 2 ^ 33) (drR a k).2.1) → Ch (SC 44 (17 * 1)) g1 g2 → R10 g2 (wSd a (nxD (drR a k).1)) ∧ f_X10_allOf 42 1 g2 = some (allS (drX (uJ (nxD (drR a k).1) / 2 ^ 33) (drR a k).2.1).length, g2) ∧ f_X10_measureOf 42 1 (allS (drX (uJ (nxD (drR a k).1) / 2 ^ 33) (drR a k).2.1).length) g2 = some (tot a.2.1 (drX (uJ (nxD (drR a k).1) / 2 ^ 33) (drR a k).2.1), g2) ∧ ((s1 + nz (tot a.2.1 (drX (uJ (nxD (drR a k).1) / 2 ^ 33) (drR a k).2.1))) = (drR a (k + 1)).2.2 ∧ MV g2 1 (drR a (k + 1)).2.1 ∧ hJ g2 42 27 = (drR a (k + 1)).1 ∧ Ch SD10 h g2) := by
          intro g2 m1 m2
          have m2' : Ch SD10 g1 g2 := m2.mono (fun m k z => Or.inl z)
          have hx3 : hJ g2 42 27 = nxD (drR a k).1 := by rw [m2.J (fun z => by unfold SC at z; omega)]; exact hJ1
          have hR3 : R10 g2 (wSd a (nxD (drR a k).1)) := hR.sd (c1.trans m2') hx3
          have mp3 := hR3.2.1
          rw [wSd_pl] at mp3
          obtain ⟨t1, t2⟩ := s_total10 hR3.1 (lv := 1) (by omega) m1 mp3 hV
          refine ⟨hR3, t1, t2, ?_, ?_, ?_, c1.trans m2'⟩
          · rw [eS, i1]; rfl
          · rw [eS]; exact m1
          · rw [hx3, eS]; rfl
        rw [show (16 : Int32) = nI 16 from rfl, ite_le (by omega) (by omega)]
        have nzE : ∀ (x : Int32) (g2 : HS), (if x = -9 then l_X10_drawn_23 n 42 (nI N) (s1 + 0) (nI (k + 1)) g2 else l_X10_drawn_23 n 42 (nI N) (s1 + x) (nI (k + 1)) g2) = l_X10_drawn_23 n 42 (nI N) (s1 + nz x) (nI (k + 1)) g2 := fun x g2 => by
          unfold nz
          split <;> rfl
        by_cases h16 : (drR a k).2.1.length < 16
        · rw [if_neg (by omega)]
          obtain ⟨g2, d1, d2, d3⟩ := s_X10_addOn hR2.1 (lv := 1) (by omega) hM1 h16 (dV_ok (uJ (nxD (drR a k).1) / 2 ^ 33))
          rw [show nI 1 = 1 from rfl] at d1
          have d1' : f_X10_addOn 42 1 (nI (one (uJ (nxD (drR a k).1) / 2 ^ 33 % 4, uJ (nxD (drR a k).1) / 2 ^ 33 / 4 % 5, uJ (nxD (drR a k).1) / 2 ^ 33 / 32 % 101))) g1 = some ((), g2) := d1
          obtain ⟨f1, f2, f3, f4⟩ := fin g2 (by unfold drX; rw [if_pos h16]; exact d2) d3
          simp only [d1', bd_s, f1.1.1.1, gd_t, f2, f3, nzE]
          exact ⟨(s1 + nz (tot a.2.1 (drX (uJ (nxD (drR a k).1) / 2 ^ 33) (drR a k).2.1)), g2), rfl, f4⟩
        · rw [if_pos (by omega)]
          obtain ⟨r, d1, d2, d3⟩ := s_X10_dropOn hR2.1 (lv := 1) (by omega) hM1 (p := 0) (by omega)
          rw [show nI 1 = 1 from rfl, show nI 0 = 0 from rfl] at d1
          obtain ⟨f1, f2, f3, f4⟩ := fin r.2 (by unfold drX; rw [if_neg h16]; exact d2) d3
          simp only [d1, bd_s, f1.1.1.1, gd_t, f2, f3, nzE]
          exact ⟨(s1 + nz (tot a.2.1 (drX (uJ (nxD (drR a k).1) / 2 ^ 33) (drR a k).2.1)), r.2), rfl, f4⟩
      · intro n s hs
        obtain ⟨s1, g⟩ := s
        refine ⟨(s1, g), ?_, hs.1, hs.2.2⟩
        show b_X10_drawn_23 (l_X10_drawn_23 n) 42 (nI N) s1 (nI N) g = _
        unfold b_X10_drawn_23
        rw [if_pos (nI_le (by omega) (by omega))]
    obtain ⟨r, e1, e2, e3, e4⟩ := key
    simp only [nn_s, rk8, hC.1.1, gd_t, b1, bd_s, e1]
    exact ⟨r.2, by rw [← e2], hR.sd e4 e3, e4.mono (fun m k z => by unfold SD10 SC at z; unfold F10; omega)⟩
  · rw [if_neg q0, if_neg q0, if_pos rfl]
    exact ⟨h, rfl, hR, Ch.rf⟩
