/-! PURE: the class's Axis: reads; the plan; rowsOf, columnsOf, cellOf, measureOf, totalOf -/
theorem rw_drop {R : RW} {k : Nat} (h : k < R.length) : R.drop k = (gk R k, gs R k) :: R.drop (k + 1) := by
  have e1 : gk R k = R[k].1 := by simp [gk, List.getD_eq_getElem?_getD, h]
  have e2 : gs R k = R[k].2 := by simp [gs, List.getD_eq_getElem?_getD, h]
  rw [e1, e2]
  exact List.drop_eq_getElem_cons h
def so : RW → Int32 → Int32
  | [], _ => 0
  | y :: t, x => if nI y.1 = x then y.2 else so t x
def ko : RW → Nat → Int32
  | [], _ => -9
  | y :: t, e => if bt y.2 e = true then nI y.1 else ko t e
def un (R : RW) (places : Int32) : Int32 := fw (fun i s => if bt places i = true then s ||| gs R i else s) 0 R.length 0
def mt (R C : RW) : Int32 := fw (fun i s => fw (fun j s => if gs R i &&& gs C j = 0 then s else s + 1) 0 C.length s) 0 R.length 0
theorem s_X2_setOf {h : HS} {a : Nat} {R : RW} (hR : AR h a R) (x : Int32) : f_X2_setOf a x h = some (so R x, h) := by
  obtain ⟨⟨a1, ⟨a2, a3, a4⟩, ⟨a5, a6, a7⟩, ⟨a8, a9, b1⟩⟩, hlen, hsz, hel⟩ := hR
  unfold f_X2_setOf
  have key : ∃ r, l_X2_setOf_2 FU a x 0 h = some r ∧ r = (so R x, h) := by
    refine it_ex (fun fu (_ : Unit) k => l_X2_setOf_2 fu a x (nI k) h) R.length (fun k _ => so (R.drop k) x = so R x) _ ?_ ?_ R.length FU () 0 (by omega) (by have := FU_gt; omega) rfl
    · intro fu _ k hk hI0
      have hca1 : ca h (a + 1) 9 (nI k) = true := ca_nI a5 (by omega) (by omega)
      have hca2 : ca h (a + 2) 9 (nI k) = true := ca_nI a6 (by omega) (by omega)
      obtain ⟨e1, e2⟩ := hel k hk
      rw [rw_drop hk] at hI0
      simp only [so] at hI0
      have step : l_X2_setOf_2 (fu + 1) a x (nI k) h = b_X2_setOf_2 (l_X2_setOf_2 fu) a x (nI k) h := rfl
      by_cases q : nI (gk R k) = x
      · left
        rw [if_pos q] at hI0
        refine ⟨_, ?_, rfl⟩
        rw [step]
        unfold b_X2_setOf_2
        simp only [nn_s, a1, gd_t, hsz]
        rw [ite_le (by omega) (by omega), if_neg (by omega)]
        simp only [nn_s, a2, a3, gd_t, hca1, hca2, nI_clamp (show k < 2 ^ 31 by omega), e1, e2, q, if_true, hI0]
      · right
        rw [if_neg q] at hI0
        refine ⟨(), ?_, hI0⟩
        rw [step]
        unfold b_X2_setOf_2
        simp only [nn_s, a1, gd_t, hsz]
        rw [ite_le (by omega) (by omega), if_neg (by omega)]
        simp only [nn_s, a2, gd_t, hca1, nI_clamp (show k < 2 ^ 31 by omega), e1, q, if_false, nI_1]
    · intro fu _ hI0
      rw [List.drop_length] at hI0
      refine ⟨_, ?_, rfl⟩
      show b_X2_setOf_2 (l_X2_setOf_2 fu) a x (nI R.length) h = _
      unfold b_X2_setOf_2
      simp only [nn_s, a1, gd_t, hsz]
      rw [ite_le (by omega) (by omega), if_pos (by omega), ← hI0]
      rfl
  obtain ⟨r, k1, k2⟩ := key
  rw [k1, k2]
theorem s_X2_keyOfEntry {h : HS} {a : Nat} {R : RW} (hR : AR h a R) {e : Nat} (he : e < 32) : f_X2_keyOfEntry a (nI e) h = some (ko R e, h) := by
  obtain ⟨⟨a1, ⟨a2, a3, a4⟩, ⟨a5, a6, a7⟩, ⟨a8, a9, b1⟩⟩, hlen, hsz, hel⟩ := hR
  unfold f_X2_keyOfEntry
  have key : ∃ r, l_X2_keyOfEntry_2 FU a (nI e) 0 h = some r ∧ r = (ko R e, h) := by
    refine it_ex (fun fu (_ : Unit) k => l_X2_keyOfEntry_2 fu a (nI e) (nI k) h) R.length (fun k _ => ko (R.drop k) e = ko R e) _ ?_ ?_ R.length FU () 0 (by omega) (by have := FU_gt; omega) rfl
    · intro fu _ k hk hI0
      have hca1 : ca h (a + 1) 9 (nI k) = true := ca_nI a5 (by omega) (by omega)
      have hca2 : ca h (a + 2) 9 (nI k) = true := ca_nI a6 (by omega) (by omega)
      obtain ⟨e1, e2⟩ := hel k hk
      rw [rw_drop hk] at hI0
      simp only [ko] at hI0
      have step : l_X2_keyOfEntry_2 (fu + 1) a (nI e) (nI k) h = b_X2_keyOfEntry_2 (l_X2_keyOfEntry_2 fu) a (nI e) (nI k) h := rfl
      by_cases q : bt (gs R k) e = true
      · left
        rw [if_pos q] at hI0
        refine ⟨_, ?_, rfl⟩
        rw [step]
        unfold b_X2_keyOfEntry_2
        simp only [nn_s, a1, gd_t, hsz]
        rw [ite_le (by omega) (by omega), if_neg (by omega)]
        simp only [nn_s, a2, a3, gd_t, hca1, hca2, nI_clamp (show k < 2 ^ 31 by omega), e1, e2, tb1_1 _ he, q, if_true, hI0]
      · right
        rw [if_neg q] at hI0
        refine ⟨(), ?_, hI0⟩
        rw [step]
        unfold b_X2_keyOfEntry_2
        simp only [nn_s, a1, gd_t, hsz]
        rw [ite_le (by omega) (by omega), if_neg (by omega)]
        simp only [nn_s, a3, gd_t, hca2, nI_clamp (show k < 2 ^ 31 by omega), e2, tb1_1 _ he, q, if_false, nI_1, reduceCtorEq]
    · intro fu _ hI0
      rw [List.drop_length] at hI0
      refine ⟨_, ?_, rfl⟩
      show b_X2_keyOfEntry_2 (l_X2_keyOfEntry_2 fu) a (nI e) (nI R.length) h = _
      unfold b_X2_keyOfEntry_2
      simp only [nn_s, a1, gd_t, hsz]
      rw [ite_le (by omega) (by omega), if_pos (by omega), ← hI0]
      rfl
  obtain ⟨r, k1, k2⟩ := key
  rw [k1, k2]
theorem s_X2_union {h : HS} {a : Nat} {R : RW} (hR : AR h a R) (places : Int32) : f_X2_union a places h = some (un R places, h) := by
  obtain ⟨⟨a1, ⟨a2, a3, a4⟩, ⟨a5, a6, a7⟩, ⟨a8, a9, b1⟩⟩, hlen, hsz, hel⟩ := hR
  unfold f_X2_union
  refine it_up (fun n (s : Int32) k => l_X2_union_4 n a places s (nI k) h) R.length (fun i s => if bt places i = true then s ||| gs R i else s) (fun s => some (s, h)) (fun _ _ => True) ?_ ?_ R.length FU 0 0 (by omega) (by have := FU_gt; omega) trivial
  · intro fu s k hk _
    refine ⟨?_, trivial⟩
    have hca2 : ca h (a + 2) 9 (nI k) = true := ca_nI a6 (by omega) (by omega)
    show b_X2_union_4 (l_X2_union_4 fu) a places s (nI k) h = _
    unfold b_X2_union_4 b_X2_union_30
    simp only [nn_s, a1, gd_t, hsz]
    rw [ite_le (by omega) (by omega), if_neg (by omega)]
    simp only [nn_s, a3, gd_t, hca2, nI_clamp (show k < 2 ^ 31 by omega), (hel k hk).2, tb1_1 _ (show k < 32 by omega), nI_1]
    split <;> rfl
  · intro fu s _
    show b_X2_union_4 (l_X2_union_4 fu) a places s (nI R.length) h = _
    unfold b_X2_union_4
    simp only [nn_s, a1, gd_t, hsz]
    rw [ite_le (by omega) (by omega), if_pos (by omega)]
theorem s_X2_has {h : HS} {a : Nat} {R : RW} (hR : AR h a R) (p : Int32) : f_X2_has a p h = some (if 0 ≤ p.toInt ∧ p.toInt < R.length then 1 else 0, h) := by
  have hl := hR.2.1
  unfold f_X2_has b_X2_has_16 b_X2_has_17
  simp only [nn_s, hR.1.1, gd_t, hR.2.2.1, z0, z1, i32_lt0, i32_le, nI_i (show R.length ≤ 100000 by omega)]
  by_cases h1 : p.toInt < 0
  · rw [if_pos h1, if_neg (by omega)]
  · rw [if_neg h1]
    by_cases h2 : (R.length : Int) ≤ p.toInt
    · rw [if_pos h2, if_neg (by omega)]
    · rw [if_neg h2, if_pos (by omega)]
theorem s_X2_meetings {h : HS} {a c : Nat} {R C : RW} (hR : AR h a R) (hC : AR h c C) : f_X2_meetings a (some c) h = some (mt R C, h) := by
  obtain ⟨⟨a1, ⟨a2, a3, a4⟩, ⟨a5, a6, a7⟩, ⟨a8, a9, b1⟩⟩, hlen, hsz, hel⟩ := hR
  obtain ⟨⟨c1, ⟨c2, c3, c4⟩, ⟨c5, c6, c7⟩, ⟨c8, c9, d1⟩⟩, hlenC, hszC, helC⟩ := hC
  unfold f_X2_meetings
  refine it_up (fun n (s : Int32) k => l_X2_meetings_4 n a (some c) s (nI k) h) R.length (fun i s => fw (fun j s => if gs R i &&& gs C j = 0 then s else s + 1) 0 C.length s) (fun s => some (s, h)) (fun _ _ => True) ?_ ?_ R.length FU 0 0 (by omega) (by have := FU_gt; omega) trivial
  · intro fu s k hk _
    refine ⟨?_, trivial⟩
    have hca2 : ca h (a + 2) 9 (nI k) = true := ca_nI a6 (by omega) (by omega)
    show b_X2_meetings_4 (l_X2_meetings_4 fu) a (some c) s (nI k) h = _
    unfold b_X2_meetings_4
    simp only [nn_s, a1, gd_t, hsz]
    rw [ite_le (by omega) (by omega), if_neg (by omega)]
    refine it_up (fun n (s : Int32) j => l_X2_meetings_15 (l_X2_meetings_4 fu) n a (some c) s (nI k) (nI j) h) C.length (fun j s => if gs R k &&& gs C j = 0 then s else s + 1) (fun s => l_X2_meetings_4 fu a (some c) s (nI (k + 1)) h) (fun _ _ => True) ?_ ?_ C.length FU s 0 (by omega) (by have := FU_gt; omega) trivial
    · intro fu2 s j hj _
      refine ⟨?_, trivial⟩
      have hcc2 : ca h (c + 2) 9 (nI j) = true := ca_nI c6 (by omega) (by omega)
      show b_X2_meetings_15 (l_X2_meetings_4 fu) (l_X2_meetings_15 (l_X2_meetings_4 fu) fu2) a (some c) s (nI k) (nI j) h = _
      unfold b_X2_meetings_15 b_X2_meetings_44
      simp only [nn_s, c1, gd_t, hszC]
      rw [ite_le (by omega) (by omega), if_neg (by omega)]
      simp only [nn_s, a1, c1, a3, c3, gd_t, hca2, hcc2, nI_clamp (show k < 2 ^ 31 by omega), nI_clamp (show j < 2 ^ 31 by omega), (hel k hk).2, (helC j hj).2, nI_1]
      split <;> rfl
    · intro fu2 s _
      show b_X2_meetings_15 (l_X2_meetings_4 fu) (l_X2_meetings_15 (l_X2_meetings_4 fu) fu2) a (some c) s (nI k) (nI C.length) h = _
      unfold b_X2_meetings_15
      simp only [nn_s, c1, gd_t, hszC]
      rw [ite_le (by omega) (by omega), if_pos (by omega), nI_1]
  · intro fu s _
    show b_X2_meetings_4 (l_X2_meetings_4 fu) a (some c) s (nI R.length) h = _
    unfold b_X2_meetings_4
    simp only [nn_s, a1, gd_t, hsz]
    rw [ite_le (by omega) (by omega), if_pos (by omega)]
/-! the plan -/
abbrev PL : Type := Nat × Nat × Nat × Nat × Nat
def PV (pl : PL) : Prop := pl.1 ≤ 2 ∧ pl.2.1 ≤ 3 ∧ pl.2.2.1 ≤ 4 ∧ pl.2.2.2.1 ≤ 4 ∧ 1 ≤ pl.2.2.2.2 ∧ pl.2.2.2.2 ≤ 9
def PR (h : HS) (p : Nat) (pl : PL) : Prop := ck h p 4 = true ∧ hP h p 0 = some (1000 + pl.1) ∧ hP h p 1 = some (1000 + pl.2.1) ∧ hP h p 2 = some (1010 + pl.2.2.1) ∧ hI h p 3 = nI pl.2.2.2.1 ∧ hI h p 4 = nI pl.2.2.2.2
def C9 (h : HS) (p q : Nat) : Prop := ck h 0 7 = true ∧ hP h 0 0 = some 1 ∧ hP h 0 1 = some p ∧ hP h 0 2 = some q ∧ hP h 0 3 = some 5 ∧ hP h 0 4 = some 9 ∧ hP h 0 5 = some 13 ∧ hP h 0 6 = some 29 ∧ hP h 0 7 = some 33 ∧ hP h 0 8 = some 37 ∧ hP h 0 9 = some 41
def W9 (h : HS) (p q : Nat) (pl : PL) : Prop := C9 h p q ∧ PR h p pl ∧ PV pl ∧ ((p = 3 ∧ q = 4) ∨ (p = 4 ∧ q = 3)) ∧ ck h q 4 = true ∧ AX h 29 ∧ AX h 33
def rwl (pl : PL) (E : EL) : RW := rwK pl.2.2.1 pl.2.2.2.1 pl.1 pl.2.2.2.2 E
def cll (pl : PL) (E : EL) : RW := gl pl.2.1 pl.2.2.2.2 E (gK pl.2.1 pl.2.2.2.2 E)
/-- what rowsOf and columnsOf write -/
def SA (m k : Nat) : Prop := (m = 29 ∧ k = 3) ∨ (29 < m ∧ m < 33) ∨ (m = 33 ∧ k = 3) ∨ (33 < m ∧ m < 37)
theorem C9.fr {S : Nat → Nat → Prop} {h h' : HS} {p q : Nat} (x : C9 h p q) (c : Ch S h h') (hS : ∀ k, k < 10 → ¬ S 0 k) : C9 h' p q := by
  obtain ⟨x0, x1, x2, x3, x4, x5, x6, x7, x8, x9, x10⟩ := x
  refine ⟨by rw [c.ck]; exact x0, ?_, ?_, ?_, ?_, ?_, ?_, ?_, ?_, ?_, ?_⟩ <;> (rw [c.P (hS _ (by omega))]; assumption)
theorem PR.fr {S : Nat → Nat → Prop} {h h' : HS} {p : Nat} {pl : PL} (x : PR h p pl) (c : Ch S h h') (hS : ∀ k, ¬ S p k) : PR h' p pl := by
  obtain ⟨x0, x1, x2, x3, x4, x5⟩ := x
  refine ⟨by rw [c.ck]; exact x0, ?_, ?_, ?_, ?_, ?_⟩
  · rw [c.P (hS _)]; exact x1
  · rw [c.P (hS _)]; exact x2
  · rw [c.P (hS _)]; exact x3
  · rw [c.I (hS _)]; exact x4
  · rw [c.I (hS _)]; exact x5
theorem W9.fr {S : Nat → Nat → Prop} {h h' : HS} {p q : Nat} {pl : PL} (x : W9 h p q pl) (c : Ch S h h') (h0 : ∀ k, k < 10 → ¬ S 0 k) (h3 : ∀ k, ¬ S 3 k) (h4 : ∀ k, ¬ S 4 k) (h29 : ∀ k, k < 3 → ¬ S 29 k) (h33 : ∀ k, k < 3 → ¬ S 33 k) : W9 h' p q pl := by
  obtain ⟨x1, x2, x3, x4, x5, x6, x7⟩ := x
  refine ⟨x1.fr c h0, x2.fr c ?_, x3, x4, by rw [c.ck]; exact x5, x6.fr c h29, x7.fr c h33⟩
  rcases x4 with ⟨rfl, rfl⟩ | ⟨rfl, rfl⟩
  · exact h3
  · exact h4
theorem W9.sa {h h' : HS} {p q : Nat} {pl : PL} (x : W9 h p q pl) (c : Ch SA h h') : W9 h' p q pl := x.fr c (fun k _ z => by unfold SA at z; omega) (fun k z => by unfold SA at z; omega) (fun k z => by unfold SA at z; omega) (fun k _ z => by unfold SA at z; omega) (fun k _ z => by unfold SA at z; omega)
theorem ER.sa {h h' : HS} {e : Nat} {E : EL} (x : ER h e E) (c : Ch SA h h') (he : e + 3 < 29 ∨ 36 < e) : ER h' e E := x.fr c (fun n k h1 h2 z => by unfold SA at z; omega)
theorem s_X9_rowsOf {h : HS} {p q e : Nat} {pl : PL} {E : EL} (hW : W9 h p q pl) (hE : ER h e E) (he : e + 3 < 29 ∨ 36 < e) : ∃ h', f_X9_rowsOf 0 (some e) h = some (some 29, h') ∧ AR h' 29 (rwl pl E) ∧ Ch (fun m k => (m = 29 ∧ k = 3) ∨ (29 < m ∧ m < 33)) h h' := by
  obtain ⟨⟨x0, x1, x2, x3, x4, x5, x6, x7, x8, x9, x10⟩, ⟨y0, y1, y2, y3, y4, y5⟩, ⟨v1, v2, v3, v4, v5, v6⟩, hpq, hq, hA, hB⟩ := id hW
  obtain ⟨r, g1, g2, g3⟩ := s_X2_gather hE hA (by omega) (f := pl.1) (w := pl.2.2.2.2) (by omega) v5 v6
  have g2' : Ch (fun m k => (m = 29 ∧ k = 3) ∨ (29 < m ∧ m < 33)) h r.2 := g2.mono (fun m k z => by omega)
  have hE2 := hE.fr g2' (fun n k h1 h2 z => by omega)
  obtain ⟨r2, k1, k2, k3⟩ := s_X2_foldRest hE2 (by omega) g3 (me := pl.2.2.1) (top := pl.2.2.2.1) v3 v4
  have hp0 : ∀ k, ¬ ((p = 29 ∧ k = 3) ∨ (29 < p ∧ p < 33)) := fun k => by omega
  have w0 : ck r.2 0 7 = true := by rw [g2'.ck]; exact x0
  have w1 : hP r.2 0 1 = some p := by rw [g2'.P (by omega)]; exact x2
  have w2 : ck r.2 p 4 = true := by rw [g2'.ck]; exact y0
  have w3 : hP r.2 0 6 = some 29 := by rw [g2'.P (by omega)]; exact x7
  have w4 : hP r.2 p 2 = some (1010 + pl.2.2.1) := by rw [g2'.P (hp0 _)]; exact y3
  have w5 : hI r.2 p 3 = nI pl.2.2.2.1 := by rw [g2'.I (hp0 _)]; exact y4
  have w6 : ck r.2 29 2 = true := g3.1.1
  have k2' : Ch (fun m k => (m = 29 ∧ k = 3) ∨ (29 < m ∧ m < 33)) r.2 r2.2 := k2.mono (fun m k z => by omega)
  have u0 : ck r2.2 0 7 = true := by rw [k2'.ck]; exact w0
  have u1 : hP r2.2 0 6 = some 29 := by rw [k2'.P (by omega)]; exact w3
  refine ⟨r2.2, ?_, k3, g2'.trans k2'⟩
  unfold f_X9_rowsOf
  simp only [nn_s, gd_t, x0, x2, y0, x7, rk2, hA.1, y1, y5, g1, bd_s, w0, w1, w2, w3, w4, w5, w6, k1, u0, u1]
theorem s_X9_columnsOf {h : HS} {p q e : Nat} {pl : PL} {E : EL} (hW : W9 h p q pl) (hE : ER h e E) (he : e + 3 < 29 ∨ 36 < e) : ∃ h', f_X9_columnsOf 0 (some e) h = some (some 33, h') ∧ AR h' 33 (cll pl E) ∧ Ch (fun m k => (m = 33 ∧ k = 3) ∨ (33 < m ∧ m < 37)) h h' := by
  obtain ⟨⟨x0, x1, x2, x3, x4, x5, x6, x7, x8, x9, x10⟩, ⟨y0, y1, y2, y3, y4, y5⟩, ⟨v1, v2, v3, v4, v5, v6⟩, hpq, hq, hA, hB⟩ := id hW
  obtain ⟨r, g1, g2, g3⟩ := s_X2_gather hE hB (by omega) (f := pl.2.1) (w := pl.2.2.2.2) (by omega) v5 v6
  have g2' : Ch (fun m k => (m = 33 ∧ k = 3) ∨ (33 < m ∧ m < 37)) h r.2 := g2.mono (fun m k z => by omega)
  have w0 : ck r.2 0 7 = true := by rw [g2'.ck]; exact x0
  have w3 : hP r.2 0 7 = some 33 := by rw [g2'.P (by omega)]; exact x8
  refine ⟨r.2, ?_, g3, g2'⟩
  unfold f_X9_columnsOf
  simp only [nn_s, gd_t, x0, x2, y0, x8, rk2, hB.1, y2, y5, g1, bd_s, w0, w3]
theorem rk7 (h : HS) (n : Nat) : rk h n 7 = ck h n 7 := rk_lo (by omega)
theorem s_X9_measureOf {h : HS} {p q e : Nat} {pl : PL} {E : EL} (hW : W9 h p q pl) (hE : ER h e E) {set : Int32} (hS : SB E.length set) : f_X9_measureOf 0 (some e) set h = some (mL pl.2.2.1 (sel E set), h) := by
  obtain ⟨⟨x0, x1, x2, x3, x4, x5, x6, x7, x8, x9, x10⟩, ⟨y0, y1, y2, y3, y4, y5⟩, ⟨v1, v2, v3, v4, v5, v6⟩, hpq, hq, hA, hB⟩ := id hW
  unfold f_X9_measureOf
  simp only [nn_s, gd_t, x0, x2, y0, y3, rk21 _ _ v3, s_X5_of hE v3 hS, bd_s]
/-- all entries -/
def allS (n : Nat) : Int32 := ((1 : Int32) <<< (nI n &&& 31)) - 1
theorem bt_all : ∀ n, n ≤ 16 → ∀ i, i < 32 → bt (allS n) i = decide (i < n) := by decide +kernel
theorem SB_all {n : Nat} (hn : n ≤ 16) : SB n (allS n) := fun i hi => by
  by_cases q : i < 32
  · rw [bt_all n hn i q]; simp; omega
  · exact b_big (by omega)
def tot (pl : PL) (E : EL) : Int32 := mL pl.2.2.1 (sel E (allS E.length))
theorem s_X9_totalOf {h : HS} {p q e : Nat} {pl : PL} {E : EL} (hW : W9 h p q pl) (hE : ER h e E) : f_X9_totalOf 0 (some e) h = some (tot pl E, h) := by
  unfold f_X9_totalOf
  have hA := s_X3_all hE
  have hm := s_X9_measureOf hW hE (SB_all hE.2.1.1)
  unfold allS at hm
  simp only [nn_s, gd_t, rk3, rk7, hE.1.1, hA, bd_s, hW.1.1, hm]
  rfl
theorem b_and_SB {n : Nat} {x y : Int32} (hx : SB n x) : SB n (x &&& y) := fun i hi => by rw [b_and, hx i hi]; rfl
theorem s_X9_cellOf {h : HS} {p q e : Nat} {pl : PL} {E : EL} (hW : W9 h p q pl) (hE : ER h e E) (he : e + 3 < 29 ∨ 36 < e) (x y : Int32) : ∃ h', f_X9_cellOf 0 (some e) x y h = some (so (rwl pl E) x &&& so (cll pl E) y, h') ∧ Ch SA h h' := by
  obtain ⟨h1, r1, r2, r3⟩ := s_X9_rowsOf hW hE he
  have r3' : Ch SA h h1 := r3.mono (fun m k z => by unfold SA; omega)
  have hW1 := hW.sa r3'
  have hE1 := hE.sa r3' he
  obtain ⟨h2, c1, c2, c3⟩ := s_X9_columnsOf hW1 hE1 he
  refine ⟨h2, ?_, r3'.trans (c3.mono (fun m k z => by unfold SA; omega))⟩
  unfold f_X9_cellOf
  simp only [nn_s, gd_t, rk7, rk2, hW.1.1, r1, bd_s, r2.1.1, s_X2_setOf r2, hW1.1.1, c1, c2.1.1, s_X2_setOf c2]
