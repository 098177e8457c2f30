/-! OPS: judge -/
theorem swT6 {α : Type} (x : Int32) (a b c d e g f : Option α) : swT x 1 [a, b, c, d, e, g] f = if x.toInt = 1 then a else if x.toInt = 2 then b else if x.toInt = 3 then c else if x.toInt = 4 then d else if x.toInt = 5 then e else if x.toInt = 6 then g else f := by
  unfold swT
  generalize x.toInt = i
  by_cases h1 : i = 1
  · subst h1; rfl
  by_cases h2 : i = 2
  · subst h2; rfl
  by_cases h3 : i = 3
  · subst h3; rfl
  by_cases h4 : i = 4
  · subst h4; rfl
  by_cases h5 : i = 5
  · subst h5; rfl
  by_cases h6 : i = 6
  · subst h6; rfl
  rw [if_neg h1, if_neg h2, if_neg h3, if_neg h4, if_neg h5, if_neg h6, if_neg (by simp only [List.length_cons, List.length_nil]; omega)]
/-- a doing: none, if it can not be or is not so -/
def jd (pl : PL) (w s t l pr : Nat) (X : EL) : Option EL :=
  if w = 1 then (if s < 4 ∧ t < 5 ∧ X.length < 16 then some (X ++ [(s, t, 11 * l)]) else none)
  else if w = 2 then (if s = 0 ∧ pr < X.length then some (X.eraseIdx pr) else none)
  else if w = 3 then (if pr < X.length then some (X.set pr (tw X pr, wa X pr, 11 * s)) else none)
  else if w = 4 then (if s = 0 ∧ t = 0 ∧ l ≤ (rwl pl X).length then some X else none)
  else if w = 5 then (if mL pl.2.2.1 (sel X (so (rwl pl X) (nI s) &&& so (cll pl X) (nI t))) < nI l then none else some X)
  else if w = 6 then (if s = 0 ∧ ¬ tot pl X < nI pr then some X else none)
  else none
def jD (pl : PL) (d : Nat) (X : EL) : Option EL := jd pl (d / 1000) (d / 100 % 10) (d / 10 % 10) (d % 10) (d % 100) X
theorem eB_n {s t m : Nat} (hs : s < 1000) (ht : t < 1000) (hm : m ≤ 100) : eB (nI s) (nI t) (nI m) = if s < 4 ∧ t < 5 then 1 else 0 := by
  unfold eB eOk
  rw [nI_i (by omega), nI_i (by omega), nI_i (by omega)]
  by_cases q : s < 4 ∧ t < 5
  · rw [if_pos q, if_pos (by omega)]
  · rw [if_neg q, if_neg (by omega)]
theorem W9.fq {h h' : HS} {p q : Nat} {pl : PL} (x : W9 h p q pl) (c : Ch FQ h h') : W9 h' p q pl := x.fr c (fun k _ z => by unfold FQ SA at z; omega) (fun k z => by unfold FQ SA at z; omega) (fun k z => by unfold FQ SA at z; omega) (fun k _ z => by unfold FQ SA at z; omega) (fun k _ z => by unfold FQ SA at z; omega)
theorem s_addT {h : HS} {p q : Nat} {pl : PL} {X : EL} (hW : W9 h p q pl) (hX : ER h 9 X) {s t m : Nat} (hs : s < 1000) (ht : t < 1000) (hm : m ≤ 100) : ∃ h', f_X9_addToTrial 0 (nI s) (nI t) (nI m) h = some (if s < 4 ∧ t < 5 ∧ X.length < 16 then 1 else 0, h') ∧ ER h' 9 (if s < 4 ∧ t < 5 ∧ X.length < 16 then X ++ [(s, t, m)] else X) ∧ Ch FQ h h' := by
  unfold f_X9_addToTrial b_X9_addToTrial_23 b_X9_addToTrial_24 b_X9_addToTrial_41
  rw [s_X9_isEntry, eB_n hs ht hm]
  simp only [bd_s, if_true, one0, if_false, z0, z1, gd_t]
  by_cases q1 : s < 4 ∧ t < 5
  · simp only [q1, and_self, if_true, one0, if_false, nn_s, hW.1.1, gd_t, hW.1.2.2.2.2.2.1, rk3, hX.1.1, s_X3_hasRoom hX, bd_s, true_and]
    by_cases q2 : X.length < 16
    · simp only [q2, if_true, one0, if_false]
      obtain ⟨h1, c1, c2, c3⟩ := s_X3_append hX q2 (t := s) (w := t) (a := m) ⟨q1.1, q1.2, hm⟩
      exact ⟨h1, by rw [c1]; rfl, c2, c3.mono (fun m k z => TR_FQ z)⟩
    · simp only [q2, if_false, if_true]
      exact ⟨h, rfl, hX, Ch.rf⟩
  · have q2 : ¬ (s < 4 ∧ t < 5 ∧ X.length < 16) := fun z => q1 ⟨z.1, z.2.1⟩
    simp only [q1, q2, if_false, if_true]
    exact ⟨h, rfl, hX, Ch.rf⟩
theorem s_dropT {h : HS} {p q : Nat} {pl : PL} {X : EL} (hW : W9 h p q pl) (hX : ER h 9 X) {r : Nat} (hr : r < 1000) : ∃ h', f_X9_dropFromTrial 0 (nI r) h = some (if r < X.length then 1 else 0, h') ∧ ER h' 9 (if r < X.length then X.eraseIdx r else X) ∧ Ch FQ h h' := by
  have hn := hX.2.1.1
  unfold f_X9_dropFromTrial b_X9_dropFromTrial_21
  simp only [nn_s, hW.1.1, gd_t, hW.1.2.2.2.2.2.1, rk3, hX.1.1, s_X3_has hX, bd_s]
  rw [nI_i (by omega)]
  by_cases q1 : r < X.length
  · obtain ⟨h1, c1, c2, c3⟩ := s_X3_remove hX (p := r) q1
    have q2 : (0 : Int) ≤ (r : Int) ∧ (r : Int) < (X.length : Int) := by omega
    simp only [q1, q2, and_self, if_true, one0, if_false, c1, bd_s, z1, gd_t]
    exact ⟨h1, rfl, c2, c3.mono (fun m k z => TR_FQ z)⟩
  · have q2 : ¬ ((0 : Int) ≤ (r : Int) ∧ (r : Int) < (X.length : Int)) := by omega
    simp only [q1, q2, if_false, if_true, z0, gd_t]
    exact ⟨h, rfl, hX, Ch.rf⟩
theorem s_chgT {h : HS} {p q : Nat} {pl : PL} {X : EL} (hW : W9 h p q pl) (hX : ER h 9 X) {r m : Nat} (hr : r < 1000) (hm : m ≤ 100) : ∃ h', f_X9_changeInTrial 0 (nI r) (nI m) h = some (if r < X.length then 1 else 0, h') ∧ ER h' 9 (if r < X.length then X.set r (tw X r, wa X r, m) else X) ∧ Ch FQ h h' := by
  have hn := hX.2.1.1
  unfold f_X9_changeInTrial b_X9_changeInTrial_23
  simp only [nn_s, hW.1.1, gd_t, hW.1.2.2.2.2.2.1, rk3, hX.1.1, s_X3_has hX, bd_s]
  rw [nI_i (by omega)]
  by_cases q1 : r < X.length
  · have q2 : (0 : Int) ≤ (r : Int) ∧ (r : Int) < (X.length : Int) := by omega
    have hca : ca h (9 + 3) 9 (nI r) = true := ca_nI hX.1.2.2.1.2.2 (by rw [hX.1.2.2.2.2.2]; omega) (by rw [hX.1.2.2.2.2.2]; omega)
    simp only [q1, q2, and_self, if_true, one0, if_false, z1, gd_t, hX.1.2.1.2.2, nn_s, hca, nI_clamp (show r < 2 ^ 31 by omega)]
    exact ⟨_, rfl, hX.amt q1 hm, Ch.sI (Or.inr (by omega))⟩
  · have q2 : ¬ ((0 : Int) ≤ (r : Int) ∧ (r : Int) < (X.length : Int)) := by omega
    simp only [q1, q2, if_false, if_true, z0, gd_t]
    exact ⟨h, rfl, hX, Ch.rf⟩
theorem rwl_len {E : EL} (hE : E.length ≤ 16) (pl : PL) (hR : ∃ h a, AR h a (rwl pl E)) : (rwl pl E).length ≤ 21 := by
  obtain ⟨h, a, x⟩ := hR
  exact x.2.1
theorem ite0 {α : Type} {k : Nat} (hk : k < 100) (A B : α) : (if nI k = 0 then A else B) = if k = 0 then A else B := ite_eq (b := 0) (by omega) (by omega) A B
theorem int_n {w k : Nat} : ((w : Int) = (k : Int)) = (w = k) := propext (by omega)
theorem s_stands {h : HS} {p q : Nat} {pl : PL} {X : EL} {d : Nat} (hW : W9 h p q pl) (hX : ER h 9 X) (hd : d < 10000) : ∃ h', f_X9_stands 0 (nI d) h = some (b2 (jD pl d X).isSome, h') ∧ ER h' 9 ((jD pl d X).getD X) ∧ Ch FQ h h' := by
  have hn := hX.2.1.1
  have q1 : nI d / 1000 = nI (d / 1000) := nI_div (b := 1000) (by omega) (by omega) (by omega)
  have q2 : nI d / 100 - nI d / 100 / 10 * 10 = nI (d / 100 % 10) := by
    rw [show nI d / 100 = nI (d / 100) from nI_div (b := 100) (by omega) (by omega) (by omega)]
    exact nI_rem (d := 10) (by omega) (by omega) (by omega)
  have q3 : nI d / 10 - nI d / 10 / 10 * 10 = nI (d / 10 % 10) := by
    rw [show nI d / 10 = nI (d / 10) from nI_div (b := 10) (by omega) (by omega) (by omega)]
    exact nI_rem (d := 10) (by omega) (by omega) (by omega)
  have q4 : nI d - nI d / 10 * 10 = nI (d % 10) := nI_rem (d := 10) (by omega) (by omega) (by omega)
  have q5 : nI d - nI d / 100 * 100 = nI (d % 100) := nI_rem (d := 100) (by omega) (by omega) (by omega)
  unfold f_X9_stands jD
  simp only [show decide (¬ (100 : Int32) = 0) = true by decide, show decide (¬ (10 : Int32) = 0) = true by decide, show decide (¬ (1000 : Int32) = 0) = true by decide, gd_t, q1, q2, q3, q4, q5]
  have s10 : d / 100 % 10 < 10 := by omega
  have t10 : d / 10 % 10 < 10 := by omega
  have l10 : d % 10 < 10 := by omega
  have p100 : d % 100 < 100 := by omega
  have w10 : d / 1000 < 10 := by omega
  clear q1 q2 q3 q4 q5
  generalize d / 100 % 10 = s at *
  generalize d / 10 % 10 = t at *
  generalize d % 10 = l at *
  generalize d % 100 = pr at *
  generalize d / 1000 = w at *
  rw [swT6, nI_i (by omega)]
  unfold jd
  by_cases c1 : w = 1
  · rw [if_pos (show (w : Int) = 1 by omega), if_pos c1]
    unfold b_X9_stands_72
    rw [show (11 : Int32) * nI l = nI (11 * l) from nI_mul 11 l]
    obtain ⟨h1, r1, r2, r3⟩ := s_addT hW hX (s := s) (t := t) (m := 11 * l) (by omega) (by omega) (by omega)
    simp only [nn_s, rk7, hW.1.1, gd_t, r1, bd_s]
    by_cases k1 : s < 4 ∧ t < 5 ∧ X.length < 16
    · rw [if_pos k1] at r2 ⊢
      rw [if_pos k1]
      exact ⟨h1, by rw [z1]; rfl, r2, r3⟩
    · rw [if_neg k1] at r2 ⊢
      rw [if_neg k1]
      exact ⟨h1, by rw [z0]; rfl, r2, r3⟩
  rw [if_neg (show ¬ (w : Int) = 1 by omega), if_neg c1]
  by_cases c2 : w = 2
  · rw [if_pos (show (w : Int) = 2 by omega), if_pos c2]
    unfold b_X9_stands_84 b_X9_stands_101 b_X9_stands_102
    rw [ite0 (show s < 100 by omega)]
    by_cases k0 : s = 0
    · rw [if_pos k0]
      obtain ⟨h1, r1, r2, r3⟩ := s_dropT hW hX (r := pr) (by omega)
      simp only [nn_s, rk7, hW.1.1, gd_t, r1, bd_s, z0, z1]
      by_cases k1 : pr < X.length
      · rw [if_pos k1] at r2 ⊢
        rw [if_neg (by decide), if_pos ⟨k0, k1⟩]
        exact ⟨h1, rfl, r2, r3⟩
      · rw [if_neg k1] at r2 ⊢
        rw [if_pos rfl, if_neg (fun z => k1 z.2)]
        exact ⟨h1, rfl, r2, r3⟩
    · rw [if_neg k0, if_neg (fun z => k0 z.1)]
      simp only [z0, gd_t]
      exact ⟨h, rfl, hX, Ch.rf⟩
  rw [if_neg (show ¬ (w : Int) = 2 by omega), if_neg c2]
  by_cases c3 : w = 3
  · rw [if_pos (show (w : Int) = 3 by omega), if_pos c3]
    unfold b_X9_stands_103
    rw [show (11 : Int32) * nI s = nI (11 * s) from nI_mul 11 s]
    obtain ⟨h1, r1, r2, r3⟩ := s_chgT hW hX (r := pr) (m := 11 * s) (by omega) (by omega)
    simp only [nn_s, rk7, hW.1.1, gd_t, r1, bd_s]
    by_cases k1 : pr < X.length
    · rw [if_pos k1] at r2 ⊢
      rw [if_pos k1]
      exact ⟨h1, by rw [z1]; rfl, r2, r3⟩
    · rw [if_neg k1] at r2 ⊢
      rw [if_neg k1]
      exact ⟨h1, by rw [z0]; rfl, r2, r3⟩
  rw [if_neg (show ¬ (w : Int) = 3 by omega), if_neg c3]
  by_cases c4 : w = 4
  · rw [if_pos (show (w : Int) = 4 by omega), if_pos c4]
    unfold b_X9_stands_114 b_X9_stands_142 b_X9_stands_143
    rw [ite0 (show s < 100 by omega), ite0 (show t < 100 by omega)]
    by_cases k0 : s = 0
    · rw [if_pos k0]
      by_cases k1 : t = 0
      · rw [if_pos k1]
        obtain ⟨h3, d1, d2, d3⟩ := s_X9_rowsOf hW hX (Or.inl (by omega))
        have d3' : Ch SA h h3 := d3.mono (fun m k z => by unfold SA; omega)
        have hl := d2.2.1
        have c9 : Ch FQ h h3 := d3'.mono (fun m k z => SA_FQ z)
        have x9 := hX.sa d3' (Or.inl (by omega))
        simp only [nn_s, rk7, hW.1.1, gd_t, hW.1.2.2.2.2.2.1, d1, bd_s, d2.1.1, d2.2.2.1, z0, z1]
        rw [ite_lt (by omega) (by omega)]
        by_cases k2 : (rwl pl X).length < l
        · rw [if_pos k2, if_neg (fun z => by omega)]
          exact ⟨h3, rfl, x9, c9⟩
        · rw [if_neg k2, if_pos ⟨k0, k1, by omega⟩]
          exact ⟨h3, rfl, x9, c9⟩
      · rw [if_neg k1, if_neg (fun z => k1 z.2.1)]
        simp only [z0, gd_t]
        exact ⟨h, rfl, hX, Ch.rf⟩
    · rw [if_neg k0, if_neg (fun z => k0 z.1)]
      simp only [z0, gd_t]
      exact ⟨h, rfl, hX, Ch.rf⟩
  rw [if_neg (show ¬ (w : Int) = 4 by omega), if_neg c4]
  by_cases c5 : w = 5
  · rw [if_pos (show (w : Int) = 5 by omega), if_pos c5]
    unfold b_X9_stands_144 b_X9_stands_172
    obtain ⟨h1, r1, r2⟩ := s_X9_cellOf hW hX (Or.inl (by omega)) (nI s) (nI t)
    have hW1 := hW.sa r2
    have hE1 := hX.sa r2 (Or.inl (by omega))
    have c9 : Ch FQ h h1 := r2.mono (fun m k z => SA_FQ z)
    have hsb : SB X.length (so (rwl pl X) (nI s) &&& so (cll pl X) (nI t)) := b_and_SB (so_SB _ _ (rwl_ok hn pl).2.2)
    simp only [nn_s, rk7, hW.1.1, gd_t, hW.1.2.2.2.2.2.1, r1, bd_s, hW1.1.1, s_X9_measureOf hW1 hE1 hsb, z0, z1]
    by_cases k2 : mL pl.2.2.1 (sel X (so (rwl pl X) (nI s) &&& so (cll pl X) (nI t))) < nI l
    · rw [if_pos k2, if_pos k2]
      exact ⟨h1, rfl, hE1, c9⟩
    · rw [if_neg k2, if_neg k2]
      exact ⟨h1, rfl, hE1, c9⟩
  rw [if_neg (show ¬ (w : Int) = 5 by omega), if_neg c5]
  by_cases c6 : w = 6
  · rw [if_pos (show (w : Int) = 6 by omega), if_pos c6]
    unfold b_X9_stands_173 b_X9_stands_194 b_X9_stands_195
    rw [ite0 (show s < 100 by omega)]
    by_cases k0 : s = 0
    · rw [if_pos k0]
      simp only [nn_s, rk7, hW.1.1, gd_t, hW.1.2.2.2.2.2.1, s_X9_totalOf hW hX, bd_s, z0, z1]
      by_cases k2 : tot pl X < nI pr
      · rw [if_pos k2, if_neg (fun z => z.2 k2)]
        exact ⟨h, rfl, hX, Ch.rf⟩
      · rw [if_neg k2, if_pos ⟨k0, k2⟩]
        exact ⟨h, rfl, hX, Ch.rf⟩
    · rw [if_neg k0, if_neg (fun z => k0 z.1)]
      simp only [z0, gd_t]
      exact ⟨h, rfl, hX, Ch.rf⟩
  rw [if_neg (show ¬ (w : Int) = 6 by omega), if_neg c6]
  unfold b_X9_stands_196
  simp only [z0, gd_t]
  exact ⟨h, rfl, hX, Ch.rf⟩
theorem s_try {h : HS} {a : ST} {X : EL} (hR : R10 h a) (hM : MV h 1 X) {w s t l pr : Nat} (hw : w < 10) (hs : s < 10) (hp : pr < 100) (ht : t = pr / 10) (hl : l = pr % 10) : ∃ h', f_X10_tryThing 42 (nI w) (nI s) (nI pr) h = some (b2 (jd a.2.1 w s t l pr X).isSome, h') ∧ MV h' 1 ((jd a.2.1 w s t l pr X).getD X) ∧ Ch FM h h' := by
  obtain ⟨hC, hP, hV, x4, x5, x6, x7, x8, k0_, k1_⟩ := id hR
  have hn := hM.1.1
  have q1 : nI pr / 10 = nI t := by rw [ht]; exact nI_div (b := 10) (by omega) (by omega) (by omega)
  have q2 : nI pr - nI t * 10 = nI l := by rw [← q1, hl]; exact nI_rem (d := 10) (by omega) (by omega) (by omega)
  have hmany := s_X10_many hC (lv := 1) (by omega) hM
  rw [show nI 1 = 1 from rfl] at hmany
  unfold f_X10_tryThing
  rw [swT6, nI_i (by omega)]
  unfold jd
  by_cases c1 : w = 1
  · rw [if_pos (show (w : Int) = 1 by omega), if_pos c1]
    unfold b_X10_tryThing_40 b_X10_tryThing_66 b_X10_tryThing_67 b_X10_tryThing_94
    simp only [show decide (¬ (10 : Int32) = 0) = true by decide, gd_t, q1, q2, s_X10_isEntry, bd_s, show (0 : Int32) = nI 0 from rfl, eB_n (show s < 1000 by omega) (show t < 1000 by omega) (show 0 ≤ 100 by omega)]
    rw [show nI 0 = 0 from rfl]
    simp only [nn_s, rk8, hC.1.1, gd_t, hmany, bd_s, z0, z1, if_true, one0, if_false]
    rw [show (16 : Int32) = nI 16 from rfl, ite_le (by omega) (by omega)]
    by_cases k1 : s < 4 ∧ t < 5
    · rw [if_pos k1, if_neg (by decide)]
      by_cases k2 : X.length < 16
      · rw [if_neg (by omega), if_pos ⟨k1.1, k1.2, k2⟩]
        rw [show (11 : Int32) * nI l = nI (11 * l) from nI_mul 11 l, asOne_eq]
        obtain ⟨h2, d1, d2, d3⟩ := s_X10_addOn hC (lv := 1) (by omega) hM k2 (v := (s, t, 11 * l)) ⟨k1.1, k1.2, by show 11 * l ≤ 100; omega⟩
        rw [show nI 1 = 1 from rfl] at d1
        simp only [bd_s, hC.1.1, gd_t, d1]
        exact ⟨h2, rfl, d2, d3.mono (fun m k z => Or.inr (Or.inr z))⟩
      · rw [if_pos (by omega), if_neg (fun z => k2 z.2.2)]
        exact ⟨h, rfl, hM, Ch.rf⟩
    · rw [if_neg k1, if_pos rfl, if_neg (fun z => k1 ⟨z.1, z.2.1⟩)]
      exact ⟨h, rfl, hM, Ch.rf⟩
  rw [if_neg (show ¬ (w : Int) = 1 by omega), if_neg c1]
  by_cases c2 : w = 2
  · rw [if_pos (show (w : Int) = 2 by omega), if_pos c2]
    unfold b_X10_tryThing_97 b_X10_tryThing_114 b_X10_tryThing_115 b_X10_tryThing_128
    rw [ite0 (show s < 100 by omega)]
    simp only [nn_s, rk8, hC.1.1, gd_t, hmany, bd_s, z0, z1, if_true, one0, if_false]
    rw [ite_le (by omega) (by omega)]
    by_cases k0 : s = 0
    · rw [if_pos k0]
      by_cases k1 : pr < X.length
      · rw [if_neg (by omega), if_pos ⟨k0, k1⟩]
        obtain ⟨r, d1, d2, d3⟩ := s_X10_dropOn hC (lv := 1) (by omega) hM (p := pr) k1
        rw [show nI 1 = 1 from rfl] at d1
        simp only [d1, bd_s]
        exact ⟨r.2, rfl, d2, d3.mono (fun m k z => Or.inr (Or.inr z))⟩
      · rw [if_pos (by omega), if_neg (fun z => k1 z.2)]
        exact ⟨h, rfl, hM, Ch.rf⟩
    · rw [if_neg k0, if_neg (fun z => k0 z.1)]
      exact ⟨h, rfl, hM, Ch.rf⟩
  rw [if_neg (show ¬ (w : Int) = 2 by omega), if_neg c2]
  by_cases c3 : w = 3
  · rw [if_pos (show (w : Int) = 3 by omega), if_pos c3]
    unfold b_X10_tryThing_131 b_X10_tryThing_145 b_X10_tryThing_175
    simp only [nn_s, rk8, hC.1.1, gd_t, hmany, bd_s, z0, z1, if_true, one0, if_false]
    rw [ite_le (by omega) (by omega)]
    by_cases k1 : pr < X.length
    · rw [if_neg (by omega), if_pos k1]
      have ea := s_X10_amountOf hC (lv := 1) (by omega) hM k1
      rw [show nI 1 = 1 from rfl] at ea
      have e18 : (18 : Int32) + nI pr = nI (17 * 1 + 1 + pr) := nI_add 18 pr
      have hca : ca h 44 9 (nI (17 * 1 + 1 + pr)) = true := ca_nI hC.1.2.2.1 (by rw [al44]; omega) (by rw [al44]; omega)
      have e11 : (11 : Int32) * nI s = nI (11 * s) := nI_mul 11 s
      simp only [e18, hC.2.2.1, nn_s, hca, gd_t, ea, bd_s, nI_clamp (show 17 * 1 + 1 + pr < 2 ^ 31 by omega), hM.2.2 pr k1, e11]
      exact ⟨_, rfl, hM.amt k1 (by omega), Ch.sI (Or.inr (Or.inr ⟨rfl, by omega, by omega⟩))⟩
    · rw [if_pos (by omega), if_neg k1]
      exact ⟨h, rfl, hM, Ch.rf⟩
  rw [if_neg (show ¬ (w : Int) = 3 by omega), if_neg c3]
  obtain ⟨r, f1, f2, f3⟩ := s_X10_findRows hC (lv := 1) (by omega) hM hP hV
  rw [show nI 1 = 1 from rfl] at f1
  have f2' : Ch FM h r.2 := f2.mono (fun m k z => SR_FM z)
  have hR1 := hR.q f2'
  have hM1 := hM.fr f2 (fun k _ _ z => by unfold SR at z; omega)
  have hlr := f3.1
  by_cases c4 : w = 4
  · rw [if_pos (show (w : Int) = 4 by omega), if_pos c4]
    unfold b_X10_tryThing_178 b_X10_tryThing_205 b_X10_tryThing_206
    simp only [nn_s, rk8, hC.1.1, gd_t, f1, bd_s, hR1.1.1.1, f3.2.1, z0, z1]
    rw [ite0 (show s < 100 by omega), show (10 : Int32) = nI 10 from rfl, ite_le (by omega) (by omega), ite_lt (by omega) (by omega)]
    by_cases k0 : s = 0
    · rw [if_pos k0]
      by_cases k1 : t = 0
      · rw [if_neg (by omega)]
        have el : pr = l := by omega
        by_cases k2 : (rwl a.2.1 X).length < pr
        · rw [if_pos k2, if_neg (fun z => by omega)]
          exact ⟨r.2, rfl, hM1, f2'⟩
        · rw [if_neg k2, if_pos ⟨k0, k1, by omega⟩]
          exact ⟨r.2, rfl, hM1, f2'⟩
      · rw [if_pos (by omega), if_neg (fun z => k1 z.2.1)]
        exact ⟨r.2, rfl, hM1, f2'⟩
    · rw [if_neg k0, if_neg (fun z => k0 z.1)]
      exact ⟨r.2, rfl, hM1, f2'⟩
  rw [if_neg (show ¬ (w : Int) = 4 by omega), if_neg c4]
  by_cases c5 : w = 5
  · rw [if_pos (show (w : Int) = 5 by omega), if_pos c5]
    unfold b_X10_tryThing_207 b_X10_tryThing_248
    obtain ⟨u, g1, g2, g3⟩ := s_X10_findColumns hR1.1 (lv := 1) (by omega) hM1 hR1.2.1 hV
    rw [show nI 1 = 1 from rfl] at g1
    have g2' : Ch FM r.2 u.2 := g2.mono (fun m k z => SK_FM z)
    have hR2 := hR1.q g2'
    have hM2 := hM1.fr g2 (fun k _ _ z => by unfold SK at z; omega)
    have f3' := f3.fr g2 (fun n k z => by unfold SK at z; omega)
    have hsb : SB X.length (so (rwl a.2.1 X) (nI s) &&& so (cll a.2.1 X) (nI t)) := b_and_SB (so_SB _ _ (rwl_ok hn a.2.1).2.2)
    have em := s_X10_measureOf hR2.1 (lv := 1) (by omega) hM2 hV.2.2.1 hR2.2.1.2.2.1 hsb
    rw [show nI 1 = 1 from rfl] at em
    simp only [nn_s, rk8, hC.1.1, gd_t, f1, bd_s, hR1.1.1.1, g1, hR2.1.1.1, s_X10_rowOf hR2.1 f3' (rwl_ok hn a.2.1).1, show decide (¬ (10 : Int32) = 0) = true by decide, q1, q2, s_X10_columnOf hR2.1 g3 (cll_ok hn a.2.1).1, em, z0, z1]
    by_cases k2 : mL a.2.1.2.2.1 (sel X (so (rwl a.2.1 X) (nI s) &&& so (cll a.2.1 X) (nI t))) < nI l
    · rw [if_pos k2, if_pos k2]
      exact ⟨u.2, rfl, hM2, f2'.trans g2'⟩
    · rw [if_neg k2, if_neg k2]
      exact ⟨u.2, rfl, hM2, f2'.trans g2'⟩
  rw [if_neg (show ¬ (w : Int) = 5 by omega), if_neg c5]
  by_cases c6 : w = 6
  · rw [if_pos (show (w : Int) = 6 by omega), if_pos c6]
    unfold b_X10_tryThing_249 b_X10_tryThing_271 b_X10_tryThing_272
    rw [ite0 (show s < 100 by omega)]
    obtain ⟨t1, t2⟩ := s_total10 hC (lv := 1) (by omega) hM hP hV
    rw [show nI 1 = 1 from rfl] at t1 t2
    simp only [nn_s, rk8, hC.1.1, gd_t, t1, t2, bd_s, z0, z1]
    by_cases k0 : s = 0
    · rw [if_pos k0]
      by_cases k2 : tot a.2.1 X < nI pr
      · rw [if_pos k2, if_neg (fun z => z.2 k2)]
        exact ⟨h, rfl, hM, Ch.rf⟩
      · rw [if_neg k2, if_pos ⟨k0, k2⟩]
        exact ⟨h, rfl, hM, Ch.rf⟩
    · rw [if_neg k0, if_neg (fun z => k0 z.1)]
      exact ⟨h, rfl, hM, Ch.rf⟩
  rw [if_neg (show ¬ (w : Int) = 6 by omega), if_neg c6]
  unfold b_X10_tryThing_273
  simp only [z0, gd_t]
  exact ⟨h, rfl, hM, Ch.rf⟩
/-- the doings, one by one -/
def jL (pl : PL) (N R : Nat) : Nat → Nat → EL → Int32
  | 0, _, _ => -9
  | d + 1, k, X => match jD pl (R / 10000 ^ (N - 1 - k) % 10000) X with
    | none => nI k
    | some Y => jL pl N R d (k + 1) Y
theorem unt_lN : ∀ j, j < 5 → untV j = lN (10000 ^ j) ∧ 0 < 10000 ^ j ∧ 10000 ^ j < 2 ^ 63 ∧ ¬ untV j = 0 := by decide +kernel
theorem unt_1 : untV (1 : Int32).toNatClampNeg = lN 10000 := by decide +kernel
theorem four_eq {R j : Nat} (hR : R < 2 ^ 63) (hj : j < 5) : ((lN R / lN (10000 ^ j)) - (lN R / lN (10000 ^ j)) / lN 10000 * lN 10000).toInt32 = nI (R / 10000 ^ j % 10000) := by
  obtain ⟨_, h1, h2, _⟩ := unt_lN j hj
  rw [pk_lDiv hR h1 h2, pk_lRem (Nat.lt_of_le_of_lt (Nat.div_le_self _ _) hR) (by omega) (by omega), lN_i]
theorem nI_dist {N k : Nat} (h : k < N) : nI N - 1 - nI k = nI (N - 1 - k) := by
  rw [show nI N - 1 = nI (N - 1) from nI_sub (b := 1) (by omega), nI_sub (by omega)]
theorem jl9 {p q N R : Nat} {pl : PL} (hN : N ≤ 4) (hR : R < 2 ^ 63) : ∀ (d n k : Nat) (h : HS) (X : EL), k + d = N → d < n → W9 h p q pl → ER h 9 X → ∃ h', l_X9_judge_43 n 0 (nI N) (lN R) (nI k) h = some (jL pl N R d k X, h') ∧ EN h' 9 ∧ Ch FQ h h'
  | 0, n, k, h, X, hk, hn, hW, hX => by
    obtain ⟨n, rfl⟩ : ∃ m, n = m + 1 := ⟨n - 1, by omega⟩
    have : k = N := by omega
    subst this
    refine ⟨h, ?_, hX.1, Ch.rf⟩
    show b_X9_judge_43 (l_X9_judge_43 n) 0 (nI k) (lN R) (nI k) h = _
    unfold b_X9_judge_43
    rw [if_pos (nI_le (by omega) (by omega))]
    rfl
  | d + 1, n, k, h, X, hk, hn, hW, hX => by
    obtain ⟨n, rfl⟩ : ∃ m, n = m + 1 := ⟨n - 1, by omega⟩
    obtain ⟨u1, u2, u3, u4⟩ := unt_lN (N - 1 - k) (by omega)
    obtain ⟨h1, r1, r2, r3⟩ := s_stands hW hX (d := R / 10000 ^ (N - 1 - k) % 10000) (Nat.mod_lt _ (by omega))
    have st : l_X9_judge_43 (n + 1) 0 (nI N) (lN R) (nI k) h = if b2 (jD pl (R / 10000 ^ (N - 1 - k) % 10000) X).isSome = 0 then some (nI k, h1) else l_X9_judge_43 n 0 (nI N) (lN R) (nI (k + 1)) h1 := by
      show b_X9_judge_43 (l_X9_judge_43 n) 0 (nI N) (lN R) (nI k) h = _
      unfold b_X9_judge_43
      rw [if_neg (nI_ge (by omega) (by omega)), nI_dist (by omega)]
      have i1 : inb (nI (N - 1 - k)) 5 = true := inb_nI (by omega) (by omega)
      have i2 : inb (1 : Int32) 5 = true := by decide
      have i3 : decide (¬ untV (1 : Int32).toNatClampNeg = 0) = true := by decide +kernel
      have i4 : decide (¬ untV (N - 1 - k) = 0) = true := decide_eq_true u4
      simp only [i1, gd_t, nI_clamp (show N - 1 - k < 2 ^ 31 by omega), i4, i2, i3, nn_s, rk7, hW.1.1]
      rw [unt_1, u1, four_eq hR (by omega), r1]
      simp only [bd_s, nI_1]
    rw [st]
    unfold jL
    cases hj : jD pl (R / 10000 ^ (N - 1 - k) % 10000) X with
    | none =>
      rw [hj] at r2
      exact ⟨h1, rfl, r2.1, r3⟩
    | some Y =>
      rw [hj] at r2
      obtain ⟨h2, e1, e2, e3⟩ := jl9 hN hR d n (k + 1) h1 Y (by omega) (by omega) (hW.fq r3) r2
      refine ⟨h2, ?_, e2, r3.trans e3⟩
      have hb : b2 (some Y).isSome = 1 := rfl
      rw [hb, if_neg (by decide)]
      exact e1
def sp_judge (n : Int32) (r : Int64) (a : ST) : Int32 := if (1 ≤ n.toInt ∧ n.toInt ≤ 4) ∧ (0 ≤ r.toInt ∧ r.toInt < (untV n.toInt.toNat).toInt) then jL a.2.1 n.toInt.toNat r.toInt.toNat n.toInt.toNat 0 a.2.2.1 else -2
theorem o9_judge {h : HS} {a : ST} (hR : R9 h a) (n : Int32) (r : Int64) : ∃ h', f_X9_judge 0 n r h = some (sp_judge n r a, h') ∧ R9 h' a ∧ Ch F9 h h' := by
  obtain ⟨⟨p, q, hW⟩, x2, x3, x4, x5, x6, x7, x8⟩ := id hR
  unfold f_X9_judge b_X9_judge_26 sp_judge
  simp only [lg_lt0, Int64.lt_iff_toInt_lt, show (0 : Int64).toInt = 0 from rfl]
  simp only [i32_lt, show (1 : Int32).toInt = 1 from rfl, show (4 : Int32).toInt = 4 from rfl]
  by_cases q0 : 1 ≤ n.toInt ∧ n.toInt ≤ 4
  · rw [if_neg (by omega), if_neg (by omega)]
    have en := nat_of (x := n) (by omega)
    have hN4 : n.toInt.toNat ≤ 4 := by omega
    have hN1 : 1 ≤ n.toInt.toNat := by omega
    have q0' : True ↔ (1 ≤ n.toInt ∧ n.toInt ≤ 4) := ⟨fun _ => q0, fun _ => trivial⟩
    simp only [← q0', true_and]
    clear q0 q0'
    generalize n.toInt.toNat = N at *
    subst en
    by_cases q1 : r.toInt < 0
    · rw [if_pos q1, if_neg (by omega)]
      exact ⟨h, rfl, hR, Ch.rf⟩
    · rw [if_neg q1]
      have i1 : inb (nI N) 5 = true := inb_nI (by omega) (by omega)
      simp only [i1, gd_t, nI_clamp (show N < 2 ^ 31 by omega)]
      by_cases q2 : r.toInt < (untV N).toInt
      · rw [if_pos q2, if_pos ⟨by omega, q2⟩]
        obtain ⟨R, hR63, er⟩ := pk_lOf (x := r) (fun z => q1 (Int64.lt_iff_toInt_lt.mp z))
        subst er
        rw [pk_lT hR63, Int.toNat_natCast]
        obtain ⟨h1, b1, b2_, b3⟩ := s_X3_copyFrom x3 x4 (Or.inr (by omega))
        have hW1 := hW.tr b3
        obtain ⟨h2, e1, e2, e3⟩ := jl9 hN4 hR63 N FU 0 h1 a.2.2.1 (by omega) (by have := FU_gt; omega) hW1 b2_
        rw [show nI 0 = 0 from rfl] at e1
        simp only [nn_s, hW.1.1, gd_t, hW.1.2.2.2.2.1, hW.1.2.2.2.2.2.1, rk3, x4.1, b1, bd_s, e1]
        exact a9_fq hR rfl ((b3.mono (fun m k z => TR_FQ z)).trans e3) e2
      · rw [if_neg q2, if_neg (fun z => q2 z.2)]
        exact ⟨h, rfl, hR, Ch.rf⟩
  · refine ⟨h, ?_, hR, Ch.rf⟩
    rw [if_neg (show ¬ ((1 ≤ n.toInt ∧ n.toInt ≤ 4) ∧ (0 ≤ r.toInt ∧ r.toInt < (untV n.toInt.toNat).toInt)) from fun z => q0 z.1)]
    by_cases q1 : n.toInt < 1
    · rw [if_pos q1]
    · rw [if_neg q1, if_pos (by omega)]
theorem s_10k {N : Nat} (hN : N ≤ 4) (h : HS) : f_X10_tenThousandTo (nI N) h = some (untV N, h) := by
  have key : f_X10_tenThousandTo (nI N) h = (fun s : Int64 => some (s, h)) (fw (fun _ (s : Int64) => s * 10000) 0 N 1) := by
    unfold f_X10_tenThousandTo
    refine it_up (fun n (s : Int64) k => l_X10_tenThousandTo_4 n (nI N) s (nI k) h) N (fun _ (s : Int64) => s * 10000) (fun s : Int64 => some (s, h)) (fun _ _ => True) ?_ ?_ N FU 1 0 (by omega) (by have := FU_gt; omega) trivial
    · intro n s k hk _
      refine ⟨?_, trivial⟩
      show b_X10_tenThousandTo_4 (l_X10_tenThousandTo_4 n) (nI N) s (nI k) h = _
      unfold b_X10_tenThousandTo_4
      rw [if_neg (nI_ge hk (by omega)), nI_1]
    · intro n s _
      show b_X10_tenThousandTo_4 (l_X10_tenThousandTo_4 n) (nI N) s (nI N) h = _
      unfold b_X10_tenThousandTo_4
      rw [if_pos (nI_le (by omega) (by omega))]
  rw [key]
  have e : ∀ N, N < 5 → fw (fun _ (s : Int64) => s * 10000) 0 N 1 = untV N := by decide +kernel
  show some (_, h) = _
  rw [e N (by omega)]
theorem jl10 {N R : Nat} {a : ST} (hN : N ≤ 4) (hR63 : R < 2 ^ 63) : ∀ (d n k : Nat) (h : HS) (X : EL), k + d = N → d < n → R10 h a → MV h 1 X → ∃ h', l_X10_judge_36 n 42 (nI N) (lN R) (nI k) h = some (jL a.2.1 N R d k X, h') ∧ Ch FM h h'
  | 0, n, k, h, X, hk, hn, hR, hX => by
    obtain ⟨n, rfl⟩ : ∃ m, n = m + 1 := ⟨n - 1, by omega⟩
    have : k = N := by omega
    subst this
    refine ⟨h, ?_, Ch.rf⟩
    show b_X10_judge_36 (l_X10_judge_36 n) 42 (nI k) (lN R) (nI k) h = _
    unfold b_X10_judge_36
    rw [if_pos (nI_le (by omega) (by omega))]
    rfl
  | d + 1, n, k, h, X, hk, hn, hR, hX => by
    obtain ⟨n, rfl⟩ : ∃ m, n = m + 1 := ⟨n - 1, by omega⟩
    obtain ⟨u1, u2, u3, u4⟩ := unt_lN (N - 1 - k) (by omega)
    have hf : R / 10000 ^ (N - 1 - k) % 10000 < 10000 := Nat.mod_lt _ (by omega)
    have ef := four_eq (j := N - 1 - k) hR63 (by omega)
    rw [show (lN 10000) = 10000 from rfl] at ef
    unfold jL jD
    have st : ∀ F : Nat, F < 10000 → ((lN R / lN (10000 ^ (N - 1 - k))) - (lN R / lN (10000 ^ (N - 1 - k))) / 10000 * 10000).toInt32 = nI F → ∃ h1, l_X10_judge_36 (n + 1) 42 (nI N) (lN R) (nI k) h = (if b2 (jd a.2.1 (F / 1000) (F / 100 % 10) (F / 10 % 10) (F % 10) (F % 100) X).isSome = 0 then some (nI k, h1) else l_X10_judge_36 n 42 (nI N) (lN R) (nI (k + 1)) h1) ∧ MV h1 1 ((jd a.2.1 (F / 1000) (F / 100 % 10) (F / 10 % 10) (F % 10) (F % 100) X).getD X) ∧ Ch FM h h1 := by
      intro F hF eF
      obtain ⟨h1, r1, r2, r3⟩ := s_try hR hX (w := F / 1000) (s := F / 100 % 10) (t := F / 10 % 10) (l := F % 10) (pr := F % 100) (by omega) (by omega) (by omega) (by omega) (by omega)
      refine ⟨h1, ?_, r2, r3⟩
      have q1 : nI F / 1000 = nI (F / 1000) := nI_div (b := 1000) (by omega) (by omega) (by omega)
      have q2 : nI F / 100 - nI F / 100 / 10 * 10 = nI (F / 100 % 10) := by
        rw [show nI F / 100 = nI (F / 100) from nI_div (b := 100) (by omega) (by omega) (by omega)]
        exact nI_rem (d := 10) (by omega) (by omega) (by omega)
      have q5 : nI F - nI F / 100 * 100 = nI (F % 100) := nI_rem (d := 100) (by omega) (by omega) (by omega)
      show b_X10_judge_36 (l_X10_judge_36 n) 42 (nI N) (lN R) (nI k) h = _
      unfold b_X10_judge_36
      rw [if_neg (nI_ge (by omega) (by omega)), nI_dist (by omega), s_10k (by omega)]
      have i4 : decide (¬ lN (10000 ^ (N - 1 - k)) = 0) = true := decide_eq_true (by rw [← u1]; exact u4)
      simp only [bd_s, i4, gd_t, u1, eF, q1, q2, q5, show decide (¬ (10000 : Int64) = 0) = true by decide, show decide (¬ (1000 : Int32) = 0) = true by decide, show decide (¬ (100 : Int32) = 0) = true by decide, show decide (¬ (10 : Int32) = 0) = true by decide, nn_s, rk8, hR.1.1.1, r1, nI_1]
    obtain ⟨h1, s1, s2, s3⟩ := st _ hf ef
    rw [s1]
    generalize R / 10000 ^ (N - 1 - k) % 10000 = F at *
    cases hj : jd a.2.1 (F / 1000) (F / 100 % 10) (F / 10 % 10) (F % 10) (F % 100) X with
    | none => exact ⟨h1, rfl, s3⟩
    | some Y =>
      rw [hj] at s2
      obtain ⟨h2, e1, e3⟩ := jl10 hN hR63 d n (k + 1) h1 Y (by omega) (by omega) (hR.q s3) s2
      refine ⟨h2, ?_, s3.trans e3⟩
      have hb : b2 (some Y).isSome = 1 := rfl
      rw [hb, if_neg (by decide)]
      exact e1
theorem o10_judge {h : HS} {a : ST} (hR : R10 h a) (n : Int32) (r : Int64) : ∃ h', f_X10_judge 42 n r h = some (sp_judge n r a, h') ∧ R10 h' a ∧ Ch F10 h h' := by
  obtain ⟨hC, hP, hV, x4, x5, x6, x7, x8, k0, k1⟩ := id hR
  unfold f_X10_judge b_X10_judge_26 sp_judge
  rw [s_X10_in, show (1 : Int64).toInt = 1 from rfl, show (4 : Int64).toInt = 4 from rfl]
  simp only [bd_s]
  by_cases q0 : 1 ≤ n.toInt ∧ n.toInt ≤ 4
  · rw [if_pos q0, if_neg (by decide)]
    have en := nat_of (x := n) (by omega)
    have hN4 : n.toInt.toNat ≤ 4 := by omega
    have hN1 : 1 ≤ n.toInt.toNat := by omega
    have q0' : True ↔ (1 ≤ n.toInt ∧ n.toInt ≤ 4) := ⟨fun _ => q0, fun _ => trivial⟩
    simp only [← q0', true_and]
    clear q0 q0'
    generalize n.toInt.toNat = N at *
    subst en
    rw [s_10k hN4]
    simp only [bd_s]
    have ep : ∀ N, N < 5 → (untV N - 1).toInt = (untV N).toInt - 1 := by decide +kernel
    rw [s_X10_inJ, ep N (by omega), show (0 : Int64).toInt = 0 from rfl]
    simp only [bd_s]
    by_cases q2 : 0 ≤ r.toInt ∧ r.toInt < (untV N).toInt
    · rw [if_pos (show 0 ≤ r.toInt ∧ r.toInt ≤ (untV N).toInt - 1 by omega), if_neg (by decide), if_pos q2]
      obtain ⟨R, hR63, er⟩ := pk_lOf (x := r) (fun z => by have := Int64.lt_iff_toInt_lt.mp z; rw [show (0 : Int64).toInt = 0 from rfl] at this; omega)
      subst er
      rw [pk_lT hR63, Int.toNat_natCast]
      obtain ⟨h1, b1, b2_, b3, hR1⟩ := q10_lay hR
      obtain ⟨h2, e1, e3⟩ := jl10 hN4 hR63 N FU 0 h1 a.2.2.1 (by omega) (by have := FU_gt; omega) hR1 b2_
      rw [show nI 0 = 0 from rfl] at e1
      simp only [nn_s, rk8, hC.1.1, gd_t, b1, bd_s, e1]
      exact a10_q hR rfl ((b3.mono (fun m k z => Or.inr (Or.inr z))).trans e3)
    · rw [if_neg (show ¬ (0 ≤ r.toInt ∧ r.toInt ≤ (untV N).toInt - 1) by omega), if_pos rfl, if_neg q2]
      exact ⟨h, rfl, hR, Ch.rf⟩
  · rw [if_neg q0, if_pos rfl, if_neg (fun z => q0 z.1)]
    exact ⟨h, rfl, hR, Ch.rf⟩
