/-! OPS: the text: word, fault, plan -/
theorem swT_nI {α : Type} {n : Nat} (hn : n < 2 ^ 31) (ts : List (Option α)) (d : Option α) : swT (nI n) 0 ts d = ts.getD n d := by
  unfold swT
  rw [nI_toInt hn]
  by_cases q : n < ts.length
  · rw [if_pos (by omega)]
    congr 1
  · rw [if_neg (by omega), List.getD_eq_getElem?_getD, List.getElem?_eq_none (by omega)]
    rfl
def wdL (me : Nat) : List Nat := [[99, 111, 117, 110, 116], [115, 117, 109], [109, 111, 115, 116], [108, 101, 97, 115, 116], [107, 105, 110, 100, 115]].getD me []
def wd (me i : Nat) : Nat := (wdL me).getD i 0
theorem wdL_le : ∀ me, me ≤ 4 → (wdL me).length ≤ 5 ∧ 3 ≤ (wdL me).length := by decide
theorem wd_le : ∀ me, me ≤ 4 → ∀ i, i < 5 → wd me i ≤ 255 := by decide
theorem isS_me {me : Nat} (hm : me ≤ 4) : isS (1020 + me) = true := by
  simp only [isS, decide_eq_true_eq]
  omega
theorem isM_me {me : Nat} (hm : me ≤ 4) : isM (1010 + me) = true := by
  simp only [isM, decide_eq_true_eq]
  omega
theorem rk22 (h : HS) {me : Nat} (hm : me ≤ 4) : rk h (1020 + me) 22 = true := by
  show isS (1020 + me) = true
  exact isS_me hm
theorem isB_me {me : Nat} (hm : me ≤ 4) : isB (1020 + me + 20) = true := by
  simp only [isB, decide_eq_true_eq]
  omega
theorem nbyte : decide (narrow .byte (.int 0) = Value.int 0) = true := by decide
theorem byL_me : ∀ me, me ≤ 4 → (Int32.ofNat (byL (1020 + me + 20))) >>> ((0 : Int32) &&& 31) = nI (wdL me).length := by decide
theorem s_len {me : Nat} (hm : me ≤ 4) (h : HS) : f_J0_length_8abf5 (1020 + me) h = some (nI (wdL me).length, h) := by
  unfold f_J0_length_8abf5 f_J0_coder_7d493 b_J0_coder_7d493_14
  simp only [one0, if_false, nn_s, isS_me hm, gd_t, isB_me hm, rk22 h hm, nbyte, bd_s, byL_me me hm]
theorem s_chr {me i : Nat} (hm : me ≤ 4) (hi : i < (wdL me).length) (h : HS) : f_J0_charAt_5068e (1020 + me) (nI i) h = some (nI (wd me i), h) := by
  match me, hm with
  | 0, _ => match i, hi with
    | 0, _ => rfl
    | 1, _ => rfl
    | 2, _ => rfl
    | 3, _ => rfl
    | 4, _ => rfl
    | i + 5, hi => exact absurd hi (by show ¬ i + 5 < 5; omega)
  | 1, _ => match i, hi with
    | 0, _ => rfl
    | 1, _ => rfl
    | 2, _ => rfl
    | i + 3, hi => exact absurd hi (by show ¬ i + 3 < 3; omega)
  | 2, _ => match i, hi with
    | 0, _ => rfl
    | 1, _ => rfl
    | 2, _ => rfl
    | 3, _ => rfl
    | i + 4, hi => exact absurd hi (by show ¬ i + 4 < 4; omega)
  | 3, _ => match i, hi with
    | 0, _ => rfl
    | 1, _ => rfl
    | 2, _ => rfl
    | 3, _ => rfl
    | 4, _ => rfl
    | i + 5, hi => exact absurd hi (by show ¬ i + 5 < 5; omega)
  | 4, _ => match i, hi with
    | 0, _ => rfl
    | 1, _ => rfl
    | 2, _ => rfl
    | 3, _ => rfl
    | 4, _ => rfl
    | i + 5, hi => exact absurd hi (by show ¬ i + 5 < 5; omega)
  | me + 5, hm => omega
theorem s_lOf {me i : Nat} (hm : me ≤ 4) (hi : i ≤ 9) (h : HS) : f_X10_letterOf (nI me) (nI i) h = some (if i < (wdL me).length then nI (wd me i) else -9, h) := by
  unfold f_X10_letterOf
  rw [show (10 : Int32) * nI me + nI i = nI (10 * me + i) by rw [show (10 : Int32) * nI me = nI (10 * me) from nI_mul 10 me, nI_add], swT_nI (by omega)]
  match me, hm with
  | 0, _ => match i, hi with
    | 0, _ => rfl
    | 1, _ => rfl
    | 2, _ => rfl
    | 3, _ => rfl
    | 4, _ => rfl
    | 5, _ => rfl
    | 6, _ => rfl
    | 7, _ => rfl
    | 8, _ => rfl
    | 9, _ => rfl
    | i + 10, hi => omega
  | 1, _ => match i, hi with
    | 0, _ => rfl
    | 1, _ => rfl
    | 2, _ => rfl
    | 3, _ => rfl
    | 4, _ => rfl
    | 5, _ => rfl
    | 6, _ => rfl
    | 7, _ => rfl
    | 8, _ => rfl
    | 9, _ => rfl
    | i + 10, hi => omega
  | 2, _ => match i, hi with
    | 0, _ => rfl
    | 1, _ => rfl
    | 2, _ => rfl
    | 3, _ => rfl
    | 4, _ => rfl
    | 5, _ => rfl
    | 6, _ => rfl
    | 7, _ => rfl
    | 8, _ => rfl
    | 9, _ => rfl
    | i + 10, hi => omega
  | 3, _ => match i, hi with
    | 0, _ => rfl
    | 1, _ => rfl
    | 2, _ => rfl
    | 3, _ => rfl
    | 4, _ => rfl
    | 5, _ => rfl
    | 6, _ => rfl
    | 7, _ => rfl
    | 8, _ => rfl
    | 9, _ => rfl
    | i + 10, hi => omega
  | 4, _ => match i, hi with
    | 0, _ => rfl
    | 1, _ => rfl
    | 2, _ => rfl
    | 3, _ => rfl
    | 4, _ => rfl
    | 5, _ => rfl
    | 6, _ => rfl
    | 7, _ => rfl
    | 8, _ => rfl
    | 9, _ => rfl
    | i + 10, hi => omega
  | me + 5, hm => omega
def sp_word (i : Int32) (a : ST) : Int32 := if 0 ≤ i.toInt ∧ i.toInt < (wdL a.2.1.2.2.1).length then nI (wd a.2.1.2.2.1 i.toInt.toNat) else -9
theorem o9_word {h : HS} {a : ST} (hR : R9 h a) (i : Int32) : ∃ h', f_X9_word 0 i h = some (sp_word i a, h') ∧ R9 h' a ∧ Ch F9 h h' := by
  obtain ⟨⟨p, q, hW⟩, x2, x3, x4, x5, x6, x7, x8⟩ := id hR
  refine ⟨h, ?_, hR, Ch.rf⟩
  have hm := hW.2.2.1.2.2.1
  have hl := wdL_le _ hm
  unfold f_X9_word sp_word b_X9_word_31 b_X9_word_33
  simp only [nn_s, hW.1.1, gd_t, hW.1.2.2.1, hW.2.1.1, hW.2.1.2.2.2.1, isM_me hm, show 1010 + a.2.1.2.2.1 + 10 = 1020 + a.2.1.2.2.1 by omega, rk22 h hm, s_len hm, bd_s, i32_lt0]
  by_cases q0 : i.toInt < 0
  · rw [if_pos q0, if_neg (by omega)]
  · rw [if_neg q0]
    have ei := nat_of (x := i) (by omega)
    by_cases q1 : i.toInt < (wdL a.2.1.2.2.1).length
    · rw [if_pos (show 0 ≤ i.toInt ∧ i.toInt < (wdL a.2.1.2.2.1).length by omega)]
      have hj : i.toInt.toNat < (wdL a.2.1.2.2.1).length := by omega
      generalize i.toInt.toNat = j at *
      subst ei
      rw [ite_le (by omega) (by omega), if_neg (by omega), s_chr hm hj]
      rfl
    · rw [if_neg (show ¬ (0 ≤ i.toInt ∧ i.toInt < (wdL a.2.1.2.2.1).length) by omega), if_pos (by rw [i32_le, nI_i (by omega)]; omega)]
theorem o10_word {h : HS} {a : ST} (hR : R10 h a) (i : Int32) : ∃ h', f_X10_word 42 i h = some (sp_word i a, h') ∧ R10 h' a ∧ Ch F10 h h' := by
  obtain ⟨hC, hP, hV, x4, x5, x6, x7, x8, k0, k1⟩ := id hR
  refine ⟨h, ?_, hR, Ch.rf⟩
  have hm := hV.2.2.1
  have hl := wdL_le _ hm
  unfold f_X10_word sp_word b_X10_word_25
  rw [s_X10_in, show (0 : Int64).toInt = 0 from rfl, show (9 : Int64).toInt = 9 from rfl]
  simp only [bd_s]
  by_cases q : 0 ≤ i.toInt ∧ i.toInt ≤ 9
  · rw [if_pos q, if_neg (by decide)]
    have ei := nat_of q.1
    have hj : i.toInt.toNat ≤ 9 := by omega
    have q2 : (0 ≤ i.toInt ∧ i.toInt < (wdL a.2.1.2.2.1).length) ↔ i.toInt.toNat < (wdL a.2.1.2.2.1).length := by omega
    simp only [q2]
    generalize i.toInt.toNat = j at *
    subst ei
    simp only [nn_s, hC.1.1, gd_t, hP.2.2.1, s_lOf hm hj, bd_s]
  · rw [if_neg q, if_pos rfl, if_neg (by omega)]
/-! the text's letters -/
def lA (T : List Nat) (i : Nat) : Int32 := if i < T.length then nI (ka T i) else -1
def fN (x : Int32) : Nat := if x = 97 then 0 else if x = 98 then 1 else if x = 118 then 2 else if x = 45 then 3 else 9
def mN (x : Int32) : Nat := if x = 99 then 0 else if x = 115 then 1 else if x = 109 then 2 else if x = 108 then 3 else if x = 107 then 4 else 9
def dN (x : Int32) : Int32 := if 48 ≤ x.toInt ∧ x.toInt ≤ 57 then x - 48 else -1
def spl (T : List Nat) (me : Nat) : Nat → Nat → Nat
  | 0, i => i
  | d + 1, i => if lA T (2 + i) = nI (wd me i) then spl T me d (i + 1) else i
def sL (T : List Nat) : Nat := spl T (mN (lA T 2)) (wdL (mN (lA T 2))).length 0
def rdF (T : List Nat) : Int32 :=
  if fN (lA T 0) = 9 ∨ fN (lA T 0) = 3 then 0
  else if fN (lA T 1) = 9 ∨ fN (lA T 1) = fN (lA T 0) then 1
  else if mN (lA T 2) = 9 then 2
  else if sL T < (wdL (mN (lA T 2))).length ∨ ¬ lA T (2 + sL T) = 46 then nI (2 + sL T)
  else if ¬ (48 ≤ (lA T (3 + sL T)).toInt ∧ (lA T (3 + sL T)).toInt ≤ 52) then nI (3 + sL T)
  else if ¬ (49 ≤ (lA T (4 + sL T)).toInt ∧ (lA T (4 + sL T)).toInt ≤ 57) then nI (4 + sL T)
  else if 5 + sL T < T.length then nI (5 + sL T) else -9
def rdP (T : List Nat) : PL := (fN (lA T 0), fN (lA T 1), mN (lA T 2), (lA T (3 + sL T)).toInt.toNat - 48, (lA T (4 + sL T)).toInt.toNat - 48)
theorem fN_le (x : Int32) : fN x ≤ 3 ∨ fN x = 9 := by
  unfold fN
  split; omega
  split; omega
  split; omega
  split; omega
  omega
theorem mN_le (x : Int32) : mN x ≤ 4 ∨ mN x = 9 := by
  unfold mN
  split; omega
  split; omega
  split; omega
  split; omega
  split; omega
  omega
theorem spl_le (T : List Nat) (me : Nat) : ∀ d i, i ≤ spl T me d i ∧ spl T me d i ≤ i + d
  | 0, i => ⟨Nat.le_refl _, Nat.le_refl _⟩
  | d + 1, i => by
    unfold spl
    split
    · have := spl_le T me d (i + 1); omega
    · omega
theorem sL_le (T : List Nat) (hm : mN (lA T 2) ≤ 4) : sL T ≤ 5 := by
  have h1 := spl_le T (mN (lA T 2)) (wdL (mN (lA T 2))).length 0
  have h2 := wdL_le _ hm
  unfold sL
  omega
theorem s_named (x : Int32) (h : HS) : f_X4_named x h = some (if fN x = 9 then none else some (1000 + fN x), h) := by
  unfold f_X4_named fN
  by_cases h1 : x = 97
  · subst h1; rfl
  by_cases h2 : x = 98
  · subst h2; rfl
  by_cases h3 : x = 118
  · subst h3; rfl
  by_cases h4 : x = 45
  · subst h4; rfl
  simp only [sw, h1, h2, h3, h4, if_false, if_true]
  rfl
theorem s_fieldOf (x : Int32) (h : HS) : f_X10_fieldOf x h = some (if fN x = 9 then -9 else nI (fN x), h) := by
  unfold f_X10_fieldOf fN
  by_cases h1 : x = 97
  · subst h1; rfl
  by_cases h2 : x = 98
  · subst h2; rfl
  by_cases h3 : x = 118
  · subst h3; rfl
  by_cases h4 : x = 45
  · subst h4; rfl
  simp only [sw, h1, h2, h3, h4, if_false, if_true]
  rfl
theorem s_starting (x : Int32) (h : HS) : f_X5_startingWith x h = some (if mN x = 9 then none else some (1010 + mN x), h) := by
  unfold f_X5_startingWith mN
  by_cases h1 : x = 99
  · subst h1; rfl
  by_cases h2 : x = 115
  · subst h2; rfl
  by_cases h3 : x = 109
  · subst h3; rfl
  by_cases h4 : x = 108
  · subst h4; rfl
  by_cases h5 : x = 107
  · subst h5; rfl
  simp only [sw, h1, h2, h3, h4, h5, if_false, if_true]
  rfl
theorem s_letterAt {h : HS} {T : List Nat} (hT : T9 h T) {i : Nat} (hi : i < 1000) : f_X7_letterAt 1 (nI i) h = some (lA T i, h) := by
  obtain ⟨t1, t2, t3, t4, t5, t6, t7⟩ := hT
  unfold f_X7_letterAt b_X7_letterAt_21 b_X7_letterAt_22 lA
  rw [if_neg (nI_pos (by omega))]
  simp only [nn_s, t1, gd_t, t5, t2]
  rw [ite_le (by omega) (by omega)]
  by_cases q : i < T.length
  · have hca : ca h 2 9 (nI i) = true := ca_nI t3 (by rw [al2]; omega) (by rw [al2]; omega)
    rw [if_neg (by omega), if_pos q, hca]
    simp only [gd_t, nI_clamp (show i < 2 ^ 31 by omega), t6 i q]
  · rw [if_pos (by omega), if_neg q]
theorem s_figureAt {h : HS} {T : List Nat} (hT : T9 h T) {i : Nat} (hi : i < 1000) : f_X7_figureAt 1 (nI i) h = some (dN (lA T i), h) := by
  unfold f_X7_figureAt b_X7_figureAt_25 b_X7_figureAt_26 dN
  simp only [nn_s, rk5, hT.1, gd_t, s_letterAt hT hi, bd_s, i32_lt, show (48 : Int32).toInt = 48 from rfl, show (57 : Int32).toInt = 57 from rfl]
  by_cases q : (lA T i).toInt < 48
  · rw [if_pos q, if_neg (by omega)]
  · rw [if_neg q]
    by_cases q2 : 57 < (lA T i).toInt
    · rw [if_pos q2, if_neg (by omega)]
    · rw [if_neg q2, if_pos (by omega)]
theorem s_speltL {h : HS} {T : List Nat} (hT : T9 h T) {me : Nat} (hm : me ≤ 4) : ∀ (d n i : Nat), i + d = (wdL me).length → d < n → l_X7_spelt_2 n 1 (some (1020 + me)) (nI i) h = some (nI (spl T me d i), h)
  | 0, n, i, hi, hn => by
    obtain ⟨n, rfl⟩ : ∃ m, n = m + 1 := ⟨n - 1, by omega⟩
    have hl := wdL_le _ hm
    show b_X7_spelt_2 (l_X7_spelt_2 n) 1 (some (1020 + me)) (nI i) h = _
    unfold b_X7_spelt_2
    simp only [nn_s, rk22 h hm, gd_t, s_len hm, bd_s]
    rw [if_pos (nI_le (by omega) (by omega))]
    show some (nI (wdL me).length, h) = some (nI i, h)
    rw [show i = (wdL me).length by omega]
  | d + 1, n, i, hi, hn => by
    obtain ⟨n, rfl⟩ : ∃ m, n = m + 1 := ⟨n - 1, by omega⟩
    have hl := wdL_le _ hm
    show b_X7_spelt_2 (l_X7_spelt_2 n) 1 (some (1020 + me)) (nI i) h = _
    unfold b_X7_spelt_2
    simp only [nn_s, rk22 h hm, gd_t, s_len hm, bd_s]
    rw [if_neg (nI_ge (by omega) (by omega))]
    simp only [rk5, hT.1, gd_t, show (2 : Int32) + nI i = nI (2 + i) from nI_add 2 i, s_letterAt hT (show 2 + i < 1000 by omega), bd_s, s_chr hm (show i < (wdL me).length by omega), nI_1, s_speltL hT hm d n (i + 1) (by omega) (by omega), rk22 h hm]
    rw [show spl T me (d + 1) i = if lA T (2 + i) = nI (wd me i) then spl T me d (i + 1) else i from rfl]
    split <;> rfl
theorem s_spelt {h : HS} {T : List Nat} (hT : T9 h T) {me : Nat} (hm : me ≤ 4) : f_X7_spelt 1 (some (1020 + me)) h = some (nI (spl T me (wdL me).length 0), h) := by
  have hl := wdL_le _ hm
  exact s_speltL hT hm _ FU 0 (by omega) (by have := FU_gt; omega)
theorem rd_out {h : HS} {q : Nat} {T : List Nat} {v : Int32} (e : rdF T = v) (hv : ¬ v = -9) : ∃ h', some (v, h) = some (rdF T, h') ∧ Ch (fun m _ => m = q) h h' ∧ (rdF T = -9 → PR h' q (rdP T) ∧ PV (rdP T)) := ⟨h, by rw [e], Ch.rf, fun z => absurd (e.symm.trans z) hv⟩
theorem en1_f {f : Nat} (hf : f ≤ 3) : en1 (some (1000 + f)) = true := by
  simp only [en1, decide_eq_true_eq]
  omega
theorem lA_toInt (T : List Nat) (i : Nat) (h : ∀ i, i < T.length → ka T i ≤ 255) : (lA T i = -1 ∧ T.length ≤ i) ∨ (∃ v, v ≤ 255 ∧ lA T i = nI v ∧ i < T.length) := by
  unfold lA
  by_cases q : i < T.length
  · rw [if_pos q]; exact Or.inr ⟨_, h i q, rfl, q⟩
  · rw [if_neg q]; exact Or.inl ⟨rfl, by omega⟩
theorem dN_in {x : Int32} (h1 : 48 ≤ x.toInt) (h2 : x.toInt ≤ 57) : dN x = nI (x.toInt.toNat - 48) := by
  unfold dN
  rw [if_pos ⟨h1, h2⟩]
  have e := nat_of (x := x) (by omega)
  have h3 : 48 ≤ x.toInt.toNat := by omega
  generalize x.toInt.toNat = v at *
  subst e
  exact nI_sub (b := 48) h3
theorem dN_out {x : Int32} (h : ¬ (48 ≤ x.toInt ∧ x.toInt ≤ 57)) : dN x = -1 := by
  unfold dN
  rw [if_neg h]
theorem s_X7_readInto {h : HS} {T : List Nat} {q : Nat} (hT : T9 h T) (hq : ck h q 4 = true) : ∃ h', f_X7_readInto 1 (some q) h = some (rdF T, h') ∧ Ch (fun m _ => m = q) h h' ∧ (rdF T = -9 → PR h' q (rdP T) ∧ PV (rdP T)) := by
  have l0 : f_X7_letterAt 1 0 h = some (lA T 0, h) := s_letterAt hT (i := 0) (by omega)
  have l1 : f_X7_letterAt 1 1 h = some (lA T 1, h) := s_letterAt hT (i := 1) (by omega)
  have l2 : f_X7_letterAt 1 2 h = some (lA T 2, h) := s_letterAt hT (i := 2) (by omega)
  have hlen := hT.2.2.2.1
  have c1 := hT.1
  have hk := hT.2.2.2.2.2.2
  unfold f_X7_readInto b_X7_readInto_20 b_X7_readInto_40 b_X7_readInto_98 b_X7_readInto_122
  simp only [nn_s, rk5, c1, gd_t, l0, bd_s, s_named]
  by_cases r9 : fN (lA T 0) = 9
  · simp only [r9, if_true]
    exact rd_out (by unfold rdF; rw [if_pos (Or.inl r9)]) (by decide)
  have r3 := fN_le (lA T 0)
  simp only [r9, if_false, reduceCtorEq, en1_f (show fN (lA T 0) ≤ 3 by omega), show en1 (some 1003) = true from rfl, Bool.and_self, Bool.true_or, gd_t]
  by_cases r4 : fN (lA T 0) = 3
  · rw [if_pos (by rw [r4])]
    exact rd_out (by unfold rdF; rw [if_pos (Or.inr r4)]) (by decide)
  rw [if_neg (by intro z; injection z with z; omega)]
  have F0 : ¬ (fN (lA T 0) = 9 ∨ fN (lA T 0) = 3) := by omega
  simp only [rk5, c1, gd_t, l1, bd_s]
  by_cases c9 : fN (lA T 1) = 9
  · simp only [c9, if_true]
    exact rd_out (by unfold rdF; rw [if_neg F0, if_pos (Or.inl c9)]) (by decide)
  have c3 := fN_le (lA T 1)
  simp only [c9, if_false, reduceCtorEq, en1_f (show fN (lA T 1) ≤ 3 by omega), Bool.and_self, Bool.true_or, gd_t]
  by_cases c4 : fN (lA T 1) = fN (lA T 0)
  · rw [if_pos (by rw [c4])]
    exact rd_out (by unfold rdF; rw [if_neg F0, if_pos (Or.inr c4)]) (by decide)
  rw [if_neg (by intro z; injection z with z; omega)]
  have F1 : ¬ (fN (lA T 1) = 9 ∨ fN (lA T 1) = fN (lA T 0)) := by omega
  simp only [rk5, c1, gd_t, l2, bd_s, s_starting]
  by_cases m9 : mN (lA T 2) = 9
  · simp only [m9, if_true]
    exact rd_out (by unfold rdF; rw [if_neg F0, if_neg F1, if_pos m9]) (by decide)
  have hm : mN (lA T 2) ≤ 4 := by have := mN_le (lA T 2); omega
  have hs := sL_le T hm
  have hw := wdL_le _ hm
  have esp : f_X7_spelt 1 (some (1020 + mN (lA T 2))) h = some (nI (sL T), h) := s_spelt hT hm
  have e2 : (2 : Int32) + nI (sL T) = nI (2 + sL T) := nI_add 2 _
  have e3 : nI (2 + sL T) + 1 = nI (3 + sL T) := by rw [nI_1]; congr 1; omega
  have e4 : nI (2 + sL T) + 2 = nI (4 + sL T) := by rw [show nI (2 + sL T) + 2 = nI (2 + sL T + 2) from nI_add _ 2]; congr 1; omega
  have e5 : nI (2 + sL T) + 3 = nI (5 + sL T) := by rw [show nI (2 + sL T) + 3 = nI (2 + sL T + 3) from nI_add _ 3]; congr 1; omega
  simp only [m9, if_false, reduceCtorEq, nn_s, isM_me hm, gd_t, show 1010 + mN (lA T 2) + 10 = 1020 + mN (lA T 2) by omega, esp, bd_s, rk5, c1, rk22 h hm, s_len hm, e2, show (2 : Int32) + nI (wdL (mN (lA T 2))).length = nI (2 + (wdL (mN (lA T 2))).length) from nI_add 2 _]
  rw [ite_lt (by omega) (by omega)]
  by_cases s1 : sL T < (wdL (mN (lA T 2))).length
  · rw [if_pos (by omega)]
    exact rd_out (by unfold rdF; rw [if_neg F0, if_neg F1, if_neg m9, if_pos (Or.inl s1)]) (nI_ne9 (by omega))
  rw [if_neg (by omega)]
  simp only [rk5, c1, gd_t, s_letterAt hT (show 2 + sL T < 1000 by omega), bd_s]
  by_cases s2 : lA T (2 + sL T) = 46
  rotate_left
  · rw [if_neg s2]
    exact rd_out (by unfold rdF; rw [if_neg F0, if_neg F1, if_neg m9, if_pos (Or.inr s2)]) (nI_ne9 (by omega))
  have F3 : ¬ (sL T < (wdL (mN (lA T 2))).length ∨ ¬ lA T (2 + sL T) = 46) := by
    intro z
    rcases z with z | z
    · exact s1 z
    · exact z s2
  rw [if_pos s2]
  simp only [rk5, c1, gd_t, e3, s_figureAt hT (show 3 + sL T < 1000 by omega), bd_s]
  by_cases t1 : 48 ≤ (lA T (3 + sL T)).toInt ∧ (lA T (3 + sL T)).toInt ≤ 52
  rotate_left
  · have eo : rdF T = nI (3 + sL T) := by unfold rdF; rw [if_neg F0, if_neg F1, if_neg m9, if_neg F3, if_pos t1]
    by_cases t2 : 48 ≤ (lA T (3 + sL T)).toInt ∧ (lA T (3 + sL T)).toInt ≤ 57
    · rw [dN_in t2.1 t2.2, if_neg (nI_pos (by omega)), if_neg (show ¬ nI ((lA T (3 + sL T)).toInt.toNat - 48) ≤ (4 : Int32) from nI_ge (a := 4) (by omega) (by omega))]
      exact rd_out eo (nI_ne9 (by omega))
    · rw [dN_out t2, if_pos (by decide)]
      exact rd_out eo (nI_ne9 (by omega))
  rw [dN_in t1.1 (by omega), if_neg (nI_pos (by omega)), if_pos (show nI ((lA T (3 + sL T)).toInt.toNat - 48) ≤ (4 : Int32) from nI_le (b := 4) (by omega) (by omega))]
  simp only [rk5, c1, gd_t, e4, s_figureAt hT (show 4 + sL T < 1000 by omega), bd_s]
  by_cases u1 : 49 ≤ (lA T (4 + sL T)).toInt ∧ (lA T (4 + sL T)).toInt ≤ 57
  rotate_left
  · have eo : rdF T = nI (4 + sL T) := by unfold rdF; rw [if_neg F0, if_neg F1, if_neg m9, if_neg F3, if_neg (fun z => z t1), if_pos u1]
    by_cases u2 : 48 ≤ (lA T (4 + sL T)).toInt ∧ (lA T (4 + sL T)).toInt ≤ 57
    · rw [dN_in u2.1 u2.2, if_neg (show ¬ (1 : Int32) ≤ nI ((lA T (4 + sL T)).toInt.toNat - 48) from nI_ge (b := 1) (by omega) (by omega))]
      exact rd_out eo (nI_ne9 (by omega))
    · rw [dN_out u2, if_neg (by decide)]
      exact rd_out eo (nI_ne9 (by omega))
  rw [dN_in (by omega) u1.2, if_pos (show (1 : Int32) ≤ nI ((lA T (4 + sL T)).toInt.toNat - 48) from nI_le (a := 1) (by omega) (by omega))]
  simp only [rk5, c1, gd_t, hT.2.2.2.2.1, e5]
  rw [ite_le (by omega) (by omega)]
  by_cases v1 : 5 + sL T < T.length
  · rw [if_neg (by omega)]
    exact rd_out (by unfold rdF; rw [if_neg F0, if_neg F1, if_neg m9, if_neg F3, if_neg (fun z => z t1), if_neg (fun z => z u1), if_pos v1]) (nI_ne9 (by omega))
  rw [if_pos (by omega)]
  have eo : rdF T = -9 := by unfold rdF; rw [if_neg F0, if_neg F1, if_neg m9, if_neg F3, if_neg (fun z => z t1), if_neg (fun z => z u1), if_neg v1]
  simp only [hq, gd_t, hl_s, ck_sP, ck_sI, eo]
  refine ⟨_, rfl, ((((Ch.sP (S := fun m _ => m = q) rfl).trans (Ch.sP (S := fun m _ => m = q) rfl)).trans (Ch.sP (S := fun m _ => m = q) rfl)).trans (Ch.sI (S := fun m _ => m = q) rfl)).trans (Ch.sI (S := fun m _ => m = q) rfl), fun _ => ⟨⟨?_, ?_, ?_, ?_, ?_, ?_⟩, ?_⟩⟩
  · simp only [ck_sP, ck_sI, hq]
  · simp [hP_sI, hP_sP, rdP]
  · simp [hP_sI, hP_sP, rdP]
  · simp [hP_sI, hP_sP, rdP]
  · simp [hI_sI, rdP]
  · simp [hI_sI, rdP]
  · unfold PV rdP
    simp only
    omega
