/-! PURE: keys, groups, the class's Axis.gather -/
theorem nI_div {a b : Nat} (ha : a < 2 ^ 31) (hb : b < 2 ^ 31) (h0 : 0 < b) : nI a / nI b = nI (a / b) := by
  have hq : a / b < 2 ^ 31 := Nat.lt_of_le_of_lt (Nat.div_le_self _ _) ha
  refine Int32.toInt_inj.mp ?_
  rw [Int32.toInt_div, nI_toInt ha, nI_toInt hb, nI_toInt hq]
  have e : ((a : Int).tdiv (b : Int)) = ((a / b : Nat) : Int) := by rw [Int.tdiv_eq_ediv_of_nonneg (by omega)]; rfl
  rw [e]
  generalize a / b = q at *
  exact Int.bmod_eq_of_le (by omega) (by omega)
theorem nI_mod {a b : Nat} (ha : a < 2 ^ 31) (hb : b < 2 ^ 31) : nI a % nI b = nI (a % b) := by
  have hq : a % b < 2 ^ 31 := Nat.lt_of_le_of_lt (Nat.mod_le _ _) ha
  refine Int32.toInt_inj.mp ?_
  rw [Int32.toInt_mod, nI_toInt ha, nI_toInt hb, nI_toInt hq]
  rw [Int.tmod_eq_emod_of_nonneg (by omega)]; rfl
theorem nI_mul (a b : Nat) : nI a * nI b = nI (a * b) := (Int32.ofNat_mul a b).symm
def ky (f w : Nat) (E : EL) (i : Nat) : Nat := if f = 0 then tw E i else if f = 1 then wa E i else if f = 2 then (if am E i = 100 then 20 else am E i / (5 * w)) else 0
theorem ky_lt {E : EL} (hE : EV E) (f : Nat) {w i : Nat} (hw : 1 ≤ w) (hi : i < E.length) : ky f w E i < 21 := by
  have := hE.2 i hi
  unfold ky
  split
  · omega
  · split
    · omega
    · split
      · split
        · omega
        · have h1 : am E i / (5 * w) ≤ am E i / 5 := Nat.div_le_div_left (by omega) (by omega)
          omega
      · omega
theorem s_X4_keyOf {h : HS} {e : Nat} {E : EL} (hE : ER h e E) {f w i : Nat} (hf : f ≤ 3) (hw : 1 ≤ w) (hw9 : w ≤ 9) (hi : i < E.length) : f_X4_keyOf (1000 + f) (some e) (nI i) (nI w) h = some (nI (ky f w E i), h) := by
  have hl := hE.2.1.1
  obtain ⟨d1, d2, d3, d4⟩ := id hE
  obtain ⟨a1, ⟨a2, a3, a4⟩, ⟨a5, a6, a7⟩, ⟨a8, a9, b1⟩⟩ := d1
  have ha := (d2.2 i hi).2.2
  have c1 : ca h (e + 1) 9 (nI i) = true := ca_nI a5 (by omega) (by omega)
  have c2 : ca h (e + 2) 9 (nI i) = true := ca_nI a6 (by omega) (by omega)
  have c3 : ca h (e + 3) 9 (nI i) = true := ca_nI a7 (by omega) (by omega)
  have hm : (5 : Int32) * nI w = nI (5 * w) := nI_mul 5 w
  have hmx : (if (1 : Int32) < nI (5 * w) then nI (5 * w) else 1) = nI (5 * w) := if_pos (nI_lt (a := 1) (by omega) (by omega))
  unfold f_X4_keyOf f_X4_binOf b_X4_binOf_14
  simp only [nn_s, a1, a2, a3, a4, c1, c2, c3, gd_t, nI_clamp (show i < 2 ^ 31 by omega), (d4 i hi).1, (d4 i hi).2.1, (d4 i hi).2.2, hm, hmx]
  match f, hf with
  | 0, _ => simp [en1, en2, gd, ky]
  | 1, _ => simp [en1, en2, gd, ky]
  | 2, _ =>
    rw [show (100 : Int32) = nI 100 from rfl, ite_eq (by omega) (by omega), nI_div (by omega) (by omega) (by omega)]
    have h0 : ¬ nI (5 * w) = 0 := nI_ne0 (by omega) (by omega)
    by_cases q : am E i = 100
    · simp [en1, en2, gd, ky, q, bd]
      rfl
    · simp [en1, en2, gd, ky, q, h0, bd]
  | 3, _ => simp [en1, en2, gd, ky, nI_0]
/-- the set of those that a test takes -/
def mk (P : Nat → Bool) (k : Nat) : Int32 := fw (fun e s => if P e = true then s ||| ((1 : Int32) <<< (nI e &&& 31)) else s) 0 k 0
theorem mk_succ (P : Nat → Bool) (k : Nat) : mk P (k + 1) = if P k = true then mk P k ||| ((1 : Int32) <<< (nI k &&& 31)) else mk P k := by
  unfold mk
  rw [fw_last, Nat.zero_add]
theorem bt_mk (P : Nat → Bool) : ∀ (k : Nat), k ≤ 32 → ∀ i, bt (mk P k) i = (decide (i < k) && P i)
  | 0, _, i => by
    show bt 0 i = _
    rw [b_0]; simp
  | k + 1, hk, i => by
    rw [mk_succ]
    by_cases hi : i < 32
    · have ih := bt_mk P k (by omega) i
      by_cases hP : P k = true
      · rw [if_pos hP, b_or, ih, sh1 (by omega) hi]
        by_cases q : i = k
        · subst q; simp [hP]
        · have : (i < k + 1) ↔ (i < k) := by omega
          simp [q, this]
      · rw [if_neg hP, ih]
        by_cases q : i = k
        · subst q; simp [hP]
        · have : (i < k + 1) ↔ (i < k) := by omega
          simp [this]
    · rw [b_big (by omega)]
      have : ¬ i < k + 1 := by omega
      simp [this]
theorem mk_of {P : Nat → Bool} {k : Nat} (hk : k ≤ 32) {x : Int32} (h : ∀ i, i < 32 → bt x i = (decide (i < k) && P i)) : x = mk P k := b_ext (fun i hi => by rw [h i hi, bt_mk P k hk])
theorem mk_congr {P Q : Nat → Bool} {k : Nat} (hk : k ≤ 32) (h : ∀ i, i < k → P i = Q i) : mk P k = mk Q k := by
  refine mk_of hk (fun i _ => ?_)
  rw [bt_mk P k hk]
  by_cases q : i < k
  · rw [h i q]
  · simp [q]
def gp (f w : Nat) (E : EL) (key : Nat) : Int32 := mk (fun e => ky f w E e == key) E.length
theorem bt_gp {E : EL} (hE : E.length ≤ 16) (f w key i : Nat) : bt (gp f w E key) i = (decide (i < E.length) && ky f w E i == key) := bt_mk _ _ (by omega) i
theorem SB_gp {E : EL} (hE : E.length ≤ 16) (f w key : Nat) : SB E.length (gp f w E key) := fun i hi => by
  rw [bt_gp hE]
  have : ¬ i < E.length := by omega
  simp [this]
/-- an Axis of the class, its three arrays just behind it -/
def AX (h : HS) (a : Nat) : Prop := ck h a 2 = true ∧ (hP h a 0 = some (a + 1) ∧ hP h a 1 = some (a + 2) ∧ hP h a 2 = some (a + 3)) ∧ (ck h (a + 1) 9 = true ∧ ck h (a + 2) 9 = true ∧ ck h (a + 3) 9 = true) ∧ (al (a + 1) = 21 ∧ al (a + 2) = 21 ∧ al (a + 3) = 21)
abbrev RW : Type := List (Nat × Int32)
def gk (R : RW) (i : Nat) : Nat := (R.getD i (0, 0)).1
def gs (R : RW) (i : Nat) : Int32 := (R.getD i (0, 0)).2
def AR (h : HS) (a : Nat) (R : RW) : Prop := AX h a ∧ R.length ≤ 21 ∧ hI h a 3 = nI R.length ∧ ∀ i, i < R.length → hI h (a + 1) i = nI (gk R i) ∧ hI h (a + 2) i = gs R i
theorem AX.fr {S : Nat → Nat → Prop} {h h' : HS} {a : Nat} (x : AX h a) (c : Ch S h h') (hS : ∀ k, k < 3 → ¬ S a k) : AX h' a := by
  obtain ⟨a1, ⟨a2, a3, a4⟩, ⟨a5, a6, a7⟩, a8⟩ := x
  refine ⟨by rw [c.ck]; exact a1, ⟨?_, ?_, ?_⟩, ⟨by rw [c.ck]; exact a5, by rw [c.ck]; exact a6, by rw [c.ck]; exact a7⟩, a8⟩
  · rw [c.P (hS _ (by omega))]; exact a2
  · rw [c.P (hS _ (by omega))]; exact a3
  · rw [c.P (hS _ (by omega))]; exact a4
theorem AR.fr {S : Nat → Nat → Prop} {h h' : HS} {a : Nat} {R : RW} (x : AR h a R) (c : Ch S h h') (hS : ∀ n k, a ≤ n → n ≤ a + 3 → ¬ S n k) : AR h' a R := by
  refine ⟨x.1.fr c (fun k _ => hS _ _ (by omega) (by omega)), x.2.1, ?_, fun i hi => ?_⟩
  · rw [c.I (hS _ _ (by omega) (by omega))]; exact x.2.2.1
  · rw [c.I (hS _ _ (by omega) (by omega)), c.I (hS _ _ (by omega) (by omega))]
    exact x.2.2.2 i hi
theorem s_J7_fill {h : HS} {n : Nat} (h1 : ck h n 9 = true) (h2 : al n = 21) : ∃ r : Unit × HS, f_J7_fill_53178 (some n) 0 h = some r ∧ (Ch (fun m _ => m = n) h r.2 ∧ ∀ i, i < 21 → hI r.2 n i = 0) := by
  unfold f_J7_fill_53178
  simp only [nn_s, h1, gd_t, h2]
  refine it_ex (fun fu (s : HS) k => l_J7_fill_53178_5 fu (some n) 0 (nI k) (Int32.ofNat 21) s) 21 (fun k s => Ch (fun m _ => m = n) h s ∧ ∀ i, i < k → hI s n i = 0) _ ?_ ?_ 21 FU h 0 (by omega) (by have := FU_gt; omega) ⟨Ch.rf, fun i hi => by omega⟩
  · intro fu s k hk hI0
    right
    refine ⟨sI s n k 0, ?_, ?_, ?_⟩
    · show b_J7_fill_53178_5 (l_J7_fill_53178_5 fu) (some n) 0 (nI k) (nI 21) s = _
      unfold b_J7_fill_53178_5
      have hca : ca s n 9 (nI k) = true := ca_nI (by rw [hI0.1.ck]; exact h1) (by omega) (by omega)
      rw [ite_le (by omega) (by omega), if_neg (by omega)]
      simp only [nn_s, hca, gd_t, nI_clamp (show k < 2 ^ 31 by omega), nI_1]
      rfl
    · exact hI0.1.trans (Ch.sI rfl)
    · intro i hi
      rw [hI_sI]
      by_cases q : i = k
      · rw [if_pos ⟨rfl, q⟩]
      · rw [if_neg (fun z => q z.2)]; exact hI0.2 i (by omega)
  · intro fu s hI0
    refine ⟨((), s), ?_, hI0⟩
    show b_J7_fill_53178_5 (l_J7_fill_53178_5 fu) (some n) 0 (nI 21) (nI 21) s = _
    unfold b_J7_fill_53178_5
    rw [ite_le (by omega) (by omega), if_pos (by omega)]
def gK (f w : Nat) (E : EL) : List Nat := (List.range 21).filter (fun k => !(gp f w E k == 0))
def gKk (f w : Nat) (E : EL) (k : Nat) : List Nat := (List.range k).filter (fun k => !(gp f w E k == 0))
def gl (f w : Nat) (E : EL) (K : List Nat) : RW := K.map (fun k => (k, gp f w E k))
theorem gKk_succ (f w : Nat) (E : EL) (k : Nat) : gKk f w E (k + 1) = if gp f w E k = 0 then gKk f w E k else gKk f w E k ++ [k] := by
  unfold gKk
  rw [List.range_succ, List.filter_append]
  by_cases h : gp f w E k = 0
  · simp [h]
  · simp [h]
theorem gKk_len (f w : Nat) (E : EL) (k : Nat) : (gKk f w E k).length ≤ k := by
  have := List.length_filter_le (fun k => !(gp f w E k == 0)) (List.range k)
  rw [List.length_range] at this
  exact this
theorem gk_snoc (R : RW) (x : Nat × Int32) (i : Nat) (hi : i < R.length + 1) : gk (R ++ [x]) i = if i = R.length then x.1 else gk R i := by
  simp only [gk, List.getD_eq_getElem?_getD, List.getElem?_append]
  by_cases q : i = R.length
  · subst q; simp
  · simp [q, show i < R.length by omega]
theorem gs_snoc (R : RW) (x : Nat × Int32) (i : Nat) (hi : i < R.length + 1) : gs (R ++ [x]) i = if i = R.length then x.2 else gs R i := by
  simp only [gs, List.getD_eq_getElem?_getD, List.getElem?_append]
  by_cases q : i = R.length
  · subst q; simp
  · simp [q, show i < R.length by omega]
theorem rk20 (h : HS) (f : Nat) (hf : f ≤ 3) : rk h (1000 + f) 20 = true := by
  simp [rk]
  omega
theorem rk2 (h : HS) (n : Nat) : rk h n 2 = ck h n 2 := rk_lo (by omega)
theorem s_gather2 {h0 h : HS} {a e : Nat} {E : EL} {f w : Nat} (hl : E.length ≤ 16) (hX : AX h0 a) (hc : Ch (fun m k => m = a + 1 ∨ m = a + 2 ∨ (m = a ∧ k = 3)) h0 h) (hs : ∀ key, key < 21 → hI h (a + 2) key = gp f w E key) : ∃ r : Unit × HS, l_X2_gather_73 FU a 0 (sI h a 3 0) = some r ∧ (Ch (fun m k => m = a + 1 ∨ m = a + 2 ∨ (m = a ∧ k = 3)) h0 r.2 ∧ AR r.2 a (gl f w E (gK f w E))) := by
  refine it_ex (fun fu (s : HS) k => l_X2_gather_73 fu a (nI k) s) 21 (fun k s => Ch (fun m k => m = a + 1 ∨ m = a + 2 ∨ (m = a ∧ k = 3)) h0 s ∧ hI s a 3 = nI (gKk f w E k).length ∧ (∀ i, i < (gKk f w E k).length → hI s (a + 1) i = nI (gk (gl f w E (gKk f w E k)) i) ∧ hI s (a + 2) i = gs (gl f w E (gKk f w E k)) i) ∧ ∀ key, k ≤ key → key < 21 → hI s (a + 2) key = gp f w E key) _ ?_ ?_ 21 FU (sI h a 3 0) 0 (by omega) (by have := FU_gt; omega) ⟨hc.trans (Ch.sI (Or.inr (Or.inr ⟨rfl, rfl⟩))), ?_, fun i hi => ?_, fun key _ hk => ?_⟩
  · intro fu s k hk hI0
    obtain ⟨i1, i2, i3, i4⟩ := hI0
    obtain ⟨a1, ⟨a2, a3, a4⟩, ⟨a5, a6, a7⟩, ⟨a8, a9, b1⟩⟩ := hX.fr i1 (fun k hk q => by omega)
    have hlen := gKk_len f w E k
    right
    have hcak : ca s (a + 2) 9 (nI k) = true := ca_nI a6 (by omega) (by omega)
    have step : l_X2_gather_73 (fu + 1) a (nI k) s = b_X2_gather_73 (l_X2_gather_73 fu) a (nI k) s := rfl
    by_cases h0' : gp f w E k = 0
    · refine ⟨s, ?_, i1, ?_, ?_, fun key h1 h2 => i4 key (by omega) h2⟩
      · rw [step]
        unfold b_X2_gather_73 b_X2_gather_130
        simp only [nn_s, a1, a3, a6, a9, gd_t, show Int32.ofNat 21 = nI 21 from rfl]
        rw [ite_le (by omega) (by omega), if_neg (by omega)]
        simp only [nn_s, hcak, gd_t, nI_clamp (show k < 2 ^ 31 by omega), i4 k (Nat.le_refl _) hk, h0', if_true, nI_1]
      · rw [gKk_succ, if_pos h0']; exact i2
      · rw [gKk_succ, if_pos h0']; exact i3
    · have hca1 : ca s (a + 1) 9 (nI (gKk f w E k).length) = true := ca_nI a5 (by omega) (by omega)
      have hca2 : ca s (a + 2) 9 (nI (gKk f w E k).length) = true := ca_nI a6 (by omega) (by omega)
      have z1 : (a = a + 1) = False := by simp
      have z2 : (a = a + 2) = False := by simp
      have z3 : (a + 2 = a + 1) = False := by simp
      refine ⟨sI (sI (sI s (a + 1) (gKk f w E k).length (nI k)) (a + 2) (gKk f w E k).length (gp f w E k)) a 3 (nI ((gKk f w E k).length + 1)), ?_, ?_, ?_, ?_, ?_⟩
      · rw [step]
        unfold b_X2_gather_73 b_X2_gather_130
        simp only [nn_s, a1, a3, a6, a9, gd_t, show Int32.ofNat 21 = nI 21 from rfl]
        rw [ite_le (by omega) (by omega), if_neg (by omega)]
        simp only [nn_s, hcak, gd_t, nI_clamp (show k < 2 ^ 31 by omega), i4 k (Nat.le_refl _) hk, h0', if_false, nI_1, a1, a2, a3, i2, hca1, hl_s, hP_sI, ck_sI, hI_sI, ca, a5, a6, nI_clamp (show (gKk f w E k).length < 2 ^ 31 by omega), inb_nI (show k < al (a + 2) by omega) (by omega), inb_nI (show (gKk f w E k).length < al (a + 2) by omega) (by omega), inb_nI (show (gKk f w E k).length < al (a + 1) by omega) (by omega), Bool.and_self, z1, z2, z3, false_and]
      · exact ((i1.trans (Ch.sI (Or.inl rfl))).trans (Ch.sI (Or.inr (Or.inl rfl)))).trans (Ch.sI (Or.inr (Or.inr ⟨rfl, rfl⟩)))
      · rw [hI_sI, if_pos ⟨rfl, rfl⟩, gKk_succ, if_neg h0', List.length_append]
        rfl
      · intro i hi
        rw [gKk_succ, if_neg h0'] at hi ⊢
        have hi' : i < (gKk f w E k).length + 1 := by simpa using hi
        have eG : gl f w E (gKk f w E k ++ [k]) = gl f w E (gKk f w E k) ++ [(k, gp f w E k)] := by simp [gl]
        have eL : (gl f w E (gKk f w E k)).length = (gKk f w E k).length := by simp [gl]
        rw [eG, gk_snoc _ _ _ (by omega), gs_snoc _ _ _ (by omega), eL]
        simp only [hI_sI, z1, z2, z3, show (a + 1 = a) = False by simp, show (a + 2 = a) = False by simp, show (a + 1 = a + 2) = False by simp, false_and, if_false, true_and]
        by_cases q : i = (gKk f w E k).length
        · simp only [q, if_true, and_self]
        · simp only [q, if_false]
          exact i3 i (by omega)
      · intro key h1 h2
        simp only [hI_sI, z3, show (a + 2 = a) = False by simp, false_and, if_false, true_and, show (key = (gKk f w E k).length) = False by simp; omega]
        exact i4 key (by omega) h2
  · intro fu s hI0
    obtain ⟨i1, i2, i3, i4⟩ := hI0
    have hX2 := hX.fr i1 (fun k hk q => by omega)
    obtain ⟨a1, ⟨a2, a3, a4⟩, ⟨a5, a6, a7⟩, ⟨a8, a9, b1⟩⟩ := id hX2
    have hlen := gKk_len f w E 21
    refine ⟨((), s), ?_, i1, hX2, ?_, ?_, fun i hi => ?_⟩
    · show b_X2_gather_73 (l_X2_gather_73 fu) a (nI 21) s = _
      unfold b_X2_gather_73
      simp only [nn_s, a1, a3, a6, a9, gd_t, show Int32.ofNat 21 = nI 21 from rfl]
      rw [ite_le (by omega) (by omega), if_pos (by omega)]
    · simp only [gl, List.length_map]; exact hlen
    · simp only [gl, List.length_map]; exact i2
    · exact i3 i (by rw [gl, List.length_map] at hi; exact hi)
  · rw [hI_sI, if_pos ⟨rfl, rfl⟩]; rfl
  · simp [gKk] at hi
  · rw [hI_sI, if_neg (by omega)]; exact hs key hk
theorem s_X2_gather {h : HS} {a e : Nat} {E : EL} (hE : ER h e E) (hX : AX h a) (hd : e + 3 < a ∨ a + 3 < e) {f w : Nat} (hf : f ≤ 3) (hw : 1 ≤ w) (hw9 : w ≤ 9) : ∃ r : Unit × HS, f_X2_gather a (some e) (some (1000 + f)) (nI w) h = some r ∧ (Ch (fun m k => m = a + 1 ∨ m = a + 2 ∨ (m = a ∧ k = 3)) h r.2 ∧ AR r.2 a (gl f w E (gK f w E))) := by
  have hl := hE.2.1.1
  obtain ⟨a1, ⟨a2, a3, a4⟩, ⟨a5, a6, a7⟩, ⟨a8, a9, b1⟩⟩ := id hX
  obtain ⟨r, f1, f2, f3⟩ := s_J7_fill a6 a9
  unfold f_X2_gather
  simp only [nn_s, a1, gd_t, a3, f1, bd_s]
  refine it_ex (fun fu (s : HS) k => l_X2_gather_11 fu a (some e) (some (1000 + f)) (nI w) (nI k) s) E.length (fun k s => Ch (fun m _ => m = a + 2) h s ∧ ∀ key, key < 21 → hI s (a + 2) key = mk (fun e => ky f w E e == key) k) _ ?_ ?_ E.length FU r.2 0 (by omega) (by have := FU_gt; omega) ⟨f2, fun key hk => f3 key hk⟩
  · intro fu s k hk hI0
    obtain ⟨i1, i2⟩ := hI0
    have hE2 := hE.fr i1 (fun n k _ _ q => by omega)
    obtain ⟨x1, ⟨x2, x3, x4⟩, ⟨x5, x6, x7⟩, ⟨x8, x9, y1⟩⟩ := hX.fr i1 (fun k hk q => by omega)
    have hk2 := ky_lt hE.2.1 f hw hk
    have hca : ca s (a + 2) 9 (nI (ky f w E k)) = true := ca_nI x6 (by omega) (by omega)
    right
    refine ⟨sI s (a + 2) (ky f w E k) (mk (fun e => ky f w E e == ky f w E k) (k + 1)), ?_, i1.trans (Ch.sI rfl), fun key hkey => ?_⟩
    · show b_X2_gather_11 (l_X2_gather_11 fu) a (some e) (some (1000 + f)) (nI w) (nI k) s = _
      unfold b_X2_gather_11 b_X2_gather_59
      simp only [nn_s, hE2.1.1, gd_t, hE2.2.2.1]
      rw [ite_le (by omega) (by omega), if_neg (by omega)]
      simp only [nn_s, rk20 _ f hf, gd_t, s_X4_keyOf hE2 hf hw hw9 hk, bd_s, nI_pos (show ky f w E k < 2 ^ 31 by omega), if_false, x1, x3, x6, x9, show Int32.ofNat 21 = nI 21 from rfl]
      rw [ite_le (by omega) (by omega), if_neg (by omega)]
      simp only [x1, x3, nn_s, gd_t, hca, hl_s, nI_clamp (show ky f w E k < 2 ^ 31 by omega), nI_1, i2 _ hk2]
      rw [mk_succ, if_pos (by simp)]
    · rw [hI_sI]
      by_cases q : key = ky f w E k
      · rw [if_pos ⟨rfl, q⟩, q]
      · rw [if_neg (fun z => q z.2), i2 key hkey, mk_succ, if_neg (by simpa using Ne.symm q)]
  · intro fu s hI0
    obtain ⟨i1, i2⟩ := hI0
    have hE2 := hE.fr i1 (fun n k _ _ q => by omega)
    obtain ⟨x1, ⟨x2, x3, x4⟩, ⟨x5, x6, x7⟩, ⟨x8, x9, y1⟩⟩ := hX.fr i1 (fun k hk q => by omega)
    obtain ⟨r2, g1, g2, g3⟩ := s_gather2 (e := e) hl hX (i1.mono (fun m k q => Or.inr (Or.inl q))) i2
    refine ⟨r2, ?_, g2, g3⟩
    show b_X2_gather_11 (l_X2_gather_11 fu) a (some e) (some (1000 + f)) (nI w) (nI E.length) s = _
    unfold b_X2_gather_11
    simp only [nn_s, hE2.1.1, gd_t, hE2.2.2.1]
    rw [ite_le (by omega) (by omega), if_pos (by omega)]
    simp only [x1, gd_t, hl_s, g1]
