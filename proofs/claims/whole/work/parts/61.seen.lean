/-! OPS: what is seen, with one entry more -/
def df6 : Int32 × Int32 × Bool := (0, 0, false)
def sA (pl : PL) (X : EL) (S : SL) : Nat → Nat → Bool
  | 0, _ => true
  | d + 1, k => (decide (mL pl.2.2.1 (sel X (so (rwl pl X) (S.getD k (0, 0, false)).1)) = (S.getD k (0, 0, false)).2.1) == (S.getD k (0, 0, false)).2.2) && sA pl X S d (k + 1)
def mb (a : ST) (v : Nat × Nat × Nat) : Bool := sA a.2.1 (a.2.2.1 ++ [v]) a.2.2.2.2.1 a.2.2.2.2.1.length 0
theorem sel9 (M v : Int32) (w s : Bool) (h : HS) : (if M = v then (if (1 : Int32) = b2 w then some (b2 s, h) else some (0, h)) else (if (0 : Int32) = b2 w then some (b2 s, h) else some (0, h))) = some (b2 ((decide (M = v) == w) && s), h) := by
  by_cases hc : M = v
  · cases w <;> simp [hc, b2]
  · cases w <;> simp [hc, b2]
theorem seenL9 {h : HS} {p q : Nat} {pl : PL} {X : EL} {S : SL} (hW : W9 h p q pl) (hX : ER h 9 X) (hA : AR h 29 (rwl pl X)) (hS : S9 h S) : ∀ (d n k : Nat), k + d = S.length → d < n → l_X9_isAllSeenSo_34 n 0 (some 29) (nI k) h = some (b2 (sA pl X S d k), h)
  | 0, n, k, hk, hn => by
    obtain ⟨n, rfl⟩ : ∃ m, n = m + 1 := ⟨n - 1, by omega⟩
    obtain ⟨c0, c1, c2, c3, c4, c5, c6, c7, c8, c9, c10⟩ := hW.1
    obtain ⟨s1, ⟨s2, s3, s4⟩, ⟨s5, s6, s7⟩, s8, s9, s10⟩ := hS
    show b_X9_isAllSeenSo_34 (l_X9_isAllSeenSo_34 n) 0 (some 29) (nI k) h = _
    unfold b_X9_isAllSeenSo_34
    simp only [nn_s, c0, gd_t, c9, s1, s9]
    rw [ite_le (by omega) (by omega), if_pos (by omega), z1]
    rfl
  | d + 1, n, k, hk, hn => by
    obtain ⟨n, rfl⟩ : ∃ m, n = m + 1 := ⟨n - 1, by omega⟩
    have ih := seenL9 hW hX hA hS d n (k + 1) (by omega) (by omega)
    obtain ⟨c0, c1, c2, c3, c4, c5, c6, c7, c8, c9, c10⟩ := hW.1
    obtain ⟨s1, ⟨s2, s3, s4⟩, ⟨s5, s6, s7⟩, s8, s9, s10⟩ := hS
    obtain ⟨y1, y2, y3⟩ := s10 k (by omega)
    have h38 : ca h 38 9 (nI k) = true := ca_nI s5 (by rw [al38]; omega) (by rw [al38]; omega)
    have h39 : ca h 39 9 (nI k) = true := ca_nI s6 (by rw [al39]; omega) (by rw [al39]; omega)
    have h40 : ca h 40 10 (nI k) = true := ca_nI s7 (by rw [al40]; omega) (by rw [al40]; omega)
    have hsb : ∀ x, SB X.length (so (rwl pl X) x) := fun x => so_SB _ x (rwl_ok hX.2.1.1 pl).2.2
    show b_X9_isAllSeenSo_34 (l_X9_isAllSeenSo_34 n) 0 (some 29) (nI k) h = _
    unfold b_X9_isAllSeenSo_34 b_X9_isAllSeenSo_87
    simp only [nn_s, c0, gd_t, c9, s1, s9]
    rw [ite_le (by omega) (by omega), if_neg (by omega)]
    simp only [nn_s, gd_t, s2, h38, nI_clamp (show k < 2 ^ 31 by omega), y1, rk2, hA.1.1, s_X2_setOf hA, bd_s, rk7, c0, c5, s_X9_measureOf hW hX (hsb _), c9, s1, s3, h39, y2, s4, h40, y3, z0, nI_1, ih]
    exact sel9 _ _ _ _ _
theorem s_seen9 {h : HS} {a : ST} (hR : R9 h a) (hn : a.2.2.1.length < 16) {t w m : Nat} (hv : EOK (t, w, m)) : ∃ h', f_X9_isAllSeenSo 0 (nI t) (nI w) (nI m) h = some (b2 (mb a (t, w, m)), h') ∧ R9 h' a ∧ Ch FQ h h' := by
  obtain ⟨⟨p, q, hW⟩, x2, x3, x4, x5, x6, x7, x8⟩ := id hR
  obtain ⟨h1, b1, b2_, b3⟩ := s_X3_copyFrom x3 x4 (Or.inr (by omega))
  have hW1 := hW.tr b3
  obtain ⟨h2, c1, c2, c3⟩ := s_X3_append b2_ hn hv
  have hW2 := hW1.tr c3
  obtain ⟨h3, d1, d2, d3⟩ := s_X9_rowsOf hW2 c2 (Or.inl (by omega))
  have d3' : Ch SA h2 h3 := d3.mono (fun m k z => by unfold SA; omega)
  have call : Ch FQ h h3 := ((b3.mono (fun m k z => TR_FQ z)).trans (c3.mono (fun m k z => TR_FQ z))).trans (d3'.mono (fun m k z => SA_FQ z))
  have hX3 := c2.sa d3' (Or.inl (by omega))
  have hR3 := hR.q call hX3.1
  have hl := hR3.2.2.2.2.2.1.2.2.2.1
  have key := seenL9 (hW2.sa d3') hX3 d2 hR3.2.2.2.2.2.1 a.2.2.2.2.1.length FU 0 (by omega) (by have := FU_gt; omega)
  rw [show nI 0 = 0 from rfl] at key
  refine ⟨h3, ?_, hR3, call⟩
  unfold f_X9_isAllSeenSo
  simp only [nn_s, hW.1.1, gd_t, hW.1.2.2.2.2.1, hW.1.2.2.2.2.2.1, rk3, x4.1, b1, bd_s, hW1.1.1, hW1.1.2.2.2.2.2.1, b2_.1.1, c1, hW2.1.1, hW2.1.2.2.2.2.2.1, rk7, d1, key]
  rfl
theorem sel10 (M v : Int32) (w s : Bool) (h : HS) (L : Int32 → Option (Int32 × HS)) (h0 : L 0 = some (0, h)) (h1 : L 1 = some (b2 s, h)) : (if M = v then (if b2 w = 1 then (if (1 : Int32) = 1 then L 1 else L 0) else (if (1 : Int32) = 0 then L 1 else L 0)) else (if b2 w = 1 then (if (0 : Int32) = 1 then L 1 else L 0) else (if (0 : Int32) = 0 then L 1 else L 0))) = some (b2 ((decide (M = v) == w) && s), h) := by
  by_cases hc : M = v
  · cases w <;> simp [hc, b2, h0, h1]
  · cases w <;> simp [hc, b2, h0, h1]
theorem mayL {h : HS} {a : ST} {X : EL} {S : SL} (hR : R10 h a) (hX : MV h 1 X) (hA : MR h (rwl a.2.1 X)) (hS : S10 h S) : ∀ (d n k : Nat) (m : Bool), k + d = S.length → d < n → l_X10_mayBe_28 n 42 (b2 m) (nI k) h = some (b2 (m && sA a.2.1 X S d k), h)
  | 0, n, k, m, hk, hn => by
    obtain ⟨n, rfl⟩ : ∃ m, n = m + 1 := ⟨n - 1, by omega⟩
    obtain ⟨s8, s9, s10⟩ := hS
    show b_X10_mayBe_28 (l_X10_mayBe_28 n) 42 (b2 m) (nI k) h = _
    unfold b_X10_mayBe_28
    simp only [nn_s, hR.1.1.1, gd_t, s9]
    rw [ite_le (by omega) (by omega), if_pos (by omega)]
    cases m
    · show gd (decide (narrow .boolean (.int 0) = .int 0)) _ = _
      rw [z0]; rfl
    · show gd (decide (narrow .boolean (.int 1) = .int 1)) _ = _
      rw [z1]; rfl
  | d + 1, n, k, m, hk, hn => by
    obtain ⟨n, rfl⟩ : ∃ m, n = m + 1 := ⟨n - 1, by omega⟩
    have i0 := mayL hR hX hA hS d n (k + 1) false (by omega) (by omega)
    have i1 := mayL hR hX hA hS d n (k + 1) true (by omega) (by omega)
    obtain ⟨hC, hP, hV, -⟩ := hR
    obtain ⟨⟨k42, k43, k44, k45, k46, k47, k48, k49, k50, k51, k52, k53, k54, k55⟩, ⟨p10, p12, p15, p16, p17, p18, p19, p22, p24, p25, p26, p28, p29⟩⟩ := id hC
    obtain ⟨s8, s9, s10⟩ := hS
    obtain ⟨y1, y2, y3⟩ := s10 k (by omega)
    have h51 : ca h 51 9 (nI k) = true := ca_nI k51 (by rw [al51]; omega) (by rw [al51]; omega)
    have h52 : ca h 52 9 (nI k) = true := ca_nI k52 (by rw [al52]; omega) (by rw [al52]; omega)
    have h53 : ca h 53 9 (nI k) = true := ca_nI k53 (by rw [al53]; omega) (by rw [al53]; omega)
    have hsb : ∀ x, SB X.length (so (rwl a.2.1 X) x) := fun x => so_SB _ x (rwl_ok hX.1.1 a.2.1).2.2
    have em : ∀ x, f_X10_measureOf 42 1 (so (rwl a.2.1 X) x) h = some (mL a.2.1.2.2.1 (sel X (so (rwl a.2.1 X) x)), h) := fun x => s_X10_measureOf hC (lv := 1) (by omega) hX hV.2.2.1 hP.2.2.1 (hsb x)
    show b_X10_mayBe_28 (l_X10_mayBe_28 n) 42 (b2 m) (nI k) h = _
    unfold b_X10_mayBe_28 b_X10_mayBe_69 b_X10_mayBe_84 b_X10_mayBe_91 b_X10_mayBe_92
    simp only [nn_s, k42, gd_t, s9]
    rw [ite_le (by omega) (by omega), if_neg (by omega)]
    cases m
    · rw [if_pos (show b2 false = 0 from rfl), nI_1]
      exact i0
    · rw [if_neg (show ¬ b2 true = 0 by decide)]
      simp only [p24, nn_s, h51, gd_t, nI_clamp (show k < 2 ^ 31 by omega), y1, rk8, k42, s_X10_rowOf hC hA (rwl_ok hX.1.1 a.2.1).1, bd_s, em, p25, h52, y2, p26, h53, y3, nI_1]
      exact sel10 _ _ _ _ h (fun x => l_X10_mayBe_28 n 42 x (nI (k + 1)) h) i0 i1
theorem s_may10 {h : HS} {a : ST} (hR : R10 h a) (hn : a.2.2.1.length < 16) {v : Nat × Nat × Nat} (hv : EOK v) : ∃ h', f_X10_mayBe 42 (nI (one v)) h = some (b2 (mb a v), h') ∧ R10 h' a ∧ Ch FM h h' := by
  obtain ⟨hC, hP, hV, x4, x5, x6, x7, x8, k0, k1⟩ := id hR
  have hl := x7.1
  unfold f_X10_mayBe
  simp only [nn_s, hC.1.1, gd_t, x7.2.1]
  rw [ite0 (by omega)]
  by_cases q : a.2.2.2.2.1.length = 0
  · rw [if_pos q, z1]
    refine ⟨h, ?_, hR, Ch.rf⟩
    unfold mb
    rw [q]
    rfl
  · rw [if_neg q]
    obtain ⟨h1, b1, b2_, b3, hR1⟩ := q10_lay hR
    obtain ⟨h2, c1, c2, c3⟩ := s_X10_addOn hR1.1 (lv := 1) (by omega) b2_ hn hv
    rw [show nI 1 = 1 from rfl] at c1
    have c3' : Ch FM h1 h2 := c3.mono (fun m k z => Or.inr (Or.inr z))
    have hR2 := hR1.q c3'
    obtain ⟨r, d1, d2, d3⟩ := s_X10_findRows hR2.1 (lv := 1) (by omega) c2 hR2.2.1 hV
    rw [show nI 1 = 1 from rfl] at d1
    have d2' : Ch FM h2 r.2 := d2.mono (fun m k z => SR_FM z)
    have hR3 := hR2.q d2'
    have hM3 := c2.fr d2 (fun k _ _ z => by unfold SR at z; omega)
    have key := mayL hR3 hM3 d3 hR3.2.2.2.2.2.2.1 a.2.2.2.2.1.length FU 0 true (by omega) (by have := FU_gt; omega)
    rw [show nI 0 = 0 from rfl, show b2 true = 1 from rfl] at key
    refine ⟨r.2, ?_, hR3, ((b3.mono (fun m k z => Or.inr (Or.inr z))).trans c3').trans d2'⟩
    simp only [rk8, hC.1.1, gd_t, b1, bd_s, hR1.1.1.1, c1, hR2.1.1.1, d1, key]
    rfl
/-! rows see an entry by its key and its amount alone -/
def Lk (f wd : Nat) (X Y : EL) : Prop := X.length = Y.length ∧ (∀ e, am X e = am Y e) ∧ ∀ e, ky f wd X e = ky f wd Y e
theorem Lk_sel {f wd : Nat} {X Y : EL} (h : Lk f wd X Y) : sel X = sel Y := by
  funext s
  unfold sel
  rw [h.1, show am X = am Y from funext h.2.1]
theorem Lk_gp {f wd : Nat} {X Y : EL} (h : Lk f wd X Y) : gp f wd X = gp f wd Y := by
  funext k
  unfold gp
  rw [h.1, show ky f wd X = ky f wd Y from funext h.2.2]
theorem Lk_rwl {pl : PL} {X Y : EL} (h : Lk pl.1 pl.2.2.2.2 X Y) : rwl pl X = rwl pl Y := by
  have e1 := Lk_gp h
  have e2 := Lk_sel h
  have e3 : gK pl.1 pl.2.2.2.2 X = gK pl.1 pl.2.2.2.2 Y := by unfold gK; rw [e1]
  have e4 : ∀ K, gl pl.1 pl.2.2.2.2 X K = gl pl.1 pl.2.2.2.2 Y K := fun K => by unfold gl; rw [e1]
  have e5 : vK pl.2.2.1 pl.1 pl.2.2.2.2 X = vK pl.2.2.1 pl.1 pl.2.2.2.2 Y := by
    funext k
    unfold vK
    rw [e1, e2]
  unfold rwl rwK
  rw [e3, e4, e4, e5, e1]
theorem Lk_sA {pl : PL} {X Y : EL} {S : SL} (h : Lk pl.1 pl.2.2.2.2 X Y) : ∀ d k, sA pl X S d k = sA pl Y S d k
  | 0, _ => rfl
  | d + 1, k => by
    unfold sA
    rw [Lk_rwl h, Lk_sel h, Lk_sA h d (k + 1)]
theorem en_snoc (E : EL) (v : Nat × Nat × Nat) (i : Nat) : en (E ++ [v]) i = if i < E.length then en E i else if i = E.length then v else (0, 0, 0) := by
  unfold en
  by_cases h1 : i < E.length
  · rw [if_pos h1, List.getD_eq_getElem?_getD, List.getElem?_append_left h1, ← List.getD_eq_getElem?_getD]
  · by_cases h2 : i = E.length
    · subst h2; simp
    · rw [if_neg h1, if_neg h2, List.getD_eq_getElem?_getD, List.getElem?_eq_none (by simp; omega)]
      rfl
theorem Lk.of {E : EL} {f wd t w t' w' m : Nat} (h0 : f = 0 → t = t') (h1 : f = 1 → w = w') : Lk f wd (E ++ [(t, w, m)]) (E ++ [(t', w', m)]) := by
  have ha : ∀ e, am (E ++ [(t, w, m)]) e = am (E ++ [(t', w', m)]) e := fun e => by
    show (en _ e).2.2 = (en _ e).2.2
    rw [en_snoc, en_snoc]
    split
    · rfl
    · split <;> rfl
  refine ⟨by simp, ha, fun e => ?_⟩
  unfold ky
  by_cases q0 : f = 0
  · rw [if_pos q0, if_pos q0, h0 q0]
    show (en _ e).1 = (en _ e).1
    rw [en_snoc, en_snoc]
    split
    · rfl
    · split <;> rfl
  rw [if_neg q0, if_neg q0]
  by_cases q1 : f = 1
  · rw [if_pos q1, if_pos q1, h1 q1]
    show (en _ e).2.1 = (en _ e).2.1
    rw [en_snoc, en_snoc]
    split
    · rfl
    · split <;> rfl
  rw [if_neg q1, if_neg q1, ha e]
theorem mb_in {a : ST} {t w t' w' m : Nat} (h0 : a.2.1.1 = 0 → t = t') (h1 : a.2.1.1 = 1 → w = w') : mb a (t, w, m) = mb a (t', w', m) := Lk_sA (Lk.of h0 h1) _ _
