/-! OPS: keep, again -/
def bmp (h : HS) (N : Nat) : HS := (h.1, h.2.1, h.2.2.1, N)
theorem EN.bp {h : HS} {N e : Nat} (x : EN h e) (hl : hN h ≤ N) : EN (bmp h N) e := ⟨ck_up hl x.1, x.2.1, ⟨ck_up hl x.2.2.1.1, ck_up hl x.2.2.1.2.1, ck_up hl x.2.2.1.2.2⟩, x.2.2.2⟩
theorem ER.bp {h : HS} {N e : Nat} {E : EL} (x : ER h e E) (hl : hN h ≤ N) : ER (bmp h N) e E := ⟨x.1.bp hl, x.2.1, x.2.2.1, x.2.2.2⟩
theorem AX.bp {h : HS} {N e : Nat} (x : AX h e) (hl : hN h ≤ N) : AX (bmp h N) e := ⟨ck_up hl x.1, x.2.1, ⟨ck_up hl x.2.2.1.1, ck_up hl x.2.2.1.2.1, ck_up hl x.2.2.1.2.2⟩, x.2.2.2⟩
theorem W9.bp {h : HS} {N p q : Nat} {pl : PL} (x : W9 h p q pl) (hl : hN h ≤ N) : W9 (bmp h N) p q pl := ⟨⟨ck_up hl x.1.1, x.1.2⟩, ⟨ck_up hl x.2.1.1, x.2.1.2⟩, x.2.2.1, x.2.2.2.1, ck_up hl x.2.2.2.2.1, x.2.2.2.2.2.1.bp hl, x.2.2.2.2.2.2.bp hl⟩
theorem T9.bp {h : HS} {N : Nat} {T : List Nat} (x : T9 h T) (hl : hN h ≤ N) : T9 (bmp h N) T := ⟨ck_up hl x.1, x.2.1, ck_up hl x.2.2.1, x.2.2.2⟩
theorem A9.bp {h : HS} {N : Nat} {E : EL} {A : List EL} (x : A9 h E A) (hl : hN h ≤ N) : A9 (bmp h N) E A := by
  obtain ⟨x1, x2, x3, x4, x5, x6, g, x7, x8, x9⟩ := x
  exact ⟨ck_up hl x1, x2, ck_up hl x3, x4, x5, fun j hj => ck_up hl (x6 j hj), g, x7, x8, AC.fr A E x9 (fun i _ => ⟨rfl, fun k _ => rfl⟩)⟩
theorem S9.bp {h : HS} {N : Nat} {L : SL} (x : S9 h L) (hl : hN h ≤ N) : S9 (bmp h N) L := ⟨ck_up hl x.1, x.2.1, ⟨ck_up hl x.2.2.1.1, ck_up hl x.2.2.1.2.1, ck_up hl x.2.2.1.2.2⟩, x.2.2.2⟩
theorem Kp.bp {h : HS} {N : Nat} {e : Option Nat} {k : Option EL} (x : Kp h e k) (hl : hN h ≤ N) : Kp (bmp h N) e k := by
  cases e with
  | none => cases k with
    | none => trivial
    | some X => exact x
  | some n => cases k with
    | none => exact x
    | some X => exact ER.bp (x : ER h n X) hl
theorem Kp.fr2 {S : Nat → Nat → Prop} {h h' : HS} {e : Option Nat} {k : Option EL} (x : Kp h e k) (c : Ch S h h') (hS : ∀ n, e = some n → ∀ m k, n ≤ m → m ≤ n + 3 → ¬ S m k) : Kp h' e k := by
  cases e with
  | none => cases k with
    | none => trivial
    | some X => exact x
  | some n => cases k with
    | none => exact x
    | some X => exact ER.fr (x : ER h n X) c (fun m k h1 h2 => hS n rfl m k h1 h2)
/-- the class's picture without its slots -/
def Rb (h : HS) (a : ST) : Prop := (∃ p q, W9 h p q a.2.1) ∧ T9 h a.1 ∧ ER h 5 a.2.2.1 ∧ EN h 9 ∧ A9 h a.2.2.1 a.2.2.2.1 ∧ S9 h a.2.2.2.2.1 ∧ hJ h 0 10 = a.2.2.2.2.2.1
theorem R9.b {h : HS} {a : ST} (x : R9 h a) : Rb h a := ⟨x.1, x.2.1, x.2.2.1, x.2.2.2.1, x.2.2.2.2.1, x.2.2.2.2.2.1, x.2.2.2.2.2.2.1⟩
theorem Rb.bp {h : HS} {N : Nat} {a : ST} (x : Rb h a) (hl : hN h ≤ N) : Rb (bmp h N) a := by
  obtain ⟨⟨p, q, x1⟩, x2, x3, x4, x5, x6, x7⟩ := x
  exact ⟨⟨p, q, x1.bp hl⟩, x2.bp hl, x3.bp hl, x4.bp hl, x5.bp hl, x6.bp hl, x7⟩
theorem Rb.fr {S : Nat → Nat → Prop} {h h' : HS} {a : ST} (x : Rb h a) (c : Ch S h h') (hS : ∀ n k, S n k → n = 41 ∨ 56 ≤ n) : Rb h' a := by
  obtain ⟨⟨p, q, x1⟩, x2, x3, x4, x5, x6, x7⟩ := x
  refine ⟨⟨p, q, x1.fr c (fun k _ z => by have := hS _ _ z; omega) (fun k z => by have := hS _ _ z; omega) (fun k z => by have := hS _ _ z; omega) (fun k _ z => by have := hS _ _ z; omega) (fun k _ z => by have := hS _ _ z; omega)⟩, x2.fr c (fun n k z => by have := hS _ _ z; omega), x3.fr c (fun n k _ _ z => by have := hS _ _ z; omega), x4.fr c (fun n k _ _ z => by have := hS _ _ z; omega), x5.fr c (fun n k z => by have := hS _ _ z; omega), x6.fr c (fun n k z => by have := hS _ _ z; omega), ?_⟩
  rw [c.J (fun z => by have := hS _ _ z; omega)]; exact x7
def wK (a : ST) (k0 k1 : Option EL) : ST := (a.1, a.2.1, a.2.2.1, a.2.2.2.1, a.2.2.2.2.1, a.2.2.2.2.2.1, k0, k1)
theorem Rb.k {h : HS} {a : ST} {k0 k1 : Option EL} (x : Rb h a) (hK : K9 h k0 k1) : R9 h (wK a k0 k1) := ⟨x.1, x.2.1, x.2.2.1, x.2.2.2.1, x.2.2.2.2.1, x.2.2.2.2.2.1, x.2.2.2.2.2.2, hK⟩
theorem hI_nw (h : HS) (m : Nat) : hI (nw h) m = if m = hN h then fun _ => 0 else hI h m := rfl
theorem hJ_nw (h : HS) (m : Nat) : hJ (nw h) m = if m = hN h then fun _ => 0 else hJ h m := rfl
theorem hP_nw (h : HS) (m : Nat) : hP (nw h) m = if m = hN h then fun _ => none else hP h m := rfl
theorem s_X3_new {h : HS} {N : Nat} (e : hN h = N) (k0 : kd N = 3) (k1 : kd (N + 1) = 9) (k2 : kd (N + 1 + 1) = 9) (k3 : kd (N + 1 + 1 + 1) = 9) (a1 : al (N + 1) = 16) (a2 : al (N + 1 + 1) = 16) (a3 : al (N + 1 + 1 + 1) = 16) (hl : N + 4 < 1000) : ∃ h', f_X3_init N (nw h) = some ((), h') ∧ EN h' N ∧ Ch (fun m _ => N ≤ m ∧ m ≤ N + 3) (bmp h (N + 4)) h' := by
  have l1 : (N + 1 < 1000) = True := eq_true (by omega)
  have l2 : (N + 1 + 1 < 1000) = True := eq_true (by omega)
  have l3 : (N + 1 + 1 + 1 < 1000) = True := eq_true (by omega)
  have m2 : (N < N + 1 + 1) = True := eq_true (by omega)
  have m3 : (N < N + 1 + 1 + 1) = True := eq_true (by omega)
  have m4 : (N < N + 1 + 1 + 1 + 1) = True := eq_true (by omega)
  have j1 : (N = N + 1) = False := eq_false (by omega)
  have j2 : (N = N + 1 + 1) = False := eq_false (by omega)
  have j3 : (N = N + 1 + 1 + 1) = False := eq_false (by omega)
  refine ⟨sI (sP (nw (sP (nw (sP (nw (nw h)) N 0 (some (N + 1)))) N 1 (some (N + 1 + 1)))) N 2 (some (N + 1 + 1 + 1))) N 3 0, ?_, ?_, ?_⟩
  · unfold f_X3_init
    simp only [nn_s, hl_s, cn, ck, hN_sP, hN_sI, hN_nw, e, k0, k1, k2, k3, a1, a2, a3, l1, l2, l3, m2, m3, m4, decide_true, beq_self_eq_true, Bool.and_self, gd_t]
  · refine ⟨?_, ⟨?_, ?_, ?_⟩, ⟨?_, ?_, ?_⟩, a1, a2, a3⟩
    · simp only [ck, hN_sP, hN_sI, hN_nw, e, k0, m4, decide_true, beq_self_eq_true, Bool.and_self]
    · simp only [hP_sI, hP_sP, hP_nw, hN_sP, hN_nw, e, j1, j2, j3, if_false, show ((0 : Nat) = 2) = False by decide, show ((0 : Nat) = 1) = False by decide, and_false, and_self, if_true]
    · simp only [hP_sI, hP_sP, hP_nw, hN_sP, hN_nw, e, j1, j2, j3, if_false, show ((1 : Nat) = 2) = False by decide, and_false, and_self, if_true]
    · simp only [hP_sI, hP_sP, and_self, if_true]
    · exact ck_of (by simp only [hN_sP, hN_sI, hN_nw, e]; omega) k1
    · exact ck_of (by simp only [hN_sP, hN_sI, hN_nw, e]; omega) k2
    · exact ck_of (by simp only [hN_sP, hN_sI, hN_nw, e]; omega) k3
  · refine ⟨by simp only [hN_sP, hN_sI, hN_nw, e]; rfl, fun n k hn => ?_⟩
    have hn : ¬ (N ≤ n ∧ n ≤ N + 3) := hn
    have z : ∀ g : HS, ¬ n = hN g → hI (nw g) n = hI g n ∧ hJ (nw g) n = hJ g n ∧ hP (nw g) n = hP g n := fun g hg => ⟨if_neg hg, if_neg hg, if_neg hg⟩
    have z0_ := z h (by omega)
    have z1_ := z (nw h) (by rw [hN_nw]; omega)
    have z2_ := z (sP (nw (nw h)) N 0 (some (N + 1))) (by rw [hN_sP, hN_nw, hN_nw]; omega)
    have z3_ := z (sP (nw (sP (nw (nw h)) N 0 (some (N + 1)))) N 1 (some (N + 1 + 1))) (by rw [hN_sP, hN_nw, hN_sP, hN_nw, hN_nw]; omega)
    refine ⟨?_, ?_, ?_⟩
    · rw [hI_sI, if_neg (fun q => by omega), hI_sP, z3_.1, hI_sP, z2_.1, hI_sP, z1_.1, z0_.1]; rfl
    · rw [hJ_sI, hJ_sP, z3_.2.1, hJ_sP, z2_.2.1, hJ_sP, z1_.2.1, z0_.2.1]; rfl
    · rw [hP_sI, hP_sP, if_neg (fun q => by omega), z3_.2.2, hP_sP, if_neg (fun q => by omega), z2_.2.2, hP_sP, if_neg (fun q => by omega), z1_.2.2, z0_.2.2]; rfl
theorem s_X9_isSlot (x : Int32) (h : HS) : f_X9_isSlot x h = some (if x.toInt = 0 ∨ x.toInt = 1 then 1 else 0, h) := by
  unfold f_X9_isSlot b_X9_isSlot_13 b_X9_isSlot_14
  simp only [i32_lt0, i32_le, show (2 : Int32).toInt = 2 from rfl, z0, z1, gd_t]
  by_cases h1 : x.toInt < 0
  · rw [if_pos h1, if_neg (by omega)]
  · rw [if_neg h1]
    by_cases h2 : 2 ≤ x.toInt
    · rw [if_pos h2, if_neg (by omega)]
    · rw [if_neg h2, if_pos (by omega)]
theorem slot_s {s : Nat} (hs : s < 2) (h : HS) : f_X9_isSlot (nI s) h = some (1, h) := by rw [s_X9_isSlot, nI_i (by omega), if_pos (by omega)]
theorem al41 : al 41 = 2 := by decide
theorem s_kp35 {h : HS} {p q n : Nat} {pl : PL} {E : EL} (hW : W9 h p q pl) (hE : ER h 5 E) (hn : EN h n) (h56 : 56 ≤ n) : ∃ h', b_X9_keep_35 0 (some n) h = some (nI E.length, h') ∧ ER h' n E ∧ Ch (fun m _ => n ≤ m ∧ m ≤ n + 3) h h' := by
  obtain ⟨h1, b1, b2_, b3⟩ := s_X3_copyFrom hE hn (Or.inr (by omega))
  refine ⟨h1, ?_, b2_, b3⟩
  unfold b_X9_keep_35
  simp only [nn_s, hW.1.1, gd_t, hW.1.2.2.2.2.1, rk3, hn.1, b1, bd_s, b2_.1.1, b2_.2.2.1]
theorem kp_at {h : HS} {a : ST} {s n : Nat} (hs : s < 2) (hR : Rb h a) (hc : ck h 41 12 = true) (hp : hP h 41 s = some n) (hn : EN h n) (h56 : 56 ≤ n) : ∃ h', f_X9_keep 0 (nI s) h = some (nI a.2.2.1.length, h') ∧ ER h' n a.2.2.1 ∧ Ch (fun m _ => n ≤ m ∧ m ≤ n + 3) h h' := by
  obtain ⟨⟨p, q, hW⟩, x2, x3, x4, x5, x6, x7⟩ := id hR
  obtain ⟨h1, b1, b2_, b3⟩ := s_kp35 hW x3 hn h56
  refine ⟨h1, ?_, b2_, b3⟩
  have hca : ca h 41 12 (nI s) = true := ca_nI hc (by rw [al41]; omega) (by rw [al41]; omega)
  unfold f_X9_keep
  rw [slot_s hs]
  simp only [bd_s, one0, if_false, nn_s, hW.1.1, gd_t, hW.1.2.2.2.2.2.2.2.2.2.2, hca, nI_clamp (show s < 2 ^ 31 by omega), hp, reduceCtorEq, b1]
theorem kp_new {h : HS} {a : ST} {s N : Nat} (hs : s < 2) (hR : Rb h a) (hc : ck h 41 12 = true) (hp : hP h 41 s = none) (e : hN h = N) (h56 : N = 56 ∨ N = 60) : ∃ h', f_X9_keep 0 (nI s) h = some (nI a.2.2.1.length, h') ∧ ER h' N a.2.2.1 ∧ hP h' 41 s = some N ∧ Ch (fun m k => (N ≤ m ∧ m ≤ N + 3) ∨ (m = 41 ∧ k = s)) (bmp h (N + 4)) h' := by
  have kds : kd N = 3 ∧ kd (N + 1) = 9 ∧ kd (N + 1 + 1) = 9 ∧ kd (N + 1 + 1 + 1) = 9 ∧ al (N + 1) = 16 ∧ al (N + 1 + 1) = 16 ∧ al (N + 1 + 1 + 1) = 16 := by
    rcases h56 with q | q
    · subst q; decide
    · subst q; decide
  obtain ⟨k0, k1, k2, k3, a1, a2, a3⟩ := kds
  obtain ⟨h1, n1, n2, n4⟩ := s_X3_new e k0 k1 k2 k3 a1 a2 a3 (by omega)
  have hR1 : Rb h1 a := (hR.bp (N := N + 4) (by omega)).fr n4 (fun n k z => by omega)
  have c2 : Ch (fun m k => m = 41 ∧ k = s) h1 (sP h1 41 s (some N)) := Ch.sP ⟨rfl, rfl⟩
  have hR2 : Rb (sP h1 41 s (some N)) a := hR1.fr c2 (fun n k z => Or.inl z.1)
  have hn2 : EN (sP h1 41 s (some N)) N := n2.fr c2 (fun n k _ _ z => by omega)
  obtain ⟨⟨p, q, hW⟩, x2, x3, x4, x5, x6, x7⟩ := id hR
  obtain ⟨⟨p1, q1, hW1⟩, _⟩ := id hR1
  obtain ⟨⟨p2, q2, hW2⟩, _, y3, _⟩ := id hR2
  obtain ⟨h3, b1, b2_, b3⟩ := s_kp35 hW2 y3 hn2 (by omega)
  refine ⟨h3, ?_, b2_, ?_, ((n4.mono (fun m k z => Or.inl z)).trans (c2.mono (fun m k z => Or.inr z))).trans (b3.mono (fun m k z => Or.inl z))⟩
  · have hca : ca h 41 12 (nI s) = true := ca_nI hc (by rw [al41]; omega) (by rw [al41]; omega)
    have hc1 : ck h1 41 12 = true := by rw [n4.ck]; exact ck_up (by show hN h ≤ N + 4; omega) hc
    have hca1 : ca h1 41 12 (nI s) = true := ca_nI hc1 (by rw [al41]; omega) (by rw [al41]; omega)
    have hcn : cn h 3 = true := by
      simp only [cn, e, k0, beq_self_eq_true, Bool.and_true, decide_eq_true_eq]; omega
    unfold f_X9_keep
    rw [slot_s hs]
    simp only [bd_s, one0, if_false, nn_s, hW.1.1, gd_t, hW.1.2.2.2.2.2.2.2.2.2.2, hca, nI_clamp (show s < 2 ^ 31 by omega), hp, if_true, hcn, hl_s, e, n1, hW1.1.1, hW1.1.2.2.2.2.2.2.2.2.2.2, hca1, n2.1, Bool.and_self, b1]
  · rw [b3.P (by omega), hP_sP, if_pos ⟨rfl, rfl⟩]
theorem R10.bq {h h' : HS} {N s : Nat} (e : hN h = N) (h56 : N = 56 ∨ N = 60) (c : Ch (fun m k => (N ≤ m ∧ m ≤ N + 3) ∨ (m = 41 ∧ k = s)) (bmp h (N + 4)) h') (b : ST) (x : R10 h b) : R10 h' b :=
  x.up (by rw [c.1]; show hN h ≤ N + 4; omega) (fun n k h1 h2 => c.2 n k (fun z => by omega))
theorem Rb.bq {h h' : HS} {N s : Nat} {a : ST} (e : hN h = N) (h56 : N = 56 ∨ N = 60) (c : Ch (fun m k => (N ≤ m ∧ m ≤ N + 3) ∨ (m = 41 ∧ k = s)) (bmp h (N + 4)) h') (x : Rb h a) : Rb h' a := (x.bp (N := N + 4) (by omega)).fr c (fun n k z => by omega)
def sp_keep (x : Int32) (a : ST) : Int32 × ST := if x.toInt = 0 then (nI a.2.2.1.length, wK a (some a.2.2.1) a.2.2.2.2.2.2.2) else if x.toInt = 1 then (nI a.2.2.1.length, wK a a.2.2.2.2.2.2.1 (some a.2.2.1)) else (-1, a)
theorem Kp.en {h : HS} {n : Nat} {k : Option EL} (x : Kp h (some n) k) : EN h n := by
  cases k with
  | none => exact absurd x (fun z => z)
  | some X => exact (x : ER h n X).1
theorem o9_keep {h : HS} {a : ST} (hR : R9 h a) (x : Int32) : ∃ h', f_X9_keep 0 x h = some ((sp_keep x a).1, h') ∧ R9 h' (sp_keep x a).2 ∧ (∀ b, R10 h b → R10 h' b) := by
  have hb := hR.b
  obtain ⟨kc, e0, e1, p0, p1_, K0, K1, hcs⟩ := hR.2.2.2.2.2.2.2
  have f9 : ∀ (n : Nat) (g : HS), 56 ≤ n → Ch (fun m _ => n ≤ m ∧ m ≤ n + 3) h g → Rb g a ∧ (∀ b, R10 h b → R10 g b) := fun n g hn c => ⟨hb.fr c (fun m k z => by omega), fun b hb => hb.fr (c.mono (fun m k z => by unfold F9; omega))⟩
  have ck41 : ∀ (N s : Nat) (g : HS), hN h = N → Ch (fun m k => (N ≤ m ∧ m ≤ N + 3) ∨ (m = 41 ∧ k = s)) (bmp h (N + 4)) g → ck g 41 12 = true := fun N s g e c => by
    rw [c.ck]; exact ck_up (by show hN h ≤ N + 4; omega) kc
  unfold sp_keep
  by_cases q0 : x.toInt = 0
  · have ex : x = nI 0 := (i32_eq _ _).mpr q0
    rw [if_pos q0, ex]
    rcases hcs with ⟨z0_, z1_, hn⟩ | ⟨z0_, z1_, hn⟩ | ⟨z0_, z1_, hn⟩ | ⟨z0_, z1_, hn⟩ | ⟨z0_, z1_, hn⟩ <;> subst z0_ z1_
    · obtain ⟨h', r1, r2, r3, r4⟩ := kp_new (s := 0) (by omega) hb kc p0 hn (Or.inl rfl)
      exact ⟨h', r1, (hb.bq hn (Or.inl rfl) r4).k ⟨ck41 _ _ _ hn r4, some 56, none, r3, by rw [r4.P (by omega)]; exact p1_, r2, (K1.bp (N := 60) (by omega)).fr2 r4 (fun n z => by simp at z), Or.inr (Or.inl ⟨rfl, rfl, r4.1⟩)⟩, R10.bq hn (Or.inl rfl) r4⟩
    · obtain ⟨h', r1, r2, r4⟩ := kp_at (s := 0) (by omega) hb kc p0 K0.en (by omega)
      obtain ⟨g1, g2⟩ := f9 56 h' (by omega) r4
      exact ⟨h', r1, g1.k ⟨by rw [r4.ck]; exact kc, some 56, none, by rw [r4.P (by omega)]; exact p0, by rw [r4.P (by omega)]; exact p1_, r2, K1.fr2 r4 (fun n z => by simp at z), Or.inr (Or.inl ⟨rfl, rfl, by rw [r4.1]; exact hn⟩)⟩, g2⟩
    · obtain ⟨h', r1, r2, r3, r4⟩ := kp_new (s := 0) (by omega) hb kc p0 hn (Or.inr rfl)
      exact ⟨h', r1, (hb.bq hn (Or.inr rfl) r4).k ⟨ck41 _ _ _ hn r4, some 60, some 56, r3, by rw [r4.P (by omega)]; exact p1_, r2, (K1.bp (N := 64) (by omega)).fr2 r4 (fun n z m k _ _ => by simp at z; omega), Or.inr (Or.inr (Or.inr (Or.inr ⟨rfl, rfl, r4.1⟩)))⟩, R10.bq hn (Or.inr rfl) r4⟩
    · obtain ⟨h', r1, r2, r4⟩ := kp_at (s := 0) (by omega) hb kc p0 K0.en (by omega)
      obtain ⟨g1, g2⟩ := f9 56 h' (by omega) r4
      exact ⟨h', r1, g1.k ⟨by rw [r4.ck]; exact kc, some 56, some 60, by rw [r4.P (by omega)]; exact p0, by rw [r4.P (by omega)]; exact p1_, r2, K1.fr2 r4 (fun n z m k _ _ => by simp at z; omega), Or.inr (Or.inr (Or.inr (Or.inl ⟨rfl, rfl, by rw [r4.1]; exact hn⟩)))⟩, g2⟩
    · obtain ⟨h', r1, r2, r4⟩ := kp_at (s := 0) (by omega) hb kc p0 K0.en (by omega)
      obtain ⟨g1, g2⟩ := f9 60 h' (by omega) r4
      exact ⟨h', r1, g1.k ⟨by rw [r4.ck]; exact kc, some 60, some 56, by rw [r4.P (by omega)]; exact p0, by rw [r4.P (by omega)]; exact p1_, r2, K1.fr2 r4 (fun n z m k _ _ => by simp at z; omega), Or.inr (Or.inr (Or.inr (Or.inr ⟨rfl, rfl, by rw [r4.1]; exact hn⟩)))⟩, g2⟩
  rw [if_neg q0]
  by_cases q1 : x.toInt = 1
  · have ex : x = nI 1 := (i32_eq _ _).mpr q1
    rw [if_pos q1, ex]
    rcases hcs with ⟨z0_, z1_, hn⟩ | ⟨z0_, z1_, hn⟩ | ⟨z0_, z1_, hn⟩ | ⟨z0_, z1_, hn⟩ | ⟨z0_, z1_, hn⟩ <;> subst z0_ z1_
    · obtain ⟨h', r1, r2, r3, r4⟩ := kp_new (s := 1) (by omega) hb kc p1_ hn (Or.inl rfl)
      exact ⟨h', r1, (hb.bq hn (Or.inl rfl) r4).k ⟨ck41 _ _ _ hn r4, none, some 56, by rw [r4.P (by omega)]; exact p0, r3, (K0.bp (N := 60) (by omega)).fr2 r4 (fun n z => by simp at z), r2, Or.inr (Or.inr (Or.inl ⟨rfl, rfl, r4.1⟩))⟩, R10.bq hn (Or.inl rfl) r4⟩
    · obtain ⟨h', r1, r2, r3, r4⟩ := kp_new (s := 1) (by omega) hb kc p1_ hn (Or.inr rfl)
      exact ⟨h', r1, (hb.bq hn (Or.inr rfl) r4).k ⟨ck41 _ _ _ hn r4, some 56, some 60, by rw [r4.P (by omega)]; exact p0, r3, (K0.bp (N := 64) (by omega)).fr2 r4 (fun n z m k _ _ => by simp at z; omega), r2, Or.inr (Or.inr (Or.inr (Or.inl ⟨rfl, rfl, r4.1⟩)))⟩, R10.bq hn (Or.inr rfl) r4⟩
    · obtain ⟨h', r1, r2, r4⟩ := kp_at (s := 1) (by omega) hb kc p1_ K1.en (by omega)
      obtain ⟨g1, g2⟩ := f9 56 h' (by omega) r4
      exact ⟨h', r1, g1.k ⟨by rw [r4.ck]; exact kc, none, some 56, by rw [r4.P (by omega)]; exact p0, by rw [r4.P (by omega)]; exact p1_, K0.fr2 r4 (fun n z => by simp at z), r2, Or.inr (Or.inr (Or.inl ⟨rfl, rfl, by rw [r4.1]; exact hn⟩))⟩, g2⟩
    · obtain ⟨h', r1, r2, r4⟩ := kp_at (s := 1) (by omega) hb kc p1_ K1.en (by omega)
      obtain ⟨g1, g2⟩ := f9 60 h' (by omega) r4
      exact ⟨h', r1, g1.k ⟨by rw [r4.ck]; exact kc, some 56, some 60, by rw [r4.P (by omega)]; exact p0, by rw [r4.P (by omega)]; exact p1_, K0.fr2 r4 (fun n z m k _ _ => by simp at z; omega), r2, Or.inr (Or.inr (Or.inr (Or.inl ⟨rfl, rfl, by rw [r4.1]; exact hn⟩)))⟩, g2⟩
    · obtain ⟨h', r1, r2, r4⟩ := kp_at (s := 1) (by omega) hb kc p1_ K1.en (by omega)
      obtain ⟨g1, g2⟩ := f9 56 h' (by omega) r4
      exact ⟨h', r1, g1.k ⟨by rw [r4.ck]; exact kc, some 60, some 56, by rw [r4.P (by omega)]; exact p0, by rw [r4.P (by omega)]; exact p1_, K0.fr2 r4 (fun n z m k _ _ => by simp at z; omega), r2, Or.inr (Or.inr (Or.inr (Or.inr ⟨rfl, rfl, by rw [r4.1]; exact hn⟩)))⟩, g2⟩
  rw [if_neg q1]
  refine ⟨h, ?_, hR, fun b hb => hb⟩
  unfold f_X9_keep
  rw [s_X9_isSlot, if_neg (by omega)]
  rfl
theorem Kq.fr2 {S : Nat → Nat → Prop} {h h' : HS} {s : Nat} {k : Option EL} (x : Kq h s k) (c : Ch S h h') (hS : ¬ S 54 s) (hT : ∀ k, 17 * s ≤ k → k < 17 * s + 17 → ¬ S 55 k) : Kq h' s k := by
  cases k with
  | none => show hI h' 54 s = 0; rw [c.I hS]; exact x
  | some X => exact ⟨by rw [c.I hS]; exact x.1, x.2.fr c hT⟩
theorem al54 : al 54 = 2 := by decide
theorem al55 : al 55 = 34 := by decide
def SV (s m k : Nat) : Prop := SC 55 (17 * s) m k ∨ (m = 54 ∧ k = s)
theorem kq10 {h : HS} {a : ST} (hR : R10 h a) {s : Nat} (hs : s < 2) : ∃ h', f_X10_keep 42 (nI s) h = some (nI a.2.2.1.length, h') ∧ Kq h' s (some a.2.2.1) ∧ Ch (SV s) h h' := by
  obtain ⟨hC, hP, hV, x4, x5, x6, x7, x8, k0, k1⟩ := id hR
  have c0 : Ch (fun m k => m = 54 ∧ k = s) h (sI h 54 s 1) := Ch.sI ⟨rfl, rfl⟩
  have g1 : hI (sI h 54 s 1) 54 s = 1 := by rw [hI_sI, if_pos ⟨rfl, rfl⟩]
  unfold f_X10_keep
  rw [s_X10_in, if_pos (show (0 : Int64).toInt ≤ (nI s).toInt ∧ (nI s).toInt ≤ (1 : Int64).toInt by rw [nI_i (by omega), show (0 : Int64).toInt = 0 from rfl, show (1 : Int64).toInt = 1 from rfl]; omega)]
  have hca : ca h 54 10 (nI s) = true := ca_nI hC.1.2.2.2.2.2.2.2.2.2.2.2.2.1 (by rw [al54]; omega) (by rw [al54]; omega)
  simp only [bd_s, one0, if_false, nn_s, hC.1.1, gd_t, hC.2.2.2.2.2.2.2.2.2.2.2.2.1, hca, hl_s, nI_clamp (show s < 2 ^ 31 by omega), show ((1 : Int32) &&& 1) = 1 by decide]
  generalize sI h 54 s 1 = g at *
  have hC1 := hC.fr c0 (fun n k z q => by omega)
  have hM1 := x5.fr c0 (fun k _ _ z => by omega)
  have key : l_X10_keep_21 FU 42 (nI s) 0 g = (fun u : HS => some (nI a.2.2.1.length, u)) (fw (cpS 44 0 55 (17 * s)) 0 17 g) := by
    refine it_up (fun n (u : HS) k => l_X10_keep_21 n 42 (nI s) (nI k) u) 17 (cpS 44 0 55 (17 * s)) (fun u : HS => some (nI a.2.2.1.length, u)) (fun k u => Ch (SC 55 (17 * s)) g u) ?_ ?_ 17 FU g 0 (by omega) (by have := FU_gt; omega) Ch.rf
    · intro fu u k hk hu
      refine ⟨?_, hu.trans (Ch.sI ⟨rfl, by omega, by omega⟩)⟩
      have hC2 := hC1.fr hu (fun n k z q => by unfold SC at z; omega)
      have hca1 : ca u 44 9 (nI k) = true := ca_nI hC2.1.2.2.1 (by rw [al44]; omega) (by rw [al44]; omega)
      have hca2 : ca u 55 9 (nI (17 * s + k)) = true := ca_nI hC2.1.2.2.2.2.2.2.2.2.2.2.2.2.2 (by rw [al55]; omega) (by rw [al55]; omega)
      have e : (17 : Int32) * nI s + nI k = nI (17 * s + k) := by rw [show (17 : Int32) * nI s = nI (17 * s) from nI_mul 17 s, nI_add]
      show b_X10_keep_21 (l_X10_keep_21 fu) 42 (nI s) (nI k) u = _
      unfold b_X10_keep_21
      rw [if_neg (show ¬ (17 : Int32) ≤ nI k from nI_ge (a := k) (b := 17) (by omega) (by omega))]
      simp only [nn_s, hC2.1.1, gd_t, hC2.2.2.1, hC2.2.2.2.2.2.2.2.2.2.2.2.2.2, hca1, e, hca2, hl_s, nI_clamp (show k < 2 ^ 31 by omega), nI_clamp (show 17 * s + k < 2 ^ 31 by omega), nI_1, cpS, Nat.zero_add]
    · intro fu u hu
      have hC2 := hC1.fr hu (fun n k z q => by unfold SC at z; omega)
      have hM2 := hM1.fr hu (fun k _ _ z => by unfold SC at z; omega)
      have hm := s_X10_many hC2 (lv := 0) (by omega) hM2
      rw [show nI 0 = 0 from rfl] at hm
      show b_X10_keep_21 (l_X10_keep_21 fu) 42 (nI s) (nI 17) u = _
      unfold b_X10_keep_21
      rw [if_pos (show (17 : Int32) ≤ nI 17 by decide)]
      simp only [nn_s, rk8, hC2.1.1, gd_t, hm, bd_s]
  obtain ⟨c1, c2⟩ := cp_inv (h := g) (n1 := 44) (b1 := 0) (n2 := 55) (b2 := 17 * s) (Or.inl (by decide))
  have hB1 : BV g 44 0 a.2.2.1 := hM1
  have hB2 : BV (fw (cpS 44 0 55 (17 * s)) 0 17 g) 55 (17 * s) a.2.2.1 := hB1.cp (Or.inl (by decide))
  refine ⟨_, key, ⟨?_, hB2⟩, (c0.mono (fun m k z => Or.inr z)).trans (c1.mono (fun m k z => Or.inl z))⟩
  rw [c1.I (fun z => by unfold SC at z; omega)]
  exact g1
theorem o10_keep {h : HS} {a : ST} (hR : R10 h a) (x : Int32) : ∃ h', f_X10_keep 42 x h = some ((sp_keep x a).1, h') ∧ R10 h' (sp_keep x a).2 ∧ Ch F10 h h' := by
  obtain ⟨hC, hP, hV, x4, x5, x6, x7, x8, k0, k1⟩ := id hR
  have fin : ∀ (s : Nat) (h' : HS) (j0 j1 : Option EL), s < 2 → Ch (SV s) h h' → Kq h' 0 j0 → Kq h' 1 j1 → R10 h' (wK a j0 j1) := fun s h' j0 j1 hs c q0 q1 =>
    hR.mk2 c rfl (fun n k z q => by unfold SV SC at z; omega) (x4.fr c (fun n k z => by unfold SV SC at z; omega)) (x5.fr c (fun k _ _ z => by unfold SV SC at z; omega)) (x6.fr c (fun n k z => by unfold SV SC at z; omega)) (x7.fr c (fun n k z => by unfold SV SC at z; omega)) (by rw [c.J (fun z => by unfold SV SC at z; omega)]; exact x8) q0 q1
  unfold sp_keep
  by_cases q0 : x.toInt = 0
  · have ex : x = nI 0 := (i32_eq _ _).mpr q0
    rw [if_pos q0, ex]
    obtain ⟨h', r1, r2, r3⟩ := kq10 hR (s := 0) (by omega)
    exact ⟨h', r1, fin 0 h' _ _ (by omega) r3 r2 (k1.fr2 r3 (fun z => by unfold SV SC at z; omega) (fun k _ _ z => by unfold SV SC at z; omega)), r3.mono (fun m k z => by unfold SV SC at z; unfold F10; omega)⟩
  rw [if_neg q0]
  by_cases q1 : x.toInt = 1
  · have ex : x = nI 1 := (i32_eq _ _).mpr q1
    rw [if_pos q1, ex]
    obtain ⟨h', r1, r2, r3⟩ := kq10 hR (s := 1) (by omega)
    exact ⟨h', r1, fin 1 h' _ _ (by omega) r3 (k0.fr2 r3 (fun z => by unfold SV SC at z; omega) (fun k _ _ z => by unfold SV SC at z; omega)) r2, r3.mono (fun m k z => by unfold SV SC at z; unfold F10; omega)⟩
  rw [if_neg q1]
  refine ⟨h, ?_, hR, Ch.rf⟩
  unfold f_X10_keep
  rw [s_in01, if_neg (by omega)]
  rfl
/-! again -/
def kS (s : Nat) (a : ST) : Option EL := if s = 0 then a.2.2.2.2.2.2.1 else a.2.2.2.2.2.2.2
def agV (k : Option EL) (a : ST) : Int32 × ST := match k with
  | none => (-3, a)
  | some X => (nI X.length, (a.1, a.2.1, X, [], a.2.2.2.2))
def sp_again (x : Int32) (a : ST) : Int32 × ST := if x.toInt = 0 then agV (kS 0 a) a else if x.toInt = 1 then agV (kS 1 a) a else (-1, a)
theorem K9.at_ {h : HS} {a : ST} (hK : K9 h a.2.2.2.2.2.2.1 a.2.2.2.2.2.2.2) {s : Nat} (hs : s < 2) : ∃ e, hP h 41 s = e ∧ Kp h e (kS s a) ∧ ∀ n, e = some n → 56 ≤ n := by
  obtain ⟨kc, e0, e1, p0, p1_, K0, K1, hcs⟩ := hK
  by_cases q : s = 0
  · subst q
    refine ⟨e0, p0, K0, fun n hn => ?_⟩
    subst hn
    rcases hcs with ⟨q, _⟩ | ⟨q, _⟩ | ⟨q, _⟩ | ⟨q, _⟩ | ⟨q, _⟩ <;> simp at q <;> omega
  · have : s = 1 := by omega
    subst this
    refine ⟨e1, p1_, K1, fun n hn => ?_⟩
    subst hn
    rcases hcs with ⟨_, q, _⟩ | ⟨_, q, _⟩ | ⟨_, q, _⟩ | ⟨_, q, _⟩ | ⟨_, q, _⟩ <;> simp at q <;> omega
theorem A9.clr {S : Nat → Nat → Prop} {h h' : HS} {E X : EL} {A : List EL} (x : A9 h E A) (c : Ch S h h') (hS : ∀ n k, S n k → n < 13 ∨ 28 < n ∨ (n = 13 ∧ k = 1)) (h0 : hI h' 13 1 = nI 0) : A9 h' X [] := by
  obtain ⟨x1, x2, x3, x4, x5, x6, g, x7, x8, x9⟩ := x
  refine ⟨by rw [c.ck]; exact x1, ?_, by rw [c.ck]; exact x3, by simp, h0, fun j hj => by rw [c.ck]; exact x6 j hj, g, fun i hi => ⟨?_, (x7 i hi).2⟩, x8, trivial⟩
  · rw [c.P (fun z => by have := hS _ _ z; omega)]; exact x2
  · rw [c.P (fun z => by have := hS _ _ z; omega)]; exact (x7 i hi).1
theorem ag9 {h : HS} {a : ST} (hR : R9 h a) {s : Nat} (hs : s < 2) : ∃ h', f_X9_again 0 (nI s) h = some ((agV (kS s a) a).1, h') ∧ R9 h' (agV (kS s a) a).2 ∧ Ch F9 h h' := by
  obtain ⟨⟨p, q, hW⟩, x2, x3, x4, x5, x6, x7, x8⟩ := id hR
  obtain ⟨e, p0, hK, hn⟩ := x8.at_ hs
  have hca : ca h 41 12 (nI s) = true := ca_nI x8.1 (by rw [al41]; omega) (by rw [al41]; omega)
  unfold f_X9_again
  rw [slot_s hs]
  simp only [bd_s, one0, if_false, nn_s, hW.1.1, gd_t, hW.1.2.2.2.2.2.2.2.2.2.2, hca, nI_clamp (show s < 2 ^ 31 by omega), p0]
  generalize hk : kS s a = k at *
  cases e with
  | none =>
    cases k with
    | none =>
      simp only [if_true]
      exact ⟨h, rfl, hR, Ch.rf⟩
    | some X => exact absurd hK (fun z => z)
  | some n =>
    cases k with
    | none => exact absurd hK (fun z => z)
    | some X =>
      have h56 := hn n rfl
      obtain ⟨h1, b1, b2_, b3⟩ := s_X3_copyFrom (hK : ER h n X) x3.1 (Or.inl (by omega))
      have hW1 : W9 h1 p q a.2.1 := hW.fr b3 (fun k _ z => by omega) (fun k z => by omega) (fun k z => by omega) (fun k _ z => by omega) (fun k _ z => by omega)
      have hc13 : ck h1 13 1 = true := by rw [b3.ck]; exact x5.1
      have c2 : Ch (fun m k => m = 13 ∧ k = 1) h1 (sI h1 13 1 0) := Ch.sI ⟨rfl, rfl⟩
      have g1 : hI (sI h1 13 1 0) 13 1 = nI 0 := by rw [hI_sI, if_pos ⟨rfl, rfl⟩]; rfl
      have hE2 := b2_.fr c2 (fun n k _ _ z => by omega)
      have call : Ch (fun m k => (5 ≤ m ∧ m ≤ 8) ∨ (m = 13 ∧ k = 1)) h (sI h1 13 1 0) := (b3.mono (fun m k z => Or.inl (by omega))).trans (c2.mono (fun m k z => Or.inr z))
      have hA2 : A9 (sI h1 13 1 0) X [] := x5.clr call (fun n k z => by omega) g1
      simp only [reduceCtorEq, if_false, hW.1.2.2.2.2.1, rk3, x3.1.1, gd_t, nn_s, b1, bd_s, hW1.1.1, hW1.1.2.2.2.2.2.2.1, hc13, ck_sI, hP_sI, hW1.1.2.2.2.2.1, b2_.1.1, hE2.2.2.1]
      exact ⟨_, rfl, hR.acts call (fun n k z => by omega) hE2 hA2, call.mono (fun m k z => by unfold F9; omega)⟩
theorem o9_again {h : HS} {a : ST} (hR : R9 h a) (x : Int32) : ∃ h', f_X9_again 0 x h = some ((sp_again x a).1, h') ∧ R9 h' (sp_again x a).2 ∧ Ch F9 h h' := by
  unfold sp_again
  by_cases q0 : x.toInt = 0
  · have ex : x = nI 0 := (i32_eq _ _).mpr q0
    rw [if_pos q0, ex]
    exact ag9 hR (by omega)
  rw [if_neg q0]
  by_cases q1 : x.toInt = 1
  · have ex : x = nI 1 := (i32_eq _ _).mpr q1
    rw [if_pos q1, ex]
    exact ag9 hR (by omega)
  rw [if_neg q1]
  refine ⟨h, ?_, hR, Ch.rf⟩
  unfold f_X9_again
  rw [s_X9_isSlot, if_neg (by omega)]
  rfl
theorem ag10 {h : HS} {a : ST} (hR : R10 h a) {s : Nat} (hs : s < 2) : ∃ h', f_X10_again 42 (nI s) h = some ((agV (kS s a) a).1, h') ∧ R10 h' (agV (kS s a) a).2 ∧ Ch F10 h h' := by
  obtain ⟨hC, hP, hV, x4, x5, x6, x7, x8, k0, k1⟩ := id hR
  have hK : Kq h s (kS s a) := by
    by_cases q : s = 0
    · subst q; exact k0
    · have : s = 1 := by omega
      subst this; exact k1
  unfold f_X10_again
  rw [s_X10_in, if_pos (show (0 : Int64).toInt ≤ (nI s).toInt ∧ (nI s).toInt ≤ (1 : Int64).toInt by rw [nI_i (by omega), show (0 : Int64).toInt = 0 from rfl, show (1 : Int64).toInt = 1 from rfl]; omega)]
  have hca : ca h 54 10 (nI s) = true := ca_nI hC.1.2.2.2.2.2.2.2.2.2.2.2.2.1 (by rw [al54]; omega) (by rw [al54]; omega)
  simp only [bd_s, one0, if_false, nn_s, hC.1.1, gd_t, hC.2.2.2.2.2.2.2.2.2.2.2.2.1, hca, nI_clamp (show s < 2 ^ 31 by omega)]
  generalize hk : kS s a = k at *
  cases k with
  | none =>
    rw [show hI h 54 s = 0 from hK]
    simp only [if_true]
    exact ⟨h, rfl, hR, Ch.rf⟩
  | some X =>
    obtain ⟨g1, hB⟩ := hK
    simp only [g1, one0, if_false]
    obtain ⟨c1, c2⟩ := cp_inv (h := h) (n1 := 55) (b1 := 17 * s) (n2 := 44) (b2 := 0) (Or.inl (by decide))
    have hB2 : BV (fw (cpS 55 (17 * s) 44 0) 0 17 h) 44 0 X := hB.cp (Or.inl (by decide))
    have key : l_X10_again_26 FU 42 (nI s) 0 h = (fun u : HS => bd (f_X10_many 42 0 (sI u 42 20 0)) (fun r => some (r.1, r.2))) (fw (cpS 55 (17 * s) 44 0) 0 17 h) := by
      refine it_up (fun n (u : HS) k => l_X10_again_26 n 42 (nI s) (nI k) u) 17 (cpS 55 (17 * s) 44 0) (fun u : HS => bd (f_X10_many 42 0 (sI u 42 20 0)) (fun r => some (r.1, r.2))) (fun k u => Ch (SC 44 0) h u) ?_ ?_ 17 FU h 0 (by omega) (by have := FU_gt; omega) Ch.rf
      · intro fu u k hk hu
        refine ⟨?_, hu.trans (Ch.sI ⟨rfl, by omega, by omega⟩)⟩
        have hC2 := hC.fr hu (fun n k z q => by unfold SC at z; omega)
        have hca1 : ca u 44 9 (nI k) = true := ca_nI hC2.1.2.2.1 (by rw [al44]; omega) (by rw [al44]; omega)
        have hca2 : ca u 55 9 (nI (17 * s + k)) = true := ca_nI hC2.1.2.2.2.2.2.2.2.2.2.2.2.2.2 (by rw [al55]; omega) (by rw [al55]; omega)
        have e : (17 : Int32) * nI s + nI k = nI (17 * s + k) := by rw [show (17 : Int32) * nI s = nI (17 * s) from nI_mul 17 s, nI_add]
        show b_X10_again_26 (l_X10_again_26 fu) 42 (nI s) (nI k) u = _
        unfold b_X10_again_26
        rw [if_neg (show ¬ (17 : Int32) ≤ nI k from nI_ge (a := k) (b := 17) (by omega) (by omega))]
        simp only [nn_s, hC2.1.1, gd_t, hC2.2.2.1, hC2.2.2.2.2.2.2.2.2.2.2.2.2.2, hca1, e, hca2, hl_s, nI_clamp (show k < 2 ^ 31 by omega), nI_clamp (show 17 * s + k < 2 ^ 31 by omega), nI_1, cpS, Nat.zero_add]
      · intro fu u hu
        have hC2 := hC.fr hu (fun n k z q => by unfold SC at z; omega)
        show b_X10_again_26 (l_X10_again_26 fu) 42 (nI s) (nI 17) u = _
        unfold b_X10_again_26
        rw [if_pos (show (17 : Int32) ≤ nI 17 by decide)]
        simp only [nn_s, rk8, hC2.1.1, gd_t, hl_s, ck_sI]
    rw [key]
    generalize fw (cpS 55 (17 * s) 44 0) 0 17 h = u at *
    have c3 : Ch (fun m k => m = 42 ∧ k = 20) u (sI u 42 20 0) := Ch.sI ⟨rfl, rfl⟩
    have m20 : hI (sI u 42 20 0) 42 20 = nI 0 := by rw [hI_sI, if_pos ⟨rfl, rfl⟩]; rfl
    have hB3 : MV (sI u 42 20 0) 0 X := BV.fr hB2 c3 (fun k _ _ z => by omega)
    have call : Ch (fun n k => n = 44 ∨ SQ n k) h (sI u 42 20 0) := (c1.mono (fun n k z => Or.inl z.1)).trans (c3.mono (fun n k z => Or.inr (Or.inr ⟨z.1, Or.inl z.2⟩)))
    obtain ⟨a1, a2, nx, a3, a4, a5⟩ := x6
    have m21 : hI (sI u 42 20 0) 42 21 = nI nx := by rw [hI_sI, if_neg (by omega), c1.I (fun z => by unfold SC at z; omega)]; exact a4
    have hR2 := hR.acts call (fun n k z => z) hB3 (A' := []) ⟨by simp, m20, nx, a3, m21, fun j hj => by simp at hj⟩
    have hm := s_X10_many hR2.1 (lv := 0) (by omega) hB3
    rw [show nI 0 = 0 from rfl] at hm
    simp only [hm, bd_s]
    exact ⟨_, rfl, hR2, call.mono (fun n k z => by unfold SQ at z; unfold F10; omega)⟩
theorem o10_again {h : HS} {a : ST} (hR : R10 h a) (x : Int32) : ∃ h', f_X10_again 42 x h = some ((sp_again x a).1, h') ∧ R10 h' (sp_again x a).2 ∧ Ch F10 h h' := by
  unfold sp_again
  by_cases q0 : x.toInt = 0
  · have ex : x = nI 0 := (i32_eq _ _).mpr q0
    rw [if_pos q0, ex]
    exact ag10 hR (by omega)
  rw [if_neg q0]
  by_cases q1 : x.toInt = 1
  · have ex : x = nI 1 := (i32_eq _ _).mpr q1
    rw [if_pos q1, ex]
    exact ag10 hR (by omega)
  rw [if_neg q1]
  refine ⟨h, ?_, hR, Ch.rf⟩
  unfold f_X10_again
  rw [s_in01, if_neg (by omega)]
  rfl
