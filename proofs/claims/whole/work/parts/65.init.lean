/-! THE START: both objects as they are made -/
def g9 : HS := ((f_X9_init 0 (nw h00)).getD ((), h00)).2
def g10 : HS := ((f_X10_init 42 (nw g9)).getD ((), h00)).2
set_option maxRecDepth 100000 in
theorem i9 : f_X9_init 0 (nw h00) = some ((), g9) := by
  have h : (f_X9_init 0 (nw h00)).isSome = true := by decide +kernel
  unfold g9
  cases e : f_X9_init 0 (nw h00) with
  | none => rw [e] at h; cases h
  | some r => rfl
set_option maxRecDepth 100000 in
theorem i10 : f_X10_init 42 (nw g9) = some ((), g10) := by
  have h : (f_X10_init 42 (nw g9)).isSome = true := by decide +kernel
  unfold g10
  cases e : f_X10_init 42 (nw g9) with
  | none => rw [e] at h; cases h
  | some r => rfl
theorem n9 : hN g9 = 42 := by decide +kernel
theorem n10 : hN g10 = 56 := by decide +kernel
def a0_ : ST := ([], (0, 1, 0, 0, 1), [], [], [], 0, none, none)
theorem EV0 : EV [] := ⟨by simp, fun i hi => by simp at hi⟩
theorem iW : W9 g10 3 4 (0, 1, 0, 0, 1) := by
  have h1 : C9 g10 3 4 := by unfold C9; decide +kernel
  have h2 : PR g10 3 (0, 1, 0, 0, 1) := by unfold PR; decide +kernel
  have h3 : PV (0, 1, 0, 0, 1) := by unfold PV; decide
  have h4 : ck g10 4 4 = true := by decide +kernel
  have h5 : AX g10 29 := by unfold AX; decide +kernel
  have h6 : AX g10 33 := by unfold AX; decide +kernel
  exact ⟨h1, h2, h3, Or.inl ⟨rfl, rfl⟩, h4, h5, h6⟩
theorem iR9 : R9 g10 a0_ := by
  have t : ck g10 1 5 = true ∧ hP g10 1 0 = some 2 ∧ ck g10 2 9 = true ∧ hI g10 1 1 = nI 0 := by decide +kernel
  have e5 : EN g10 5 := by unfold EN; decide +kernel
  have s5 : hI g10 5 3 = nI 0 := by decide +kernel
  have e9 : EN g10 9 := by unfold EN; decide +kernel
  have c1 : ck g10 13 1 = true ∧ hP g10 13 0 = some 14 ∧ ck g10 14 11 = true ∧ hI g10 13 1 = nI 0 := by decide +kernel
  have c2 : ∀ j, j < 14 → ck g10 (15 + j) 0 = true := by decide +kernel
  have c3 : ∀ j, j < 14 → hP g10 14 j = some (15 + j) := by decide +kernel
  have d1 : ck g10 37 6 = true ∧ (hP g10 37 0 = some 38 ∧ hP g10 37 1 = some 39 ∧ hP g10 37 2 = some 40) ∧ (ck g10 38 9 = true ∧ ck g10 39 9 = true ∧ ck g10 40 10 = true) ∧ hI g10 37 3 = nI 0 := by decide +kernel
  have j1 : hJ g10 0 10 = 0 := by decide +kernel
  have k1 : ck g10 41 12 = true ∧ hP g10 41 0 = none ∧ hP g10 41 1 = none := by decide +kernel
  refine ⟨⟨3, 4, iW⟩, ⟨t.1, t.2.1, t.2.2.1, by simp [a0_], t.2.2.2, fun i hi => by simp [a0_] at hi, fun i hi => by simp [a0_] at hi⟩, ⟨e5, EV0, s5, fun i hi => by simp [a0_] at hi⟩, e9, ⟨c1.1, c1.2.1, c1.2.2.1, by simp [a0_], c1.2.2.2, c2, fun i => i, fun i hi => ⟨c3 i hi, hi⟩, fun i j _ _ q => q, trivial⟩, ⟨d1.1, d1.2.1, d1.2.2.1, by simp [a0_], d1.2.2.2, fun i hi => by simp [a0_] at hi⟩, j1, ⟨k1.1, none, none, k1.2.1, k1.2.2, trivial, trivial, Or.inl ⟨rfl, rfl, n10⟩⟩⟩
theorem iR10 : R10 g10 a0_ := by
  have hC : C10 g10 := by unfold C10; decide +kernel
  have hM : MP g10 (0, 1, 0, 0, 1) := by unfold MP; decide +kernel
  have hV : PV (0, 1, 0, 0, 1) := by unfold PV; decide
  have i1 : hI g10 42 11 = nI 0 ∧ hI g10 44 (17 * 0) = nI 0 ∧ hI g10 42 20 = nI 0 ∧ hI g10 42 21 = nI 0 ∧ hI g10 42 23 = nI 0 ∧ hI g10 54 0 = 0 ∧ hI g10 54 1 = 0 := by decide +kernel
  have j1 : hJ g10 42 27 = 0 := by decide +kernel
  exact ⟨hC, hM, hV, ⟨by simp [a0_], i1.1, fun i hi => by simp [a0_] at hi, fun i hi => by simp [a0_] at hi⟩, ⟨EV0, i1.2.1, fun i hi => by simp [a0_] at hi⟩, ⟨by simp [a0_], i1.2.2.1, 0, by omega, i1.2.2.2.1, fun j hj => by simp [a0_] at hj⟩, ⟨by simp [a0_], i1.2.2.2.2.1, fun i hi => by simp [a0_] at hi⟩, j1, i1.2.2.2.2.2.1, i1.2.2.2.2.2.2⟩
theorem ck9 {h : HS} {a : ST} (hR : R9 h a) : rk h 0 7 = true := by
  obtain ⟨⟨p, q, hW⟩, -⟩ := hR
  rw [rk7]
  exact hW.1.1
theorem ck10 {h : HS} {a : ST} (hR : R10 h a) : rk h 42 8 = true := by
  rw [rk8]
  exact hR.1.1.1
