/-! OPS: lost -/
def wN (n x k : Nat) : Nat := (10 - x) ^ (bc k) * x ^ (n - bc k)
theorem wN_pr : ∀ n, n < 7 → ∀ x, x < 11 → ∀ k, k < 2 ^ n → fw (fun j (s : Nat) => s * (if bt (nI k) j = true then 10 - x else x)) 0 n 1 = wN n x k ∧ wN n x k ≤ 1000000 := by decide +kernel
theorem wN_all : ∀ n, n < 7 → ∀ x, x < 11 → fw (fun k (s : Nat) => s + wN n x k) 0 (2 ^ n) 0 = 10 ^ n := by decide +kernel
theorem ten_n : ∀ n, n < 7 → 1 ≤ 10 ^ n ∧ 10 ^ n < 2 ^ 20 := by decide
theorem pow_fw (b : Nat) : ∀ e, fw (fun _ (s : Int32) => s * nI b) 0 e 1 = nI (b ^ e)
  | 0 => rfl
  | e + 1 => by rw [fw_last, pow_fw b e, nI_mul, Nat.pow_succ]
theorem s_power {e : Nat} (b : Nat) (he : e < 1000) (h : HS) : f_X9_power (nI b) (nI e) h = some (nI (b ^ e), h) := by
  have key : f_X9_power (nI b) (nI e) h = (fun s : Int32 => some (s, h)) (fw (fun _ (s : Int32) => s * nI b) 0 e 1) := by
    unfold f_X9_power
    refine it_up (fun n (s : Int32) k => l_X9_power_4 n (nI b) (nI e) s (nI k) h) e (fun _ (s : Int32) => s * nI b) (fun s : Int32 => some (s, h)) (fun _ _ => True) ?_ ?_ e FU 1 0 (by omega) (by have := FU_gt; omega) trivial
    · intro n s k hk _
      refine ⟨?_, trivial⟩
      show b_X9_power_4 (l_X9_power_4 n) (nI b) (nI e) s (nI k) h = _
      unfold b_X9_power_4
      rw [if_neg (nI_ge hk (by omega)), nI_1]
    · intro n s _
      show b_X9_power_4 (l_X9_power_4 n) (nI b) (nI e) s (nI e) h = _
      unfold b_X9_power_4
      rw [if_pos (nI_le (by omega) (by omega))]
  rw [key, pow_fw]
def mv (a : ST) (x : Int32) : Int32 := mL a.2.1.2.2.1 (sel a.2.2.1 (un (rwl a.2.1 a.2.2.1) x))
def loS (a : ST) (v : Int32) (x k : Nat) (s : Int32) : Int32 := if mv a (nI k) < v then s else s + nI (wN (rwl a.2.1 a.2.2.1).length x k)
def loR (a : ST) (v : Int32) (x : Nat) : Int32 := fw (loS a v x) 0 (2 ^ (rwl a.2.1 a.2.2.1).length) 0
theorem lo_bd {a : ST} (v : Int32) {x : Nat} (hx : x ≤ 10) (h6 : (rwl a.2.1 a.2.2.1).length ≤ 6) : -2147483648 < (loR a v x).toInt := by
  obtain ⟨p1_, p2_⟩ := pw_le h6
  have key := fw_inv (loS a v x) (fun k (s : Int32) => ∃ w, w ≤ k * 1000000 ∧ s = nI w) (2 ^ (rwl a.2.1 a.2.2.1).length) ?_ (2 ^ (rwl a.2.1 a.2.2.1).length) 0 0 (by omega) ⟨0, by omega, rfl⟩
  · obtain ⟨w, h1, h2⟩ := key
    unfold loR
    rw [h2]
    generalize 2 ^ (rwl a.2.1 a.2.2.1).length = M at *
    rw [nI_toInt (by omega)]
    omega
  · intro k s hk hs
    obtain ⟨w, h1, rfl⟩ := hs
    have h2 := (wN_pr _ (show (rwl a.2.1 a.2.2.1).length < 7 by omega) x (by omega) k hk).2
    unfold loS
    split
    · exact ⟨w, Nat.le_trans h1 (Nat.mul_le_mul_right _ (Nat.le_succ k)), rfl⟩
    · exact ⟨w + wN (rwl a.2.1 a.2.2.1).length x k, by rw [Nat.succ_mul]; exact Nat.add_le_add h1 h2, nI_add _ _⟩
theorem lo9 {h : HS} {a : ST} {p q : Nat} (hW : W9 h p q a.2.1) (hE : ER h 5 a.2.2.1) (hA : AR h 29 (rwl a.2.1 a.2.2.1)) (v : Int32) {x : Nat} (hx : x ≤ 10) (h6 : (rwl a.2.1 a.2.2.1).length ≤ 6) (u : Int32) : l_X9_lost_53 FU 0 v (nI x) u (some 29) 0 0 h = some (frV (loR a v x) (10 ^ (rwl a.2.1 a.2.2.1).length) u, h) := by
  obtain ⟨p1_, p2_⟩ := pw_le h6
  have hsb : ∀ x, SB a.2.2.1.length (un (rwl a.2.1 a.2.2.1) x) := fun x => un_SB (rwl_ok hE.2.1.1 a.2.1).2.2 x
  have hbd := lo_bd (a := a) v hx h6
  have ho := ten_n _ (show (rwl a.2.1 a.2.2.1).length < 7 by omega)
  have e2 := p2n _ (show (rwl a.2.1 a.2.2.1).length < 7 by omega)
  have hm : ∀ y, f_X9_measureOf 0 (some 5) (un (rwl a.2.1 a.2.2.1) y) h = some (mv a y, h) := fun y => s_X9_measureOf hW hE (hsb y)
  have key : l_X9_lost_53 FU 0 v (nI x) u (some 29) 0 0 h = (fun s : Int32 => bd (f_X9_fraction s (nI (10 ^ (rwl a.2.1 a.2.2.1).length)) u h) (fun r => some (r.1, r.2))) (loR a v x) := by
    refine it_up (fun n (s : Int32) k => l_X9_lost_53 n 0 v (nI x) u (some 29) s (nI k) h) (2 ^ (rwl a.2.1 a.2.2.1).length) (loS a v x) (fun s : Int32 => bd (f_X9_fraction s (nI (10 ^ (rwl a.2.1 a.2.2.1).length)) u h) (fun r => some (r.1, r.2))) (fun _ _ => True) ?_ ?_ _ FU 0 0 (by omega) (by have := FU_gt; omega) trivial
    · intro n s k hk _
      refine ⟨?_, trivial⟩
      have hc := bc_le _ (show (rwl a.2.1 a.2.2.1).length < 7 by omega) k hk
      have e10 : (10 : Int32) - nI x = nI (10 - x) := nI_sub (a := 10) hx
      have ebc : pc 32 (uI (nI k)) = bc k := rfl
      show b_X9_lost_53 (l_X9_lost_53 n) 0 v (nI x) u (some 29) s (nI k) h = _
      unfold b_X9_lost_53 b_X9_lost_118
      simp only [nn_s, hA.1.1, gd_t, hA.2.2.1, e2]
      rw [if_neg (nI_ge hk (by omega))]
      simp only [nn_s, hW.1.1, gd_t, rk2, hA.1.1, s_X2_union hA, bd_s, rk7, hW.1.2.2.2.2.1, hm, bc32, ebc, e10, s_power (10 - x) (show bc k < 1000 by omega), hA.2.2.1, nI_sub hc, s_power x (show (rwl a.2.1 a.2.2.1).length - bc k < 1000 by omega), nI_mul, nI_1]
      unfold loS
      by_cases qm : mv a (nI k) < v
      · simp only [qm, if_true]
      · simp only [qm, if_false]
        rfl
    · intro n s _
      show b_X9_lost_53 (l_X9_lost_53 n) 0 v (nI x) u (some 29) s (nI (2 ^ (rwl a.2.1 a.2.2.1).length)) h = _
      unfold b_X9_lost_53
      have e10 := s_power 10 (show (rwl a.2.1 a.2.2.1).length < 1000 by omega) h
      rw [show nI 10 = 10 from rfl] at e10
      simp only [nn_s, hA.1.1, gd_t, hA.2.2.1, e2]
      rw [if_pos (nI_le (Nat.le_refl _) (by omega)), e10]
      simp only [bd_s]
  rw [key]
  simp only [s_frac ho.1 ho.2 hbd, bd_s]
theorem lo10w {h : HS} {a : ST} (hR : R10 h a) (hA : MR h (rwl a.2.1 a.2.2.1)) (v : Int32) {x : Nat} (hx : x ≤ 10) (h6 : (rwl a.2.1 a.2.2.1).length ≤ 6) (u s0 s1 : Int32) {k : Nat} (hk : k < 2 ^ (rwl a.2.1 a.2.2.1).length) (k53 : Nat → Int32 → Int32 → Int32 → Int32 → Int32 → Int32 → HS → Option (Int32 × HS)) : l_X10_lost_70 k53 FU 42 v (nI x) u s0 s1 (nI k) 1 0 h = k53 42 v (nI x) u (loS a v x k s0) (s1 + nI (wN (rwl a.2.1 a.2.2.1).length x k)) (nI (k + 1)) h := by
  obtain ⟨hC, hP, hV, x4, x5, -⟩ := id hR
  have hm : ∀ y, f_X10_measureBy 42 y h = some (mv a y, h) := fun y => s_X10_measureBy hC x5 hP hV hA (rwl_ok x5.1.1 a.2.1).2.2 y
  have e10 : (10 : Int32) - nI x = nI (10 - x) := nI_sub (a := 10) hx
  have key : l_X10_lost_70 k53 FU 42 v (nI x) u s0 s1 (nI k) 1 0 h = (fun s : Int32 => k53 42 v (nI x) u (if mv a (nI k) < v then s0 else s0 + s) (s1 + s) (nI (k + 1)) h) (fw (fun j (s : Int32) => s * (if bt (nI k) j = true then nI (10 - x) else nI x)) 0 (rwl a.2.1 a.2.2.1).length 1) := by
    refine it_up (fun n (s : Int32) j => l_X10_lost_70 k53 n 42 v (nI x) u s0 s1 (nI k) s (nI j) h) (rwl a.2.1 a.2.2.1).length (fun j (s : Int32) => s * (if bt (nI k) j = true then nI (10 - x) else nI x)) (fun s : Int32 => k53 42 v (nI x) u (if mv a (nI k) < v then s0 else s0 + s) (s1 + s) (nI (k + 1)) h) (fun _ _ => True) ?_ ?_ _ FU 1 0 (by omega) (by have := FU_gt; omega) trivial
    · intro n s j hj _
      refine ⟨?_, trivial⟩
      show b_X10_lost_70 k53 (l_X10_lost_70 k53 n) 42 v (nI x) u s0 s1 (nI k) s (nI j) h = _
      unfold b_X10_lost_70 b_X10_lost_99
      simp only [nn_s, hC.1.1, gd_t, hA.2.1]
      rw [ite_le (by omega) (by omega), if_neg (by omega), s_X10_has _ (show j < 32 by omega)]
      simp only [bd_s, e10, nI_1]
      by_cases qb : bt (nI k) j = true
      · simp only [qb, if_true, one0, if_false]
      · simp only [qb, Bool.false_eq_true, if_false, if_true]
    · intro n s _
      show b_X10_lost_70 k53 (l_X10_lost_70 k53 n) 42 v (nI x) u s0 s1 (nI k) s (nI (rwl a.2.1 a.2.2.1).length) h = _
      unfold b_X10_lost_70 b_X10_lost_133
      simp only [nn_s, hC.1.1, gd_t, hA.2.1]
      rw [ite_le (by omega) (by omega), if_pos (by omega)]
      simp only [nn_s, rk8, hC.1.1, gd_t, hm, bd_s, nI_1, Int32.add_zero]
      by_cases qm : mv a (nI k) < v
      · simp only [qm, if_true]
      · simp only [qm, if_false]
  rw [key]
  have ew : fw (fun j (s : Int32) => s * (if bt (nI k) j = true then nI (10 - x) else nI x)) 0 (rwl a.2.1 a.2.2.1).length 1 = nI (wN (rwl a.2.1 a.2.2.1).length x k) := by
    rw [← (wN_pr _ (show (rwl a.2.1 a.2.2.1).length < 7 by omega) x (by omega) k hk).1]
    refine (fw_proj nI (fun j s => ?_) _ 0 1).symm
    by_cases qb : bt (nI k) j = true
    · simp only [qb, if_true, nI_mul]
    · simp only [qb, Bool.false_eq_true, if_false, nI_mul]
  rw [ew]
  rfl
theorem lo10 {h : HS} {a : ST} (hR : R10 h a) (hA : MR h (rwl a.2.1 a.2.2.1)) (v : Int32) {x : Nat} (hx : x ≤ 10) (h6 : (rwl a.2.1 a.2.2.1).length ≤ 6) (u : Int32) : l_X10_lost_53 FU 42 v (nI x) u 0 0 0 h = some (frV (loR a v x) (10 ^ (rwl a.2.1 a.2.2.1).length) u, h) := by
  obtain ⟨hC, hP, hV, x4, x5, -⟩ := id hR
  obtain ⟨p1_, p2_⟩ := pw_le h6
  have hbd := lo_bd (a := a) v hx h6
  have ho := ten_n _ (show (rwl a.2.1 a.2.2.1).length < 7 by omega)
  have e2 := p2n _ (show (rwl a.2.1 a.2.2.1).length < 7 by omega)
  have key : l_X10_lost_53 FU 42 v (nI x) u 0 0 0 h = (fun s : Int32 × Int32 => bd (f_X10_common s.1 s.2 h) (fun r2 => (if u = 0 then gd (decide (¬ r2.1 = 0)) (some (s.2 / r2.1, r2.2)) else gd (decide (¬ r2.1 = 0)) (some (s.1 / r2.1, r2.2)) : Option (Int32 × HS)))) (fw (fun k (s : Int32 × Int32) => (loS a v x k s.1, s.2 + nI (wN (rwl a.2.1 a.2.2.1).length x k))) 0 (2 ^ (rwl a.2.1 a.2.2.1).length) (0, 0)) := by
    refine it_up (fun n (s : Int32 × Int32) k => l_X10_lost_53 n 42 v (nI x) u s.1 s.2 (nI k) h) (2 ^ (rwl a.2.1 a.2.2.1).length) (fun k (s : Int32 × Int32) => (loS a v x k s.1, s.2 + nI (wN (rwl a.2.1 a.2.2.1).length x k))) (fun s : Int32 × Int32 => bd (f_X10_common s.1 s.2 h) (fun r2 => (if u = 0 then gd (decide (¬ r2.1 = 0)) (some (s.2 / r2.1, r2.2)) else gd (decide (¬ r2.1 = 0)) (some (s.1 / r2.1, r2.2)) : Option (Int32 × HS)))) (fun _ _ => True) ?_ ?_ _ FU (0, 0) 0 (by omega) (by have := FU_gt; omega) trivial
    · intro n s k hk _
      refine ⟨?_, trivial⟩
      show b_X10_lost_53 (l_X10_lost_53 n) 42 v (nI x) u s.1 s.2 (nI k) h = _
      unfold b_X10_lost_53
      simp only [nn_s, hC.1.1, gd_t, hA.2.1, e2]
      rw [if_neg (nI_ge hk (by omega)), lo10w hR hA v hx h6 u s.1 s.2 hk]
    · intro n s _
      show b_X10_lost_53 (l_X10_lost_53 n) 42 v (nI x) u s.1 s.2 (nI (2 ^ (rwl a.2.1 a.2.2.1).length)) h = _
      unfold b_X10_lost_53 b_X10_lost_168
      simp only [nn_s, hC.1.1, gd_t, hA.2.1, e2]
      rw [if_pos (nI_le (Nat.le_refl _) (by omega))]
  have f1 : (fw (fun k (s : Int32 × Int32) => (loS a v x k s.1, s.2 + nI (wN (rwl a.2.1 a.2.2.1).length x k))) 0 (2 ^ (rwl a.2.1 a.2.2.1).length) (0, 0)).1 = loR a v x := fw_proj Prod.fst (fun k s => rfl) _ 0 (0, 0)
  have f2 : (fw (fun k (s : Int32 × Int32) => (loS a v x k s.1, s.2 + nI (wN (rwl a.2.1 a.2.2.1).length x k))) 0 (2 ^ (rwl a.2.1 a.2.2.1).length) (0, 0)).2 = nI (10 ^ (rwl a.2.1 a.2.2.1).length) := by
    rw [← wN_all _ (show (rwl a.2.1 a.2.2.1).length < 7 by omega) x (by omega)]
    rw [fw_proj nI (st1 := fun k (s : Int32) => s + nI (wN (rwl a.2.1 a.2.2.1).length x k)) (fun k s => (nI_add _ _).symm) _ 0 0]
    exact fw_proj Prod.snd (fun k s => rfl) _ 0 (0, 0)
  obtain ⟨c1, c2⟩ := s_common ho.1 ho.2 hbd h
  rw [key]
  unfold frV
  simp only [f1, f2, c1, bd_s, c2, gd_t]
  by_cases q : u = 0
  · simp only [q, if_true]
  · simp only [q, if_false]
def sp_lost (v x u : Int32) (a : ST) : Int32 := if 0 ≤ v.toInt ∧ v.toInt ≤ 999 then (if 0 ≤ x.toInt ∧ x.toInt ≤ 10 then (if (rwl a.2.1 a.2.2.1).length ≤ 6 then frV (loR a v x.toInt.toNat) (10 ^ (rwl a.2.1 a.2.2.1).length) u else -4) else -2) else -2
theorem o9_lost {h : HS} {a : ST} (hR : R9 h a) (v x u : Int32) : ∃ h', f_X9_lost 0 v x u h = some (sp_lost v x u a, h') ∧ R9 h' a ∧ Ch F9 h h' := by
  obtain ⟨⟨p, q, hW⟩, x2, x3, x4, x5, x6, x7, x8⟩ := id hR
  unfold f_X9_lost b_X9_lost_21 sp_lost
  simp only [i32_lt v 0, i32_lt 999 v, i32_lt x 0, i32_le x 10, show (0 : Int32).toInt = 0 from rfl, show (999 : Int32).toInt = 999 from rfl, show (10 : Int32).toInt = 10 from rfl]
  by_cases q0 : 0 ≤ v.toInt ∧ v.toInt ≤ 999
  · rw [if_neg (by omega), if_neg (by omega), if_pos q0]
    by_cases q1 : 0 ≤ x.toInt ∧ x.toInt ≤ 10
    · rw [if_neg (by omega), if_pos q1.2, if_pos q1]
      have ex := nat_of q1.1
      have hx : x.toInt.toNat ≤ 10 := by omega
      generalize x.toInt.toNat = y at *
      subst ex
      obtain ⟨h1, r1, r2, r3⟩ := q9_rows hR
      have hl := r2.2.1
      refine a9_sa hR ?_ r3
      have hW1 := hW.sa r3
      have hE1 := x3.sa r3 (Or.inl (by omega))
      simp only [nn_s, hW.1.1, gd_t, rk7, hW.1.2.2.2.2.1, r1, bd_s, r2.1.1, r2.2.2.1]
      rw [show (6 : Int32) = nI 6 from rfl, ite_le (by omega) (by omega)]
      by_cases q2 : (rwl a.2.1 a.2.2.1).length ≤ 6
      · rw [if_pos q2, if_pos q2]
        exact lo9 hW1 hE1 r2 v hx q2 u
      · rw [if_neg q2, if_neg q2]
    · rw [if_neg q1]
      refine ⟨h, ?_, hR, Ch.rf⟩
      by_cases q3 : x.toInt < 0
      · rw [if_pos q3]
      · rw [if_neg q3, if_neg (by omega)]
  · rw [if_neg (show ¬ (0 ≤ v.toInt ∧ v.toInt ≤ 999) from q0)]
    refine ⟨h, ?_, hR, Ch.rf⟩
    by_cases q3 : v.toInt < 0
    · rw [if_pos q3]
    · rw [if_neg q3, if_pos (by omega)]
theorem o10_lost {h : HS} {a : ST} (hR : R10 h a) (v x u : Int32) : ∃ h', f_X10_lost 42 v x u h = some (sp_lost v x u a, h') ∧ R10 h' a ∧ Ch F10 h h' := by
  unfold f_X10_lost b_X10_lost_24 sp_lost
  simp only [s_X10_in, bd_s, show (0 : Int64).toInt = 0 from rfl, show (999 : Int64).toInt = 999 from rfl, show (10 : Int64).toInt = 10 from rfl]
  by_cases q0 : 0 ≤ v.toInt ∧ v.toInt ≤ 999
  · rw [if_pos q0, if_neg (by decide), if_pos q0]
    by_cases q1 : 0 ≤ x.toInt ∧ x.toInt ≤ 10
    · rw [if_pos q1, if_neg (by decide), if_pos q1]
      have ex := nat_of q1.1
      have hx : x.toInt.toNat ≤ 10 := by omega
      generalize x.toInt.toNat = y at *
      subst ex
      obtain ⟨h1, r1, r4, r3⟩ := q10_rows hR
      have r7 := r3.mono (fun m k z => SR_FM z)
      have r6 := hR.q r7
      have hl := r4.1
      refine a10_q hR ?_ r7
      simp only [nn_s, rk8, hR.1.1.1, gd_t, r1, bd_s, r6.1.1.1, r4.2.1]
      rw [show (6 : Int32) = nI 6 from rfl, ite_le (by omega) (by omega)]
      by_cases q2 : (rwl a.2.1 a.2.2.1).length ≤ 6
      · rw [if_pos q2, if_pos q2]
        exact lo10 r6 r4 v hx q2 u
      · rw [if_neg q2, if_neg q2]
    · rw [if_neg q1, if_pos rfl, if_neg q1]
      exact ⟨h, rfl, hR, Ch.rf⟩
  · rw [if_neg q0, if_pos rfl, if_neg q0]
    exact ⟨h, rfl, hR, Ch.rf⟩
