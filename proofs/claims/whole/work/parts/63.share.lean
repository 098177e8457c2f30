/-! OPS: share, lost -/
def bc (k : Nat) : Nat := pc 32 (uI (nI k))
theorem p2n : ∀ n, n < 7 → (1 : Int32) <<< (nI n &&& 31) = nI (2 ^ n) := by decide +kernel
def oN (n : Nat) : Nat := [1, 1, 2, 6, 24, 120, 720].getD n 1
theorem ord_oN : ∀ n, n < 7 → ordV n = nI (oN n) ∧ 1 ≤ oN n ∧ oN n < 2 ^ 20 := by decide +kernel
theorem oN_mul : ∀ n, n < 7 → ∀ c, c < n → oN c * oN (n - 1 - c) ≤ 120 := by decide +kernel
theorem bc_lt : ∀ n, n < 7 → ∀ i, i < n → ∀ k, k < 2 ^ n → bt (nI k) i = false → bc k < n := by decide +kernel
theorem bc_le : ∀ n, n < 7 → ∀ k, k < 2 ^ n → bc k ≤ n := by decide +kernel
theorem pw_le {n : Nat} (h : n ≤ 6) : 1 ≤ 2 ^ n ∧ 2 ^ n ≤ 64 := ⟨Nat.one_le_two_pow, Nat.pow_le_pow_right (n := 2) (by omega) h⟩
/-! Euclid -/
theorem mod_half {y z : Nat} (h0 : 0 < z) (h : z < y) : 2 * (y % z) < y := by
  have h1 := Nat.mod_lt y h0
  have h2 := Nat.mod_add_div y z
  have h3 : 1 ≤ y / z := Nat.div_pos (by omega) h0
  have h4 : z * 1 ≤ z * (y / z) := Nat.mul_le_mul_left z h3
  omega
theorem gcd_1 (x y : Nat) : Nat.gcd x y = Nat.gcd (x % y) y := by rw [Nat.gcd_comm, Nat.gcd_rec]
theorem eu9 (h : HS) : ∀ (r x y k n : Nat), y < 2 ^ r → k + 2 * r + 1 ≤ 100 → 2 * r + 1 < n → x < 2 ^ 31 → y < 2 ^ 31 → l_X9_commonDivisor_7 n (nI x) (nI y) (nI k) h = some (nI (Nat.gcd x y), h)
  | 0, x, y, k, n, hy, hk, hn, x31, y31 => by
    obtain ⟨n, rfl⟩ : ∃ m, n = m + 1 := ⟨n - 1, by omega⟩
    have q : y = 0 := by simp at hy; omega
    show b_X9_commonDivisor_7 (l_X9_commonDivisor_7 n) (nI x) (nI y) (nI k) h = _
    unfold b_X9_commonDivisor_7 b_X9_commonDivisor_34
    rw [if_neg (show ¬ (100 : Int32) ≤ nI k from nI_ge (a := k) (b := 100) (by omega) (by omega)), iteZ y31, if_pos q, q, Nat.gcd_zero_right]
  | r + 1, x, y, k, n, hy, hk, hn, x31, y31 => by
    obtain ⟨n, rfl⟩ : ∃ m, n = m + 1 := ⟨n - 1, by omega⟩
    show b_X9_commonDivisor_7 (l_X9_commonDivisor_7 n) (nI x) (nI y) (nI k) h = _
    unfold b_X9_commonDivisor_7 b_X9_commonDivisor_34
    rw [if_neg (show ¬ (100 : Int32) ≤ nI k from nI_ge (a := k) (b := 100) (by omega) (by omega)), iteZ y31]
    by_cases q : y = 0
    · rw [if_pos q, q, Nat.gcd_zero_right]
    · have hz := Nat.mod_lt x (show 0 < y by omega)
      rw [if_neg q, decide_eq_true (nI_ne0 (by omega) y31), gd_t, nI_rem x31 y31 (by omega), nI_1, gcd_1 x y]
      obtain ⟨n, rfl⟩ : ∃ m, n = m + 1 := ⟨n - 1, by omega⟩
      show b_X9_commonDivisor_7 (l_X9_commonDivisor_7 n) (nI y) (nI (x % y)) (nI (k + 1)) h = _
      unfold b_X9_commonDivisor_7 b_X9_commonDivisor_34
      rw [if_neg (show ¬ (100 : Int32) ≤ nI (k + 1) from nI_ge (a := k + 1) (b := 100) (by omega) (by omega)), iteZ (by omega)]
      by_cases q2 : x % y = 0
      · rw [if_pos q2, q2, Nat.gcd_zero_left]
      · have hh := mod_half (show 0 < x % y by omega) hz
        have e2 := Nat.pow_succ (n := 2) (m := r)
        rw [if_neg q2, decide_eq_true (nI_ne0 (by omega) (by omega)), gd_t, nI_rem y31 (by omega) (by omega), nI_1, eu9 h r (x % y) (y % (x % y)) (k + 1 + 1) n (by omega) (by omega) (by omega) (by omega) (by omega), Nat.gcd_comm, ← Nat.gcd_rec]
theorem eu10 (h : HS) : ∀ (r x y n : Nat), y < 2 ^ r → 2 * r + 1 < n → x < 2 ^ 31 → y < 2 ^ 31 → l_X10_common_13 n (nI x) (nI y) h = some (nI (Nat.gcd x y), h)
  | 0, x, y, n, hy, hn, x31, y31 => by
    obtain ⟨n, rfl⟩ : ∃ m, n = m + 1 := ⟨n - 1, by omega⟩
    have q : y = 0 := by simp at hy; omega
    show b_X10_common_13 (l_X10_common_13 n) (nI x) (nI y) h = _
    unfold b_X10_common_13
    rw [iteZ y31, if_pos q, q, Nat.gcd_zero_right]
  | r + 1, x, y, n, hy, hn, x31, y31 => by
    obtain ⟨n, rfl⟩ : ∃ m, n = m + 1 := ⟨n - 1, by omega⟩
    show b_X10_common_13 (l_X10_common_13 n) (nI x) (nI y) h = _
    unfold b_X10_common_13
    rw [iteZ y31]
    by_cases q : y = 0
    · rw [if_pos q, q, Nat.gcd_zero_right]
    · have hz := Nat.mod_lt x (show 0 < y by omega)
      rw [if_neg q, decide_eq_true (nI_ne0 (by omega) y31), gd_t, nI_rem x31 y31 (by omega), gcd_1 x y]
      obtain ⟨n, rfl⟩ : ∃ m, n = m + 1 := ⟨n - 1, by omega⟩
      show b_X10_common_13 (l_X10_common_13 n) (nI y) (nI (x % y)) h = _
      unfold b_X10_common_13
      rw [iteZ (by omega)]
      by_cases q2 : x % y = 0
      · rw [if_pos q2, q2, Nat.gcd_zero_left]
      · have hh := mod_half (show 0 < x % y by omega) hz
        have e2 := Nat.pow_succ (n := 2) (m := r)
        rw [if_neg q2, decide_eq_true (nI_ne0 (by omega) (by omega)), gd_t, nI_rem y31 (by omega) (by omega), eu10 h r (x % y) (y % (x % y)) n (by omega) (by omega) (by omega) (by omega), Nat.gcd_comm, ← Nat.gcd_rec]
theorem abs_n {a b : Int32} (h : -2147483648 < a.toInt) (hb : b.toInt = (-a.toInt).bmod (2 ^ 32)) : (if 0 ≤ a then a else b) = nI a.toInt.natAbs := by
  have hlt := Int32.toInt_lt a
  refine (i32_eq _ _).mpr ?_
  rw [nI_toInt (by omega)]
  by_cases q : 0 ≤ a.toInt
  · rw [if_pos ((i32_le 0 a).mpr (by rw [show (0 : Int32).toInt = 0 from rfl]; exact q))]
    omega
  · rw [if_neg (fun z => q (by have := (i32_le 0 a).mp z; rw [show (0 : Int32).toInt = 0 from rfl] at this; exact this)), hb, Int.bmod_eq_of_le (by omega) (by omega)]
    omega
def frV (a : Int32) (B : Nat) (u : Int32) : Int32 := if u = 0 then nI B / nI (Nat.gcd a.toInt.natAbs B) else a / nI (Nat.gcd a.toInt.natAbs B)
theorem s_frac {a : Int32} {B : Nat} (h1 : 1 ≤ B) (h2 : B < 2 ^ 20) (ha : -2147483648 < a.toInt) (u : Int32) (h : HS) : f_X9_fraction a (nI B) u h = some (frV a B u, h) := by
  have hlt := Int32.toInt_lt a
  unfold f_X9_fraction f_X9_commonDivisor b_X9_fraction_22 frV
  rw [abs_n ha (by rw [Int32.toInt_sub, show (0 : Int32).toInt = 0 from rfl, Int.zero_sub])]
  have e := eu9 h 20 a.toInt.natAbs B 0 FU h2 (by omega) (by have := FU_gt; omega) (by omega) (by omega)
  rw [show nI 0 = 0 from rfl] at e
  rw [e]
  simp only [bd_s]
  have g1 : 1 ≤ Nat.gcd a.toInt.natAbs B := Nat.gcd_pos_of_pos_right _ (by omega)
  have g2 : Nat.gcd a.toInt.natAbs B ≤ B := Nat.le_of_dvd (by omega) (Nat.gcd_dvd_right _ _)
  generalize Nat.gcd a.toInt.natAbs B = g at *
  have em : (if (1 : Int32) < nI g then nI g else 1) = nI g := by
    by_cases q : 1 < g
    · rw [if_pos (show (1 : Int32) < nI g from nI_lt (a := 1) q (by omega))]
    · have : g = 1 := by omega
      subst this
      decide
  have d0 : decide (¬ nI g = 0) = true := decide_eq_true (nI_ne0 (by omega) (by omega))
  simp only [em, d0, gd_t]
  by_cases q : u = 0
  · simp only [q, if_true]
  · simp only [q, if_false]
theorem s_common {a : Int32} {B : Nat} (h1 : 1 ≤ B) (h2 : B < 2 ^ 20) (ha : -2147483648 < a.toInt) (h : HS) : f_X10_common a (nI B) h = some (nI (Nat.gcd a.toInt.natAbs B), h) ∧ decide (¬ nI (Nat.gcd a.toInt.natAbs B) = 0) = true := by
  have hlt := Int32.toInt_lt a
  have e := eu10 h 20 a.toInt.natAbs B FU h2 (by have := FU_gt; omega) (by omega) (by omega)
  have g1 : 1 ≤ Nat.gcd a.toInt.natAbs B := Nat.gcd_pos_of_pos_right _ (by omega)
  have g2 : Nat.gcd a.toInt.natAbs B ≤ B := Nat.le_of_dvd (by omega) (Nat.gcd_dvd_right _ _)
  refine ⟨?_, decide_eq_true (nI_ne0 (by omega) (by omega))⟩
  have ea := abs_n ha (b := -a) (Int32.toInt_neg a)
  rw [← e, ← ea]
  unfold f_X10_common b_X10_common_10
  split <;> rfl
/-! measures are small -/
theorem sum_le : ∀ (T : List Nat), (∀ a, a ∈ T → a ≤ 99) → ∀ v, ∃ w, w ≤ v + 99 * T.length ∧ T.foldl (fun (s : Int32) a => s + nI a) (nI v) = nI w
  | [], _, v => ⟨v, by simp, rfl⟩
  | a :: t, hT, v => by
    obtain ⟨w, h1, h2⟩ := sum_le t (fun b hb => hT b (List.mem_cons_of_mem _ hb)) (v + a)
    have ha := hT a List.mem_cons_self
    refine ⟨w, by simp only [List.length_cons]; omega, ?_⟩
    rw [List.foldl_cons, nI_add]
    exact h2
def sm99 (s : Int32) : Prop := s = -9 ∨ ∃ v, v ≤ 99 ∧ s = nI v
theorem fold_sm (st : Int32 → Nat → Int32) (hs : ∀ s a, sm99 s → a ≤ 99 → sm99 (st s a)) : ∀ (T : List Nat), (∀ a, a ∈ T → a ≤ 99) → ∀ s, sm99 s → sm99 (T.foldl st s)
  | [], _, s, h => h
  | a :: t, hT, s, h => fold_sm st hs t (fun b hb => hT b (List.mem_cons_of_mem _ hb)) _ (hs s a h (hT a List.mem_cons_self))
theorem kn_le : ∀ (T S : List Nat), kn S T ≤ T.length
  | [], _ => Nat.le_refl _
  | a :: t, S => by
    simp only [kn, List.length_cons]
    split
    · exact Nat.le_succ_of_le (kn_le t S)
    · exact Nat.succ_le_succ (kn_le t (a :: S))
theorem sm_nz {s : Int32} (h : sm99 s) : ∃ v, v ≤ 2000 ∧ nz s = nI v := by
  rcases h with h | ⟨v, hv, h⟩
  · exact ⟨0, by omega, by rw [h]; decide⟩
  · refine ⟨v, by omega, ?_⟩
    rw [h]
    unfold nz
    rw [if_neg (nI_ne9 (by omega))]
theorem nI_nz {v : Nat} (h : v ≤ 2000) : nz (nI v) = nI v := by
  unfold nz
  rw [if_neg (nI_ne9 h)]
theorem mL_le (me : Nat) {L : List Nat} (hL : L.length ≤ 16) (hA : ∀ a, a ∈ L → a ≤ 100) : ∃ v, v ≤ 2000 ∧ nz (mL me L) = nI v := by
  have hT := told_am hA
  have hl : (told L).length ≤ L.length := List.length_filter_le _ _
  unfold mL
  split
  · exact ⟨0, by omega, by decide⟩
  split
  · exact ⟨L.length, by omega, nI_nz (by omega)⟩
  split
  · obtain ⟨w, h1, h2⟩ := sum_le (told L) hT 0
    rw [show (0 : Int32) = nI 0 from rfl, h2]
    exact ⟨w, by omega, nI_nz (by omega)⟩
  split
  · refine sm_nz (fold_sm _ (fun s a h ha => ?_) _ hT _ (Or.inl rfl))
    split
    · exact h
    · exact Or.inr ⟨a, ha, rfl⟩
  split
  · refine sm_nz (fold_sm _ (fun s a h ha => ?_) _ hT _ (Or.inl rfl))
    split
    · exact Or.inr ⟨a, ha, rfl⟩
    · exact h
  · have := kn_le (told L) []
    exact ⟨_, by omega, nI_nz (by omega)⟩
def wv (a : ST) (x : Int32) : Int32 := nz (mL a.2.1.2.2.1 (sel a.2.2.1 (un (rwl a.2.1 a.2.2.1) x)))
theorem sel_len (E : EL) (s : Int32) : (sel E s).length ≤ E.length := by
  unfold sel
  rw [List.length_map]
  exact Nat.le_trans (List.length_filter_le _ _) (by rw [List.length_range]; exact Nat.le_refl _)
theorem wv_le {a : ST} (hE : EV a.2.2.1) (x : Int32) : ∃ v, v ≤ 2000 ∧ wv a x = nI v := mL_le _ (Nat.le_trans (sel_len _ _) hE.1) (sel_am hE _)
def shS (a : ST) (i k : Nat) (s : Int32) : Int32 := if bt (nI k) i = true then s else s + (ordV (bc k) * ordV ((rwl a.2.1 a.2.2.1).length - 1 - bc k)) * (wv a (nI k ||| ((1 : Int32) <<< (nI i &&& 31))) - wv a (nI k))
def shR (a : ST) (i : Nat) : Int32 := fw (shS a i) 0 (2 ^ (rwl a.2.1 a.2.2.1).length) 0
theorem term_bd {o u v : Nat} (ho : o ≤ 120) (hu : u ≤ 2000) (hv : v ≤ 2000) : (nI o * (nI u - nI v)).toInt = (o * u : Nat) - (o * v : Nat) ∧ o * u ≤ 240000 ∧ o * v ≤ 240000 := by
  have h1 : o * u ≤ 120 * 2000 := Nat.mul_le_mul ho hu
  have h2 : o * v ≤ 120 * 2000 := Nat.mul_le_mul ho hv
  refine ⟨?_, h1, h2⟩
  have e1 : (nI u - nI v).toInt = (u : Int) - (v : Int) := by
    rw [Int32.toInt_sub, nI_i (by omega), nI_i (by omega)]
    exact Int.bmod_eq_of_le (by omega) (by omega)
  have e2 : (o : Int) * ((u : Int) - (v : Int)) = ((o * u : Nat) : Int) - ((o * v : Nat) : Int) := by
    rw [Int.mul_sub]; rfl
  rw [Int32.toInt_mul, e1, nI_i (by omega), e2]
  exact Int.bmod_eq_of_le (by omega) (by omega)
theorem sh_bd {a : ST} (hE : EV a.2.2.1) {i : Nat} (hi : i < (rwl a.2.1 a.2.2.1).length) (h6 : (rwl a.2.1 a.2.2.1).length ≤ 6) : -2147483648 < (shR a i).toInt := by
  obtain ⟨p1_, p2_⟩ := pw_le h6
  have key := fw_inv (shS a i) (fun k (s : Int32) => -(240000 * k : Int) ≤ s.toInt ∧ s.toInt ≤ 240000 * k) (2 ^ (rwl a.2.1 a.2.2.1).length) ?_ (2 ^ (rwl a.2.1 a.2.2.1).length) 0 0 (by omega) (by rw [show (0 : Int32).toInt = 0 from rfl]; omega)
  · unfold shR
    generalize fw (shS a i) 0 (2 ^ (rwl a.2.1 a.2.2.1).length) 0 = z at *
    obtain ⟨k1, k2⟩ := key
    generalize 2 ^ (rwl a.2.1 a.2.2.1).length = M at *
    omega
  · intro k s hk hs
    unfold shS
    by_cases q : bt (nI k) i = true
    · rw [if_pos q]
      omega
    · rw [if_neg q]
      have hc := bc_lt _ (show (rwl a.2.1 a.2.2.1).length < 7 by omega) i hi k hk (by simpa using q)
      have om := oN_mul _ (show (rwl a.2.1 a.2.2.1).length < 7 by omega) _ hc
      obtain ⟨u, hu, eu⟩ := wv_le hE (nI k ||| ((1 : Int32) <<< (nI i &&& 31)))
      obtain ⟨v, hv, ev⟩ := wv_le hE (nI k)
      rw [eu, ev, (ord_oN (bc k) (by omega)).1, (ord_oN ((rwl a.2.1 a.2.2.1).length - 1 - bc k) (by omega)).1, nI_mul]
      obtain ⟨t1, t2, t3⟩ := term_bd om hu hv
      generalize oN (bc k) * oN ((rwl a.2.1 a.2.2.1).length - 1 - bc k) = o at *
      have e3 : (s + nI o * (nI u - nI v)).toInt = s.toInt + (nI o * (nI u - nI v)).toInt := by
        rw [Int32.toInt_add, t1]
        generalize o * u = ou at *
        generalize o * v = ov at *
        generalize 2 ^ (rwl a.2.1 a.2.2.1).length = M at *
        exact Int.bmod_eq_of_le (by omega) (by omega)
      rw [e3, t1]
      generalize o * u = ou at *
      generalize o * v = ov at *
      omega
theorem s_worth9 {h : HS} {p q : Nat} {pl : PL} {E : EL} (hW : W9 h p q pl) (hE : ER h 5 E) {set : Int32} (hS : SB E.length set) : f_X9_worthOf 0 set h = some (nz (mL pl.2.2.1 (sel E set)), h) := by
  unfold f_X9_worthOf
  simp only [nn_s, hW.1.1, gd_t, rk7, hW.1.2.2.2.2.1, s_X9_measureOf hW hE hS, bd_s, s_nz9]
theorem sh9 {h : HS} {a : ST} {p q : Nat} (hW : W9 h p q a.2.1) (hE : ER h 5 a.2.2.1) (hA : AR h 29 (rwl a.2.1 a.2.2.1)) {i : Nat} (hi : i < (rwl a.2.1 a.2.2.1).length) (h6 : (rwl a.2.1 a.2.2.1).length ≤ 6) (u : Int32) : l_X9_share_37 FU 0 (nI i) u (some 29) 0 0 h = some (frV (shR a i) (oN (rwl a.2.1 a.2.2.1).length) u, h) := by
  obtain ⟨p1_, p2_⟩ := pw_le h6
  have hsb : ∀ x, SB a.2.2.1.length (un (rwl a.2.1 a.2.2.1) x) := fun x => un_SB (rwl_ok hE.2.1.1 a.2.1).2.2 x
  have hbd := sh_bd hE.2.1 hi h6
  have ho := ord_oN _ (show (rwl a.2.1 a.2.2.1).length < 7 by omega)
  have e2 := p2n _ (show (rwl a.2.1 a.2.2.1).length < 7 by omega)
  have key : l_X9_share_37 FU 0 (nI i) u (some 29) 0 0 h = (fun s : Int32 => bd (f_X9_fraction s (nI (oN (rwl a.2.1 a.2.2.1).length)) u h) (fun r => some (r.1, r.2))) (shR a i) := by
    refine it_up (fun n (s : Int32) k => l_X9_share_37 n 0 (nI i) u (some 29) s (nI k) h) (2 ^ (rwl a.2.1 a.2.2.1).length) (shS a i) (fun s : Int32 => bd (f_X9_fraction s (nI (oN (rwl a.2.1 a.2.2.1).length)) u h) (fun r => some (r.1, r.2))) (fun _ _ => True) ?_ ?_ _ FU 0 0 (by omega) (by have := FU_gt; omega) trivial
    · intro n s k hk _
      refine ⟨?_, trivial⟩
      show b_X9_share_37 (l_X9_share_37 n) 0 (nI i) u (some 29) s (nI k) h = _
      unfold b_X9_share_37 b_X9_share_123
      simp only [nn_s, hA.1.1, gd_t, hA.2.2.1, e2]
      rw [if_neg (nI_ge hk (by omega))]
      unfold shS
      by_cases qb : bt (nI k) i = true
      · rw [if_pos qb, if_neg (by rw [tb1_0 _ (by omega), qb]; decide), nI_1]
      · have qf : bt (nI k) i = false := by simpa using qb
        have hc := bc_lt _ (show (rwl a.2.1 a.2.2.1).length < 7 by omega) i hi k hk qf
        rw [if_neg qb, if_pos ((tb1_0 _ (by omega)).mpr qf), bc32]
        have ebc : pc 32 (uI (nI k)) = bc k := rfl
        rw [ebc]
        have i1 : inb (nI (bc k)) 7 = true := inb_nI (by omega) (by omega)
        have i2 : inb (nI ((rwl a.2.1 a.2.2.1).length - 1 - bc k)) 7 = true := inb_nI (by omega) (by omega)
        simp only [bd_s, i1, gd_t, hA.2.2.1, nI_dist hc, i2, rk2, hA.1.1, s_X2_union hA, rk7, hW.1.1, s_worth9 hW hE (hsb _), nI_clamp (show bc k < 2 ^ 31 by omega), nI_clamp (show (rwl a.2.1 a.2.2.1).length - 1 - bc k < 2 ^ 31 by omega), nI_1, nn_s]
        rfl
    · intro n s _
      show b_X9_share_37 (l_X9_share_37 n) 0 (nI i) u (some 29) s (nI (2 ^ (rwl a.2.1 a.2.2.1).length)) h = _
      unfold b_X9_share_37
      have i1 : inb (nI (rwl a.2.1 a.2.2.1).length) 7 = true := inb_nI (by omega) (by omega)
      simp only [nn_s, hA.1.1, gd_t, hA.2.2.1, e2]
      rw [if_pos (nI_le (Nat.le_refl _) (by omega))]
      simp only [i1, gd_t, nI_clamp (show (rwl a.2.1 a.2.2.1).length < 2 ^ 31 by omega), ho.1]
  rw [key]
  simp only [s_frac ho.2.1 ho.2.2 hbd, bd_s]
theorem s_ones {k : Nat} (hk : k < 64) (h : HS) : f_X10_ones (nI k) h = some (nI (bc k), h) := by
  have key : f_X10_ones (nI k) h = (fun s : Int32 => some (s, h)) (fw (fun j (s : Int32) => s + ((nI k >>> (nI j &&& 31)) &&& 1)) 0 16 0) := by
    unfold f_X10_ones
    refine it_up (fun n (s : Int32) j => l_X10_ones_4 n (nI k) s (nI j) h) 16 (fun j (s : Int32) => s + ((nI k >>> (nI j &&& 31)) &&& 1)) (fun s : Int32 => some (s, h)) (fun _ _ => True) ?_ ?_ 16 FU 0 0 (by omega) (by have := FU_gt; omega) trivial
    · intro n s j hj _
      refine ⟨?_, trivial⟩
      show b_X10_ones_4 (l_X10_ones_4 n) (nI k) s (nI j) h = _
      unfold b_X10_ones_4
      rw [if_neg (show ¬ (16 : Int32) ≤ nI j from nI_ge (a := j) (b := 16) (by omega) (by omega)), nI_1]
    · intro n s _
      show b_X10_ones_4 (l_X10_ones_4 n) (nI k) s (nI 16) h = _
      unfold b_X10_ones_4
      rw [if_pos (show (16 : Int32) ≤ nI 16 by decide)]
  rw [key]
  have e : ∀ k, k < 64 → fw (fun j (s : Int32) => s + ((nI k >>> (nI j &&& 31)) &&& 1)) 0 16 0 = nI (bc k) := by decide +kernel
  show some (_, h) = _
  rw [e k hk]
theorem s_fact {c : Nat} (hc : c < 7) (h : HS) : f_X10_factorial (nI c) h = some (ordV c, h) := by
  obtain ⟨N, hN⟩ : ∃ N, N = if c < 2 then 2 else c + 1 := ⟨_, rfl⟩
  have hN2 : 2 ≤ N := by rw [hN]; split <;> omega
  have hN3 : c < N := by rw [hN]; split <;> omega
  have hN4 : ∀ k, 2 ≤ k → k < N → k ≤ c := by intro k h2 h3; rw [hN] at h3; split at h3 <;> omega
  have hN5 : N < 8 := by rw [hN]; split <;> omega
  have key : f_X10_factorial (nI c) h = (fun s : Int32 => some (s, h)) (fw (fun j (s : Int32) => s * nI j) 2 (N - 2) 1) := by
    unfold f_X10_factorial
    refine it_up (fun n (s : Int32) j => l_X10_factorial_4 n (nI c) s (nI j) h) N (fun j (s : Int32) => s * nI j) (fun s : Int32 => some (s, h)) (fun j _ => 2 ≤ j) ?_ ?_ (N - 2) FU 1 2 (by omega) (by have := FU_gt; omega) (Nat.le_refl _)
    · intro n s j hj hi
      refine ⟨?_, by omega⟩
      have := hN4 j hi hj
      show b_X10_factorial_4 (l_X10_factorial_4 n) (nI c) s (nI j) h = _
      unfold b_X10_factorial_4
      rw [if_neg (nI_nlt (by omega) (by omega)), nI_1]
    · intro n s _
      show b_X10_factorial_4 (l_X10_factorial_4 n) (nI c) s (nI N) h = _
      unfold b_X10_factorial_4
      rw [if_pos (nI_lt (by omega) (by omega))]
  rw [key, hN]
  have e : ∀ c, c < 7 → fw (fun j (s : Int32) => s * nI j) 2 ((if c < 2 then 2 else c + 1) - 2) 1 = ordV c := by decide +kernel
  show some (_, h) = _
  rw [e c hc]
theorem sh10 {h : HS} {a : ST} (hR : R10 h a) (hA : MR h (rwl a.2.1 a.2.2.1)) {i : Nat} (hi : i < (rwl a.2.1 a.2.2.1).length) (h6 : (rwl a.2.1 a.2.2.1).length ≤ 6) (u : Int32) : l_X10_share_40 FU 42 (nI i) u 0 0 h = some (frV (shR a i) (oN (rwl a.2.1 a.2.2.1).length) u, h) := by
  obtain ⟨hC, hP, hV, x4, x5, -⟩ := id hR
  obtain ⟨p1_, p2_⟩ := pw_le h6
  have hbd := sh_bd x5.1 hi h6
  have ho := ord_oN _ (show (rwl a.2.1 a.2.2.1).length < 7 by omega)
  have e2 := p2n _ (show (rwl a.2.1 a.2.2.1).length < 7 by omega)
  have hw : ∀ x, f_X10_worthBy 42 x h = some (wv a x, h) := fun x => s_X10_worthBy hC x5 hP hV hA (rwl_ok x5.1.1 a.2.1).2.2 x
  have key : l_X10_share_40 FU 42 (nI i) u 0 0 h = (fun s : Int32 => bd (f_X10_common s (nI (oN (rwl a.2.1 a.2.2.1).length)) h) (fun r4 => (if u = 0 then nn (some 42) (fun n5 => gd (ck r4.2 n5 8) (bd (f_X10_factorial (hI r4.2 n5 13) r4.2) (fun r6 => gd (decide (¬ r4.1 = 0)) (some (r6.1 / r4.1, r6.2))))) else gd (decide (¬ r4.1 = 0)) (some (s / r4.1, r4.2)) : Option (Int32 × HS)))) (shR a i) := by
    refine it_up (fun n (s : Int32) k => l_X10_share_40 n 42 (nI i) u s (nI k) h) (2 ^ (rwl a.2.1 a.2.2.1).length) (shS a i) (fun s : Int32 => bd (f_X10_common s (nI (oN (rwl a.2.1 a.2.2.1).length)) h) (fun r4 => (if u = 0 then nn (some 42) (fun n5 => gd (ck r4.2 n5 8) (bd (f_X10_factorial (hI r4.2 n5 13) r4.2) (fun r6 => gd (decide (¬ r4.1 = 0)) (some (r6.1 / r4.1, r6.2))))) else gd (decide (¬ r4.1 = 0)) (some (s / r4.1, r4.2)) : Option (Int32 × HS)))) (fun _ _ => True) ?_ ?_ _ FU 0 0 (by omega) (by have := FU_gt; omega) trivial
    · intro n s k hk _
      refine ⟨?_, trivial⟩
      show b_X10_share_40 (l_X10_share_40 n) 42 (nI i) u s (nI k) h = _
      unfold b_X10_share_40 b_X10_share_109
      simp only [nn_s, hC.1.1, gd_t, hA.2.1, e2]
      rw [if_neg (nI_ge hk (by omega)), s_X10_has _ (show i < 32 by omega)]
      simp only [bd_s]
      unfold shS
      by_cases qb : bt (nI k) i = true
      · simp only [qb, if_true, one0, if_false, nI_1]
      · have qf : bt (nI k) i = false := by simpa using qb
        have hc := bc_lt _ (show (rwl a.2.1 a.2.2.1).length < 7 by omega) i hi k hk qf
        simp only [qb, Bool.false_eq_true, if_false, if_true, s_ones (show k < 64 by omega), bd_s, s_fact (show bc k < 7 by omega), hC.1.1, gd_t, hA.2.1, nI_dist hc, s_fact (show (rwl a.2.1 a.2.2.1).length - 1 - bc k < 7 by omega), rk8, hw, nI_1]
    · intro n s _
      show b_X10_share_40 (l_X10_share_40 n) 42 (nI i) u s (nI (2 ^ (rwl a.2.1 a.2.2.1).length)) h = _
      unfold b_X10_share_40 b_X10_share_149
      simp only [nn_s, hC.1.1, gd_t, hA.2.1, e2]
      rw [if_pos (nI_le (Nat.le_refl _) (by omega)), s_fact (by omega), ho.1]
      simp only [bd_s]
  obtain ⟨c1, c2⟩ := s_common ho.2.1 ho.2.2 hbd h
  rw [key]
  unfold frV
  simp only [c1, bd_s, nn_s, hC.1.1, gd_t, hA.2.1, s_fact (show (rwl a.2.1 a.2.2.1).length < 7 by omega), c2, ho.1]
  by_cases q : u = 0
  · simp only [q, if_true]
  · simp only [q, if_false]
def sp_share (i u : Int32) (a : ST) : Int32 := if 0 ≤ i.toInt ∧ i.toInt < (rwl a.2.1 a.2.2.1).length then (if (rwl a.2.1 a.2.2.1).length ≤ 6 then frV (shR a i.toInt.toNat) (oN (rwl a.2.1 a.2.2.1).length) u else -4) else -1
theorem o9_share {h : HS} {a : ST} (hR : R9 h a) (i u : Int32) : ∃ h', f_X9_share 0 i u h = some (sp_share i u a, h') ∧ R9 h' a ∧ Ch F9 h h' := by
  obtain ⟨⟨p, q, hW⟩, x2, x3, x4, x5, x6, x7, x8⟩ := id hR
  obtain ⟨h1, r1, r2, r3⟩ := q9_rows hR
  have hl := r2.2.1
  refine a9_sa hR ?_ r3
  have hW1 := hW.sa r3
  have hE1 := x3.sa r3 (Or.inl (by omega))
  unfold f_X9_share sp_share
  simp only [nn_s, hW.1.1, gd_t, rk7, hW.1.2.2.2.2.1, r1, bd_s, rk2, r2.1.1, s_X2_has r2, r2.2.2.1]
  rw [show (6 : Int32) = nI 6 from rfl, ite_le (by omega) (by omega)]
  by_cases q0 : 0 ≤ i.toInt ∧ i.toInt < (rwl a.2.1 a.2.2.1).length
  · have ei := nat_of q0.1
    have hi : i.toInt.toNat < (rwl a.2.1 a.2.2.1).length := by omega
    simp only [q0, and_self, if_true, one0, if_false]
    generalize i.toInt.toNat = j at *
    subst ei
    by_cases q1 : (rwl a.2.1 a.2.2.1).length ≤ 6
    · rw [if_pos q1, if_pos q1]
      exact sh9 hW1 hE1 r2 hi q1 u
    · rw [if_neg q1, if_neg q1]
  · simp only [q0, if_false, if_true]
theorem o10_share {h : HS} {a : ST} (hR : R10 h a) (i u : Int32) : ∃ h', f_X10_share 42 i u h = some (sp_share i u a, h') ∧ R10 h' a ∧ Ch F10 h h' := by
  obtain ⟨h1, r1, r4, r3⟩ := q10_rows hR
  have r7 := r3.mono (fun m k z => SR_FM z)
  have r6 := hR.q r7
  have hl := r4.1
  refine a10_q hR ?_ r7
  unfold f_X10_share sp_share
  simp only [nn_s, rk8, hR.1.1.1, gd_t, r1, bd_s, r6.1.1.1, r4.2.1, s_inR (show (rwl a.2.1 a.2.2.1).length ≤ 1000 by omega)]
  rw [show (6 : Int32) = nI 6 from rfl, ite_le (by omega) (by omega)]
  by_cases q0 : 0 ≤ i.toInt ∧ i.toInt < (rwl a.2.1 a.2.2.1).length
  · have ei := nat_of q0.1
    have hi : i.toInt.toNat < (rwl a.2.1 a.2.2.1).length := by omega
    simp only [q0, and_self, if_true, one0, if_false]
    generalize i.toInt.toNat = j at *
    subst ei
    by_cases q1 : (rwl a.2.1 a.2.2.1).length ≤ 6
    · rw [if_pos q1, if_pos q1]
      exact sh10 r6 r4 hi q1 u
    · rw [if_neg q1, if_neg q1]
  · simp only [q0, if_false, if_true]
