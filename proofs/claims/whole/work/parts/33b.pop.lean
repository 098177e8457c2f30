/-! PURE: 32 bits -/
def uI (x : Int32) : Nat := x.toUInt32.toNat
theorem uI_lt (x : Int32) : uI x < 2 ^ 32 := x.toUInt32.toNat_lt
theorem uI_and (x y : Int32) : uI (x &&& y) = uI x &&& uI y := by simp [uI]
theorem uI_or (x y : Int32) : uI (x ||| y) = uI x ||| uI y := by simp [uI]
theorem uI_sub {x y : Int32} (h : uI y ≤ uI x) : uI (x - y) = uI x - uI y := by
  unfold uI
  rw [Int32.toUInt32_sub]
  exact UInt32.toNat_sub_of_le _ _ (UInt32.le_iff_toNat_le.mpr h)
theorem uI_add {x y : Int32} (h : uI x + uI y < 2 ^ 32) : uI (x + y) = uI x + uI y := by
  unfold uI
  rw [Int32.toUInt32_add, UInt32.toNat_add]
  exact Nat.mod_eq_of_lt h
def wS (x : Int32) (k : Int32) : Int32 := (x.toUInt32 >>> (k.toUInt32 &&& Int32.toUInt32 31)).toInt32
theorem wS_k (x : Int32) : ∀ k : Nat, k < 32 → uI (wS x (nI k)) = uI x / 2 ^ k := by
  intro k hk
  have e : ∀ k : Nat, k < 32 → ((nI k).toUInt32 &&& Int32.toUInt32 31).toNat % 32 = k := by decide +kernel
  unfold wS uI
  rw [UInt32.toUInt32_toInt32, UInt32.toNat_shiftRight, e k hk, Nat.shiftRight_eq_div_pow]
def r1 (x : Int32) : Int32 := x - (wS x 1 &&& 1431655765)
def r2_ (x : Int32) : Int32 := (x &&& 858993459) + (wS x 2 &&& 858993459)
def r3_ (x : Int32) : Int32 := (x + wS x 4) &&& 252645135
def r4_ (x : Int32) : Int32 := x + wS x 8
def r5_ (x : Int32) : Int32 := x + wS x 16
theorem J6_eq (x : Int32) (h : HS) : f_J6_bitCount_0f7a4 x h = some (r5_ (r4_ (r3_ (r2_ (r1 x)))) &&& 63, h) := rfl
theorem M5_4 : M5 4 = 1431655765 := by decide +kernel
theorem M3_4 : M3 4 = 858993459 := by decide +kernel
theorem MF_4 : MF 4 = 252645135 := by decide +kernel
theorem u_r1 (x : Int32) : uI (r1 x) = A5 4 (uI x) := by
  have e : uI (wS x 1 &&& 1431655765) = (uI x / 2) &&& M5 4 := by
    rw [uI_and, M5_4]
    have := wS_k x 1 (by omega)
    rw [show nI 1 = 1 from rfl] at this
    rw [this]
    rfl
  unfold r1 A5
  rw [uI_sub (by rw [e]; exact A5_le _ _), e]
theorem u_r2 (x : Int32) : uI (r2_ x) = B3 4 (uI x) := by
  have e : uI (wS x 2 &&& 858993459) = (uI x / 4) &&& M3 4 := by
    rw [uI_and, M3_4]
    have := wS_k x 2 (by omega)
    rw [show nI 2 = 2 from rfl] at this
    rw [this]
    rfl
  have e2 : uI (x &&& 858993459) = uI x &&& M3 4 := by
    rw [uI_and, M3_4]
    rfl
  have l1 : uI x &&& M3 4 ≤ M3 4 := Nat.and_le_right
  have l2 : uI x / 4 &&& M3 4 ≤ M3 4 := Nat.and_le_right
  rw [M3_4] at l1 l2
  unfold r2_ B3
  rw [uI_add (by rw [e, e2, M3_4]; omega), e, e2]
theorem u_r3 (x : Int32) (hx : uI x < 2 ^ 31) : uI (r3_ x) = CF 4 (uI x) := by
  have := wS_k x 4 (by omega)
  rw [show nI 4 = 4 from rfl] at this
  unfold r3_ CF
  rw [uI_and, uI_add (by rw [this]; omega), this, MF_4]
  rfl
theorem B3_lt4 (x : Nat) : B3 4 x < 2 ^ 31 := by
  have l1 : x &&& M3 4 ≤ M3 4 := Nat.and_le_right
  have l2 : x / 4 &&& M3 4 ≤ M3 4 := Nat.and_le_right
  rw [M3_4] at l1 l2
  unfold B3
  rw [M3_4]
  omega
theorem bt_uI (y : Int32) (i : Nat) : bt y i = (uI y).testBit i := rfl
theorem i_63 (y : Int32) : y &&& 63 = nI (uI y % 64) := by
  refine b_ext (fun i hi => ?_)
  rw [b_and, bt_uI y, bt_nI _ hi, show (64 : Nat) = 2 ^ 6 by rfl, Nat.testBit_mod_two_pow, (by decide +kernel : ∀ i, i < 32 → bt 63 i = decide (i < 6)) i hi, Bool.and_comm]
theorem fold4 {z : Int32} {x0 x1 x2 x3 : Nat} (e3 : uI z = x0 + 256 * (x1 + 256 * (x2 + 256 * x3))) (c0 : x0 ≤ 8) (c1 : x1 ≤ 8) (c2 : x2 ≤ 8) (c3 : x3 ≤ 8) : uI (r5_ (r4_ z)) % 64 = x0 + (x1 + (x2 + x3)) := by
  have f8 := wS_k z 8 (by omega)
  rw [e3, sd1 (by omega)] at f8
  have s4 : uI z + uI (wS z (nI 8)) = (x0 + x1) + 256 * ((x1 + x2) + 256 * ((x2 + x3) + 256 * x3)) := by
    rw [e3, f8]
    omega
  have g4 : uI (r4_ z) = (x0 + x1) + 256 * ((x1 + x2) + 256 * ((x2 + x3) + 256 * x3)) := by
    unfold r4_
    rw [show (8 : Int32) = nI 8 from rfl, uI_add (by rw [s4]; omega), s4]
  have f16 := wS_k (r4_ z) 16 (by omega)
  rw [g4, sd2 (by omega) (by omega)] at f16
  have s5 : uI (r4_ z) + uI (wS (r4_ z) (nI 16)) = (x0 + x1 + (x2 + x3)) + 256 * ((x1 + x2 + x3) + 256 * ((x2 + x3) + 256 * x3)) := by
    rw [g4, f16]
    omega
  have g5 : uI (r5_ (r4_ z)) = (x0 + x1 + (x2 + x3)) + 256 * ((x1 + x2 + x3) + 256 * ((x2 + x3) + 256 * x3)) := by
    unfold r5_
    rw [show (16 : Int32) = nI 16 from rfl, uI_add (by rw [s5]; omega), s5]
  have md : ∀ a y : Nat, a < 64 → (a + 256 * y) % 64 = a := fun a y ha => by omega
  rw [g5, md _ _ (by omega)]
  omega
theorem dig4 (n : Nat) : dig 4 n = pc 8 (n % 256) + 256 * (pc 8 (n / 256 % 256) + 256 * (pc 8 (n / 65536 % 256) + 256 * (pc 8 (n / 16777216 % 256)))) := by
  simp only [dig, Nat.div_div_eq_div_mul, Nat.reduceMul, Nat.mul_zero, Nat.add_zero]
theorem pc32_8 (n : Nat) (hn : n < 2 ^ 32) : pc 32 n = pc 8 (n % 256) + (pc 8 (n / 256 % 256) + (pc 8 (n / 65536 % 256) + (pc 8 (n / 16777216 % 256)))) := by
  rw [pc_8 24, pc_8 16, pc_8 8]
  simp only [Nat.div_div_eq_div_mul, Nat.reduceMul]
  rw [show n / 16777216 % 256 = n / 16777216 by omega]
theorem bc32 (x : Int32) (h : HS) : f_J6_bitCount_0f7a4 x h = some (nI (pc 32 (uI x)), h) := by
  have e3 : uI (r3_ (r2_ (r1 x))) = dig 4 (uI x) := by
    rw [u_r3 _ (by rw [u_r2]; exact B3_lt4 _), u_r2, u_r1]
    exact (CBA 4 (uI x)).2
  have hb : ∀ k, pc 8 (uI x / k % 256) ≤ 8 := fun k => pc8_le _ (Nat.mod_lt _ (by decide))
  rw [dig4] at e3
  rw [J6_eq, i_63, fold4 e3 (pc8_le _ (Nat.mod_lt _ (by decide))) (hb _) (hb _) (hb _), pc32_8 _ (uI_lt x)]
/-- the bits below n, one by one -/
theorem pc_range : ∀ (n x : Nat), pc n x = ((List.range n).filter (fun i => x.testBit i)).length
  | 0, _ => rfl
  | n + 1, x => by
    have e := pc_range n (x / 2)
    show x % 2 + pc n (x / 2) = _
    rw [e, List.range_succ_eq_map, List.filter_cons]
    have h2 : ((List.map Nat.succ (List.range n)).filter (fun i => x.testBit i)).length = ((List.range n).filter (fun i => (x / 2).testBit i)).length := by
      rw [List.filter_map, List.length_map]
      congr 2
      funext i
      simp [Nat.testBit_succ]
    rcases Nat.mod_two_eq_zero_or_one x with h | h
    · have : x.testBit 0 = false := by rw [Nat.testBit_zero]; simp [h]
      simp only [this, h]
      simp [h2]
    · have : x.testBit 0 = true := by rw [Nat.testBit_zero]; simp [h]
      simp only [this, h, if_true, List.length_cons, h2]
      omega
