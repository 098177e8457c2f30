/-! PURE: how many bits: the JDK's bitCount -/
def pc : Nat → Nat → Nat
  | 0, _ => 0
  | n + 1, x => x % 2 + pc n (x / 2)
theorem pc_or : ∀ (n x v : Nat), v < n → pc n (x ||| 2 ^ v) = pc n x + if x.testBit v = true then 0 else 1
  | 0, x, v, h => by omega
  | n + 1, x, 0, h => by
    show (x ||| 1) % 2 + pc n ((x ||| 1) / 2) = x % 2 + pc n (x / 2) + _
    rw [Nat.or_div_two, show (1 : Nat) / 2 = 0 by rfl, Nat.or_zero]
    have h1 : (x ||| 1) % 2 = 1 := Nat.or_mod_two_eq_one.mpr (Or.inr rfl)
    rw [h1, Nat.testBit_zero]
    rcases Nat.mod_two_eq_zero_or_one x with h2 | h2 <;> simp [h2] <;> omega
  | n + 1, x, v + 1, h => by
    show (x ||| 2 ^ (v + 1)) % 2 + pc n ((x ||| 2 ^ (v + 1)) / 2) = x % 2 + pc n (x / 2) + _
    have h1 : (x ||| 2 ^ (v + 1)) % 2 = x % 2 := by
      have e : (x ||| 2 ^ (v + 1)) % 2 ^ 1 = x % 2 ^ 1 ||| 2 ^ (v + 1) % 2 ^ 1 := Nat.or_mod_two_pow
      have e2 : 2 ^ (v + 1) % 2 ^ 1 = 0 := by rw [Nat.pow_succ]; simp
      rw [e2, Nat.or_zero] at e
      simpa using e
    rw [Nat.or_div_two, h1, show 2 ^ (v + 1) / 2 = 2 ^ v by rw [Nat.pow_succ]; omega, pc_or n (x / 2) v (by omega), Nat.testBit_div_two]
    omega
theorem pc_zero : ∀ n, pc n 0 = 0
  | 0 => rfl
  | n + 1 => by show 0 % 2 + pc n (0 / 2) = 0; simp [pc_zero n]
theorem pc_8 (n x : Nat) : pc (n + 8) x = pc 8 (x % 256) + pc n (x / 256) := by
  have e : x / 2 / 2 / 2 / 2 / 2 / 2 / 2 / 2 = x / 256 := by omega
  simp only [pc, e, Nat.add_zero]
  omega
theorem ld_split {b d : Nat} (y m : Nat) (hb : b < 256) (hd : d < 256) : (b + 256 * y) &&& (d + 256 * m) = (b &&& d) + 256 * (y &&& m) := by
  have hbd : b &&& d < 2 ^ 8 := Nat.lt_of_le_of_lt Nat.and_le_left hb
  refine Nat.eq_of_testBit_eq (fun i => ?_)
  rw [Nat.testBit_and, Nat.add_comm b, Nat.add_comm d, Nat.add_comm (b &&& d)]
  have e1 := Nat.testBit_two_pow_mul_add y (b := b) (i := 8) hb i
  have e2 := Nat.testBit_two_pow_mul_add m (b := d) (i := 8) hd i
  have e3 := Nat.testBit_two_pow_mul_add (y &&& m) (b := b &&& d) (i := 8) hbd i
  rw [show (2 : Nat) ^ 8 = 256 by rfl] at e1 e2 e3
  rw [e1, e2, e3]
  split
  · rw [Nat.testBit_and]
  · rw [Nat.testBit_and]
def M5 : Nat → Nat
  | 0 => 0
  | n + 1 => 85 + 256 * M5 n
def M3 : Nat → Nat
  | 0 => 0
  | n + 1 => 51 + 256 * M3 n
def MF : Nat → Nat
  | 0 => 0
  | n + 1 => 15 + 256 * MF n
def A5 (n x : Nat) : Nat := x - ((x / 2) &&& M5 n)
def B3 (n x : Nat) : Nat := (x &&& M3 n) + ((x / 4) &&& M3 n)
def CF (n x : Nat) : Nat := (x + x / 16) &&& MF n
def dig : Nat → Nat → Nat
  | 0, _ => 0
  | n + 1, x => pc 8 (x % 256) + 256 * dig n (x / 256)
theorem a8_lt : ∀ b, b < 256 → (b / 2 &&& 85) ≤ b ∧ b - (b / 2 &&& 85) < 256 := by decide +kernel
theorem a8_c : ∀ b, b < 256 → ∀ c, c < 2 → (b / 2 + 128 * c) &&& 85 = b / 2 &&& 85 := by decide +kernel
theorem b8_c : ∀ b, b < 256 → ∀ c, c < 4 → (b / 4 + 64 * c) &&& 51 = b / 4 &&& 51 := by decide +kernel
theorem b8_lt : ∀ b, b < 256 → (b &&& 51) + (b / 4 &&& 51) < 256 := by decide +kernel
def s28 (b : Nat) : Nat := ((b - (b / 2 &&& 85)) &&& 51) + ((b - (b / 2 &&& 85)) / 4 &&& 51)
theorem s28_lt : ∀ b, b < 256 → s28 b % 16 ≤ 4 ∧ s28 b / 16 ≤ 4 ∧ (s28 b + s28 b / 16) &&& 15 = pc 8 b := by decide +kernel
theorem c8_c : ∀ p, p < 69 → ∀ c, c < 5 → (p + p / 16 + 16 * c) &&& 15 = (p + p / 16) &&& 15 := by decide +kernel
theorem A5_s (n : Nat) {b : Nat} (y : Nat) (hb : b < 256) : A5 (n + 1) (b + 256 * y) = (b - (b / 2 &&& 85)) + 256 * A5 n y := by
  have e : (b + 256 * y) / 2 = (b / 2 + 128 * (y % 2)) + 256 * (y / 2) := by omega
  have h1 := a8_c b hb (y % 2) (by omega)
  have h2 := (a8_lt b hb).1
  have h3 : (y / 2 &&& M5 n) ≤ y := Nat.le_trans Nat.and_le_left (by omega)
  show b + 256 * y - (((b + 256 * y) / 2) &&& (85 + 256 * M5 n)) = _ + 256 * (y - ((y / 2) &&& M5 n))
  rw [e, ld_split _ _ (by omega) (by omega), h1]
  omega
theorem B3_s (n : Nat) {b : Nat} (y : Nat) (hb : b < 256) : B3 (n + 1) (b + 256 * y) = ((b &&& 51) + (b / 4 &&& 51)) + 256 * B3 n y := by
  have e : (b + 256 * y) / 4 = (b / 4 + 64 * (y % 4)) + 256 * (y / 4) := by omega
  have h1 := b8_c b hb (y % 4) (by omega)
  show ((b + 256 * y) &&& (51 + 256 * M3 n)) + (((b + 256 * y) / 4) &&& (51 + 256 * M3 n)) = _ + 256 * ((y &&& M3 n) + ((y / 4) &&& M3 n))
  rw [e, ld_split _ _ hb (by omega), ld_split _ _ (by omega) (by omega), h1]
  omega
theorem CF_s (n : Nat) {b : Nat} (y : Nat) (hb : b < 69) (hy : y % 16 ≤ 4) : CF (n + 1) (b + 256 * y) = ((b + b / 16) &&& 15) + 256 * CF n y := by
  have e : (b + 256 * y) + (b + 256 * y) / 16 = (b + b / 16 + 16 * (y % 16)) + 256 * (y + y / 16) := by omega
  have h1 := c8_c b hb (y % 16) (by omega)
  show ((b + 256 * y + (b + 256 * y) / 16) &&& (15 + 256 * MF n)) = _ + 256 * ((y + y / 16) &&& MF n)
  rw [e, ld_split _ _ (by omega) (by omega), h1]
theorem CBA : ∀ (n x : Nat), B3 n (A5 n x) % 16 ≤ 4 ∧ CF n (B3 n (A5 n x)) = dig n x
  | 0, x => by
    have e : ∀ z, B3 0 z = 0 := fun z => by simp [B3, M3]
    refine ⟨by rw [e]; omega, ?_⟩
    simp [CF, MF, dig]
  | n + 1, x => by
    obtain ⟨h1, h2⟩ := CBA n (x / 256)
    have hx : x = x % 256 + 256 * (x / 256) := by omega
    have hb : x % 256 < 256 := by omega
    have e1 := A5_s n (x / 256) hb
    rw [← hx] at e1
    have e2 := B3_s n (A5 n (x / 256)) (a8_lt _ hb).2
    have e3 : ((x % 256 - (x % 256 / 2 &&& 85)) &&& 51) + ((x % 256 - (x % 256 / 2 &&& 85)) / 4 &&& 51) = s28 (x % 256) := rfl
    obtain ⟨q1, q2, q3⟩ := s28_lt _ hb
    rw [e1, e2, e3]
    refine ⟨by omega, ?_⟩
    rw [CF_s n _ (by omega) h1, q3, h2]
    rfl
theorem A5_le (n x : Nat) : (x / 2 &&& M5 n) ≤ x := Nat.le_trans Nat.and_le_left (by omega)
theorem pc8_le : ∀ b, b < 256 → pc 8 b ≤ 8 := by decide +kernel
/-! 64 bits -/
def uJ (x : Int64) : Nat := x.toUInt64.toNat
theorem uJ_lt (x : Int64) : uJ x < 2 ^ 64 := x.toUInt64.toNat_lt
theorem uJ_and (x y : Int64) : uJ (x &&& y) = uJ x &&& uJ y := by simp [uJ]
theorem uJ_or (x y : Int64) : uJ (x ||| y) = uJ x ||| uJ y := by simp [uJ]
theorem uJ_sub {x y : Int64} (h : uJ y ≤ uJ x) : uJ (x - y) = uJ x - uJ y := by
  unfold uJ
  rw [Int64.toUInt64_sub]
  exact UInt64.toNat_sub_of_le _ _ (UInt64.le_iff_toNat_le.mpr h)
theorem uJ_add {x y : Int64} (h : uJ x + uJ y < 2 ^ 64) : uJ (x + y) = uJ x + uJ y := by
  unfold uJ
  rw [Int64.toUInt64_add, UInt64.toNat_add]
  exact Nat.mod_eq_of_lt h
def uS (x : Int64) (k : Int32) : Int64 := (x.toUInt64 >>> (k.toInt64.toUInt64 &&& Int64.toUInt64 63)).toInt64
theorem uS_k (x : Int64) : ∀ k : Nat, k < 64 → uJ (uS x (nI k)) = uJ x / 2 ^ k := by
  intro k hk
  have e : ∀ k : Nat, k < 64 → ((nI k).toInt64.toUInt64 &&& Int64.toUInt64 63).toNat % 64 = k := by decide +kernel
  unfold uS uJ
  rw [UInt64.toUInt64_toInt64, UInt64.toNat_shiftRight, e k hk, Nat.shiftRight_eq_div_pow]
def p1 (x : Int64) : Int64 := x - (uS x 1 &&& 6148914691236517205)
def p2 (x : Int64) : Int64 := (x &&& 3689348814741910323) + (uS x 2 &&& 3689348814741910323)
def p3 (x : Int64) : Int64 := (x + uS x 4) &&& 1085102592571150095
def p4 (x : Int64) : Int64 := x + uS x 8
def p5 (x : Int64) : Int64 := x + uS x 16
def p6 (x : Int64) : Int64 := x + uS x 32
theorem J13_eq (x : Int64) (h : HS) : f_J13_bitCount_95d88 x h = some ((p6 (p5 (p4 (p3 (p2 (p1 x)))))).toInt32 &&& 127, h) := rfl
theorem M5_8 : M5 8 = 6148914691236517205 := by decide +kernel
theorem M3_8 : M3 8 = 3689348814741910323 := by decide +kernel
theorem MF_8 : MF 8 = 1085102592571150095 := by decide +kernel
theorem u_p1 (x : Int64) : uJ (p1 x) = A5 8 (uJ x) := by
  have e : uJ (uS x 1 &&& 6148914691236517205) = (uJ x / 2) &&& M5 8 := by
    rw [uJ_and, M5_8]
    have := uS_k x 1 (by omega)
    rw [show nI 1 = 1 from rfl] at this
    rw [this]
    rfl
  unfold p1 A5
  rw [uJ_sub (by rw [e]; exact A5_le _ _), e]
theorem u_p2 (x : Int64) : uJ (p2 x) = B3 8 (uJ x) := by
  have e : uJ (uS x 2 &&& 3689348814741910323) = (uJ x / 4) &&& M3 8 := by
    rw [uJ_and, M3_8]
    have := uS_k x 2 (by omega)
    rw [show nI 2 = 2 from rfl] at this
    rw [this]
    rfl
  have e2 : uJ (x &&& 3689348814741910323) = uJ x &&& M3 8 := by
    rw [uJ_and, M3_8]
    rfl
  have l1 : uJ x &&& M3 8 ≤ M3 8 := Nat.and_le_right
  have l2 : uJ x / 4 &&& M3 8 ≤ M3 8 := Nat.and_le_right
  rw [M3_8] at l1 l2
  unfold p2 B3
  rw [uJ_add (by rw [e, e2, M3_8]; omega), e, e2]
theorem u_p3 (x : Int64) (hx : uJ x < 2 ^ 63) : uJ (p3 x) = CF 8 (uJ x) := by
  have := uS_k x 4 (by omega)
  rw [show nI 4 = 4 from rfl] at this
  unfold p3 CF
  rw [uJ_and, uJ_add (by rw [this]; omega), this, MF_8]
  rfl
theorem B3_lt (x : Nat) : B3 8 x < 2 ^ 63 := by
  have l1 : x &&& M3 8 ≤ M3 8 := Nat.and_le_right
  have l2 : x / 4 &&& M3 8 ≤ M3 8 := Nat.and_le_right
  rw [M3_8] at l1 l2
  unfold B3
  rw [M3_8]
  omega
theorem bt_nI (n : Nat) {i : Nat} (hi : i < 32) : bt (nI n) i = n.testBit i := by
  show (BitVec.ofNat 32 n).getLsbD i = _
  rw [BitVec.getLsbD_ofNat]
  simp [hi]
theorem bt_l2i (y : Int64) {i : Nat} (hi : i < 32) : bt y.toInt32 i = (uJ y).testBit i := by
  unfold bt
  rw [Int64.toBitVec_toInt32, BitVec.getLsbD_signExtend]
  simp only [hi, decide_true, Bool.true_and, show i < 64 by omega, if_true]
  rfl
theorem l2i_127 (y : Int64) : y.toInt32 &&& 127 = nI (uJ y % 128) := by
  refine b_ext (fun i hi => ?_)
  rw [b_and, bt_l2i y hi, bt_nI _ hi, show (128 : Nat) = 2 ^ 7 by rfl, Nat.testBit_mod_two_pow, (by decide +kernel : ∀ i, i < 32 → bt 127 i = decide (i < 7)) i hi, Bool.and_comm]
theorem sd1 {a y : Nat} (ha : a < 256) : (a + 256 * y) / 2 ^ 8 = y := by omega
theorem sd2 {a b y : Nat} (ha : a < 256) (hb : b < 256) : (a + 256 * (b + 256 * y)) / 2 ^ 16 = y := by omega
theorem sd4 {a b c d y : Nat} (ha : a < 256) (hb : b < 256) (hc : c < 256) (hd : d < 256) : (a + 256 * (b + 256 * (c + 256 * (d + 256 * y)))) / 2 ^ 32 = y := by omega
theorem dg_lt {a y k : Nat} (ha : a < 128) (hy : y < 128 * k) : a + 256 * y < 128 * (256 * k) := by omega
theorem pa1 (a b y z : Nat) : (a + 256 * y) + (b + 256 * z) = (a + b) + 256 * (y + z) := by omega
/-- the last three steps on eight figures -/
theorem fold8 {z : Int64} {x0 x1 x2 x3 x4 x5 x6 x7 : Nat} (e3 : uJ z = x0 + 256 * (x1 + 256 * (x2 + 256 * (x3 + 256 * (x4 + 256 * (x5 + 256 * (x6 + 256 * x7))))))) (c0 : x0 ≤ 8) (c1 : x1 ≤ 8) (c2 : x2 ≤ 8) (c3 : x3 ≤ 8) (c4 : x4 ≤ 8) (c5 : x5 ≤ 8) (c6 : x6 ≤ 8) (c7 : x7 ≤ 8) : uJ (p6 (p5 (p4 z))) % 128 = x0 + (x1 + (x2 + (x3 + (x4 + (x5 + (x6 + x7)))))) := by
  have f8 := uS_k z 8 (by omega)
  rw [e3, sd1 (by omega)] at f8
  have l8 : ∀ {a b c d e f g h : Nat}, a < 128 → b < 128 → c < 128 → d < 128 → e < 128 → f < 128 → g < 128 → h < 127 → a + 256 * (b + 256 * (c + 256 * (d + 256 * (e + 256 * (f + 256 * (g + 256 * h)))))) < 2 ^ 64 := by
    intro a b c d e f g h h0 h1 h2 h3 h4 h5 h6 h7
    have k7 : g + 256 * h < 128 * (256 * 1) := dg_lt h6 (by omega)
    have k6 := dg_lt h5 k7
    have k5 := dg_lt h4 k6
    have k4 := dg_lt h3 k5
    have k3 := dg_lt h2 k4
    have k2 := dg_lt h1 k3
    have k1 := dg_lt h0 k2
    exact Nat.lt_trans k1 (by decide)
  have s4 : uJ z + uJ (uS z (nI 8)) = (x0 + x1) + 256 * ((x1 + x2) + 256 * ((x2 + x3) + 256 * ((x3 + x4) + 256 * ((x4 + x5) + 256 * ((x5 + x6) + 256 * ((x6 + x7) + 256 * x7)))))) := by
    rw [e3, f8]
    simp only [pa1]
    omega
  have g4 : uJ (p4 z) = (x0 + x1) + 256 * ((x1 + x2) + 256 * ((x2 + x3) + 256 * ((x3 + x4) + 256 * ((x4 + x5) + 256 * ((x5 + x6) + 256 * ((x6 + x7) + 256 * x7)))))) := by
    unfold p4
    rw [show (8 : Int32) = nI 8 from rfl, uJ_add (by rw [s4]; exact l8 (by omega) (by omega) (by omega) (by omega) (by omega) (by omega) (by omega) (by omega)), s4]
  have f16 := uS_k (p4 z) 16 (by omega)
  rw [g4, sd2 (by omega) (by omega)] at f16
  have s5 : uJ (p4 z) + uJ (uS (p4 z) (nI 16)) = (x0 + x1 + (x2 + x3)) + 256 * ((x1 + x2 + (x3 + x4)) + 256 * ((x2 + x3 + (x4 + x5)) + 256 * ((x3 + x4 + (x5 + x6)) + 256 * ((x4 + x5 + (x6 + x7)) + 256 * ((x5 + x6 + x7) + 256 * ((x6 + x7) + 256 * x7)))))) := by
    rw [g4, f16]
    simp only [pa1]
    omega
  have g5 : uJ (p5 (p4 z)) = (x0 + x1 + (x2 + x3)) + 256 * ((x1 + x2 + (x3 + x4)) + 256 * ((x2 + x3 + (x4 + x5)) + 256 * ((x3 + x4 + (x5 + x6)) + 256 * ((x4 + x5 + (x6 + x7)) + 256 * ((x5 + x6 + x7) + 256 * ((x6 + x7) + 256 * x7)))))) := by
    unfold p5
    rw [show (16 : Int32) = nI 16 from rfl, uJ_add (by rw [s5]; exact l8 (by omega) (by omega) (by omega) (by omega) (by omega) (by omega) (by omega) (by omega)), s5]
  have f32 := uS_k (p5 (p4 z)) 32 (by omega)
  rw [g5, sd4 (by omega) (by omega) (by omega) (by omega)] at f32
  have s6 : uJ (p5 (p4 z)) + uJ (uS (p5 (p4 z)) (nI 32)) = (x0 + x1 + (x2 + x3) + (x4 + x5 + (x6 + x7))) + 256 * ((x1 + x2 + (x3 + x4) + (x5 + x6 + x7)) + 256 * ((x2 + x3 + (x4 + x5) + (x6 + x7)) + 256 * ((x3 + x4 + (x5 + x6) + x7) + 256 * ((x4 + x5 + (x6 + x7)) + 256 * ((x5 + x6 + x7) + 256 * ((x6 + x7) + 256 * x7)))))) := by
    rw [g5, f32]
    simp only [pa1]
    omega
  have g6 : uJ (p6 (p5 (p4 z))) = (x0 + x1 + (x2 + x3) + (x4 + x5 + (x6 + x7))) + 256 * ((x1 + x2 + (x3 + x4) + (x5 + x6 + x7)) + 256 * ((x2 + x3 + (x4 + x5) + (x6 + x7)) + 256 * ((x3 + x4 + (x5 + x6) + x7) + 256 * ((x4 + x5 + (x6 + x7)) + 256 * ((x5 + x6 + x7) + 256 * ((x6 + x7) + 256 * x7)))))) := by
    unfold p6
    rw [show (32 : Int32) = nI 32 from rfl, uJ_add (by rw [s6]; exact l8 (by omega) (by omega) (by omega) (by omega) (by omega) (by omega) (by omega) (by omega)), s6]
  rw [g6]
  have md : ∀ a y : Nat, a < 128 → (a + 256 * y) % 128 = a := fun a y ha => by omega
  rw [md _ _ (by omega)]
  omega
theorem dig8 (n : Nat) : dig 8 n = pc 8 (n % 256) + 256 * (pc 8 (n / 256 % 256) + 256 * (pc 8 (n / 65536 % 256) + 256 * (pc 8 (n / 16777216 % 256) + 256 * (pc 8 (n / 4294967296 % 256) + 256 * (pc 8 (n / 1099511627776 % 256) + 256 * (pc 8 (n / 281474976710656 % 256) + 256 * (pc 8 (n / 72057594037927936 % 256)))))))) := by
  simp only [dig, Nat.div_div_eq_div_mul, Nat.reduceMul, Nat.mul_zero, Nat.add_zero]
theorem pc64_8 (n : Nat) (hn : n < 2 ^ 64) : pc 64 n = pc 8 (n % 256) + (pc 8 (n / 256 % 256) + (pc 8 (n / 65536 % 256) + (pc 8 (n / 16777216 % 256) + (pc 8 (n / 4294967296 % 256) + (pc 8 (n / 1099511627776 % 256) + (pc 8 (n / 281474976710656 % 256) + (pc 8 (n / 72057594037927936 % 256)))))))) := by
  rw [pc_8 56, pc_8 48, pc_8 40, pc_8 32, pc_8 24, pc_8 16, pc_8 8]
  simp only [Nat.div_div_eq_div_mul, Nat.reduceMul]
  rw [show n / 72057594037927936 % 256 = n / 72057594037927936 by omega]
theorem bc_key (x : Int64) : (p6 (p5 (p4 (p3 (p2 (p1 x)))))).toInt32 &&& 127 = nI (pc 64 (uJ x)) := by
  have e3 : uJ (p3 (p2 (p1 x))) = dig 8 (uJ x) := by
    rw [u_p3 _ (by rw [u_p2]; exact B3_lt _), u_p2, u_p1]
    exact (CBA 8 (uJ x)).2
  have hb : ∀ k, pc 8 (uJ x / k % 256) ≤ 8 := fun k => pc8_le _ (Nat.mod_lt _ (by decide))
  rw [dig8] at e3
  rw [l2i_127, fold8 e3 (pc8_le _ (Nat.mod_lt _ (by decide))) (hb _) (hb _) (hb _) (hb _) (hb _) (hb _) (hb _), pc64_8 _ (uJ_lt x)]
theorem bc64 (x : Int64) (h : HS) : f_J13_bitCount_95d88 x h = some (nI (pc 64 (uJ x)), h) := by
  rw [J13_eq, bc_key]
