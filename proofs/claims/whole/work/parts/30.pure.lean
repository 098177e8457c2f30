/-! PURE: the heap's algebra, bits, numbers, loops -/
theorem nn_s {α : Type} (n : Nat) (k : Nat → Option α) : nn (some n) k = k n := rfl
theorem gd_t {α : Type} (x : Option α) : gd true x = x := rfl
theorem bd_s {α β : Type} (a : α) (k : α → Option β) : bd (some a) k = k a := rfl
theorem hl_s {α : Type} (x : HS) (k : HS → Option α) : hl x k = k x := rfl
theorem hI_sI (h : HS) (n k m j : Nat) (x : Int32) : hI (sI h n k x) m j = if m = n ∧ j = k then x else hI h m j := rfl
theorem hP_sI (h : HS) (n k : Nat) (x : Int32) : hP (sI h n k x) = hP h := rfl
theorem hJ_sI (h : HS) (n k : Nat) (x : Int32) : hJ (sI h n k x) = hJ h := rfl
theorem hN_sI (h : HS) (n k : Nat) (x : Int32) : hN (sI h n k x) = hN h := rfl
theorem hP_sP (h : HS) (n k m j : Nat) (x : Option Nat) : hP (sP h n k x) m j = if m = n ∧ j = k then x else hP h m j := rfl
theorem hI_sP (h : HS) (n k : Nat) (x : Option Nat) : hI (sP h n k x) = hI h := rfl
theorem hJ_sP (h : HS) (n k : Nat) (x : Option Nat) : hJ (sP h n k x) = hJ h := rfl
theorem hN_sP (h : HS) (n k : Nat) (x : Option Nat) : hN (sP h n k x) = hN h := rfl
theorem hJ_sJ (h : HS) (n k m j : Nat) (x : Int64) : hJ (sJ h n k x) m j = if m = n ∧ j = k then x else hJ h m j := rfl
theorem hI_sJ (h : HS) (n k : Nat) (x : Int64) : hI (sJ h n k x) = hI h := rfl
theorem hP_sJ (h : HS) (n k : Nat) (x : Int64) : hP (sJ h n k x) = hP h := rfl
theorem hN_sJ (h : HS) (n k : Nat) (x : Int64) : hN (sJ h n k x) = hN h := rfl
theorem hI_sR (h : HS) (n m : Nat) (f : Nat → Int32) : hI (sR h n f) m = if m = n then f else hI h m := rfl
theorem hP_sR (h : HS) (n : Nat) (f : Nat → Int32) : hP (sR h n f) = hP h := rfl
theorem hJ_sR (h : HS) (n : Nat) (f : Nat → Int32) : hJ (sR h n f) = hJ h := rfl
theorem hN_sR (h : HS) (n : Nat) (f : Nat → Int32) : hN (sR h n f) = hN h := rfl
theorem ck_of {h : HS} {n ci : Nat} (h1 : n < hN h) (h2 : kd n = ci) : ck h n ci = true := by simp [ck, h1, h2]
theorem ck_N {h h' : HS} (e : hN h' = hN h) (n ci : Nat) : ck h' n ci = ck h n ci := by simp only [ck, e]
theorem rk_lo {h : HS} {n ci : Nat} (hc : ci < 9) : rk h n ci = ck h n ci := by simp only [rk, if_pos hc]
theorem inb_nI {i n : Nat} (h : i < n) (hn : n < 2 ^ 31) : inb (nI i) n = true := by
  have e : (nI i).toInt = (i : Int) := nI_toInt (by omega)
  simp only [inb, e, decide_eq_true_eq]
  omega
theorem ca_nI {h : HS} {n ci i : Nat} (hc : ck h n ci = true) (hi : i < al n) (ha : al n < 2 ^ 31) : ca h n ci (nI i) = true := by
  simp only [ca, hc, inb_nI hi ha, Bool.and_self]
theorem nI_lit0 : (0 : Int32) = nI 0 := rfl
theorem nI_lit1 : (1 : Int32) = nI 1 := rfl
theorem ite_le {α : Type} {a b : Nat} (ha : a < 2 ^ 31) (hb : b < 2 ^ 31) (A B : α) : (if nI a ≤ nI b then A else B) = if a ≤ b then A else B := by simp only [nI_leI ha hb]
theorem ite_lt {α : Type} {a b : Nat} (ha : a < 2 ^ 31) (hb : b < 2 ^ 31) (A B : α) : (if nI a < nI b then A else B) = if a < b then A else B := by simp only [nI_ltI ha hb]
theorem ite_eq {α : Type} {a b : Nat} (ha : a < 2 ^ 31) (hb : b < 2 ^ 31) (A B : α) : (if nI a = nI b then A else B) = if a = b then A else B := by simp only [nI_eq ha hb]
/-! bits (pasted from the kit's laws) -/
def bt (x : Int32) (i : Nat) : Bool := x.toBitVec.getLsbD i
theorem b_ext {x y : Int32} (h : ∀ i, i < 32 → bt x i = bt y i) : x = y := Int32.toBitVec_inj.mp (BitVec.eq_of_getLsbD_eq (fun i hi => h i hi))
theorem b_or (x y : Int32) (i : Nat) : bt (x ||| y) i = (bt x i || bt y i) := by unfold bt; rw [Int32.toBitVec_or, BitVec.getLsbD_or]
theorem b_and (x y : Int32) (i : Nat) : bt (x &&& y) i = (bt x i && bt y i) := by unfold bt; rw [Int32.toBitVec_and, BitVec.getLsbD_and]
theorem b_xor (x y : Int32) (i : Nat) : bt (x ^^^ y) i = (bt x i ^^ bt y i) := by unfold bt; rw [Int32.toBitVec_xor, BitVec.getLsbD_xor]
theorem b_big {x : Int32} {i : Nat} (h : 32 ≤ i) : bt x i = false := BitVec.getLsbD_of_ge _ _ h
theorem b_m1 : ∀ i, i < 32 → bt (-1) i = true := by decide +kernel
theorem b_0 (i : Nat) : bt 0 i = false := BitVec.getLsbD_zero
theorem s_l : ∀ n, n < 32 → ((nI n &&& 31).toBitVec.smod 32).toNat = n := by decide +kernel
theorem b_shl (n : Nat) (hn : n < 32) (x : Int32) {i : Nat} (hi : i < 32) : bt (x <<< (nI n &&& 31)) i = (decide (n ≤ i) && bt x (i - n)) := by
  unfold bt
  rw [Int32.toBitVec_shiftLeft]
  show (x.toBitVec <<< ((nI n &&& 31).toBitVec.smod 32).toNat).getLsbD i = _
  rw [s_l n hn, BitVec.getLsbD_shiftLeft]
  rcases Nat.lt_or_ge i n with h | h
  · simp [h, Nat.not_le.mpr h]
  · simp [hi, h, Nat.not_lt.mpr h]
theorem b_sshr (n : Nat) (hn : n < 32) (x : Int32) {i : Nat} (hi : i < 32) : bt (x >>> (nI n &&& 31)) i = if n + i < 32 then bt x (n + i) else bt x 31 := by
  unfold bt
  rw [Int32.toBitVec_shiftRight]
  show (x.toBitVec.sshiftRight ((nI n &&& 31).toBitVec.smod 32).toNat).getLsbD i = _
  rw [s_l n hn, BitVec.getLsbD_sshiftRight, BitVec.msb_eq_getLsbD_last]
  simp [hi]
theorem b_one (i : Nat) : bt 1 i = decide (i = 0) := by
  by_cases hi : i < 32
  · exact (by decide +kernel : ∀ i, i < 32 → bt 1 i = decide (i = 0)) i hi
  · rw [b_big (by omega)]
    have : ¬ i = 0 := by omega
    simp [this]
theorem and_1 (x : Int32) : x &&& 1 = if bt x 0 = true then 1 else 0 := by
  refine b_ext (fun i _ => ?_)
  rw [b_and, b_one]
  by_cases h : i = 0
  · subst h
    by_cases hb : bt x 0 = true
    · simp [hb, b_one]
    · simp [hb, b_0]
  · by_cases hb : bt x 0 = true
    · simp [hb, h, b_one]
    · simp [hb, h, b_0]
/-- the test of bit k -/
theorem tb1 (x : Int32) {k : Nat} (hk : k < 32) : (x >>> (nI k &&& 31)) &&& 1 = if bt x k = true then 1 else 0 := by
  rw [and_1, b_sshr k hk x (by omega)]
  simp [hk]
theorem tb1_1 (x : Int32) {k : Nat} (hk : k < 32) : ((x >>> (nI k &&& 31)) &&& 1 = 1) ↔ bt x k = true := by
  rw [tb1 x hk]
  by_cases hb : bt x k = true
  · simp [hb]
  · simp [hb]
theorem tb1_0 (x : Int32) {k : Nat} (hk : k < 32) : ((x >>> (nI k &&& 31)) &&& 1 = 0) ↔ bt x k = false := by
  rw [tb1 x hk]
  by_cases hb : bt x k = true
  · simp [hb]
  · simp [hb]
/-- one bit -/
theorem sh1 {k i : Nat} (hk : k < 32) (hi : i < 32) : bt ((1 : Int32) <<< (nI k &&& 31)) i = decide (i = k) := by
  rw [b_shl k hk 1 hi, b_one]
  by_cases h : i = k
  · subst h; simp
  · by_cases h2 : k ≤ i
    · have : ¬ i - k = 0 := by omega
      simp [h, this]
    · simp [h, h2]
theorem bt_not (x : Int32) {i : Nat} (hi : i < 32) : bt (x ^^^ (-1)) i = !(bt x i) := by rw [b_xor, b_m1 i hi]; simp
/-! a loop that counts up: F n s k: with fuel n, the state s, at k -/
def fw {σ : Type} (st : Nat → σ → σ) : Nat → Nat → σ → σ
  | _, 0, s => s
  | k, d + 1, s => fw st (k + 1) d (st k s)
theorem it_up {α σ : Type} (F : Nat → σ → Nat → Option α) (N : Nat) (st : Nat → σ → σ) (ex : σ → Option α) (I : Nat → σ → Prop) (h1 : ∀ n s k, k < N → I k s → F (n + 1) s k = F n (st k s) (k + 1) ∧ I (k + 1) (st k s)) (h2 : ∀ n s, I N s → F (n + 1) s N = ex s) : ∀ (d n : Nat) (s : σ) (k : Nat), k + d = N → d < n → I k s → F n s k = ex (fw st k d s)
  | 0, n, s, k, hk, hn, hI => by
    obtain ⟨n, rfl⟩ : ∃ m, n = m + 1 := ⟨n - 1, by omega⟩
    have : k = N := by omega
    subst this
    exact h2 n s hI
  | d + 1, n, s, k, hk, hn, hI => by
    obtain ⟨n, rfl⟩ : ∃ m, n = m + 1 := ⟨n - 1, by omega⟩
    obtain ⟨e, hI2⟩ := h1 n s k (by omega) hI
    rw [e]
    exact it_up F N st ex I h1 h2 d n _ (k + 1) (by omega) (by omega) hI2
theorem fw_inv {σ : Type} (st : Nat → σ → σ) (I : Nat → σ → Prop) (N : Nat) (h : ∀ k s, k < N → I k s → I (k + 1) (st k s)) : ∀ (d k : Nat) (s : σ), k + d = N → I k s → I N (fw st k d s)
  | 0, k, s, hk, hI => by
    have : k = N := by omega
    subst this
    exact hI
  | d + 1, k, s, hk, hI => fw_inv st I N h d (k + 1) _ (by omega) (h k s (by omega) hI)
theorem fw_congr {σ : Type} {st st' : Nat → σ → σ} : ∀ (d k : Nat) (s : σ), (∀ i s, k ≤ i → i < k + d → st i s = st' i s) → fw st k d s = fw st' k d s
  | 0, _, _, _ => rfl
  | d + 1, k, s, h => by
    show fw st (k + 1) d (st k s) = fw st' (k + 1) d (st' k s)
    rw [h k s (by omega) (by omega)]
    exact fw_congr d (k + 1) _ (fun i s h1 h2 => h i s (by omega) (by omega))
theorem fw_last {σ : Type} (st : Nat → σ → σ) : ∀ (d k : Nat) (s : σ), fw st k (d + 1) s = st (k + d) (fw st k d s)
  | 0, _, _ => rfl
  | d + 1, k, s => by
    show fw st (k + 1) (d + 1) (st k s) = st (k + (d + 1)) (fw st (k + 1) d (st k s))
    rw [fw_last st d (k + 1) (st k s), show k + 1 + d = k + (d + 1) by omega]
theorem FU_gt : 100000 < FU := by decide
/-- entries -/
abbrev EL : Type := List (Nat × Nat × Nat)
def tw (E : EL) (i : Nat) : Nat := (E.getD i (0, 0, 0)).1
def wa (E : EL) (i : Nat) : Nat := (E.getD i (0, 0, 0)).2.1
def am (E : EL) (i : Nat) : Nat := (E.getD i (0, 0, 0)).2.2
def EV (E : EL) : Prop := E.length ≤ 16 ∧ ∀ i, i < E.length → tw E i < 4 ∧ wa E i < 5 ∧ am E i ≤ 100
/-- an Entries object of the class, its three arrays just behind it -/
def EN (h : HS) (e : Nat) : Prop := ck h e 3 = true ∧ (hP h e 0 = some (e + 1) ∧ hP h e 1 = some (e + 2) ∧ hP h e 2 = some (e + 3)) ∧ (ck h (e + 1) 9 = true ∧ ck h (e + 2) 9 = true ∧ ck h (e + 3) 9 = true) ∧ (al (e + 1) = 16 ∧ al (e + 2) = 16 ∧ al (e + 3) = 16)
def ER (h : HS) (e : Nat) (E : EL) : Prop := EN h e ∧ EV E ∧ hI h e 3 = nI E.length ∧ ∀ i, i < E.length → hI h (e + 1) i = nI (tw E i) ∧ hI h (e + 2) i = nI (wa E i) ∧ hI h (e + 3) i = nI (am E i)
/-- only the places of S have other contents -/
def Ch (S : Nat → Nat → Prop) (h h' : HS) : Prop := hN h' = hN h ∧ ∀ n k, ¬ S n k → hI h' n k = hI h n k ∧ hJ h' n k = hJ h n k ∧ hP h' n k = hP h n k
theorem Ch.rf {S : Nat → Nat → Prop} {h : HS} : Ch S h h := ⟨rfl, fun _ _ _ => ⟨rfl, rfl, rfl⟩⟩
theorem Ch.trans {S : Nat → Nat → Prop} {h h' h'' : HS} (a : Ch S h h') (b : Ch S h' h'') : Ch S h h'' := ⟨b.1.trans a.1, fun n k hn => ⟨(b.2 n k hn).1.trans (a.2 n k hn).1, (b.2 n k hn).2.1.trans (a.2 n k hn).2.1, (b.2 n k hn).2.2.trans (a.2 n k hn).2.2⟩⟩
theorem Ch.mono {S T : Nat → Nat → Prop} {h h' : HS} (a : Ch S h h') (hs : ∀ n k, S n k → T n k) : Ch T h h' := ⟨a.1, fun n k hn => a.2 n k (fun q => hn (hs n k q))⟩
theorem Ch.I {S : Nat → Nat → Prop} {h h' : HS} (a : Ch S h h') {n k : Nat} (hn : ¬ S n k) : hI h' n k = hI h n k := (a.2 n k hn).1
theorem Ch.J {S : Nat → Nat → Prop} {h h' : HS} (a : Ch S h h') {n k : Nat} (hn : ¬ S n k) : hJ h' n k = hJ h n k := (a.2 n k hn).2.1
theorem Ch.P {S : Nat → Nat → Prop} {h h' : HS} (a : Ch S h h') {n k : Nat} (hn : ¬ S n k) : hP h' n k = hP h n k := (a.2 n k hn).2.2
theorem Ch.ck {S : Nat → Nat → Prop} {h h' : HS} (a : Ch S h h') (n ci : Nat) : ck h' n ci = ck h n ci := ck_N a.1 n ci
theorem Ch.sI {S : Nat → Nat → Prop} {h : HS} {n k : Nat} {x : Int32} (hn : S n k) : Ch S h (sI h n k x) := ⟨rfl, fun m j hm => ⟨by rw [hI_sI]; exact if_neg (fun (q : m = n ∧ j = k) => hm (q.1 ▸ q.2 ▸ hn)), rfl, rfl⟩⟩
theorem Ch.sJ {S : Nat → Nat → Prop} {h : HS} {n k : Nat} {x : Int64} (hn : S n k) : Ch S h (sJ h n k x) := ⟨rfl, fun m j hm => ⟨rfl, by rw [hJ_sJ]; exact if_neg (fun (q : m = n ∧ j = k) => hm (q.1 ▸ q.2 ▸ hn)), rfl⟩⟩
theorem Ch.sP {S : Nat → Nat → Prop} {h : HS} {n k : Nat} {x : Option Nat} (hn : S n k) : Ch S h (sP h n k x) := ⟨rfl, fun m j hm => ⟨rfl, rfl, by rw [hP_sP]; exact if_neg (fun (q : m = n ∧ j = k) => hm (q.1 ▸ q.2 ▸ hn))⟩⟩
theorem Ch.sR {S : Nat → Nat → Prop} {h : HS} {n : Nat} {f : Nat → Int32} (hn : ∀ k, S n k) : Ch S h (sR h n f) := ⟨rfl, fun m j hm => ⟨by rw [hI_sR]; by_cases q : m = n; exact absurd (q ▸ hn j) hm; rw [if_neg q], rfl, rfl⟩⟩
theorem ck_sI (h : HS) (a b : Nat) (x : Int32) (n c : Nat) : ck (sI h a b x) n c = ck h n c := rfl
theorem ck_sJ (h : HS) (a b : Nat) (x : Int64) (n c : Nat) : ck (sJ h a b x) n c = ck h n c := rfl
theorem ck_sP (h : HS) (a b : Nat) (x : Option Nat) (n c : Nat) : ck (sP h a b x) n c = ck h n c := rfl
theorem ck_sR (h : HS) (a : Nat) (f : Nat → Int32) (n c : Nat) : ck (sR h a f) n c = ck h n c := rfl
theorem EN.fr {S : Nat → Nat → Prop} {h h' : HS} {e : Nat} (a : EN h e) (c : Ch S h h') (hS : ∀ n k, e ≤ n → n ≤ e + 3 → ¬ S n k) : EN h' e := by
  obtain ⟨a1, ⟨a2, a3, a4⟩, ⟨a5, a6, a7⟩, a8⟩ := a
  refine ⟨by rw [c.ck]; exact a1, ⟨?_, ?_, ?_⟩, ⟨by rw [c.ck]; exact a5, by rw [c.ck]; exact a6, by rw [c.ck]; exact a7⟩, a8⟩
  · rw [c.P (hS _ _ (by omega) (by omega))]; exact a2
  · rw [c.P (hS _ _ (by omega) (by omega))]; exact a3
  · rw [c.P (hS _ _ (by omega) (by omega))]; exact a4
theorem ER.fr {S : Nat → Nat → Prop} {h h' : HS} {e : Nat} {E : EL} (a : ER h e E) (c : Ch S h h') (hS : ∀ n k, e ≤ n → n ≤ e + 3 → ¬ S n k) : ER h' e E := by
  refine ⟨a.1.fr c hS, a.2.1, ?_, fun i hi => ?_⟩
  · rw [c.I (hS _ _ (by omega) (by omega))]; exact a.2.2.1
  · rw [c.I (hS _ _ (by omega) (by omega)), c.I (hS _ _ (by omega) (by omega)), c.I (hS _ _ (by omega) (by omega))]
    exact a.2.2.2 i hi
/-- a loop that counts up, with an early end, by an invariant -/
theorem it_ex {α σ : Type} (F : Nat → σ → Nat → Option α) (N : Nat) (I : Nat → σ → Prop) (Q : α → Prop) (h1 : ∀ n s k, k < N → I k s → (∃ r, F (n + 1) s k = some r ∧ Q r) ∨ ∃ s', F (n + 1) s k = F n s' (k + 1) ∧ I (k + 1) s') (h2 : ∀ n s, I N s → ∃ r, F (n + 1) s N = some r ∧ Q r) : ∀ (d n : Nat) (s : σ) (k : Nat), k + d = N → d < n → I k s → ∃ r, F n s k = some r ∧ Q r
  | 0, n, s, k, hk, hn, hI => by
    obtain ⟨n, rfl⟩ : ∃ m, n = m + 1 := ⟨n - 1, by omega⟩
    have : k = N := by omega
    subst this
    exact h2 n s hI
  | d + 1, n, s, k, hk, hn, hI => by
    obtain ⟨n, rfl⟩ : ∃ m, n = m + 1 := ⟨n - 1, by omega⟩
    rcases h1 n s k (by omega) hI with hr | ⟨s', e, hI2⟩
    · exact hr
    · rw [e]
      exact it_ex F N I Q h1 h2 d n s' (k + 1) (by omega) (by omega) hI2
