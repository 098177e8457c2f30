/-! PURE: the reference: levels, keys, groups, measures -/
def C10 (h : HS) : Prop := (ck h 42 8 = true ∧ ck h 43 9 = true ∧ ck h 44 9 = true ∧ ck h 45 9 = true ∧ ck h 46 9 = true ∧ ck h 47 9 = true ∧ ck h 48 9 = true ∧ ck h 49 9 = true ∧ ck h 50 9 = true ∧ ck h 51 9 = true ∧ ck h 52 9 = true ∧ ck h 53 9 = true ∧ ck h 54 10 = true ∧ ck h 55 9 = true) ∧ (hP h 42 10 = some 43 ∧ hP h 42 12 = some 44 ∧ hP h 42 15 = some 45 ∧ hP h 42 16 = some 46 ∧ hP h 42 17 = some 47 ∧ hP h 42 18 = some 48 ∧ hP h 42 19 = some 49 ∧ hP h 42 22 = some 50 ∧ hP h 42 24 = some 51 ∧ hP h 42 25 = some 52 ∧ hP h 42 26 = some 53 ∧ hP h 42 28 = some 54 ∧ hP h 42 29 = some 55)
theorem C10.fr {S : Nat → Nat → Prop} {h h' : HS} (x : C10 h) (c : Ch S h h') (hS : ∀ n k, S n k → n = 42 → k ≠ 10 ∧ k ≠ 12 ∧ (k < 15 ∨ 19 < k) ∧ k ≠ 22 ∧ k ≠ 24 ∧ k ≠ 25 ∧ k ≠ 26 ∧ k ≠ 28 ∧ k ≠ 29) : C10 h' := by
  obtain ⟨⟨x0, x1, x2, x3, x4, x5, x6, x7, x8, x9, x10, x11, x12, x13⟩, ⟨y0, y1, y2, y3, y4, y5, y6, y7, y8, y9, y10, y11, y12⟩⟩ := x
  refine ⟨⟨by rw [c.ck]; exact x0, by rw [c.ck]; exact x1, by rw [c.ck]; exact x2, by rw [c.ck]; exact x3, by rw [c.ck]; exact x4, by rw [c.ck]; exact x5, by rw [c.ck]; exact x6, by rw [c.ck]; exact x7, by rw [c.ck]; exact x8, by rw [c.ck]; exact x9, by rw [c.ck]; exact x10, by rw [c.ck]; exact x11, by rw [c.ck]; exact x12, by rw [c.ck]; exact x13⟩, ⟨?_, ?_, ?_, ?_, ?_, ?_, ?_, ?_, ?_, ?_, ?_, ?_, ?_⟩⟩ <;> (rw [c.P (fun z => by have := hS _ _ z rfl; omega)]; assumption)
def one (v : Nat × Nat × Nat) : Nat := 10000 * v.1 + 1000 * v.2.1 + v.2.2
def MV (h : HS) (lv : Nat) (E : EL) : Prop := EV E ∧ hI h 44 (17 * lv) = nI E.length ∧ ∀ i, i < E.length → hI h 44 (17 * lv + 1 + i) = nI (one (en E i))
theorem MV.fr {S : Nat → Nat → Prop} {h h' : HS} {lv : Nat} {E : EL} (x : MV h lv E) (c : Ch S h h') (hS : ∀ k, 17 * lv ≤ k → k < 17 * lv + 17 → ¬ S 44 k) : MV h' lv E := by
  have := x.1.1
  refine ⟨x.1, ?_, fun i hi => ?_⟩
  · rw [c.I (hS _ (by omega) (by omega))]; exact x.2.1
  · rw [c.I (hS _ (by omega) (by omega))]; exact x.2.2 i hi
def MP (h : HS) (pl : PL) : Prop := hI h 42 0 = nI pl.1 ∧ hI h 42 1 = nI pl.2.1 ∧ hI h 42 2 = nI pl.2.2.1 ∧ hI h 42 3 = nI pl.2.2.2.1 ∧ hI h 42 4 = nI pl.2.2.2.2
theorem MP.fr {S : Nat → Nat → Prop} {h h' : HS} {pl : PL} (x : MP h pl) (c : Ch S h h') (hS : ∀ k, k < 5 → ¬ S 42 k) : MP h' pl := by
  obtain ⟨x0, x1, x2, x3, x4⟩ := x
  refine ⟨?_, ?_, ?_, ?_, ?_⟩ <;> (rw [c.I (hS _ (by omega))]; assumption)
theorem rk8 (h : HS) (n : Nat) : rk h n 8 = ck h n 8 := rk_lo (by omega)
theorem al44 : al 44 = 34 := by decide
theorem s_X10_many {h : HS} (hC : C10 h) {lv : Nat} (hl : lv < 2) {E : EL} (hM : MV h lv E) : f_X10_many 42 (nI lv) h = some (nI E.length, h) := by
  have e : (17 : Int32) * nI lv = nI (17 * lv) := nI_mul 17 lv
  have hca : ca h 44 9 (nI (17 * lv)) = true := ca_nI hC.1.2.2.1 (by rw [al44]; omega) (by rw [al44]; omega)
  unfold f_X10_many
  simp only [nn_s, hC.1.1, gd_t, hC.2.2.1, e, hca, nI_clamp (show 17 * lv < 2 ^ 31 by omega), hM.2.1]
theorem s_X10_at {h : HS} (hC : C10 h) {lv : Nat} (hl : lv < 2) {E : EL} (hM : MV h lv E) {i : Nat} (hi : i < E.length) : f_X10_at 42 (nI lv) (nI i) h = some (nI (one (en E i)), h) := by
  have := hM.1.1
  have e : (17 : Int32) * nI lv + 1 + nI i = nI (17 * lv + 1 + i) := by
    rw [show (17 : Int32) * nI lv = nI (17 * lv) from nI_mul 17 lv, nI_1, nI_add]
  have hca : ca h 44 9 (nI (17 * lv + 1 + i)) = true := ca_nI hC.1.2.2.1 (by rw [al44]; omega) (by rw [al44]; omega)
  unfold f_X10_at
  simp only [nn_s, hC.1.1, gd_t, hC.2.2.1, e, hca, nI_clamp (show 17 * lv + 1 + i < 2 ^ 31 by omega), hM.2.2 i hi]
theorem nI_rem {v d : Nat} (hv : v < 2 ^ 31) (hd : d < 2 ^ 31) (h0 : 0 < d) : nI v - nI v / nI d * nI d = nI (v % d) := by
  rw [nI_div hv hd h0, nI_mul, nI_sub (Nat.div_mul_le_self v d)]
  congr 1
  rw [Nat.mod_def, Nat.mul_comm]
theorem one_lt {E : EL} (hE : EV E) {i : Nat} (hi : i < E.length) : one (en E i) < 50000 ∧ one (en E i) % 1000 = am E i ∧ one (en E i) / 10000 = tw E i ∧ one (en E i) / 1000 % 10 = wa E i := by
  have h := hE.2 i hi
  have e1 : (en E i).1 = tw E i := rfl
  have e2 : (en E i).2.1 = wa E i := rfl
  have e3 : (en E i).2.2 = am E i := rfl
  unfold one
  rw [e1, e2, e3]
  omega
theorem s_X10_amountOf {h : HS} (hC : C10 h) {lv : Nat} (hl : lv < 2) {E : EL} (hM : MV h lv E) {i : Nat} (hi : i < E.length) : f_X10_amountOf 42 (nI lv) (nI i) h = some (nI (am E i), h) := by
  obtain ⟨h1, h2, _, _⟩ := one_lt hM.1 hi
  unfold f_X10_amountOf
  simp only [nn_s, rk8, hC.1.1, gd_t, s_X10_at hC hl hM hi, bd_s, show (1000 : Int32) = nI 1000 from rfl, show decide (¬ nI 1000 = 0) = true by decide, nI_rem (show one (en E i) < 2 ^ 31 by omega) (show 1000 < 2 ^ 31 by omega) (show 0 < 1000 by omega), h2]
theorem s_X10_keyOf {h : HS} (hC : C10 h) {lv : Nat} (hl : lv < 2) {E : EL} (hM : MV h lv E) {f w i : Nat} (hf : f ≤ 3) (hw : 1 ≤ w) (hw9 : w ≤ 9) (h4 : hI h 42 4 = nI w) (hi : i < E.length) : f_X10_keyOf 42 (nI lv) (nI i) (nI f) h = some (nI (ky f w E i), h) := by
  obtain ⟨h1, h2, h3, h5⟩ := one_lt hM.1 hi
  have hm : (5 : Int32) * nI w = nI (5 * w) := nI_mul 5 w
  have ha := (hM.1.2 i hi).2.2
  have t1 : nI (one (en E i)) / 10000 = nI (tw E i) := by
    rw [show (10000 : Int32) = nI 10000 from rfl, nI_div (by omega) (by omega) (by omega), h3]
  have t2 : nI (one (en E i)) / 1000 = nI (one (en E i) / 1000) := by
    rw [show (1000 : Int32) = nI 1000 from rfl, nI_div (by omega) (by omega) (by omega)]
  have t3 : nI (one (en E i) / 1000) - nI (one (en E i) / 1000) / 10 * 10 = nI (wa E i) := by
    rw [show (10 : Int32) = nI 10 from rfl, nI_rem (by omega) (by omega) (by omega), h5]
  have t4 : nI (one (en E i)) - nI (one (en E i)) / 1000 * 1000 = nI (am E i) := by
    rw [show (1000 : Int32) = nI 1000 from rfl, nI_rem (by omega) (by omega) (by omega), h2]
  unfold f_X10_keyOf b_X10_keyOf_36 b_X10_keyOf_43 b_X10_keyOf_53 b_X10_keyOf_82 b_X10_keyOf_83
  simp only [nn_s, rk8, hC.1.1, gd_t, s_X10_at hC hl hM hi, bd_s, show decide (¬ (1000 : Int32) = 0) = true by decide, show decide (¬ (10000 : Int32) = 0) = true by decide, show decide (¬ (10 : Int32) = 0) = true by decide, t1, t4, h4, hm]
  simp only [t2, t3]
  unfold swT
  rw [nI_i (by omega)]
  match f, hf with
  | 0, _ => simp [ky]
  | 1, _ => simp [ky]
  | 2, _ =>
    rw [show (100 : Int32) = nI 100 from rfl, ite_eq (by omega) (by omega), nI_div (by omega) (by omega) (by omega)]
    have h0 : ¬ nI (5 * w) = 0 := nI_ne0 (by omega) (by omega)
    by_cases q : am E i = 100
    · simp [ky, q]
      rfl
    · simp [ky, q, h0, gd]
  | 3, _ => simp [ky, nI_0]
theorem or_0 (x : Int32) : x ||| 0 = x := by
  refine b_ext (fun i _ => ?_)
  rw [b_or, b_0]; simp
theorem s_X10_groupOf {h : HS} (hC : C10 h) {lv : Nat} (hl : lv < 2) {E : EL} (hM : MV h lv E) {f w key : Nat} (hf : f ≤ 3) (hw : 1 ≤ w) (hw9 : w ≤ 9) (h4 : hI h 42 4 = nI w) (hk : key < 21) : f_X10_groupOf 42 (nI lv) (nI f) (nI key) h = some (gp f w E key, h) := by
  have hn := hM.1.1
  unfold f_X10_groupOf
  refine it_up (fun n (s : Int32) k => l_X10_groupOf_6 n 42 (nI lv) (nI f) (nI key) s (nI k) h) E.length (fun e s => if (ky f w E e == key) = true then s ||| ((1 : Int32) <<< (nI e &&& 31)) else s) (fun s => some (s, h)) (fun _ _ => True) ?_ ?_ E.length FU 0 0 (by omega) (by have := FU_gt; omega) trivial
  · intro fu s k hk2 _
    refine ⟨?_, trivial⟩
    have hkl := ky_lt hM.1 f hw hk2
    show b_X10_groupOf_6 (l_X10_groupOf_6 fu) 42 (nI lv) (nI f) (nI key) s (nI k) h = _
    unfold b_X10_groupOf_6 b_X10_groupOf_38
    simp only [nn_s, rk8, hC.1.1, gd_t, s_X10_many hC hl hM, bd_s]
    rw [ite_le (by omega) (by omega), if_neg (by omega)]
    simp only [s_X10_keyOf hC hl hM hf hw hw9 h4 hk2, bd_s, nI_1, or_0]
    rw [ite_eq (by omega) (by omega)]
    by_cases q : ky f w E k = key
    · simp [q]
    · simp [q]
  · intro fu s _
    show b_X10_groupOf_6 (l_X10_groupOf_6 fu) 42 (nI lv) (nI f) (nI key) s (nI E.length) h = _
    unfold b_X10_groupOf_6
    simp only [nn_s, rk8, hC.1.1, gd_t, s_X10_many hC hl hM, bd_s]
    rw [ite_le (by omega) (by omega), if_pos (by omega)]
theorem s_X10_has (set : Int32) {k : Nat} (hk : k < 32) (h : HS) : f_X10_has set (nI k) h = some (if bt set k = true then 1 else 0, h) := by
  unfold f_X10_has b_X10_has_14
  simp only [tb1_1 set hk, z0, z1, gd_t]
  split <;> rfl
def twP (E : EL) (set : Int32) (e : Nat) : Bool := bt set e && (List.range e).any (fun k => bt set k && am E e == am E k)
theorem fw_any (c : Nat → Bool) (b : Int32) : ∀ (n : Nat) (s : Int32), fw (fun k s => if c k = true then s ||| b else s) 0 n s = if (List.range n).any c = true then s ||| b else s
  | 0, s => by simp [fw]
  | n + 1, s => by
    rw [fw_last, fw_any c b n s, Nat.zero_add, List.range_succ, List.any_append]
    by_cases h1 : (List.range n).any c = true
    · simp only [h1, if_true, Bool.true_or]
      split
      · refine b_ext (fun i _ => ?_)
        simp only [b_or]
        cases bt s i <;> cases bt b i <;> rfl
      · rfl
    · simp only [h1, if_false, Bool.false_or, List.any_cons, List.any_nil, Bool.or_false, reduceCtorEq]
theorem s_X10_twinsOf {h : HS} (hC : C10 h) {lv : Nat} (hl : lv < 2) {E : EL} (hM : MV h lv E) (set : Int32) : f_X10_twinsOf 42 (nI lv) set h = some (mk (twP E set) E.length, h) := by
  have hn := hM.1.1
  unfold f_X10_twinsOf
  refine it_up (fun n (s : Int32) k => l_X10_twinsOf_5 n 42 (nI lv) set s (nI k) h) E.length (fun e s => if twP E set e = true then s ||| ((1 : Int32) <<< (nI e &&& 31)) else s) (fun s => some (s, h)) (fun _ _ => True) ?_ ?_ E.length FU 0 0 (by omega) (by have := FU_gt; omega) trivial
  · intro fu s e he _
    refine ⟨?_, trivial⟩
    show b_X10_twinsOf_5 (l_X10_twinsOf_5 fu) 42 (nI lv) set s (nI e) h = _
    unfold b_X10_twinsOf_5
    simp only [nn_s, rk8, hC.1.1, gd_t, s_X10_many hC hl hM, bd_s]
    rw [ite_le (by omega) (by omega), if_neg (by omega)]
    have hin := it_up (fun n (s : Int32) k => l_X10_twinsOf_18 (l_X10_twinsOf_5 fu) n 42 (nI lv) set s (nI e) (nI k) h) e (fun k s => if (bt set e && (bt set k && am E e == am E k)) = true then s ||| ((1 : Int32) <<< (nI e &&& 31)) else s) (fun s => l_X10_twinsOf_5 fu 42 (nI lv) set s (nI (e + 1)) h) (fun _ _ => True) ?_ ?_ e FU s 0 (by omega) (by have := FU_gt; omega) trivial
    · refine hin.trans ?_
      congr 1
      rw [fw_any]
      congr 2
      unfold twP
      cases bt set e <;> simp
    · intro fu2 s k hk _
      refine ⟨?_, trivial⟩
      show b_X10_twinsOf_18 (l_X10_twinsOf_5 fu) (l_X10_twinsOf_18 (l_X10_twinsOf_5 fu) fu2) 42 (nI lv) set s (nI e) (nI k) h = _
      unfold b_X10_twinsOf_18 b_X10_twinsOf_68 b_X10_twinsOf_69
      rw [ite_le (by omega) (by omega), if_neg (by omega)]
      have ha1 := (hM.1.2 e he).2.2
      have ha2 := (hM.1.2 k (by omega)).2.2
      simp only [s_X10_has set (show e < 32 by omega), s_X10_has set (show k < 32 by omega), bd_s, nn_s, rk8, hC.1.1, gd_t, s_X10_amountOf hC hl hM he, s_X10_amountOf hC hl hM (show k < E.length by omega), nI_1, or_0]
      rw [ite_eq (by omega) (by omega)]
      by_cases q1 : bt set e = true
      · by_cases q2 : bt set k = true
        · by_cases q3 : am E e = am E k
          · simp [q1, q2, q3]
          · simp [q1, q2, q3]
        · simp [q1, q2]
      · simp [q1]
    · intro fu2 s _
      show b_X10_twinsOf_18 (l_X10_twinsOf_5 fu) (l_X10_twinsOf_18 (l_X10_twinsOf_5 fu) fu2) 42 (nI lv) set s (nI e) (nI e) h = _
      unfold b_X10_twinsOf_18
      rw [ite_le (by omega) (by omega), if_pos (by omega), nI_1]
  · intro fu s _
    show b_X10_twinsOf_5 (l_X10_twinsOf_5 fu) 42 (nI lv) set s (nI E.length) h = _
    unfold b_X10_twinsOf_5
    simp only [nn_s, rk8, hC.1.1, gd_t, s_X10_many hC hl hM, bd_s]
    rw [ite_le (by omega) (by omega), if_pos (by omega)]
theorem fw_proj {σ τ : Type} (p : σ → τ) {st : Nat → σ → σ} {st1 : Nat → τ → τ} (h : ∀ k s, p (st k s) = st1 k (p s)) : ∀ (d k : Nat) (s : σ), p (fw st k d s) = fw st1 k d (p s)
  | 0, _, _ => rfl
  | d + 1, k, s => by
    show p (fw st (k + 1) d (st k s)) = fw st1 (k + 1) d (st1 k (p s))
    rw [fw_proj p h d (k + 1), h]
/-- one entry of the reference's measureOf -/
def mS (E : EL) (set tws : Int32) (e : Nat) (s : Int32 × Int32 × Int32 × Int32 × Int32) : Int32 × Int32 × Int32 × Int32 × Int32 :=
  (if bt set e = true then s.1 + 1 else s.1,
   if (bt set e && !(am E e == 100)) = true then s.2.1 + nI (am E e) else s.2.1,
   if (bt set e && !(am E e == 100)) = true then (if nI (am E e) ≤ s.2.2.1 then s.2.2.1 else nI (am E e)) else s.2.2.1,
   if (bt set e && !(am E e == 100)) = true then (if s.2.2.2.1 = -9 ∨ nI (am E e) < s.2.2.2.1 then nI (am E e) else s.2.2.2.1) else s.2.2.2.1,
   if (bt set e && !(am E e == 100)) = true then s.2.2.2.2 + (if bt tws e = true then 0 else 1) else s.2.2.2.2)
def mR (me : Nat) (s : Int32 × Int32 × Int32 × Int32 × Int32) : Int32 := if me = 0 then s.1 else if me = 1 then s.2.1 else if me = 2 then s.2.2.1 else if me = 3 then s.2.2.2.1 else s.2.2.2.2
theorem s_measL {h : HS} (hC : C10 h) {lv : Nat} (hl : lv < 2) {E : EL} (hM : MV h lv E) {me : Nat} (hm : me ≤ 4) (h2 : hI h 42 2 = nI me) (set tws : Int32) : l_X10_measureOf_34 FU 42 (nI lv) set 0 0 (-9) (-9) 0 tws 0 h = some (mR me (fw (mS E set tws) 0 E.length (0, 0, -9, -9, 0)), h) := by
  have hn := hM.1.1
  refine it_up (fun n (s : Int32 × Int32 × Int32 × Int32 × Int32) k => l_X10_measureOf_34 n 42 (nI lv) set s.1 s.2.1 s.2.2.1 s.2.2.2.1 s.2.2.2.2 tws (nI k) h) E.length (mS E set tws) (fun s => some (mR me s, h)) (fun _ _ => True) ?_ ?_ E.length FU (0, 0, -9, -9, 0) 0 (by omega) (by have := FU_gt; omega) trivial
  · intro fu s e he _
    refine ⟨?_, trivial⟩
    obtain ⟨s1, s2, s3, s4, s5⟩ := s
    have ha := (hM.1.2 e he).2.2
    show b_X10_measureOf_34 (l_X10_measureOf_34 fu) 42 (nI lv) set s1 s2 s3 s4 s5 tws (nI e) h = _
    unfold b_X10_measureOf_34
    simp only [nn_s, rk8, hC.1.1, gd_t, s_X10_many hC hl hM, bd_s]
    rw [ite_le (by omega) (by omega), if_neg (by omega)]
    have q10 : ¬ (1 : Int32) = 0 := by decide
    have e100 : (nI (am E e) = 100) = (am E e = 100) := propext (nI_eq (b := 100) (by omega) (by omega))
    simp only [s_X10_amountOf hC hl hM he, s_X10_has set (show e < 32 by omega), bd_s, b_X10_measureOf_65, b_X10_measureOf_102, b_X10_measureOf_118, b_X10_measureOf_125, b_X10_measureOf_144, b_X10_measureOf_147, s_X10_has tws (show e < 32 by omega), nI_1, e100]
    unfold mS
    by_cases q1 : bt set e = true
    · by_cases q2 : am E e = 100
      · simp [q1, q2]
      · simp only [q1, q2, if_true, if_false, q10, Bool.true_and, show (am E e == 100) = false by simpa using q2, Bool.not_false]
        by_cases q3 : nI (am E e) ≤ s3
        · by_cases q4 : s4 = -9
          · by_cases q5 : bt tws e = true
            · simp [q3, q4, q5]
            · simp [q3, q4, q5]
          · by_cases q6 : s4 ≤ nI (am E e)
            · have q7 : ¬ nI (am E e) < s4 := Int32.not_lt.mpr q6
              by_cases q5 : bt tws e = true
              · simp [q3, q4, q5, q6, q7]
              · simp [q3, q4, q5, q6, q7]
            · have q7 : nI (am E e) < s4 := Int32.not_le.mp q6
              by_cases q5 : bt tws e = true
              · simp [q3, q4, q5, q6, q7]
              · simp [q3, q4, q5, q6, q7]
        · by_cases q4 : s4 = -9
          · by_cases q5 : bt tws e = true
            · simp [q3, q4, q5]
            · simp [q3, q4, q5]
          · by_cases q6 : s4 ≤ nI (am E e)
            · have q7 : ¬ nI (am E e) < s4 := Int32.not_lt.mpr q6
              by_cases q5 : bt tws e = true
              · simp [q3, q4, q5, q6, q7]
              · simp [q3, q4, q5, q6, q7]
            · have q7 : nI (am E e) < s4 := Int32.not_le.mp q6
              by_cases q5 : bt tws e = true
              · simp [q3, q4, q5, q6, q7]
              · simp [q3, q4, q5, q6, q7]
    · simp [q1]
  · intro fu s _
    show b_X10_measureOf_34 (l_X10_measureOf_34 fu) 42 (nI lv) set s.1 s.2.1 s.2.2.1 s.2.2.2.1 s.2.2.2.2 tws (nI E.length) h = _
    unfold b_X10_measureOf_34 b_X10_measureOf_205
    simp only [nn_s, rk8, hC.1.1, gd_t, s_X10_many hC hl hM, bd_s]
    rw [ite_le (by omega) (by omega), if_pos (by omega)]
    simp only [h2]
    unfold mR
    match me, hm with
    | 0, _ => rfl
    | 1, _ => rfl
    | 2, _ => rfl
    | 3, _ => rfl
    | 4, _ => rfl
theorem kinds_m {E : EL} {set : Int32} (hn : E.length ≤ 16) : ∀ (d k : Nat) (s : Int32) (S : List Nat), k + d = E.length → (∀ v, ¬ v = 100 → (v ∈ S ↔ ∃ j, j < k ∧ bt set j = true ∧ am E j = v)) → fw (fun e s => if (bt set e && !(am E e == 100)) = true then s + (if bt (mk (twP E set) E.length) e = true then 0 else 1) else s) k d s = s + nI (kn S (told (((List.range' k d).filter (fun e => bt set e)).map (am E))))
  | 0, k, s, S, _, _ => by
    show s = s + nI 0
    simp [nI_0]
  | d + 1, k, s, S, hk, hS => by
    have htw : bt (mk (twP E set) E.length) k = twP E set k := by
      rw [bt_mk _ _ (by omega)]
      simp [show k < E.length by omega]
    show fw _ (k + 1) d _ = _
    rw [List.range'_succ, List.filter_cons]
    by_cases q1 : bt set k = true
    · simp only [q1, Bool.true_and, if_true, List.map_cons]
      by_cases q2 : am E k = 100
      · have e1 : told (am E k :: ((List.range' (k + 1) d).filter (fun e => bt set e)).map (am E)) = told (((List.range' (k + 1) d).filter (fun e => bt set e)).map (am E)) := by
          unfold told
          rw [List.filter_cons]
          simp [q2]
        rw [e1]
        have e2 : (!(am E k == 100)) = false := by simp [q2]
        simp only [e2, if_false, reduceCtorEq]
        refine kinds_m hn d (k + 1) s S (by omega) (fun v hv => ?_)
        rw [hS v hv]
        constructor
        · rintro ⟨j, h1, h2, h3⟩; exact ⟨j, by omega, h2, h3⟩
        · rintro ⟨j, h1, h2, h3⟩
          refine ⟨j, ?_, h2, h3⟩
          have : j ≠ k := fun z => hv (by rw [← h3, z, q2])
          omega
      · have e1 : told (am E k :: ((List.range' (k + 1) d).filter (fun e => bt set e)).map (am E)) = am E k :: told (((List.range' (k + 1) d).filter (fun e => bt set e)).map (am E)) := by
          unfold told
          rw [List.filter_cons]
          simp [q2]
        rw [e1]
        have e2 : (!(am E k == 100)) = true := by simp [q2]
        simp only [e2, if_true, kn]
        have hmem : (bt (mk (twP E set) E.length) k = true) ↔ am E k ∈ S := by
          rw [htw, hS _ q2]
          unfold twP
          simp only [q1, Bool.true_and, List.any_eq_true, List.mem_range, Bool.and_eq_true, beq_iff_eq]
          constructor
          · rintro ⟨j, h1, h2, h3⟩; exact ⟨j, h1, h2, h3.symm⟩
          · rintro ⟨j, h1, h2, h3⟩; exact ⟨j, h1, h2, h3.symm⟩
        by_cases q3 : am E k ∈ S
        · rw [if_pos q3, if_pos (hmem.mpr q3)]
          rw [kinds_m hn d (k + 1) (s + 0) S (by omega) (fun v hv => ?_)]
          · simp
          · rw [hS v hv]
            constructor
            · rintro ⟨j, h1, h2, h3⟩; exact ⟨j, by omega, h2, h3⟩
            · rintro ⟨j, h1, h2, h3⟩
              by_cases z : j = k
              · have : v ∈ S := by rw [← h3, z]; exact q3
                exact (hS v hv).mp this
              · exact ⟨j, by omega, h2, h3⟩
        · rw [if_neg q3, if_neg (fun z => q3 (hmem.mp z))]
          rw [kinds_m hn d (k + 1) (s + 1) (am E k :: S) (by omega) (fun v hv => ?_)]
          · rw [← nI_1, Int32.add_assoc, Int32.add_comm 1]
          · rw [List.mem_cons, hS v hv]
            constructor
            · rintro (h1 | ⟨j, h1, h2, h3⟩)
              · exact ⟨k, by omega, q1, h1.symm⟩
              · exact ⟨j, by omega, h2, h3⟩
            · rintro ⟨j, h1, h2, h3⟩
              by_cases z : j = k
              · left; rw [← h3, z]
              · right; exact ⟨j, by omega, h2, h3⟩
    · simp only [q1, Bool.false_and, if_false, reduceCtorEq]
      refine kinds_m hn d (k + 1) s S (by omega) (fun v hv => ?_)
      rw [hS v hv]
      constructor
      · rintro ⟨j, h1, h2, h3⟩; exact ⟨j, by omega, h2, h3⟩
      · rintro ⟨j, h1, h2, h3⟩
        refine ⟨j, ?_, h2, h3⟩
        have : j ≠ k := fun z => q1 (z ▸ h2)
        omega
theorem told_sel (E : EL) (set : Int32) : told (sel E set) = ((List.range E.length).filter (fun e => bt set e && !(am E e == 100))).map (am E) := by
  simp only [sel, told, List.filter_map, List.filter_filter]
  congr 1
  refine List.filter_congr (fun i hi => ?_)
  rw [Bool.and_comm]
  rfl
theorem fold_len : ∀ (L : List Nat) (n : Nat), L.foldl (fun (s : Int32) _ => s + 1) (nI n) = nI (n + L.length)
  | [], n => rfl
  | a :: t, n => by
    rw [List.foldl_cons, nI_1, fold_len t (n + 1)]
    congr 1
    simp only [List.length_cons]
    omega
theorem s_X10_measureOf {h : HS} (hC : C10 h) {lv : Nat} (hl : lv < 2) {E : EL} (hM : MV h lv E) {me : Nat} (hm : me ≤ 4) (h2 : hI h 42 2 = nI me) {set : Int32} (hS : SB E.length set) : f_X10_measureOf 42 (nI lv) set h = some (mL me (sel E set), h) := by
  have hn := hM.1.1
  have hnil := sel_nil hS
  unfold f_X10_measureOf
  by_cases h0 : set = 0
  · rw [if_pos h0]
    simp only [mL, if_pos (hnil.mpr h0)]
  · rw [if_neg h0]
    have hne : ¬ sel E set = [] := fun q => h0 (hnil.mp q)
    simp only [nn_s, rk8, hC.1.1, gd_t, s_X10_twinsOf hC hl hM, bd_s, s_measL hC hl hM hm h2]
    congr 2
    simp only [mL, if_neg hne, mR]
    match me, hm with
    | 0, _ =>
      show (fw (mS E set (mk (twP E set) E.length)) 0 E.length (0, 0, -9, -9, 0)).1 = nI (sel E set).length
      refine (fw_proj (σ := Int32 × Int32 × Int32 × Int32 × Int32) (fun s => s.1) (st1 := fun e s => if bt set e = true then s + 1 else s) (fun k s => rfl) _ _ _).trans ?_
      rw [fw_sel (fun e => bt set e) (am E) (fun (s : Int32) _ => s + 1)]
      exact (fold_len _ 0).trans (by rw [Nat.zero_add]; rfl)
    | 1, _ =>
      show (fw (mS E set (mk (twP E set) E.length)) 0 E.length (0, 0, -9, -9, 0)).2.1 = (told (sel E set)).foldl (fun s a => s + nI a) 0
      refine (fw_proj (σ := Int32 × Int32 × Int32 × Int32 × Int32) (fun s => s.2.1) (st1 := fun e s => if (bt set e && !(am E e == 100)) = true then s + nI (am E e) else s) (fun k s => rfl) _ _ _).trans ?_
      rw [told_sel]
      exact fw_sel (fun e => bt set e && !(am E e == 100)) (am E) (fun (s : Int32) a => s + nI a) _ _
    | 2, _ =>
      show (fw (mS E set (mk (twP E set) E.length)) 0 E.length (0, 0, -9, -9, 0)).2.2.1 = (told (sel E set)).foldl (fun s a => if nI a ≤ s then s else nI a) (-9)
      refine (fw_proj (σ := Int32 × Int32 × Int32 × Int32 × Int32) (fun s => s.2.2.1) (st1 := fun e s => if (bt set e && !(am E e == 100)) = true then (if nI (am E e) ≤ s then s else nI (am E e)) else s) (fun k s => rfl) _ _ _).trans ?_
      rw [told_sel]
      exact fw_sel (fun e => bt set e && !(am E e == 100)) (am E) (fun (s : Int32) a => if nI a ≤ s then s else nI a) _ _
    | 3, _ =>
      show (fw (mS E set (mk (twP E set) E.length)) 0 E.length (0, 0, -9, -9, 0)).2.2.2.1 = (told (sel E set)).foldl (fun s a => if s = -9 ∨ nI a < s then nI a else s) (-9)
      refine (fw_proj (σ := Int32 × Int32 × Int32 × Int32 × Int32) (fun s => s.2.2.2.1) (st1 := fun e s => if (bt set e && !(am E e == 100)) = true then (if s = -9 ∨ nI (am E e) < s then nI (am E e) else s) else s) (fun k s => rfl) _ _ _).trans ?_
      rw [told_sel]
      exact fw_sel (fun e => bt set e && !(am E e == 100)) (am E) (fun (s : Int32) a => if s = -9 ∨ nI a < s then nI a else s) _ _
    | 4, _ =>
      show (fw (mS E set (mk (twP E set) E.length)) 0 E.length (0, 0, -9, -9, 0)).2.2.2.2 = nI (kn [] (told (sel E set)))
      refine (fw_proj (σ := Int32 × Int32 × Int32 × Int32 × Int32) (fun s => s.2.2.2.2) (st1 := fun e s => if (bt set e && !(am E e == 100)) = true then s + (if bt (mk (twP E set) E.length) e = true then 0 else 1) else s) (fun k s => rfl) _ _ _).trans ?_
      rw [kinds_m hn E.length 0 0 [] (by omega) (fun v _ => by simp), ← List.range_eq_range']
      simp [sel]
theorem s_X10_allOf {h : HS} (hC : C10 h) {lv : Nat} (hl : lv < 2) {E : EL} (hM : MV h lv E) : f_X10_allOf 42 (nI lv) h = some (allS E.length, h) := by
  unfold f_X10_allOf
  simp only [nn_s, rk8, hC.1.1, gd_t, s_X10_many hC hl hM, bd_s]
  rfl
