/-! PURE: the class's Entries: reads -/
theorem z0 : decide (narrow .boolean (.int 0) = Value.int 0) = true := by decide
theorem z1 : decide (narrow .boolean (.int 1) = Value.int 1) = true := by decide
theorem i32_lt0 (p : Int32) : p < 0 ↔ p.toInt < 0 := by rw [Int32.lt_iff_toInt_lt]; rfl
theorem i32_le (p q : Int32) : p ≤ q ↔ p.toInt ≤ q.toInt := Int32.le_iff_toInt_le
theorem nI_i {n : Nat} (h : n ≤ 100000) : (nI n).toInt = (n : Int) := nI_toInt (by omega)
theorem s_X3_has {h : HS} {e : Nat} {E : EL} (hE : ER h e E) (p : Int32) : f_X3_has e p h = some (if 0 ≤ p.toInt ∧ p.toInt < E.length then 1 else 0, h) := by
  have hl := hE.2.1.1
  unfold f_X3_has b_X3_has_16 b_X3_has_17
  simp only [nn_s, hE.1.1, gd_t, hE.2.2.1, z0, z1, i32_lt0, i32_le, nI_i (show E.length ≤ 100000 by omega)]
  by_cases h1 : p.toInt < 0
  · rw [if_pos h1, if_neg (by omega)]
  · rw [if_neg h1]
    by_cases h2 : (E.length : Int) ≤ p.toInt
    · rw [if_pos h2, if_neg (by omega)]
    · rw [if_neg h2, if_pos (by omega)]
theorem s_X3_hasRoom {h : HS} {e : Nat} {E : EL} (hE : ER h e E) : f_X3_hasRoom e h = some (if E.length < 16 then 1 else 0, h) := by
  have hl := hE.2.1.1
  unfold f_X3_hasRoom b_X3_hasRoom_14
  simp only [nn_s, hE.1.1, gd_t, hE.2.2.1, z0, z1]
  rw [show (16 : Int32) = nI 16 from rfl, ite_le (by omega) (by omega)]
  by_cases h1 : 16 ≤ E.length
  · rw [if_pos h1, if_neg (by omega)]
  · rw [if_neg h1, if_pos (by omega)]
/-- the entries without an amount -/
def miS (E : EL) (k : Nat) (s : Int32) : Int32 := if am E k = 100 then s ||| ((1 : Int32) <<< (nI k &&& 31)) else s
def suS (E : EL) (set : Int32) (k : Nat) (s : Int32) : Int32 := if bt set k = true then s + nI (am E k) else s
def moS (E : EL) (set : Int32) (k : Nat) (s : Int32) : Int32 := if bt set k = true then (if nI (am E k) ≤ s then s else nI (am E k)) else s
def leS (E : EL) (set : Int32) (k : Nat) (s : Int32) : Int32 := if bt set k = true then (if s ≤ nI (am E k) then s else nI (am E k)) else s
def kiS (E : EL) (set : Int32) (k : Nat) (s : Int64 × Int64) : Int64 × Int64 := if bt set k = true then (if 64 ≤ am E k then (s.1, s.2 ||| ((1 : Int64) <<< ((nI (am E k)).toInt64 &&& 63))) else (s.1 ||| ((1 : Int64) <<< ((nI (am E k)).toInt64 &&& 63)), s.2)) else s
theorem s_X3_missing {h : HS} {e : Nat} {E : EL} (hE : ER h e E) : f_X3_missing e h = some (fw (miS E) 0 E.length 0, h) := by
  have hl := hE.2.1.1
  unfold f_X3_missing
  refine it_up (fun n (s : Int32) k => l_X3_missing_4 n e s (nI k) h) E.length (miS E) (fun s => some (s, h)) (fun _ _ => True) ?_ ?_ E.length FU 0 0 (by omega) (by have := FU_gt; omega) trivial
  · intro n s k hk _
    refine ⟨?_, trivial⟩
    show b_X3_missing_4 (l_X3_missing_4 n) e s (nI k) h = _
    unfold b_X3_missing_4 b_X3_missing_29
    have ha := (hE.2.1.2 k hk).2.2
    have hca : ca h (e + 3) 9 (nI k) = true := ca_nI hE.1.2.2.1.2.2 (by rw [hE.1.2.2.2.2.2]; omega) (by rw [hE.1.2.2.2.2.2]; omega)
    simp only [nn_s, hE.1.1, gd_t, hE.2.2.1, hE.1.2.1.2.2, hca, nI_clamp (show k < 2 ^ 31 by omega), (hE.2.2.2 k hk).2.2, nI_1]
    rw [ite_le (by omega) (by omega), if_neg (by omega), show (100 : Int32) = nI 100 from rfl, ite_eq (by omega) (by omega)]
    unfold miS
    split <;> rfl
  · intro n s _
    show b_X3_missing_4 (l_X3_missing_4 n) e s (nI E.length) h = _
    unfold b_X3_missing_4
    simp only [nn_s, hE.1.1, gd_t, hE.2.2.1]
    rw [ite_le (by omega) (by omega), if_pos (by omega)]
theorem s_X3_sumOf {h : HS} {e : Nat} {E : EL} (hE : ER h e E) (set : Int32) : f_X3_sumOf e set h = some (fw (suS E set) 0 E.length 0, h) := by
  have hl := hE.2.1.1
  unfold f_X3_sumOf
  refine it_up (fun n (s : Int32) k => l_X3_sumOf_4 n e set s (nI k) h) E.length (suS E set) (fun s => some (s, h)) (fun _ _ => True) ?_ ?_ E.length FU 0 0 (by omega) (by have := FU_gt; omega) trivial
  · intro n s k hk _
    refine ⟨?_, trivial⟩
    show b_X3_sumOf_4 (l_X3_sumOf_4 n) e set s (nI k) h = _
    unfold b_X3_sumOf_4 b_X3_sumOf_30
    have hca : ca h (e + 3) 9 (nI k) = true := ca_nI hE.1.2.2.1.2.2 (by rw [hE.1.2.2.2.2.2]; omega) (by rw [hE.1.2.2.2.2.2]; omega)
    simp only [nn_s, hE.1.1, gd_t, hE.2.2.1, hE.1.2.1.2.2, hca, nI_clamp (show k < 2 ^ 31 by omega), (hE.2.2.2 k hk).2.2, nI_1, tb1_1 set (show k < 32 by omega)]
    rw [ite_le (by omega) (by omega), if_neg (by omega)]
    unfold suS
    split <;> rfl
  · intro n s _
    show b_X3_sumOf_4 (l_X3_sumOf_4 n) e set s (nI E.length) h = _
    unfold b_X3_sumOf_4
    simp only [nn_s, hE.1.1, gd_t, hE.2.2.1]
    rw [ite_le (by omega) (by omega), if_pos (by omega)]
theorem s_X3_mostOf {h : HS} {e : Nat} {E : EL} (hE : ER h e E) (set : Int32) : f_X3_mostOf e set h = some (fw (moS E set) 0 E.length (-9), h) := by
  have hl := hE.2.1.1
  unfold f_X3_mostOf
  refine it_up (fun n (s : Int32) k => l_X3_mostOf_5 n e set s (nI k) h) E.length (moS E set) (fun s => some (s, h)) (fun _ _ => True) ?_ ?_ E.length FU (-9) 0 (by omega) (by have := FU_gt; omega) trivial
  · intro n s k hk _
    refine ⟨?_, trivial⟩
    show b_X3_mostOf_5 (l_X3_mostOf_5 n) e set s (nI k) h = _
    unfold b_X3_mostOf_5 b_X3_mostOf_39
    have hca : ca h (e + 3) 9 (nI k) = true := ca_nI hE.1.2.2.1.2.2 (by rw [hE.1.2.2.2.2.2]; omega) (by rw [hE.1.2.2.2.2.2]; omega)
    simp only [nn_s, hE.1.1, gd_t, hE.2.2.1, hE.1.2.1.2.2, hca, nI_clamp (show k < 2 ^ 31 by omega), (hE.2.2.2 k hk).2.2, nI_1, tb1_1 set (show k < 32 by omega)]
    rw [ite_le (by omega) (by omega), if_neg (by omega)]
    unfold moS
    split
    · split <;> rfl
    · rfl
  · intro n s _
    show b_X3_mostOf_5 (l_X3_mostOf_5 n) e set s (nI E.length) h = _
    unfold b_X3_mostOf_5
    simp only [nn_s, hE.1.1, gd_t, hE.2.2.1]
    rw [ite_le (by omega) (by omega), if_pos (by omega)]
theorem s_X3_leastOf {h : HS} {e : Nat} {E : EL} (hE : ER h e E) (set : Int32) : f_X3_leastOf e set h = some (if fw (leS E set) 0 E.length 100 = 100 then -9 else fw (leS E set) 0 E.length 100, h) := by
  have hl := hE.2.1.1
  unfold f_X3_leastOf
  refine it_up (fun n (s : Int32) k => l_X3_leastOf_5 n e set s (nI k) h) E.length (leS E set) (fun s => some (if s = 100 then -9 else s, h)) (fun _ _ => True) ?_ ?_ E.length FU 100 0 (by omega) (by have := FU_gt; omega) trivial
  · intro n s k hk _
    refine ⟨?_, trivial⟩
    show b_X3_leastOf_5 (l_X3_leastOf_5 n) e set s (nI k) h = _
    unfold b_X3_leastOf_5 b_X3_leastOf_39
    have hca : ca h (e + 3) 9 (nI k) = true := ca_nI hE.1.2.2.1.2.2 (by rw [hE.1.2.2.2.2.2]; omega) (by rw [hE.1.2.2.2.2.2]; omega)
    simp only [nn_s, hE.1.1, gd_t, hE.2.2.1, hE.1.2.1.2.2, hca, nI_clamp (show k < 2 ^ 31 by omega), (hE.2.2.2 k hk).2.2, nI_1, tb1_1 set (show k < 32 by omega)]
    rw [ite_le (by omega) (by omega), if_neg (by omega)]
    unfold leS
    split
    · split <;> rfl
    · rfl
  · intro n s _
    show b_X3_leastOf_5 (l_X3_leastOf_5 n) e set s (nI E.length) h = _
    unfold b_X3_leastOf_5 b_X3_leastOf_57
    simp only [nn_s, hE.1.1, gd_t, hE.2.2.1]
    rw [ite_le (by omega) (by omega), if_pos (by omega)]
    split <;> rfl
theorem s_X3_all {h : HS} {e : Nat} {E : EL} (hE : ER h e E) : f_X3_all e h = some (((1 : Int32) <<< (nI E.length &&& 31)) - 1, h) := by
  unfold f_X3_all
  simp only [nn_s, hE.1.1, gd_t, hE.2.2.1]
