/-! OPS: hidden -/
/-- a loop that counts up and then goes on -/
theorem it_to {α σ : Type} (F : Nat → σ → Nat → Option α) (N : Nat) (I : Nat → σ → Prop) (K : σ → Option α) (h1 : ∀ n s k, k < N → I k s → ∃ s', F (n + 1) s k = F n s' (k + 1) ∧ I (k + 1) s') (h2 : ∀ n s, I N s → F (n + 1) s N = K s) : ∀ (d n : Nat) (s : σ) (k : Nat), k + d = N → d < n → I k s → ∃ s', F n s k = K s' ∧ I N s'
  | 0, n, s, k, hk, hn, hI => by
    obtain ⟨n, rfl⟩ : ∃ m, n = m + 1 := ⟨n - 1, by omega⟩
    have : k = N := by omega
    subst this
    exact ⟨s, h2 n s hI, hI⟩
  | d + 1, n, s, k, hk, hn, hI => by
    obtain ⟨n, rfl⟩ : ∃ m, n = m + 1 := ⟨n - 1, by omega⟩
    obtain ⟨s', e, hI2⟩ := h1 n s k (by omega) hI
    rw [e]
    exact it_to F N I K h1 h2 d n s' (k + 1) (by omega) (by omega) hI2
theorem iteZ {α : Type} {k : Nat} (hk : k < 2 ^ 31) (A B : α) : (if nI k = 0 then A else B) = if k = 0 then A else B := ite_eq (b := 0) hk (by omega) A B
def hdS (b : Bool) (c : Nat) (s : Int32 × Nat) : Int32 × Nat := if b = true then (if s.2 = 0 then nI c else s.1, s.2 + 1) else s
def hF (a : ST) (L : List (Nat × Nat × Nat)) (s : Int32 × Nat) : Int32 × Nat := L.foldl (fun s v => hdS (mb a v) (one v) s) s
theorem hF_app (a : ST) (L M : List (Nat × Nat × Nat)) (s : Int32 × Nat) : hF a (L ++ M) s = hF a M (hF a L s) := by unfold hF; rw [List.foldl_append]
theorem hF_one (a : ST) (v : Nat × Nat × Nat) (s : Int32 × Nat) : hF a [v] s = hdS (mb a v) (one v) s := rfl
theorem hdS_le (b : Bool) (c : Nat) (s : Int32 × Nat) : (hdS b c s).2 ≤ s.2 + 1 := by
  unfold hdS
  split
  · exact Nat.le_refl _
  · exact Nat.le_succ _
def bB (t w m : Nat) : List (Nat × Nat × Nat) := (List.range m).map (fun m => (t, w, m))
def bW (t w : Nat) : List (Nat × Nat × Nat) := (List.range w).flatMap (fun w => bB t w 101)
def bT (t w : Nat) : List (Nat × Nat × Nat) := (List.range t).flatMap (fun t => bW t w)
theorem bB_s (t w m : Nat) : bB t w (m + 1) = bB t w m ++ [(t, w, m)] := by unfold bB; rw [List.range_succ, List.map_append]; rfl
theorem bW_s (t w : Nat) : bW t (w + 1) = bW t w ++ bB t w 101 := by unfold bW; rw [List.range_succ, List.flatMap_append]; simp
theorem bT_s (t w : Nat) : bT (t + 1) w = bT t w ++ bW t w := by unfold bT; rw [List.range_succ, List.flatMap_append]; simp
abbrev K7 : Type := Nat → Int32 → Int32 → Int32 → Int32 → Int32 → Int32 → HS → Option (Int32 × HS)
abbrev K8 : Type := Nat → Int32 → Int32 → Int32 → Int32 → Int32 → Int32 → Int32 → HS → Option (Int32 × HS)
theorem h9_amt {h : HS} {a : ST} (hR : R9 h a) (hn : a.2.2.1.length < 16) {x a2 a3 : Int32} {t w M : Nat} (ht : t < 4) (hw : w < 5) (hM : M ≤ 5000) (k71 : K7) (k80 : K8) (s0 : Int32 × Nat) (h0 : s0.2 ≤ M) : ∃ s' : Int32 × Nat × HS, l_X9_hidden_89 k71 k80 FU 0 x a2 a3 s0.1 (nI s0.2) (nI t) (nI w) 0 h = k80 0 x a2 a3 s'.1 (nI s'.2.1) (nI t) (nI (w + 1)) s'.2.2 ∧ ((s'.1, s'.2.1) = hF a (bB t w 101) s0 ∧ s'.2.1 ≤ M + 101 ∧ R9 s'.2.2 a ∧ Ch FQ h s'.2.2) := by
  refine it_to (fun n (s : Int32 × Nat × HS) k => l_X9_hidden_89 k71 k80 n 0 x a2 a3 s.1 (nI s.2.1) (nI t) (nI w) (nI k) s.2.2) 101 (fun k s => (s.1, s.2.1) = hF a (bB t w k) s0 ∧ s.2.1 ≤ M + k ∧ R9 s.2.2 a ∧ Ch FQ h s.2.2) (fun s' => k80 0 x a2 a3 s'.1 (nI s'.2.1) (nI t) (nI (w + 1)) s'.2.2) ?_ ?_ 101 FU (s0.1, s0.2, h) 0 (by omega) (by have := FU_gt; omega) ⟨rfl, by simp only; omega, hR, Ch.rf⟩
  · intro n s k hk hs
    obtain ⟨f, many, g⟩ := s
    obtain ⟨i1, i2, i3, i4⟩ := hs
    simp only at i1 i2 i3 i4
    obtain ⟨g1, r1, r2, r3⟩ := s_seen9 i3 hn (t := t) (w := w) (m := k) ⟨ht, hw, by show k ≤ 100; omega⟩
    obtain ⟨⟨p, q, hW⟩, -⟩ := id i3
    have e1 : hF a (bB t w (k + 1)) s0 = hdS (mb a (t, w, k)) (one (t, w, k)) (f, many) := by rw [bB_s, hF_app, ← i1]; rfl
    have eo : (10000 : Int32) * nI t + (1000 : Int32) * nI w + nI k = nI (one (t, w, k)) := by
      unfold one
      rw [show (10000 : Int32) = nI 10000 from rfl, show (1000 : Int32) = nI 1000 from rfl, nI_mul, nI_mul, nI_add, nI_add]
    have st : l_X9_hidden_89 k71 k80 (n + 1) 0 x a2 a3 f (nI many) (nI t) (nI w) (nI k) g = l_X9_hidden_89 k71 k80 n 0 x a2 a3 (hdS (mb a (t, w, k)) (one (t, w, k)) (f, many)).1 (nI (hdS (mb a (t, w, k)) (one (t, w, k)) (f, many)).2) (nI t) (nI w) (nI (k + 1)) g1 := by
      show b_X9_hidden_89 k71 k80 (l_X9_hidden_89 k71 k80 n) 0 x a2 a3 f (nI many) (nI t) (nI w) (nI k) g = _
      unfold b_X9_hidden_89 b_X9_hidden_135 b_X9_hidden_140
      rw [if_neg (show ¬ (100 : Int32) < nI k from nI_nlt (a := 100) (b := k) (by omega) (by omega))]
      simp only [nn_s, rk7, hW.1.1, gd_t, r1, bd_s, eo, nI_1]
      rw [iteZ (show many < 2 ^ 31 by omega)]
      unfold hdS
      cases mb a (t, w, k)
      · rw [if_pos (show b2 false = 0 from rfl)]; rfl
      · rw [if_neg (show ¬ b2 true = 0 by decide)]
        simp only [if_true]
        by_cases q0 : many = 0
        · simp only [q0, if_true]
        · simp only [q0, if_false]
    have hle := hdS_le (mb a (t, w, k)) (one (t, w, k)) (f, many)
    simp only at hle
    exact ⟨((hdS (mb a (t, w, k)) (one (t, w, k)) (f, many)).1, (hdS (mb a (t, w, k)) (one (t, w, k)) (f, many)).2, g1), st, e1.symm, by show (hdS (mb a (t, w, k)) (one (t, w, k)) (f, many)).2 ≤ _; omega, r2, i4.trans r3⟩
  · intro n s hs
    obtain ⟨f, many, g⟩ := s
    show b_X9_hidden_89 k71 k80 (l_X9_hidden_89 k71 k80 n) 0 x a2 a3 f (nI many) (nI t) (nI w) (nI 101) g = _
    unfold b_X9_hidden_89
    rw [if_pos (show (100 : Int32) < nI 101 by decide), nI_1]
theorem h9_war {h : HS} {a : ST} (hR : R9 h a) (hn : a.2.2.1.length < 16) {x a2 : Int32} {t W M : Nat} (ht : t < 4) (hW5 : W ≤ 5) (hM : M ≤ 3000) (k71 : K7) (s0 : Int32 × Nat) (h0 : s0.2 ≤ M) : ∃ s' : Int32 × Nat × HS, l_X9_hidden_80 k71 FU 0 x a2 (nI W) s0.1 (nI s0.2) (nI t) 0 h = k71 0 x a2 (nI W) s'.1 (nI s'.2.1) (nI (t + 1)) s'.2.2 ∧ ((s'.1, s'.2.1) = hF a (bW t W) s0 ∧ s'.2.1 ≤ M + 101 * W ∧ R9 s'.2.2 a ∧ Ch FQ h s'.2.2) := by
  refine it_to (fun n (s : Int32 × Nat × HS) k => l_X9_hidden_80 k71 n 0 x a2 (nI W) s.1 (nI s.2.1) (nI t) (nI k) s.2.2) W (fun k s => (s.1, s.2.1) = hF a (bW t k) s0 ∧ s.2.1 ≤ M + 101 * k ∧ R9 s.2.2 a ∧ Ch FQ h s.2.2) (fun s' => k71 0 x a2 (nI W) s'.1 (nI s'.2.1) (nI (t + 1)) s'.2.2) ?_ ?_ W FU (s0.1, s0.2, h) 0 (by omega) (by have := FU_gt; omega) ⟨rfl, by simp only; omega, hR, Ch.rf⟩
  · intro n s k hk hs
    obtain ⟨f, many, g⟩ := s
    obtain ⟨i1, i2, i3, i4⟩ := hs
    simp only at i1 i2 i3 i4
    obtain ⟨s', r1, r2, r3, r4, r5⟩ := h9_amt i3 hn (x := x) (a2 := a2) (a3 := nI W) (t := t) (w := k) (M := M + 101 * k) ht (by omega) (by omega) k71 (l_X9_hidden_80 k71 n) (f, many) (by simp only; omega)
    refine ⟨s', ?_, ?_, by omega, r4, i4.trans r5⟩
    · show b_X9_hidden_80 k71 (l_X9_hidden_80 k71 n) 0 x a2 (nI W) f (nI many) (nI t) (nI k) g = _
      unfold b_X9_hidden_80
      rw [if_neg (nI_ge hk (by omega))]
      exact r1
    · rw [bW_s, hF_app, ← i1]; exact r2
  · intro n s hs
    obtain ⟨f, many, g⟩ := s
    show b_X9_hidden_80 k71 (l_X9_hidden_80 k71 n) 0 x a2 (nI W) f (nI many) (nI t) (nI W) g = _
    unfold b_X9_hidden_80
    rw [if_pos (nI_le (by omega) (by omega)), nI_1]
theorem h9_all {h : HS} {a : ST} (hR : R9 h a) (hn : a.2.2.1.length < 16) {x : Int32} {T W : Nat} (hT : T ≤ 4) (hW5 : W ≤ 5) : ∃ h', l_X9_hidden_71 FU 0 x (nI T) (nI W) (-9) 0 0 h = some (if x = 0 then nI (hF a (bT T W) (-9, 0)).2 * ((if nI T = 1 then 4 else 1) * (if nI W = 1 then 5 else 1)) else (hF a (bT T W) (-9, 0)).1, h') ∧ R9 h' a ∧ Ch FQ h h' := by
  have key : ∃ s' : Int32 × Nat × HS, l_X9_hidden_71 FU 0 x (nI T) (nI W) (-9) (nI 0) 0 h = (fun s : Int32 × Nat × HS => (if nI T = 1 then b_X9_hidden_168 x (nI W) s.1 (nI s.2.1) 4 s.2.2 else b_X9_hidden_168 x (nI W) s.1 (nI s.2.1) 1 s.2.2)) s' ∧ ((s'.1, s'.2.1) = hF a (bT T W) (-9, 0) ∧ s'.2.1 ≤ 505 * T ∧ R9 s'.2.2 a ∧ Ch FQ h s'.2.2) := by
    refine it_to (fun n (s : Int32 × Nat × HS) k => l_X9_hidden_71 n 0 x (nI T) (nI W) s.1 (nI s.2.1) (nI k) s.2.2) T (fun k s => (s.1, s.2.1) = hF a (bT k W) (-9, 0) ∧ s.2.1 ≤ 505 * k ∧ R9 s.2.2 a ∧ Ch FQ h s.2.2) (fun s : Int32 × Nat × HS => (if nI T = 1 then b_X9_hidden_168 x (nI W) s.1 (nI s.2.1) 4 s.2.2 else b_X9_hidden_168 x (nI W) s.1 (nI s.2.1) 1 s.2.2)) ?_ ?_ T FU (-9, 0, h) 0 (by omega) (by have := FU_gt; omega) ⟨rfl, by simp only; omega, hR, Ch.rf⟩
    · intro n s k hk hs
      obtain ⟨f, many, g⟩ := s
      obtain ⟨i1, i2, i3, i4⟩ := hs
      simp only at i1 i2 i3 i4
      obtain ⟨s', r1, r2, r3, r4, r5⟩ := h9_war i3 hn (x := x) (a2 := nI T) (t := k) (W := W) (M := 505 * k) (by omega) hW5 (by omega) (l_X9_hidden_71 n) (f, many) i2
      refine ⟨s', ?_, ?_, by omega, r4, i4.trans r5⟩
      · show b_X9_hidden_71 (l_X9_hidden_71 n) 0 x (nI T) (nI W) f (nI many) (nI k) g = _
        unfold b_X9_hidden_71
        rw [if_neg (nI_ge hk (by omega))]
        exact r1
      · rw [bT_s, hF_app, ← i1]; exact r2
    · intro n s hs
      obtain ⟨f, many, g⟩ := s
      show b_X9_hidden_71 (l_X9_hidden_71 n) 0 x (nI T) (nI W) f (nI many) (nI T) g = _
      unfold b_X9_hidden_71
      rw [if_pos (nI_le (by omega) (by omega))]
  obtain ⟨s', r1, r2, r3, r4, r5⟩ := key
  rw [show nI 0 = 0 from rfl] at r1
  refine ⟨s'.2.2, ?_, r4, r5⟩
  rw [r1, ← r2]
  unfold b_X9_hidden_168 b_X9_hidden_178 b_X9_hidden_195
  by_cases q0 : x = 0
  · by_cases q1 : nI T = 1
    · by_cases q2 : nI W = 1
      · simp only [q0, q1, q2, if_true]
      · simp only [q0, q1, q2, if_true, if_false]
    · by_cases q2 : nI W = 1
      · simp only [q0, q1, q2, if_true, if_false]
      · simp only [q0, q1, q2, if_true, if_false]
  · simp only [q0, if_false]
    by_cases q1 : nI T = 1
    · by_cases q2 : nI W = 1
      · simp only [q1, q2, if_true]
      · simp only [q1, q2, if_true, if_false]
    · by_cases q2 : nI W = 1
      · simp only [q1, q2, if_true, if_false]
      · simp only [q1, q2, if_false]
/-! one list for all -/
theorem hF_cl (a : ST) : ∀ (L : List (Nat × Nat × Nat)) (s : Int32 × Nat), hF a L s = (if s.2 = 0 then ((L.find? (mb a)).elim s.1 (fun v => nI (one v))) else s.1, s.2 + L.countP (mb a))
  | [], s => by simp [hF]
  | v :: L, s => by
    show hF a L (hdS (mb a v) (one v) s) = _
    rw [hF_cl a L, List.find?_cons, List.countP_cons]
    unfold hdS
    cases hb : mb a v
    · simp
    · by_cases q : s.2 = 0
      · simp [q, Nat.add_comm]
      · simp [q]; omega
theorem all_eq : (List.range 2020).map (fun k => (k / 505, k / 101 % 5, k % 101)) = bT 4 5 := by decide +kernel
theorem cB {a : ST} {t w t' w' : Nat} (h : ∀ m, mb a (t, w, m) = mb a (t', w', m)) : (bB t w 101).countP (mb a) = (bB t' w' 101).countP (mb a) ∧ ((bB t w 101).find? (mb a) = none ↔ (bB t' w' 101).find? (mb a) = none) := by
  have e : (mb a ∘ fun m => (t, w, m)) = (mb a ∘ fun m => (t', w', m)) := funext h
  constructor
  · unfold bB
    rw [List.countP_map, List.countP_map, e]
  · unfold bB
    rw [List.find?_map, List.find?_map, e]
    simp
theorem or_no {α : Type} {x y z : Option α} (h : y = none ↔ x = none) : x.or (y.or z) = x.or z := by
  cases x with
  | none => rw [h.mpr rfl]; rfl
  | some v => rfl
theorem bW_1 (t : Nat) : bW t 1 = bB t 0 101 := by simp [bW, List.range_succ]
theorem bW_5 (t : Nat) : bW t 5 = bB t 0 101 ++ (bB t 1 101 ++ (bB t 2 101 ++ (bB t 3 101 ++ bB t 4 101))) := by simp [bW, List.range_succ]
theorem bT_1 (w : Nat) : bT 1 w = bW 0 w := by simp [bT, List.range_succ]
theorem bT_4 (w : Nat) : bT 4 w = bW 0 w ++ (bW 1 w ++ (bW 2 w ++ bW 3 w)) := by simp [bT, List.range_succ]
theorem or_self2 {α : Type} {x y : Option α} (h : y = none ↔ x = none) : x.or y = x := by
  cases x with
  | none => rw [h.mpr rfl]; rfl
  | some v => rfl
theorem W5_1 {a : ST} {t : Nat} (h : ∀ w m, mb a (t, w, m) = mb a (t, 0, m)) : (bW t 5).countP (mb a) = 5 * (bW t 1).countP (mb a) ∧ (bW t 5).find? (mb a) = (bW t 1).find? (mb a) := by
  obtain ⟨c1, f1⟩ := cB (h 1)
  obtain ⟨c2, f2⟩ := cB (h 2)
  obtain ⟨c3, f3⟩ := cB (h 3)
  obtain ⟨c4, f4⟩ := cB (h 4)
  rw [bW_5, bW_1]
  simp only [List.countP_append, List.find?_append, c1, c2, c3, c4]
  exact ⟨by omega, by rw [or_no f1, or_no f2, or_no f3, or_self2 f4]⟩
theorem T4_1 {a : ST} (W : Nat) (h : ∀ t, (bW t W).countP (mb a) = (bW 0 W).countP (mb a) ∧ ((bW t W).find? (mb a) = none ↔ (bW 0 W).find? (mb a) = none)) : (bT 4 W).countP (mb a) = 4 * (bT 1 W).countP (mb a) ∧ (bT 4 W).find? (mb a) = (bT 1 W).find? (mb a) := by
  obtain ⟨c1, f1⟩ := h 1
  obtain ⟨c2, f2⟩ := h 2
  obtain ⟨c3, f3⟩ := h 3
  rw [bT_4, bT_1]
  simp only [List.countP_append, List.find?_append, c1, c2, c3]
  exact ⟨by omega, by rw [or_no f1, or_no f2, or_self2 f3]⟩
theorem bT_W {a : ST} (h : ∀ t w m, mb a (t, w, m) = mb a (t, 0, m)) (T : Nat) (hT : T = 1 ∨ T = 4) : (bT T 5).countP (mb a) = 5 * (bT T 1).countP (mb a) ∧ (bT T 5).find? (mb a) = (bT T 1).find? (mb a) := by
  obtain ⟨c0, f0⟩ := W5_1 (a := a) (t := 0) (h 0)
  obtain ⟨c1, f1⟩ := W5_1 (a := a) (t := 1) (h 1)
  obtain ⟨c2, f2⟩ := W5_1 (a := a) (t := 2) (h 2)
  obtain ⟨c3, f3⟩ := W5_1 (a := a) (t := 3) (h 3)
  rcases hT with q | q
  · subst q
    rw [bT_1, bT_1]
    exact ⟨c0, f0⟩
  · subst q
    rw [bT_4, bT_4]
    simp only [List.countP_append, List.find?_append, c0, c1, c2, c3, f0, f1, f2, f3]
    exact ⟨by omega, trivial⟩
theorem bW_t {a : ST} (h : ∀ t w m, mb a (t, w, m) = mb a (0, w, m)) (t : Nat) : (bW t 5).countP (mb a) = (bW 0 5).countP (mb a) ∧ ((bW t 5).find? (mb a) = none ↔ (bW 0 5).find? (mb a) = none) := by
  obtain ⟨c0, f0⟩ := cB (h t 0)
  obtain ⟨c1, f1⟩ := cB (h t 1)
  obtain ⟨c2, f2⟩ := cB (h t 2)
  obtain ⟨c3, f3⟩ := cB (h t 3)
  obtain ⟨c4, f4⟩ := cB (h t 4)
  rw [bW_5, bW_5]
  simp only [List.countP_append, List.find?_append, c0, c1, c2, c3, c4, Option.or_eq_none_iff, f0, f1, f2, f3, f4]
  exact ⟨trivial, trivial⟩
def sp_hidden (x : Int32) (a : ST) : Int32 := if x.toInt = 0 ∨ x.toInt = 1 then (if a.2.2.1.length < 16 then (if x = 0 then nI (hF a (bT 4 5) (-9, 0)).2 else (hF a (bT 4 5) (-9, 0)).1) else -4) else -2
theorem hid_al {a : ST} {T W : Nat} (hf : a.2.1.1 ≤ 2) (hT : T = if a.2.1.1 = 0 then 4 else 1) (hW : W = if a.2.1.1 = 1 then 5 else 1) : nI (hF a (bT T W) (-9, 0)).2 * ((if nI T = 1 then 4 else 1) * (if nI W = 1 then 5 else 1)) = nI (hF a (bT 4 5) (-9, 0)).2 ∧ (hF a (bT T W) (-9, 0)).1 = (hF a (bT 4 5) (-9, 0)).1 := by
  have e41 : ¬ nI 4 = 1 := by decide
  have e11 : nI 1 = 1 := rfl
  have e51 : ¬ nI 5 = 1 := by decide
  rw [hF_cl, hF_cl]
  simp only [if_true, Nat.zero_add]
  by_cases q0 : a.2.1.1 = 0
  · rw [if_pos q0] at hT
    rw [if_neg (by omega)] at hW
    subst hT hW
    obtain ⟨c, f⟩ := bT_W (a := a) (fun t w m => mb_in (fun _ => rfl) (fun z => by omega)) 4 (Or.inr rfl)
    rw [c, f, if_neg e41, if_pos e11]
    refine ⟨?_, rfl⟩
    rw [show (1 : Int32) * 5 = nI 5 by decide, nI_mul, Nat.mul_comm]
  · rw [if_neg q0] at hT
    subst hT
    by_cases q1 : a.2.1.1 = 1
    · rw [if_pos q1] at hW
      subst hW
      obtain ⟨c, f⟩ := T4_1 (a := a) 5 (bW_t (fun t w m => mb_in (fun z => by omega) (fun _ => rfl)))
      rw [c, f, if_pos e11, if_neg e51]
      refine ⟨?_, rfl⟩
      rw [show (4 : Int32) * 1 = nI 4 by decide, nI_mul, Nat.mul_comm]
    · rw [if_neg q1] at hW
      subst hW
      obtain ⟨c, f⟩ := bT_W (a := a) (fun t w m => mb_in (fun _ => rfl) (fun z => by omega)) 1 (Or.inl rfl)
      obtain ⟨c2, f2⟩ := T4_1 (a := a) 5 (bW_t (fun t w m => mb_in (fun z => by omega) (fun _ => rfl)))
      rw [c2, f2, c, f, if_pos e11, if_pos e11]
      refine ⟨?_, rfl⟩
      rw [show (4 : Int32) * 5 = nI 20 by decide, nI_mul]
      congr 1
      omega
theorem o9_hidden {h : HS} {a : ST} (hR : R9 h a) (x : Int32) : ∃ h', f_X9_hidden 0 x h = some (sp_hidden x a, h') ∧ R9 h' a ∧ Ch F9 h h' := by
  obtain ⟨⟨p, q, hW⟩, x2, x3, x4, x5, x6, x7, x8⟩ := id hR
  have hf := hW.2.2.1.1
  have hpf := hW.2.1.2.1
  unfold f_X9_hidden sp_hidden
  rw [s_X9_isOneOfTwo]
  simp only [bd_s]
  by_cases q0 : x.toInt = 0 ∨ x.toInt = 1
  · simp only [q0, if_true, one0, if_false, nn_s, hW.1.1, gd_t, hW.1.2.2.2.2.1, rk3, x3.1.1, s_X3_hasRoom x3, bd_s]
    by_cases h16 : a.2.2.1.length < 16
    · simp only [h16, if_true, one0, if_false, hW.1.2.2.1, nn_s, hW.2.1.1, gd_t, hpf, en1_f (show a.2.1.1 ≤ 3 by omega), show en1 (some 1000) = true from rfl, Bool.and_self, Bool.true_or]
      unfold b_X9_hidden_41 b_X9_hidden_60
      simp only [nn_s, hW.1.1, gd_t, hW.1.2.2.1, hW.2.1.1, hpf, en1_f (show a.2.1.1 ≤ 3 by omega), show en1 (some 1001) = true from rfl, Bool.and_self, Bool.true_or]
      obtain ⟨T, hT⟩ : ∃ T, T = if a.2.1.1 = 0 then 4 else 1 := ⟨_, rfl⟩
      obtain ⟨W, hWW⟩ : ∃ W, W = if a.2.1.1 = 1 then 5 else 1 := ⟨_, rfl⟩
      have hT4 : T ≤ 4 := by rw [hT]; split <;> omega
      have hW5 : W ≤ 5 := by rw [hWW]; split <;> omega
      obtain ⟨h', r1, r2, r3⟩ := h9_all hR h16 (x := x) (T := T) (W := W) hT4 hW5
      obtain ⟨e1, e2⟩ := hid_al hf hT hWW
      refine ⟨h', ?_, r2, r3.mono (fun m k z => FQ_F9 z)⟩
      rw [e1, e2] at r1
      rw [← r1, hT, hWW]
      by_cases f0 : a.2.1.1 = 0
      · simp only [f0, Nat.add_zero, if_true, show ((0 : Nat) = 1) = False by decide, if_false, show (some 1000 = some 1001) = False by decide]
        rfl
      · by_cases f1 : a.2.1.1 = 1
        · simp only [f1, show ((1 : Nat) = 0) = False by decide, if_true, if_false, show (some (1000 + 1) = some 1000) = False by decide, show (some (1000 + 1) = some 1001) = True by decide]
          rfl
        · have f2 : a.2.1.1 = 2 := by omega
          simp only [f2, show ((2 : Nat) = 0) = False by decide, show ((2 : Nat) = 1) = False by decide, if_false, show (some (1000 + 2) = some 1000) = False by decide, show (some (1000 + 2) = some 1001) = False by decide]
          rfl
    · simp only [h16, if_false, if_true]
      exact ⟨h, rfl, hR, Ch.rf⟩
  · simp only [q0, if_false, if_true]
    exact ⟨h, rfl, hR, Ch.rf⟩
theorem o10_hidden {h : HS} {a : ST} (hR : R10 h a) (x : Int32) : ∃ h', f_X10_hidden 42 x h = some (sp_hidden x a, h') ∧ R10 h' a ∧ Ch F10 h h' := by
  obtain ⟨hC, hP, hV, x4, x5, x6, x7, x8, k0, k1⟩ := id hR
  have hn := x5.1.1
  have hmany := s_X10_many hC (lv := 0) (by omega) x5
  rw [show nI 0 = 0 from rfl] at hmany
  unfold f_X10_hidden sp_hidden
  rw [s_in01]
  simp only [bd_s]
  by_cases q0 : x.toInt = 0 ∨ x.toInt = 1
  · simp only [q0, if_true, one0, if_false, nn_s, rk8, hC.1.1, gd_t, hmany, bd_s]
    rw [show (16 : Int32) = nI 16 from rfl, ite_eq (by omega) (by omega)]
    by_cases h16 : a.2.2.1.length < 16
    · rw [if_neg (by omega), if_pos h16]
      have key : ∃ s' : Int32 × Nat × HS, l_X10_hidden_34 FU 42 x (nI 0) (-9) 0 h = (fun s : Int32 × Nat × HS => some (if x = 0 then nI s.2.1 else s.1, s.2.2)) s' ∧ ((s'.1, s'.2.1) = hF a ((List.range 2020).map (fun k => (k / 505, k / 101 % 5, k % 101))) (-9, 0) ∧ s'.2.1 ≤ 2020 ∧ R10 s'.2.2 a ∧ Ch FM h s'.2.2) := by
        refine it_to (fun n (s : Int32 × Nat × HS) k => l_X10_hidden_34 n 42 x (nI s.2.1) s.1 (nI k) s.2.2) 2020 (fun k s => (s.1, s.2.1) = hF a ((List.range k).map (fun k => (k / 505, k / 101 % 5, k % 101))) (-9, 0) ∧ s.2.1 ≤ k ∧ R10 s.2.2 a ∧ Ch FM h s.2.2) (fun s : Int32 × Nat × HS => some (if x = 0 then nI s.2.1 else s.1, s.2.2)) ?_ ?_ 2020 FU (-9, 0, h) 0 (by omega) (by have := FU_gt; omega) ⟨rfl, by simp only; omega, hR, Ch.rf⟩
        · intro n s k hk hs
          obtain ⟨f, many, g⟩ := s
          obtain ⟨i1, i2, i3, i4⟩ := hs
          simp only at i1 i2 i3 i4
          have t4 : k / 505 < 4 := by omega
          have w5 : k / 101 % 5 < 5 := by omega
          have m1 : k % 101 ≤ 100 := by omega
          obtain ⟨g1, r1, r2, r3⟩ := s_may10 i3 h16 (v := (k / 505, k / 101 % 5, k % 101)) ⟨t4, w5, m1⟩
          have e1 : hF a ((List.range (k + 1)).map (fun k => (k / 505, k / 101 % 5, k % 101))) (-9, 0) = hdS (mb a (k / 505, k / 101 % 5, k % 101)) (one (k / 505, k / 101 % 5, k % 101)) (f, many) := by
            rw [List.range_succ, List.map_append, hF_app, ← i1]; rfl
          have q1 : nI k / 505 = nI (k / 505) := nI_div (b := 505) (by omega) (by omega) (by omega)
          have q2 : nI k / 101 - nI k / 101 / 5 * 5 = nI (k / 101 % 5) := by
            rw [show nI k / 101 = nI (k / 101) from nI_div (b := 101) (by omega) (by omega) (by omega)]
            exact nI_rem (d := 5) (by omega) (by omega) (by omega)
          have q3 : nI k - nI k / 101 * 101 = nI (k % 101) := nI_rem (d := 101) (by omega) (by omega) (by omega)
          have st : l_X10_hidden_34 (n + 1) 42 x (nI many) f (nI k) g = l_X10_hidden_34 n 42 x (nI (hdS (mb a (k / 505, k / 101 % 5, k % 101)) (one (k / 505, k / 101 % 5, k % 101)) (f, many)).2) (hdS (mb a (k / 505, k / 101 % 5, k % 101)) (one (k / 505, k / 101 % 5, k % 101)) (f, many)).1 (nI (k + 1)) g1 := by
            show b_X10_hidden_34 (l_X10_hidden_34 n) 42 x (nI many) f (nI k) g = _
            unfold b_X10_hidden_34 b_X10_hidden_84 b_X10_hidden_88
            rw [if_neg (show ¬ (2020 : Int32) ≤ nI k from nI_ge (a := k) (b := 2020) (by omega) (by omega))]
            simp only [show decide (¬ (505 : Int32) = 0) = true by decide, show decide (¬ (101 : Int32) = 0) = true by decide, show decide (¬ (5 : Int32) = 0) = true by decide, gd_t, q1, q2, q3, asOne_eq, bd_s, nn_s, rk8, i3.1.1.1, r1, nI_1]
            rw [iteZ (show many < 2 ^ 31 by omega)]
            unfold hdS
            cases mb a (k / 505, k / 101 % 5, k % 101)
            · rw [if_pos (show b2 false = 0 from rfl)]; rfl
            · rw [if_neg (show ¬ b2 true = 0 by decide)]
              simp only [if_true]
              by_cases q0 : many = 0
              · simp only [q0, if_true]
              · simp only [q0, if_false]
          have hle := hdS_le (mb a (k / 505, k / 101 % 5, k % 101)) (one (k / 505, k / 101 % 5, k % 101)) (f, many)
          simp only at hle
          exact ⟨((hdS (mb a (k / 505, k / 101 % 5, k % 101)) (one (k / 505, k / 101 % 5, k % 101)) (f, many)).1, (hdS (mb a (k / 505, k / 101 % 5, k % 101)) (one (k / 505, k / 101 % 5, k % 101)) (f, many)).2, g1), st, e1.symm, by show (hdS (mb a (k / 505, k / 101 % 5, k % 101)) (one (k / 505, k / 101 % 5, k % 101)) (f, many)).2 ≤ _; omega, r2, i4.trans r3⟩
        · intro n s hs
          obtain ⟨f, many, g⟩ := s
          show b_X10_hidden_34 (l_X10_hidden_34 n) 42 x (nI many) f (nI 2020) g = _
          unfold b_X10_hidden_34 b_X10_hidden_103
          rw [if_pos (show (2020 : Int32) ≤ nI 2020 by decide)]
          by_cases q0 : x = 0
          · simp only [q0, if_true]
          · simp only [q0, if_false]
      obtain ⟨s', r1, r2, r3, r4, r5⟩ := key
      rw [show nI 0 = 0 from rfl] at r1
      rw [all_eq] at r2
      refine ⟨s'.2.2, ?_, r4, r5.mono (fun m k z => FM_F10 z)⟩
      rw [r1, ← r2]
    · rw [if_pos (by omega), if_neg h16]
      exact ⟨h, rfl, hR, Ch.rf⟩
  · simp only [q0, if_false, if_true]
    exact ⟨h, rfl, hR, Ch.rf⟩
