/-! PURE: sets of entries and their measures -/
theorem fw_fold {σ : Type} (st : Nat → σ → σ) : ∀ (d k : Nat) (s : σ), fw st k d s = (List.range' k d).foldl (fun s e => st e s) s
  | 0, _, _ => rfl
  | d + 1, k, s => by
    show fw st (k + 1) d (st k s) = _
    rw [fw_fold st d (k + 1), List.range'_succ, List.foldl_cons]
theorem fw_sel {σ : Type} (P : Nat → Bool) (a : Nat → Nat) (g : σ → Nat → σ) (n : Nat) (s : σ) : fw (fun e s => if P e = true then g s (a e) else s) 0 n s = (((List.range n).filter P).map a).foldl g s := by
  rw [fw_fold, List.foldl_map, List.foldl_filter, ← List.range_eq_range']
def sel (E : EL) (set : Int32) : List Nat := ((List.range E.length).filter (fun e => bt set e)).map (am E)
def SB (n : Nat) (set : Int32) : Prop := ∀ i, n ≤ i → bt set i = false
def told (L : List Nat) : List Nat := L.filter (fun a => !(a == 100))
def kn : List Nat → List Nat → Nat
  | _, [] => 0
  | S, a :: t => if a ∈ S then kn S t else kn (a :: S) t + 1
def mL (me : Nat) (L : List Nat) : Int32 :=
  if L = [] then -9
  else if me = 0 then nI L.length
  else if me = 1 then (told L).foldl (fun s a => s + nI a) 0
  else if me = 2 then (told L).foldl (fun s a => if nI a ≤ s then s else nI a) (-9)
  else if me = 3 then (told L).foldl (fun s a => if s = -9 ∨ nI a < s then nI a else s) (-9)
  else nI (kn [] (told L))
theorem sel_nil {E : EL} {set : Int32} (hS : SB E.length set) : sel E set = [] ↔ set = 0 := by
  simp only [sel, List.map_eq_nil_iff, List.filter_eq_nil_iff, List.mem_range]
  constructor
  · intro h
    refine b_ext (fun i _ => ?_)
    rw [b_0]
    by_cases hi : i < E.length
    · simpa using h i hi
    · exact hS i (by omega)
  · intro h i _
    rw [h, b_0]
    simp
theorem bt_mi {E : EL} (hE : E.length ≤ 16) : ∀ (d k : Nat) (s : Int32), k + d = E.length → ∀ i, i < 32 → bt (fw (miS E) k d s) i = (bt s i || (decide (k ≤ i ∧ i < E.length) && am E i == 100))
  | 0, k, s, h, i, hi => by
    show bt s i = _
    have : ¬ (k ≤ i ∧ i < E.length) := by omega
    simp [this]
  | d + 1, k, s, h, i, hi => by
    show bt (fw (miS E) (k + 1) d (miS E k s)) i = _
    rw [bt_mi hE d (k + 1) _ (by omega) i hi]
    unfold miS
    by_cases h1 : i = k
    · subst h1
      rw [show decide (i + 1 ≤ i ∧ i < E.length) = false from decide_eq_false (by omega), show decide (i ≤ i ∧ i < E.length) = true from decide_eq_true (by omega)]
      simp only [Bool.false_and, Bool.or_false, Bool.true_and]
      split
      · next q => rw [b_or, sh1 (by omega) hi]; simp [q]
      · next q => simp [q]
    · have e1 : (k + 1 ≤ i ∧ i < E.length) ↔ (k ≤ i ∧ i < E.length) := by omega
      simp only [e1]
      split
      · rw [b_or, sh1 (by omega) hi]; simp [h1]
      · rfl
theorem bt_told {E : EL} (hE : E.length ≤ 16) (set : Int32) {i : Nat} (hi : i < E.length) : bt (set &&& (fw (miS E) 0 E.length 0 ^^^ -1)) i = (bt set i && !(am E i == 100)) := by
  rw [b_and, bt_not _ (by omega), bt_mi hE E.length 0 0 (by omega) i (by omega), b_0]
  have : 0 ≤ i ∧ i < E.length := by omega
  simp [this]
theorem sel_told {E : EL} (hE : E.length ≤ 16) (set : Int32) : sel E (set &&& (fw (miS E) 0 E.length 0 ^^^ -1)) = told (sel E set) := by
  simp only [sel, told, List.filter_map, List.filter_filter]
  congr 1
  refine List.filter_congr (fun i hi => ?_)
  rw [bt_told hE set (List.mem_range.mp hi), Bool.and_comm]
  rfl
theorem sel_am {E : EL} (hE : EV E) (set : Int32) : ∀ a, a ∈ sel E set → a ≤ 100 := by
  intro a ha
  simp only [sel, List.mem_map, List.mem_filter, List.mem_range] at ha
  obtain ⟨i, ⟨h1, _⟩, rfl⟩ := ha
  exact (hE.2 i h1).2.2
theorem told_am {L : List Nat} (h : ∀ a, a ∈ L → a ≤ 100) : ∀ a, a ∈ told L → a ≤ 99 := by
  intro a ha
  simp only [told, List.mem_filter] at ha
  have := h a ha.1
  have h2 : ¬ a = 100 := by simpa using ha.2
  omega
theorem cnt_sel {E : EL} (hE : E.length ≤ 16) {set : Int32} (hS : SB E.length set) : pc 32 (uI set) = (sel E set).length := by
  rw [pc_range, sel, List.length_map]
  obtain ⟨d, hd⟩ : ∃ d, 32 = E.length + d := ⟨32 - E.length, by omega⟩
  rw [hd, List.range_add, List.filter_append, List.length_append]
  have e : (List.map (fun x => E.length + x) (List.range d)).filter (fun i => (uI set).testBit i) = [] := by
    rw [List.filter_eq_nil_iff]
    intro i hi
    obtain ⟨j, _, rfl⟩ := List.mem_map.mp hi
    have := hS (E.length + j) (by omega)
    rw [bt_uI] at this
    simp [this]
  rw [e, List.length_nil, Nat.add_zero]
  rfl
theorem nI_ne9 {v : Nat} (h : v ≤ 2000) : ¬ nI v = -9 := by
  intro q
  have := congrArg Int32.toInt q
  rw [nI_i (by omega)] at this
  have e : (-9 : Int32).toInt = -9 := by decide
  omega
theorem least_eq : ∀ (T : List Nat), (∀ a, a ∈ T → a ≤ 99) → ∀ (sc sm : Int32), ((sc = 100 ∧ sm = -9) ∨ ∃ v, v ≤ 99 ∧ sc = nI v ∧ sm = nI v) → (if T.foldl (fun s a => if s ≤ nI a then s else nI a) sc = 100 then -9 else T.foldl (fun s a => if s ≤ nI a then s else nI a) sc) = T.foldl (fun s a => if s = -9 ∨ nI a < s then nI a else s) sm
  | [], _, sc, sm, h => by
    rcases h with ⟨rfl, rfl⟩ | ⟨v, hv, rfl, rfl⟩
    · rfl
    · exact if_neg (show ¬ nI v = nI 100 by rw [nI_eq (by omega) (by omega)]; omega)
  | a :: t, hT, sc, sm, h => by
    have ha := hT a List.mem_cons_self
    simp only [List.foldl_cons]
    refine least_eq t (fun b hb => hT b (List.mem_cons_of_mem _ hb)) _ _ ?_
    rcases h with ⟨rfl, rfl⟩ | ⟨v, hv, rfl, rfl⟩
    · right
      refine ⟨a, ha, ?_, by simp⟩
      rw [show (100 : Int32) = nI 100 from rfl, if_neg (by rw [nI_leI (by omega) (by omega)]; omega)]
    · right
      simp only [nI_leI (show v < 2 ^ 31 by omega) (show a < 2 ^ 31 by omega), nI_ltI (show a < 2 ^ 31 by omega) (show v < 2 ^ 31 by omega), nI_ne9 (show v ≤ 2000 by omega), false_or]
      by_cases q : v ≤ a
      · refine ⟨v, hv, by simp [q], ?_⟩
        rw [if_neg (by omega)]
      · refine ⟨a, ha, by simp [q], ?_⟩
        rw [if_pos (by omega)]
theorem sh64 : ∀ a, a < 100 → uJ ((1 : Int64) <<< ((nI a).toInt64 &&& 63)) = 2 ^ (a % 64) := by decide +kernel
theorem uJ_0 : uJ 0 = 0 := by decide +kernel
def kiG (s : Int64 × Int64) (a : Nat) : Int64 × Int64 := if 64 ≤ a then (s.1, s.2 ||| ((1 : Int64) <<< ((nI a).toInt64 &&& 63))) else (s.1 ||| ((1 : Int64) <<< ((nI a).toInt64 &&& 63)), s.2)
theorem kinds_eq : ∀ (T : List Nat), (∀ a, a ∈ T → a ≤ 99) → ∀ (S : List Nat) (lo hi : Int64), (∀ v, v < 64 → ((uJ lo).testBit v = true ↔ v ∈ S)) → (∀ v, v < 36 → ((uJ hi).testBit v = true ↔ v + 64 ∈ S)) → pc 64 (uJ (T.foldl kiG (lo, hi)).1) + pc 64 (uJ (T.foldl kiG (lo, hi)).2) = pc 64 (uJ lo) + pc 64 (uJ hi) + kn S T
  | [], _, S, lo, hi, _, _ => by simp only [List.foldl_nil, kn, Nat.add_zero]
  | a :: t, hT, S, lo, hi, h1, h2 => by
    have ha := hT a List.mem_cons_self
    have ht := fun b hb => hT b (List.mem_cons_of_mem _ hb)
    rw [List.foldl_cons]
    have hsh := sh64 a (by omega)
    by_cases q : 64 ≤ a
    · have eg : kiG (lo, hi) a = (lo, hi ||| ((1 : Int64) <<< ((nI a).toInt64 &&& 63))) := by simp [kiG, q]
      have em : a % 64 = a - 64 := by omega
      have eu : uJ (hi ||| ((1 : Int64) <<< ((nI a).toInt64 &&& 63))) = uJ hi ||| 2 ^ (a - 64) := by rw [uJ_or, hsh, em]
      have hp := pc_or 64 (uJ hi) (a - 64) (by omega)
      have hb := h2 (a - 64) (by omega)
      rw [show a - 64 + 64 = a by omega] at hb
      rw [eg]
      simp only [kn]
      by_cases hm : a ∈ S
      · rw [if_pos hm, kinds_eq t ht S _ _ h1 (fun v hv => ?_), eu, hp, if_pos (hb.mpr hm)]
        · omega
        · rw [eu, Nat.testBit_or, Nat.testBit_two_pow, Bool.or_eq_true, h2 v hv]
          refine ⟨fun z => z.elim id (fun z => ?_), Or.inl⟩
          have : v + 64 = a := by have := of_decide_eq_true z; omega
          rw [this]; exact hm
      · rw [if_neg hm, kinds_eq t ht (a :: S) _ _ (fun v hv => ?_) (fun v hv => ?_), eu, hp, if_neg (fun z => hm (hb.mp z))]
        · omega
        · rw [h1 v hv, List.mem_cons]
          exact ⟨Or.inr, fun z => z.elim (fun z => by omega) id⟩
        · rw [eu, Nat.testBit_or, Nat.testBit_two_pow, Bool.or_eq_true, h2 v hv, List.mem_cons, decide_eq_true_eq]
          constructor
          · rintro (z | z)
            · exact Or.inr z
            · exact Or.inl (by omega)
          · rintro (z | z)
            · exact Or.inr (by omega)
            · exact Or.inl z
    · have eg : kiG (lo, hi) a = (lo ||| ((1 : Int64) <<< ((nI a).toInt64 &&& 63)), hi) := by simp [kiG, q]
      have em : a % 64 = a := by omega
      have eu : uJ (lo ||| ((1 : Int64) <<< ((nI a).toInt64 &&& 63))) = uJ lo ||| 2 ^ a := by rw [uJ_or, hsh, em]
      have hp := pc_or 64 (uJ lo) a (by omega)
      have hb := h1 a (by omega)
      rw [eg]
      simp only [kn]
      by_cases hm : a ∈ S
      · rw [if_pos hm, kinds_eq t ht S _ _ (fun v hv => ?_) h2, eu, hp, if_pos (hb.mpr hm)]
        · omega
        · rw [eu, Nat.testBit_or, Nat.testBit_two_pow, Bool.or_eq_true, h1 v hv]
          refine ⟨fun z => z.elim id (fun z => ?_), Or.inl⟩
          have : v = a := by have := of_decide_eq_true z; omega
          rw [this]; exact hm
      · rw [if_neg hm, kinds_eq t ht (a :: S) _ _ (fun v hv => ?_) (fun v hv => ?_), eu, hp, if_neg (fun z => hm (hb.mp z))]
        · omega
        · rw [eu, Nat.testBit_or, Nat.testBit_two_pow, Bool.or_eq_true, h1 v hv, List.mem_cons, decide_eq_true_eq]
          constructor
          · rintro (z | z)
            · exact Or.inr z
            · exact Or.inl (by omega)
          · rintro (z | z)
            · exact Or.inr (by omega)
            · exact Or.inl z
        · rw [h2 v hv, List.mem_cons]
          exact ⟨Or.inr, fun z => z.elim (fun z => by omega) id⟩
theorem s_X3_kindsOf {h : HS} {e : Nat} {E : EL} (hE : ER h e E) (set : Int32) : f_X3_kindsOf e set h = some (nI (pc 64 (uJ (fw (kiS E set) 0 E.length (0, 0)).1)) + nI (pc 64 (uJ (fw (kiS E set) 0 E.length (0, 0)).2)), h) := by
  have hl := hE.2.1.1
  unfold f_X3_kindsOf
  refine it_up (fun n (s : Int64 × Int64) k => l_X3_kindsOf_8 n e set s.1 s.2 (nI k) h) E.length (kiS E set) (fun s => some (nI (pc 64 (uJ s.1)) + nI (pc 64 (uJ s.2)), h)) (fun _ _ => True) ?_ ?_ E.length FU (0, 0) 0 (by omega) (by have := FU_gt; omega) trivial
  · intro n s k hk _
    refine ⟨?_, trivial⟩
    show b_X3_kindsOf_8 (l_X3_kindsOf_8 n) e set s.1 s.2 (nI k) h = _
    unfold b_X3_kindsOf_8 b_X3_kindsOf_68
    have ha := (hE.2.1.2 k hk).2.2
    have hca : ca h (e + 3) 9 (nI k) = true := ca_nI hE.1.2.2.1.2.2 (by rw [hE.1.2.2.2.2.2]; omega) (by rw [hE.1.2.2.2.2.2]; omega)
    simp only [nn_s, hE.1.1, gd_t, hE.2.2.1, hE.1.2.1.2.2, hca, nI_clamp (show k < 2 ^ 31 by omega), (hE.2.2.2 k hk).2.2, nI_1, tb1_1 set (show k < 32 by omega)]
    rw [ite_le (by omega) (by omega), if_neg (by omega), show (64 : Int32) = nI 64 from rfl, ite_le (by omega) (by omega)]
    unfold kiS
    split
    · split <;> rfl
    · rfl
  · intro n s _
    show b_X3_kindsOf_8 (l_X3_kindsOf_8 n) e set s.1 s.2 (nI E.length) h = _
    unfold b_X3_kindsOf_8
    simp only [nn_s, hE.1.1, gd_t, hE.2.2.1, bc64, bd_s]
    rw [ite_le (by omega) (by omega), if_pos (by omega)]
theorem s_X5_of {h : HS} {e : Nat} {E : EL} (hE : ER h e E) {me : Nat} (hm : me ≤ 4) {set : Int32} (hS : SB E.length set) : f_X5_of (1010 + me) (some e) set h = some (mL me (sel E set), h) := by
  have hl := hE.2.1.1
  have hT := told_am (sel_am hE.2.1 set)
  have hsel := sel_told hl set
  have hnil := sel_nil hS
  unfold f_X5_of b_X5_of_74
  by_cases h0 : set = 0
  · rw [if_pos h0]
    simp only [mL, if_pos (hnil.mpr h0)]
  · rw [if_neg h0]
    have hn : ¬ sel E set = [] := fun q => h0 (hnil.mp q)
    simp only [nn_s, rk3, hE.1.1, gd_t, s_X3_missing hE, bd_s, s_X3_sumOf hE, s_X3_mostOf hE, s_X3_leastOf hE, s_X3_kindsOf hE, bc32, mL, if_neg hn]
    match me, hm with
    | 0, _ => simp [en1, en2, gd, cnt_sel hl hS]
    | 1, _ =>
      have e1 : fw (suS E (set &&& (fw (miS E) 0 E.length 0 ^^^ -1))) 0 E.length 0 = (told (sel E set)).foldl (fun s a => s + nI a) 0 := by
        rw [← hsel]
        exact fw_sel (fun i => bt _ i) (am E) (fun s a => s + nI a) _ _
      simp only [e1]
      simp [en1, en2, gd]
    | 2, _ =>
      have e1 : fw (moS E (set &&& (fw (miS E) 0 E.length 0 ^^^ -1))) 0 E.length (-9) = (told (sel E set)).foldl (fun s a => if nI a ≤ s then s else nI a) (-9) := by
        rw [← hsel]
        exact fw_sel (fun i => bt _ i) (am E) (fun s a => if nI a ≤ s then s else nI a) _ _
      simp only [e1]
      simp [en1, en2, gd]
    | 3, _ =>
      have e1 : fw (leS E (set &&& (fw (miS E) 0 E.length 0 ^^^ -1))) 0 E.length 100 = (told (sel E set)).foldl (fun s a => if s ≤ nI a then s else nI a) 100 := by
        rw [← hsel]
        exact fw_sel (fun i => bt _ i) (am E) (fun s a => if s ≤ nI a then s else nI a) _ _
      have e2 := least_eq _ hT 100 (-9) (Or.inl ⟨rfl, rfl⟩)
      simp only [e1, e2]
      simp [en1, en2, gd]
    | 4, _ =>
      have e1 : fw (kiS E (set &&& (fw (miS E) 0 E.length 0 ^^^ -1))) 0 E.length (0, 0) = (told (sel E set)).foldl kiG (0, 0) := by
        rw [← hsel]
        exact fw_sel (fun i => bt _ i) (am E) kiG _ _
      have e2 := kinds_eq _ hT [] 0 0 (fun v hv => by rw [uJ_0]; simp) (fun v hv => by rw [uJ_0]; simp)
      rw [uJ_0, pc_zero, Nat.zero_add] at e2
      simp only [e1, nI_add, e2]
      simp [en1, en2, gd]
