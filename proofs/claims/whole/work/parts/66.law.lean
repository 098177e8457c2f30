/-! THE LAW: branch by branch, then its loop -/
abbrev K18 : Type := Option Nat → Option Nat → Int32 → HS → Option (Int32 × HS)
def Go (k18 : K18) (i : Nat) : Prop := ∀ (h : HS) (a : ST), R9 h a → R10 h a → ∃ u, k18 (some 0) (some 42) (nI (i + 5)) h = some (1, u)
theorem lg_same (x : Int64) : lg_cmp x x = 0 := by
  unfold lg_cmp
  rw [if_neg (show ¬ x > x from Int64.lt_irrefl), if_pos rfl]
section LW
variable {L i : Nat} {X : Nat → Int32} {k18 : K18} {h : HS} {a : ST}
theorem ix (hL : i + 5 ≤ L) (hN : L ≤ 2560) : (inb (nI (i + 1)) L = true ∧ inb (nI (i + 2)) L = true ∧ inb (nI (i + 3)) L = true ∧ inb (nI (i + 4)) L = true) ∧ (nI i + 1 = nI (i + 1) ∧ nI i + 2 = nI (i + 2) ∧ nI i + 3 = nI (i + 3) ∧ nI i + 4 = nI (i + 4) ∧ nI i + 5 = nI (i + 5)) ∧ ((nI (i + 1)).toNatClampNeg = i + 1 ∧ (nI (i + 2)).toNatClampNeg = i + 2 ∧ (nI (i + 3)).toNatClampNeg = i + 3 ∧ (nI (i + 4)).toNatClampNeg = i + 4) :=
  ⟨⟨inb_nI (by omega) (by omega), inb_nI (by omega) (by omega), inb_nI (by omega) (by omega), inb_nI (by omega) (by omega)⟩, ⟨nI_add i 1, nI_add i 2, nI_add i 3, nI_add i 4, nI_add i 5⟩, ⟨nI_clamp (by omega), nI_clamp (by omega), nI_clamp (by omega), nI_clamp (by omega)⟩⟩
theorem br_write (hL : i + 5 ≤ L) (hN : L ≤ 2560) (hR : R9 h a) (hQ : R10 h a) (go : Go k18 i) : ∃ u, b_L_law_160 L X k18 (some 0) (some 42) (nI i) h = some (1, u) := by
  obtain ⟨⟨b1, b2_, b3, b4⟩, ⟨d1, d2, d3, d4, d5⟩, ⟨f1, f2, f3, f4⟩⟩ := ix hL hN
  obtain ⟨h1, e1, r1, c1⟩ := o9_write hR (X (i + 1))
  have q1 := hQ.fr c1
  obtain ⟨h2, e2, r2, c2⟩ := o10_write q1 (X (i + 1))
  unfold b_L_law_160 b_L_law_1007
  simp only [b1, b2_, b3, b4, d1, d2, d3, d4, d5, f1, f2, f3, f4, gd_t, nn_s, bd_s, eq_self, if_true, ck9 hR, ck10 q1, e1, e2]
  exact go h2 _ (r1.fr c2) r2
theorem br_wipe (hL : i + 5 ≤ L) (hN : L ≤ 2560) (hR : R9 h a) (hQ : R10 h a) (go : Go k18 i) : ∃ u, b_L_law_183 L X k18 (some 0) (some 42) (nI i) h = some (1, u) := by
  obtain ⟨⟨b1, b2_, b3, b4⟩, ⟨d1, d2, d3, d4, d5⟩, ⟨f1, f2, f3, f4⟩⟩ := ix hL hN
  obtain ⟨h1, e1, r1, c1⟩ := o9_wipe hR
  have q1 := hQ.fr c1
  obtain ⟨h2, e2, r2, c2⟩ := o10_wipe q1
  unfold b_L_law_183 b_L_law_1007
  simp only [b1, b2_, b3, b4, d1, d2, d3, d4, d5, f1, f2, f3, f4, gd_t, nn_s, bd_s, eq_self, if_true, ck9 hR, ck10 q1, e1, e2]
  exact go h2 _ (r1.fr c2) r2
theorem br_fault (hL : i + 5 ≤ L) (hN : L ≤ 2560) (hR : R9 h a) (hQ : R10 h a) (go : Go k18 i) : ∃ u, b_L_law_196 L X k18 (some 0) (some 42) (nI i) h = some (1, u) := by
  obtain ⟨⟨b1, b2_, b3, b4⟩, ⟨d1, d2, d3, d4, d5⟩, ⟨f1, f2, f3, f4⟩⟩ := ix hL hN
  obtain ⟨h1, e1, r1, c1⟩ := o9_fault hR
  have q1 := hQ.fr c1
  obtain ⟨h2, e2, r2, c2⟩ := o10_fault q1
  unfold b_L_law_196 b_L_law_1007
  simp only [b1, b2_, b3, b4, d1, d2, d3, d4, d5, f1, f2, f3, f4, gd_t, nn_s, bd_s, eq_self, if_true, ck9 hR, ck10 q1, e1, e2]
  exact go h2 _ (r1.fr c2) r2
theorem br_plan (hL : i + 5 ≤ L) (hN : L ≤ 2560) (hR : R9 h a) (hQ : R10 h a) (go : Go k18 i) : ∃ u, b_L_law_209 L X k18 (some 0) (some 42) (nI i) h = some (1, u) := by
  obtain ⟨⟨b1, b2_, b3, b4⟩, ⟨d1, d2, d3, d4, d5⟩, ⟨f1, f2, f3, f4⟩⟩ := ix hL hN
  obtain ⟨h1, e1, r1, c1⟩ := o9_plan hR
  have q1 := hQ.fr c1
  obtain ⟨h2, e2, r2, c2⟩ := o10_plan q1
  unfold b_L_law_209 b_L_law_1007
  simp only [b1, b2_, b3, b4, d1, d2, d3, d4, d5, f1, f2, f3, f4, gd_t, nn_s, bd_s, eq_self, if_true, ck9 hR, ck10 q1, e1, e2]
  exact go h2 _ (r1.fr c2) r2
theorem br_word (hL : i + 5 ≤ L) (hN : L ≤ 2560) (hR : R9 h a) (hQ : R10 h a) (go : Go k18 i) : ∃ u, b_L_law_222 L X k18 (some 0) (some 42) (nI i) h = some (1, u) := by
  obtain ⟨⟨b1, b2_, b3, b4⟩, ⟨d1, d2, d3, d4, d5⟩, ⟨f1, f2, f3, f4⟩⟩ := ix hL hN
  obtain ⟨h1, e1, r1, c1⟩ := o9_word hR (X (i + 1))
  have q1 := hQ.fr c1
  obtain ⟨h2, e2, r2, c2⟩ := o10_word q1 (X (i + 1))
  unfold b_L_law_222 b_L_law_1007
  simp only [b1, b2_, b3, b4, d1, d2, d3, d4, d5, f1, f2, f3, f4, gd_t, nn_s, bd_s, eq_self, if_true, ck9 hR, ck10 q1, e1, e2]
  exact go h2 _ (r1.fr c2) r2
theorem br_add (hL : i + 5 ≤ L) (hN : L ≤ 2560) (hR : R9 h a) (hQ : R10 h a) (go : Go k18 i) : ∃ u, b_L_law_245 L X k18 (some 0) (some 42) (nI i) h = some (1, u) := by
  obtain ⟨⟨b1, b2_, b3, b4⟩, ⟨d1, d2, d3, d4, d5⟩, ⟨f1, f2, f3, f4⟩⟩ := ix hL hN
  obtain ⟨h1, e1, r1, c1⟩ := o9_add hR (X (i + 1)) (X (i + 2)) (X (i + 3))
  have q1 := hQ.fr c1
  obtain ⟨h2, e2, r2, c2⟩ := o10_add q1 (X (i + 1)) (X (i + 2)) (X (i + 3))
  unfold b_L_law_245 b_L_law_1007
  simp only [b1, b2_, b3, b4, d1, d2, d3, d4, d5, f1, f2, f3, f4, gd_t, nn_s, bd_s, eq_self, if_true, ck9 hR, ck10 q1, e1, e2]
  exact go h2 _ (r1.fr c2) r2
theorem br_drop (hL : i + 5 ≤ L) (hN : L ≤ 2560) (hR : R9 h a) (hQ : R10 h a) (go : Go k18 i) : ∃ u, b_L_law_288 L X k18 (some 0) (some 42) (nI i) h = some (1, u) := by
  obtain ⟨⟨b1, b2_, b3, b4⟩, ⟨d1, d2, d3, d4, d5⟩, ⟨f1, f2, f3, f4⟩⟩ := ix hL hN
  obtain ⟨h1, e1, r1, c1⟩ := o9_drop hR (X (i + 1))
  have q1 := hQ.fr c1
  obtain ⟨h2, e2, r2, c2⟩ := o10_drop q1 (X (i + 1))
  unfold b_L_law_288 b_L_law_1007
  simp only [b1, b2_, b3, b4, d1, d2, d3, d4, d5, f1, f2, f3, f4, gd_t, nn_s, bd_s, eq_self, if_true, ck9 hR, ck10 q1, e1, e2]
  exact go h2 _ (r1.fr c2) r2
theorem br_change (hL : i + 5 ≤ L) (hN : L ≤ 2560) (hR : R9 h a) (hQ : R10 h a) (go : Go k18 i) : ∃ u, b_L_law_311 L X k18 (some 0) (some 42) (nI i) h = some (1, u) := by
  obtain ⟨⟨b1, b2_, b3, b4⟩, ⟨d1, d2, d3, d4, d5⟩, ⟨f1, f2, f3, f4⟩⟩ := ix hL hN
  obtain ⟨h1, e1, r1, c1⟩ := o9_change hR (X (i + 1)) (X (i + 2))
  have q1 := hQ.fr c1
  obtain ⟨h2, e2, r2, c2⟩ := o10_change q1 (X (i + 1)) (X (i + 2))
  unfold b_L_law_311 b_L_law_1007
  simp only [b1, b2_, b3, b4, d1, d2, d3, d4, d5, f1, f2, f3, f4, gd_t, nn_s, bd_s, eq_self, if_true, ck9 hR, ck10 q1, e1, e2]
  exact go h2 _ (r1.fr c2) r2
theorem br_undo (hL : i + 5 ≤ L) (hN : L ≤ 2560) (hR : R9 h a) (hQ : R10 h a) (go : Go k18 i) : ∃ u, b_L_law_344 L X k18 (some 0) (some 42) (nI i) h = some (1, u) := by
  obtain ⟨⟨b1, b2_, b3, b4⟩, ⟨d1, d2, d3, d4, d5⟩, ⟨f1, f2, f3, f4⟩⟩ := ix hL hN
  obtain ⟨h1, e1, r1, c1⟩ := o9_undo hR
  have q1 := hQ.fr c1
  obtain ⟨h2, e2, r2, c2⟩ := o10_undo q1
  unfold b_L_law_344 b_L_law_1007
  simp only [b1, b2_, b3, b4, d1, d2, d3, d4, d5, f1, f2, f3, f4, gd_t, nn_s, bd_s, eq_self, if_true, ck9 hR, ck10 q1, e1, e2]
  exact go h2 _ (r1.fr c2) r2
theorem br_entry (hL : i + 5 ≤ L) (hN : L ≤ 2560) (hR : R9 h a) (hQ : R10 h a) (go : Go k18 i) : ∃ u, b_L_law_357 L X k18 (some 0) (some 42) (nI i) h = some (1, u) := by
  obtain ⟨⟨b1, b2_, b3, b4⟩, ⟨d1, d2, d3, d4, d5⟩, ⟨f1, f2, f3, f4⟩⟩ := ix hL hN
  obtain ⟨h1, e1, r1, c1⟩ := o9_entry hR (X (i + 1)) (X (i + 2))
  have q1 := hQ.fr c1
  obtain ⟨h2, e2, r2, c2⟩ := o10_entry q1 (X (i + 1)) (X (i + 2))
  unfold b_L_law_357 b_L_law_1007
  simp only [b1, b2_, b3, b4, d1, d2, d3, d4, d5, f1, f2, f3, f4, gd_t, nn_s, bd_s, eq_self, if_true, ck9 hR, ck10 q1, e1, e2]
  exact go h2 _ (r1.fr c2) r2
theorem br_key (hL : i + 5 ≤ L) (hN : L ≤ 2560) (hR : R9 h a) (hQ : R10 h a) (go : Go k18 i) : ∃ u, b_L_law_390 L X k18 (some 0) (some 42) (nI i) h = some (1, u) := by
  obtain ⟨⟨b1, b2_, b3, b4⟩, ⟨d1, d2, d3, d4, d5⟩, ⟨f1, f2, f3, f4⟩⟩ := ix hL hN
  obtain ⟨h1, e1, r1, c1⟩ := o9_key hR (X (i + 1)) (X (i + 2))
  have q1 := hQ.fr c1
  obtain ⟨h2, e2, r2, c2⟩ := o10_key q1 (X (i + 1)) (X (i + 2))
  unfold b_L_law_390 b_L_law_1007
  simp only [b1, b2_, b3, b4, d1, d2, d3, d4, d5, f1, f2, f3, f4, gd_t, nn_s, bd_s, eq_self, if_true, ck9 hR, ck10 q1, e1, e2]
  exact go h2 _ (r1.fr c2) r2
theorem br_cell (hL : i + 5 ≤ L) (hN : L ≤ 2560) (hR : R9 h a) (hQ : R10 h a) (go : Go k18 i) : ∃ u, b_L_law_423 L X k18 (some 0) (some 42) (nI i) h = some (1, u) := by
  obtain ⟨⟨b1, b2_, b3, b4⟩, ⟨d1, d2, d3, d4, d5⟩, ⟨f1, f2, f3, f4⟩⟩ := ix hL hN
  obtain ⟨h1, e1, r1, c1⟩ := o9_cell hR (X (i + 1)) (X (i + 2))
  have q1 := hQ.fr c1
  obtain ⟨h2, e2, r2, c2⟩ := o10_cell q1 (X (i + 1)) (X (i + 2))
  unfold b_L_law_423 b_L_law_1007
  simp only [b1, b2_, b3, b4, d1, d2, d3, d4, d5, f1, f2, f3, f4, gd_t, nn_s, bd_s, eq_self, if_true, ck9 hR, ck10 q1, e1, e2]
  exact go h2 _ (r1.fr c2) r2
theorem br_drill (hL : i + 5 ≤ L) (hN : L ≤ 2560) (hR : R9 h a) (hQ : R10 h a) (go : Go k18 i) : ∃ u, b_L_law_456 L X k18 (some 0) (some 42) (nI i) h = some (1, u) := by
  obtain ⟨⟨b1, b2_, b3, b4⟩, ⟨d1, d2, d3, d4, d5⟩, ⟨f1, f2, f3, f4⟩⟩ := ix hL hN
  obtain ⟨h1, e1, r1, c1⟩ := o9_drill hR (X (i + 1)) (X (i + 2))
  have q1 := hQ.fr c1
  obtain ⟨h2, e2, r2, c2⟩ := o10_drill q1 (X (i + 1)) (X (i + 2))
  unfold b_L_law_456 b_L_law_1007
  simp only [b1, b2_, b3, b4, d1, d2, d3, d4, d5, f1, f2, f3, f4, gd_t, nn_s, bd_s, eq_self, if_true, ck9 hR, ck10 q1, e1, e2]
  exact go h2 _ (r1.fr c2) r2
theorem br_along (hL : i + 5 ≤ L) (hN : L ≤ 2560) (hR : R9 h a) (hQ : R10 h a) (go : Go k18 i) : ∃ u, b_L_law_489 L X k18 (some 0) (some 42) (nI i) h = some (1, u) := by
  obtain ⟨⟨b1, b2_, b3, b4⟩, ⟨d1, d2, d3, d4, d5⟩, ⟨f1, f2, f3, f4⟩⟩ := ix hL hN
  obtain ⟨h1, e1, r1, c1⟩ := o9_along hR (X (i + 1)) (X (i + 2))
  have q1 := hQ.fr c1
  obtain ⟨h2, e2, r2, c2⟩ := o10_along q1 (X (i + 1)) (X (i + 2))
  unfold b_L_law_489 b_L_law_1007
  simp only [b1, b2_, b3, b4, d1, d2, d3, d4, d5, f1, f2, f3, f4, gd_t, nn_s, bd_s, eq_self, if_true, ck9 hR, ck10 q1, e1, e2]
  exact go h2 _ (r1.fr c2) r2
theorem br_total (hL : i + 5 ≤ L) (hN : L ≤ 2560) (hR : R9 h a) (hQ : R10 h a) (go : Go k18 i) : ∃ u, b_L_law_522 L X k18 (some 0) (some 42) (nI i) h = some (1, u) := by
  obtain ⟨⟨b1, b2_, b3, b4⟩, ⟨d1, d2, d3, d4, d5⟩, ⟨f1, f2, f3, f4⟩⟩ := ix hL hN
  obtain ⟨h1, e1, r1, c1⟩ := o9_total hR
  have q1 := hQ.fr c1
  obtain ⟨h2, e2, r2, c2⟩ := o10_total q1
  unfold b_L_law_522 b_L_law_1007
  simp only [b1, b2_, b3, b4, d1, d2, d3, d4, d5, f1, f2, f3, f4, gd_t, nn_s, bd_s, eq_self, if_true, ck9 hR, ck10 q1, e1, e2]
  exact go h2 _ (r1.fr c2) r2
theorem br_would (hL : i + 5 ≤ L) (hN : L ≤ 2560) (hR : R9 h a) (hQ : R10 h a) (go : Go k18 i) : ∃ u, b_L_law_535 L X k18 (some 0) (some 42) (nI i) h = some (1, u) := by
  obtain ⟨⟨b1, b2_, b3, b4⟩, ⟨d1, d2, d3, d4, d5⟩, ⟨f1, f2, f3, f4⟩⟩ := ix hL hN
  obtain ⟨h1, e1, r1, c1⟩ := o9_would hR (X (i + 1)) (X (i + 2)) (X (i + 3)) (X (i + 4))
  have q1 := hQ.fr c1
  obtain ⟨h2, e2, r2, c2⟩ := o10_would q1 (X (i + 1)) (X (i + 2)) (X (i + 3)) (X (i + 4))
  unfold b_L_law_535 b_L_law_1007
  simp only [b1, b2_, b3, b4, d1, d2, d3, d4, d5, f1, f2, f3, f4, gd_t, nn_s, bd_s, eq_self, if_true, ck9 hR, ck10 q1, e1, e2]
  exact go h2 _ (r1.fr c2) r2
theorem br_best (hL : i + 5 ≤ L) (hN : L ≤ 2560) (hR : R9 h a) (hQ : R10 h a) (go : Go k18 i) : ∃ u, b_L_law_588 L X k18 (some 0) (some 42) (nI i) h = some (1, u) := by
  obtain ⟨⟨b1, b2_, b3, b4⟩, ⟨d1, d2, d3, d4, d5⟩, ⟨f1, f2, f3, f4⟩⟩ := ix hL hN
  obtain ⟨h1, e1, r1, c1⟩ := o9_best hR (X (i + 1))
  have q1 := hQ.fr c1
  obtain ⟨h2, e2, r2, c2⟩ := o10_best q1 (X (i + 1))
  unfold b_L_law_588 b_L_law_1007
  simp only [b1, b2_, b3, b4, d1, d2, d3, d4, d5, f1, f2, f3, f4, gd_t, nn_s, bd_s, eq_self, if_true, ck9 hR, ck10 q1, e1, e2]
  exact go h2 _ (r1.fr c2) r2
theorem br_judge (hL : i + 5 ≤ L) (hN : L ≤ 2560) (hR : R9 h a) (hQ : R10 h a) (go : Go k18 i) : ∃ u, b_L_law_611 L X k18 (some 0) (some 42) (nI i) h = some (1, u) := by
  obtain ⟨⟨b1, b2_, b3, b4⟩, ⟨d1, d2, d3, d4, d5⟩, ⟨f1, f2, f3, f4⟩⟩ := ix hL hN
  obtain ⟨h1, e1, r1, c1⟩ := o9_judge hR (X (i + 1)) (((X (i + 2)).toInt64 <<< ((32 : Int32).toInt64 &&& 63)) ||| ((X (i + 3)).toInt64 &&& (4294967295 : Int64)))
  have q1 := hQ.fr c1
  obtain ⟨h2, e2, r2, c2⟩ := o10_judge q1 (X (i + 1)) (((X (i + 2)).toInt64 <<< ((32 : Int32).toInt64 &&& 63)) ||| ((X (i + 3)).toInt64 &&& (4294967295 : Int64)))
  unfold b_L_law_611 b_L_law_1007
  simp only [b1, b2_, b3, b4, d1, d2, d3, d4, d5, f1, f2, f3, f4, gd_t, nn_s, bd_s, eq_self, if_true, ck9 hR, ck10 q1, e1, e2]
  exact go h2 _ (r1.fr c2) r2
theorem br_see (hL : i + 5 ≤ L) (hN : L ≤ 2560) (hR : R9 h a) (hQ : R10 h a) (go : Go k18 i) : ∃ u, b_L_law_674 L X k18 (some 0) (some 42) (nI i) h = some (1, u) := by
  obtain ⟨⟨b1, b2_, b3, b4⟩, ⟨d1, d2, d3, d4, d5⟩, ⟨f1, f2, f3, f4⟩⟩ := ix hL hN
  obtain ⟨h1, e1, r1, c1⟩ := o9_see hR (X (i + 1)) (X (i + 2)) (X (i + 3))
  have q1 := hQ.fr c1
  obtain ⟨h2, e2, r2, c2⟩ := o10_see q1 (X (i + 1)) (X (i + 2)) (X (i + 3))
  unfold b_L_law_674 b_L_law_1007
  simp only [b1, b2_, b3, b4, d1, d2, d3, d4, d5, f1, f2, f3, f4, gd_t, nn_s, bd_s, eq_self, if_true, ck9 hR, ck10 q1, e1, e2]
  exact go h2 _ (r1.fr c2) r2
theorem br_unsee (hL : i + 5 ≤ L) (hN : L ≤ 2560) (hR : R9 h a) (hQ : R10 h a) (go : Go k18 i) : ∃ u, b_L_law_717 L X k18 (some 0) (some 42) (nI i) h = some (1, u) := by
  obtain ⟨⟨b1, b2_, b3, b4⟩, ⟨d1, d2, d3, d4, d5⟩, ⟨f1, f2, f3, f4⟩⟩ := ix hL hN
  obtain ⟨h1, e1, r1, c1⟩ := o9_unsee hR
  have q1 := hQ.fr c1
  obtain ⟨h2, e2, r2, c2⟩ := o10_unsee q1
  unfold b_L_law_717 b_L_law_1007
  simp only [b1, b2_, b3, b4, d1, d2, d3, d4, d5, f1, f2, f3, f4, gd_t, nn_s, bd_s, eq_self, if_true, ck9 hR, ck10 q1, e1, e2]
  exact go h2 _ (r1.fr c2) r2
theorem br_hidden (hL : i + 5 ≤ L) (hN : L ≤ 2560) (hR : R9 h a) (hQ : R10 h a) (go : Go k18 i) : ∃ u, b_L_law_730 L X k18 (some 0) (some 42) (nI i) h = some (1, u) := by
  obtain ⟨⟨b1, b2_, b3, b4⟩, ⟨d1, d2, d3, d4, d5⟩, ⟨f1, f2, f3, f4⟩⟩ := ix hL hN
  obtain ⟨h1, e1, r1, c1⟩ := o9_hidden hR (X (i + 1))
  have q1 := hQ.fr c1
  obtain ⟨h2, e2, r2, c2⟩ := o10_hidden q1 (X (i + 1))
  unfold b_L_law_730 b_L_law_1007
  simp only [b1, b2_, b3, b4, d1, d2, d3, d4, d5, f1, f2, f3, f4, gd_t, nn_s, bd_s, eq_self, if_true, ck9 hR, ck10 q1, e1, e2]
  exact go h2 _ (r1.fr c2) r2
theorem br_share (hL : i + 5 ≤ L) (hN : L ≤ 2560) (hR : R9 h a) (hQ : R10 h a) (go : Go k18 i) : ∃ u, b_L_law_753 L X k18 (some 0) (some 42) (nI i) h = some (1, u) := by
  obtain ⟨⟨b1, b2_, b3, b4⟩, ⟨d1, d2, d3, d4, d5⟩, ⟨f1, f2, f3, f4⟩⟩ := ix hL hN
  by_cases q : X (i + 2) = 0
  · obtain ⟨h1, e1, r1, c1⟩ := o9_share hR (X (i + 1)) 0
    have q1 := hQ.fr c1
    obtain ⟨h2, e2, r2, c2⟩ := o10_share q1 (X (i + 1)) 0
    unfold b_L_law_753 b_L_law_772 b_L_law_794 b_L_law_1007
    simp only [b1, b2_, b3, b4, d1, d2, d3, d4, d5, f1, f2, f3, f4, gd_t, nn_s, bd_s, eq_self, if_true, ck9 hR, ck10 q1, e1, e2, q]
    exact go h2 _ (r1.fr c2) r2
  · obtain ⟨h1, e1, r1, c1⟩ := o9_share hR (X (i + 1)) 1
    have q1 := hQ.fr c1
    obtain ⟨h2, e2, r2, c2⟩ := o10_share q1 (X (i + 1)) 1
    unfold b_L_law_753 b_L_law_772 b_L_law_794 b_L_law_1007
    simp only [b1, b2_, b3, b4, d1, d2, d3, d4, d5, f1, f2, f3, f4, gd_t, nn_s, bd_s, eq_self, if_true, ck9 hR, ck10 q1, e1, e2, q, if_false]
    exact go h2 _ (r1.fr c2) r2
theorem br_lost (hL : i + 5 ≤ L) (hN : L ≤ 2560) (hR : R9 h a) (hQ : R10 h a) (go : Go k18 i) : ∃ u, b_L_law_802 L X k18 (some 0) (some 42) (nI i) h = some (1, u) := by
  obtain ⟨⟨b1, b2_, b3, b4⟩, ⟨d1, d2, d3, d4, d5⟩, ⟨f1, f2, f3, f4⟩⟩ := ix hL hN
  by_cases q : X (i + 3) = 0
  · obtain ⟨h1, e1, r1, c1⟩ := o9_lost hR (X (i + 1)) (X (i + 2)) 0
    have q1 := hQ.fr c1
    obtain ⟨h2, e2, r2, c2⟩ := o10_lost q1 (X (i + 1)) (X (i + 2)) 0
    unfold b_L_law_802 b_L_law_826 b_L_law_853 b_L_law_1007
    simp only [b1, b2_, b3, b4, d1, d2, d3, d4, d5, f1, f2, f3, f4, gd_t, nn_s, bd_s, eq_self, if_true, ck9 hR, ck10 q1, e1, e2, q]
    exact go h2 _ (r1.fr c2) r2
  · obtain ⟨h1, e1, r1, c1⟩ := o9_lost hR (X (i + 1)) (X (i + 2)) 1
    have q1 := hQ.fr c1
    obtain ⟨h2, e2, r2, c2⟩ := o10_lost q1 (X (i + 1)) (X (i + 2)) 1
    unfold b_L_law_802 b_L_law_826 b_L_law_853 b_L_law_1007
    simp only [b1, b2_, b3, b4, d1, d2, d3, d4, d5, f1, f2, f3, f4, gd_t, nn_s, bd_s, eq_self, if_true, ck9 hR, ck10 q1, e1, e2, q, if_false]
    exact go h2 _ (r1.fr c2) r2
theorem br_seed (hL : i + 5 ≤ L) (hN : L ≤ 2560) (hR : R9 h a) (hQ : R10 h a) (go : Go k18 i) : ∃ u, b_L_law_861 L X k18 (some 0) (some 42) (nI i) h = some (1, u) := by
  obtain ⟨⟨b1, b2_, b3, b4⟩, ⟨d1, d2, d3, d4, d5⟩, ⟨f1, f2, f3, f4⟩⟩ := ix hL hN
  obtain ⟨h1, e1, r1, c1⟩ := o9_seed hR (((X (i + 1)).toInt64 <<< ((32 : Int32).toInt64 &&& 63)) ||| ((X (i + 2)).toInt64 &&& (4294967295 : Int64)))
  have q1 := hQ.fr c1
  obtain ⟨h2, e2, r2, c2⟩ := o10_seed q1 (((X (i + 1)).toInt64 <<< ((32 : Int32).toInt64 &&& 63)) ||| ((X (i + 2)).toInt64 &&& (4294967295 : Int64)))
  unfold b_L_law_861 b_L_law_1007
  simp only [b1, b2_, b3, b4, d1, d2, d3, d4, d5, f1, f2, f3, f4, gd_t, nn_s, bd_s, eq_self, if_true, ck9 hR, ck10 q1, e1, e2, lg_same]
  exact go h2 _ (r1.fr c2) r2
theorem br_drawn (hL : i + 5 ≤ L) (hN : L ≤ 2560) (hR : R9 h a) (hQ : R10 h a) (go : Go k18 i) : ∃ u, b_L_law_915 L X k18 (some 0) (some 42) (nI i) h = some (1, u) := by
  obtain ⟨⟨b1, b2_, b3, b4⟩, ⟨d1, d2, d3, d4, d5⟩, ⟨f1, f2, f3, f4⟩⟩ := ix hL hN
  obtain ⟨h1, e1, r1, c1⟩ := o9_drawn hR (X (i + 1))
  have q1 := hQ.fr c1
  obtain ⟨h2, e2, r2, c2⟩ := o10_drawn q1 (X (i + 1))
  unfold b_L_law_915 b_L_law_1007
  simp only [b1, b2_, b3, b4, d1, d2, d3, d4, d5, f1, f2, f3, f4, gd_t, nn_s, bd_s, eq_self, if_true, ck9 hR, ck10 q1, e1, e2]
  exact go h2 _ (r1.fr c2) r2
theorem br_keep (hL : i + 5 ≤ L) (hN : L ≤ 2560) (hR : R9 h a) (hQ : R10 h a) (go : Go k18 i) : ∃ u, b_L_law_938 L X k18 (some 0) (some 42) (nI i) h = some (1, u) := by
  obtain ⟨⟨b1, b2_, b3, b4⟩, ⟨d1, d2, d3, d4, d5⟩, ⟨f1, f2, f3, f4⟩⟩ := ix hL hN
  obtain ⟨h1, e1, r1, c1⟩ := o9_keep hR (X (i + 1))
  have q1 := c1 _ hQ
  obtain ⟨h2, e2, r2, c2⟩ := o10_keep q1 (X (i + 1))
  unfold b_L_law_938 b_L_law_1007
  simp only [b1, b2_, b3, b4, d1, d2, d3, d4, d5, f1, f2, f3, f4, gd_t, nn_s, bd_s, eq_self, if_true, ck9 hR, ck10 q1, e1, e2]
  exact go h2 _ (r1.fr c2) r2
theorem br_again (hL : i + 5 ≤ L) (hN : L ≤ 2560) (hR : R9 h a) (hQ : R10 h a) (go : Go k18 i) : ∃ u, b_L_law_961 L X k18 (some 0) (some 42) (nI i) h = some (1, u) := by
  obtain ⟨⟨b1, b2_, b3, b4⟩, ⟨d1, d2, d3, d4, d5⟩, ⟨f1, f2, f3, f4⟩⟩ := ix hL hN
  obtain ⟨h1, e1, r1, c1⟩ := o9_again hR (X (i + 1))
  have q1 := hQ.fr c1
  obtain ⟨h2, e2, r2, c2⟩ := o10_again q1 (X (i + 1))
  unfold b_L_law_961 b_L_law_1007
  simp only [b1, b2_, b3, b4, d1, d2, d3, d4, d5, f1, f2, f3, f4, gd_t, nn_s, bd_s, eq_self, if_true, ck9 hR, ck10 q1, e1, e2]
  exact go h2 _ (r1.fr c2) r2
theorem br_count (hL : i + 5 ≤ L) (hN : L ≤ 2560) (hR : R9 h a) (hQ : R10 h a) (go : Go k18 i) : ∃ u, b_L_law_984 L X k18 (some 0) (some 42) (nI i) h = some (1, u) := by
  obtain ⟨⟨b1, b2_, b3, b4⟩, ⟨d1, d2, d3, d4, d5⟩, ⟨f1, f2, f3, f4⟩⟩ := ix hL hN
  obtain ⟨h1, e1, r1, c1⟩ := o9_count hR (X (i + 1))
  have q1 := hQ.fr c1
  obtain ⟨h2, e2, r2, c2⟩ := o10_count q1 (X (i + 1))
  unfold b_L_law_984 b_L_law_1007
  simp only [b1, b2_, b3, b4, d1, d2, d3, d4, d5, f1, f2, f3, f4, gd_t, nn_s, bd_s, eq_self, if_true, ck9 hR, ck10 q1, e1, e2]
  exact go h2 _ (r1.fr c2) r2
theorem sw_ge {α : Type} {x : Int32} {c : Nat} {ts : List (Option α)} {d : Option α} (hx : x.toInt = (c : Int)) (h : ts.length ≤ c) : swT x 0 ts d = d := by
  unfold swT
  rw [hx, if_neg (by omega)]
theorem sw_at {α : Type} {x : Int32} {c : Nat} {ts : List (Option α)} {d : Option α} (hx : x.toInt = (c : Int)) (h : c < ts.length) : swT x 0 ts d = ts.getD c d := by
  unfold swT
  rw [hx, if_pos (by omega), Int.sub_zero, Int.toNat_natCast]
theorem and31 (x : Int32) : ∃ c : Nat, c < 32 ∧ (x &&& 31).toInt = (c : Int) := by
  have e : x &&& 31 = nI (uI x % 32) := by
    refine b_ext (fun j hj => ?_)
    rw [b_and, bt_uI, bt_nI _ hj, show (31 : Int32) = nI 31 from rfl, bt_nI _ hj, show (32 : Nat) = 2 ^ 5 from rfl, Nat.testBit_mod_two_pow]
    rw [show (31 : Nat) = 2 ^ 5 - 1 from rfl, Nat.testBit_two_pow_sub_one, Bool.and_comm]
  have hlt := Nat.mod_lt (uI x) (show 0 < 32 by omega)
  exact ⟨uI x % 32, hlt, by rw [e, nI_i (by omega)]⟩
theorem br_all (hL : i + 5 ≤ L) (hN : L ≤ 2560) (hR : R9 h a) (hQ : R10 h a) (go : Go k18 i) : ∃ u, swT (X i &&& 31) 0 [b_L_law_160 L X k18 (some 0) (some 42) (nI i) h, b_L_law_183 L X k18 (some 0) (some 42) (nI i) h, b_L_law_196 L X k18 (some 0) (some 42) (nI i) h, b_L_law_209 L X k18 (some 0) (some 42) (nI i) h, b_L_law_222 L X k18 (some 0) (some 42) (nI i) h, b_L_law_245 L X k18 (some 0) (some 42) (nI i) h, b_L_law_288 L X k18 (some 0) (some 42) (nI i) h, b_L_law_311 L X k18 (some 0) (some 42) (nI i) h, b_L_law_344 L X k18 (some 0) (some 42) (nI i) h, b_L_law_357 L X k18 (some 0) (some 42) (nI i) h, b_L_law_390 L X k18 (some 0) (some 42) (nI i) h, b_L_law_423 L X k18 (some 0) (some 42) (nI i) h, b_L_law_456 L X k18 (some 0) (some 42) (nI i) h, b_L_law_489 L X k18 (some 0) (some 42) (nI i) h, b_L_law_522 L X k18 (some 0) (some 42) (nI i) h, b_L_law_535 L X k18 (some 0) (some 42) (nI i) h, b_L_law_588 L X k18 (some 0) (some 42) (nI i) h, b_L_law_611 L X k18 (some 0) (some 42) (nI i) h, b_L_law_674 L X k18 (some 0) (some 42) (nI i) h, b_L_law_717 L X k18 (some 0) (some 42) (nI i) h, b_L_law_730 L X k18 (some 0) (some 42) (nI i) h, b_L_law_753 L X k18 (some 0) (some 42) (nI i) h, b_L_law_802 L X k18 (some 0) (some 42) (nI i) h, b_L_law_861 L X k18 (some 0) (some 42) (nI i) h, b_L_law_915 L X k18 (some 0) (some 42) (nI i) h, b_L_law_938 L X k18 (some 0) (some 42) (nI i) h, b_L_law_961 L X k18 (some 0) (some 42) (nI i) h, b_L_law_984 L X k18 (some 0) (some 42) (nI i) h] (b_L_law_1007 L X k18 (some 0) (some 42) (nI i) h) = some (1, u) := by
  obtain ⟨c, hc, e⟩ := and31 (X i)
  by_cases q : c < 28
  · rw [sw_at e (show c < List.length [b_L_law_160 L X k18 (some 0) (some 42) (nI i) h, b_L_law_183 L X k18 (some 0) (some 42) (nI i) h, b_L_law_196 L X k18 (some 0) (some 42) (nI i) h, b_L_law_209 L X k18 (some 0) (some 42) (nI i) h, b_L_law_222 L X k18 (some 0) (some 42) (nI i) h, b_L_law_245 L X k18 (some 0) (some 42) (nI i) h, b_L_law_288 L X k18 (some 0) (some 42) (nI i) h, b_L_law_311 L X k18 (some 0) (some 42) (nI i) h, b_L_law_344 L X k18 (some 0) (some 42) (nI i) h, b_L_law_357 L X k18 (some 0) (some 42) (nI i) h, b_L_law_390 L X k18 (some 0) (some 42) (nI i) h, b_L_law_423 L X k18 (some 0) (some 42) (nI i) h, b_L_law_456 L X k18 (some 0) (some 42) (nI i) h, b_L_law_489 L X k18 (some 0) (some 42) (nI i) h, b_L_law_522 L X k18 (some 0) (some 42) (nI i) h, b_L_law_535 L X k18 (some 0) (some 42) (nI i) h, b_L_law_588 L X k18 (some 0) (some 42) (nI i) h, b_L_law_611 L X k18 (some 0) (some 42) (nI i) h, b_L_law_674 L X k18 (some 0) (some 42) (nI i) h, b_L_law_717 L X k18 (some 0) (some 42) (nI i) h, b_L_law_730 L X k18 (some 0) (some 42) (nI i) h, b_L_law_753 L X k18 (some 0) (some 42) (nI i) h, b_L_law_802 L X k18 (some 0) (some 42) (nI i) h, b_L_law_861 L X k18 (some 0) (some 42) (nI i) h, b_L_law_915 L X k18 (some 0) (some 42) (nI i) h, b_L_law_938 L X k18 (some 0) (some 42) (nI i) h, b_L_law_961 L X k18 (some 0) (some 42) (nI i) h, b_L_law_984 L X k18 (some 0) (some 42) (nI i) h] from q)]
    match c, q with
    | 0, _ => exact br_write hL hN hR hQ go
    | 1, _ => exact br_wipe hL hN hR hQ go
    | 2, _ => exact br_fault hL hN hR hQ go
    | 3, _ => exact br_plan hL hN hR hQ go
    | 4, _ => exact br_word hL hN hR hQ go
    | 5, _ => exact br_add hL hN hR hQ go
    | 6, _ => exact br_drop hL hN hR hQ go
    | 7, _ => exact br_change hL hN hR hQ go
    | 8, _ => exact br_undo hL hN hR hQ go
    | 9, _ => exact br_entry hL hN hR hQ go
    | 10, _ => exact br_key hL hN hR hQ go
    | 11, _ => exact br_cell hL hN hR hQ go
    | 12, _ => exact br_drill hL hN hR hQ go
    | 13, _ => exact br_along hL hN hR hQ go
    | 14, _ => exact br_total hL hN hR hQ go
    | 15, _ => exact br_would hL hN hR hQ go
    | 16, _ => exact br_best hL hN hR hQ go
    | 17, _ => exact br_judge hL hN hR hQ go
    | 18, _ => exact br_see hL hN hR hQ go
    | 19, _ => exact br_unsee hL hN hR hQ go
    | 20, _ => exact br_hidden hL hN hR hQ go
    | 21, _ => exact br_share hL hN hR hQ go
    | 22, _ => exact br_lost hL hN hR hQ go
    | 23, _ => exact br_seed hL hN hR hQ go
    | 24, _ => exact br_drawn hL hN hR hQ go
    | 25, _ => exact br_keep hL hN hR hQ go
    | 26, _ => exact br_again hL hN hR hQ go
    | 27, _ => exact br_count hL hN hR hQ go
    | c + 28, q => exact absurd q (by omega)
  · rw [sw_ge e (by simpa using Nat.not_lt.mp q)]
    unfold b_L_law_1007
    rw [show nI i + 5 = nI (i + 5) from nI_add i 5]
    exact go h a hR hQ
end LW
theorem law_loop (L : Nat) (X : Nat → Int32) (hN : L ≤ 2560) : ∀ (n k : Nat) (h : HS) (a : ST), 5 * k ≤ L → L + 5 ≤ 5 * (n + k) → R9 h a → R10 h a → ∃ u, l_L_law_18 L X n (some 0) (some 42) (nI (5 * k)) h = some (1, u)
  | 0, k, h, a, h1, h2, _, _ => by omega
  | n + 1, k, h, a, h1, h2, hR, hQ => by
    show ∃ u, b_L_law_18 L X (l_L_law_18 L X n) (some 0) (some 42) (nI (5 * k)) h = some (1, u)
    unfold b_L_law_18
    have e5 : (Int32.ofNat L - 5).toInt = (L : Int) - 5 := by
      rw [Int32.toInt_sub, show (Int32.ofNat L).toInt = (L : Int) from nI_toInt (by omega), show (5 : Int32).toInt = 5 from rfl]
      exact Int.bmod_eq_of_le (by omega) (by omega)
    by_cases q : (L : Int) - 5 < (5 * k : Nat)
    · rw [if_pos ((i32_lt _ _).mpr (by rw [e5, nI_i (by omega)]; exact q)), z1]
      exact ⟨h, rfl⟩
    · rw [if_neg (fun z => q (by have := (i32_lt _ _).mp z; rw [e5, nI_i (by omega)] at this; exact this))]
      rw [inb_nI (show 5 * k < L by omega) (by omega), gd_t, nI_clamp (show 5 * k < 2 ^ 31 by omega)]
      refine br_all (by omega) hN hR hQ (fun h' a' r1 r2 => ?_)
      exact law_loop L X hN n (k + 1) h' a' (by omega) (by omega) r1 r2
theorem law_ok (L : Nat) (X : Nat → Int32) (hL : L ≤ 2560) : ∃ u, f_L_law L X h00 = some (1, u) := by
  obtain ⟨u, hu⟩ := law_loop L X hL 600 0 g10 a0_ (by omega) (by omega) iR9 iR10
  refine ⟨u, ?_⟩
  unfold f_L_law
  have c1 : cn h00 7 = true := by decide +kernel
  have c2 : cn g9 8 = true := by decide +kernel
  simp only [c1, gd_t, hl_s, nn_s, show hN h00 = 0 from rfl, i9, bd_s, c2, n9, i10]
  exact hu
