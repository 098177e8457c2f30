/-! PURE: the top groups and the rest: the class's Axis.foldRest -/
def ka (K : List Nat) (i : Nat) : Nat := K.getD i 0
theorem ka_get {K : List Nat} {i : Nat} (h : i < K.length) : ka K i = K[i] := by simp [ka, List.getD_eq_getElem?_getD, h]
theorem ka_mem {K : List Nat} {i : Nat} (h : i < K.length) : ka K i ∈ K := by rw [ka_get h]; exact List.getElem_mem h
theorem ka_inj {K : List Nat} (hK : K.Nodup) {i j : Nat} (hi : i < K.length) (hj : j < K.length) : ka K i = ka K j ↔ i = j := by
  rw [ka_get hi, ka_get hj]
  refine ⟨fun q => ?_, fun q => by subst q; rfl⟩
  exact (List.getElem?_inj hi hK).mp (by simp [hi, hj, q])
theorem ka_take {K : List Nat} {i : Nat} (h : i < K.length) : K.take (i + 1) = K.take i ++ [ka K i] := by
  rw [ka_get h]; exact List.take_succ_eq_append_getElem h
theorem gk_gl {f w : Nat} {E : EL} {K : List Nat} {i : Nat} (h : i < K.length) : gk (gl f w E K) i = ka K i := by
  simp [gk, gl, ka, List.getD_eq_getElem?_getD, h]
theorem gs_gl {f w : Nat} {E : EL} {K : List Nat} {i : Nat} (h : i < K.length) : gs (gl f w E K) i = gp f w E (ka K i) := by
  simp [gs, gl, ka, List.getD_eq_getElem?_getD, h]
theorem gl_len (f w : Nat) (E : EL) (K : List Nat) : (gl f w E K).length = K.length := by simp [gl]
theorem gK_nodup (f w : Nat) (E : EL) : (gK f w E).Nodup := List.Nodup.sublist List.filter_sublist List.nodup_range
theorem gK_len (f w : Nat) (E : EL) : (gK f w E).length ≤ 21 := gKk_len f w E 21
theorem gK_mem {f w : Nat} {E : EL} {k : Nat} : k ∈ gK f w E ↔ k < 21 ∧ ¬ gp f w E k = 0 := by simp [gK]
def gbS (v : Nat → Int32) (tk : Nat → Bool) (b : Option Nat) (k : Nat) : Option Nat := if tk k = true then b else match b with
  | none => some k
  | some g => if v k ≤ v g then b else some k
def gb (v : Nat → Int32) (tk : Nat → Bool) (K : List Nat) : Option Nat := K.foldl (gbS v tk) none
def pk (v : Nat → Int32) (K : List Nat) : Nat → Nat → Bool
  | 0 => fun _ => false
  | t + 1 => fun k => pk v K t k || (gb v (pk v K t) K == some k)
def orL (L : List Int32) : Int32 := L.foldl (fun s x => s ||| x) 0
def vK (me f w : Nat) (E : EL) (k : Nat) : Int32 := mL me (sel E (gp f w E k))
def rwK (me top f w : Nat) (E : EL) : RW :=
  if top = 0 ∨ (gK f w E).length ≤ top then gl f w E (gK f w E)
  else gl f w E ((gK f w E).filter (pk (vK me f w E) (gK f w E) top)) ++ [(99, orL (((gK f w E).filter (fun k => !(pk (vK me f w E) (gK f w E) top k))).map (gp f w E)))]
theorem gb_in (v : Nat → Int32) (tk : Nat → Bool) : ∀ (K : List Nat) (b : Option Nat) (g : Nat), K.foldl (gbS v tk) b = some g → b = some g ∨ (g ∈ K ∧ tk g = false)
  | [], b, g, h => Or.inl h
  | a :: t, b, g, h => by
    rw [List.foldl_cons] at h
    rcases gb_in v tk t _ g h with h1 | h1
    · unfold gbS at h1
      by_cases q : tk a = true
      · rw [if_pos q] at h1; exact Or.inl h1
      · rw [if_neg q] at h1
        have qf : tk a = false := by simpa using q
        split at h1
        · right
          have : a = g := by simpa using h1
          subst this
          exact ⟨List.mem_cons_self, qf⟩
        · split at h1
          · exact Or.inl h1
          · right
            have : a = g := by simpa using h1
            subst this
            exact ⟨List.mem_cons_self, qf⟩
    · exact Or.inr ⟨List.mem_cons_of_mem _ h1.1, h1.2⟩
theorem gb_none (v : Nat → Int32) (tk : Nat → Bool) : ∀ (K : List Nat) (b : Option Nat), K.foldl (gbS v tk) b = none → b = none ∧ ∀ k, k ∈ K → tk k = true
  | [], b, h => ⟨h, fun k hk => by simp at hk⟩
  | a :: t, b, h => by
    rw [List.foldl_cons] at h
    obtain ⟨h1, h2⟩ := gb_none v tk t _ h
    unfold gbS at h1
    by_cases q : tk a = true
    · rw [if_pos q] at h1
      refine ⟨h1, fun k hk => ?_⟩
      rcases List.mem_cons.mp hk with rfl | hk
      · exact q
      · exact h2 k hk
    · rw [if_neg q] at h1
      split at h1
      · cases h1
      · split at h1 <;> cases h1
theorem filter_or1 (P : Nat → Bool) (g : Nat) : ∀ (K : List Nat), K.Nodup → (K.filter (fun k => P k || (some g == some k))).length ≤ (K.filter P).length + 1
  | [], _ => by simp
  | a :: t, h => by
    have h1 := List.nodup_cons.mp h
    have ih := filter_or1 P g t h1.2
    by_cases q : a = g
    · subst q
      have e : t.filter (fun k => P k || (some a == some k)) = t.filter P := by
        refine List.filter_congr (fun k hk => ?_)
        have : ¬ a = k := fun z => h1.1 (z ▸ hk)
        simp [this]
      rw [List.filter_cons, List.filter_cons, e]
      split <;> split <;> (try simp only [List.length_cons]) <;> omega
    · have q2 : (some g == some a) = false := by simpa using Ne.symm q
      rw [List.filter_cons, List.filter_cons]
      simp only [q2, Bool.or_false]
      split
      · simp only [List.length_cons]; omega
      · exact ih
theorem pk_cnt (v : Nat → Int32) (K : List Nat) (hK : K.Nodup) : ∀ t, (K.filter (pk v K t)).length ≤ t
  | 0 => by
    have : K.filter (pk v K 0) = [] := by rw [List.filter_eq_nil_iff]; intro k _; simp [pk]
    rw [this]; simp
  | t + 1 => by
    have ih := pk_cnt v K hK t
    cases hg : gb v (pk v K t) K with
    | none =>
      have : K.filter (pk v K (t + 1)) = K.filter (pk v K t) := List.filter_congr (fun k _ => by simp [pk, hg])
      rw [this]; omega
    | some g =>
      have : K.filter (pk v K (t + 1)) = K.filter (fun k => pk v K t k || (some g == some k)) := List.filter_congr (fun k _ => by simp [pk, hg])
      rw [this]
      have := filter_or1 (pk v K t) g K hK
      omega
/-- while fewer are taken than there are, one more is found -/
theorem gb_some (v : Nat → Int32) {K : List Nat} (hK : K.Nodup) {t : Nat} (ht : t < K.length) : ∃ g, gb v (pk v K t) K = some g ∧ g ∈ K ∧ pk v K t g = false := by
  have h1 := pk_cnt v K hK t
  obtain ⟨x, hx, hn⟩ := List.length_filter_lt_length_iff_exists.mp (show (K.filter (pk v K t)).length < K.length by omega)
  cases hg : gb v (pk v K t) K with
  | none => exact absurd ((gb_none _ _ _ _ hg).2 x hx) hn
  | some g =>
    rcases gb_in _ _ _ _ _ hg with h2 | h2
    · cases h2
    · exact ⟨g, rfl, h2⟩
theorem s_X2_greatestBut {h : HS} {a : Nat} {f w : Nat} {E : EL} {K : List Nat} (hR : AR h a (gl f w E K)) {v : Nat → Int32} {tk : Nat → Bool} {taken : Int32} (hv : ∀ i, i < K.length → hI h (a + 3) i = v (ka K i)) (ht : ∀ i, i < K.length → bt taken i = tk (ka K i)) {g0 : Nat} (hg : gb v tk K = some g0) : ∃ r : Int32 × HS, f_X2_greatestBut a taken h = some r ∧ (r.2 = h ∧ ∃ g, g < K.length ∧ r.1 = nI g ∧ gb v tk K = some (ka K g)) := by
  obtain ⟨hX, hlen, hsz, hel⟩ := hR
  obtain ⟨a1, ⟨a2, a3, a4⟩, ⟨a5, a6, a7⟩, ⟨a8, a9, b1⟩⟩ := hX
  rw [gl_len] at hlen hsz
  unfold f_X2_greatestBut
  refine it_ex (fun fu (s : Nat × Bool) k => l_X2_greatestBut_7 fu a taken (nI s.1) (if s.2 = true then 1 else 0) (nI k) h) K.length (fun k s => (s.2 = false ∧ s.1 = 0 ∧ (K.take k).foldl (gbS v tk) none = none) ∨ (s.2 = true ∧ s.1 < k ∧ (K.take k).foldl (gbS v tk) none = some (ka K s.1))) _ ?_ ?_ K.length FU (0, false) 0 (by omega) (by have := FU_gt; omega) (Or.inl ⟨rfl, rfl, rfl⟩)
  · intro fu s k hk hI0
    right
    have hca : ca h (a + 3) 9 (nI k) = true := ca_nI a7 (by omega) (by omega)
    have step : ∀ x y, l_X2_greatestBut_7 (fu + 1) a taken x y (nI k) h = b_X2_greatestBut_7 (l_X2_greatestBut_7 fu) a taken x y (nI k) h := fun _ _ => rfl
    have hne : ¬ K.length ≤ k := by omega
    have e10 : ¬ (1 : Int32) = 0 := by decide
    have hfold : (K.take (k + 1)).foldl (gbS v tk) none = gbS v tk ((K.take k).foldl (gbS v tk) none) (ka K k) := by
      rw [ka_take hk, List.foldl_append]; rfl
    have ebt : ((taken >>> (nI k &&& 31)) &&& 1 = 0) = (bt taken k = false) := propext (tb1_0 taken (by omega))
    by_cases hb : tk (ka K k) = true
    · have hb2 : ¬ bt taken k = false := by rw [ht k hk, hb]; simp
      refine ⟨s, ?_, ?_⟩
      · simp only [step]
        unfold b_X2_greatestBut_7 b_X2_greatestBut_30 b_X2_greatestBut_62
        simp only [nn_s, a1, gd_t, hsz, ebt, hb2, if_false, if_true, nI_1, reduceCtorEq]
        rw [ite_le (by omega) (by omega), if_neg hne]
      · rw [hfold]
        unfold gbS
        simp only [hb, if_true]
        rcases hI0 with ⟨q1, q2, q3⟩ | ⟨q1, q2, q3⟩
        · exact Or.inl ⟨q1, q2, q3⟩
        · exact Or.inr ⟨q1, by omega, q3⟩
    · have hb1 : tk (ka K k) = false := by simpa using hb
      have hb2 : bt taken k = false := by rw [ht k hk, hb1]
      rcases hI0 with ⟨q1, q2, q3⟩ | ⟨q1, q2, q3⟩
      · refine ⟨(k, true), ?_, Or.inr ⟨rfl, by simp, ?_⟩⟩
        · simp only [step]
          unfold b_X2_greatestBut_7 b_X2_greatestBut_30 b_X2_greatestBut_62 b_X2_greatestBut_57
          unfold b_X2_greatestBut_62
          simp only [nn_s, a1, gd_t, hsz, ebt, hb2, if_true, nI_1, e10, if_false, q1, show (false = true) = False by simp]
          rw [ite_le (by omega) (by omega), if_neg hne]
        · rw [hfold, q3]
          simp [gbS, hb1]
      · have hcg : ca h (a + 3) 9 (nI s.1) = true := ca_nI a7 (by omega) (by omega)
        by_cases hle : v (ka K k) ≤ v (ka K s.1)
        · refine ⟨s, ?_, Or.inr ⟨q1, by omega, ?_⟩⟩
          · simp only [step]
            unfold b_X2_greatestBut_7 b_X2_greatestBut_30 b_X2_greatestBut_62 b_X2_greatestBut_57
            unfold b_X2_greatestBut_62
            simp only [nn_s, a1, gd_t, hsz, ebt, hb2, if_true, nI_1, e10, if_false, q1, a4, hca, hcg, nI_clamp (show k < 2 ^ 31 by omega), nI_clamp (show s.1 < 2 ^ 31 by omega), hv k hk, hv s.1 (by omega), hle]
            rw [ite_le (by omega) (by omega), if_neg hne]
          · rw [hfold, q3]
            simp [gbS, hb1, hle]
        · refine ⟨(k, true), ?_, Or.inr ⟨rfl, by simp, ?_⟩⟩
          · simp only [step]
            unfold b_X2_greatestBut_7 b_X2_greatestBut_30 b_X2_greatestBut_62 b_X2_greatestBut_57
            unfold b_X2_greatestBut_62
            simp only [nn_s, a1, gd_t, hsz, ebt, hb2, if_true, nI_1, e10, if_false, q1, a4, hca, hcg, nI_clamp (show k < 2 ^ 31 by omega), nI_clamp (show s.1 < 2 ^ 31 by omega), hv k hk, hv s.1 (by omega), hle]
            rw [ite_le (by omega) (by omega), if_neg hne]
          · rw [hfold, q3]
            simp [gbS, hb1, hle]
  · intro fu s hI0
    rw [List.take_length] at hI0
    refine ⟨(nI s.1, h), ?_, rfl, ?_⟩
    · show b_X2_greatestBut_7 (l_X2_greatestBut_7 fu) a taken (nI s.1) (if s.2 = true then 1 else 0) (nI K.length) h = _
      unfold b_X2_greatestBut_7
      simp only [nn_s, a1, gd_t, hsz]
      rw [ite_le (by omega) (by omega), if_pos (by omega)]
    · rcases hI0 with ⟨q1, q2, q3⟩ | ⟨q1, q2, q3⟩
      · unfold gb at hg
        rw [q3] at hg
        cases hg
      · exact ⟨s.1, q2, rfl, q3⟩
theorem orL_snoc (L : List Int32) (x : Int32) : orL (L ++ [x]) = orL L ||| x := by simp [orL, List.foldl_append]
theorem s_X2_closeUp {h : HS} {a : Nat} {f w : Nat} {E : EL} {K : List Nat} (hR : AR h a (gl f w E K)) {P : Nat → Bool} {kept : Int32} (hP : ∀ i, i < K.length → bt kept i = P (ka K i)) (hm : (K.filter P).length < K.length) : ∃ r : Unit × HS, f_X2_closeUp a kept h = some r ∧ (Ch (fun m k => m = a + 1 ∨ m = a + 2 ∨ (m = a ∧ k = 3)) h r.2 ∧ AR r.2 a (gl f w E (K.filter P) ++ [(99, orL ((K.filter (fun k => !(P k))).map (gp f w E)))])) := by
  obtain ⟨hX, hlen, hsz, hel⟩ := hR
  rw [gl_len] at hlen hsz hel
  have fle : ∀ k, ((K.take k).filter P).length ≤ k := fun k => Nat.le_trans (List.length_filter_le _ _) (by rw [List.length_take]; omega)
  unfold f_X2_closeUp
  refine it_ex (fun fu (s : Int32 × Nat × HS) k => l_X2_closeUp_7 fu a kept s.1 (nI s.2.1) (nI k) s.2.2) K.length (fun k s => s.1 = orL (((K.take k).filter (fun k => !(P k))).map (gp f w E)) ∧ s.2.1 = ((K.take k).filter P).length ∧ Ch (fun m _ => m = a + 1 ∨ m = a + 2) h s.2.2 ∧ (∀ j, j < s.2.1 → hI s.2.2 (a + 1) j = nI (ka ((K.take k).filter P) j) ∧ hI s.2.2 (a + 2) j = gp f w E (ka ((K.take k).filter P) j)) ∧ ∀ j, k ≤ j → j < K.length → hI s.2.2 (a + 1) j = nI (ka K j) ∧ hI s.2.2 (a + 2) j = gp f w E (ka K j)) _ ?_ ?_ K.length FU (0, 0, h) 0 (by omega) (by have := FU_gt; omega) ⟨rfl, rfl, Ch.rf, fun j hj => by simp at hj, fun j _ hj => ?_⟩
  · intro fu s k hk hI0
    obtain ⟨rest, next, s⟩ := s
    obtain ⟨i0, i1, i2, i3, i4⟩ := hI0
    simp only at i0 i1 i2 i3 i4
    obtain ⟨a1, ⟨a2, a3, a4⟩, ⟨a5, a6, a7⟩, ⟨a8, a9, b1⟩⟩ := hX.fr i2 (fun k hk q => by omega)
    have hs3 : hI s a 3 = nI K.length := by rw [i2.I (by omega)]; exact hsz
    right
    have hnk : next ≤ k := by rw [i1]; exact fle k
    have hca1 : ca s (a + 1) 9 (nI k) = true := ca_nI a5 (by omega) (by omega)
    have hca2 : ca s (a + 2) 9 (nI k) = true := ca_nI a6 (by omega) (by omega)
    have hcb1 : ca s (a + 1) 9 (nI next) = true := ca_nI a5 (by omega) (by omega)
    have hne : ¬ K.length ≤ k := by omega
    have step : ∀ x y, l_X2_closeUp_7 (fu + 1) a kept x y (nI k) s = b_X2_closeUp_7 (l_X2_closeUp_7 fu) a kept x y (nI k) s := fun _ _ => rfl
    have ebt : ((kept >>> (nI k &&& 31)) &&& 1 = 1) = (bt kept k = true) := propext (tb1_1 kept (by omega))
    obtain ⟨j1, j2⟩ := i4 k (Nat.le_refl _) hk
    have z3 : (a + 2 = a + 1) = False := by simp
    by_cases hb : P (ka K k) = true
    · have hb2 : bt kept k = true := by rw [hP k hk, hb]
      have eF : (K.take (k + 1)).filter P = (K.take k).filter P ++ [ka K k] := by
        rw [ka_take hk, List.filter_append]; simp [hb]
      have eN : (K.take (k + 1)).filter (fun k => !(P k)) = (K.take k).filter (fun k => !(P k)) := by
        rw [ka_take hk, List.filter_append]; simp [hb]
      refine ⟨(rest, next + 1, sI (sI s (a + 1) next (nI (ka K k))) (a + 2) next (gp f w E (ka K k))), ?_, ?_, ?_, ?_, ?_, ?_⟩
      · simp only [step]
        unfold b_X2_closeUp_7 b_X2_closeUp_68
        simp only [nn_s, a1, gd_t, hs3]
        rw [ite_le (by omega) (by omega), if_neg hne]
        simp only [ebt, hb2, if_true, nn_s, a1, a2, a3, gd_t, hca1, hcb1, hl_s, nI_clamp (show k < 2 ^ 31 by omega), nI_clamp (show next < 2 ^ 31 by omega), j1, ck_sI, hP_sI, hI_sI, z3, false_and, if_false, j2, nI_1, ca, a5, a6, inb_nI (show k < al (a + 1) by omega) (by omega), inb_nI (show next < al (a + 1) by omega) (by omega), inb_nI (show k < al (a + 2) by omega) (by omega), inb_nI (show next < al (a + 2) by omega) (by omega), Bool.and_self]
      · simp only; rw [eN]; exact i0
      · simp only; rw [eF, List.length_append, ← i1]; rfl
      · exact (i2.trans (Ch.sI (Or.inl rfl))).trans (Ch.sI (Or.inr rfl))
      · intro j hj
        simp only at hj ⊢
        rw [eF]
        have eka : ka ((K.take k).filter P ++ [ka K k]) j = if j = next then ka K k else ka ((K.take k).filter P) j := by
          simp only [ka, List.getD_eq_getElem?_getD, List.getElem?_append, ← i1]
          by_cases q : j = next
          · subst q; simp
          · simp [q, show j < next by omega]
        rw [eka]
        simp only [hI_sI, z3, show (a + 1 = a + 2) = False by simp, false_and, if_false, true_and]
        by_cases q : j = next
        · simp only [q, if_true, and_self]
        · simp only [q, if_false]; exact i3 j (by omega)
      · intro j hj1 hj2
        simp only [hI_sI, z3, show (a + 1 = a + 2) = False by simp, false_and, if_false, true_and, show (j = next) = False by simp; omega]
        exact i4 j (by omega) hj2
    · have hb1 : P (ka K k) = false := by simpa using hb
      have hb2 : ¬ bt kept k = true := by rw [hP k hk, hb1]; simp
      have eF : (K.take (k + 1)).filter P = (K.take k).filter P := by
        rw [ka_take hk, List.filter_append]; simp [hb1]
      have eN : (K.take (k + 1)).filter (fun k => !(P k)) = (K.take k).filter (fun k => !(P k)) ++ [ka K k] := by
        rw [ka_take hk, List.filter_append]; simp [hb1]
      refine ⟨(rest ||| gp f w E (ka K k), next, s), ?_, ?_, ?_, i2, ?_, ?_⟩
      · simp only [step]
        unfold b_X2_closeUp_7 b_X2_closeUp_68
        simp only [nn_s, a1, gd_t, hs3]
        rw [ite_le (by omega) (by omega), if_neg hne]
        simp only [ebt, hb2, reduceCtorEq, if_false, nn_s, a1, a3, gd_t, hca2, nI_clamp (show k < 2 ^ 31 by omega), j2, nI_1]
      · simp only; rw [eN, List.map_append, i0]; exact (orL_snoc _ _).symm
      · simp only; rw [eF]; exact i1
      · simp only; rw [eF]; exact i3
      · intro j hj1 hj2; exact i4 j (by omega) hj2
  · intro fu s hI0
    obtain ⟨rest, next, s⟩ := s
    obtain ⟨i0, i1, i2, i3, i4⟩ := hI0
    rw [List.take_length] at i0 i1 i3
    simp only at i0 i1 i2 i3
    have hX2 := hX.fr i2 (fun k hk q => by omega)
    obtain ⟨a1, ⟨a2, a3, a4⟩, ⟨a5, a6, a7⟩, ⟨a8, a9, b1⟩⟩ := id hX2
    have hs3 : hI s a 3 = nI K.length := by rw [i2.I (by omega)]; exact hsz
    have hnx : next < K.length := by rw [i1]; exact hm
    have hcb1 : ca s (a + 1) 9 (nI next) = true := ca_nI a5 (by omega) (by omega)
    refine ⟨((), sI (sI (sI s (a + 1) next 99) (a + 2) next rest) a 3 (nI (next + 1))), ?_, ?_, ?_, ?_, ?_, fun j hj => ?_⟩
    · show b_X2_closeUp_7 (l_X2_closeUp_7 fu) a kept rest (nI next) (nI K.length) s = _
      unfold b_X2_closeUp_7 b_X2_closeUp_104
      simp only [nn_s, a1, gd_t, hs3]
      rw [ite_le (by omega) (by omega), if_pos (by omega), ite_le (by omega) (by omega), if_neg (by omega)]
      simp only [nn_s, a1, a2, a3, gd_t, hcb1, hl_s, ck_sI, hP_sI, ca, a5, a6, inb_nI (show next < al (a + 1) by omega) (by omega), inb_nI (show next < al (a + 2) by omega) (by omega), Bool.and_self, nI_clamp (show next < 2 ^ 31 by omega), nI_1]
    · exact (((i2.mono (fun m k q => by omega)).trans (Ch.sI (Or.inl rfl))).trans (Ch.sI (Or.inr (Or.inl rfl)))).trans (Ch.sI (Or.inr (Or.inr ⟨rfl, rfl⟩)))
    · exact hX2
    · simp only [List.length_append, gl_len, List.length_cons, List.length_nil]; omega
    · simp only [List.length_append, gl_len, List.length_cons, List.length_nil]
      rw [hI_sI, if_pos ⟨rfl, rfl⟩, i1]
    · have hj' : j < (K.filter P).length + 1 := by simpa [gl_len] using hj
      rw [gk_snoc _ _ _ (by rw [gl_len]; exact hj'), gs_snoc _ _ _ (by rw [gl_len]; exact hj'), gl_len]
      simp only [hI_sI, show (a + 1 = a) = False by simp, show (a + 2 = a) = False by simp, show (a + 2 = a + 1) = False by simp, show (a + 1 = a + 2) = False by simp, false_and, if_false, true_and, ← i1]
      by_cases q : j = next
      · simp only [q, if_true]
        exact ⟨rfl, i0⟩
      · simp only [q, if_false]
        have hjn : j < (K.filter P).length := by omega
        rw [gk_gl hjn, gs_gl hjn]
        exact i3 j (by omega)
  · have := hel j hj
    rw [gk_gl hj, gs_gl hj] at this
    exact this
theorem rk21 (h : HS) (me : Nat) (hm : me ≤ 4) : rk h (1010 + me) 21 = true := by
  simp [rk, isM]
  omega
theorem s_foldB {h : HS} {a : Nat} {f w : Nat} {E : EL} {K : List Nat} (hK : K.Nodup) (hR : AR h a (gl f w E K)) {v : Nat → Int32} {top : Nat} (hv : ∀ i, i < K.length → hI h (a + 3) i = v (ka K i)) (ht : top < K.length) : ∃ r : Unit × HS, l_X2_foldRest_57 FU a (nI top) 0 0 h = some r ∧ (Ch (fun m k => m = a + 1 ∨ m = a + 2 ∨ (m = a ∧ k = 3)) h r.2 ∧ AR r.2 a (gl f w E (K.filter (pk v K top)) ++ [(99, orL ((K.filter (fun k => !(pk v K top k))).map (gp f w E)))])) := by
  have hlen := hR.2.1
  rw [gl_len] at hlen
  refine it_ex (fun fu (s : Int32) k => l_X2_foldRest_57 fu a (nI top) s (nI k) h) top (fun t s => ∀ i, i < K.length → bt s i = pk v K t (ka K i)) _ ?_ ?_ top FU 0 0 (by omega) (by have := FU_gt; omega) (fun i _ => by rw [b_0]; rfl)
  · intro fu s t htt hI0
    right
    obtain ⟨g0, hg0, _, _⟩ := gb_some v hK (show t < K.length by omega)
    obtain ⟨r, e1, e2, g, hg, e3, e4⟩ := s_X2_greatestBut hR hv hI0 hg0
    obtain ⟨r1, r2⟩ := r
    simp only at e2 e3
    subst e2 e3
    refine ⟨s ||| ((1 : Int32) <<< (nI g &&& 31)), ?_, fun i hi => ?_⟩
    · show b_X2_foldRest_57 (l_X2_foldRest_57 fu) a (nI top) s (nI t) _ = _
      unfold b_X2_foldRest_57
      rw [ite_le (by omega) (by omega), if_neg (by omega)]
      simp only [nn_s, rk2, hR.1.1, gd_t, e1, bd_s, nI_1]
    · rw [b_or, hI0 i hi, sh1 (by omega) (by omega)]
      simp only [pk, e4]
      congr 1
      by_cases q : i = g
      · subst q; simp
      · have : ¬ ka K g = ka K i := fun z => q ((ka_inj hK hi hg).mp z.symm)
        simp [q, this]
  · intro fu s hI0
    obtain ⟨r, e1, e2, e3⟩ := s_X2_closeUp hR hI0 (Nat.lt_of_le_of_lt (pk_cnt v K hK top) ht)
    refine ⟨r, ?_, e2, e3⟩
    show b_X2_foldRest_57 (l_X2_foldRest_57 fu) a (nI top) s (nI top) _ = _
    unfold b_X2_foldRest_57
    rw [ite_le (by omega) (by omega), if_pos (by omega)]
    simp only [nn_s, rk2, hR.1.1, gd_t, e1, bd_s]
theorem s_X2_foldRest {h : HS} {a e : Nat} {E : EL} (hE : ER h e E) (hd : e + 3 < a ∨ a + 3 < e) {f w me top : Nat} (hR : AR h a (gl f w E (gK f w E))) (hm : me ≤ 4) (ht : top ≤ 4) : ∃ r : Unit × HS, f_X2_foldRest a (some e) (some (1010 + me)) (nI top) h = some r ∧ (Ch (fun m k => m = a + 1 ∨ m = a + 2 ∨ m = a + 3 ∨ (m = a ∧ k = 3)) h r.2 ∧ AR r.2 a (rwK me top f w E)) := by
  have hl := hE.2.1.1
  obtain ⟨hX, hlen, hsz, hel⟩ := id hR
  rw [gl_len] at hlen hsz hel
  unfold f_X2_foldRest b_X2_foldRest_13
  rw [show (1 : Int32) = nI 1 from rfl, ite_lt (by omega) (by omega)]
  by_cases h1 : top < 1
  · rw [if_pos h1]
    refine ⟨_, rfl, Ch.rf, ?_⟩
    rw [rwK, if_pos (Or.inl (by omega))]
    exact hR
  · rw [if_neg h1]
    simp only [nn_s, hX.1, gd_t, hsz]
    rw [ite_lt (by omega) (by omega)]
    by_cases h2 : top < (gK f w E).length
    · rw [if_pos h2]
      rw [rwK, if_neg (by omega)]
      refine it_ex (fun fu (s : HS) k => l_X2_foldRest_17 fu a (some e) (some (1010 + me)) (nI top) (nI k) s) (gK f w E).length (fun k s => Ch (fun m _ => m = a + 3) h s ∧ ∀ i, i < k → hI s (a + 3) i = vK me f w E (ka (gK f w E) i)) _ ?_ ?_ (gK f w E).length FU h 0 (by omega) (by have := FU_gt; omega) ⟨Ch.rf, fun i hi => by omega⟩
      · intro fu s k hk hI0
        obtain ⟨i1, i2⟩ := hI0
        have hE2 := hE.fr i1 (fun n k _ _ q => by omega)
        obtain ⟨a1, ⟨a2, a3, a4⟩, ⟨a5, a6, a7⟩, ⟨a8, a9, b1⟩⟩ := hX.fr i1 (fun k hk q => by omega)
        have hs3 : hI s a 3 = nI (gK f w E).length := by rw [i1.I (by omega)]; exact hsz
        have hset : hI s (a + 2) k = gp f w E (ka (gK f w E) k) := by
          rw [i1.I (by omega), ← gs_gl hk]
          exact (hel k hk).2
        have hca2 : ca s (a + 2) 9 (nI k) = true := ca_nI a6 (by omega) (by omega)
        have hca3 : ca s (a + 3) 9 (nI k) = true := ca_nI a7 (by omega) (by omega)
        right
        refine ⟨sI s (a + 3) k (vK me f w E (ka (gK f w E) k)), ?_, i1.trans (Ch.sI rfl), fun i hi => ?_⟩
        · show b_X2_foldRest_17 (l_X2_foldRest_17 fu) a (some e) (some (1010 + me)) (nI top) (nI k) s = _
          unfold b_X2_foldRest_17
          simp only [nn_s, a1, gd_t, hs3]
          rw [ite_le (by omega) (by omega), if_neg (by omega)]
          simp only [nn_s, a3, a4, gd_t, hca2, rk21 _ me hm, nI_clamp (show k < 2 ^ 31 by omega), hset, s_X5_of hE2 hm (SB_gp hl f w _), bd_s, hca3, nI_1]
          rfl
        · rw [hI_sI]
          by_cases q : i = k
          · rw [if_pos ⟨rfl, q⟩, q]
          · rw [if_neg (fun z => q z.2)]; exact i2 i (by omega)
      · intro fu s hI0
        obtain ⟨i1, i2⟩ := hI0
        have hR2 : AR s a (gl f w E (gK f w E)) := by
          refine ⟨hX.fr i1 (fun k hk q => by omega), by rw [gl_len]; exact hlen, by rw [gl_len, i1.I (by omega)]; exact hsz, fun i hi => ?_⟩
          rw [gl_len] at hi
          rw [i1.I (by omega), i1.I (by omega)]
          exact hel i hi
        obtain ⟨r, e1, e2, e3⟩ := s_foldB (gK_nodup f w E) hR2 i2 h2
        refine ⟨r, ?_, (i1.mono (fun m k q => by omega)).trans (e2.mono (fun m k q => by omega)), e3⟩
        show b_X2_foldRest_17 (l_X2_foldRest_17 fu) a (some e) (some (1010 + me)) (nI top) (nI (gK f w E).length) s = _
        unfold b_X2_foldRest_17
        simp only [nn_s, hR2.1.1, gd_t, i1.I (n := a) (k := 3) (by omega), hsz]
        rw [ite_le (by omega) (by omega), if_pos (by omega)]
        exact e1
    · rw [if_neg h2]
      refine ⟨_, rfl, Ch.rf, ?_⟩
      rw [rwK, if_pos (Or.inr (by omega))]
      exact hR
