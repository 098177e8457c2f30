/-! PURE: the reference's findRows and findColumns done; reads of rows and columns -/
section FR
variable {h : HS} {lv : Nat} {E : EL} {pl : PL}
theorem b72_eq {a3 s2 : Int32} {r : Unit × HS} (hC : C10 h) (hp : f_X10_pick 42 (nI lv) s2 h = some r) (hC2 : C10 r.2) : b_X10_findRows_72 42 (nI lv) a3 (some 42) (nI lv) s2 h = l_X10_findRows_86 FU 42 (nI lv) a3 0 0 (sI r.2 42 13 0) := by
  unfold b_X10_findRows_72
  simp only [nn_s, rk8, hC.1.1, gd_t, hp, bd_s, hC2.1.1, hl_s]
theorem s_X10_findRows (hC : C10 h) (hlv : lv < 2) (hM : MV h lv E) (hP : MP h pl) (hV : PV pl) : ∃ r : Unit × HS, f_X10_findRows 42 (nI lv) h = some r ∧ (Ch SR h r.2 ∧ MR r.2 (rwl pl E)) := by
  obtain ⟨v1, v2, v3, v4, v5, v6⟩ := id hV
  obtain ⟨p0, p1, p2, p3, p4⟩ := id hP
  have hn := hM.1.1
  have hKl := gK_len pl.1 pl.2.2.2.2 E
  have hKn := gK_le hn pl.1 pl.2.2.2.2
  unfold f_X10_findRows
  refine it_ex (fun fu (s : Int32) k => l_X10_findRows_4 fu 42 (nI lv) s (nI k) h) 21 (fun k s => s = nI (gKk pl.1 pl.2.2.2.2 E k).length) _ ?_ ?_ 21 FU 0 0 (by omega) (by have := FU_gt; omega) rfl
  · intro fu s k hk hI0
    subst hI0
    have hgrp := s_X10_groupOf hC hlv hM (f := pl.1) (w := pl.2.2.2.2) (key := k) (by omega) v5 v6 p4 hk
    right
    refine ⟨_, ?_, rfl⟩
    show b_X10_findRows_4 (l_X10_findRows_4 fu) 42 (nI lv) _ (nI k) h = _
    unfold b_X10_findRows_4 b_X10_findRows_29
    rw [show (20 : Int32) = nI 20 from rfl, ite_lt (by omega) (by omega), if_neg (by omega)]
    simp only [nn_s, rk8, hC.1.1, gd_t, p0, hgrp, bd_s, nI_1]
    rw [gKk_succ]
    by_cases q : gp pl.1 pl.2.2.2.2 E k = 0
    · simp only [q, if_true, Int32.add_zero]
    · simp only [q, if_false, List.length_append, List.length_cons, List.length_nil, Nat.zero_add]
  · intro fu s hI0
    subst hI0
    have step : l_X10_findRows_4 (fu + 1) 42 (nI lv) (nI (gKk pl.1 pl.2.2.2.2 E 21).length) (nI 21) h = if pl.2.2.2.1 = 0 ∨ (gK pl.1 pl.2.2.2.2 E).length ≤ pl.2.2.2.1 then b_X10_findRows_72 42 (nI lv) 1 (some 42) (nI lv) (nI 0) h else b_X10_findRows_72 42 (nI lv) 0 (some 42) (nI lv) (nI pl.2.2.2.1) h := by
      show b_X10_findRows_4 (l_X10_findRows_4 fu) 42 (nI lv) (nI (gK pl.1 pl.2.2.2.2 E).length) (nI 21) h = _
      unfold b_X10_findRows_4 b_X10_findRows_52 b_X10_findRows_57
      rw [show (20 : Int32) = nI 20 from rfl, ite_lt (by omega) (by omega), if_pos (by omega)]
      simp only [nn_s, hC.1.1, gd_t, p3, if_true, show ((1 : Int32) = 0) = False by decide, if_false]
      rw [ite_lt (by omega) (by omega)]
      by_cases q1 : pl.2.2.2.1 = 0
      · rw [if_pos (show nI pl.2.2.2.1 = 0 by rw [q1]; rfl), if_pos (Or.inl q1)]; rfl
      · rw [if_neg (nI_ne0 (by omega) (by omega))]
        by_cases q2 : pl.2.2.2.1 < (gK pl.1 pl.2.2.2.2 E).length
        · rw [if_pos q2, if_neg (by omega)]
        · rw [if_neg q2, if_pos (by omega)]; rfl
    rw [step]
    by_cases qa : pl.2.2.2.1 = 0 ∨ (gK pl.1 pl.2.2.2.2 E).length ≤ pl.2.2.2.1
    · rw [if_pos qa]
      obtain ⟨r, e1, e2, e3⟩ := s_X10_pick hC hlv hM hP hV (n := 0) (by omega)
      have hC2 := hC.fr e2 (fun n k z q => by omega)
      rw [b72_eq hC e1 hC2]
      have fT : (gK pl.1 pl.2.2.2.2 E).filter (fun _ => true) = gK pl.1 pl.2.2.2.2 E := by simp
      have fF : (gK pl.1 pl.2.2.2.2 E).filter (fun k => !((fun _ => true) k)) = [] := by simp
      obtain ⟨r2, g1, g2, g3⟩ := s_lay (A := fun _ => true) (a3 := 1) hC hlv hM hP hV (e2.mono (fun m k z => Or.inr (Or.inr (Or.inl z)))) (Or.inl ⟨rfl, fun _ => rfl⟩) (by rw [fT, fF]; simp; omega)
      refine ⟨r2, g1, g2, ?_⟩
      rw [fT, if_pos fF, List.append_nil] at g3
      unfold rwl rwK
      rw [if_pos qa]
      exact g3
    · rw [if_neg qa]
      obtain ⟨r, e1, e2, e3⟩ := s_X10_pick hC hlv hM hP hV (n := pl.2.2.2.1) (by omega)
      have hC2 := hC.fr e2 (fun n k z q => by omega)
      rw [b72_eq hC e1 hC2]
      have hcnt := pk_cnt (vK pl.2.2.1 pl.1 pl.2.2.2.2 E) (gK pl.1 pl.2.2.2.2 E) (gK_nodup _ _ _) pl.2.2.2.1
      have fF : ¬ (gK pl.1 pl.2.2.2.2 E).filter (fun k => !(pk (vK pl.2.2.1 pl.1 pl.2.2.2.2 E) (gK pl.1 pl.2.2.2.2 E) pl.2.2.2.1 k)) = [] := by
        obtain ⟨x, hx, hnx⟩ := List.length_filter_lt_length_iff_exists.mp (show ((gK pl.1 pl.2.2.2.2 E).filter (pk (vK pl.2.2.1 pl.1 pl.2.2.2.2 E) (gK pl.1 pl.2.2.2.2 E) pl.2.2.2.1)).length < (gK pl.1 pl.2.2.2.2 E).length by omega)
        intro z
        have := List.filter_eq_nil_iff.mp z x hx
        simp only [Bool.not_eq_true] at hnx
        rw [hnx] at this
        exact this rfl
      obtain ⟨r2, g1, g2, g3⟩ := s_lay (A := pk (vK pl.2.2.1 pl.1 pl.2.2.2.2 E) (gK pl.1 pl.2.2.2.2 E) pl.2.2.2.1) (a3 := 0) hC hlv hM hP hV (e2.mono (fun m k z => Or.inr (Or.inr (Or.inl z)))) (Or.inr ⟨rfl, e3⟩) (by split <;> omega)
      refine ⟨r2, g1, g2, ?_⟩
      rw [if_neg fF] at g3
      unfold rwl rwK
      rw [if_neg qa]
      exact g3
theorem s_X10_findColumns (hC : C10 h) (hlv : lv < 2) (hM : MV h lv E) (hP : MP h pl) (hV : PV pl) : ∃ r : Unit × HS, f_X10_findColumns 42 (nI lv) h = some r ∧ (Ch SK h r.2 ∧ MK r.2 (cll pl E)) := by
  obtain ⟨v1, v2, v3, v4, v5, v6⟩ := id hV
  have hn := hM.1.1
  have hKl := gK_len pl.2.1 pl.2.2.2.2 E
  unfold f_X10_findColumns
  simp only [nn_s, hC.1.1, gd_t, hl_s]
  refine it_ex (fun fu (s : HS) k => l_X10_findColumns_7 fu 42 (nI lv) (nI k) s) 21 (fun k s => Ch SK h s ∧ hI s 42 14 = nI (gKk pl.2.1 pl.2.2.2.2 E k).length ∧ ∀ i, i < (gKk pl.2.1 pl.2.2.2.2 E k).length → hI s 47 i = nI (gk (gl pl.2.1 pl.2.2.2.2 E (gKk pl.2.1 pl.2.2.2.2 E k)) i) ∧ hI s 48 i = gs (gl pl.2.1 pl.2.2.2.2 E (gKk pl.2.1 pl.2.2.2.2 E k)) i) _ ?_ ?_ 21 FU (sI h 42 14 0) 0 (by omega) (by have := FU_gt; omega) ⟨Ch.sI (Or.inr (Or.inr ⟨rfl, rfl⟩)), by rw [hI_sI, if_pos ⟨rfl, rfl⟩]; rfl, fun i hi => by simp [gKk] at hi⟩
  · intro fu s k hk hI0
    obtain ⟨i1, i3, i4⟩ := hI0
    have hC2 := hC.fr i1 (fun n k z q => by unfold SK at z; omega)
    have hM2 := hM.fr i1 (fun k _ _ z => by unfold SK at z; omega)
    obtain ⟨p0, p1, p2, p3, p4⟩ := hP.fr i1 (fun k _ z => by unfold SK at z; omega)
    have hgrp := s_X10_groupOf hC2 hlv hM2 (f := pl.2.1) (w := pl.2.2.2.2) (key := k) (by omega) v5 v6 p4 hk
    have hm := gKk_len pl.2.1 pl.2.2.2.2 E k
    have step : l_X10_findColumns_7 (fu + 1) 42 (nI lv) (nI k) s = b_X10_findColumns_7 (l_X10_findColumns_7 fu) 42 (nI lv) (nI k) s := rfl
    right
    by_cases q1 : gp pl.2.1 pl.2.2.2.2 E k = 0
    · refine ⟨s, ?_, ?_⟩
      · rw [step]
        unfold b_X10_findColumns_7 b_X10_findColumns_58
        rw [show (20 : Int32) = nI 20 from rfl, ite_lt (by omega) (by omega), if_neg (by omega)]
        simp only [nn_s, rk8, hC2.1.1, gd_t, p1, hgrp, bd_s, q1, if_true, nI_1]
      · rw [gKk_succ, if_pos q1]
        exact ⟨i1, i3, i4⟩
    · have hca1 : ca s 47 9 (nI (gKk pl.2.1 pl.2.2.2.2 E k).length) = true := ca_nI hC2.1.2.2.2.2.2.1 (by rw [al47]; omega) (by rw [al47]; omega)
      have hca2 : ∀ a b x, ca (sI s a b x) 48 9 (nI (gKk pl.2.1 pl.2.2.2.2 E k).length) = true := fun a b x => ca_nI (by rw [ck_sI]; exact hC2.1.2.2.2.2.2.2.1) (by rw [al48]; omega) (by rw [al48]; omega)
      have eF : gKk pl.2.1 pl.2.2.2.2 E (k + 1) = gKk pl.2.1 pl.2.2.2.2 E k ++ [k] := by rw [gKk_succ, if_neg q1]
      refine ⟨sI (sI (sI s 47 (gKk pl.2.1 pl.2.2.2.2 E k).length (nI k)) 48 (gKk pl.2.1 pl.2.2.2.2 E k).length (gp pl.2.1 pl.2.2.2.2 E k)) 42 14 (nI ((gKk pl.2.1 pl.2.2.2.2 E k).length + 1)), ?_, ?_⟩
      · rw [step]
        unfold b_X10_findColumns_7 b_X10_findColumns_58
        rw [show (20 : Int32) = nI 20 from rfl, ite_lt (by omega) (by omega), if_neg (by omega)]
        simp only [nn_s, rk8, hC2.1.1, gd_t, p1, hgrp, bd_s, q1, if_false, hC2.2.2.2.2.2.1, hC2.2.2.2.2.2.2.1, i3, hca1, hca2, hl_s, ck_sI, hP_sI, hI_sI, show (42 : Nat) = 47 ↔ False by decide, show (42 : Nat) = 48 ↔ False by decide, false_and, nI_clamp (show (gKk pl.2.1 pl.2.2.2.2 E k).length < 2 ^ 31 by omega), nI_1]
      · refine ⟨((i1.trans (Ch.sI (Or.inl rfl))).trans (Ch.sI (Or.inr (Or.inl rfl)))).trans (Ch.sI (Or.inr (Or.inr ⟨rfl, rfl⟩))), ?_, fun i hi => ?_⟩
        · rw [hI_sI, if_pos ⟨rfl, rfl⟩, eF, List.length_append]; rfl
        · rw [eF] at hi ⊢
          have hi' : i < (gKk pl.2.1 pl.2.2.2.2 E k).length + 1 := by simpa using hi
          have eG : gl pl.2.1 pl.2.2.2.2 E (gKk pl.2.1 pl.2.2.2.2 E k ++ [k]) = gl pl.2.1 pl.2.2.2.2 E (gKk pl.2.1 pl.2.2.2.2 E k) ++ [(k, gp pl.2.1 pl.2.2.2.2 E k)] := by simp [gl]
          rw [eG, gk_snoc _ _ _ (by rw [gl_len]; exact hi'), gs_snoc _ _ _ (by rw [gl_len]; exact hi'), gl_len]
          simp only [hI_sI, show (47 : Nat) = 42 ↔ False by decide, show (48 : Nat) = 42 ↔ False by decide, show (47 : Nat) = 48 ↔ False by decide, show (48 : Nat) = 47 ↔ False by decide, false_and, if_false, true_and]
          by_cases q : i = (gKk pl.2.1 pl.2.2.2.2 E k).length
          · simp only [q, if_true, and_self]
          · simp only [q, if_false]; exact i4 i (by omega)
  · intro fu s hI0
    obtain ⟨i1, i3, i4⟩ := hI0
    refine ⟨((), s), ?_, i1, ?_, ?_, ?_⟩
    · show b_X10_findColumns_7 (l_X10_findColumns_7 fu) 42 (nI lv) (nI 21) s = _
      unfold b_X10_findColumns_7
      rw [show (20 : Int32) = nI 20 from rfl, ite_lt (by omega) (by omega), if_pos (by omega)]
    · unfold cll; rw [gl_len]; exact hKl
    · unfold cll; rw [gl_len]; exact i3
    · unfold cll; rw [gl_len]; exact i4
end FR
/-! rows and columns as lists -/
theorem fw_list {σ α : Type} (g : σ → α → σ) (d : α) : ∀ (R : List α) (s : σ), fw (fun i s => g s (R.getD i d)) 0 R.length s = R.foldl g s := by
  intro R s
  rw [fw_fold, ← List.range_eq_range']
  have e : R = (List.range R.length).map (fun i => R.getD i d) := by
    refine List.ext_getElem? (fun i => ?_)
    by_cases h : i < R.length
    · simp [h]
    · simp [h]
  generalize hn : R.length = n at *
  rw [e, List.foldl_map]
  have e2 : ∀ i, ((List.range n).map (fun i => R.getD i d)).getD i d = if i < n then R.getD i d else d := fun i => by
    by_cases h : i < n
    · simp [h]
    · simp [h]
  have : ∀ (L : List Nat) (s : σ), (∀ i, i ∈ L → i < n) → L.foldl (fun s e => g s (((List.range n).map (fun i => R.getD i d)).getD e d)) s = L.foldl (fun s e => g s (R.getD e d)) s := by
    intro L
    induction L with
    | nil => intro s _; rfl
    | cons a t ih =>
      intro s h
      rw [List.foldl_cons, List.foldl_cons, ih _ (fun i hi => h i (List.mem_cons_of_mem _ hi)), e2, if_pos (h a List.mem_cons_self)]
  exact this _ _ (fun i hi => List.mem_range.mp hi)
def KN (R : RW) : Prop := (R.map (fun y => y.1)).Nodup ∧ ∀ y, y ∈ R → y.1 < 1000
theorem so_fold : ∀ (R : RW) (x s : Int32), KN R → R.foldl (fun s y => if nI y.1 = x then s ||| y.2 else s) s = s ||| so R x
  | [], x, s, _ => by simp [so, or_0]
  | y :: t, x, s, h => by
    have h1 := List.nodup_cons.mp h.1
    have ht : KN t := ⟨h1.2, fun z hz => h.2 z (List.mem_cons_of_mem _ hz)⟩
    rw [List.foldl_cons]
    simp only [so]
    by_cases q : nI y.1 = x
    · rw [if_pos q, if_pos q, so_fold t x _ ht]
      have : so t x = 0 := by
        have : ∀ (t : RW), (∀ z, z ∈ t → ¬ nI z.1 = x) → so t x = 0 := by
          intro t
          induction t with
          | nil => intro _; rfl
          | cons a b ih =>
            intro hz
            simp only [so]
            rw [if_neg (hz a List.mem_cons_self), ih (fun z hz' => hz z (List.mem_cons_of_mem _ hz'))]
        refine this t (fun z hz q2 => h1.1 ?_)
        have e1 := h.2 y List.mem_cons_self
        have e2 := h.2 z (List.mem_cons_of_mem _ hz)
        have : z.1 = y.1 := (nI_eq (by omega) (by omega)).mp (q2.trans q.symm)
        exact List.mem_map.mpr ⟨z, hz, this⟩
      rw [this, or_0]
    · rw [if_neg q, if_neg q, so_fold t x s ht]
def DJ (R : RW) : Prop := R.Pairwise (fun a b => ∀ e, ¬ (bt a.2 e = true ∧ bt b.2 e = true))
theorem ko_fold (e : Nat) : ∀ (R : RW) (s : Int32), DJ R → R.foldl (fun s y => if bt y.2 e = true then nI y.1 else s) s = if (∃ y, y ∈ R ∧ bt y.2 e = true) then ko R e else s
  | [], s, _ => by simp
  | y :: t, s, h => by
    have h1 := List.pairwise_cons.mp h
    rw [List.foldl_cons]
    simp only [ko]
    by_cases q : bt y.2 e = true
    · rw [if_pos q, if_pos q, ko_fold e t _ h1.2, if_neg, if_pos ⟨y, List.mem_cons_self, q⟩]
      rintro ⟨z, hz, hz2⟩
      exact h1.1 z hz e ⟨q, hz2⟩
    · rw [if_neg q, if_neg q, ko_fold e t _ h1.2]
      have : (∃ z, z ∈ y :: t ∧ bt z.2 e = true) ↔ (∃ z, z ∈ t ∧ bt z.2 e = true) := by
        constructor
        · rintro ⟨z, hz, hz2⟩
          rcases List.mem_cons.mp hz with rfl | hz
          · exact absurd hz2 q
          · exact ⟨z, hz, hz2⟩
        · rintro ⟨z, hz, hz2⟩; exact ⟨z, List.mem_cons_of_mem _ hz, hz2⟩
      simp only [this]
theorem ko_none (e : Nat) : ∀ (R : RW), ¬ (∃ y, y ∈ R ∧ bt y.2 e = true) → ko R e = -9
  | [], _ => rfl
  | y :: t, h => by
    simp only [ko]
    rw [if_neg (fun q => h ⟨y, List.mem_cons_self, q⟩), ko_none e t (fun ⟨z, hz, q⟩ => h ⟨z, List.mem_cons_of_mem _ hz, q⟩)]
theorem gl_keys (f w : Nat) (E : EL) (K : List Nat) : (gl f w E K).map (fun y => y.1) = K := by
  unfold gl
  rw [List.map_map]
  exact List.map_id K
theorem gl_KN {f w : Nat} {E : EL} {K : List Nat} (hK : K.Nodup) (h21 : ∀ k, k ∈ K → k < 21) : KN (gl f w E K) := by
  refine ⟨?_, fun y hy => ?_⟩
  · have := gl_keys f w E K
    rw [this]; exact hK
  · obtain ⟨k, hk, rfl⟩ := List.mem_map.mp hy
    have := h21 k hk
    simp only
    omega
theorem gp_dj {E : EL} (hE : E.length ≤ 16) {f w k1 k2 : Nat} (h : k1 ≠ k2) (e : Nat) : ¬ (bt (gp f w E k1) e = true ∧ bt (gp f w E k2) e = true) := by
  rw [bt_gp hE, bt_gp hE]
  simp only [Bool.and_eq_true, decide_eq_true_eq, beq_iff_eq]
  rintro ⟨⟨_, h1⟩, _, h2⟩
  exact h (h1.symm.trans h2)
theorem gl_DJ {E : EL} (hE : E.length ≤ 16) {f w : Nat} {K : List Nat} (hK : K.Nodup) : DJ (gl f w E K) := by
  unfold DJ gl
  rw [List.pairwise_map]
  exact hK.imp (fun h e => gp_dj hE h e)
theorem rwl_ok {E : EL} (hE : E.length ≤ 16) (pl : PL) : KN (rwl pl E) ∧ DJ (rwl pl E) ∧ ∀ y, y ∈ rwl pl E → SB E.length y.2 := by
  have hKd := gK_nodup pl.1 pl.2.2.2.2 E
  unfold rwl rwK
  by_cases q : pl.2.2.2.1 = 0 ∨ (gK pl.1 pl.2.2.2.2 E).length ≤ pl.2.2.2.1
  · rw [if_pos q]
    refine ⟨gl_KN hKd (fun k hk => (gK_mem.mp hk).1), gl_DJ hE hKd, fun y hy => ?_⟩
    obtain ⟨k, hk, rfl⟩ := List.mem_map.mp hy
    exact SB_gp hE _ _ _
  · rw [if_neg q]
    generalize pk (vK pl.2.2.1 pl.1 pl.2.2.2.2 E) (gK pl.1 pl.2.2.2.2 E) pl.2.2.2.1 = P
    have hKf : ((gK pl.1 pl.2.2.2.2 E).filter P).Nodup := List.Nodup.sublist List.filter_sublist hKd
    have hSBo : SB E.length (orL (((gK pl.1 pl.2.2.2.2 E).filter (fun k => !(P k))).map (gp pl.1 pl.2.2.2.2 E))) := fun i hi => by
      rw [bt_or]
      rw [List.any_eq_false]
      intro x hx
      obtain ⟨k, _, rfl⟩ := List.mem_map.mp hx
      rw [SB_gp hE _ _ _ i hi]; simp
    have hk1 := gl_KN (f := pl.1) (w := pl.2.2.2.2) (E := E) hKf (fun k hk => (gK_mem.mp (List.mem_filter.mp hk).1).1)
    refine ⟨⟨?_, fun y hy => ?_⟩, ?_, fun y hy => ?_⟩
    · rw [List.map_append, List.nodup_append]
      refine ⟨hk1.1, by simp, fun a ha b hb z => ?_⟩
      have := gl_keys pl.1 pl.2.2.2.2 E ((gK pl.1 pl.2.2.2.2 E).filter P)
      rw [this] at ha
      have h1 := (gK_mem.mp (List.mem_filter.mp ha).1).1
      have h2 : b = 99 := by simpa using hb
      omega
    · rcases List.mem_append.mp hy with hy | hy
      · exact hk1.2 y hy
      · have : y = (99, orL (((gK pl.1 pl.2.2.2.2 E).filter (fun k => !(P k))).map (gp pl.1 pl.2.2.2.2 E))) := by simpa using hy
        rw [this]; show 99 < 1000; omega
    · unfold DJ
      rw [List.pairwise_append]
      refine ⟨gl_DJ hE hKf, by simp, fun a ha b hb e => ?_⟩
      obtain ⟨k, hk, rfl⟩ := List.mem_map.mp ha
      have hb2 : b = (99, orL (((gK pl.1 pl.2.2.2.2 E).filter (fun k => !(P k))).map (gp pl.1 pl.2.2.2.2 E))) := by simpa using hb
      rintro ⟨h1, h2⟩
      rw [hb2] at h2
      simp only [bt_or, List.any_eq_true] at h2
      obtain ⟨x, hx, hxe⟩ := h2
      obtain ⟨k2, hk2, rfl⟩ := List.mem_map.mp hx
      have h3 := (List.mem_filter.mp hk).2
      have h4 := (List.mem_filter.mp hk2).2
      refine gp_dj hE (k1 := k) (k2 := k2) (fun z => ?_) e ⟨h1, hxe⟩
      subst z
      rw [h3] at h4
      cases h4
    · rcases List.mem_append.mp hy with hy | hy
      · obtain ⟨k, _, rfl⟩ := List.mem_map.mp hy
        exact SB_gp hE _ _ _
      · have : y = (99, orL (((gK pl.1 pl.2.2.2.2 E).filter (fun k => !(P k))).map (gp pl.1 pl.2.2.2.2 E))) := by simpa using hy
        rw [this]; exact hSBo
theorem cll_ok {E : EL} (hE : E.length ≤ 16) (pl : PL) : KN (cll pl E) ∧ ∀ y, y ∈ cll pl E → SB E.length y.2 := by
  unfold cll
  refine ⟨gl_KN (gK_nodup _ _ _) (fun k hk => (gK_mem.mp hk).1), fun y hy => ?_⟩
  obtain ⟨k, _, rfl⟩ := List.mem_map.mp hy
  exact SB_gp hE _ _ _
theorem so_SB {n : Nat} : ∀ (R : RW) (x : Int32), (∀ y, y ∈ R → SB n y.2) → SB n (so R x)
  | [], x, _ => fun i _ => b_0 i
  | y :: t, x, h => by
    simp only [so]
    split
    · exact h y List.mem_cons_self
    · exact so_SB t x (fun z hz => h z (List.mem_cons_of_mem _ hz))
theorem ko_cll {E : EL} (hE : EV E) {pl : PL} (hV : PV pl) {e : Nat} (he : e < E.length) : ko (cll pl E) e = nI (ky pl.2.1 pl.2.2.2.2 E e) := by
  have hkl := ky_lt hE pl.2.1 hV.2.2.2.2.1 he
  have hmem : ky pl.2.1 pl.2.2.2.2 E e ∈ gK pl.2.1 pl.2.2.2.2 E := by
    refine gK_mem.mpr ⟨hkl, fun z => ?_⟩
    have := bt_gp hE.1 pl.2.1 pl.2.2.2.2 (ky pl.2.1 pl.2.2.2.2 E e) e
    rw [z, b_0] at this
    simp [he] at this
  have : ∀ K : List Nat, ky pl.2.1 pl.2.2.2.2 E e ∈ K → ko (gl pl.2.1 pl.2.2.2.2 E K) e = nI (ky pl.2.1 pl.2.2.2.2 E e) := by
    intro K
    induction K with
    | nil => intro h; simp at h
    | cons a t ih =>
      intro h
      show (if bt (gp pl.2.1 pl.2.2.2.2 E a) e = true then nI a else ko (gl pl.2.1 pl.2.2.2.2 E t) e) = _
      by_cases q : ky pl.2.1 pl.2.2.2.2 E e = a
      · rw [if_pos (by rw [bt_gp hE.1]; simp [he, q]), q]
      · rw [if_neg (by rw [bt_gp hE.1]; simp [q])]
        rcases List.mem_cons.mp h with h | h
        · exact absurd h q
        · exact ih h
  exact this _ hmem
