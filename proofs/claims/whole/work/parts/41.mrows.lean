/-! PURE: the reference's pick, findRows, findColumns -/
def MR (h : HS) (R : RW) : Prop := R.length ≤ 17 ∧ hI h 42 13 = nI R.length ∧ ∀ i, i < R.length → hI h 45 i = nI (gk R i) ∧ hI h 46 i = gs R i
def MK (h : HS) (R : RW) : Prop := R.length ≤ 21 ∧ hI h 42 14 = nI R.length ∧ ∀ i, i < R.length → hI h 47 i = nI (gk R i) ∧ hI h 48 i = gs R i
def SR (m k : Nat) : Prop := m = 45 ∨ m = 46 ∨ m = 49 ∨ (m = 42 ∧ k = 13)
def SK (m k : Nat) : Prop := m = 47 ∨ m = 48 ∨ (m = 42 ∧ k = 14)
theorem al45 : al 45 = 17 := by decide
theorem al46 : al 46 = 17 := by decide
theorem al47 : al 47 = 21 := by decide
theorem al48 : al 48 = 21 := by decide
theorem al49 : al 49 = 21 := by decide
theorem gK_le {E : EL} (hE : E.length ≤ 16) (f w : Nat) : (gK f w E).length ≤ E.length := by
  have h1 : (gK f w E).length ≤ ((List.range E.length).map (ky f w E)).length := by
    refine List.Nodup.length_le_of_subset (gK_nodup f w E) (fun k hk => ?_)
    obtain ⟨_, h2⟩ := gK_mem.mp hk
    refine Classical.byContradiction (fun hn => h2 (b_ext (fun i _ => ?_)))
    rw [bt_gp hE, b_0]
    by_cases q : i < E.length
    · have : ¬ ky f w E i = k := fun z => hn (List.mem_map.mpr ⟨i, List.mem_range.mpr q, z⟩)
      simp [this]
    · simp [q]
  simpa using h1
theorem bt_orL (i : Nat) : ∀ (L : List Int32) (s : Int32), bt (L.foldl (fun s x => s ||| x) s) i = (bt s i || L.any (fun x => bt x i))
  | [], s => by simp
  | a :: t, s => by
    rw [List.foldl_cons, bt_orL i t, b_or, List.any_cons, Bool.or_assoc]
theorem bt_or (L : List Int32) (i : Nat) : bt (orL L) i = L.any (fun x => bt x i) := by
  unfold orL
  rw [bt_orL, b_0, Bool.false_or]
theorem orL_ne {L : List Int32} {x : Int32} (hx : x ∈ L) (h0 : ¬ x = 0) : ¬ orL L = 0 := by
  intro q
  refine h0 (b_ext (fun i _ => ?_))
  have h1 := bt_or L i
  rw [q, b_0] at h1
  rw [b_0]
  have h2 : ¬ (L.any (fun x => bt x i) = true) := by rw [← h1]; simp
  rw [List.any_eq_true] at h2
  cases hb : bt x i with
  | false => rfl
  | true => exact absurd ⟨x, hx, hb⟩ h2
def bI (b : Option Nat) : Int32 := match b with
  | none => -9
  | some g => nI g
section PK
variable {h : HS} {lv : Nat} {E : EL} {pl : PL}
/-- one round of picking -/
theorem s_pick1 (hC : C10 h) (hlv : lv < 2) (hM : MV h lv E) (hP : MP h pl) (hV : PV pl) {K23 : Nat → Int32 → Int32 → Int32 → HS → Option (Unit × HS)} {n t : Nat} {tk : Nat → Bool} (htk : ∀ key, key < 21 → hI h 49 key = if tk key = true then 1 else 0) {g : Nat} (hg : gb (vK pl.2.2.1 pl.1 pl.2.2.2.2 E) tk (gK pl.1 pl.2.2.2.2 E) = some g) : l_X10_pick_35 K23 FU 42 (nI lv) (nI n) (nI t) (-9) 0 h = K23 42 (nI lv) (nI n) (nI (t + 1)) (sI h 49 g 1) := by
  obtain ⟨v1, v2, v3, v4, v5, v6⟩ := hV
  obtain ⟨p0, p1, p2, p3, p4⟩ := hP
  have hn := hM.1.1
  have key := it_up (fun fu (s : Option Nat) k => l_X10_pick_35 K23 fu 42 (nI lv) (nI n) (nI t) (bI s) (nI k) h) 21 (fun k b => if gp pl.1 pl.2.2.2.2 E k = 0 then b else gbS (vK pl.2.2.1 pl.1 pl.2.2.2.2 E) tk b k) (fun s => nn (some 42) (fun n1 => gd (ck h n1 8) (nn (hP h n1 19) (fun n2 => gd (ca h n2 9 (bI s)) (hl (sI h n2 (bI s).toNatClampNeg 1) (fun h3 => K23 42 (nI lv) (nI n) (nI t + 1) h3)))))) (fun k b => b = (gKk pl.1 pl.2.2.2.2 E k).foldl (gbS (vK pl.2.2.1 pl.1 pl.2.2.2.2 E) tk) none) ?_ ?_ 21 FU none 0 (by omega) (by have := FU_gt; omega) rfl
  · refine key.trans ?_
    have e : fw (fun k b => if gp pl.1 pl.2.2.2.2 E k = 0 then b else gbS (vK pl.2.2.1 pl.1 pl.2.2.2.2 E) tk b k) 0 21 none = some g := by
      have := fw_inv (fun k b => if gp pl.1 pl.2.2.2.2 E k = 0 then b else gbS (vK pl.2.2.1 pl.1 pl.2.2.2.2 E) tk b k) (fun k b => b = (gKk pl.1 pl.2.2.2.2 E k).foldl (gbS (vK pl.2.2.1 pl.1 pl.2.2.2.2 E) tk) none) 21 (fun k s _ hs => ?_) 21 0 none (by omega) rfl
      · rw [this]; exact hg
      · rw [gKk_succ]
        split
        · exact hs
        · rw [List.foldl_append, ← hs]; rfl
    rw [e]
    have hg21 : g < 21 := by
      rcases gb_in _ _ _ _ _ hg with h2 | h2
      · cases h2
      · exact (gK_mem.mp h2.1).1
    have hca : ca h 49 9 (nI g) = true := ca_nI hC.1.2.2.2.2.2.2.2.1 (by rw [al49]; omega) (by rw [al49]; omega)
    simp only [nn_s, hC.1.1, gd_t, hC.2.2.2.2.2.2.2.1, bI, hca, hl_s, nI_clamp (show g < 2 ^ 31 by omega), nI_1]
  · intro fu b k hk hb
    have hgrp := s_X10_groupOf hC hlv hM (f := pl.1) (w := pl.2.2.2.2) (key := k) (by omega) v5 v6 p4 hk
    have hca : ca h 49 9 (nI k) = true := ca_nI hC.1.2.2.2.2.2.2.2.1 (by rw [al49]; omega) (by rw [al49]; omega)
    have hSB := SB_gp hn pl.1 pl.2.2.2.2 k
    refine ⟨?_, ?_⟩
    · show b_X10_pick_35 K23 (l_X10_pick_35 K23 fu) 42 (nI lv) (nI n) (nI t) (bI b) (nI k) h = _
      unfold b_X10_pick_35 b_X10_pick_74 b_X10_pick_75 b_X10_pick_120 b_X10_pick_115 b_X10_pick_122
      rw [show (20 : Int32) = nI 20 from rfl, ite_lt (by omega) (by omega), if_neg (by omega)]
      simp only [nn_s, rk8, hC.1.1, gd_t, p0, hgrp, bd_s, hC.2.2.2.2.2.2.2.1, hca, nI_clamp (show k < 2 ^ 31 by omega), htk k hk, nI_1, if_true, show ((1 : Int32) = 0) = False by decide, if_false]
      by_cases q1 : gp pl.1 pl.2.2.2.2 E k = 0
      · simp only [q1, if_true]
      · simp only [q1, if_false]
        unfold gbS
        by_cases q2 : tk k = true
        · simp only [q2, if_true, show ((1 : Int32) = 0) = False by decide, if_false]
        · simp only [q2, if_false, if_true, reduceCtorEq]
          cases b with
          | none => simp only [bI, if_true]
          | some g0 =>
            have hg0 : g0 < 21 := by
              rcases gb_in _ _ _ _ _ hb.symm with h2 | h2
              · cases h2
              · have := List.mem_filter.mp h2.1
                have := List.mem_range.mp this.1
                omega
            have hgr2 := s_X10_groupOf hC hlv hM (f := pl.1) (w := pl.2.2.2.2) (key := g0) (by omega) v5 v6 p4 hg0
            have m1 := s_X10_measureOf hC hlv hM (me := pl.2.2.1) (by omega) p2 hSB
            have m2 := s_X10_measureOf hC hlv hM (me := pl.2.2.1) (by omega) p2 (SB_gp hn pl.1 pl.2.2.2.2 g0)
            simp only [bI, nI_ne9 (show g0 ≤ 2000 by omega), if_false, m1, bd_s, hgr2, m2, hC.1.1, gd_t, p0]
            show (if vK pl.2.2.1 pl.1 pl.2.2.2.2 E k ≤ vK pl.2.2.1 pl.1 pl.2.2.2.2 E g0 then _ else _) = _
            split <;> rfl
    · rw [gKk_succ]
      split
      · exact hb
      · rw [List.foldl_append, ← hb]; rfl
  · intro fu b _
    show b_X10_pick_35 K23 (l_X10_pick_35 K23 fu) 42 (nI lv) (nI n) (nI t) (bI b) (nI 21) h = _
    unfold b_X10_pick_35
    rw [show (20 : Int32) = nI 20 from rfl, ite_lt (by omega) (by omega), if_pos (by omega)]
theorem s_X10_pick (hC : C10 h) (hlv : lv < 2) (hM : MV h lv E) (hP : MP h pl) (hV : PV pl) {n : Nat} (hn : n ≤ (gK pl.1 pl.2.2.2.2 E).length) : ∃ r : Unit × HS, f_X10_pick 42 (nI lv) (nI n) h = some r ∧ (Ch (fun m _ => m = 49) h r.2 ∧ ∀ key, key < 21 → hI r.2 49 key = if pk (vK pl.2.2.1 pl.1 pl.2.2.2.2 E) (gK pl.1 pl.2.2.2.2 E) n key = true then 1 else 0) := by
  have hK := gK_len pl.1 pl.2.2.2.2 E
  unfold f_X10_pick
  refine it_ex (fun fu (s : HS) k => l_X10_pick_2 fu 42 (nI lv) (nI n) (nI k) s) 21 (fun k s => Ch (fun m _ => m = 49) h s ∧ ∀ key, key < k → hI s 49 key = 0) _ ?_ ?_ 21 FU h 0 (by omega) (by have := FU_gt; omega) ⟨Ch.rf, fun _ hk => by omega⟩
  · intro fu s k hk hI0
    obtain ⟨i1, i2⟩ := hI0
    have hC2 := hC.fr i1 (fun n k z q => by omega)
    have hca : ca s 49 9 (nI k) = true := ca_nI hC2.1.2.2.2.2.2.2.2.1 (by rw [al49]; omega) (by rw [al49]; omega)
    right
    refine ⟨sI s 49 k 0, ?_, i1.trans (Ch.sI rfl), fun key hkey => ?_⟩
    · show b_X10_pick_2 (l_X10_pick_2 fu) 42 (nI lv) (nI n) (nI k) s = _
      unfold b_X10_pick_2
      rw [show (20 : Int32) = nI 20 from rfl, ite_lt (by omega) (by omega), if_neg (by omega)]
      simp only [nn_s, hC2.1.1, gd_t, hC2.2.2.2.2.2.2.2.1, hca, hl_s, nI_clamp (show k < 2 ^ 31 by omega), nI_1]
    · rw [hI_sI]
      by_cases q : key = k
      · rw [if_pos ⟨rfl, q⟩]
      · rw [if_neg (fun z => q z.2)]; exact i2 key (by omega)
  · intro fu s hI0
    obtain ⟨i1, i2⟩ := hI0
    have step : l_X10_pick_2 (fu + 1) 42 (nI lv) (nI n) (nI 21) s = l_X10_pick_23 FU 42 (nI lv) (nI n) 0 s := by
      show b_X10_pick_2 (l_X10_pick_2 fu) 42 (nI lv) (nI n) (nI 21) s = _
      unfold b_X10_pick_2
      rw [show (20 : Int32) = nI 20 from rfl, ite_lt (by omega) (by omega), if_pos (by omega)]
    rw [step]
    refine it_ex (fun fu (s : HS) k => l_X10_pick_23 fu 42 (nI lv) (nI n) (nI k) s) n (fun t s => Ch (fun m _ => m = 49) h s ∧ ∀ key, key < 21 → hI s 49 key = if pk (vK pl.2.2.1 pl.1 pl.2.2.2.2 E) (gK pl.1 pl.2.2.2.2 E) t key = true then 1 else 0) _ ?_ ?_ n FU s 0 (by omega) (by have := FU_gt; omega) ⟨i1, fun key hk => by rw [i2 key hk]; simp [pk]⟩
    · intro fu2 s2 t ht hI1
      obtain ⟨j1, j2⟩ := hI1
      have hC2 := hC.fr j1 (fun n k z q => by omega)
      obtain ⟨g, hg, hgm, hgp⟩ := gb_some (vK pl.2.2.1 pl.1 pl.2.2.2.2 E) (gK_nodup pl.1 pl.2.2.2.2 E) (t := t) (by omega)
      right
      refine ⟨sI s2 49 g 1, ?_, j1.trans (Ch.sI rfl), fun key hkey => ?_⟩
      · show b_X10_pick_23 (l_X10_pick_23 fu2) 42 (nI lv) (nI n) (nI t) s2 = _
        unfold b_X10_pick_23
        rw [ite_le (by omega) (by omega), if_neg (by omega)]
        exact s_pick1 hC2 hlv (hM.fr j1 (fun k _ _ z => by omega)) (hP.fr j1 (fun k _ z => by omega)) hV j2 hg
      · rw [hI_sI]
        simp only [pk, hg]
        by_cases q : key = g
        · rw [if_pos ⟨trivial, q⟩, q]; simp
        · rw [if_neg (fun z => q z.2), j2 key hkey]
          have : (some g == some key) = false := by simpa using Ne.symm q
          rw [this, Bool.or_false]
    · intro fu2 s2 hI1
      refine ⟨((), s2), ?_, hI1⟩
      show b_X10_pick_23 (l_X10_pick_23 fu2) 42 (nI lv) (nI n) (nI n) s2 = _
      unfold b_X10_pick_23
      rw [ite_le (by omega) (by omega), if_pos (by omega)]
/-- the rows as they are laid, key by key; a3: whether all are -/
theorem s_lay {h0 : HS} (hC : C10 h0) (hlv : lv < 2) (hM : MV h0 lv E) (hP : MP h0 pl) (hV : PV pl) {A : Nat → Bool} {a3 : Int32} (hc : Ch SR h0 h) (hA : (a3 = 1 ∧ ∀ k, A k = true) ∨ (a3 = 0 ∧ ∀ k, k < 21 → hI h 49 k = if A k = true then 1 else 0)) (hroom : ((gK pl.1 pl.2.2.2.2 E).filter A).length + (if ((gK pl.1 pl.2.2.2.2 E).filter (fun k => !(A k))) = [] then 0 else 1) ≤ 17) : ∃ r : Unit × HS, l_X10_findRows_86 FU 42 (nI lv) a3 0 0 (sI h 42 13 0) = some r ∧ (Ch SR h0 r.2 ∧ MR r.2 (gl pl.1 pl.2.2.2.2 E ((gK pl.1 pl.2.2.2.2 E).filter A) ++ (if ((gK pl.1 pl.2.2.2.2 E).filter (fun k => !(A k))) = [] then [] else [(99, orL (((gK pl.1 pl.2.2.2.2 E).filter (fun k => !(A k))).map (gp pl.1 pl.2.2.2.2 E)))]))) := by
  obtain ⟨v1, v2, v3, v4, v5, v6⟩ := id hV
  have hn := hM.1.1
  have hK := gK_len pl.1 pl.2.2.2.2 E
  have hKn := gK_le hn pl.1 pl.2.2.2.2
  have mono : ∀ k, k ≤ 21 → ((gKk pl.1 pl.2.2.2.2 E k).filter A).length ≤ 16 := fun k hk => by
    have h1 := List.length_filter_le A (gKk pl.1 pl.2.2.2.2 E k)
    have h2 : (gKk pl.1 pl.2.2.2.2 E k).length ≤ (gK pl.1 pl.2.2.2.2 E).length := by
      unfold gKk gK
      rw [show (21 : Nat) = k + (21 - k) by omega, List.range_add, List.filter_append, List.length_append]
      omega
    omega
  refine it_ex (fun fu (s : Int32 × HS) k => l_X10_findRows_86 fu 42 (nI lv) a3 s.1 (nI k) s.2) 21 (fun k s => s.1 = orL (((gKk pl.1 pl.2.2.2.2 E k).filter (fun k => !(A k))).map (gp pl.1 pl.2.2.2.2 E)) ∧ Ch SR h0 s.2 ∧ (∀ key, hI s.2 49 key = hI h 49 key) ∧ hI s.2 42 13 = nI ((gKk pl.1 pl.2.2.2.2 E k).filter A).length ∧ ∀ i, i < ((gKk pl.1 pl.2.2.2.2 E k).filter A).length → hI s.2 45 i = nI (gk (gl pl.1 pl.2.2.2.2 E ((gKk pl.1 pl.2.2.2.2 E k).filter A)) i) ∧ hI s.2 46 i = gs (gl pl.1 pl.2.2.2.2 E ((gKk pl.1 pl.2.2.2.2 E k).filter A)) i) _ ?_ ?_ 21 FU (0, sI h 42 13 0) 0 (by omega) (by have := FU_gt; omega) ⟨rfl, hc.trans (Ch.sI (Or.inr (Or.inr (Or.inr ⟨rfl, rfl⟩)))), fun key => by rw [hI_sI, if_neg (by omega)], by rw [hI_sI, if_pos ⟨rfl, rfl⟩]; rfl, fun i hi => by simp [gKk] at hi⟩
  · intro fu s k hk hI0
    obtain ⟨rest, s⟩ := s
    obtain ⟨i0, i1, i2, i3, i4⟩ := hI0
    simp only at i0 i1 i2 i3 i4
    have hC2 := hC.fr i1 (fun n k z q => by unfold SR at z; omega)
    have hM2 := hM.fr i1 (fun k _ _ z => by unfold SR at z; omega)
    obtain ⟨p0, p1, p2, p3, p4⟩ := hP.fr i1 (fun k _ z => by unfold SR at z; omega)
    have hgrp := s_X10_groupOf hC2 hlv hM2 (f := pl.1) (w := pl.2.2.2.2) (key := k) (by omega) v5 v6 p4 hk
    have hm := mono k (by omega)
    have hca49 : ca s 49 9 (nI k) = true := ca_nI hC2.1.2.2.2.2.2.2.2.1 (by rw [al49]; omega) (by rw [al49]; omega)
    have step : ∀ x, l_X10_findRows_86 (fu + 1) 42 (nI lv) a3 x (nI k) s = b_X10_findRows_86 (l_X10_findRows_86 fu) 42 (nI lv) a3 x (nI k) s := fun _ => rfl
    right
    by_cases q1 : gp pl.1 pl.2.2.2.2 E k = 0
    · refine ⟨(rest, s), ?_, ?_⟩
      · simp only [step]
        unfold b_X10_findRows_86 b_X10_findRows_161 b_X10_findRows_168
        rw [show (20 : Int32) = nI 20 from rfl, ite_lt (by omega) (by omega), if_neg (by omega)]
        simp only [nn_s, rk8, hC2.1.1, gd_t, p0, hgrp, bd_s, q1, if_true, or_0, nI_1]
      · rw [gKk_succ, if_pos q1]
        exact ⟨i0, i1, i2, i3, i4⟩
    · by_cases qA : A k = true
      · have hca1 : ca s 45 9 (nI ((gKk pl.1 pl.2.2.2.2 E k).filter A).length) = true := ca_nI hC2.1.2.2.2.1 (by rw [al45]; omega) (by rw [al45]; omega)
        have hca2 : ∀ a b x, ca (sI s a b x) 46 9 (nI ((gKk pl.1 pl.2.2.2.2 E k).filter A).length) = true := fun a b x => ca_nI (by rw [ck_sI]; exact hC2.1.2.2.2.2.1) (by rw [al46]; omega) (by rw [al46]; omega)
        have eF : (gKk pl.1 pl.2.2.2.2 E (k + 1)).filter A = (gKk pl.1 pl.2.2.2.2 E k).filter A ++ [k] := by
          rw [gKk_succ, if_neg q1, List.filter_append]; simp [qA]
        have eN : (gKk pl.1 pl.2.2.2.2 E (k + 1)).filter (fun k => !(A k)) = (gKk pl.1 pl.2.2.2.2 E k).filter (fun k => !(A k)) := by
          rw [gKk_succ, if_neg q1, List.filter_append]; simp [qA]
        refine ⟨(rest, sI (sI (sI s 45 ((gKk pl.1 pl.2.2.2.2 E k).filter A).length (nI k)) 46 ((gKk pl.1 pl.2.2.2.2 E k).filter A).length (gp pl.1 pl.2.2.2.2 E k)) 42 13 (nI (((gKk pl.1 pl.2.2.2.2 E k).filter A).length + 1))), ?_, ?_⟩
        · simp only [step]
          unfold b_X10_findRows_86 b_X10_findRows_161 b_X10_findRows_168 b_X10_findRows_126
          unfold b_X10_findRows_168
          rw [show (20 : Int32) = nI 20 from rfl, ite_lt (by omega) (by omega), if_neg (by omega)]
          have fin : ∀ X : Option (Unit × HS), X = l_X10_findRows_86 fu 42 (nI lv) a3 rest (nI (k + 1)) (sI (sI (sI s 45 ((gKk pl.1 pl.2.2.2.2 E k).filter A).length (nI k)) 46 ((gKk pl.1 pl.2.2.2.2 E k).filter A).length (gp pl.1 pl.2.2.2.2 E k)) 42 13 (nI (((gKk pl.1 pl.2.2.2.2 E k).filter A).length + 1))) → X = l_X10_findRows_86 fu 42 (nI lv) a3 rest (nI (k + 1)) (sI (sI (sI s 45 ((gKk pl.1 pl.2.2.2.2 E k).filter A).length (nI k)) 46 ((gKk pl.1 pl.2.2.2.2 E k).filter A).length (gp pl.1 pl.2.2.2.2 E k)) 42 13 (nI (((gKk pl.1 pl.2.2.2.2 E k).filter A).length + 1))) := fun _ z => z
          simp only [nn_s, rk8, hC2.1.1, gd_t, p0, hgrp, bd_s, q1, if_false, hC2.2.2.2.1, hC2.2.2.2.2.1, hC2.2.2.2.2.2.2.2.1, hca49, i3, hca1, hca2, hl_s, ck_sI, hP_sI, hI_sI, show (42 : Nat) = 45 ↔ False by decide, show (42 : Nat) = 46 ↔ False by decide, false_and, nI_clamp (show ((gKk pl.1 pl.2.2.2.2 E k).filter A).length < 2 ^ 31 by omega), nI_clamp (show k < 2 ^ 31 by omega), nI_1, i2]
          rcases hA with ⟨rfl, _⟩ | ⟨rfl, hA⟩
          · rw [if_neg (by decide)]
          · rw [if_pos rfl, hA k hk, if_pos qA, if_pos rfl]
        · refine ⟨by simp only; rw [eN]; exact i0, ((i1.trans (Ch.sI (Or.inl rfl))).trans (Ch.sI (Or.inr (Or.inl rfl)))).trans (Ch.sI (Or.inr (Or.inr (Or.inr ⟨rfl, rfl⟩)))), fun key => ?_, ?_, fun i hi => ?_⟩
          · rw [hI_sI, if_neg (by omega), hI_sI, if_neg (by omega), hI_sI, if_neg (by omega)]; exact i2 key
          · rw [hI_sI, if_pos ⟨rfl, rfl⟩, eF, List.length_append]; rfl
          · rw [eF] at hi ⊢
            have hi' : i < ((gKk pl.1 pl.2.2.2.2 E k).filter A).length + 1 := by simpa using hi
            have eG : gl pl.1 pl.2.2.2.2 E ((gKk pl.1 pl.2.2.2.2 E k).filter A ++ [k]) = gl pl.1 pl.2.2.2.2 E ((gKk pl.1 pl.2.2.2.2 E k).filter A) ++ [(k, gp pl.1 pl.2.2.2.2 E k)] := by simp [gl]
            rw [eG, gk_snoc _ _ _ (by rw [gl_len]; exact hi'), gs_snoc _ _ _ (by rw [gl_len]; exact hi'), gl_len]
            simp only [hI_sI, show (45 : Nat) = 42 ↔ False by decide, show (46 : Nat) = 42 ↔ False by decide, show (45 : Nat) = 46 ↔ False by decide, show (46 : Nat) = 45 ↔ False by decide, false_and, if_false, true_and]
            by_cases q : i = ((gKk pl.1 pl.2.2.2.2 E k).filter A).length
            · simp only [q, if_true, and_self]
            · simp only [q, if_false]; exact i4 i (by omega)
      · have qAf : A k = false := by simpa using qA
        have eF : (gKk pl.1 pl.2.2.2.2 E (k + 1)).filter A = (gKk pl.1 pl.2.2.2.2 E k).filter A := by
          rw [gKk_succ, if_neg q1, List.filter_append]; simp [qAf]
        have eN : (gKk pl.1 pl.2.2.2.2 E (k + 1)).filter (fun k => !(A k)) = (gKk pl.1 pl.2.2.2.2 E k).filter (fun k => !(A k)) ++ [k] := by
          rw [gKk_succ, if_neg q1, List.filter_append]; simp [qAf]
        refine ⟨(rest ||| gp pl.1 pl.2.2.2.2 E k, s), ?_, ?_⟩
        · simp only [step]
          unfold b_X10_findRows_86 b_X10_findRows_161 b_X10_findRows_168
          rw [show (20 : Int32) = nI 20 from rfl, ite_lt (by omega) (by omega), if_neg (by omega)]
          simp only [nn_s, rk8, hC2.1.1, gd_t, p0, hgrp, bd_s, q1, if_false, hC2.2.2.2.2.2.2.2.1, hca49, nI_clamp (show k < 2 ^ 31 by omega), nI_1, i2]
          rcases hA with ⟨rfl, hA⟩ | ⟨rfl, hA⟩
          · exact absurd (hA k) qA
          · rw [if_pos rfl, hA k hk, if_neg qA, if_neg (by decide)]
        · refine ⟨by simp only; rw [eN, List.map_append, i0]; exact (orL_snoc _ _).symm, i1, i2, ?_, ?_⟩
          · simp only; rw [eF]; exact i3
          · simp only; rw [eF]; exact i4
  · intro fu s hI0
    obtain ⟨rest, s⟩ := s
    obtain ⟨i0, i1, i2, i3, i4⟩ := hI0
    simp only at i0 i1 i2 i3 i4
    change rest = orL (((gK pl.1 pl.2.2.2.2 E).filter (fun k => !(A k))).map (gp pl.1 pl.2.2.2.2 E)) at i0
    change hI s 42 13 = nI ((gK pl.1 pl.2.2.2.2 E).filter A).length at i3
    change ∀ i, i < ((gK pl.1 pl.2.2.2.2 E).filter A).length → hI s 45 i = nI (gk (gl pl.1 pl.2.2.2.2 E ((gK pl.1 pl.2.2.2.2 E).filter A)) i) ∧ hI s 46 i = gs (gl pl.1 pl.2.2.2.2 E ((gK pl.1 pl.2.2.2.2 E).filter A)) i at i4
    have hC2 := hC.fr i1 (fun n k z q => by unfold SR at z; omega)
    have hm : ((gK pl.1 pl.2.2.2.2 E).filter A).length ≤ 16 := mono 21 (by omega)
    by_cases qn : (gK pl.1 pl.2.2.2.2 E).filter (fun k => !(A k)) = []
    · refine ⟨((), s), ?_, i1, ?_⟩
      · show b_X10_findRows_86 (l_X10_findRows_86 fu) 42 (nI lv) a3 rest (nI 21) s = _
        unfold b_X10_findRows_86 b_X10_findRows_211
        rw [show (20 : Int32) = nI 20 from rfl, ite_lt (by omega) (by omega), if_pos (by omega), if_pos]
        rw [i0, qn]; rfl
      · rw [if_pos qn, List.append_nil]
        refine ⟨by rw [gl_len]; omega, by rw [gl_len]; exact i3, fun i hi => i4 i (by rw [gl_len] at hi; exact hi)⟩
    · rw [if_neg qn] at hroom
      have hne : ¬ rest = 0 := by
        obtain ⟨x, hx⟩ := List.exists_mem_of_ne_nil _ qn
        rw [i0]
        exact orL_ne (List.mem_map.mpr ⟨x, hx, rfl⟩) (gK_mem.mp (List.mem_filter.mp hx).1).2
      have hca1 : ca s 45 9 (nI ((gK pl.1 pl.2.2.2.2 E).filter A).length) = true := ca_nI hC2.1.2.2.2.1 (by rw [al45]; omega) (by rw [al45]; omega)
      have hca2 : ∀ a b x, ca (sI s a b x) 46 9 (nI ((gK pl.1 pl.2.2.2.2 E).filter A).length) = true := fun a b x => ca_nI (by rw [ck_sI]; exact hC2.1.2.2.2.2.1) (by rw [al46]; omega) (by rw [al46]; omega)
      refine ⟨((), sI (sI (sI s 45 ((gK pl.1 pl.2.2.2.2 E).filter A).length 99) 46 ((gK pl.1 pl.2.2.2.2 E).filter A).length rest) 42 13 (nI (((gK pl.1 pl.2.2.2.2 E).filter A).length + 1))), ?_, ?_, ?_⟩
      · show b_X10_findRows_86 (l_X10_findRows_86 fu) 42 (nI lv) a3 rest (nI 21) s = _
        unfold b_X10_findRows_86 b_X10_findRows_211
        rw [show (20 : Int32) = nI 20 from rfl, ite_lt (by omega) (by omega), if_pos (by omega), if_neg hne]
        simp only [nn_s, hC2.1.1, gd_t, hC2.2.2.2.1, hC2.2.2.2.2.1, i3, hca1, hca2, hl_s, ck_sI, hP_sI, hI_sI, show (42 : Nat) = 45 ↔ False by decide, show (42 : Nat) = 46 ↔ False by decide, false_and, if_false, nI_clamp (show ((gK pl.1 pl.2.2.2.2 E).filter A).length < 2 ^ 31 by omega), nI_1]
      · exact ((i1.trans (Ch.sI (Or.inl rfl))).trans (Ch.sI (Or.inr (Or.inl rfl)))).trans (Ch.sI (Or.inr (Or.inr (Or.inr ⟨rfl, rfl⟩))))
      · rw [if_neg qn]
        refine ⟨by simp only [List.length_append, gl_len, List.length_cons, List.length_nil]; omega, ?_, fun i hi => ?_⟩
        · rw [hI_sI, if_pos ⟨rfl, rfl⟩]
          simp only [List.length_append, gl_len, List.length_cons, List.length_nil]
        · have hi' : i < ((gK pl.1 pl.2.2.2.2 E).filter A).length + 1 := by simpa [gl_len] using hi
          rw [gk_snoc _ _ _ (by rw [gl_len]; exact hi'), gs_snoc _ _ _ (by rw [gl_len]; exact hi'), gl_len]
          simp only [hI_sI, show (45 : Nat) = 42 ↔ False by decide, show (46 : Nat) = 42 ↔ False by decide, show (45 : Nat) = 46 ↔ False by decide, show (46 : Nat) = 45 ↔ False by decide, false_and, if_false, true_and]
          by_cases q : i = ((gK pl.1 pl.2.2.2.2 E).filter A).length
          · simp only [q, if_true]
            exact ⟨rfl, i0⟩
          · simp only [q, if_false]; exact i4 i (by omega)
end PK
