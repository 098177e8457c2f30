/-! OPS: the reference's reading of the text; fault, plan -/
def SX (m k : Nat) : Prop := m = 42 ∧ 5 ≤ k ∧ k ≤ 9
def PM (h : HS) (pl : PL) : Prop := hI h 42 5 = nI pl.1 ∧ hI h 42 6 = nI pl.2.1 ∧ hI h 42 7 = nI pl.2.2.1 ∧ hI h 42 8 = nI pl.2.2.2.1 ∧ hI h 42 9 = nI pl.2.2.2.2
theorem T10.sx {h h' : HS} {T : List Nat} (x : T10 h T) (c : Ch SX h h') : T10 h' T := x.fr c (fun n k z => by unfold SX at z; omega)
theorem C10.sx {h h' : HS} (x : C10 h) (c : Ch SX h h') : C10 h' := x.fr c (fun n k z q => by unfold SX at z; omega)
theorem t_let {h : HS} {T : List Nat} (hC : C10 h) (hT : T10 h T) {i : Nat} (hi : i < T.length) : ca h 43 9 (nI i) = true ∧ hI h 43 i = lA T i := by
  have hl := hT.1
  refine ⟨ca_nI hC.1.2.1 (by rw [al43]; omega) (by rw [al43]; omega), ?_⟩
  rw [hT.2.2.1 i hi]
  unfold lA
  rw [if_pos hi]
theorem lA_no {T : List Nat} {i : Nat} (h : T.length ≤ i) : lA T i = -1 := by
  unfold lA
  rw [if_neg (by omega)]
theorem mN_key : ∀ k, k < 5 → mN (nI (wd k 0)) = k := by decide
theorem mN_k (x : Int32) {k : Nat} (hk : k < 5) : nI (wd k 0) = x ↔ mN x = k := by
  refine ⟨fun e => by rw [← e]; exact mN_key k hk, fun e => ?_⟩
  unfold mN at e
  by_cases h1 : x = 99
  · rw [if_pos h1] at e; subst e; exact h1.symm
  rw [if_neg h1] at e
  by_cases h2 : x = 115
  · rw [if_pos h2] at e; subst e; exact h2.symm
  rw [if_neg h2] at e
  by_cases h3 : x = 109
  · rw [if_pos h3] at e; subst e; exact h3.symm
  rw [if_neg h3] at e
  by_cases h4 : x = 108
  · rw [if_pos h4] at e; subst e; exact h4.symm
  rw [if_neg h4] at e
  by_cases h5 : x = 107
  · rw [if_pos h5] at e; subst e; exact h5.symm
  rw [if_neg h5] at e
  omega
def rtS (T : List Nat) (k : Nat) (s : HS) : HS := if mN (lA T 2) = k then sI s 42 7 (nI k) else sI s 42 7 (hI s 42 7)
def rtE (s : HS) : Option (Int32 × HS) := if hI s 42 7 = -9 then some (2, s) else l_X10_readText_161 FU 42 2 s
theorem rt_inv {h : HS} {T : List Nat} {k : Nat} {s : HS} (hk : k < 5) (i : Ch (fun m j => m = 42 ∧ j = 7) h s ∧ hI s 42 7 = if mN (lA T 2) < k then nI (mN (lA T 2)) else -9) : Ch (fun m j => m = 42 ∧ j = 7) h (rtS T k s) ∧ hI (rtS T k s) 42 7 = if mN (lA T 2) < k + 1 then nI (mN (lA T 2)) else -9 := by
  obtain ⟨i1, i2⟩ := i
  unfold rtS
  by_cases q : mN (lA T 2) = k
  · rw [if_pos q]
    refine ⟨i1.trans (Ch.sI ⟨rfl, rfl⟩), ?_⟩
    rw [hI_sI, if_pos ⟨rfl, rfl⟩, if_pos (by omega), q]
  · rw [if_neg q]
    refine ⟨i1.trans (Ch.sI ⟨rfl, rfl⟩), ?_⟩
    rw [hI_sI, if_pos ⟨rfl, rfl⟩, i2]
    by_cases q2 : mN (lA T 2) < k
    · rw [if_pos q2, if_pos (by omega)]
    · rw [if_neg q2, if_neg (by omega)]
theorem s_rt103 {h : HS} {T : List Nat} (hC : C10 h) (hT : T10 h T) (h7 : hI h 42 7 = -9) : l_X10_readText_103 FU 42 0 h = rtE (fw (rtS T) 0 5 h) ∧ Ch (fun m j => m = 42 ∧ j = 7) h (fw (rtS T) 0 5 h) ∧ hI (fw (rtS T) 0 5 h) 42 7 = if mN (lA T 2) < 5 then nI (mN (lA T 2)) else -9 := by
  have i0 : Ch (fun m j => m = 42 ∧ j = 7) h h ∧ hI h 42 7 = if mN (lA T 2) < 0 then nI (mN (lA T 2)) else -9 := ⟨Ch.rf, by rw [if_neg (by omega)]; exact h7⟩
  refine ⟨?_, fw_inv (rtS T) (fun k s => Ch (fun m j => m = 42 ∧ j = 7) h s ∧ hI s 42 7 = if mN (lA T 2) < k then nI (mN (lA T 2)) else -9) 5 (fun k s hk i => rt_inv hk i) 5 0 h (by omega) i0⟩
  refine it_up (fun n (s : HS) k => l_X10_readText_103 n 42 (nI k) s) 5 (rtS T) rtE (fun k s => Ch (fun m j => m = 42 ∧ j = 7) h s ∧ hI s 42 7 = if mN (lA T 2) < k then nI (mN (lA T 2)) else -9) ?_ ?_ 5 FU h 0 (by omega) (by have := FU_gt; omega) i0
  · intro n s k hk i
    refine ⟨?_, rt_inv hk i⟩
    have hC2 : C10 s := hC.fr i.1 (fun n k z q => by omega)
    have hT2 : T10 s T := hT.fr i.1 (fun n k z => by omega)
    have hlen := hT.1
    show b_X10_readText_103 (l_X10_readText_103 n) 42 (nI k) s = _
    unfold b_X10_readText_103 b_X10_readText_135 b_X10_readText_139 rtS
    rw [if_neg (show ¬ (5 : Int32) ≤ nI k from nI_ge (b := 5) (by omega) (by omega))]
    have hlo := s_lOf (me := k) (i := 0) (by omega) (by omega) s
    rw [show nI 0 = 0 from rfl, if_pos (by have := wdL_le k (by omega); omega)] at hlo
    simp only [nn_s, hC2.1.1, gd_t, hT2.2.1, hlo, bd_s, hC2.2.1]
    by_cases q : T.length ≤ 2
    · rw [if_pos (show nI T.length ≤ 2 from nI_le (b := 2) q (by omega))]
      have e9 : mN (lA T 2) = 9 := by rw [lA_no q]; decide
      rw [if_neg (show ¬ mN (lA T 2) = k by omega)]
      simp only [hl_s, nI_1]
    · rw [if_neg (show ¬ nI T.length ≤ 2 from nI_ge (a := 2) (by omega) (by omega))]
      obtain ⟨g1, g2⟩ := t_let hC2 hT2 (i := 2) (by omega)
      rw [show nI 2 = 2 from rfl] at g1
      simp only [g1, gd_t, show (2 : Int32).toNatClampNeg = 2 from rfl, g2, mN_k (lA T 2) hk]
      by_cases q2 : mN (lA T 2) = k
      · simp only [q2, if_true, hl_s, nI_1]
      · simp only [q2, if_false, hl_s, nI_1]
  · intro n s i
    have hC2 : C10 s := hC.fr i.1 (fun n k z q => by omega)
    show b_X10_readText_103 (l_X10_readText_103 n) 42 (nI 5) s = _
    unfold b_X10_readText_103 rtE
    rw [if_pos (show (5 : Int32) ≤ nI 5 by decide)]
    simp only [nn_s, hC2.1.1, gd_t]
def reF (T : List Nat) (s : Nat) : Int32 :=
  if ¬ lA T s = 46 then nI s
  else if ¬ (48 ≤ (lA T (s + 1)).toInt ∧ (lA T (s + 1)).toInt ≤ 52) then nI (s + 1)
  else if ¬ (49 ≤ (lA T (s + 2)).toInt ∧ (lA T (s + 2)).toInt ≤ 57) then nI (s + 2)
  else if s + 3 < T.length then nI (s + 3) else -9
theorem re_out {h h' : HS} {T : List Nat} {s : Nat} {v : Int32} (c : Ch SX h h') (e : reF T s = v) (hv : ¬ v = -9) : ∃ h'', some (v, h') = some (reF T s, h'') ∧ Ch (fun m k => m = 42 ∧ (k = 8 ∨ k = 9)) h' h'' ∧ (reF T s = -9 → hI h'' 42 8 = nI ((lA T (s + 1)).toInt.toNat - 48) ∧ hI h'' 42 9 = nI ((lA T (s + 2)).toInt.toNat - 48)) := ⟨h', by rw [e], Ch.rf, fun z => absurd (e.symm.trans z) hv⟩
theorem s_readEnd {h : HS} {T : List Nat} (hC : C10 h) (hT : T10 h T) {s : Nat} (hs : s ≤ 10) : ∃ h', f_X10_readEnd 42 (nI s) h = some (reF T s, h') ∧ Ch (fun m k => m = 42 ∧ (k = 8 ∨ k = 9)) h h' ∧ (reF T s = -9 → hI h' 42 8 = nI ((lA T (s + 1)).toInt.toNat - 48) ∧ hI h' 42 9 = nI ((lA T (s + 2)).toInt.toNat - 48)) := by
  have hlen := hT.1
  have e1 : nI s + 1 = nI (s + 1) := nI_1 s
  have e2 : nI s + 2 = nI (s + 2) := nI_add s 2
  have e3 : nI s + 3 = nI (s + 3) := nI_add s 3
  unfold f_X10_readEnd b_X10_readEnd_19 b_X10_readEnd_52 b_X10_readEnd_87 b_X10_readEnd_139
  simp only [nn_s, hC.1.1, gd_t, hT.2.1, e1, e2, e3, hC.2.1, nI_clamp (show s < 2 ^ 31 by omega), nI_clamp (show s + 1 < 2 ^ 31 by omega), nI_clamp (show s + 2 < 2 ^ 31 by omega), s_X10_in, bd_s, show (48 : Int64).toInt = 48 from rfl, show (52 : Int64).toInt = 52 from rfl, show (49 : Int64).toInt = 49 from rfl, show (57 : Int64).toInt = 57 from rfl]
  rw [ite_le (by omega) (by omega)]
  by_cases q0 : T.length ≤ s
  · rw [if_pos q0]
    exact re_out Ch.rf (by unfold reF; rw [lA_no q0, if_pos (by decide)]) (nI_ne9 (by omega))
  rw [if_neg q0, (t_let hC hT (i := s) (by omega)).1, (t_let hC hT (i := s) (by omega)).2]
  simp only [gd_t]
  by_cases p0 : lA T s = 46
  rotate_left
  · rw [if_neg p0]
    exact re_out Ch.rf (by unfold reF; rw [if_pos p0]) (nI_ne9 (by omega))
  rw [if_pos p0, ite_le (by omega) (by omega)]
  by_cases q1 : T.length ≤ s + 1
  · rw [if_pos q1]
    exact re_out Ch.rf (by unfold reF; rw [if_neg (fun z => z p0), lA_no q1, if_pos (by decide)]) (nI_ne9 (by omega))
  rw [if_neg q1, (t_let hC hT (i := s + 1) (by omega)).1, (t_let hC hT (i := s + 1) (by omega)).2]
  simp only [gd_t]
  by_cases p1 : 48 ≤ (lA T (s + 1)).toInt ∧ (lA T (s + 1)).toInt ≤ 52
  rotate_left
  · simp only [p1, if_false, if_true]
    exact re_out Ch.rf (by unfold reF; rw [if_neg (fun z => z p0), if_pos p1]) (nI_ne9 (by omega))
  simp only [p1, and_self, if_true, one0, if_false]
  rw [ite_le (by omega) (by omega)]
  by_cases q2 : T.length ≤ s + 2
  · rw [if_pos q2]
    exact re_out Ch.rf (by unfold reF; rw [if_neg (fun z => z p0), if_neg (fun z => z p1), lA_no q2, if_pos (by decide)]) (nI_ne9 (by omega))
  rw [if_neg q2, (t_let hC hT (i := s + 2) (by omega)).1, (t_let hC hT (i := s + 2) (by omega)).2]
  simp only [gd_t]
  by_cases p2 : 49 ≤ (lA T (s + 2)).toInt ∧ (lA T (s + 2)).toInt ≤ 57
  rotate_left
  · simp only [p2, if_false, if_true]
    exact re_out Ch.rf (by unfold reF; rw [if_neg (fun z => z p0), if_neg (fun z => z p1), if_pos p2]) (nI_ne9 (by omega))
  simp only [p2, and_self, if_true, one0, if_false]
  have d1 : lA T (s + 1) - 48 = nI ((lA T (s + 1)).toInt.toNat - 48) := by rw [← dN_in p1.1 (by omega)]; unfold dN; rw [if_pos (by omega)]
  have d2 : lA T (s + 2) - 48 = nI ((lA T (s + 2)).toInt.toNat - 48) := by rw [← dN_in (x := lA T (s + 2)) (by omega) p2.2]; unfold dN; rw [if_pos (by omega)]
  have c1 : Ch SX h (sI h 42 8 (nI ((lA T (s + 1)).toInt.toNat - 48))) := Ch.sI ⟨rfl, by omega, by omega⟩
  have cc : Ch (fun m k => m = 42 ∧ (k = 8 ∨ k = 9)) h (sI h 42 8 (nI ((lA T (s + 1)).toInt.toNat - 48))) := Ch.sI ⟨rfl, Or.inl rfl⟩
  have h8 : hI (sI h 42 8 (nI ((lA T (s + 1)).toInt.toNat - 48))) 42 8 = nI ((lA T (s + 1)).toInt.toNat - 48) := by rw [hI_sI, if_pos ⟨rfl, rfl⟩]
  simp only [gd_t, hl_s, d1]
  generalize sI h 42 8 (nI ((lA T (s + 1)).toInt.toNat - 48)) = h1 at *
  have hC1 := hC.sx c1
  have hT1 := hT.sx c1
  simp only [hC1.1.1, gd_t, hC1.2.1, nn_s, (t_let hC1 hT1 (i := s + 2) (by omega)).1, (t_let hC1 hT1 (i := s + 2) (by omega)).2, d2]
  have c2 : Ch SX h1 (sI h1 42 9 (nI ((lA T (s + 2)).toInt.toNat - 48))) := Ch.sI ⟨rfl, by omega, by omega⟩
  have cc2 : Ch (fun m k => m = 42 ∧ (k = 8 ∨ k = 9)) h1 (sI h1 42 9 (nI ((lA T (s + 2)).toInt.toNat - 48))) := Ch.sI ⟨rfl, Or.inr rfl⟩
  have h9 : hI (sI h1 42 9 (nI ((lA T (s + 2)).toInt.toNat - 48))) 42 9 = nI ((lA T (s + 2)).toInt.toNat - 48) := by rw [hI_sI, if_pos ⟨rfl, rfl⟩]
  have h82 : hI (sI h1 42 9 (nI ((lA T (s + 2)).toInt.toNat - 48))) 42 8 = nI ((lA T (s + 1)).toInt.toNat - 48) := by rw [hI_sI, if_neg (by omega)]; exact h8
  generalize sI h1 42 9 (nI ((lA T (s + 2)).toInt.toNat - 48)) = h2 at *
  have hC2 := hC1.sx c2
  have hT2 := hT1.sx c2
  simp only [hC2.1.1, gd_t, hT2.2.1]
  rw [ite_le (by omega) (by omega)]
  refine ⟨h2, ?_, cc.trans cc2, fun _ => ⟨h82, h9⟩⟩
  have eF : reF T s = if s + 3 < T.length then nI (s + 3) else -9 := by unfold reF; rw [if_neg (fun z => z p0), if_neg (fun z => z p1), if_neg (fun z => z p2)]
  rw [eF]
  by_cases q3 : s + 3 < T.length
  · rw [if_neg (by omega), if_pos q3]
  · rw [if_pos (by omega), if_neg q3]
theorem s_rt161 {h : HS} {T : List Nat} (hC : C10 h) (hT : T10 h T) {me : Nat} (hm : me ≤ 4) (h7 : hI h 42 7 = nI me) : ∀ (d n i : Nat), i + d = (wdL me).length → d < n → l_X10_readText_161 n 42 (nI (2 + i)) h = if spl T me d i < (wdL me).length then some (nI (2 + spl T me d i), h) else bd (f_X10_readEnd 42 (nI (2 + (wdL me).length)) h) (fun r => some (r.1, r.2))
  | 0, n, i, hi, hn => by
    obtain ⟨n, rfl⟩ : ∃ m, n = m + 1 := ⟨n - 1, by omega⟩
    have hl := wdL_le _ hm
    have es : nI (2 + i) - 2 = nI i := by rw [show nI (2 + i) - 2 = nI (2 + i - 2) from nI_sub (b := 2) (by omega)]; congr 1; omega
    show b_X10_readText_161 (l_X10_readText_161 n) 42 (nI (2 + i)) h = _
    unfold b_X10_readText_161 spl
    simp only [nn_s, hC.1.1, gd_t, h7, es, s_lOf hm (show i ≤ 9 by omega), bd_s, rk8]
    rw [if_neg (show ¬ i < (wdL me).length by omega), if_pos rfl, if_neg (by omega), show 2 + i = 2 + (wdL me).length by omega]
  | d + 1, n, i, hi, hn => by
    obtain ⟨n, rfl⟩ : ∃ m, n = m + 1 := ⟨n - 1, by omega⟩
    have hl := wdL_le _ hm
    have hw := wd_le _ hm i (by omega)
    have hlen := hT.1
    have es : nI (2 + i) - 2 = nI i := by rw [show nI (2 + i) - 2 = nI (2 + i - 2) from nI_sub (b := 2) (by omega)]; congr 1; omega
    have ih := s_rt161 hC hT hm h7 d n (i + 1) (by omega) (by omega)
    show b_X10_readText_161 (l_X10_readText_161 n) 42 (nI (2 + i)) h = _
    rw [show spl T me (d + 1) i = if lA T (2 + i) = nI (wd me i) then spl T me d (i + 1) else i from rfl]
    unfold b_X10_readText_161 b_X10_readText_203
    simp only [nn_s, hC.1.1, gd_t, h7, es, s_lOf hm (show i ≤ 9 by omega), bd_s, rk8]
    rw [if_pos (show i < (wdL me).length by omega), if_neg (nI_ne9 (by omega))]
    simp only [hT.2.1, hC.2.1, nn_s]
    rw [ite_le (by omega) (by omega)]
    by_cases q : T.length ≤ 2 + i
    · have ne : ¬ lA T (2 + i) = nI (wd me i) := by
        rw [lA_no q]
        intro z
        have z2 := congrArg Int32.toInt z
        rw [nI_i (by omega)] at z2
        have : (-1 : Int32).toInt = -1 := rfl
        omega
      rw [if_pos q, if_neg ne, if_pos (by omega)]
    · obtain ⟨g1, g2⟩ := t_let hC hT (i := 2 + i) (by omega)
      rw [if_neg q, g1, nI_clamp (show 2 + i < 2 ^ 31 by omega), g2]
      simp only [gd_t]
      by_cases q2 : lA T (2 + i) = nI (wd me i)
      · rw [if_pos q2, if_pos q2, nI_1, show 2 + i + 1 = 2 + (i + 1) by omega]
        exact ih
      · rw [if_neg q2, if_neg q2, if_pos (by omega)]
theorem rd_out2 {h h' : HS} {T : List Nat} {v : Int32} (c : Ch SX h h') (e : rdF T = v) (hv : ¬ v = -9) : ∃ h'', some (v, h') = some (rdF T, h'') ∧ Ch SX h h'' ∧ (rdF T = -9 → PM h'' (rdP T) ∧ PV (rdP T)) := ⟨h', by rw [e], c, fun z => absurd (e.symm.trans z) hv⟩
theorem s_X10_readText {h : HS} {T : List Nat} (hC : C10 h) (hT : T10 h T) : ∃ h', f_X10_readText 42 h = some (rdF T, h') ∧ Ch SX h h' ∧ (rdF T = -9 → PM h' (rdP T) ∧ PV (rdP T)) := by
  have hlen := hT.1
  unfold f_X10_readText b_X10_readText_27 b_X10_readText_80
  simp only [nn_s, hC.1.1, gd_t, hT.2.1, hC.2.1, show (0 : Int32).toNatClampNeg = 0 from rfl, show (1 : Int32).toNatClampNeg = 1 from rfl]
  by_cases q0 : T.length = 0
  · rw [if_pos (by rw [q0]; rfl)]
    exact rd_out2 Ch.rf (by unfold rdF; rw [lA_no (show T.length ≤ 0 by omega), if_pos (by decide)]) (by decide)
  rw [if_neg (nI_ne0 (by omega) (by omega))]
  obtain ⟨g1, g2⟩ := t_let hC hT (i := 0) (by omega)
  rw [show nI 0 = 0 from rfl] at g1
  simp only [g1, g2, gd_t, s_fieldOf, bd_s, s_X10_in, nn_s, hC.1.1, hC.2.1, show (0 : Int64).toInt = 0 from rfl, show (2 : Int64).toInt = 2 from rfl]
  have r3 := fN_le (lA T 0)
  by_cases r9 : fN (lA T 0) = 9 ∨ fN (lA T 0) = 3
  · have e0 : (if 0 ≤ (if fN (lA T 0) = 9 then (-9 : Int32) else nI (fN (lA T 0))).toInt ∧ (if fN (lA T 0) = 9 then (-9 : Int32) else nI (fN (lA T 0))).toInt ≤ 2 then (1 : Int32) else 0) = 0 := by
      rcases r9 with r | r
      · rw [r]; decide
      · rw [r]; decide
    rw [e0, if_pos rfl]
    exact rd_out2 Ch.rf (by unfold rdF; rw [if_pos r9]) (by decide)
  have hf : fN (lA T 0) ≤ 2 := by omega
  have e9 : ¬ fN (lA T 0) = 9 := by omega
  simp only [e9, if_false]
  rw [if_pos (show 0 ≤ (nI (fN (lA T 0))).toInt ∧ (nI (fN (lA T 0))).toInt ≤ 2 by rw [nI_i (by omega)]; omega), if_neg (by decide)]
  simp only [hl_s, nn_s, hC.1.1, hC.2.1, gd_t, g1, g2, s_fieldOf, bd_s, e9, if_false]
  have c1 : Ch SX h (sI h 42 5 (nI (fN (lA T 0)))) := Ch.sI ⟨rfl, by omega, by omega⟩
  have h5 : hI (sI h 42 5 (nI (fN (lA T 0)))) 42 5 = nI (fN (lA T 0)) := by rw [hI_sI, if_pos ⟨rfl, rfl⟩]
  generalize sI h 42 5 (nI (fN (lA T 0))) = h1 at *
  have hC1 := hC.sx c1
  have hT1 := hT.sx c1
  simp only [hC1.1.1, gd_t, hT1.2.1, hC1.2.1, nn_s]
  by_cases q1 : T.length = 1
  · rw [if_pos (by rw [q1]; rfl)]
    exact rd_out2 c1 (by unfold rdF; rw [if_neg r9, lA_no (show T.length ≤ 1 by omega), if_pos (Or.inl (by decide))]) (by decide)
  rw [if_neg (show ¬ nI T.length = 1 from fun z => q1 ((nI_eq (b := 1) (by omega) (by omega)).mp z))]
  obtain ⟨g3, g4⟩ := t_let hC1 hT1 (i := 1) (by omega)
  rw [show nI 1 = 1 from rfl] at g3
  have c3 := fN_le (lA T 1)
  simp only [g3, g4, gd_t, h5, nn_s, hC1.1.1, hC1.2.1, s_fieldOf, bd_s]
  by_cases c9 : fN (lA T 1) = 9
  · simp only [c9, if_true]
    exact rd_out2 c1 (by unfold rdF; rw [if_neg r9, if_pos (Or.inl c9)]) (by decide)
  simp only [c9, if_false]
  rw [if_neg (nI_ne9 (by omega)), ite_eq (by omega) (by omega)]
  by_cases c4 : fN (lA T 1) = fN (lA T 0)
  · rw [if_pos c4]
    exact rd_out2 c1 (by unfold rdF; rw [if_neg r9, if_pos (Or.inr c4)]) (by decide)
  rw [if_neg c4]
  have F1 : ¬ (fN (lA T 1) = 9 ∨ fN (lA T 1) = fN (lA T 0)) := by omega
  have c2 : Ch SX h1 (sI h1 42 6 (nI (fN (lA T 1)))) := Ch.sI ⟨rfl, by omega, by omega⟩
  have h52 : hI (sI h1 42 6 (nI (fN (lA T 1)))) 42 5 = nI (fN (lA T 0)) := by rw [hI_sI, if_neg (by omega)]; exact h5
  have h62 : hI (sI h1 42 6 (nI (fN (lA T 1)))) 42 6 = nI (fN (lA T 1)) := by rw [hI_sI, if_pos ⟨rfl, rfl⟩]
  generalize sI h1 42 6 (nI (fN (lA T 1))) = h2 at *
  have hC2 := hC1.sx c2
  have hT2 := hT1.sx c2
  simp only [hC2.1.1, gd_t]
  have c5 : Ch SX h2 (sI h2 42 7 (-9)) := Ch.sI ⟨rfl, by omega, by omega⟩
  have h53 : hI (sI h2 42 7 (-9)) 42 5 = nI (fN (lA T 0)) := by rw [hI_sI, if_neg (by omega)]; exact h52
  have h63 : hI (sI h2 42 7 (-9)) 42 6 = nI (fN (lA T 1)) := by rw [hI_sI, if_neg (by omega)]; exact h62
  have h73 : hI (sI h2 42 7 (-9)) 42 7 = -9 := by rw [hI_sI, if_pos ⟨rfl, rfl⟩]
  generalize sI h2 42 7 (-9) = h3 at *
  have hC3 := hC2.sx c5
  have hT3 := hT2.sx c5
  obtain ⟨k1, k2, k3⟩ := s_rt103 hC3 hT3 h73
  rw [k1]
  have h54 : hI (fw (rtS T) 0 5 h3) 42 5 = nI (fN (lA T 0)) := by rw [k2.I (by omega)]; exact h53
  have h64 : hI (fw (rtS T) 0 5 h3) 42 6 = nI (fN (lA T 1)) := by rw [k2.I (by omega)]; exact h63
  generalize fw (rtS T) 0 5 h3 = h4 at *
  have k2' : Ch SX h3 h4 := k2.mono (fun m k z => by unfold SX; omega)
  have hC4 := hC3.sx k2'
  have hT4 := hT3.sx k2'
  have call : Ch SX h h4 := ((c1.trans c2).trans c5).trans k2'
  unfold rtE
  by_cases m9 : mN (lA T 2) = 9
  · rw [if_neg (by omega)] at k3
    rw [if_pos k3]
    exact rd_out2 call (by unfold rdF; rw [if_neg r9, if_neg F1, if_pos m9]) (by decide)
  have hm : mN (lA T 2) ≤ 4 := by have := mN_le (lA T 2); omega
  rw [if_pos (by omega)] at k3
  rw [k3, if_neg (nI_ne9 (by omega))]
  have hw := wdL_le _ hm
  have hs := sL_le T hm
  have hlp := s_rt161 hC4 hT4 hm k3 (wdL (mN (lA T 2))).length FU 0 (by omega) (by have := FU_gt; omega)
  rw [show nI (2 + 0) = 2 from rfl, show spl T (mN (lA T 2)) (wdL (mN (lA T 2))).length 0 = sL T from rfl] at hlp
  rw [hlp]
  by_cases s1 : sL T < (wdL (mN (lA T 2))).length
  · rw [if_pos s1]
    exact rd_out2 call (by unfold rdF; rw [if_neg r9, if_neg F1, if_neg m9, if_pos (Or.inl s1)]) (nI_ne9 (by omega))
  have es : (wdL (mN (lA T 2))).length = sL T := by
    have := (spl_le T (mN (lA T 2)) (wdL (mN (lA T 2))).length 0).2
    have : sL T ≤ 0 + (wdL (mN (lA T 2))).length := this
    omega
  rw [if_neg s1, es]
  obtain ⟨h5_, z1_, z2_, z3_⟩ := s_readEnd hC4 hT4 (s := 2 + sL T) (by omega)
  have eF : rdF T = reF T (2 + sL T) := by
    unfold rdF reF
    rw [if_neg r9, if_neg F1, if_neg m9, show 2 + sL T + 1 = 3 + sL T by omega, show 2 + sL T + 2 = 4 + sL T by omega, show 2 + sL T + 3 = 5 + sL T by omega]
    by_cases p : lA T (2 + sL T) = 46
    · rw [if_neg (by intro z; rcases z with z | z; exact s1 z; exact z p), if_neg (show ¬ ¬ lA T (2 + sL T) = 46 from fun z => z p)]
    · rw [if_pos (Or.inr p), if_pos p]
  rw [z1_]
  simp only [bd_s]
  refine ⟨h5_, by rw [eF], call.trans (z2_.mono (fun m k z => by unfold SX; omega)), fun z => ?_⟩
  rw [eF] at z
  have y := z3_ z
  rw [show 2 + sL T + 1 = 3 + sL T by omega, show 2 + sL T + 2 = 4 + sL T by omega] at y
  refine ⟨⟨?_, ?_, ?_, y.1, y.2⟩, ?_⟩
  · rw [z2_.I (by omega)]; exact h54
  · rw [z2_.I (by omega)]; exact h64
  · rw [z2_.I (by omega)]; exact k3
  · unfold reF at z
    rw [show 2 + sL T + 1 = 3 + sL T by omega, show 2 + sL T + 2 = 4 + sL T by omega, show 2 + sL T + 3 = 5 + sL T by omega] at z
    by_cases p : lA T (2 + sL T) = 46
    rotate_left
    · rw [if_pos p] at z; exact absurd z (nI_ne9 (by omega))
    rw [if_neg (fun z => z p)] at z
    by_cases p1 : 48 ≤ (lA T (3 + sL T)).toInt ∧ (lA T (3 + sL T)).toInt ≤ 52
    rotate_left
    · rw [if_pos p1] at z; exact absurd z (nI_ne9 (by omega))
    rw [if_neg (fun z => z p1)] at z
    by_cases p2 : 49 ≤ (lA T (4 + sL T)).toInt ∧ (lA T (4 + sL T)).toInt ≤ 57
    rotate_left
    · rw [if_pos p2] at z; exact absurd z (nI_ne9 (by omega))
    unfold PV rdP
    simp only
    omega
/-! fault, plan -/
theorem R9.dr {h h' : HS} {a : ST} {p q : Nat} (x : R9 h a) (hW : W9 h p q a.2.1) (c : Ch (fun m _ => m = q) h h') : R9 h' a ∧ W9 h' p q a.2.1 := by
  obtain ⟨_, x2, x3, x4, x5, x6, x7, x8⟩ := x
  obtain ⟨w1, w2, w3, w4, w5, w6, w7⟩ := hW
  have hW' : W9 h' p q a.2.1 := ⟨w1.fr c (fun k _ z => by omega), w2.fr c (fun k z => by omega), w3, w4, by rw [c.ck]; exact w5, w6.fr c (fun k _ z => by omega), w7.fr c (fun k _ z => by omega)⟩
  refine ⟨⟨⟨p, q, hW'⟩, x2.fr c (fun n k z => by omega), x3.fr c (fun n k _ _ z => by omega), x4.fr c (fun n k _ _ z => by omega), x5.fr c (fun n k z => by omega), x6.fr c (fun n k z => by omega), ?_, x8.fr c (fun n k z => by omega)⟩, hW'⟩
  rw [c.J (by omega)]; exact x7
def sp_fault (a : ST) : Int32 := rdF a.1
theorem o9_fault {h : HS} {a : ST} (hR : R9 h a) : ∃ h', f_X9_fault 0 h = some (sp_fault a, h') ∧ R9 h' a ∧ Ch F9 h h' := by
  obtain ⟨⟨p, q, hW⟩, x2, x3, x4, x5, x6, x7, x8⟩ := id hR
  have hpq := hW.2.2.2.1
  obtain ⟨h1, r1, r2, r3⟩ := s_X7_readInto x2 hW.2.2.2.2.1
  refine ⟨h1, ?_, (hR.dr hW r2).1, r2.mono (fun m k z => Or.inl (by omega))⟩
  unfold f_X9_fault sp_fault
  simp only [nn_s, hW.1.1, gd_t, hW.1.2.1, hW.1.2.2.2.1, rk5, x2.1, r1, bd_s]
theorem o10_fault {h : HS} {a : ST} (hR : R10 h a) : ∃ h', f_X10_fault 42 h = some (sp_fault a, h') ∧ R10 h' a ∧ Ch F10 h h' := by
  obtain ⟨hC, hP, hV, x4, x5, x6, x7, x8, k0, k1⟩ := id hR
  obtain ⟨h1, r1, r2, r3⟩ := s_X10_readText hC x4
  refine ⟨h1, ?_, ?_, r2.mono (fun m k z => by unfold SX at z; unfold F10; omega)⟩
  · unfold f_X10_fault sp_fault
    simp only [nn_s, rk8, hC.1.1, gd_t, r1, bd_s]
  · exact ⟨hC.sx r2, hP.fr r2 (fun k _ z => by unfold SX at z; omega), hV, x4.sx r2, x5.fr r2 (fun k _ _ z => by unfold SX at z; omega), x6.fr r2 (fun n k z => by unfold SX at z; omega), x7.fr r2 (fun n k z => by unfold SX at z; omega), by rw [r2.J (fun z => by unfold SX at z; omega)]; exact x8, k0.fr r2 (fun n k z => by unfold SX at z; omega), k1.fr r2 (fun n k z => by unfold SX at z; omega)⟩
def sp_plan (a : ST) : Int32 × ST := if rdF a.1 = -9 then (nI (rwl (rdP a.1) a.2.2.1).length, (a.1, rdP a.1, a.2.2)) else (-3, a)
theorem o9_plan {h : HS} {a : ST} (hR : R9 h a) : ∃ h', f_X9_plan 0 h = some ((sp_plan a).1, h') ∧ R9 h' (sp_plan a).2 ∧ Ch F9 h h' := by
  obtain ⟨⟨p, q, hW⟩, x2, x3, x4, x5, x6, x7, x8⟩ := id hR
  have hpq := hW.2.2.2.1
  obtain ⟨h1, r1, r2, r3⟩ := s_X7_readInto x2 hW.2.2.2.2.1
  obtain ⟨hR1, hW1⟩ := hR.dr hW r2
  unfold f_X9_plan sp_plan
  simp only [nn_s, hW.1.1, gd_t, hW.1.2.1, hW.1.2.2.2.1, rk5, x2.1, r1, bd_s]
  by_cases e : rdF a.1 = -9
  · rw [if_pos e, if_pos e]
    obtain ⟨pr, pv⟩ := r3 e
    have ckS : ∀ (x : HS) (k : Nat) (v : Option Nat) (n c : Nat), ck (sP x 0 k v) n c = ck x n c := fun x k v n c => rfl
    have cA : Ch (fun m k => m = 0 ∧ (k = 1 ∨ k = 2)) h1 (sP (sP h1 0 1 (some q)) 0 2 (some p)) := (Ch.sP ⟨rfl, Or.inl rfl⟩).trans (Ch.sP ⟨rfl, Or.inr rfl⟩)
    have p1 : hP (sP (sP h1 0 1 (some q)) 0 2 (some p)) 0 1 = some q := by simp [hP_sP]
    have p2 : hP (sP (sP h1 0 1 (some q)) 0 2 (some p)) 0 2 = some p := by simp [hP_sP]
    simp only [hW1.1.1, gd_t, hW1.1.2.2.1, hW1.1.2.2.2.1, hl_s, ck_sP]
    generalize sP (sP h1 0 1 (some q)) 0 2 (some p) = h2 at *
    obtain ⟨w1, w2, w3, w4, w5, w6, w7⟩ := hW1
    obtain ⟨c0, c1, c2, c3, c4, c5, c6, c7, c8, c9, c10⟩ := w1
    have hW2 : W9 h2 q p (rdP a.1) := by
      refine ⟨⟨by rw [cA.ck]; exact c0, ?_, p1, p2, ?_, ?_, ?_, ?_, ?_, ?_, ?_⟩, pr.fr cA (fun k z => by omega), pv, by omega, by rw [cA.ck]; exact w2.1, w6.fr cA (fun k _ z => by omega), w7.fr cA (fun k _ z => by omega)⟩ <;> (rw [cA.P (by omega)]; assumption)
    obtain ⟨_, y2, y3, y4, y5, y6, y7, y8⟩ := id hR1
    have hR2 : R9 h2 (a.1, rdP a.1, a.2.2) := ⟨⟨q, p, hW2⟩, y2.fr cA (fun n k z => by omega), y3.fr cA (fun n k _ _ z => by omega), y4.fr cA (fun n k _ _ z => by omega), y5.fr cA (fun n k z => by omega), y6.fr cA (fun n k z => by omega), by rw [cA.J (by omega)]; exact y7, y8.fr cA (fun n k z => by omega)⟩
    obtain ⟨h3, s1, s2, s3⟩ := q9_rows hR2
    refine ⟨h3, ?_, hR2.sa s3, ((r2.mono (fun m k z => Or.inl (by omega))).trans (cA.mono (fun m k z => Or.inl (by omega)))).trans (s3.mono (fun m k z => SA_F9 z))⟩
    simp only [hW2.1.1, gd_t, rk7, hW2.1.2.2.2.2.1, s1, bd_s, nn_s, s2.1.1, s2.2.2.1]
  · rw [if_neg e, if_neg e]
    exact ⟨h1, rfl, hR1, r2.mono (fun m k z => Or.inl (by omega))⟩
def Z5 (h1 h' : HS) (j : Nat) : Prop := Ch (fun m k => m = 42 ∧ k < 5) h1 h' ∧ ∀ k, k < j → hI h' 42 k = hI h1 42 (5 + k)
theorem cp5 {h1 h' : HS} {j : Nat} (hj : j < 5) (z : Z5 h1 h' j) : Z5 h1 (sI h' 42 j (hI h' 42 (5 + j))) (j + 1) := by
  obtain ⟨z1, z2⟩ := z
  refine ⟨z1.trans (Ch.sI ⟨rfl, hj⟩), fun k hk => ?_⟩
  rw [hI_sI]
  by_cases q : k = j
  · subst q
    rw [if_pos ⟨rfl, rfl⟩, z1.I (by omega)]
  · rw [if_neg (by omega)]
    exact z2 k (by omega)
theorem o10_plan {h : HS} {a : ST} (hR : R10 h a) : ∃ h', f_X10_plan 42 h = some ((sp_plan a).1, h') ∧ R10 h' (sp_plan a).2 ∧ Ch F10 h h' := by
  obtain ⟨hC, hP, hV, x4, x5, x6, x7, x8, k0, k1⟩ := id hR
  obtain ⟨h1, r1, r2, r3⟩ := s_X10_readText hC x4
  have hR1 : R10 h1 a := ⟨hC.sx r2, hP.fr r2 (fun k _ z => by unfold SX at z; omega), hV, x4.sx r2, x5.fr r2 (fun k _ _ z => by unfold SX at z; omega), x6.fr r2 (fun n k z => by unfold SX at z; omega), x7.fr r2 (fun n k z => by unfold SX at z; omega), by rw [r2.J (fun z => by unfold SX at z; omega)]; exact x8, k0.fr r2 (fun n k z => by unfold SX at z; omega), k1.fr r2 (fun n k z => by unfold SX at z; omega)⟩
  unfold f_X10_plan sp_plan
  simp only [nn_s, rk8, hC.1.1, gd_t, r1, bd_s]
  by_cases e : rdF a.1 = -9
  · rw [if_pos e, if_pos e]
    obtain ⟨⟨m5, m6, m7, m8, m9⟩, pv⟩ := r3 e
    simp only [hR1.1.1.1, gd_t, hl_s, ck_sI]
    obtain ⟨g0, e0⟩ : ∃ g, g = sI h1 42 0 (hI h1 42 5) := ⟨_, rfl⟩
    rw [← e0]
    obtain ⟨g1, e1⟩ : ∃ g, g = sI g0 42 1 (hI g0 42 6) := ⟨_, rfl⟩
    rw [← e1]
    obtain ⟨g2, e2⟩ : ∃ g, g = sI g1 42 2 (hI g1 42 7) := ⟨_, rfl⟩
    rw [← e2]
    obtain ⟨g3, e3⟩ : ∃ g, g = sI g2 42 3 (hI g2 42 8) := ⟨_, rfl⟩
    rw [← e3]
    obtain ⟨h2, e4⟩ : ∃ g, g = sI g3 42 4 (hI g3 42 9) := ⟨_, rfl⟩
    rw [← e4]
    have z0 : Z5 h1 h1 0 := ⟨Ch.rf, fun k hk => by omega⟩
    have z1 : Z5 h1 g0 1 := by rw [e0]; exact cp5 (by omega) z0
    have z2 : Z5 h1 g1 2 := by rw [e1]; exact cp5 (by omega) z1
    have z3 : Z5 h1 g2 3 := by rw [e2]; exact cp5 (by omega) z2
    have z4 : Z5 h1 g3 4 := by rw [e3]; exact cp5 (by omega) z3
    have z5 : Z5 h1 h2 5 := by rw [e4]; exact cp5 (by omega) z4
    obtain ⟨cA, zz⟩ := z5
    have mp : MP h2 (rdP a.1) := ⟨(zz 0 (by omega)).trans m5, (zz 1 (by omega)).trans m6, (zz 2 (by omega)).trans m7, (zz 3 (by omega)).trans m8, (zz 4 (by omega)).trans m9⟩
    obtain ⟨yC, yP, yV, y4, y5, y6, y7, y8, j0, j1⟩ := id hR1
    have hR2 : R10 h2 (a.1, rdP a.1, a.2.2) := ⟨yC.fr cA (fun n k z q => by omega), mp, pv, y4.fr cA (fun n k z => by omega), y5.fr cA (fun k _ _ z => by omega), y6.fr cA (fun n k z => by omega), y7.fr cA (fun n k z => by omega), by rw [cA.J (by omega)]; exact y8, j0.fr cA (fun n k z => by omega), j1.fr cA (fun n k z => by omega)⟩
    obtain ⟨h3, s1, s2, s3⟩ := q10_rows hR2
    have s3' := s3.mono (fun m k z => SR_FM z)
    have hR3 := hR2.q s3'
    refine ⟨h3, ?_, hR3, ((r2.mono (fun m k z => by unfold SX at z; unfold F10; omega)).trans (cA.mono (fun m k z => by unfold F10; omega))).trans (s3'.mono (fun m k z => FM_F10 z))⟩
    simp only [s1, bd_s, hR3.1.1.1, gd_t, s2.2.1, nn_s]
  · rw [if_neg e, if_neg e]
    exact ⟨h1, rfl, hR1, r2.mono (fun m k z => by unfold SX at z; unfold F10; omega)⟩
