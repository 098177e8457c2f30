/-! PURE: the class's Entries: writes -/
def en (E : EL) (i : Nat) : Nat × Nat × Nat := E.getD i (0, 0, 0)
theorem EV.of {E : EL} (h1 : E.length ≤ 16) (h2 : ∀ i, i < E.length → (en E i).1 < 4 ∧ (en E i).2.1 < 5 ∧ (en E i).2.2 ≤ 100) : EV E := ⟨h1, h2⟩
theorem nI_sub {a b : Nat} (h : b ≤ a) : nI a - nI b = nI (a - b) := by
  obtain ⟨c, rfl⟩ : ∃ c, a = c + b := ⟨a - b, by omega⟩
  rw [← nI_add, show c + b - b = c by omega]
  exact Int32.add_sub_cancel _ _
theorem cb_of {h : HS} {a b sp dp n : Nat} (ha : ck h a 9 = true) (hb : ck h b 9 = true) (h1 : sp + n ≤ al a) (h2 : dp + n ≤ al b) (la : al a < 1000) (lb : al b < 1000) : cb h a b (nI sp) (nI dp) (nI n) = true := by
  have e1 := nI_toInt (n := sp) (by omega)
  have e2 := nI_toInt (n := dp) (by omega)
  have e3 := nI_toInt (n := n) (by omega)
  simp only [cb, ha, hb, e1, e2, e3, Bool.and_self, Bool.true_and, decide_eq_true_eq]
  omega
theorem s_X3_shift {h : HS} {e : Nat} (hE : EN h e) {a b n : Nat} (h1 : a + n ≤ 16) (h2 : b + n ≤ 16) : ∃ h', f_X3_shift e (nI a) (nI b) (nI n) h = some ((), h') ∧ Ch (fun m _ => e < m ∧ m ≤ e + 3) h h' ∧ hI h' (e + 1) = va_cpy (hI h (e + 1)) (hI h (e + 1)) a b n ∧ hI h' (e + 2) = va_cpy (hI h (e + 2)) (hI h (e + 2)) a b n ∧ hI h' (e + 3) = va_cpy (hI h (e + 3)) (hI h (e + 3)) a b n := by
  obtain ⟨a1, ⟨a2, a3, a4⟩, ⟨a5, a6, a7⟩, ⟨a8, a9, b1⟩⟩ := hE
  have c1 : cb h (e + 1) (e + 1) (nI a) (nI b) (nI n) = true := cb_of a5 a5 (by omega) (by omega) (by omega) (by omega)
  have c2 : ∀ f, cb (sR h (e + 1) f) (e + 2) (e + 2) (nI a) (nI b) (nI n) = true := fun f => cb_of a6 a6 (by omega) (by omega) (by omega) (by omega)
  have c3 : ∀ f f', cb (sR (sR h (e + 1) f) (e + 2) f') (e + 3) (e + 3) (nI a) (nI b) (nI n) = true := fun f f' => cb_of a7 a7 (by omega) (by omega) (by omega) (by omega)
  unfold f_X3_shift
  simp only [nn_s, gd_t, hl_s, a1, a2, a3, a4, hP_sR, ck_sR, c1, c2, c3, nI_clamp (show a < 2 ^ 31 by omega), nI_clamp (show b < 2 ^ 31 by omega), nI_clamp (show n < 2 ^ 31 by omega)]
  refine ⟨_, rfl, ?_, ?_, ?_, ?_⟩
  · refine Ch.trans (Ch.trans (Ch.sR (fun _ => by omega)) (Ch.sR (fun _ => by omega))) (Ch.sR (fun _ => by omega))
  · simp [hI_sR]
  · simp [hI_sR]
  · simp [hI_sR]
theorem en_ins {E : EL} {p : Nat} {v : Nat × Nat × Nat} (hp : p ≤ E.length) (j : Nat) : en (E.insertIdx p v) j = if j < p then en E j else if j = p then v else en E (j - 1) := by
  simp only [en, List.getD_eq_getElem?_getD, List.getElem?_insertIdx]
  split
  · rfl
  · split
    · next h => subst h; simp [hp]
    · rfl
theorem en_era {E : EL} {p : Nat} (j : Nat) : en (E.eraseIdx p) j = if j < p then en E j else en E (j + 1) := by
  simp only [en, List.getD_eq_getElem?_getD, List.getElem?_eraseIdx]
  split <;> rfl
theorem en_set {E : EL} {p : Nat} {v : Nat × Nat × Nat} (hp : p < E.length) (j : Nat) : en (E.set p v) j = if j = p then v else en E j := by
  simp only [en, List.getD_eq_getElem?_getD, List.getElem?_set]
  by_cases h : j = p
  · subst h; simp [hp]
  · simp [h, Ne.symm h]
def EOK (v : Nat × Nat × Nat) : Prop := v.1 < 4 ∧ v.2.1 < 5 ∧ v.2.2 ≤ 100
theorem EV.ins {E : EL} {p : Nat} {v : Nat × Nat × Nat} (h : EV E) (hl : E.length < 16) (hp : p ≤ E.length) (hv : EOK v) : EV (E.insertIdx p v) := by
  refine ⟨by rw [List.length_insertIdx]; split <;> omega, fun i hi => ?_⟩
  have hi2 : i < E.length + 1 := by rw [List.length_insertIdx] at hi; split at hi <;> omega
  show (en (E.insertIdx p v) i).1 < 4 ∧ (en (E.insertIdx p v) i).2.1 < 5 ∧ (en (E.insertIdx p v) i).2.2 ≤ 100
  rw [en_ins hp]
  split
  · exact h.2 i (by omega)
  · split
    · exact hv
    · exact h.2 (i - 1) (by omega)
theorem EV.era {E : EL} {p : Nat} (h : EV E) (hp : p < E.length) : EV (E.eraseIdx p) := by
  have hl := List.length_eraseIdx_of_lt hp
  refine ⟨by have := h.1; omega, fun i hi => ?_⟩
  show (en (E.eraseIdx p) i).1 < 4 ∧ (en (E.eraseIdx p) i).2.1 < 5 ∧ (en (E.eraseIdx p) i).2.2 ≤ 100
  rw [en_era]
  split
  · exact h.2 i (by omega)
  · exact h.2 (i + 1) (by omega)
theorem EV.set {E : EL} {p : Nat} {v : Nat × Nat × Nat} (h : EV E) (hp : p < E.length) (hv : EOK v) : EV (E.set p v) := by
  refine ⟨by rw [List.length_set]; exact h.1, fun i hi => ?_⟩
  rw [List.length_set] at hi
  show (en (E.set p v) i).1 < 4 ∧ (en (E.set p v) i).2.1 < 5 ∧ (en (E.set p v) i).2.2 ≤ 100
  rw [en_set hp]
  split
  · exact hv
  · exact h.2 i hi
/-- one array under an insertion -/
theorem ar_ins {E : EL} {p : Nat} {v : Nat × Nat × Nat} {f F : Nat → Int32} (g : Nat × Nat × Nat → Nat) (hp : p ≤ E.length) (hf : ∀ i, i < E.length → f i = nI (g (en E i))) (hF : ∀ j, F j = if j = p then nI (g v) else va_cpy f f p (p + 1) (E.length - p) j) {j : Nat} (hj : j < E.length + 1) : F j = nI (g (en (E.insertIdx p v) j)) := by
  rw [hF, en_ins hp]
  by_cases h1 : j = p
  · subst h1; simp
  · rw [if_neg h1]
    simp only [va_cpy]
    by_cases h2 : j < p
    · rw [if_neg (by omega), if_pos h2, hf j (by omega)]
    · rw [if_pos (by omega), if_neg h2, if_neg h1, hf _ (by omega), show p + (j - (p + 1)) = j - 1 by omega]
theorem ar_era {E : EL} {p : Nat} {f F : Nat → Int32} (g : Nat × Nat × Nat → Nat) (hp : p < E.length) (hf : ∀ i, i < E.length → f i = nI (g (en E i))) (hF : ∀ j, F j = va_cpy f f (p + 1) p (E.length - p - 1) j) {j : Nat} (hj : j < E.length - 1) : F j = nI (g (en (E.eraseIdx p) j)) := by
  rw [hF, en_era]
  simp only [va_cpy]
  by_cases h2 : j < p
  · rw [if_neg (by omega), if_pos h2, hf j (by omega)]
  · rw [if_pos (by omega), if_neg h2, hf _ (by omega), show p + 1 + (j - p) = j + 1 by omega]
theorem rk3 (h : HS) (n : Nat) : rk h n 3 = ck h n 3 := rk_lo (by omega)
theorem s_X3_insert {h : HS} {e : Nat} {E : EL} (hE : ER h e E) {p t w a : Nat} (hl : E.length < 16) (hp : p ≤ E.length) (hv : EOK (t, w, a)) : ∃ h', f_X3_insert e (nI p) (nI t) (nI w) (nI a) h = some ((), h') ∧ ER h' e (E.insertIdx p (t, w, a)) ∧ Ch (fun m _ => e ≤ m ∧ m ≤ e + 3) h h' := by
  obtain ⟨h1, hs, hc, i1, i2, i3⟩ := s_X3_shift hE.1 (a := p) (b := p + 1) (n := E.length - p) (by omega) (by omega)
  have hN1 := hE.1.fr (S := fun _ _ => False) (h' := h) Ch.rf (fun _ _ _ _ q => q)
  obtain ⟨a1, ⟨a2, a3, a4⟩, ⟨a5, a6, a7⟩, ⟨a8, a9, b1⟩⟩ := hN1
  obtain ⟨d1, d2, d3, d4⟩ := id hE
  have hck : ck h1 e 3 = true := by rw [hc.ck]; exact a1
  have hP0 : hP h1 e 0 = some (e + 1) := by rw [hc.P (by omega)]; exact a2
  have hP1 : hP h1 e 1 = some (e + 2) := by rw [hc.P (by omega)]; exact a3
  have hP2 : hP h1 e 2 = some (e + 3) := by rw [hc.P (by omega)]; exact a4
  have hsz : hI h1 e 3 = nI E.length := by rw [hc.I (by omega)]; exact d3
  have c1 : ca h1 (e + 1) 9 (nI p) = true := ca_nI (by rw [hc.ck]; exact a5) (by omega) (by omega)
  have c2 : ∀ x, ca (sI h1 (e + 1) p x) (e + 2) 9 (nI p) = true := fun x => ca_nI (by rw [ck_sI, hc.ck]; exact a6) (by omega) (by omega)
  have c3 : ∀ x y, ca (sI (sI h1 (e + 1) p x) (e + 2) p y) (e + 3) 9 (nI p) = true := fun x y => ca_nI (by rw [ck_sI, ck_sI, hc.ck]; exact a7) (by omega) (by omega)
  unfold f_X3_insert b_X3_insert_19
  simp only [nn_s, rk3, a1, gd_t, s_X3_hasRoom hE, bd_s, hl, if_true, d3, nI_pos (show p < 2 ^ 31 by omega), if_false, nI_le hp (show E.length < 2 ^ 31 by omega), nI_sub hp, nI_1, hs, hck, hP0, c1, nI_clamp (show p < 2 ^ 31 by omega), hl_s, ck_sI, hP_sI, hP1, c2, hP2, c3, show ((1 : Int32) = 0) = False by decide]
  refine ⟨_, rfl, ?_, ?_⟩
  · refine ⟨⟨?_, ⟨?_, ?_, ?_⟩, ⟨?_, ?_, ?_⟩, a8, a9, b1⟩, hE.2.1.ins hl hp hv, ?_, fun j hj => ⟨?_, ?_, ?_⟩⟩
    · simp only [ck_sI]; exact hck
    · simp only [hP_sI]; exact hP0
    · simp only [hP_sI]; exact hP1
    · simp only [hP_sI]; exact hP2
    · simp only [ck_sI, hc.ck]; exact a5
    · simp only [ck_sI, hc.ck]; exact a6
    · simp only [ck_sI, hc.ck]; exact a7
    · simp [hI_sI, hsz, List.length_insertIdx, hp, nI_1]
    · rw [List.length_insertIdx, if_pos hp] at hj
      refine ar_ins (fun v => v.1) (v := (t, w, a)) (f := hI h (e + 1)) (F := fun j => _) hp (fun i hi => (d4 i hi).1) (fun j => ?_) hj
      simp [hI_sI, i1]
    · rw [List.length_insertIdx, if_pos hp] at hj
      refine ar_ins (fun v => v.2.1) (v := (t, w, a)) (f := hI h (e + 2)) (F := fun j => _) hp (fun i hi => (d4 i hi).2.1) (fun j => ?_) hj
      simp [hI_sI, i2]
    · rw [List.length_insertIdx, if_pos hp] at hj
      refine ar_ins (fun v => v.2.2) (v := (t, w, a)) (f := hI h (e + 3)) (F := fun j => _) hp (fun i hi => (d4 i hi).2.2) (fun j => ?_) hj
      simp [hI_sI, i3]
  · refine Ch.trans (Ch.trans (Ch.trans (Ch.trans (hc.mono (fun n k q => ⟨by omega, by omega⟩)) (Ch.sI ⟨by omega, by omega⟩)) (Ch.sI ⟨by omega, by omega⟩)) (Ch.sI ⟨by omega, by omega⟩)) (Ch.sI ⟨by omega, by omega⟩)
theorem ins_end (E : EL) (v : Nat × Nat × Nat) : E.insertIdx E.length v = E ++ [v] := List.insertIdx_length_self
theorem s_X3_append {h : HS} {e : Nat} {E : EL} (hE : ER h e E) {t w a : Nat} (hl : E.length < 16) (hv : EOK (t, w, a)) : ∃ h', f_X3_append e (nI t) (nI w) (nI a) h = some ((), h') ∧ ER h' e (E ++ [(t, w, a)]) ∧ Ch (fun m _ => e ≤ m ∧ m ≤ e + 3) h h' := by
  obtain ⟨h', h1, h2, h3⟩ := s_X3_insert hE hl (Nat.le_refl _) hv
  refine ⟨h', ?_, ins_end E _ ▸ h2, h3⟩
  unfold f_X3_append
  simp only [nn_s, hE.1.1, gd_t, rk3, hE.2.2.1, h1, bd_s]
theorem s_X3_remove {h : HS} {e : Nat} {E : EL} (hE : ER h e E) {p : Nat} (hp : p < E.length) : ∃ h', f_X3_remove e (nI p) h = some ((), h') ∧ ER h' e (E.eraseIdx p) ∧ Ch (fun m _ => e ≤ m ∧ m ≤ e + 3) h h' := by
  have hl := hE.2.1.1
  obtain ⟨h1, hs, hc, i1, i2, i3⟩ := s_X3_shift hE.1 (a := p + 1) (b := p) (n := E.length - p - 1) (by omega) (by omega)
  obtain ⟨d1, d2, d3, d4⟩ := id hE
  obtain ⟨a1, ⟨a2, a3, a4⟩, ⟨a5, a6, a7⟩, ⟨a8, a9, b1⟩⟩ := d1
  have hck : ck h1 e 3 = true := by rw [hc.ck]; exact a1
  have hsz : hI h1 e 3 = nI E.length := by rw [hc.I (by omega)]; exact d3
  have hle : 0 ≤ (nI p).toInt ∧ (nI p).toInt < E.length := by rw [nI_i (by omega)]; omega
  have hq : nI (E.length - p) - 1 = nI (E.length - p - 1) := nI_sub (a := E.length - p) (b := 1) (by omega)
  unfold f_X3_remove
  simp only [nn_s, rk3, a1, gd_t, s_X3_has hE, bd_s, hle, and_self, if_true, if_false, d3, nI_sub (Nat.le_of_lt hp), hq, nI_1, hs, hck, show ((1 : Int32) = 0) = False by decide]
  refine ⟨_, rfl, ?_, ?_⟩
  · refine ⟨⟨?_, ⟨?_, ?_, ?_⟩, ⟨?_, ?_, ?_⟩, a8, a9, b1⟩, hE.2.1.era hp, ?_, fun j hj => ⟨?_, ?_, ?_⟩⟩
    · simp only [ck_sI]; exact hck
    · simp only [hP_sI]; rw [hc.P (by omega)]; exact a2
    · simp only [hP_sI]; rw [hc.P (by omega)]; exact a3
    · simp only [hP_sI]; rw [hc.P (by omega)]; exact a4
    · simp only [ck_sI, hc.ck]; exact a5
    · simp only [ck_sI, hc.ck]; exact a6
    · simp only [ck_sI, hc.ck]; exact a7
    · rw [hI_sI, if_pos ⟨rfl, rfl⟩, hsz, List.length_eraseIdx_of_lt hp]
      exact nI_sub (a := E.length) (b := 1) (by omega)
    · rw [List.length_eraseIdx_of_lt hp] at hj
      refine ar_era (fun v => v.1) (f := hI h (e + 1)) (F := fun j => _) hp (fun i hi => (d4 i hi).1) (fun j => ?_) hj
      simp [hI_sI, i1]
    · rw [List.length_eraseIdx_of_lt hp] at hj
      refine ar_era (fun v => v.2.1) (f := hI h (e + 2)) (F := fun j => _) hp (fun i hi => (d4 i hi).2.1) (fun j => ?_) hj
      simp [hI_sI, i2]
    · rw [List.length_eraseIdx_of_lt hp] at hj
      refine ar_era (fun v => v.2.2) (f := hI h (e + 3)) (F := fun j => _) hp (fun i hi => (d4 i hi).2.2) (fun j => ?_) hj
      simp [hI_sI, i3]
  · exact Ch.trans (hc.mono (fun n k q => ⟨by omega, by omega⟩)) (Ch.sI ⟨by omega, by omega⟩)
theorem s_X3_copyFrom {h : HS} {s d : Nat} {E : EL} (hE : ER h s E) (hD : EN h d) (hd : d + 3 < s ∨ s + 3 < d) : ∃ h', f_X3_copyFrom d (some s) h = some ((), h') ∧ ER h' d E ∧ Ch (fun m _ => d ≤ m ∧ m ≤ d + 3) h h' := by
  have hl := hE.2.1.1
  obtain ⟨d1, d2, d3, d4⟩ := id hE
  obtain ⟨a1, ⟨a2, a3, a4⟩, ⟨a5, a6, a7⟩, ⟨a8, a9, b1⟩⟩ := d1
  obtain ⟨x1, ⟨x2, x3, x4⟩, ⟨x5, x6, x7⟩, ⟨x8, x9, y1⟩⟩ := hD
  have c1 : cb (sI h d 3 (nI E.length)) (s + 1) (d + 1) (nI 0) (nI 0) (nI E.length) = true := cb_of a5 x5 (by omega) (by omega) (by omega) (by omega)
  have c2 : ∀ f, cb (sR (sI h d 3 (nI E.length)) (d + 1) f) (s + 2) (d + 2) (nI 0) (nI 0) (nI E.length) = true := fun f => cb_of a6 x6 (by omega) (by omega) (by omega) (by omega)
  have c3 : ∀ f f', cb (sR (sR (sI h d 3 (nI E.length)) (d + 1) f) (d + 2) f') (s + 3) (d + 3) (nI 0) (nI 0) (nI E.length) = true := fun f f' => cb_of a7 x7 (by omega) (by omega) (by omega) (by omega)
  have g1 : ∀ f, hI (sR (sI h d 3 (nI E.length)) (d + 1) f) d 3 = nI E.length := fun f => by
    rw [hI_sR, if_neg (by omega), hI_sI, if_pos ⟨rfl, rfl⟩]
  have g2 : ∀ f f', hI (sR (sR (sI h d 3 (nI E.length)) (d + 1) f) (d + 2) f') d 3 = nI E.length := fun f f' => by
    rw [hI_sR, if_neg (by omega), g1]
  unfold f_X3_copyFrom
  simp only [nn_s, a1, x1, gd_t, d3, hl_s, ck_sI, ck_sR, hP_sI, hP_sR, a2, x2, a3, x3, a4, x4, hI_sI, and_self, if_true, nI_lit0, c1, g1, c2, g2, c3, nI_clamp (show (0 : Nat) < 2 ^ 31 by omega), nI_clamp (show E.length < 2 ^ 31 by omega)]
  refine ⟨_, rfl, ?_, ?_⟩
  · refine ⟨⟨x1, ⟨x2, x3, x4⟩, ⟨x5, x6, x7⟩, x8, x9, y1⟩, hE.2.1, ?_, fun j hj => ⟨?_, ?_, ?_⟩⟩
    · rw [hI_sR, if_neg (by omega), g2]
    · simp only [hI_sR, hI_sI]
      rw [if_neg (by omega), if_neg (by omega), if_pos trivial]
      simp only [va_cpy]
      rw [if_pos (by omega), Nat.zero_add, Nat.sub_zero, hI_sI, if_neg (by omega)]
      exact (d4 j hj).1
    · simp only [hI_sR, hI_sI]
      rw [if_neg (by omega), if_pos trivial]
      simp only [va_cpy]
      rw [if_pos (by omega), Nat.zero_add, Nat.sub_zero, if_neg (by omega), hI_sI, if_neg (by omega)]
      exact (d4 j hj).2.1
    · simp only [hI_sR, hI_sI]
      rw [if_pos trivial]
      simp only [va_cpy]
      rw [if_pos (by omega), Nat.zero_add, Nat.sub_zero, if_neg (by omega), if_neg (by omega), hI_sI, if_neg (by omega)]
      exact (d4 j hj).2.2
  · refine Ch.trans (Ch.trans (Ch.trans (Ch.sI ⟨by omega, by omega⟩) (Ch.sR (fun _ => ⟨by omega, by omega⟩))) (Ch.sR (fun _ => ⟨by omega, by omega⟩))) (Ch.sR (fun _ => ⟨by omega, by omega⟩))
/-- amounts[p] = a -/
theorem ER.amt {h : HS} {e : Nat} {E : EL} (hE : ER h e E) {p a : Nat} (hp : p < E.length) (ha : a ≤ 100) : ER (sI h (e + 3) p (nI a)) e (E.set p (tw E p, wa E p, a)) := by
  obtain ⟨d1, d2, d3, d4⟩ := id hE
  refine ⟨d1.fr (S := fun n k => n = e + 3 ∧ k = p ∧ False) (h' := h) Ch.rf (fun _ _ _ _ q => q.2.2), d2.set hp ⟨(d2.2 p hp).1, (d2.2 p hp).2.1, ha⟩, ?_, fun j hj => ?_⟩
  · rw [hI_sI, if_neg (by omega), List.length_set]; exact d3
  · rw [List.length_set] at hj
    have e1 : en (E.set p (tw E p, wa E p, a)) j = _ := en_set hp j
    have q1 : tw (E.set p (tw E p, wa E p, a)) j = tw E j := by
      show (en _ j).1 = _
      rw [e1]; split
      · next q => rw [q]
      · rfl
    have q2 : wa (E.set p (tw E p, wa E p, a)) j = wa E j := by
      show (en _ j).2.1 = _
      rw [e1]; split
      · next q => rw [q]
      · rfl
    have q3 : am (E.set p (tw E p, wa E p, a)) j = if j = p then a else am E j := by
      show (en _ j).2.2 = _
      rw [e1]; split <;> rfl
    rw [q1, q2, q3, hI_sI, if_neg (by omega), hI_sI, if_neg (by omega), hI_sI]
    refine ⟨(d4 j hj).1, (d4 j hj).2.1, ?_⟩
    by_cases q : j = p
    · rw [if_pos ⟨rfl, q⟩, if_pos q]
    · rw [if_neg (fun z => q z.2), if_neg q]; exact (d4 j hj).2.2
