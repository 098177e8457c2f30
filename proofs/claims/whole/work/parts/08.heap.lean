/-! ROWS on the heap: fields, arrays, new cells, constants, calls, returns -/
/-- what the tables say of a class of vwCl -/
def FC (ci : Nat) (C : String) (T : u_T) (N : Nat) : Prop := ci < 9 ∧ nf ci = N ∧ vwCl[ci]? = some (C, T, N) ∧ (∀ w ∈ u_ws C T N, w ∈ gtbl) ∧ (∀ k, k < N → parseFieldDescriptor (T k).2.2.1 = some (fty ci k)) ∧ (∀ a, a < N → ∀ b, b < N → a ≠ b → (T a).2.1 ≠ (T b).2.1)
def isR (ty : FieldType) : Bool := match ty with
  | .object _ => true
  | .array _ => true
  | _ => false
theorem fl_get {g : GG} {h : HS} {n ci k : Nat} (hk : k < nf ci) : (fl g h n ci)[k]? = some (fv g h n k (fty ci k)) := by simp [fl, hk]
theorem fl_len {g : GG} {h : HS} {n ci : Nat} : (fl g h n ci).length = nf ci := by simp [fl]
theorem fv_congr {g : GG} {h h' : HS} {n k : Nat} {ty : FieldType} (h1 : hI h' n k = hI h n k) (h2 : hJ h' n k = hJ h n k) (h3 : hP h' n k = hP h n k) : fv g h' n k ty = fv g h n k ty := by
  unfold fv
  rw [h1, h2, h3]
theorem fl_set {g : GG} {h h' : HS} {n ci k : Nat} {v : Value} (hk : k < nf ci) (e1 : fv g h' n k (fty ci k) = v) (e2 : ∀ j, j ≠ k → fv g h' n j (fty ci j) = fv g h n j (fty ci j)) : fl g h' n ci = (fl g h n ci).set k v := by
  refine List.ext_getElem? (fun i => ?_)
  by_cases hi : i < nf ci
  · rw [fl_get hi]
    by_cases hik : i = k
    · subst hik
      rw [List.getElem?_set_self (by rw [fl_len]; exact hi), e1]
    · rw [List.getElem?_set_ne (Ne.symm hik), fl_get hi, e2 i hik]
  · rw [List.getElem?_eq_none (by rw [fl_len]; omega), List.getElem?_eq_none (by rw [List.length_set, fl_len]; omega)]
theorem fv_R {g : GG} {h : HS} {n k : Nat} {ty : FieldType} (ht : isR ty = true) : fv g h n k ty = va_rf ((hP h n k).map (ga g)) := by
  cases ty <;> first | rfl | cases ht
theorem fv_I {g : GG} {h : HS} {n k : Nat} {ty : FieldType} (ht : ty = .int) : fv g h n k ty = .int (hI h n k) := by subst ht; rfl
theorem fv_J {g : GG} {h : HS} {n k : Nat} {ty : FieldType} (ht : ty = .long) : fv g h n k ty = .long (hJ h n k) := by subst ht; rfl
theorem sI_at {h : HS} {n k : Nat} {x : Int32} : hI (sI h n k x) n k = x := by simp [hI, sI, up2]
theorem sJ_at {h : HS} {n k : Nat} {x : Int64} : hJ (sJ h n k x) n k = x := by simp [hJ, sJ, up2]
theorem sP_at {h : HS} {n k : Nat} {x : Option Nat} : hP (sP h n k x) n k = x := by simp [hP, sP, up2]
theorem sI_ne {h : HS} {n k j : Nat} {x : Int32} (hj : j ≠ k) : hI (sI h n k x) n j = hI h n j := by simp [hI, sI, up2, hj]
theorem sJ_ne {h : HS} {n k j : Nat} {x : Int64} (hj : j ≠ k) : hJ (sJ h n k x) n j = hJ h n j := by simp [hJ, sJ, up2, hj]
theorem sP_ne {h : HS} {n k j : Nat} {x : Option Nat} (hj : j ≠ k) : hP (sP h n k x) n j = hP h n j := by simp [hP, sP, up2, hj]
theorem ce_sI {g : GG} {h : HS} {n k m : Nat} {x : Int32} (hm : m ≠ n) : ce g (sI h n k x) m = ce g h m := ce_congr (up2_ne hm) rfl rfl
theorem ce_sJ {g : GG} {h : HS} {n k m : Nat} {x : Int64} (hm : m ≠ n) : ce g (sJ h n k x) m = ce g h m := ce_congr rfl (up2_ne hm) rfl
theorem ce_sP {g : GG} {h : HS} {n k m : Nat} {x : Option Nat} (hm : m ≠ n) : ce g (sP h n k x) m = ce g h m := ce_congr rfl rfl (up2_ne hm)
theorem ce_sR {g : GG} {h : HS} {n m : Nat} {f : Nat → Int32} (hm : m ≠ n) : ce g (sR h n f) m = ce g h m := ce_congr (by simp [hI, sR, hm]) rfl rfl
/-- the picture behind a write to one cell -/
theorem Rl.upd {g : GG} {h h' : HS} {H H1 : Heap} {n : Nat} (hR : Rl g h H) (hn : n < hN h) (hN' : hN h' = hN h) (he : va_at (gD g) vwCl (gz g + n, ce g h' n) H1) (ho : ∀ m, m ≠ n → ce g h' m = ce g h m) (hz : H1.size = H.size) (hq : ∀ q, q ≠ gz g + n → H1[q]? = H[q]?) : Rl g h' H1 := by
  refine ⟨by rw [hz, hR.1, hN'], by rw [hN']; exact hR.2.1, ?_⟩
  rw [← wl_set (h := h) hn hN' rfl ho]
  exact hR.2.2.set (wl_D g h) (wl_get hn) he hq
section RH
variable {g : GG} {l : Launch} {M : MD} {k w pc : Nat} {lv : List (Option Value)} {st : List Value} {h : HS} {Q : Option Value → HS → Prop}

theorem q_getI {α : Type} {ci j N ix : Nat} {Cn : String} {T : u_T} {r : Option Nat} {X : Nat → Option α} {o : α} (hB : nn r (fun n => gd (ck h n ci) (X n)) = some o) (hd : decode M.2.1 pc = .ok (.getfield ix, 3)) (fc : FC ci Cn T N) (hj : j < N) (hty : fty ci j = .int) (hl : Cond.fieldLink M.1.cls ix (T j).1 (T j).2.1 (T j).2.2.1 ∈ gtbl) (kk : ∀ n, X n = some o → Wq g l M k w (pc + 3) lv (.int (hI h n j) :: st) h Q) : Wq g l M k w pc lv (va_rf r :: st) h Q := by
  intro p e s m args below meth c C H ls locs hR hS hL
  obtain ⟨n, rfl, hb⟩ := nn_some hB
  obtain ⟨hc, hX⟩ := gd_some hb
  obtain ⟨hn, hk⟩ := ck_spec hc
  have hK := C.2.2.2.2.2.2.2.2.1
  show W _ _ _ _ _ _ _ _ _ _ _ _ _ _ _ (F0 m pc ls (.ref (ga g n) :: st.map (tv g)))
  rw [hR.ad hK hn]
  exact va_get C.1 C.2.1 C.2.2.2.2.2.2.2.1 fc.2.2.2.1 C.2.2.2.2.1 hK.2.1 hR.2.2 n (by rw [wl_get hn, ce_obj fc.1 hk]) fc.2.2.1 j hj (C.2.2.2.2.2.2.2.1 _ hl) (fun _ hx => hx) (by rw [fl_get (by rw [fc.2.1]; exact hj), fv_I hty]; rfl) hd (kk n hX p e s m args below meth c C H ls locs hR hS hL)
theorem q_getJ {α : Type} {ci j N ix : Nat} {Cn : String} {T : u_T} {r : Option Nat} {X : Nat → Option α} {o : α} (hB : nn r (fun n => gd (ck h n ci) (X n)) = some o) (hd : decode M.2.1 pc = .ok (.getfield ix, 3)) (fc : FC ci Cn T N) (hj : j < N) (hty : fty ci j = .long) (hl : Cond.fieldLink M.1.cls ix (T j).1 (T j).2.1 (T j).2.2.1 ∈ gtbl) (kk : ∀ n, X n = some o → Wq g l M k w (pc + 3) lv (.long (hJ h n j) :: st) h Q) : Wq g l M k w pc lv (va_rf r :: st) h Q := by
  intro p e s m args below meth c C H ls locs hR hS hL
  obtain ⟨n, rfl, hb⟩ := nn_some hB
  obtain ⟨hc, hX⟩ := gd_some hb
  obtain ⟨hn, hk⟩ := ck_spec hc
  have hK := C.2.2.2.2.2.2.2.2.1
  show W _ _ _ _ _ _ _ _ _ _ _ _ _ _ _ (F0 m pc ls (.ref (ga g n) :: st.map (tv g)))
  rw [hR.ad hK hn]
  exact va_get C.1 C.2.1 C.2.2.2.2.2.2.2.1 fc.2.2.2.1 C.2.2.2.2.1 hK.2.1 hR.2.2 n (by rw [wl_get hn, ce_obj fc.1 hk]) fc.2.2.1 j hj (C.2.2.2.2.2.2.2.1 _ hl) (fun _ hx => hx) (by rw [fl_get (by rw [fc.2.1]; exact hj), fv_J hty]; rfl) hd (kk n hX p e s m args below meth c C H ls locs hR hS hL)
theorem q_getP {α : Type} {ci j N ix : Nat} {Cn : String} {T : u_T} {r : Option Nat} {X : Nat → Option α} {o : α} (hB : nn r (fun n => gd (ck h n ci) (X n)) = some o) (hd : decode M.2.1 pc = .ok (.getfield ix, 3)) (fc : FC ci Cn T N) (hj : j < N) (hty : isR (fty ci j) = true) (hl : Cond.fieldLink M.1.cls ix (T j).1 (T j).2.1 (T j).2.2.1 ∈ gtbl) (kk : ∀ n, X n = some o → Wq g l M k w (pc + 3) lv (va_rf (hP h n j) :: st) h Q) : Wq g l M k w pc lv (va_rf r :: st) h Q := by
  intro p e s m args below meth c C H ls locs hR hS hL
  obtain ⟨n, rfl, hb⟩ := nn_some hB
  obtain ⟨hc, hX⟩ := gd_some hb
  obtain ⟨hn, hk⟩ := ck_spec hc
  have hK := C.2.2.2.2.2.2.2.2.1
  show W _ _ _ _ _ _ _ _ _ _ _ _ _ _ _ (F0 m pc ls (.ref (ga g n) :: st.map (tv g)))
  rw [hR.ad hK hn]
  exact va_get C.1 C.2.1 C.2.2.2.2.2.2.2.1 fc.2.2.2.1 C.2.2.2.2.1 hK.2.1 hR.2.2 n (by rw [wl_get hn, ce_obj fc.1 hk]) fc.2.2.1 j hj (C.2.2.2.2.2.2.2.1 _ hl) (fun _ hx => hx) (by rw [fl_get (by rw [fc.2.1]; exact hj), fv_R hty]) hd (by have h9 := kk n hX p e s m args below meth c C H ls locs hR hS hL; rw [List.map_cons, tv_rf] at h9; exact h9)
theorem q_putI {α : Type} {ci j N ix : Nat} {Cn : String} {T : u_T} {r : Option Nat} {X : Nat → Option α} {o : α} {x : Int32} (hB : nn r (fun n => gd (ck h n ci) (X n)) = some o) (hd : decode M.2.1 pc = .ok (.putfield ix, 3)) (fc : FC ci Cn T N) (hj : j < N) (hty : fty ci j = .int) (hl : Cond.fieldLink M.1.cls ix (T j).1 (T j).2.1 (T j).2.2.1 ∈ gtbl) (hfin : (T j).2.2.2 = false) (kk : ∀ n, X n = some o → Wq g l M k w (pc + 3) lv st (sI h n j x) Q) : Wq g l M k w pc lv (.int x :: va_rf r :: st) h Q := by
  intro p e s m args below meth c C H ls locs hR hS hL
  obtain ⟨n, rfl, hb⟩ := nn_some hB
  obtain ⟨hc, hX⟩ := gd_some hb
  obtain ⟨hn, hk⟩ := ck_spec hc
  have hK := C.2.2.2.2.2.2.2.2.1
  have hts := C.2.2.2.2.2.2.2.1
  have hj9 : j < nf ci := by rw [fc.2.1]; exact hj
  have hd9 := fc.2.2.2.2.1 j hj
  have hap := va_apart (own := M.1.cls) hts fc.2.2.2.1 (fty ci) fc.2.2.2.2.1 fc.2.2.2.2.2 hK.2.1 fc.2.2.1
  obtain ⟨r', h1, cell, q1, q2, q3, q4⟩ := hR.2.2 n _ (by rw [wl_get hn, ce_obj fc.1 hk])
  have hr : r' = (Cn, T, N) := Option.some.inj (h1.symm.trans fc.2.2.1)
  subst hr
  obtain ⟨hSl, hfc, kC, hkC, hkind⟩ := hK.2.1.1 ci _ fc.2.2.1
  obtain ⟨cf, kf, fi, f, hi, hsl⟩ := hSl j hj
  have hlay := hts _ (fc.2.2.2.1 _ (u_in_lay hj))
  unfold u_lay at hlay
  have hst := (u_facts hfc hkC (u_lays hts fc.2.2.2.1 hj) hi).1
  show W _ _ _ _ _ _ _ _ _ _ _ _ _ _ _ (F0 m pc ls (.int x :: .ref (ga g n) :: st.map (tv g)))
  rw [hR.ad hK hn]
  rw [if_neg (by rw [hfin]; decide)] at hlay
  refine W.putK C.1 C.2.1 (f := f) ⟨C.2.2.2.2.1, hts _ hl, ⟨_, _, _, hi⟩, hst⟩ (by rw [q2]; exact u_store hfc hkC hkind hlay hi hd9 (by rw [hty]; rfl) (by rw [hty]; rfl)) q1 q3 (by rw [hsl]; exact k2_hasslot (q4 j hj)) rfl rfl hd fun H1 e1 e2 e3 => ?_
  rw [hsl] at e1 ⊢
  refine kk n hX p e s m args below meth c C H1 ls _ (hR.upd (h' := sI h n j x) hn rfl ?_ (fun i hi => ce_sI hi) e2 e3) (hS.put e2 e3 (Nat.le_add_right _ _)) hL
  rw [ce_obj fc.1 hk, fl_set (h := h) (h' := sI h n j x) (v := .int x) hj9 (by rw [fv_I hty, sI_at]) (fun i hi => fv_congr (sI_ne hi) rfl rfl)]
  exact ⟨_, fc.2.2.1, t_OB.to (V := updV (vp_V (fl g h n ci)) j (.int x)) ⟨_, e1, q2, q3, t_set q4 hap hj _⟩ (fun i _ => vp_updV_set (by rw [fl_len]; exact hj9) _ i)⟩
theorem q_putJ {α : Type} {ci j N ix : Nat} {Cn : String} {T : u_T} {r : Option Nat} {X : Nat → Option α} {o : α} {x : Int64} (hB : nn r (fun n => gd (ck h n ci) (X n)) = some o) (hd : decode M.2.1 pc = .ok (.putfield ix, 3)) (fc : FC ci Cn T N) (hj : j < N) (hty : fty ci j = .long) (hl : Cond.fieldLink M.1.cls ix (T j).1 (T j).2.1 (T j).2.2.1 ∈ gtbl) (hfin : (T j).2.2.2 = false) (kk : ∀ n, X n = some o → Wq g l M k w (pc + 3) lv st (sJ h n j x) Q) : Wq g l M k w pc lv (.long x :: va_rf r :: st) h Q := by
  intro p e s m args below meth c C H ls locs hR hS hL
  obtain ⟨n, rfl, hb⟩ := nn_some hB
  obtain ⟨hc, hX⟩ := gd_some hb
  obtain ⟨hn, hk⟩ := ck_spec hc
  have hK := C.2.2.2.2.2.2.2.2.1
  have hts := C.2.2.2.2.2.2.2.1
  have hj9 : j < nf ci := by rw [fc.2.1]; exact hj
  have hd9 := fc.2.2.2.2.1 j hj
  have hap := va_apart (own := M.1.cls) hts fc.2.2.2.1 (fty ci) fc.2.2.2.2.1 fc.2.2.2.2.2 hK.2.1 fc.2.2.1
  obtain ⟨r', h1, cell, q1, q2, q3, q4⟩ := hR.2.2 n _ (by rw [wl_get hn, ce_obj fc.1 hk])
  have hr : r' = (Cn, T, N) := Option.some.inj (h1.symm.trans fc.2.2.1)
  subst hr
  obtain ⟨hSl, hfc, kC, hkC, hkind⟩ := hK.2.1.1 ci _ fc.2.2.1
  obtain ⟨cf, kf, fi, f, hi, hsl⟩ := hSl j hj
  have hlay := hts _ (fc.2.2.2.1 _ (u_in_lay hj))
  unfold u_lay at hlay
  have hst := (u_facts hfc hkC (u_lays hts fc.2.2.2.1 hj) hi).1
  show W _ _ _ _ _ _ _ _ _ _ _ _ _ _ _ (F0 m pc ls (.long x :: .ref (ga g n) :: st.map (tv g)))
  rw [hR.ad hK hn]
  rw [if_neg (by rw [hfin]; decide)] at hlay
  refine W.putK C.1 C.2.1 (f := f) ⟨C.2.2.2.2.1, hts _ hl, ⟨_, _, _, hi⟩, hst⟩ (by rw [q2]; exact u_store hfc hkC hkind hlay hi hd9 (by rw [hty]; rfl) (by rw [hty]; rfl)) q1 q3 (by rw [hsl]; exact k2_hasslot (q4 j hj)) rfl rfl hd fun H1 e1 e2 e3 => ?_
  rw [hsl] at e1 ⊢
  refine kk n hX p e s m args below meth c C H1 ls _ (hR.upd (h' := sJ h n j x) hn rfl ?_ (fun i hi => ce_sJ hi) e2 e3) (hS.put e2 e3 (Nat.le_add_right _ _)) hL
  rw [ce_obj fc.1 hk, fl_set (h := h) (h' := sJ h n j x) (v := .long x) hj9 (by rw [fv_J hty, sJ_at]) (fun i hi => fv_congr rfl (sJ_ne hi) rfl)]
  exact ⟨_, fc.2.2.1, t_OB.to (V := updV (vp_V (fl g h n ci)) j (.long x)) ⟨_, e1, q2, q3, t_set q4 hap hj _⟩ (fun i _ => vp_updV_set (by rw [fl_len]; exact hj9) _ i)⟩
theorem q_putP {α : Type} {ci j N ix : Nat} {Cn : String} {T : u_T} {r : Option Nat} {X : Nat → Option α} {o : α} {x : Option Nat} (hB : nn r (fun n => gd (ck h n ci) (X n)) = some o) (hd : decode M.2.1 pc = .ok (.putfield ix, 3)) (fc : FC ci Cn T N) (hj : j < N) (hty : isR (fty ci j) = true) (hl : Cond.fieldLink M.1.cls ix (T j).1 (T j).2.1 (T j).2.2.1 ∈ gtbl) (hfin : (T j).2.2.2 = false) (kk : ∀ n, X n = some o → Wq g l M k w (pc + 3) lv st (sP h n j x) Q) : Wq g l M k w pc lv (va_rf x :: va_rf r :: st) h Q := by
  intro p e s m args below meth c C H ls locs hR hS hL
  obtain ⟨n, rfl, hb⟩ := nn_some hB
  obtain ⟨hc, hX⟩ := gd_some hb
  obtain ⟨hn, hk⟩ := ck_spec hc
  have hK := C.2.2.2.2.2.2.2.2.1
  have hts := C.2.2.2.2.2.2.2.1
  have hj9 : j < nf ci := by rw [fc.2.1]; exact hj
  have hd9 := fc.2.2.2.2.1 j hj
  have hap := va_apart (own := M.1.cls) hts fc.2.2.2.1 (fty ci) fc.2.2.2.2.1 fc.2.2.2.2.2 hK.2.1 fc.2.2.1
  obtain ⟨r', h1, cell, q1, q2, q3, q4⟩ := hR.2.2 n _ (by rw [wl_get hn, ce_obj fc.1 hk])
  have hr : r' = (Cn, T, N) := Option.some.inj (h1.symm.trans fc.2.2.1)
  subst hr
  obtain ⟨hSl, hfc, kC, hkC, hkind⟩ := hK.2.1.1 ci _ fc.2.2.1
  obtain ⟨cf, kf, fi, f, hi, hsl⟩ := hSl j hj
  have hlay := hts _ (fc.2.2.2.1 _ (u_in_lay hj))
  unfold u_lay at hlay
  have hst := (u_facts hfc hkC (u_lays hts fc.2.2.2.1 hj) hi).1
  show W _ _ _ _ _ _ _ _ _ _ _ _ _ _ _ (F0 m pc ls (tv g (va_rf x) :: .ref (ga g n) :: st.map (tv g)))
  rw [hR.ad hK hn, tv_rf]
  rw [if_neg (by rw [hfin]; decide)] at hlay
  refine W.putK C.1 C.2.1 (f := f) ⟨C.2.2.2.2.1, hts _ hl, ⟨_, _, _, hi⟩, hst⟩ (by rw [q2]; exact u_store hfc hkC hkind hlay hi hd9 (by cases hty9 : fty ci j <;> rw [hty9] at hty <;> first | (cases hty; done) | rfl) (by cases hty9 : fty ci j <;> rw [hty9] at hty <;> first | (cases hty; done) | (cases x <;> rfl))) q1 q3 (by rw [hsl]; exact k2_hasslot (q4 j hj)) rfl rfl hd fun H1 e1 e2 e3 => ?_
  rw [hsl] at e1 ⊢
  refine kk n hX p e s m args below meth c C H1 ls _ (hR.upd (h' := sP h n j x) hn rfl ?_ (fun i hi => ce_sP hi) e2 e3) (hS.put e2 e3 (Nat.le_add_right _ _)) hL
  rw [ce_obj fc.1 hk, fl_set (h := h) (h' := sP h n j x) (v := va_rf (x.map (ga g))) hj9 (by rw [fv_R hty, sP_at]) (fun i hi => fv_congr rfl rfl (sP_ne hi))]
  exact ⟨_, fc.2.2.1, t_OB.to (V := updV (vp_V (fl g h n ci)) j (va_rf (x.map (ga g)))) ⟨_, e1, q2, q3, t_set q4 hap hj _⟩ (fun i _ => vp_updV_set (by rw [fl_len]; exact hj9) _ i)⟩
theorem q_putPF {α : Type} {ci j N ix : Nat} {Cn : String} {T : u_T} {r : Option Nat} {X : Nat → Option α} {o : α} {x : Option Nat} (hB : nn r (fun n => gd (ck h n ci) (X n)) = some o) (hd : decode M.2.1 pc = .ok (.putfield ix, 3)) (fc : FC ci Cn T N) (hj : j < N) (hty : isR (fty ci j) = true) (hl : Cond.fieldLink M.1.cls ix (T j).1 (T j).2.1 (T j).2.2.1 ∈ gtbl) (hfin : (T j).2.2.2 = true) (hini : M.1.name = "<init>") (hown : (T j).1 = M.1.cls) (kk : ∀ n, X n = some o → Wq g l M k w (pc + 3) lv st (sP h n j x) Q) : Wq g l M k w pc lv (va_rf x :: va_rf r :: st) h Q := by
  intro p e s m args below meth c C H ls locs hR hS hL
  obtain ⟨n, rfl, hb⟩ := nn_some hB
  obtain ⟨hc, hX⟩ := gd_some hb
  obtain ⟨hn, hk⟩ := ck_spec hc
  have hK := C.2.2.2.2.2.2.2.2.1
  have hts := C.2.2.2.2.2.2.2.1
  have hj9 : j < nf ci := by rw [fc.2.1]; exact hj
  have hd9 := fc.2.2.2.2.1 j hj
  have hap := va_apart (own := M.1.cls) hts fc.2.2.2.1 (fty ci) fc.2.2.2.2.1 fc.2.2.2.2.2 hK.2.1 fc.2.2.1
  obtain ⟨r', h1, cell, q1, q2, q3, q4⟩ := hR.2.2 n _ (by rw [wl_get hn, ce_obj fc.1 hk])
  have hr : r' = (Cn, T, N) := Option.some.inj (h1.symm.trans fc.2.2.1)
  subst hr
  obtain ⟨hSl, hfc, kC, hkC, hkind⟩ := hK.2.1.1 ci _ fc.2.2.1
  obtain ⟨cf, kf, fi, f, hi, hsl⟩ := hSl j hj
  have hlay := hts _ (fc.2.2.2.1 _ (u_in_lay hj))
  unfold u_lay at hlay
  have hst := (u_facts hfc hkC (u_lays hts fc.2.2.2.1 hj) hi).1
  show W _ _ _ _ _ _ _ _ _ _ _ _ _ _ _ (F0 m pc ls (tv g (va_rf x) :: .ref (ga g n) :: st.map (tv g)))
  rw [hR.ad hK hn, tv_rf]
  rw [if_pos hfin] at hlay
  have hcf : m.cls = cf := by
    obtain ⟨_, _, c', _, _, _, -, -, hf', -, -, -, hown2, -⟩ := Cond.laysFinal_spec hlay
    have e1 : c' = cf := by have := hi.symm.trans hf'; simp at this; exact this.1.symm
    rw [hown] at hown2
    rw [← e1]; exact Option.some.inj (C.2.2.2.2.1.symm.trans hown2)
  refine W.putFinK C.1 C.2.1 C.2.2.2.2.1 (hts _ hl) hi hst hcf (by rw [C.2.2.2.2.2.2.1]; exact hini) (by rw [q2]; exact u_fits hfc hkC hkind (Or.inr hlay) hi hd9 (by cases hty9 : fty ci j <;> rw [hty9] at hty <;> first | (cases hty; done) | rfl) (by cases hty9 : fty ci j <;> rw [hty9] at hty <;> first | (cases hty; done) | (cases x <;> rfl))) q1 q3 (by rw [hsl]; exact k2_hasslot (q4 j hj)) rfl rfl hd fun H1 e1 e2 e3 => ?_
  rw [hsl] at e1 ⊢
  refine kk n hX p e s m args below meth c C H1 ls _ (hR.upd (h' := sP h n j x) hn rfl ?_ (fun i hi => ce_sP hi) e2 e3) (hS.put e2 e3 (Nat.le_add_right _ _)) hL
  rw [ce_obj fc.1 hk, fl_set (h := h) (h' := sP h n j x) (v := va_rf (x.map (ga g))) hj9 (by rw [fv_R hty, sP_at]) (fun i hi => fv_congr rfl rfl (sP_ne hi))]
  exact ⟨_, fc.2.2.1, t_OB.to (V := updV (vp_V (fl g h n ci)) j (va_rf (x.map (ga g)))) ⟨_, e1, q2, q3, t_set q4 hap hj _⟩ (fun i _ => vp_updV_set (by rw [fl_len]; exact hj9) _ i)⟩
theorem q_iald {α : Type} {i : Int32} {r : Option Nat} {X : Nat → Option α} {o : α} (hB : nn r (fun n => gd (ca h n 9 i) (X n)) = some o) (hd : decode M.2.1 pc = .ok (.iaload, 1)) (kk : ∀ n, X n = some o → Wq g l M k w (pc + 1) lv (.int (hI h n i.toNatClampNeg) :: st) h Q) : Wq g l M k w pc lv (.int i :: va_rf r :: st) h Q := by
  intro p e s m args below meth c C H ls locs hR hS hL
  obtain ⟨n, rfl, hb⟩ := nn_some hB
  obtain ⟨hc, hX⟩ := gd_some hb
  obtain ⟨hn, hk, hin⟩ := ca_spec hc
  have hK := C.2.2.2.2.2.2.2.2.1
  show W _ _ _ _ _ _ _ _ _ _ _ _ _ _ _ (F0 m pc ls (.int i :: .ref (ga g n) :: st.map (tv g)))
  rw [hR.ad hK hn]
  exact va_iald C.1 C.2.1 hK.2.1 hR.2.2 n 0 (by rw [wl_get hn, ce_int hk]) rfl hin hd (kk n hX p e s m args below meth c C H ls locs hR hS hL)
theorem q_zald {α : Type} {i : Int32} {r : Option Nat} {X : Nat → Option α} {o : α} (hB : nn r (fun n => gd (ca h n 10 i) (X n)) = some o) (hd : decode M.2.1 pc = .ok (.baload, 1)) (kk : ∀ n, X n = some o → Wq g l M k w (pc + 1) lv (.int (hI h n i.toNatClampNeg) :: st) h Q) : Wq g l M k w pc lv (.int i :: va_rf r :: st) h Q := by
  intro p e s m args below meth c C H ls locs hR hS hL
  obtain ⟨n, rfl, hb⟩ := nn_some hB
  obtain ⟨hc, hX⟩ := gd_some hb
  obtain ⟨hn, hk, hin⟩ := ca_spec hc
  have hK := C.2.2.2.2.2.2.2.2.1
  show W _ _ _ _ _ _ _ _ _ _ _ _ _ _ _ (F0 m pc ls (.int i :: .ref (ga g n) :: st.map (tv g)))
  rw [hR.ad hK hn]
  exact va_zald C.1 C.2.1 hK.2.1 hR.2.2 n 1 (by rw [wl_get hn, ce_boo hk]) rfl hin hd (kk n hX p e s m args below meth c C H ls locs hR hS hL)
theorem q_aaldA {α : Type} {i : Int32} {r : Option Nat} {X : Nat → Option α} {o : α} (hB : nn r (fun n => gd (ca h n 11 i) (X n)) = some o) (hd : decode M.2.1 pc = .ok (.aaload, 1)) (kk : ∀ n, X n = some o → Wq g l M k w (pc + 1) lv (va_rf (hP h n i.toNatClampNeg) :: st) h Q) : Wq g l M k w pc lv (.int i :: va_rf r :: st) h Q := by
  intro p e s m args below meth c C H ls locs hR hS hL
  obtain ⟨n, rfl, hb⟩ := nn_some hB
  obtain ⟨hc, hX⟩ := gd_some hb
  obtain ⟨hn, hk, hin⟩ := ca_spec hc
  have hK := C.2.2.2.2.2.2.2.2.1
  show W _ _ _ _ _ _ _ _ _ _ _ _ _ _ _ (F0 m pc ls (.int i :: .ref (ga g n) :: st.map (tv g)))
  rw [hR.ad hK hn]
  have h9 := kk n hX p e s m args below meth c C H ls locs hR hS hL
  rw [List.map_cons, tv_rf] at h9
  exact va_aldq (C := RX0) C.1 C.2.1 hK.2.1 hR.2.2 n 2 (by rw [wl_get hn, ce_act hk]) rfl hin hd h9
theorem q_aaldE {α : Type} {i : Int32} {r : Option Nat} {X : Nat → Option α} {o : α} (hB : nn r (fun n => gd (ca h n 12 i) (X n)) = some o) (hd : decode M.2.1 pc = .ok (.aaload, 1)) (kk : ∀ n, X n = some o → Wq g l M k w (pc + 1) lv (va_rf (hP h n i.toNatClampNeg) :: st) h Q) : Wq g l M k w pc lv (.int i :: va_rf r :: st) h Q := by
  intro p e s m args below meth c C H ls locs hR hS hL
  obtain ⟨n, rfl, hb⟩ := nn_some hB
  obtain ⟨hc, hX⟩ := gd_some hb
  obtain ⟨hn, hk, hin⟩ := ca_spec hc
  have hK := C.2.2.2.2.2.2.2.2.1
  show W _ _ _ _ _ _ _ _ _ _ _ _ _ _ _ (F0 m pc ls (.int i :: .ref (ga g n) :: st.map (tv g)))
  rw [hR.ad hK hn]
  have h9 := kk n hX p e s m args below meth c C H ls locs hR hS hL
  rw [List.map_cons, tv_rf] at h9
  exact va_aldq (C := RX3) C.1 C.2.1 hK.2.1 hR.2.2 n 3 (by rw [wl_get hn, ce_ent hk]) rfl hin hd h9
theorem hI_sI_row {h : HS} {n j : Nat} {x : Int32} : hI (sI h n j x) n = upd (hI h n) j x := by
  funext q
  simp [hI, sI, up2, upd]
theorem q_iast {α : Type} {i x : Int32} {r : Option Nat} {X : Nat → Option α} {o : α} (hB : nn r (fun n => gd (ca h n 9 i) (X n)) = some o) (hd : decode M.2.1 pc = .ok (.iastore, 1)) (kk : ∀ n, X n = some o → Wq g l M k w (pc + 1) lv st (sI h n i.toNatClampNeg x) Q) : Wq g l M k w pc lv (.int x :: .int i :: va_rf r :: st) h Q := by
  intro p e s m args below meth c C H ls locs hR hS hL
  obtain ⟨n, rfl, hb⟩ := nn_some hB
  obtain ⟨hc, hX⟩ := gd_some hb
  obtain ⟨hn, hk, hin⟩ := ca_spec hc
  have hK := C.2.2.2.2.2.2.2.2.1
  show W _ _ _ _ _ _ _ _ _ _ _ _ _ _ _ (F0 m pc ls (.int x :: .int i :: .ref (ga g n) :: st.map (tv g)))
  rw [hR.ad hK hn]
  have hcell : H[gz g + n]? = some (vp_cell (gC g 0) (al n, .inl (hI h n))) := hR.2.2 n (gz g + n, .inl (gC g 0, al n, .inl (hI h n))) (by rw [wl_get hn, ce_int hk])
  refine W.iast C.1 C.2.1 hcell ((hK.2.1.2 0 _ rfl).1 (al n) (fun j => .int (hI h n j))) (fun q => by cases q) (by show ¬ (i < 0 ∨ (arrV _ _ _).slots.size ≤ _); rw [arrV_size]; exact hin) rfl rfl hd fun H1 e z oq => ?_
  refine kk n hX p _ s m args below meth c C H1 ls _ (hR.upd (h' := sI h n i.toNatClampNeg x) hn rfl ?_ (fun q hq => ce_sI hq) z oq) (hS.put z oq (Nat.le_add_right _ _)) hL
  rw [ce_int hk, hI_sI_row]
  show H1[gz g + n]? = some (vp_cell _ _)
  rw [e, vp_cell_i, vp_cell_i, arrV_store]
  congr 2
  funext q
  by_cases hq : q = i.toNatClampNeg
  · subst hq
    simp [updV, upd]
  · simp [updV, upd, hq]
theorem q_zast {α : Type} {i x : Int32} {r : Option Nat} {X : Nat → Option α} {o : α} (hB : nn r (fun n => gd (ca h n 10 i) (X n)) = some o) (hd : decode M.2.1 pc = .ok (.bastore, 1)) (kk : ∀ n, X n = some o → Wq g l M k w (pc + 1) lv st (sI h n i.toNatClampNeg (x &&& 1)) Q) : Wq g l M k w pc lv (.int x :: .int i :: va_rf r :: st) h Q := by
  intro p e s m args below meth c C H ls locs hR hS hL
  obtain ⟨n, rfl, hb⟩ := nn_some hB
  obtain ⟨hc, hX⟩ := gd_some hb
  obtain ⟨hn, hk, hin⟩ := ca_spec hc
  have hK := C.2.2.2.2.2.2.2.2.1
  show W _ _ _ _ _ _ _ _ _ _ _ _ _ _ _ (F0 m pc ls (.int x :: .int i :: .ref (ga g n) :: st.map (tv g)))
  rw [hR.ad hK hn]
  have hcell : H[gz g + n]? = some (vp_cell (gC g 1) (al n, .inl (hI h n))) := hR.2.2 n (gz g + n, .inl (gC g 1, al n, .inl (hI h n))) (by rw [wl_get hn, ce_boo hk])
  refine W.zast C.1 C.2.1 hcell ((hK.2.1.2 1 _ rfl).1 (al n) (fun j => .int (hI h n j))) (fun q => by cases q) (by show ¬ (i < 0 ∨ (arrV _ _ _).slots.size ≤ _); rw [arrV_size]; exact hin) rfl rfl hd fun H1 e z oq => ?_
  refine kk n hX p _ s m args below meth c C H1 ls _ (hR.upd (h' := sI h n i.toNatClampNeg (x &&& 1)) hn rfl ?_ (fun q hq => ce_sI hq) z oq) (hS.put z oq (Nat.le_add_right _ _)) hL
  rw [ce_boo hk, hI_sI_row]
  show H1[gz g + n]? = some (vp_cell _ _)
  rw [e, vp_cell_i, vp_cell_i, arrV_store]
  congr 2
  funext q
  by_cases hq : q = i.toNatClampNeg
  · subst hq
    simp [updV, upd, narrow]
  · simp [updV, upd, hq]
theorem aq_sP {g : GG} {h : HS} {n j : Nat} {x : Option Nat} : aq g (sP h n j x) n = va_up (aq g h n) j (x.map (ga g)) := by
  funext q
  by_cases hq : q = j
  · subst hq; simp [aq, hP, sP, up2, va_up]
  · simp [aq, hP, sP, up2, va_up, hq]
theorem q_aastA {α : Type} {i : Int32} {r rv : Option Nat} {X : Nat → Nat → Option α} {o : α} {T : u_T} {N : Nat} (hB : nn r (fun n => nn rv (fun v => gd (ca h n 11 i && ck h v 0) (X n v))) = some o) (hd : decode M.2.1 pc = .ok (.aastore, 1)) (fc : FC 0 RX0 T N) (kk : ∀ n v, X n v = some o → Wq g l M k w (pc + 1) lv st (sP h n i.toNatClampNeg (some v)) Q) : Wq g l M k w pc lv (va_rf rv :: .int i :: va_rf r :: st) h Q := by
  intro p e s m args below meth c C H ls locs hR hS hL
  obtain ⟨n, rfl, hb⟩ := nn_some hB
  obtain ⟨v, rfl, hb⟩ := nn_some hb
  obtain ⟨hc, hX⟩ := gd_some hb
  rw [Bool.and_eq_true] at hc
  obtain ⟨hn, hk, hin⟩ := ca_spec hc.1
  obtain ⟨hv, hkv⟩ := ck_spec hc.2
  have hK := C.2.2.2.2.2.2.2.2.1
  show W _ _ _ _ _ _ _ _ _ _ _ _ _ _ _ (F0 m pc ls (.ref (ga g v) :: .int i :: .ref (ga g n) :: st.map (tv g)))
  rw [hR.ad hK hn, hR.ad hK hv]
  have hlt : i.toNatClampNeg < al n := Nat.not_le.mp fun q => hin (Or.inr q)
  have h0 : ¬ i < 0 := fun q => hin (Or.inl q)
  obtain ⟨r', hr', cellV, g1, g2, g3, -⟩ := hR.2.2 v _ (by rw [wl_get hv, ce_obj fc.1 hkv])
  have hcls := (hK.2.1.1 0 _ fc.2.2.1).2
  obtain ⟨kA, comp, k1, k2, k3, -⟩ := (hK.2.1.2 2 _ rfl).2
  have hcomp : comp = (gD g).1 0 := Option.some.inj (k3.symm.trans hcls.1)
  subst hcomp
  obtain ⟨kC, hkC, -⟩ := hcls.2
  have hcell : H[gz g + n]? = some (vp_cell (gC g 2) (al n, .inr (.inr (.inr (.inr (aq g h n)))))) := hR.2.2 n (gz g + n, .inl (gC g 2, al n, .inr (.inr (.inr (.inr (aq g h n)))))) (by rw [wl_get hn, ce_act hk])
  refine W.aast C.1 C.2.1 hcell (fun q h => by cases h) (fun h => by cases h) k1 k2 rfl hkC ⟨h0, by show _ < (arrV _ _ _).slots.size; rw [arrV_size]; exact hlt⟩ g1 (fun q h => by rw [g3] at h; cases h) (by rw [g2]; exact hkC) (by rw [g2]; exact va_assign hcls) rfl rfl hd fun H1 e z oq => ?_
  refine kk n v hX p _ s m args below meth c C H1 ls _ (hR.upd (h' := sP h n i.toNatClampNeg (some v)) hn rfl ?_ (fun q hq => ce_sP hq) z oq) (hS.put z oq (Nat.le_add_right _ _)) hL
  rw [ce_act hk, aq_sP]
  show H1[gz g + n]? = some (vp_cell _ _)
  rw [e, vp_cell_q, vp_cell_q, arrV_store]
  congr 2
  funext q
  by_cases hq : q = i.toNatClampNeg
  · subst hq
    simp [updV, va_up, va_rf, hR.ad hK hv]
  · simp [updV, va_up, hq]
theorem q_aastE {α : Type} {i : Int32} {r rv : Option Nat} {X : Nat → Nat → Option α} {o : α} {T : u_T} {N : Nat} (hB : nn r (fun n => nn rv (fun v => gd (ca h n 12 i && ck h v 3) (X n v))) = some o) (hd : decode M.2.1 pc = .ok (.aastore, 1)) (fc : FC 3 RX3 T N) (kk : ∀ n v, X n v = some o → Wq g l M k w (pc + 1) lv st (sP h n i.toNatClampNeg (some v)) Q) : Wq g l M k w pc lv (va_rf rv :: .int i :: va_rf r :: st) h Q := by
  intro p e s m args below meth c C H ls locs hR hS hL
  obtain ⟨n, rfl, hb⟩ := nn_some hB
  obtain ⟨v, rfl, hb⟩ := nn_some hb
  obtain ⟨hc, hX⟩ := gd_some hb
  rw [Bool.and_eq_true] at hc
  obtain ⟨hn, hk, hin⟩ := ca_spec hc.1
  obtain ⟨hv, hkv⟩ := ck_spec hc.2
  have hK := C.2.2.2.2.2.2.2.2.1
  show W _ _ _ _ _ _ _ _ _ _ _ _ _ _ _ (F0 m pc ls (.ref (ga g v) :: .int i :: .ref (ga g n) :: st.map (tv g)))
  rw [hR.ad hK hn, hR.ad hK hv]
  have hlt : i.toNatClampNeg < al n := Nat.not_le.mp fun q => hin (Or.inr q)
  have h0 : ¬ i < 0 := fun q => hin (Or.inl q)
  obtain ⟨r', hr', cellV, g1, g2, g3, -⟩ := hR.2.2 v _ (by rw [wl_get hv, ce_obj fc.1 hkv])
  have hcls := (hK.2.1.1 3 _ fc.2.2.1).2
  obtain ⟨kA, comp, k1, k2, k3, -⟩ := (hK.2.1.2 3 _ rfl).2
  have hcomp : comp = (gD g).1 3 := Option.some.inj (k3.symm.trans hcls.1)
  subst hcomp
  obtain ⟨kC, hkC, -⟩ := hcls.2
  have hcell : H[gz g + n]? = some (vp_cell (gC g 3) (al n, .inr (.inr (.inr (.inr (aq g h n)))))) := hR.2.2 n (gz g + n, .inl (gC g 3, al n, .inr (.inr (.inr (.inr (aq g h n)))))) (by rw [wl_get hn, ce_ent hk])
  refine W.aast C.1 C.2.1 hcell (fun q h => by cases h) (fun h => by cases h) k1 k2 rfl hkC ⟨h0, by show _ < (arrV _ _ _).slots.size; rw [arrV_size]; exact hlt⟩ g1 (fun q h => by rw [g3] at h; cases h) (by rw [g2]; exact hkC) (by rw [g2]; exact va_assign hcls) rfl rfl hd fun H1 e z oq => ?_
  refine kk n v hX p _ s m args below meth c C H1 ls _ (hR.upd (h' := sP h n i.toNatClampNeg (some v)) hn rfl ?_ (fun q hq => ce_sP hq) z oq) (hS.put z oq (Nat.le_add_right _ _)) hL
  rw [ce_ent hk, aq_sP]
  show H1[gz g + n]? = some (vp_cell _ _)
  rw [e, vp_cell_q, vp_cell_q, arrV_store]
  congr 2
  funext q
  by_cases hq : q = i.toNatClampNeg
  · subst hq
    simp [updV, va_up, va_rf, hR.ad hK hv]
  · simp [updV, va_up, hq]
end RH
