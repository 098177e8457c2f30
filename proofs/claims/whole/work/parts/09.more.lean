/-! ROWS: new cells, copies, constants, switches, returns, calls -/
theorem hN_nw {h : HS} : hN (nw h) = hN h + 1 := rfl
theorem ce_nw {g : GG} {h : HS} {n : Nat} (hn : n ≠ hN h) : ce g (nw h) n = ce g h n := ce_congr (by simp [hI, nw, hn]) (by simp [hJ, nw, hn]) (by simp [hP, nw, hn])
theorem wl_nw {g : GG} {h : HS} : wl g (nw h) = wl g h ++ [(gz g + hN h, ce g (nw h) (hN h))] := by
  unfold wl
  rw [hN_nw, List.range_succ, List.map_append]
  congr 1
  refine List.map_congr_left (fun n hn => ?_)
  rw [ce_nw (Nat.ne_of_lt (List.mem_range.mp hn))]
/-- the picture behind a new cell -/
theorem Rl.new {g : GG} {h : HS} {H H1 : Heap} (hR : Rl g h H) (hn : hN h < 1000) (he : va_at (gD g) vwCl (gz g + hN h, ce g (nw h) (hN h)) H1) (hz : H1.size = H.size + 1) (hq : ∀ q, q < H.size → H1[q]? = H[q]?) : Rl g (nw h) H1 := by
  refine ⟨by rw [hz, hR.1, hN_nw]; omega, by rw [hN_nw]; omega, ?_⟩
  rw [wl_nw]
  refine (hR.2.2.kept (fun k x hx => hq x.1 ((hR.2.2 k x hx).lt))).app (fun k x hx => ?_)
  have hk : k < 1 := (List.getElem?_eq_some_iff.mp hx).1
  rw [show k = 0 by omega] at hx
  cases hx
  exact he
theorem va_S.new {A : Nat → Prop} {H0 H H1 : Heap} {locs : List Loc} (h : va_S A H0 H locs) (hz : H1.size = H.size + 1) (hq : ∀ q, q < H.size → H1[q]? = H[q]?) : va_S A H0 H1 locs := ⟨Nat.le_trans h.1 (by omega), fun x h1 h2 => (hq x (Nat.lt_of_lt_of_le h1 h.1)).trans (h.2.1 x h1 h2), h.2.2⟩
def okT (ty : FieldType) : Bool := match ty with
  | .float => false
  | .double => false
  | _ => true
theorem fv_nw {g : GG} {h : HS} {k : Nat} {ty : FieldType} (hty : okT ty = true) : defaultValue ty = fv g (nw h) (hN h) k ty := by
  cases ty <;> first | (cases hty; done) | simp [fv, nw, hI, hJ, hP, defaultValue, va_rf]
/-- the place of a new cell -/
def cn (h : HS) (ci : Nat) : Bool := decide (hN h < 1000) && kd (hN h) == ci
theorem cn_spec {h : HS} {ci : Nat} (hc : cn h ci = true) : hN h < 1000 ∧ kd (hN h) = ci := by
  simp only [cn, Bool.and_eq_true, decide_eq_true_eq, beq_iff_eq] at hc
  exact hc
section RN
variable {g : GG} {l : Launch} {M : MD} {k w pc : Nat} {lv : List (Option Value)} {st : List Value} {h : HS} {Q : Option Value → HS → Prop}
theorem q_new {α : Type} {ci N ix : Nat} {Cn : String} {T : u_T} {X : Option α} {o : α} (hB : gd (cn h ci) X = some o) (hd : decode M.2.1 pc = .ok (.new ix, 3)) (fc : FC ci Cn T N) (hok : ∀ j, j < N → okT (fty ci j) = true) (hl : Cond.classLink M.1.cls ix Cn ∈ gtbl) (hin : Cond.instantiable Cn N ∈ gtbl) (hi : Cond.initialized Cn ∈ gtbl) (hk : k + 1 ≤ M.2.2.2.2.cells) (hw : w + N ≤ M.2.2.2.2.slots) (kk : X = some o → Wq g l M (k + 1) (w + N) (pc + 3) lv (va_rf (some (hN h)) :: st) (nw h) Q) : Wq g l M k w pc lv st h Q := by
  intro p e s m args below meth c C H ls locs hR hS hL
  obtain ⟨hc, hX⟩ := gd_some hB
  obtain ⟨hn, hkd⟩ := cn_spec hc
  have hK := C.2.2.2.2.2.2.2.2.1
  have hts := C.2.2.2.2.2.2.2.1
  have hKn := hK.2.1.1 ci _ fc.2.2.1
  refine W.newcK C.1 C.2.1 C.2.2.2.2.1 (hts _ hl) (hts _ hin) (hts _ hi) rfl hd hk hw hKn.2.1 rfl fun H1 kC hkC e1 z1 o1 => ?_
  have h9 := kk hX p e s m args below meth c C H1 ls locs (hR.new hn ?_ z1 o1) (hS.new z1 o1) hL
  · rw [List.map_cons, tv_rf] at h9
    show W _ _ _ _ _ _ _ _ _ _ _ _ _ _ _ (F0 m (pc + 3) ls (.ref (Array.size H) :: st.map (tv g)))
    rw [hR.1, ← hK.1 _ hn]
    exact h9
  · rw [ce_obj fc.1 hkd]
    rw [hR.1] at e1
    refine ⟨_, fc.2.2.1, (u_born (fty ci) hts fc.2.2.2.1 hKn hkC e1 fc.2.2.2.2.1).to (fun j hj => ?_)⟩
    have hj9 : j < nf ci := by rw [fc.2.1]; exact hj
    rw [vp_V, List.getD_eq_getElem?_getD, fl_get hj9]
    exact fv_nw (hok j hj)

theorem q_newaI {α : Type} {n : Int32} {X : Option α} {o : α} {N : Nat} (hB : gd (cn h 9 && decide (al (hN h) = N)) X = some o) (hd : decode M.2.1 pc = .ok (.newarray .int, 2)) (hl : Cond.arrayClass .int ∈ gtbl) (hn : ¬ n < 0) (hN9 : n.toNatClampNeg = N) (hb : N ≤ 1000) (hk : k + 1 ≤ M.2.2.2.2.cells) (hw : w + N ≤ M.2.2.2.2.slots) (kk : X = some o → Wq g l M (k + 1) (w + N) (pc + 2) lv (va_rf (some (hN h)) :: st) (nw h) Q) : Wq g l M k w pc lv (.int n :: st) h Q := by
  intro p e s m args below meth c C H ls locs hR hS hL
  obtain ⟨hc, hX⟩ := gd_some hB
  rw [Bool.and_eq_true, decide_eq_true_eq] at hc
  obtain ⟨hn9, hkd⟩ := cn_spec hc.1
  have hK := C.2.2.2.2.2.2.2.2.1
  have hts := C.2.2.2.2.2.2.2.1
  refine va_newaK (atype := .int) C.1 C.2.1 (hts _ hl) rfl hd rfl hn hN9 (by show N * componentBytes .int ≤ _; simp only [componentBytes]; omega) hk hw rfl fun H1 cA e1 z1 o1 _ hf => ?_
  have hcA : cA = gC g 0 := by
    have h8 := (hK.2.1.2 0 _ rfl).2
    exact Option.some.inj (hf.symm.trans h8)
  have h9 := kk hX p e s m args below meth c C H1 ls locs (hR.new hn9 ?_ z1 o1) (hS.new z1 o1) hL
  · rw [List.map_cons, tv_rf] at h9
    show W _ _ _ _ _ _ _ _ _ _ _ _ _ _ _ (F0 m (pc + 2) ls (.ref (Array.size H) :: st.map (tv g)))
    rw [hR.1, ← hK.1 _ hn9]
    exact h9
  · rw [ce_int hkd]
    show H1[gz g + hN h]? = some (vp_cell _ _)
    rw [← hR.1, e1, vp_cell_i, hcA, hc.2]
    congr 2
    funext j
    simp [hI, nw, defaultValue, newarray.typeOf]
theorem q_newaZ {α : Type} {n : Int32} {X : Option α} {o : α} {N : Nat} (hB : gd (cn h 10 && decide (al (hN h) = N)) X = some o) (hd : decode M.2.1 pc = .ok (.newarray .boolean, 2)) (hl : Cond.arrayClass .boolean ∈ gtbl) (hn : ¬ n < 0) (hN9 : n.toNatClampNeg = N) (hb : N ≤ 1000) (hk : k + 1 ≤ M.2.2.2.2.cells) (hw : w + N ≤ M.2.2.2.2.slots) (kk : X = some o → Wq g l M (k + 1) (w + N) (pc + 2) lv (va_rf (some (hN h)) :: st) (nw h) Q) : Wq g l M k w pc lv (.int n :: st) h Q := by
  intro p e s m args below meth c C H ls locs hR hS hL
  obtain ⟨hc, hX⟩ := gd_some hB
  rw [Bool.and_eq_true, decide_eq_true_eq] at hc
  obtain ⟨hn9, hkd⟩ := cn_spec hc.1
  have hK := C.2.2.2.2.2.2.2.2.1
  have hts := C.2.2.2.2.2.2.2.1
  refine va_newaK (atype := .boolean) C.1 C.2.1 (hts _ hl) rfl hd rfl hn hN9 (by show N * componentBytes .boolean ≤ _; simp only [componentBytes]; omega) hk hw rfl fun H1 cA e1 z1 o1 _ hf => ?_
  have hcA : cA = gC g 1 := by
    have h8 := (hK.2.1.2 1 _ rfl).2
    exact Option.some.inj (hf.symm.trans h8)
  have h9 := kk hX p e s m args below meth c C H1 ls locs (hR.new hn9 ?_ z1 o1) (hS.new z1 o1) hL
  · rw [List.map_cons, tv_rf] at h9
    show W _ _ _ _ _ _ _ _ _ _ _ _ _ _ _ (F0 m (pc + 2) ls (.ref (Array.size H) :: st.map (tv g)))
    rw [hR.1, ← hK.1 _ hn9]
    exact h9
  · rw [ce_boo hkd]
    show H1[gz g + hN h]? = some (vp_cell _ _)
    rw [← hR.1, e1, vp_cell_i, hcA, hc.2]
    congr 2
    funext j
    simp [hI, nw, defaultValue, newarray.typeOf]
theorem q_newqA {α : Type} {n : Int32} {ix : Nat} {X : Option α} {o : α} {N : Nat} (hB : gd (cn h 11 && decide (al (hN h) = N)) X = some o) (hd : decode M.2.1 pc = .ok (.anewarray ix, 3)) (hl : Cond.classLink M.1.cls ix RX0 ∈ gtbl) (hn : ¬ n < 0) (hN9 : n.toNatClampNeg = N) (hb : N ≤ 1000) (hk : k + 1 ≤ M.2.2.2.2.cells) (hw : w + N ≤ M.2.2.2.2.slots) (kk : X = some o → Wq g l M (k + 1) (w + N) (pc + 3) lv (va_rf (some (hN h)) :: st) (nw h) Q) : Wq g l M k w pc lv (.int n :: st) h Q := by
  intro p e s m args below meth c C H ls locs hR hS hL
  obtain ⟨hc, hX⟩ := gd_some hB
  rw [Bool.and_eq_true, decide_eq_true_eq] at hc
  obtain ⟨hn9, hkd⟩ := cn_spec hc.1
  have hK := C.2.2.2.2.2.2.2.2.1
  have hts := C.2.2.2.2.2.2.2.1
  subst hN9
  refine W.anew C.1 C.2.1 C.2.2.2.2.1 (hts _ hl) (va_AO.use C.2.2.2.2.2.2.2.2.1.2.2.2.2.2.1) rfl hd rfl hn (by omega) hk hw fun cA kA comp f1 f2 f3 f4 => ?_
  generalize hH1 : H.push ({ cls := cA, slots := Array.replicate n.toNatClampNeg .null, vm := .none } : Cell) = H1
  have z1 : H1.size = H.size + 1 := by rw [← hH1, Array.size_push]
  have e1 : H1[H.size]? = some (arrV cA n.toNatClampNeg (fun _ => .null)) := by rw [← hH1, Array.getElem?_push_size, ← arrV_new]
  have o1 : ∀ q : Nat, q < H.size → H1[q]? = H[q]? := fun q hq => by rw [← hH1, Array.getElem?_push, if_neg (Nat.ne_of_lt hq)]
  have hcA : cA = gC g 2 := by
    obtain ⟨_, _, _, _, _, h8⟩ := (hK.2.1.2 2 _ rfl).2
    exact Option.some.inj (f1.symm.trans h8)
  have h9 := kk hX p e s m args below meth c C H1 ls locs (hR.new hn9 ?_ z1 o1) (hS.new z1 o1) hL
  · rw [List.map_cons, tv_rf] at h9
    show W _ _ _ _ _ _ _ _ _ _ _ _ _ _ _ (F0 m (pc + 3) ls (.ref (Array.size H) :: st.map (tv g)))
    rw [hR.1, ← hK.1 _ hn9]
    exact h9
  · rw [ce_act hkd]
    show H1[gz g + hN h]? = some (vp_cell _ _)
    rw [← hR.1, e1, vp_cell_q, hcA, hc.2]
    congr 2
    funext j
    simp [aq, hP, nw, va_rf]
theorem q_newqE {α : Type} {n : Int32} {ix : Nat} {X : Option α} {o : α} {N : Nat} (hB : gd (cn h 12 && decide (al (hN h) = N)) X = some o) (hd : decode M.2.1 pc = .ok (.anewarray ix, 3)) (hl : Cond.classLink M.1.cls ix RX3 ∈ gtbl) (hn : ¬ n < 0) (hN9 : n.toNatClampNeg = N) (hb : N ≤ 1000) (hk : k + 1 ≤ M.2.2.2.2.cells) (hw : w + N ≤ M.2.2.2.2.slots) (kk : X = some o → Wq g l M (k + 1) (w + N) (pc + 3) lv (va_rf (some (hN h)) :: st) (nw h) Q) : Wq g l M k w pc lv (.int n :: st) h Q := by
  intro p e s m args below meth c C H ls locs hR hS hL
  obtain ⟨hc, hX⟩ := gd_some hB
  rw [Bool.and_eq_true, decide_eq_true_eq] at hc
  obtain ⟨hn9, hkd⟩ := cn_spec hc.1
  have hK := C.2.2.2.2.2.2.2.2.1
  have hts := C.2.2.2.2.2.2.2.1
  subst hN9
  refine W.anew C.1 C.2.1 C.2.2.2.2.1 (hts _ hl) (va_AO.use C.2.2.2.2.2.2.2.2.1.2.2.2.2.2.2) rfl hd rfl hn (by omega) hk hw fun cA kA comp f1 f2 f3 f4 => ?_
  generalize hH1 : H.push ({ cls := cA, slots := Array.replicate n.toNatClampNeg .null, vm := .none } : Cell) = H1
  have z1 : H1.size = H.size + 1 := by rw [← hH1, Array.size_push]
  have e1 : H1[H.size]? = some (arrV cA n.toNatClampNeg (fun _ => .null)) := by rw [← hH1, Array.getElem?_push_size, ← arrV_new]
  have o1 : ∀ q : Nat, q < H.size → H1[q]? = H[q]? := fun q hq => by rw [← hH1, Array.getElem?_push, if_neg (Nat.ne_of_lt hq)]
  have hcA : cA = gC g 3 := by
    obtain ⟨_, _, _, _, _, h8⟩ := (hK.2.1.2 3 _ rfl).2
    exact Option.some.inj (f1.symm.trans h8)
  have h9 := kk hX p e s m args below meth c C H1 ls locs (hR.new hn9 ?_ z1 o1) (hS.new z1 o1) hL
  · rw [List.map_cons, tv_rf] at h9
    show W _ _ _ _ _ _ _ _ _ _ _ _ _ _ _ (F0 m (pc + 3) ls (.ref (Array.size H) :: st.map (tv g)))
    rw [hR.1, ← hK.1 _ hn9]
    exact h9
  · rw [ce_ent hkd]
    show H1[gz g + hN h]? = some (vp_cell _ _)
    rw [← hR.1, e1, vp_cell_q, hcA, hc.2]
    congr 2
    funext j
    simp [aq, hP, nw, va_rf]
theorem q_alenI {α : Type} {r : Option Nat} {X : Nat → Option α} {o : α} (hB : nn r (fun n => gd (ck h n 9) (X n)) = some o) (hd : decode M.2.1 pc = .ok (.arraylength, 1)) (kk : ∀ n, X n = some o → Wq g l M k w (pc + 1) lv (.int (Int32.ofNat (al n)) :: st) h Q) : Wq g l M k w pc lv (va_rf r :: st) h Q := by
  intro p e s m args below meth c C H ls locs hR hS hL
  obtain ⟨n, rfl, hb⟩ := nn_some hB
  obtain ⟨hc, hX⟩ := gd_some hb
  obtain ⟨hn, hk⟩ := ck_spec hc
  have hK := C.2.2.2.2.2.2.2.2.1
  show W _ _ _ _ _ _ _ _ _ _ _ _ _ _ _ (F0 m pc ls (.ref (ga g n) :: st.map (tv g)))
  rw [hR.ad hK hn]
  exact va_alen C.1 C.2.1 hK.2.1 hR.2.2 n 0 (by rw [wl_get hn, ce_int hk]) rfl (v := Int32.ofNat (al n)) rfl hd (kk n hX p e s m args below meth c C H ls locs hR hS hL)
theorem q_alenA {α : Type} {r : Option Nat} {X : Nat → Option α} {o : α} (hB : nn r (fun n => gd (ck h n 11) (X n)) = some o) (hd : decode M.2.1 pc = .ok (.arraylength, 1)) (kk : ∀ n, X n = some o → Wq g l M k w (pc + 1) lv (.int (Int32.ofNat (al n)) :: st) h Q) : Wq g l M k w pc lv (va_rf r :: st) h Q := by
  intro p e s m args below meth c C H ls locs hR hS hL
  obtain ⟨n, rfl, hb⟩ := nn_some hB
  obtain ⟨hc, hX⟩ := gd_some hb
  obtain ⟨hn, hk⟩ := ck_spec hc
  have hK := C.2.2.2.2.2.2.2.2.1
  show W _ _ _ _ _ _ _ _ _ _ _ _ _ _ _ (F0 m pc ls (.ref (ga g n) :: st.map (tv g)))
  rw [hR.ad hK hn]
  exact va_alen C.1 C.2.1 hK.2.1 hR.2.2 n 2 (by rw [wl_get hn, ce_act hk]) rfl (v := Int32.ofNat (al n)) rfl hd (kk n hX p e s m args below meth c C H ls locs hR hS hL)
theorem q_alenE {α : Type} {r : Option Nat} {X : Nat → Option α} {o : α} (hB : nn r (fun n => gd (ck h n 12) (X n)) = some o) (hd : decode M.2.1 pc = .ok (.arraylength, 1)) (kk : ∀ n, X n = some o → Wq g l M k w (pc + 1) lv (.int (Int32.ofNat (al n)) :: st) h Q) : Wq g l M k w pc lv (va_rf r :: st) h Q := by
  intro p e s m args below meth c C H ls locs hR hS hL
  obtain ⟨n, rfl, hb⟩ := nn_some hB
  obtain ⟨hc, hX⟩ := gd_some hb
  obtain ⟨hn, hk⟩ := ck_spec hc
  have hK := C.2.2.2.2.2.2.2.2.1
  show W _ _ _ _ _ _ _ _ _ _ _ _ _ _ _ (F0 m pc ls (.ref (ga g n) :: st.map (tv g)))
  rw [hR.ad hK hn]
  exact va_alen C.1 C.2.1 hK.2.1 hR.2.2 n 3 (by rw [wl_get hn, ce_ent hk]) rfl (v := Int32.ofNat (al n)) rfl hd (kk n hX p e s m args below meth c C H ls locs hR hS hL)
/-- the bounds of a copy -/
def cb (h : HS) (a b : Nat) (sp dp n : Int32) : Bool := ck h a 9 && ck h b 9 && decide (0 ≤ sp.toInt ∧ 0 ≤ dp.toInt ∧ 0 ≤ n.toInt ∧ sp.toInt + n.toInt ≤ (al a : Int) ∧ dp.toInt + n.toInt ≤ (al b : Int))
theorem i_nn {z : Int32} (h : 0 ≤ z.toInt) : ¬ z < 0 ∧ z.toInt = (z.toNatClampNeg : Int) := by
  refine ⟨fun q => ?_, ?_⟩
  · have h1 := Int32.lt_iff_toInt_lt.mp q
    simp at h1
    omega
  · show z.toInt = ((z.toInt.toNat : Nat) : Int)
    omega
theorem q_copy {α : Type} {ix : Nat} {sp dp n : Int32} {rs rd : Option Nat} {X : Nat → Nat → Option α} {o : α} (hB : nn rs (fun a => nn rd (fun b => gd (cb h a b sp dp n) (X a b))) = some o) (hd : decode M.2.1 pc = .ok (.invokestatic ix, 3)) (hl : Cond.methodLink M.1.cls ix arraycopyName ∈ gtbl) (hna : Cond.native arraycopyName ∈ gtbl) (hst : Cond.static arraycopyName ∈ gtbl) (hin : Cond.initialized "java/lang/System" ∈ gtbl) (hf : 1 ≤ M.2.2.2.2.frames) (hlo : (st.map fun v => v.category).sum + (nativeFrameWords "java/lang/System" "arraycopy" 5 + 11) ≤ M.2.2.2.2.locals) (kk : ∀ a b, X a b = some o → Wq g l M 0 0 (pc + 3) lv st (sR h b (va_cpy (hI h a) (hI h b) sp.toNatClampNeg dp.toNatClampNeg n.toNatClampNeg)) Q) : Wq g l M 0 0 pc lv (.int n :: .int dp :: va_rf rd :: .int sp :: va_rf rs :: st) h Q := by
  intro p e s m args below meth c C H ls locs hR hS hL
  obtain ⟨a, rfl, hb⟩ := nn_some hB
  obtain ⟨b, rfl, hb⟩ := nn_some hb
  obtain ⟨hc, hX⟩ := gd_some hb
  simp only [cb, Bool.and_eq_true, decide_eq_true_eq] at hc
  obtain ⟨⟨hca, hcb⟩, c1, c2, c3, c4, c5⟩ := hc
  obtain ⟨hna9, hka⟩ := ck_spec hca
  obtain ⟨hnb9, hkb⟩ := ck_spec hcb
  obtain ⟨d1, e1⟩ := i_nn c1
  obtain ⟨d2, e2⟩ := i_nn c2
  obtain ⟨d3, e3⟩ := i_nn c3
  have hK := C.2.2.2.2.2.2.2.2.1
  have hts := C.2.2.2.2.2.2.2.1
  show W _ _ _ _ _ _ _ _ _ _ _ _ _ _ _ (F0 m pc ls (.int n :: .int dp :: .ref (ga g b) :: .int sp :: .ref (ga g a) :: st.map (tv g)))
  rw [hR.ad hK hna9, hR.ad hK hnb9]
  have hcat : ((st.map (tv g)).map fun v => v.category).sum = (st.map fun v => v.category).sum := by
    rw [List.map_map]
    congr 1
    exact List.map_congr_left (fun v _ => tv_cat g v)
  intro T0 hT0 X0
  have hz0 := X0.heapSize
  rw [hT0] at hz0
  refine va_copyi C.1 C.2.1 (by rw [C.2.2.1, hL.1]) C.2.2.2.2.1 (hts _ hl) (hts _ hna) (hts _ hst) (hts _ hin) hK.2.1 hR.2.2 (wl_D g h) hS a b 0 0 (by rw [wl_get hna9, ce_int hka]) (by rw [wl_get hnb9, ce_int hkb]) rfl rfl rfl d1 d2 d3 (by omega) (by omega) (fun _ _ => rfl) hf (by rw [hcat]; exact hlo) hd (fun H1 locs1 hP1 _ hS1 => ?_) T0 hT0 X0
  intro T1 hT1 X1
  have hz1 := X1.heapSize
  rw [hT1] at hz1
  have hz : H1.size = H.size := by
    have := hS.1
    have := hS1.1
    omega
  refine kk a b hX p _ s m args below meth c C H1 ls locs1 ⟨by rw [hz]; exact hR.1, hR.2.1, ?_⟩ hS1 hL T1 hT1 X1
  rw [wl_set (h' := sR h b (va_cpy (hI h a) (hI h b) sp.toNatClampNeg dp.toNatClampNeg n.toNatClampNeg)) hnb9 rfl (by rw [ce_int hkb]; simp [hI, sR]) (fun q hq => ce_sR hq)] at hP1
  exact hP1
theorem q_static {C0 nm d : String} {v : Value} {ix : Nat} (hZ : ∀ (s : State), Kst g s s.heap → va_Z C0 nm d (tv g v) (gA g) s s.heap) (hd : decode M.2.1 pc = .ok (.getstatic ix, 3)) (hl : Cond.fieldLink M.1.cls ix C0 nm d ∈ gtbl) (kk : Wq g l M k w (pc + 3) lv (v :: st) h Q) : Wq g l M k w pc lv st h Q := by
  intro p e s m args below meth c C H ls locs hR hS hL
  exact va_gets C.1 C.2.1 (hZ s C.2.2.2.2.2.2.2.2.1) hS C.2.2.2.2.1 (C.2.2.2.2.2.2.2.1 _ hl) (fun _ hx => hx) hd (kk p e s m args below meth c C H ls locs hR hS hL)
theorem z_F {s : State} (i : Nat) (hi : i < 4) (hK : Kst g s s.heap) : va_Z RX4 (["TOWN", "WARE", "AMOUNT", "ALL"].getD i "") "LCrossTable$Field;" (tv g (va_rf (some (1000 + i)))) (gA g) s s.heap := (hK.2.2.1.1.1 i hi).1
theorem z_M {s : State} (i : Nat) (hi : i < 5) (hK : Kst g s s.heap) : va_Z RX5 (["COUNT", "SUM", "MOST", "LEAST", "KINDS"].getD i "") "LCrossTable$Measure;" (tv g (va_rf (some (1010 + i)))) (gA g) s s.heap := (hK.2.2.1.2.1.1 i hi).1
theorem z_O {s : State} (hK : Kst g s s.heap) : va_Z RX9 "ORDERS" "[I" (tv g (va_rf (some 1030))) (gA g) s s.heap := hK.2.2.1.2.2.2.2.1
theorem z_U {s : State} (hK : Kst g s s.heap) : va_Z RX9 "DOING_UNITS" "[J" (tv g (va_rf (some 1031))) (gA g) s s.heap := hK.2.2.1.2.2.2.2.2.2.1
theorem z_C {s : State} (hK : Kst g s s.heap) : va_Z "java/lang/String" "COMPACT_STRINGS" "Z" (tv g (.int 1)) (gA g) s s.heap := hK.2.2.1.2.2.2.2.2.2.2.2.1
theorem z_P {s : State} (hK : Kst g s s.heap) : va_Z "jdk/internal/util/Preconditions" "SIOOBE_FORMATTER" "Ljava/util/function/BiFunction;" (tv g (va_rf (gF g))) (gA g) s s.heap := by rw [tv_rf]; exact hK.2.2.1.2.2.2.2.2.2.2.2.2.2
theorem q_ldcw {ix : Nat} {v : Int32} (hd : decode M.2.1 pc = .ok (.ldc_w ix, 3)) (hl : Cond.constant M.1.cls ix v ∈ gtbl) (kk : Wq g l M k w (pc + 3) lv (.int v :: st) h Q) : Wq g l M k w pc lv st h Q := by
  intro p e s m args below meth c C H ls locs hR hS hL
  exact lv_ldcw C.1 C.2.1 C.2.2.2.2.1 (C.2.2.2.2.2.2.2.1 _ hl) hd (kk p e s m args below meth c C H ls locs hR hS hL)
theorem q_ldO {α : Type} {i : Int32} {X : Option α} {o : α} (hB : gd (inb i 7) X = some o) (hd : decode M.2.1 pc = .ok (.iaload, 1)) (kk : X = some o → Wq g l M k w (pc + 1) lv (.int (ordV i.toNatClampNeg) :: st) h Q) : Wq g l M k w pc lv (.int i :: va_rf (some 1030) :: st) h Q := by
  intro p e s m args below meth c C H ls locs hR hS hL
  obtain ⟨hc, hX⟩ := gd_some hB
  exact va_ti C.1 C.2.1 C.2.2.2.2.2.2.2.2.1.2.2.1.2.2.2.2.2.1 hS (inb_in hc) rfl hd (kk hX p e s m args below meth c C H ls locs hR hS hL)
theorem q_ldU {α : Type} {i : Int32} {X : Option α} {o : α} (hB : gd (inb i 5) X = some o) (hd : decode M.2.1 pc = .ok (.laload, 1)) (kk : X = some o → Wq g l M k w (pc + 1) lv (.long (untV i.toNatClampNeg) :: st) h Q) : Wq g l M k w pc lv (.int i :: va_rf (some 1031) :: st) h Q := by
  intro p e s m args below meth c C H ls locs hR hS hL
  obtain ⟨hc, hX⟩ := gd_some hB
  exact va_tl C.1 C.2.1 C.2.2.2.2.2.2.2.2.1.2.2.1.2.2.2.2.2.2.2.1 hS (inb_in hc) rfl hd (kk hX p e s m args below meth c C H ls locs hR hS hL)
theorem q_lenX (hd : decode M.2.1 pc = .ok (.arraylength, 1)) (kk : Wq g l M k w (pc + 1) lv (.int (Int32.ofNat (gL g)) :: st) h Q) : Wq g l M k w pc lv (va_rf (some 2000) :: st) h Q := by
  intro p e s m args below meth c C H ls locs hR hS hL
  have hK := C.2.2.2.2.2.2.2.2.1
  exact va_slen C.1 C.2.1 hK.2.2.1.2.2.2.2.2.2.2.2.2.1 (Nat.lt_of_lt_of_le hK.2.2.2.1 C.2.2.2.2.2.2.2.2.2) (Nat.not_le.mpr hK.2.2.2.1) hS hd (kk p e s m args below meth c C H ls locs hR hS hL)
theorem q_ldX {α : Type} {i : Int32} {X : Option α} {o : α} (hB : gd (inb i (gL g)) X = some o) (hd : decode M.2.1 pc = .ok (.iaload, 1)) (kk : X = some o → Wq g l M k w (pc + 1) lv (.int (gX g i.toNatClampNeg) :: st) h Q) : Wq g l M k w pc lv (.int i :: va_rf (some 2000) :: st) h Q := by
  intro p e s m args below meth c C H ls locs hR hS hL
  obtain ⟨hc, hX⟩ := gd_some hB
  have hK := C.2.2.2.2.2.2.2.2.1
  exact va_sld C.1 C.2.1 hK.2.2.1.2.2.2.2.2.2.2.2.2.1 (Nat.lt_of_lt_of_le hK.2.2.2.1 C.2.2.2.2.2.2.2.2.2) (Nat.not_le.mpr hK.2.2.2.1) hS (inb_in hc) hd (kk hX p e s m args below meth c C H ls locs hR hS hL)
/-- a name of a constant of Measure, of a word -/
def isM (n : Nat) : Bool := decide (1010 ≤ n ∧ n < 1015)
def isS (n : Nat) : Bool := decide (1020 ≤ n ∧ n < 1025)
def isB (n : Nat) : Bool := decide (1040 ≤ n ∧ n < 1045)
theorem q_getW {α : Type} {ix : Nat} {r : Option Nat} {X : Nat → Option α} {o : α} (hB : nn r (fun n => gd (isM n) (X n)) = some o) (hd : decode M.2.1 pc = .ok (.getfield ix, 3)) (hl : Cond.fieldLink M.1.cls ix RX5 "word" "Ljava/lang/String;" ∈ gtbl) (kk : ∀ n, X n = some o → Wq g l M k w (pc + 3) lv (va_rf (some (n + 10)) :: st) h Q) : Wq g l M k w pc lv (va_rf r :: st) h Q := by
  intro p e s m args below meth c C H ls locs hR hS hL
  obtain ⟨n, rfl, hb⟩ := nn_some hB
  obtain ⟨hc, hX⟩ := gd_some hb
  have hc := of_decide_eq_true hc
  obtain ⟨i, rfl⟩ : ∃ i, n = 1010 + i := ⟨n - 1010, by omega⟩
  have hK := C.2.2.2.2.2.2.2.2.1
  have hE := hK.2.2.1.2.2.1 i (by omega)
  have h9 := kk _ hX p e s m args below meth c C H ls locs hR hS hL
  rw [show 1010 + i + 10 = 1020 + i by omega] at h9
  exact vk_getf C.1 C.2.1 hE hS C.2.2.2.2.1 (C.2.2.2.2.2.2.2.1 _ hl) (fun _ hx => hx) hd h9
theorem q_getSc {α : Type} {ix : Nat} {r : Option Nat} {X : Nat → Option α} {o : α} (hB : nn r (fun n => gd (isS n) (X n)) = some o) (hd : decode M.2.1 pc = .ok (.getfield ix, 3)) (hl : Cond.fieldLink M.1.cls ix "java/lang/String" "coder" "B" ∈ gtbl) (kk : ∀ n, X n = some o → Wq g l M k w (pc + 3) lv (.int 0 :: st) h Q) : Wq g l M k w pc lv (va_rf r :: st) h Q := by
  intro p e s m args below meth c C H ls locs hR hS hL
  obtain ⟨n, rfl, hb⟩ := nn_some hB
  obtain ⟨hc, hX⟩ := gd_some hb
  have hc := of_decide_eq_true hc
  obtain ⟨i, rfl⟩ : ∃ i, n = 1020 + i := ⟨n - 1020, by omega⟩
  have hK := C.2.2.2.2.2.2.2.2.1
  have hE := (hK.2.2.1.2.2.2.1.1 i (by omega)).2.1
  exact vk_getf C.1 C.2.1 hE hS C.2.2.2.2.1 (C.2.2.2.2.2.2.2.1 _ hl) (fun _ hx => hx) hd (kk _ hX p e s m args below meth c C H ls locs hR hS hL)
theorem q_getSv {α : Type} {ix : Nat} {r : Option Nat} {X : Nat → Option α} {o : α} (hB : nn r (fun n => gd (isS n) (X n)) = some o) (hd : decode M.2.1 pc = .ok (.getfield ix, 3)) (hl : Cond.fieldLink M.1.cls ix "java/lang/String" "value" "[B" ∈ gtbl) (kk : ∀ n, X n = some o → Wq g l M k w (pc + 3) lv (va_rf (some (n + 20)) :: st) h Q) : Wq g l M k w pc lv (va_rf r :: st) h Q := by
  intro p e s m args below meth c C H ls locs hR hS hL
  obtain ⟨n, rfl, hb⟩ := nn_some hB
  obtain ⟨hc, hX⟩ := gd_some hb
  have hc := of_decide_eq_true hc
  obtain ⟨i, rfl⟩ : ∃ i, n = 1020 + i := ⟨n - 1020, by omega⟩
  have hK := C.2.2.2.2.2.2.2.2.1
  have hE := (hK.2.2.1.2.2.2.1.1 i (by omega)).2.2.1
  have h9 := kk _ hX p e s m args below meth c C H ls locs hR hS hL
  rw [show 1020 + i + 20 = 1040 + i by omega] at h9
  exact vk_getf C.1 C.2.1 hE hS C.2.2.2.2.1 (C.2.2.2.2.2.2.2.1 _ hl) (fun _ hx => hx) hd h9
/-- the bytes of a word, by the byte array's name -/
def byV (n j : Nat) : Int32 := (wByt.getD (n - 1040) []).getD j 0
def byL (n : Nat) : Nat := wLen.getD (n - 1040) 0
theorem q_bald {α : Type} {i : Int32} {r : Option Nat} {X : Nat → Option α} {o : α} (hB : nn r (fun n => gd (isB n && inb i (byL n)) (X n)) = some o) (hd : decode M.2.1 pc = .ok (.baload, 1)) (kk : ∀ n, X n = some o → Wq g l M k w (pc + 1) lv (.int (byV n i.toNatClampNeg) :: st) h Q) : Wq g l M k w pc lv (.int i :: va_rf r :: st) h Q := by
  intro p e s m args below meth c C H ls locs hR hS hL
  obtain ⟨n, rfl, hb⟩ := nn_some hB
  obtain ⟨hc, hX⟩ := gd_some hb
  rw [Bool.and_eq_true] at hc
  have hc1 := of_decide_eq_true hc.1
  obtain ⟨i9, rfl⟩ : ∃ i, n = 1040 + i := ⟨n - 1040, by omega⟩
  have hK := C.2.2.2.2.2.2.2.2.1
  have hT := (hK.2.2.1.2.2.2.1.1 i9 (by omega)).2.2.2
  have hin := inb_in hc.2
  rw [byL, show 1040 + i9 - 1040 = i9 by omega] at hin
  have h9 := kk _ hX p e s m args below meth c C H ls locs hR hS hL
  rw [byV, show 1040 + i9 - 1040 = i9 by omega] at h9
  exact va_tb C.1 C.2.1 hT hS hin rfl hd h9
theorem q_alenB {α : Type} {r : Option Nat} {X : Nat → Option α} {o : α} (hB : nn r (fun n => gd (isB n) (X n)) = some o) (hd : decode M.2.1 pc = .ok (.arraylength, 1)) (kk : ∀ n, X n = some o → Wq g l M k w (pc + 1) lv (.int (Int32.ofNat (byL n)) :: st) h Q) : Wq g l M k w pc lv (va_rf r :: st) h Q := by
  intro p e s m args below meth c C H ls locs hR hS hL
  obtain ⟨n, rfl, hb⟩ := nn_some hB
  obtain ⟨hc, hX⟩ := gd_some hb
  have hc1 := of_decide_eq_true hc
  obtain ⟨i9, rfl⟩ : ∃ i, n = 1040 + i := ⟨n - 1040, by omega⟩
  have hK := C.2.2.2.2.2.2.2.2.1
  have hT := (hK.2.2.1.2.2.2.1.1 i9 (by omega)).2.2.2
  have h9 := kk _ hX p e s m args below meth c C H ls locs hR hS hL
  rw [byL, show 1040 + i9 - 1040 = i9 by omega] at h9
  exact va_tlen C.1 C.2.1 hT hS rfl hd h9
/-- one of the constants of Field, of Measure, or null -/
def en1 (r : Option Nat) : Bool := match r with
  | none => true
  | some n => decide (1000 ≤ n ∧ n < 1004)
def en2 (r : Option Nat) : Bool := match r with
  | none => true
  | some n => decide (1010 ≤ n ∧ n < 1015)
theorem en_inj {g : GG} {s : State} (hK : Kst g s s.heap) {a b : Option Nat} (hh : (en1 a && en1 b || en2 a && en2 b) = true) (e : a.map (ga g) = b.map (ga g)) : a = b := by
  cases a with
  | none => cases b with
    | none => rfl
    | some y => simp at e
  | some x => cases b with
    | none => simp at e
    | some y =>
      have e9 : ga g x = ga g y := by simpa using e
      simp only [en1, en2, Bool.or_eq_true, Bool.and_eq_true, decide_eq_true_eq] at hh
      rcases hh with ⟨h1, h2⟩ | ⟨h1, h2⟩
      · have := hK.2.2.1.1.2 (x - 1000) (y - 1000) (by show _ < 4; omega) (by show _ < 4; omega) (by show ga g (1000 + (x - 1000)) = ga g (1000 + (y - 1000)); rw [show 1000 + (x - 1000) = x by omega, show 1000 + (y - 1000) = y by omega]; exact e9)
        have hxy : x = y := by omega
        rw [hxy]
      · have := hK.2.2.1.2.1.2 (x - 1010) (y - 1010) (by show _ < 5; omega) (by show _ < 5; omega) (by show ga g (1010 + (x - 1010)) = ga g (1010 + (y - 1010)); rw [show 1010 + (x - 1010) = x by omega, show 1010 + (y - 1010) = y by omega]; exact e9)
        have hxy : x = y := by omega
        rw [hxy]
theorem q_acmp_ne {α : Type} {a b : Option Nat} {off : Int} {tgt : Nat} {A B : Option α} {o : α} (hB : gd (en1 a && en1 b || en2 a && en2 b) (if a = b then B else A) = some o) (hd : decode M.2.1 pc = .ok (.if_acmp .ne off, 3)) (ht : (pc : Int) + off = (tgt : Int)) (kt : A = some o → Wq g l M k w tgt lv st h Q) (kf : B = some o → Wq g l M k w (pc + 3) lv st h Q) : Wq g l M k w pc lv (va_rf b :: va_rf a :: st) h Q := by
  intro p e s m args below meth c C H ls locs hR hS hL
  obtain ⟨hc, hX⟩ := gd_some hB
  have hK := C.2.2.2.2.2.2.2.2.1
  show W _ _ _ _ _ _ _ _ _ _ _ _ _ _ _ (F0 m pc ls (tv g (va_rf b) :: tv g (va_rf a) :: st.map (tv g)))
  rw [tv_rf, tv_rf]
  refine lv_acmp_ne C.1 C.2.1 hd ht (fun cc => kt ?_ p e s m args below meth c C H ls locs hR hS hL) (fun cc => kf ?_ p e s m args below meth c C H ls locs hR hS hL)
  · rw [if_neg (fun q => cc (by rw [q]))] at hX
    exact hX
  · rw [if_pos (en_inj hK hc cc)] at hX
    exact hX
theorem q_acmp_eq {α : Type} {a b : Option Nat} {off : Int} {tgt : Nat} {A B : Option α} {o : α} (hB : gd (en1 a && en1 b || en2 a && en2 b) (if a = b then A else B) = some o) (hd : decode M.2.1 pc = .ok (.if_acmp .eq off, 3)) (ht : (pc : Int) + off = (tgt : Int)) (kt : A = some o → Wq g l M k w tgt lv st h Q) (kf : B = some o → Wq g l M k w (pc + 3) lv st h Q) : Wq g l M k w pc lv (va_rf b :: va_rf a :: st) h Q := by
  intro p e s m args below meth c C H ls locs hR hS hL
  obtain ⟨hc, hX⟩ := gd_some hB
  have hK := C.2.2.2.2.2.2.2.2.1
  show W _ _ _ _ _ _ _ _ _ _ _ _ _ _ _ (F0 m pc ls (tv g (va_rf b) :: tv g (va_rf a) :: st.map (tv g)))
  rw [tv_rf, tv_rf]
  refine lv_acmp_eq C.1 C.2.1 hd ht (fun cc => kt ?_ p e s m args below meth c C H ls locs hR hS hL) (fun cc => kf ?_ p e s m args below meth c C H ls locs hR hS hL)
  · rw [if_pos (en_inj hK hc cc)] at hX
    exact hX
  · rw [if_neg (fun q => cc (by rw [q]))] at hX
    exact hX
theorem q_ifnull {α : Type} {r : Option Nat} {off : Int} {tgt : Nat} {A B : Option α} {o : α} (hB : (if r = none then A else B) = some o) (hd : decode M.2.1 pc = .ok (.ifnull off, 3)) (ht : (pc : Int) + off = (tgt : Int)) (kt : A = some o → Wq g l M k w tgt lv st h Q) (kf : B = some o → Wq g l M k w (pc + 3) lv st h Q) : Wq g l M k w pc lv (va_rf r :: st) h Q := by
  intro p e s m args below meth c C H ls locs hR hS hL
  cases r with
  | none => exact lv_ifnullN C.1 C.2.1 hd ht (kt (by simpa using hB) p e s m args below meth c C H ls locs hR hS hL)
  | some n => exact lv_ifnull C.1 C.2.1 hd (kf (by simpa using hB) p e s m args below meth c C H ls locs hR hS hL)
theorem q_ifnonnull {α : Type} {r : Option Nat} {off : Int} {tgt : Nat} {A B : Option α} {o : α} (hB : (if r = none then B else A) = some o) (hd : decode M.2.1 pc = .ok (.ifnonnull off, 3)) (ht : (pc : Int) + off = (tgt : Int)) (kt : A = some o → Wq g l M k w tgt lv st h Q) (kf : B = some o → Wq g l M k w (pc + 3) lv st h Q) : Wq g l M k w pc lv (va_rf r :: st) h Q := by
  intro p e s m args below meth c C H ls locs hR hS hL
  cases r with
  | none => exact lv_ifnonnullN C.1 C.2.1 hd (kf (by simpa using hB) p e s m args below meth c C H ls locs hR hS hL)
  | some n => exact lv_ifnonnull C.1 C.2.1 hd ht (kt (by simpa using hB) p e s m args below meth c C H ls locs hR hS hL)
theorem q_ldc {ix : Nat} {v : Int32} (hd : decode M.2.1 pc = .ok (.ldc ix, 2)) (hl : Cond.constant M.1.cls ix v ∈ gtbl) (kk : Wq g l M k w (pc + 2) lv (.int v :: st) h Q) : Wq g l M k w pc lv st h Q := by
  intro p e s m args below meth c C H ls locs hR hS hL
  exact lv_ldc C.1 C.2.1 C.2.2.2.2.1 (C.2.2.2.2.2.2.2.1 _ hl) hd (kk p e s m args below meth c C H ls locs hR hS hL)
theorem q_ldc2 {ix : Nat} {v : Int64} (hd : decode M.2.1 pc = .ok (.ldc2_w ix, 3)) (hl : Cond.constantLong M.1.cls ix v ∈ gtbl) (kk : Wq g l M k w (pc + 3) lv (.long v :: st) h Q) : Wq g l M k w pc lv st h Q := by
  intro p e s m args below meth c C H ls locs hR hS hL
  exact lv_ldc2 C.1 C.2.1 C.2.2.2.2.1 (C.2.2.2.2.2.2.2.1 _ hl) hd (kk p e s m args below meth c C H ls locs hR hS hL)
end RN
