/-! ROWS: the constants, the context, the judgement Wq over the abstract heap, a row an instruction -/
def wLen : List Nat := [5, 3, 4, 5, 5]
def wByt : List (List Int32) := [[99, 111, 117, 110, 116], [115, 117, 109], [109, 111, 115, 116], [108, 101, 97, 115, 116], [107, 105, 110, 100, 115]]
def ordV (j : Nat) : Int32 := [1, 1, 2, 6, 24, 120, 720].getD j 0
def untV (j : Nat) : Int64 := [1, 10000, 100000000, 1000000000000, 10000000000000000].getD j 0
def tyL (g : GG) : List (ClassId × FieldType) := [(gC g 0, .int), (gC g 1, .boolean), (gC g 2, .object RX0), (gC g 3, .object RX3)]
def nestW : List Cond := [.methodLinkNest RX9 9 yX7_init RX9, .methodLinkNest RX9 18 yX6_init RX9, .methodLinkNest RX9 28 yX3_init RX9, .methodLinkNest RX1 21 yX0_init RX9, .methodLinkNest RX9 45 yX2_init RX9, .methodLinkNest RX9 55 yX8_init RX9]
def gtbl : List Cond := lw_tbl.filter goodWord
theorem gtbl_of {w : Cond} (i : Nat) (h : lw_tbl[i]? = some w) (hg : goodWord w = true) : w ∈ gtbl := List.mem_filter.mpr ⟨List.mem_of_getElem? h, hg⟩
theorem gtbl_good {w : Cond} (h : w ∈ gtbl) : goodWord w = true := (List.mem_filter.mp h).2
def Kc (g : GG) (U : State) (H : Heap) : Prop :=
  va_En RX4 "LCrossTable$Field;" ["TOWN", "WARE", "AMOUNT", "ALL"] [] (fun i => ga g (1000 + i)) (gA g) U H ∧
  va_En RX5 "LCrossTable$Measure;" ["COUNT", "SUM", "MOST", "LEAST", "KINDS"] [] (fun i => ga g (1010 + i)) (gA g) U H ∧
  va_Ef 5 RX5 "word" "Ljava/lang/String;" (fun i => .ref (ga g (1020 + i))) (fun i => ga g (1010 + i)) (gA g) U H ∧
  vk_S 5 wLen wByt (fun i => ga g (1020 + i)) (fun i => ga g (1040 + i)) (gA g) U H ∧
  va_Z RX9 "ORDERS" "[I" (.ref (ga g 1030)) (gA g) U H ∧ va_T .int (ga g 1030) 7 (fun j => .int (ordV j)) (gA g) U H ∧
  va_Z RX9 "DOING_UNITS" "[J" (.ref (ga g 1031)) (gA g) U H ∧ va_T .long (ga g 1031) 5 (fun j => .long (untV j)) (gA g) U H ∧
  va_Z "java/lang/String" "COMPACT_STRINGS" "Z" (.int 1) (gA g) U H ∧ va_X (ga g 2000) (gL g) (gX g) U H ∧ va_Z "jdk/internal/util/Preconditions" "SIOOBE_FORMATTER" "Ljava/util/function/BiFunction;" (va_rf ((gF g).map (ga g))) (gA g) U H
def Kst (g : GG) (U : State) (H : Heap) : Prop := (∀ n, n < 1000 → ga g n = gz g + n) ∧ va_K (gD g) vwCl (tyL g) U ∧ Kc g U H ∧ ga g 2000 < gz g ∧ (∀ w ∈ nestW, va_Nw w U) ∧ va_AO RX0 U ∧ va_AO RX3 U
theorem Kc.moved {g : GG} {u U : State} {H : Heap} (hvm : u.vm.Alike U.vm) (h : Kc g u H) : Kc g U H := by
  obtain ⟨a1, a2, a3, a4, a5, a6, a7, a8, a9, a10, a11⟩ := h
  exact ⟨a1.moved hvm, a2.moved hvm, a3.moved hvm, a4.moved hvm, a5.moved hvm, a6.moved hvm, a7.moved hvm, a8.moved hvm, a9.moved hvm, a10.moved hvm, a11.moved hvm⟩
theorem Kc.kept {g : GG} {U : State} {H H1 : Heap} (hb : ga g 2000 < gz g) (h : Kc g U H) (hq : ∀ a : Nat, a < H.size → ¬ gA g a → H1[a]? = H[a]?) : Kc g U H1 := by
  obtain ⟨a1, a2, a3, a4, a5, a6, a7, a8, a9, a10, a11⟩ := h
  refine ⟨a1.kept hq, a2.kept hq, a3.kept hq, a4.kept hq, a5.kept hq, a6.kept hq, a7.kept hq, a8.kept hq, a9.kept hq, a10.kept (hq _ ?_ (Nat.not_le.mpr hb)), a11.kept hq⟩
  obtain ⟨scr, h1, -⟩ := a10
  exact (Array.getElem?_eq_some_iff.mp h1).1
theorem nest_warm {s U : State} (hW : s.WarmedH U.vm) : ∀ w ∈ nestW, va_Nw w s → va_Nw w U := by
  intro w hw hn
  simp only [nestW, List.mem_cons, List.not_mem_nil, or_false] at hw
  rcases hw with rfl | rfl | rfl | rfl | rfl | rfl <;> exact va_Nw.warmM hW hn
theorem Kst.to {g : GG} {s U : State} {H : Heap} {locs : List Loc} (h : Kst g s s.heap) (hS : va_S (gA g) s.heap H locs) (hW : s.WarmedH U.vm) (hU : U.heap = H) : Kst g U U.heap := by
  obtain ⟨a1, a2, a3, a4, a5, a6, a7⟩ := h
  rw [hU]
  exact ⟨a1, a2.moved hW.alike, (a3.kept a4 hS.2.1).moved hW.alike, a4, fun w hw => nest_warm hW w hw (a5 w hw), a6.moved hW.alike, a7.moved hW.alike⟩
theorem Kst.same {g : GG} {u U : State} {H : Heap} (h : Kst g u H) (hv : U.vm = u.vm) : Kst g U H := by
  obtain ⟨a1, a2, a3, a4, a5, a6, a7⟩ := h
  have hvm : u.vm.Alike U.vm := by rw [hv]; exact Vm.Alike.refl _
  have hn : ∀ w ∈ nestW, va_Nw w U := by
    intro w hw
    have h1 := a5 w hw
    simp only [nestW, List.mem_cons, List.not_mem_nil, or_false] at hw
    rcases hw with rfl | rfl | rfl | rfl | rfl | rfl <;> exact va_Nw.same rfl hv.symm h1
  exact ⟨a1, a2.moved hvm, a3.moved hvm, a4, hn, a6.moved hvm, a7.moved hvm⟩
/-- a method: its name, code, locals, what it returns, its room -/
abbrev MD : Type := MethodName × ByteArray × Nat × Option FieldType × Room
def CX (g : GG) (M : MD) (p : Program) (s : State) (m : MethodId) (args : Array Value) (meth : Method) (c : Code) : Prop :=
  p.tables.exec = Jvm.exec ∧ c.code = M.2.1 ∧ c.maxLocals = M.2.2.1 ∧ meth.sig.returnType = M.2.2.2.1 ∧ s.vm.findClass M.1.cls = some m.cls ∧ meth.locks = false ∧ meth.name = M.1.name ∧ (∀ w ∈ gtbl, w.before args s = true) ∧ Kst g s s.heap ∧ gz g ≤ s.heap.size
def QQ (g : GG) (Q : Option Value → HS → Prop) : Array Value → State → Outcome → State → Prop := fun _ st oc t => (∃ (v : Option Value) (u : HS), oc = .returned (v.map (tv g)) ∧ Q v u ∧ Rl g u t.heap) ∧ va_F (gA g) st t
def Wq (g : GG) (l : Launch) (M : MD) (k w pc : Nat) (lv : List (Option Value)) (st : List Value) (h : HS) (Q : Option Value → HS → Prop) : Prop :=
  ∀ (p : Program) (e : Env) (s : State) (m : MethodId) (args : Array Value) (below : List Frame) (meth : Method) (c : Code), CX g M p s m args meth c → ∀ (H : Heap) (ls : Array Slot) (locs : List Loc), Rl g h H → va_S (gA g) s.heap H locs → LV g ls M.2.2.1 lv → W p l e M.2.2.2.2 s m args below meth c H locs k w (MQ below (QQ g Q) args s M.2.2.2.2.cells M.2.2.2.2.slots (gA g)) (F0 m pc ls (st.map (tv g)))
def Pq (g : GG) (args : List Value) (h : HS) : Array Value → State → Prop := va_Pc (args.map (tv g)) (fun U => Rl g h U.heap ∧ Kst g U U.heap ∧ gz g ≤ U.heap.size)
/-- a method's contract at these arguments and this heap -/
def Ct (g : GG) (l : Launch) (M : MD) (args : List Value) (h : HS) (Q : Option Value → HS → Prop) : Prop := Met l M.1 (.code M.1 M.2.1 M.2.2.1 M.2.2.2.1 :: gtbl) M.2.2.2.2 (Pq g args h) (QQ g Q) M.2.2.2.2.cells M.2.2.2.2.slots (gA g)
/-! the words of f: a guard, a reference that isn't null, what another method answers -/
def gd {α : Type} (b : Bool) (x : Option α) : Option α := match b with
  | true => x
  | false => none
def nn {α : Type} (r : Option Nat) (k : Nat → Option α) : Option α := match r with
  | none => none
  | some n => k n
def bd {α β : Type} (x : Option α) (k : α → Option β) : Option β := match x with
  | none => none
  | some a => k a
theorem gd_some {α : Type} {b : Bool} {x : Option α} {o : α} (h : gd b x = some o) : b = true ∧ x = some o := by
  cases b with
  | true => exact ⟨rfl, h⟩
  | false => cases h
theorem nn_some {α : Type} {r : Option Nat} {k : Nat → Option α} {o : α} (h : nn r k = some o) : ∃ n, r = some n ∧ k n = some o := by
  cases r with
  | none => cases h
  | some n => exact ⟨n, rfl, h⟩
theorem bd_some {α β : Type} {x : Option α} {k : α → Option β} {o : β} (h : bd x k = some o) : ∃ a, x = some a ∧ k a = some o := by
  cases x with
  | none => cases h
  | some a => exact ⟨a, rfl, h⟩
def inb (i : Int32) (n : Nat) : Bool := decide (0 ≤ i.toInt ∧ i.toInt < (n : Int))
/-- a name is there and of that kind -/
def ck (h : HS) (n ci : Nat) : Bool := decide (n < hN h) && kd n == ci
/-- an array's name, and an index within -/
def ca (h : HS) (n ci : Nat) (i : Int32) : Bool := ck h n ci && inb i (al n)
theorem inb_in {i : Int32} {n : Nat} (h : inb i n = true) : vp_in i n := vp_in_iff.mpr (of_decide_eq_true h)
theorem ck_spec {h : HS} {n ci : Nat} (hc : ck h n ci = true) : n < hN h ∧ kd n = ci := by
  simp only [ck, Bool.and_eq_true, decide_eq_true_eq, beq_iff_eq] at hc
  exact hc
theorem ca_spec {h : HS} {n ci : Nat} {i : Int32} (hc : ca h n ci i = true) : n < hN h ∧ kd n = ci ∧ vp_in i (al n) := by
  simp only [ca, Bool.and_eq_true] at hc
  exact ⟨(ck_spec hc.1).1, (ck_spec hc.1).2, inb_in hc.2⟩
theorem Rl.ad {g : GG} {h : HS} {H : Heap} {s : State} (hR : Rl g h H) (hK : Kst g s s.heap) {n : Nat} (hn : n < hN h) : ga g n = gz g + n := hK.1 n (Nat.lt_of_lt_of_le hn hR.2.1)
section RW
variable {g : GG} {l : Launch} {M : MD} {k w pc : Nat} {lv : List (Option Value)} {st : List Value} {h : HS} {Q : Option Value → HS → Prop}
theorem Wq.mask (ms : List Bool) {lv' : List (Option Value)} (he : lmask lv ms = lv') (kk : Wq g l M k w pc lv' st h Q) : Wq g l M k w pc lv st h Q := by
  intro p e s m args below meth c C H ls locs hR hS hL
  subst he
  exact kk p e s m args below meth c C H ls locs hR hS (hL.mask ms)
theorem Wq.at {pc' : Nat} (he : pc' = pc) (kk : Wq g l M k w pc' lv st h Q) : Wq g l M k w pc lv st h Q := he ▸ kk

theorem q_iconst {n : Int} {v : Int32} (hd : decode M.2.1 pc = .ok (.iconst n, 1)) (hv : Int32.ofInt n = v) (kk : Wq g l M k w (pc + 1) lv (.int v :: st) h Q) : Wq g l M k w pc lv (st) h Q := by
  intro p e s m args below meth c C H ls locs hR hS hL
  exact lv_iconst C.1 C.2.1 hd hv (kk p e s m args below meth c C H ls locs hR hS hL)
theorem q_bipush {n : Int} {v : Int32} (hd : decode M.2.1 pc = .ok (.bipush n, 2)) (hv : (Int8.ofInt n).toInt32 = v) (kk : Wq g l M k w (pc + 2) lv (.int v :: st) h Q) : Wq g l M k w pc lv (st) h Q := by
  intro p e s m args below meth c C H ls locs hR hS hL
  exact lv_bipush C.1 C.2.1 hd hv (kk p e s m args below meth c C H ls locs hR hS hL)
theorem q_sipush {n : Int} {v : Int32} (hd : decode M.2.1 pc = .ok (.sipush n, 3)) (hv : (Int16.ofInt n).toInt32 = v) (kk : Wq g l M k w (pc + 3) lv (.int v :: st) h Q) : Wq g l M k w pc lv (st) h Q := by
  intro p e s m args below meth c C H ls locs hR hS hL
  exact lv_sipush C.1 C.2.1 hd hv (kk p e s m args below meth c C H ls locs hR hS hL)
theorem q_lconst {n : Fin 2} {v : Int64} (hd : decode M.2.1 pc = .ok (.lconst n, 1)) (hv : Int64.ofNat (n : Nat) = v) (kk : Wq g l M k w (pc + 1) lv (.long v :: st) h Q) : Wq g l M k w pc lv (st) h Q := by
  intro p e s m args below meth c C H ls locs hR hS hL
  exact lv_lconst C.1 C.2.1 hd hv (kk p e s m args below meth c C H ls locs hR hS hL)
theorem q_null (hd : decode M.2.1 pc = .ok (.aconst_null, 1)) (kk : Wq g l M k w (pc + 1) lv (va_rf none :: st) h Q) : Wq g l M k w pc lv (st) h Q := by
  intro p e s m args below meth c C H ls locs hR hS hL
  exact lv_null C.1 C.2.1 hd (kk p e s m args below meth c C H ls locs hR hS hL)
theorem q_iload_n {j : Fin 4} {i : Nat} {x : Int32} (hd : decode M.2.1 pc = .ok (.iload_n j, 1)) (hi : (j : Nat) = i) (hv : lv[i]? = some (some (.int x))) (kk : Wq g l M k w (pc + 1) lv (.int x :: st) h Q) : Wq g l M k w pc lv (st) h Q := by
  intro p e s m args below meth c C H ls locs hR hS hL
  exact lv_iload_n C.1 C.2.1 hd hi (hL.2.2 _ _ hv) (kk p e s m args below meth c C H ls locs hR hS hL)
theorem q_iload {i : Nat} {x : Int32} (hd : decode M.2.1 pc = .ok (.iload i, 2)) (hv : lv[i]? = some (some (.int x))) (kk : Wq g l M k w (pc + 2) lv (.int x :: st) h Q) : Wq g l M k w pc lv (st) h Q := by
  intro p e s m args below meth c C H ls locs hR hS hL
  exact lv_iload C.1 C.2.1 hd (hL.2.2 _ _ hv) (kk p e s m args below meth c C H ls locs hR hS hL)
theorem q_lload_n {j : Fin 4} {i : Nat} {x : Int64} (hd : decode M.2.1 pc = .ok (.lload_n j, 1)) (hi : (j : Nat) = i) (hv : lv[i]? = some (some (.long x))) (kk : Wq g l M k w (pc + 1) lv (.long x :: st) h Q) : Wq g l M k w pc lv (st) h Q := by
  intro p e s m args below meth c C H ls locs hR hS hL
  exact lv_lload_n C.1 C.2.1 hd hi (hL.2.2 _ _ hv) (kk p e s m args below meth c C H ls locs hR hS hL)
theorem q_lload {i : Nat} {x : Int64} (hd : decode M.2.1 pc = .ok (.lload i, 2)) (hv : lv[i]? = some (some (.long x))) (kk : Wq g l M k w (pc + 2) lv (.long x :: st) h Q) : Wq g l M k w pc lv (st) h Q := by
  intro p e s m args below meth c C H ls locs hR hS hL
  exact lv_lload C.1 C.2.1 hd (hL.2.2 _ _ hv) (kk p e s m args below meth c C H ls locs hR hS hL)
theorem q_aload_n {j : Fin 4} {i : Nat} {r : Option Nat} (hd : decode M.2.1 pc = .ok (.aload_n j, 1)) (hi : (j : Nat) = i) (hv : lv[i]? = some (some (va_rf r))) (kk : Wq g l M k w (pc + 1) lv (va_rf r :: st) h Q) : Wq g l M k w pc lv st h Q := by
  intro p e s m args below meth c C H ls locs hR hS hL
  have hl := hL.2.2 _ _ hv
  cases r with
  | none => exact lv_aload_nN C.1 C.2.1 hd hi hl (kk p e s m args below meth c C H ls locs hR hS hL)
  | some n => exact lv_aload_n C.1 C.2.1 hd hi hl (kk p e s m args below meth c C H ls locs hR hS hL)
theorem q_aload {i : Nat} {r : Option Nat} (hd : decode M.2.1 pc = .ok (.aload i, 2)) (hv : lv[i]? = some (some (va_rf r))) (kk : Wq g l M k w (pc + 2) lv (va_rf r :: st) h Q) : Wq g l M k w pc lv st h Q := by
  intro p e s m args below meth c C H ls locs hR hS hL
  have hl := hL.2.2 _ _ hv
  cases r with
  | none => exact lv_aloadN C.1 C.2.1 hd hl (kk p e s m args below meth c C H ls locs hR hS hL)
  | some n => exact lv_aload C.1 C.2.1 hd hl (kk p e s m args below meth c C H ls locs hR hS hL)
theorem q_istore_n {j : Fin 4} {i : Nat} {x : Int32} (hd : decode M.2.1 pc = .ok (.istore_n j, 1)) (hi : (j : Nat) = i) (hn : i < M.2.2.1) (hnb : nbk lv i) (kk : Wq g l M k w (pc + 1) (setL lv i (.int x)) st h Q) : Wq g l M k w pc lv (.int x :: st) h Q := by
  intro p e s m args below meth c C H ls locs hR hS hL
  exact lv_istore_n C.1 C.2.1 hd hi hL.has hn rfl (fun ls2 hl2 => kk p e s m args below meth c C H ls2 locs hR hS (LV.set1 hnb rfl hl2))
theorem q_istore {i : Nat} {x : Int32} (hd : decode M.2.1 pc = .ok (.istore i, 2)) (hn : i < M.2.2.1) (hnb : nbk lv i) (kk : Wq g l M k w (pc + 2) (setL lv i (.int x)) st h Q) : Wq g l M k w pc lv (.int x :: st) h Q := by
  intro p e s m args below meth c C H ls locs hR hS hL
  exact lv_istore C.1 C.2.1 hd hL.has hn rfl (fun ls2 hl2 => kk p e s m args below meth c C H ls2 locs hR hS (LV.set1 hnb rfl hl2))
theorem q_lstore_n {j : Fin 4} {i : Nat} {x : Int64} (hd : decode M.2.1 pc = .ok (.lstore_n j, 1)) (hi : (j : Nat) = i) (hn : i + 1 < M.2.2.1) (hnb : nbk lv i) (kk : Wq g l M k w (pc + 1) (setJ lv i (.long x)) st h Q) : Wq g l M k w pc lv (.long x :: st) h Q := by
  intro p e s m args below meth c C H ls locs hR hS hL
  exact lv_lstore_n C.1 C.2.1 hd hi hL.has hn rfl (fun ls2 hl2 => kk p e s m args below meth c C H ls2 locs hR hS (LV.set2 hnb rfl hl2))
theorem q_lstore {i : Nat} {x : Int64} (hd : decode M.2.1 pc = .ok (.lstore i, 2)) (hn : i + 1 < M.2.2.1) (hnb : nbk lv i) (kk : Wq g l M k w (pc + 2) (setJ lv i (.long x)) st h Q) : Wq g l M k w pc lv (.long x :: st) h Q := by
  intro p e s m args below meth c C H ls locs hR hS hL
  exact lv_lstore C.1 C.2.1 hd hL.has hn rfl (fun ls2 hl2 => kk p e s m args below meth c C H ls2 locs hR hS (LV.set2 hnb rfl hl2))
theorem q_astore_n {j : Fin 4} {i : Nat} {r : Option Nat} (hd : decode M.2.1 pc = .ok (.astore_n j, 1)) (hi : (j : Nat) = i) (hn : i < M.2.2.1) (hnb : nbk lv i) (kk : Wq g l M k w (pc + 1) (setL lv i (va_rf r)) st h Q) : Wq g l M k w pc lv (va_rf r :: st) h Q := by
  intro p e s m args below meth c C H ls locs hR hS hL
  cases r with
  | none => exact lv_astore_nN C.1 C.2.1 hd hi hL.has hn rfl (fun ls2 hl2 => kk p e s m args below meth c C H ls2 locs hR hS (LV.set1 (v := va_rf none) hnb rfl hl2))
  | some n => exact lv_astore_n C.1 C.2.1 hd hi hL.has hn rfl (fun ls2 hl2 => kk p e s m args below meth c C H ls2 locs hR hS (LV.set1 (v := va_rf (some n)) hnb rfl hl2))
theorem q_astore {i : Nat} {r : Option Nat} (hd : decode M.2.1 pc = .ok (.astore i, 2)) (hn : i < M.2.2.1) (hnb : nbk lv i) (kk : Wq g l M k w (pc + 2) (setL lv i (va_rf r)) st h Q) : Wq g l M k w pc lv (va_rf r :: st) h Q := by
  intro p e s m args below meth c C H ls locs hR hS hL
  cases r with
  | none => exact lv_astoreN C.1 C.2.1 hd hL.has hn rfl (fun ls2 hl2 => kk p e s m args below meth c C H ls2 locs hR hS (LV.set1 (v := va_rf none) hnb rfl hl2))
  | some n => exact lv_astore C.1 C.2.1 hd hL.has hn rfl (fun ls2 hl2 => kk p e s m args below meth c C H ls2 locs hR hS (LV.set1 (v := va_rf (some n)) hnb rfl hl2))
theorem q_iinc {i : Nat} {n : Int} {x v : Int32} (hd : decode M.2.1 pc = .ok (.iinc i n, 3)) (hv : lv[i]? = some (some (.int x))) (he : x + Int32.ofInt n = v) (hn : i < M.2.2.1) (hnb : nbk lv i) (kk : Wq g l M k w (pc + 3) (setL lv i (.int v)) st h Q) : Wq g l M k w pc lv st h Q := by
  intro p e s m args below meth c C H ls locs hR hS hL
  obtain ⟨j, hj⟩ := List.getElem?_of_mem (asL_mem (g := g) hv)
  exact lv_iinc C.1 C.2.1 hd hL.has hj he hn rfl (fun ls2 hl2 => kk p e s m args below meth c C H ls2 locs hR hS (LV.set1 hnb rfl hl2))
theorem q_iadd {x y : Int32} (hd : decode M.2.1 pc = .ok (.iadd, 1)) (kk : Wq g l M k w (pc + 1) lv (.int (x + y) :: st) h Q) : Wq g l M k w pc lv (.int y :: .int x :: st) h Q := by
  intro p e s m args below meth c C H ls locs hR hS hL
  exact lv_iadd C.1 C.2.1 hd (kk p e s m args below meth c C H ls locs hR hS hL)
theorem q_isub {x y : Int32} (hd : decode M.2.1 pc = .ok (.isub, 1)) (kk : Wq g l M k w (pc + 1) lv (.int (x - y) :: st) h Q) : Wq g l M k w pc lv (.int y :: .int x :: st) h Q := by
  intro p e s m args below meth c C H ls locs hR hS hL
  exact lv_isub C.1 C.2.1 hd (kk p e s m args below meth c C H ls locs hR hS hL)
theorem q_imul {x y : Int32} (hd : decode M.2.1 pc = .ok (.imul, 1)) (kk : Wq g l M k w (pc + 1) lv (.int (x * y) :: st) h Q) : Wq g l M k w pc lv (.int y :: .int x :: st) h Q := by
  intro p e s m args below meth c C H ls locs hR hS hL
  exact lv_imul C.1 C.2.1 hd (kk p e s m args below meth c C H ls locs hR hS hL)
theorem q_iand {x y : Int32} (hd : decode M.2.1 pc = .ok (.iand, 1)) (kk : Wq g l M k w (pc + 1) lv (.int (x &&& y) :: st) h Q) : Wq g l M k w pc lv (.int y :: .int x :: st) h Q := by
  intro p e s m args below meth c C H ls locs hR hS hL
  exact lv_iand C.1 C.2.1 hd (kk p e s m args below meth c C H ls locs hR hS hL)
theorem q_ior {x y : Int32} (hd : decode M.2.1 pc = .ok (.ior, 1)) (kk : Wq g l M k w (pc + 1) lv (.int (x ||| y) :: st) h Q) : Wq g l M k w pc lv (.int y :: .int x :: st) h Q := by
  intro p e s m args below meth c C H ls locs hR hS hL
  exact lv_ior C.1 C.2.1 hd (kk p e s m args below meth c C H ls locs hR hS hL)
theorem q_ixor {x y : Int32} (hd : decode M.2.1 pc = .ok (.ixor, 1)) (kk : Wq g l M k w (pc + 1) lv (.int (x ^^^ y) :: st) h Q) : Wq g l M k w pc lv (.int y :: .int x :: st) h Q := by
  intro p e s m args below meth c C H ls locs hR hS hL
  exact lv_ixor C.1 C.2.1 hd (kk p e s m args below meth c C H ls locs hR hS hL)
theorem q_ishl {x y : Int32} (hd : decode M.2.1 pc = .ok (.ishl, 1)) (kk : Wq g l M k w (pc + 1) lv (.int (x <<< (y &&& 31)) :: st) h Q) : Wq g l M k w pc lv (.int y :: .int x :: st) h Q := by
  intro p e s m args below meth c C H ls locs hR hS hL
  exact lv_ishl C.1 C.2.1 hd (kk p e s m args below meth c C H ls locs hR hS hL)
theorem q_ishr {x y : Int32} (hd : decode M.2.1 pc = .ok (.ishr, 1)) (kk : Wq g l M k w (pc + 1) lv (.int (x >>> (y &&& 31)) :: st) h Q) : Wq g l M k w pc lv (.int y :: .int x :: st) h Q := by
  intro p e s m args below meth c C H ls locs hR hS hL
  exact lv_ishr C.1 C.2.1 hd (kk p e s m args below meth c C H ls locs hR hS hL)
theorem q_ineg {x : Int32} (hd : decode M.2.1 pc = .ok (.ineg, 1)) (kk : Wq g l M k w (pc + 1) lv (.int (-x) :: st) h Q) : Wq g l M k w pc lv (.int x :: st) h Q := by
  intro p e s m args below meth c C H ls locs hR hS hL
  exact lv_ineg C.1 C.2.1 hd (kk p e s m args below meth c C H ls locs hR hS hL)
theorem q_ladd {x y : Int64} (hd : decode M.2.1 pc = .ok (.ladd, 1)) (kk : Wq g l M k w (pc + 1) lv (.long (x + y) :: st) h Q) : Wq g l M k w pc lv (.long y :: .long x :: st) h Q := by
  intro p e s m args below meth c C H ls locs hR hS hL
  exact lv_ladd C.1 C.2.1 hd (kk p e s m args below meth c C H ls locs hR hS hL)
theorem q_lsub {x y : Int64} (hd : decode M.2.1 pc = .ok (.lsub, 1)) (kk : Wq g l M k w (pc + 1) lv (.long (x - y) :: st) h Q) : Wq g l M k w pc lv (.long y :: .long x :: st) h Q := by
  intro p e s m args below meth c C H ls locs hR hS hL
  exact lv_lsub C.1 C.2.1 hd (kk p e s m args below meth c C H ls locs hR hS hL)
theorem q_lmul {x y : Int64} (hd : decode M.2.1 pc = .ok (.lmul, 1)) (kk : Wq g l M k w (pc + 1) lv (.long (x * y) :: st) h Q) : Wq g l M k w pc lv (.long y :: .long x :: st) h Q := by
  intro p e s m args below meth c C H ls locs hR hS hL
  exact lv_lmul C.1 C.2.1 hd (kk p e s m args below meth c C H ls locs hR hS hL)
theorem q_land {x y : Int64} (hd : decode M.2.1 pc = .ok (.land, 1)) (kk : Wq g l M k w (pc + 1) lv (.long (x &&& y) :: st) h Q) : Wq g l M k w pc lv (.long y :: .long x :: st) h Q := by
  intro p e s m args below meth c C H ls locs hR hS hL
  exact lv_land C.1 C.2.1 hd (kk p e s m args below meth c C H ls locs hR hS hL)
theorem q_lor {x y : Int64} (hd : decode M.2.1 pc = .ok (.lor, 1)) (kk : Wq g l M k w (pc + 1) lv (.long (x ||| y) :: st) h Q) : Wq g l M k w pc lv (.long y :: .long x :: st) h Q := by
  intro p e s m args below meth c C H ls locs hR hS hL
  exact lv_lor C.1 C.2.1 hd (kk p e s m args below meth c C H ls locs hR hS hL)
theorem q_iushr {x y : Int32} (hd : decode M.2.1 pc = .ok (.iushr, 1)) (kk : Wq g l M k w (pc + 1) lv (.int (x.toUInt32 >>> (y.toUInt32 &&& Int32.toUInt32 31)).toInt32 :: st) h Q) : Wq g l M k w pc lv (.int y :: .int x :: st) h Q := by
  intro p e s m args below meth c C H ls locs hR hS hL
  exact lv_iushr C.1 C.2.1 hd rfl (kk p e s m args below meth c C H ls locs hR hS hL)
theorem q_lushr {x : Int64} {y : Int32} (hd : decode M.2.1 pc = .ok (.lushr, 1)) (kk : Wq g l M k w (pc + 1) lv (.long (x.toUInt64 >>> (y.toInt64.toUInt64 &&& Int64.toUInt64 63)).toInt64 :: st) h Q) : Wq g l M k w pc lv (.int y :: .long x :: st) h Q := by
  intro p e s m args below meth c C H ls locs hR hS hL
  exact lv_lushr C.1 C.2.1 hd rfl (kk p e s m args below meth c C H ls locs hR hS hL)
theorem q_lshl {x : Int64} {y : Int32} (hd : decode M.2.1 pc = .ok (.lshl, 1)) (kk : Wq g l M k w (pc + 1) lv (.long (x <<< (y.toInt64 &&& 63)) :: st) h Q) : Wq g l M k w pc lv (.int y :: .long x :: st) h Q := by
  intro p e s m args below meth c C H ls locs hR hS hL
  exact lv_lshl C.1 C.2.1 hd rfl (kk p e s m args below meth c C H ls locs hR hS hL)
theorem q_i2l {x : Int32} (hd : decode M.2.1 pc = .ok (.i2l, 1)) (kk : Wq g l M k w (pc + 1) lv (.long x.toInt64 :: st) h Q) : Wq g l M k w pc lv (.int x :: st) h Q := by
  intro p e s m args below meth c C H ls locs hR hS hL
  exact lv_i2l C.1 C.2.1 hd rfl (kk p e s m args below meth c C H ls locs hR hS hL)
theorem q_l2i {x : Int64} (hd : decode M.2.1 pc = .ok (.l2i, 1)) (kk : Wq g l M k w (pc + 1) lv (.int x.toInt32 :: st) h Q) : Wq g l M k w pc lv (.long x :: st) h Q := by
  intro p e s m args below meth c C H ls locs hR hS hL
  exact lv_l2i C.1 C.2.1 hd rfl (kk p e s m args below meth c C H ls locs hR hS hL)
theorem q_i2c {x : Int32} (hd : decode M.2.1 pc = .ok (.i2c, 1)) (kk : Wq g l M k w (pc + 1) lv (.int (x.toUInt32 % 65536).toInt32 :: st) h Q) : Wq g l M k w pc lv (.int x :: st) h Q := by
  intro p e s m args below meth c C H ls locs hR hS hL
  exact lv_i2c C.1 C.2.1 hd rfl (kk p e s m args below meth c C H ls locs hR hS hL)
theorem q_lcmp {x y : Int64} (hd : decode M.2.1 pc = .ok (.lcmp, 1)) (kk : Wq g l M k w (pc + 1) lv (.int (lg_cmp x y) :: st) h Q) : Wq g l M k w pc lv (.long y :: .long x :: st) h Q := by
  intro p e s m args below meth c C H ls locs hR hS hL
  exact W.lcmp C.1 C.2.1 hd (kk p e s m args below meth c C H ls locs hR hS hL)
theorem q_idiv {α : Type} {x y : Int32} {X : Option α} {o : α} (hB : gd (decide (¬ y = 0)) X = some o) (hd : decode M.2.1 pc = .ok (.idiv, 1)) (kk : X = some o → Wq g l M k w (pc + 1) lv (.int (x / y) :: st) h Q) : Wq g l M k w pc lv (.int y :: .int x :: st) h Q := by
  intro p e s m args below meth c C H ls locs hR hS hL
  obtain ⟨h1, h2⟩ := gd_some hB
  exact lv_idiv C.1 C.2.1 hd (of_decide_eq_true h1) (kk h2 p e s m args below meth c C H ls locs hR hS hL)
theorem q_irem {α : Type} {x y : Int32} {X : Option α} {o : α} (hB : gd (decide (¬ y = 0)) X = some o) (hd : decode M.2.1 pc = .ok (.irem, 1)) (kk : X = some o → Wq g l M k w (pc + 1) lv (.int (x - x / y * y) :: st) h Q) : Wq g l M k w pc lv (.int y :: .int x :: st) h Q := by
  intro p e s m args below meth c C H ls locs hR hS hL
  obtain ⟨h1, h2⟩ := gd_some hB
  exact lv_irem C.1 C.2.1 hd (of_decide_eq_true h1) (kk h2 p e s m args below meth c C H ls locs hR hS hL)
theorem q_ldiv {α : Type} {x y : Int64} {X : Option α} {o : α} (hB : gd (decide (¬ y = 0)) X = some o) (hd : decode M.2.1 pc = .ok (.ldiv, 1)) (kk : X = some o → Wq g l M k w (pc + 1) lv (.long (x / y) :: st) h Q) : Wq g l M k w pc lv (.long y :: .long x :: st) h Q := by
  intro p e s m args below meth c C H ls locs hR hS hL
  obtain ⟨h1, h2⟩ := gd_some hB
  exact lv_ldiv C.1 C.2.1 hd (of_decide_eq_true h1) (kk h2 p e s m args below meth c C H ls locs hR hS hL)
theorem q_lrem {α : Type} {x y : Int64} {X : Option α} {o : α} (hB : gd (decide (¬ y = 0)) X = some o) (hd : decode M.2.1 pc = .ok (.lrem, 1)) (kk : X = some o → Wq g l M k w (pc + 1) lv (.long (x - x / y * y) :: st) h Q) : Wq g l M k w pc lv (.long y :: .long x :: st) h Q := by
  intro p e s m args below meth c C H ls locs hR hS hL
  obtain ⟨h1, h2⟩ := gd_some hB
  exact lv_lrem C.1 C.2.1 hd (of_decide_eq_true h1) (kk h2 p e s m args below meth c C H ls locs hR hS hL)
theorem q_dup {v : Value} (hd : decode M.2.1 pc = .ok (.dup, 1)) (hc : v.category = 1) (kk : Wq g l M k w (pc + 1) lv (v :: v :: st) h Q) : Wq g l M k w pc lv (v :: st) h Q := by
  intro p e s m args below meth c C H ls locs hR hS hL
  exact lv_dup C.1 C.2.1 hd (by rw [tv_cat]; exact hc) (kk p e s m args below meth c C H ls locs hR hS hL)
theorem q_dup2 {v u : Value} (hd : decode M.2.1 pc = .ok (.dup2, 1)) (hc : v.category = 1) (hc2 : u.category = 1) (kk : Wq g l M k w (pc + 1) lv (v :: u :: v :: u :: st) h Q) : Wq g l M k w pc lv (v :: u :: st) h Q := by
  intro p e s m args below meth c C H ls locs hR hS hL
  exact lv_dup2_11 C.1 C.2.1 hd (by rw [tv_cat]; exact hc) (by rw [tv_cat]; exact hc2) (kk p e s m args below meth c C H ls locs hR hS hL)
theorem q_pop {v : Value} (hd : decode M.2.1 pc = .ok (.pop, 1)) (hc : v.category = 1) (kk : Wq g l M k w (pc + 1) lv st h Q) : Wq g l M k w pc lv (v :: st) h Q := by
  intro p e s m args below meth c C H ls locs hR hS hL
  exact lv_pop C.1 C.2.1 hd (by rw [tv_cat]; exact hc) (kk p e s m args below meth c C H ls locs hR hS hL)
theorem q_goto {off : Int} {tgt : Nat} (hd : decode M.2.1 pc = .ok (.goto off, 3)) (ht : (pc : Int) + off = (tgt : Int)) (kk : Wq g l M k w tgt lv st h Q) : Wq g l M k w pc lv st h Q := by
  intro p e s m args below meth c C H ls locs hR hS hL
  exact lv_goto C.1 C.2.1 hd ht (kk p e s m args below meth c C H ls locs hR hS hL)
theorem q_if_eq {α : Type} {x : Int32} {off : Int} {tgt : Nat} {A B : Option α} {o : α} (hB : (if x = 0 then A else B) = some o) (hd : decode M.2.1 pc = .ok (.ifCond .eq off, 3)) (ht : (pc : Int) + off = (tgt : Int)) (kt : A = some o → Wq g l M k w tgt lv st h Q) (kf : B = some o → Wq g l M k w (pc + 3) lv st h Q) : Wq g l M k w pc lv (.int x :: st) h Q := by
  intro p e s m args below meth c C H ls locs hR hS hL
  exact lv_if_eq C.1 C.2.1 hd ht (fun cc => kt (by rw [if_pos cc] at hB; exact hB) p e s m args below meth c C H ls locs hR hS hL) (fun cc => kf (by rw [if_neg cc] at hB; exact hB) p e s m args below meth c C H ls locs hR hS hL)
theorem q_icmp_eq {α : Type} {x y : Int32} {off : Int} {tgt : Nat} {A B : Option α} {o : α} (hB : (if x = y then A else B) = some o) (hd : decode M.2.1 pc = .ok (.if_icmp .eq off, 3)) (ht : (pc : Int) + off = (tgt : Int)) (kt : A = some o → Wq g l M k w tgt lv st h Q) (kf : B = some o → Wq g l M k w (pc + 3) lv st h Q) : Wq g l M k w pc lv (.int y :: .int x :: st) h Q := by
  intro p e s m args below meth c C H ls locs hR hS hL
  exact lv_icmp_eq C.1 C.2.1 hd ht (fun cc => kt (by rw [if_pos cc] at hB; exact hB) p e s m args below meth c C H ls locs hR hS hL) (fun cc => kf (by rw [if_neg cc] at hB; exact hB) p e s m args below meth c C H ls locs hR hS hL)
theorem q_if_lt {α : Type} {x : Int32} {off : Int} {tgt : Nat} {A B : Option α} {o : α} (hB : (if x < 0 then A else B) = some o) (hd : decode M.2.1 pc = .ok (.ifCond .lt off, 3)) (ht : (pc : Int) + off = (tgt : Int)) (kt : A = some o → Wq g l M k w tgt lv st h Q) (kf : B = some o → Wq g l M k w (pc + 3) lv st h Q) : Wq g l M k w pc lv (.int x :: st) h Q := by
  intro p e s m args below meth c C H ls locs hR hS hL
  exact lv_if_lt C.1 C.2.1 hd ht (fun cc => kt (by rw [if_pos cc] at hB; exact hB) p e s m args below meth c C H ls locs hR hS hL) (fun cc => kf (by rw [if_neg cc] at hB; exact hB) p e s m args below meth c C H ls locs hR hS hL)
theorem q_icmp_lt {α : Type} {x y : Int32} {off : Int} {tgt : Nat} {A B : Option α} {o : α} (hB : (if x < y then A else B) = some o) (hd : decode M.2.1 pc = .ok (.if_icmp .lt off, 3)) (ht : (pc : Int) + off = (tgt : Int)) (kt : A = some o → Wq g l M k w tgt lv st h Q) (kf : B = some o → Wq g l M k w (pc + 3) lv st h Q) : Wq g l M k w pc lv (.int y :: .int x :: st) h Q := by
  intro p e s m args below meth c C H ls locs hR hS hL
  exact lv_icmp_lt C.1 C.2.1 hd ht (fun cc => kt (by rw [if_pos cc] at hB; exact hB) p e s m args below meth c C H ls locs hR hS hL) (fun cc => kf (by rw [if_neg cc] at hB; exact hB) p e s m args below meth c C H ls locs hR hS hL)
theorem q_if_ge {α : Type} {x : Int32} {off : Int} {tgt : Nat} {A B : Option α} {o : α} (hB : (if 0 ≤ x then A else B) = some o) (hd : decode M.2.1 pc = .ok (.ifCond .ge off, 3)) (ht : (pc : Int) + off = (tgt : Int)) (kt : A = some o → Wq g l M k w tgt lv st h Q) (kf : B = some o → Wq g l M k w (pc + 3) lv st h Q) : Wq g l M k w pc lv (.int x :: st) h Q := by
  intro p e s m args below meth c C H ls locs hR hS hL
  exact lv_if_ge C.1 C.2.1 hd ht (fun cc => kt (by rw [if_pos cc] at hB; exact hB) p e s m args below meth c C H ls locs hR hS hL) (fun cc => kf (by rw [if_neg cc] at hB; exact hB) p e s m args below meth c C H ls locs hR hS hL)
theorem q_icmp_ge {α : Type} {x y : Int32} {off : Int} {tgt : Nat} {A B : Option α} {o : α} (hB : (if y ≤ x then A else B) = some o) (hd : decode M.2.1 pc = .ok (.if_icmp .ge off, 3)) (ht : (pc : Int) + off = (tgt : Int)) (kt : A = some o → Wq g l M k w tgt lv st h Q) (kf : B = some o → Wq g l M k w (pc + 3) lv st h Q) : Wq g l M k w pc lv (.int y :: .int x :: st) h Q := by
  intro p e s m args below meth c C H ls locs hR hS hL
  exact lv_icmp_ge C.1 C.2.1 hd ht (fun cc => kt (by rw [if_pos cc] at hB; exact hB) p e s m args below meth c C H ls locs hR hS hL) (fun cc => kf (by rw [if_neg cc] at hB; exact hB) p e s m args below meth c C H ls locs hR hS hL)
theorem q_if_gt {α : Type} {x : Int32} {off : Int} {tgt : Nat} {A B : Option α} {o : α} (hB : (if 0 < x then A else B) = some o) (hd : decode M.2.1 pc = .ok (.ifCond .gt off, 3)) (ht : (pc : Int) + off = (tgt : Int)) (kt : A = some o → Wq g l M k w tgt lv st h Q) (kf : B = some o → Wq g l M k w (pc + 3) lv st h Q) : Wq g l M k w pc lv (.int x :: st) h Q := by
  intro p e s m args below meth c C H ls locs hR hS hL
  exact lv_if_gt C.1 C.2.1 hd ht (fun cc => kt (by rw [if_pos cc] at hB; exact hB) p e s m args below meth c C H ls locs hR hS hL) (fun cc => kf (by rw [if_neg cc] at hB; exact hB) p e s m args below meth c C H ls locs hR hS hL)
theorem q_icmp_gt {α : Type} {x y : Int32} {off : Int} {tgt : Nat} {A B : Option α} {o : α} (hB : (if y < x then A else B) = some o) (hd : decode M.2.1 pc = .ok (.if_icmp .gt off, 3)) (ht : (pc : Int) + off = (tgt : Int)) (kt : A = some o → Wq g l M k w tgt lv st h Q) (kf : B = some o → Wq g l M k w (pc + 3) lv st h Q) : Wq g l M k w pc lv (.int y :: .int x :: st) h Q := by
  intro p e s m args below meth c C H ls locs hR hS hL
  exact lv_icmp_gt C.1 C.2.1 hd ht (fun cc => kt (by rw [if_pos cc] at hB; exact hB) p e s m args below meth c C H ls locs hR hS hL) (fun cc => kf (by rw [if_neg cc] at hB; exact hB) p e s m args below meth c C H ls locs hR hS hL)
theorem q_if_le {α : Type} {x : Int32} {off : Int} {tgt : Nat} {A B : Option α} {o : α} (hB : (if x ≤ 0 then A else B) = some o) (hd : decode M.2.1 pc = .ok (.ifCond .le off, 3)) (ht : (pc : Int) + off = (tgt : Int)) (kt : A = some o → Wq g l M k w tgt lv st h Q) (kf : B = some o → Wq g l M k w (pc + 3) lv st h Q) : Wq g l M k w pc lv (.int x :: st) h Q := by
  intro p e s m args below meth c C H ls locs hR hS hL
  exact lv_if_le C.1 C.2.1 hd ht (fun cc => kt (by rw [if_pos cc] at hB; exact hB) p e s m args below meth c C H ls locs hR hS hL) (fun cc => kf (by rw [if_neg cc] at hB; exact hB) p e s m args below meth c C H ls locs hR hS hL)
theorem q_icmp_le {α : Type} {x y : Int32} {off : Int} {tgt : Nat} {A B : Option α} {o : α} (hB : (if x ≤ y then A else B) = some o) (hd : decode M.2.1 pc = .ok (.if_icmp .le off, 3)) (ht : (pc : Int) + off = (tgt : Int)) (kt : A = some o → Wq g l M k w tgt lv st h Q) (kf : B = some o → Wq g l M k w (pc + 3) lv st h Q) : Wq g l M k w pc lv (.int y :: .int x :: st) h Q := by
  intro p e s m args below meth c C H ls locs hR hS hL
  exact lv_icmp_le C.1 C.2.1 hd ht (fun cc => kt (by rw [if_pos cc] at hB; exact hB) p e s m args below meth c C H ls locs hR hS hL) (fun cc => kf (by rw [if_neg cc] at hB; exact hB) p e s m args below meth c C H ls locs hR hS hL)
theorem q_if_ne {α : Type} {x : Int32} {off : Int} {tgt : Nat} {A B : Option α} {o : α} (hB : (if x = 0 then B else A) = some o) (hd : decode M.2.1 pc = .ok (.ifCond .ne off, 3)) (ht : (pc : Int) + off = (tgt : Int)) (kt : A = some o → Wq g l M k w tgt lv st h Q) (kf : B = some o → Wq g l M k w (pc + 3) lv st h Q) : Wq g l M k w pc lv (.int x :: st) h Q := by
  intro p e s m args below meth c C H ls locs hR hS hL
  exact lv_if_ne C.1 C.2.1 hd ht (fun cc => kt (by rw [if_neg cc] at hB; exact hB) p e s m args below meth c C H ls locs hR hS hL) (fun cc => kf (by rw [if_pos cc] at hB; exact hB) p e s m args below meth c C H ls locs hR hS hL)
theorem q_icmp_ne {α : Type} {x y : Int32} {off : Int} {tgt : Nat} {A B : Option α} {o : α} (hB : (if x = y then B else A) = some o) (hd : decode M.2.1 pc = .ok (.if_icmp .ne off, 3)) (ht : (pc : Int) + off = (tgt : Int)) (kt : A = some o → Wq g l M k w tgt lv st h Q) (kf : B = some o → Wq g l M k w (pc + 3) lv st h Q) : Wq g l M k w pc lv (.int y :: .int x :: st) h Q := by
  intro p e s m args below meth c C H ls locs hR hS hL
  exact lv_icmp_ne C.1 C.2.1 hd ht (fun cc => kt (by rw [if_neg cc] at hB; exact hB) p e s m args below meth c C H ls locs hR hS hL) (fun cc => kf (by rw [if_pos cc] at hB; exact hB) p e s m args below meth c C H ls locs hR hS hL)
end RW
