/-! THE METHODS: what each is, the words that they use; then f_ (what a method does, over the abstract heap) and its walk c_ -/
theorem rf_cat (r : Option Nat) : (va_rf r).category = 1 := by cases r <;> rfl
def FU : Nat := 1000000
section RC
variable {g : GG} {l : Launch} {M : MD} {k w pc : Nat} {lv : List (Option Value)} {st : List Value} {h : HS} {Q : Option Value → HS → Prop}
def hl {α : Type} (x : HS) (k : HS → Option α) : Option α := k x
theorem q_nm {α : Type} {X : HS → Option α} {o : α} (hB : hl h X = some o) (kk : ∀ h1, X h1 = some o → Wq g l M k w pc lv st h1 Q) : Wq g l M k w pc lv st h Q := kk h hB
theorem Wq.widen {k' w' : Nat} (h1 : k ≤ k') (h2 : w ≤ w') (kk : Wq g l M k' w' pc lv st h Q) : Wq g l M k w pc lv st h Q := by
  intro p e s m args below meth c C H ls locs hR hS hL
  exact W.widen h1 h2 (kk p e s m args below meth c C H ls locs hR hS hL)
theorem q_callSI {α : Type} {N : MD} {as : List Value} {n ix k' w' : Nat} {F : Option (Int32 × HS)} {X : Int32 × HS → Option α} {o : α} {stk : List Value} (hB : bd F X = some o) (hC : ∀ a, F = some a → Ct g l N as h (QI a)) (he : stk = as.reverse ++ st) (hd : decode M.2.1 pc = .ok (.invokestatic ix, 3)) (hl : Cond.methodLink M.1.cls ix N.1 ∈ gtbl) (cs : CS N n) (hs : Cond.static N.1 ∈ gtbl) (hn : as.length = n) (ro : RO M N k w st) (hk : k + N.2.2.2.2.cells = k') (hw : w + N.2.2.2.2.slots = w') (kk : ∀ a, X a = some o → Wq g l M k' w' (pc + 3) lv (.int a.1 :: st) a.2 Q) : Wq g l M k w pc lv stk h Q := by
  obtain ⟨a, hF, hX⟩ := bd_some hB
  subst hk; subst hw
  refine q_callS (hC a hF) he hd hl cs hs hn ro (fun v u hq => ?_)
  obtain ⟨rfl, rfl⟩ := hq
  exact kk a hX
theorem q_callVI {α : Type} {N : MD} {as : List Value} {n ix ci k' w' : Nat} {r : Option Nat} {f : Nat → Option (Int32 × HS)} {X : Int32 × HS → Option α} {o : α} {stk : List Value} (hB : nn r (fun b => gd (rk h b ci) (bd (f b) X)) = some o) (hC : ∀ b a, f b = some a → Ct g l N (va_rf (some b) :: as) h (QI a)) (he : stk = as.reverse ++ va_rf r :: st) (hcl : rcl ci = N.1.cls) (hd : decode M.2.1 pc = .ok (.invokevirtual ix, 3)) (hl : Cond.methodLink M.1.cls ix N.1 ∈ gtbl) (cs : CS N n) (hi : Cond.instanceMethod N.1 ∈ gtbl) (hs : Cond.selects N.1.cls N.1 N.1 ∈ gtbl) (hn : as.length = n) (ro : RO M N k w st) (hk : k + N.2.2.2.2.cells = k') (hw : w + N.2.2.2.2.slots = w') (kk : ∀ (b : Nat) (a : Int32 × HS), X a = some o → Wq g l M k' w' (pc + 3) lv (.int a.1 :: st) a.2 Q) : Wq g l M k w pc lv stk h Q := by
  obtain ⟨b, rfl, hb⟩ := nn_some hB
  obtain ⟨hr, hb⟩ := gd_some hb
  obtain ⟨a, hF, hX⟩ := bd_some hb
  subst hk; subst hw
  refine q_callV (hC b a hF) he hr hcl hd hl cs hi hs hn ro (fun v u hq => ?_)
  obtain ⟨rfl, rfl⟩ := hq
  exact kk b a hX
theorem q_callSJ {α : Type} {N : MD} {as : List Value} {n ix k' w' : Nat} {F : Option (Int64 × HS)} {X : Int64 × HS → Option α} {o : α} {stk : List Value} (hB : bd F X = some o) (hC : ∀ a, F = some a → Ct g l N as h (QJ a)) (he : stk = as.reverse ++ st) (hd : decode M.2.1 pc = .ok (.invokestatic ix, 3)) (hl : Cond.methodLink M.1.cls ix N.1 ∈ gtbl) (cs : CS N n) (hs : Cond.static N.1 ∈ gtbl) (hn : as.length = n) (ro : RO M N k w st) (hk : k + N.2.2.2.2.cells = k') (hw : w + N.2.2.2.2.slots = w') (kk : ∀ a, X a = some o → Wq g l M k' w' (pc + 3) lv (.long a.1 :: st) a.2 Q) : Wq g l M k w pc lv stk h Q := by
  obtain ⟨a, hF, hX⟩ := bd_some hB
  subst hk; subst hw
  refine q_callS (hC a hF) he hd hl cs hs hn ro (fun v u hq => ?_)
  obtain ⟨rfl, rfl⟩ := hq
  exact kk a hX
theorem q_callVJ {α : Type} {N : MD} {as : List Value} {n ix ci k' w' : Nat} {r : Option Nat} {f : Nat → Option (Int64 × HS)} {X : Int64 × HS → Option α} {o : α} {stk : List Value} (hB : nn r (fun b => gd (rk h b ci) (bd (f b) X)) = some o) (hC : ∀ b a, f b = some a → Ct g l N (va_rf (some b) :: as) h (QJ a)) (he : stk = as.reverse ++ va_rf r :: st) (hcl : rcl ci = N.1.cls) (hd : decode M.2.1 pc = .ok (.invokevirtual ix, 3)) (hl : Cond.methodLink M.1.cls ix N.1 ∈ gtbl) (cs : CS N n) (hi : Cond.instanceMethod N.1 ∈ gtbl) (hs : Cond.selects N.1.cls N.1 N.1 ∈ gtbl) (hn : as.length = n) (ro : RO M N k w st) (hk : k + N.2.2.2.2.cells = k') (hw : w + N.2.2.2.2.slots = w') (kk : ∀ (b : Nat) (a : Int64 × HS), X a = some o → Wq g l M k' w' (pc + 3) lv (.long a.1 :: st) a.2 Q) : Wq g l M k w pc lv stk h Q := by
  obtain ⟨b, rfl, hb⟩ := nn_some hB
  obtain ⟨hr, hb⟩ := gd_some hb
  obtain ⟨a, hF, hX⟩ := bd_some hb
  subst hk; subst hw
  refine q_callV (hC b a hF) he hr hcl hd hl cs hi hs hn ro (fun v u hq => ?_)
  obtain ⟨rfl, rfl⟩ := hq
  exact kk b a hX
theorem q_callSP {α : Type} {N : MD} {as : List Value} {n ix k' w' : Nat} {F : Option (Option Nat × HS)} {X : Option Nat × HS → Option α} {o : α} {stk : List Value} (hB : bd F X = some o) (hC : ∀ a, F = some a → Ct g l N as h (QP a)) (he : stk = as.reverse ++ st) (hd : decode M.2.1 pc = .ok (.invokestatic ix, 3)) (hl : Cond.methodLink M.1.cls ix N.1 ∈ gtbl) (cs : CS N n) (hs : Cond.static N.1 ∈ gtbl) (hn : as.length = n) (ro : RO M N k w st) (hk : k + N.2.2.2.2.cells = k') (hw : w + N.2.2.2.2.slots = w') (kk : ∀ a, X a = some o → Wq g l M k' w' (pc + 3) lv (va_rf a.1 :: st) a.2 Q) : Wq g l M k w pc lv stk h Q := by
  obtain ⟨a, hF, hX⟩ := bd_some hB
  subst hk; subst hw
  refine q_callS (hC a hF) he hd hl cs hs hn ro (fun v u hq => ?_)
  obtain ⟨rfl, rfl⟩ := hq
  exact kk a hX
theorem q_callVP {α : Type} {N : MD} {as : List Value} {n ix ci k' w' : Nat} {r : Option Nat} {f : Nat → Option (Option Nat × HS)} {X : Option Nat × HS → Option α} {o : α} {stk : List Value} (hB : nn r (fun b => gd (rk h b ci) (bd (f b) X)) = some o) (hC : ∀ b a, f b = some a → Ct g l N (va_rf (some b) :: as) h (QP a)) (he : stk = as.reverse ++ va_rf r :: st) (hcl : rcl ci = N.1.cls) (hd : decode M.2.1 pc = .ok (.invokevirtual ix, 3)) (hl : Cond.methodLink M.1.cls ix N.1 ∈ gtbl) (cs : CS N n) (hi : Cond.instanceMethod N.1 ∈ gtbl) (hs : Cond.selects N.1.cls N.1 N.1 ∈ gtbl) (hn : as.length = n) (ro : RO M N k w st) (hk : k + N.2.2.2.2.cells = k') (hw : w + N.2.2.2.2.slots = w') (kk : ∀ (b : Nat) (a : Option Nat × HS), X a = some o → Wq g l M k' w' (pc + 3) lv (va_rf a.1 :: st) a.2 Q) : Wq g l M k w pc lv stk h Q := by
  obtain ⟨b, rfl, hb⟩ := nn_some hB
  obtain ⟨hr, hb⟩ := gd_some hb
  obtain ⟨a, hF, hX⟩ := bd_some hb
  subst hk; subst hw
  refine q_callV (hC b a hF) he hr hcl hd hl cs hi hs hn ro (fun v u hq => ?_)
  obtain ⟨rfl, rfl⟩ := hq
  exact kk b a hX
theorem q_callSV {α : Type} {N : MD} {as : List Value} {n ix k' w' : Nat} {F : Option (Unit × HS)} {X : Unit × HS → Option α} {o : α} {stk : List Value} (hB : bd F X = some o) (hC : ∀ a, F = some a → Ct g l N as h (QV a)) (he : stk = as.reverse ++ st) (hd : decode M.2.1 pc = .ok (.invokestatic ix, 3)) (hl : Cond.methodLink M.1.cls ix N.1 ∈ gtbl) (cs : CS N n) (hs : Cond.static N.1 ∈ gtbl) (hn : as.length = n) (ro : RO M N k w st) (hk : k + N.2.2.2.2.cells = k') (hw : w + N.2.2.2.2.slots = w') (kk : ∀ a, X a = some o → Wq g l M k' w' (pc + 3) lv (st) a.2 Q) : Wq g l M k w pc lv stk h Q := by
  obtain ⟨a, hF, hX⟩ := bd_some hB
  subst hk; subst hw
  refine q_callS (hC a hF) he hd hl cs hs hn ro (fun v u hq => ?_)
  obtain ⟨rfl, rfl⟩ := hq
  exact kk a hX
theorem q_callVV {α : Type} {N : MD} {as : List Value} {n ix ci k' w' : Nat} {r : Option Nat} {f : Nat → Option (Unit × HS)} {X : Unit × HS → Option α} {o : α} {stk : List Value} (hB : nn r (fun b => gd (rk h b ci) (bd (f b) X)) = some o) (hC : ∀ b a, f b = some a → Ct g l N (va_rf (some b) :: as) h (QV a)) (he : stk = as.reverse ++ va_rf r :: st) (hcl : rcl ci = N.1.cls) (hd : decode M.2.1 pc = .ok (.invokevirtual ix, 3)) (hl : Cond.methodLink M.1.cls ix N.1 ∈ gtbl) (cs : CS N n) (hi : Cond.instanceMethod N.1 ∈ gtbl) (hs : Cond.selects N.1.cls N.1 N.1 ∈ gtbl) (hn : as.length = n) (ro : RO M N k w st) (hk : k + N.2.2.2.2.cells = k') (hw : w + N.2.2.2.2.slots = w') (kk : ∀ (b : Nat) (a : Unit × HS), X a = some o → Wq g l M k' w' (pc + 3) lv (st) a.2 Q) : Wq g l M k w pc lv stk h Q := by
  obtain ⟨b, rfl, hb⟩ := nn_some hB
  obtain ⟨hr, hb⟩ := gd_some hb
  obtain ⟨a, hF, hX⟩ := bd_some hb
  subst hk; subst hw
  refine q_callV (hC b a hF) he hr hcl hd hl cs hi hs hn ro (fun v u hq => ?_)
  obtain ⟨rfl, rfl⟩ := hq
  exact kk b a hX
theorem q_callI_ {α : Type} {N : MD} {as : List Value} {n ix k' w' : Nat} {r : Option Nat} {f : Nat → Option (Unit × HS)} {X : Unit × HS → Option α} {o : α} {stk : List Value} (hB : nn r (fun b => bd (f b) X) = some o) (hC : ∀ b a, f b = some a → Ct g l N (va_rf (some b) :: as) h (QV a)) (he : stk = as.reverse ++ va_rf r :: st) (hd : decode M.2.1 pc = .ok (.invokespecial ix, 3)) (hl : Cond.methodLink M.1.cls ix N.1 ∈ gtbl) (cs : CS N n) (hi : Cond.instanceMethod N.1 ∈ gtbl) (hy : N.1.name = "<init>") (hv : N.2.2.2.1 = none) (hn : as.length = n) (ro : RO M N k w st) (hk : k + N.2.2.2.2.cells = k') (hw : w + N.2.2.2.2.slots = w') (kk : ∀ (b : Nat) (a : Unit × HS), X a = some o → Wq g l M k' w' (pc + 3) lv st a.2 Q) : Wq g l M k w pc lv stk h Q := by
  obtain ⟨b, rfl, hb⟩ := nn_some hB
  obtain ⟨a, hF, hX⟩ := bd_some hb
  subst hk; subst hw
  refine q_callI (hC b a hF) he hd hl cs hi hy hv hn ro (fun v u hq => ?_)
  obtain ⟨rfl, rfl⟩ := hq
  exact kk b a hX
theorem q_callIN_ {α : Type} {N : MD} {as : List Value} {n ix k' w' : Nat} {host : String} {r : Option Nat} {f : Nat → Option (Unit × HS)} {X : Unit × HS → Option α} {o : α} {stk : List Value} (hB : nn r (fun b => bd (f b) X) = some o) (hC : ∀ b a, f b = some a → Ct g l N (va_rf (some b) :: as) h (QV a)) (he : stk = as.reverse ++ va_rf r :: st) (hd : decode M.2.1 pc = .ok (.invokespecial ix, 3)) (hl : Cond.methodLinkNest M.1.cls ix N.1 host ∈ nestW) (cs : CS N n) (hi : Cond.instanceMethod N.1 ∈ gtbl) (hy : N.1.name = "<init>") (hv : N.2.2.2.1 = none) (hn : as.length = n) (ro : RO M N k w st) (hk : k + N.2.2.2.2.cells = k') (hw : w + N.2.2.2.2.slots = w') (kk : ∀ (b : Nat) (a : Unit × HS), X a = some o → Wq g l M k' w' (pc + 3) lv st a.2 Q) : Wq g l M k w pc lv stk h Q := by
  obtain ⟨b, rfl, hb⟩ := nn_some hB
  obtain ⟨a, hF, hX⟩ := bd_some hb
  subst hk; subst hw
  refine q_callIN (hC b a hF) he hd hl cs hi hy hv hn ro (fun v u hq => ?_)
  obtain ⟨rfl, rfl⟩ := hq
  exact kk b a hX
end RC
