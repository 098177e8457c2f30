/-! ROWS: switches, returns, calls, a method's entry -/
def swT {α : Type} (x : Int32) (lo : Int) (ts : List (Option α)) (d : Option α) : Option α := if lo ≤ x.toInt ∧ x.toInt < lo + (ts.length : Int) then ts.getD (x.toInt - lo).toNat d else d
def sw {α : Type} (x : Int32) : List (Int32 × Option α) → Option α → Option α
  | [], d => d
  | (c, t) :: r, d => if x = c then t else sw x r d
theorem sw_some {α : Type} {x : Int32} {d : Option α} {o : α} : ∀ {cs : List (Int32 × Option α)}, sw x cs d = some o → (∃ i, i < cs.length ∧ x = (cs.map Prod.fst).getD i 0 ∧ (cs.map Prod.snd).getD i d = some o ∧ ∀ j, j < i → x ≠ (cs.map Prod.fst).getD j 0) ∨ ((∀ i, i < cs.length → x ≠ (cs.map Prod.fst).getD i 0) ∧ d = some o)
  | [], h => Or.inr ⟨fun i hi => by simp at hi, h⟩
  | (c, t) :: r, h => by
    by_cases hx : x = c
    · refine Or.inl ⟨0, by simp, by simpa using hx, ?_, fun j hj => by omega⟩
      simp only [sw, if_pos hx] at h
      simpa using h
    · simp only [sw, if_neg hx] at h
      rcases sw_some h with ⟨i, h1, h2, h3, h4⟩ | ⟨h1, h2⟩
      · refine Or.inl ⟨i + 1, by simpa using h1, by simpa using h2, by simpa using h3, fun j hj => ?_⟩
        cases j with
        | zero => simpa using hx
        | succ j => simpa using h4 j (by omega)
      · refine Or.inr ⟨fun i hi => ?_, h2⟩
        cases i with
        | zero => simpa using hx
        | succ j => simpa using h1 j (by simpa using hi)
theorem lk_off {x : Int32} {d : Int} : ∀ (ps : List (Int × Int)) (cs : List Int32), ps.map Prod.fst = cs.map Int32.toInt → ((∀ i, i < cs.length → x = cs.getD i 0 → (∀ j, j < i → x ≠ cs.getD j 0) → Op.lookupswitch.offset ps d x.toInt = (ps.map Prod.snd).getD i d) ∧ ((∀ i, i < cs.length → x ≠ cs.getD i 0) → Op.lookupswitch.offset ps d x.toInt = d))
  | [], [], _ => ⟨fun i hi => by simp at hi, fun _ => rfl⟩
  | [], _ :: _, h => by simp at h
  | _ :: _, [], h => by simp at h
  | (a, o) :: ps, c :: cs, h => by
    simp only [List.map_cons, List.cons.injEq] at h
    obtain ⟨h1, h2⟩ := lk_off (x := x) (d := d) ps cs h.2
    refine ⟨fun i hi hx hj => ?_, fun hx => ?_⟩
    · cases i with
      | zero =>
        have hx : x = c := by simpa using hx
        rw [Op.lookupswitch.offset_cons, if_pos (by rw [hx]; exact h.1)]
        simp
      | succ i =>
        have hne : x ≠ c := by simpa using hj 0 (by omega)
        rw [lv_osw hne h.1.symm]
        simpa using h1 i (by simpa using hi) (by simpa using hx) (fun j hj9 => by simpa using hj (j + 1) (by omega))
    · have hne : x ≠ c := by simpa using hx 0 (by simp)
      rw [lv_osw hne h.1.symm]
      exact h2 (fun i hi => by simpa using hx (i + 1) (by simpa using hi))
def QI (o : Int32 × HS) : Option Value → HS → Prop := fun v u => v = some (.int o.1) ∧ u = o.2
def QJ (o : Int64 × HS) : Option Value → HS → Prop := fun v u => v = some (.long o.1) ∧ u = o.2
def QP (o : Option Nat × HS) : Option Value → HS → Prop := fun v u => v = some (va_rf o.1) ∧ u = o.2
def QV (o : Unit × HS) : Option Value → HS → Prop := fun v u => v = none ∧ u = o.2
section RS
variable {g : GG} {l : Launch} {M : MD} {k w pc : Nat} {lv : List (Option Value)} {st : List Value} {h : HS} {Q : Option Value → HS → Prop}
theorem q_tab {α : Type} {x : Int32} {lo hi dflt : Int} {offs : Array Int} {len dt : Nat} {ts : List (Option α)} {d : Option α} {o : α} (tgs : List Nat) (hB : swT x lo ts d = some o) (hd : decode M.2.1 pc = .ok (.tableswitch dflt lo hi offs, len)) (h1 : offs.toList.length = ts.length) (h2 : hi = lo + (ts.length : Int) - 1) (hdt : (pc : Int) + dflt = (dt : Int)) (ht : offs.toList.map (fun off => (pc : Int) + off) = tgs.map (fun n : Nat => (n : Int))) (kdf : d = some o → Wq g l M k w dt lv st h Q) (ks : ∀ i, i < ts.length → ts.getD i d = some o → Wq g l M k w (tgs.getD i 0) lv st h Q) : Wq g l M k w pc lv (.int x :: st) h Q := by
  intro p e s m args below meth c C H ls locs hR hS hL
  unfold swT at hB
  by_cases hx : lo ≤ x.toInt ∧ x.toInt < lo + (ts.length : Int)
  · rw [if_pos hx] at hB
    have hi9 : (x.toInt - lo).toNat < ts.length := by omega
    have hlt : (x.toInt - lo).toNat < offs.toList.length := by omega
    have hlen : tgs.length = offs.toList.length := by
      have := congrArg List.length ht
      simpa using this.symm
    have ho : offs[(x.toInt - lo).toNat]? = some (offs.toList[(x.toInt - lo).toNat]'hlt) := by
      rw [← Array.getElem?_toList]
      exact List.getElem?_eq_getElem hlt
    have htg : (pc : Int) + offs.toList[(x.toInt - lo).toNat]'hlt = ((tgs.getD (x.toInt - lo).toNat 0 : Nat) : Int) := by
      have h9 := congrArg (fun l => l[(x.toInt - lo).toNat]?) ht
      simp only [List.getElem?_map, List.getElem?_eq_getElem hlt, Option.map_some] at h9
      rw [List.getElem?_eq_getElem (by omega)] at h9
      simp only [Option.map_some, Option.some.injEq] at h9
      rw [h9, List.getD_eq_getElem?_getD, List.getElem?_eq_getElem (by omega)]
      rfl
    exact lv_tableIn C.1 C.2.1 hd (by omega) (by omega) ho htg (ks _ hi9 hB p e s m args below meth c C H ls locs hR hS hL)
  · rw [if_neg hx] at hB
    exact lv_tableOut C.1 C.2.1 hd (by omega) hdt (kdf hB p e s m args below meth c C H ls locs hR hS hL)
theorem q_look {α : Type} {x : Int32} {dflt : Int} {ps : Array (Int × Int)} {len dt : Nat} {cs : List (Int32 × Option α)} {d : Option α} {o : α} (tgs : List Nat) (hB : sw x cs d = some o) (hd : decode M.2.1 pc = .ok (.lookupswitch dflt ps, len)) (hp : (ps.toList.zip (ps.toList.drop 1)).all (fun (a, next) => a.1 < next.1) = true) (h1 : ps.toList.map Prod.fst = (cs.map Prod.fst).map Int32.toInt) (hdt : (pc : Int) + dflt = (dt : Int)) (ht : ps.toList.map (fun q => (pc : Int) + q.2) = tgs.map (fun n : Nat => (n : Int))) (kdf : d = some o → Wq g l M k w dt lv st h Q) (ks : ∀ i, i < cs.length → (cs.map Prod.snd).getD i d = some o → Wq g l M k w (tgs.getD i 0) lv st h Q) : Wq g l M k w pc lv (.int x :: st) h Q := by
  intro p e s m args below meth c C H ls locs hR hS hL
  obtain ⟨k1, k2⟩ := lk_off (x := x) (d := dflt) ps.toList (cs.map Prod.fst) h1
  have hlen : ps.toList.length = cs.length := by
    have := congrArg List.length h1
    simpa using this
  have hlen2 : tgs.length = ps.toList.length := by
    have := congrArg List.length ht
    simpa using this.symm
  rcases sw_some hB with ⟨i, hi, hx, hb, hj⟩ | ⟨hx, hb⟩
  · have ho := k1 i (by simpa using hi) hx hj
    have hlt : i < ps.toList.length := by omega
    have htg : (pc : Int) + (ps.toList.map Prod.snd).getD i dflt = ((tgs.getD i 0 : Nat) : Int) := by
      have h9 := congrArg (fun l => l[i]?) ht
      simp only [List.getElem?_map, List.getElem?_eq_getElem hlt, Option.map_some] at h9
      rw [List.getElem?_eq_getElem (by omega)] at h9
      simp only [Option.map_some, Option.some.injEq] at h9
      rw [List.getD_eq_getElem?_getD, List.getElem?_map, List.getElem?_eq_getElem hlt, List.getD_eq_getElem?_getD, List.getElem?_eq_getElem (by omega)]
      exact h9
    exact lv_lookup C.1 C.2.1 hd hp ho htg (ks i hi hb p e s m args below meth c C H ls locs hR hS hL)
  · exact lv_lookup C.1 C.2.1 hd hp (k2 (fun i hi => hx i (by simpa using hi))) hdt (kdf hb p e s m args below meth c C H ls locs hR hS hL)
theorem q_iret {x : Int32} {o : Int32 × HS} (hB : some (x, h) = some o) (hd : decode M.2.1 pc = .ok (.ireturn, 1)) (hr : M.2.2.2.1 = some .int) (hk : k ≤ M.2.2.2.2.cells) (hw : w ≤ M.2.2.2.2.slots) : Wq g l M k w pc lv [.int x] h (QI o) := by
  intro p e s m args below meth c C H ls locs hR hS hL
  cases hB
  refine W.widen hk hw ?_
  exact W.iret C.1 C.2.1 (by rw [C.2.2.2.1]; exact hr) (fun t ht _ => ⟨⟨_, _, rfl, ⟨rfl, rfl⟩, by rw [ht]; exact hR⟩, hS.F ht⟩) hS.2.2 hd C.2.2.2.2.2.1
theorem q_zret {x : Int32} {ty : FieldType} {o : Int32 × HS} (hB : gd (decide (narrow ty (.int x) = .int x)) (some (x, h)) = some o) (hd : decode M.2.1 pc = .ok (.ireturn, 1)) (hr : M.2.2.2.1 = some ty) (hk : k ≤ M.2.2.2.2.cells) (hw : w ≤ M.2.2.2.2.slots) : Wq g l M k w pc lv [.int x] h (QI o) := by
  intro p e s m args below meth c C H ls locs hR hS hL
  obtain ⟨hn, hB⟩ := gd_some hB
  cases hB
  refine W.widen hk hw ?_
  exact W.zret C.1 C.2.1 (by rw [C.2.2.2.1]; exact hr) (of_decide_eq_true hn) (fun t ht _ => ⟨⟨_, _, rfl, ⟨rfl, rfl⟩, by rw [ht]; exact hR⟩, hS.F ht⟩) hS.2.2 hd C.2.2.2.2.2.1
theorem q_lret {x : Int64} {o : Int64 × HS} (hB : some (x, h) = some o) (hd : decode M.2.1 pc = .ok (.lreturn, 1)) (hr : M.2.2.2.1 = some .long) (hk : k ≤ M.2.2.2.2.cells) (hw : w ≤ M.2.2.2.2.slots) : Wq g l M k w pc lv [.long x] h (QJ o) := by
  intro p e s m args below meth c C H ls locs hR hS hL
  cases hB
  refine W.widen hk hw ?_
  exact W.lret C.1 C.2.1 (by rw [C.2.2.2.1]; exact hr) (fun t ht _ => ⟨⟨_, _, rfl, ⟨rfl, rfl⟩, by rw [ht]; exact hR⟩, hS.F ht⟩) hS.2.2 hd C.2.2.2.2.2.1
theorem q_vret {o : Unit × HS} (hB : some ((), h) = some o) (hd : decode M.2.1 pc = .ok (.return_, 1)) (hr : M.2.2.2.1 = none) (hk : k ≤ M.2.2.2.2.cells) (hw : w ≤ M.2.2.2.2.slots) : Wq g l M k w pc lv [] h (QV o) := by
  intro p e s m args below meth c C H ls locs hR hS hL
  cases hB
  refine W.widen hk hw ?_
  exact W.vret C.1 C.2.1 (by rw [C.2.2.2.1]; exact hr) (fun t ht _ => ⟨⟨none, _, rfl, ⟨rfl, rfl⟩, by rw [ht]; exact hR⟩, hS.F ht⟩) hS.2.2 hd C.2.2.2.2.2.1
theorem q_aret {r : Option Nat} {Cn : String} {o : Option Nat × HS} (hB : some (r, h) = some o) (hd : decode M.2.1 pc = .ok (.areturn, 1)) (hr : M.2.2.2.1 = some (.object Cn)) (hk : k ≤ M.2.2.2.2.cells) (hw : w ≤ M.2.2.2.2.slots) : Wq g l M k w pc lv [va_rf r] h (QP o) := by
  intro p e s m args below meth c C H ls locs hR hS hL
  cases hB
  refine W.widen hk hw ?_
  show W _ _ _ _ _ _ _ _ _ _ _ _ _ _ _ (F0 m pc ls [tv g (va_rf r)])
  exact W.aret C.1 C.2.1 (by rw [C.2.2.2.1]; exact hr) (Or.inl ⟨_, rfl⟩) (by rw [tv_rf]; exact va_rf_or _) (fun t ht _ => ⟨⟨some (va_rf r), _, rfl, ⟨rfl, rfl⟩, by rw [ht]; exact hR⟩, hS.F ht⟩) hS.2.2 hd C.2.2.2.2.2.1
theorem q_objInit {r : Option Nat} {α : Type} {X : Option α} {o : α} {ix : Nat} (hB : nn r (fun _ => X) = some o) (hd : decode M.2.1 pc = .ok (.invokespecial ix, 3)) (hl : Cond.methodLink M.1.cls ix Lib.objectInit ∈ gtbl) (h1 : Cond.instanceMethod Lib.objectInit ∈ gtbl) (h2 : Cond.code Lib.objectInit ⟨#[0xb1]⟩ 1 none ∈ gtbl) (hf : 1 ≤ M.2.2.2.2.frames) (hlo : (st.map fun v => v.category).sum + 12 ≤ M.2.2.2.2.locals) (kk : X = some o → Wq g l M k w (pc + 3) lv st h Q) : Wq g l M k w pc lv (va_rf r :: st) h Q := by
  intro p e s m args below meth c C H ls locs hR hS hL
  obtain ⟨n, rfl, hX⟩ := nn_some hB
  have hts := C.2.2.2.2.2.2.2.1
  have hcat : ((st.map (tv g)).map fun v => v.category).sum = (st.map fun v => v.category).sum := by
    rw [List.map_map]
    congr 1
    exact List.map_congr_left (fun v _ => tv_cat g v)
  exact W.objInit C.1 C.2.1 C.2.2.2.2.1 (hts _ hl) (hts _ h1) (hts _ h2) rfl (by rw [C.2.2.1]; exact hL.1) rfl hd hf (by show 2 * 0 + _ + 12 ≤ _; rw [hcat]; omega) (kk hX p e s m args below meth c C H ls locs hR hS hL)
/-! calls -/
theorem Pq.blind {as : List Value} : FrameBlind (Pq g as h) := by
  intro a U f mk hq
  obtain ⟨h1, h2, h3, h4⟩ := hq
  exact ⟨h1, h2, Kst.same (u := U) h3 rfl, h4⟩
theorem run_W {p : Program} {e : Env} {R : Room} {s : State} {m : MethodId} {args : Array Value} {below : List Frame} {meth : Method} {c : Code} {H : Heap} {locs : List Loc} {cells slots mc ms : Nat} {Z : State → Prop} {ls : Array Slot} {st0 rest : List Value} {a : Array Value} {Q' : Option Value → HS → Prop}
    (hr : va_Run p l e R s m args below meth c H locs cells slots mc ms (F0 m pc ls st0) rest (QQ g Q' a) (gA g)) (hS : va_S (gA g) s.heap H locs)
    (kk : ∀ (v : Option Value) (u : HS) (H1 : Heap) (locs1 : List Loc), Q' v u → Rl g u H1 → va_S (gA g) s.heap H1 locs1 → W p l e R s m args below meth c H1 locs1 (cells + mc) (slots + ms) Z (F0 m (pc + 3) ls ((v.map (tv g)).toList ++ rest))) : W p l e R s m args below meth c H locs cells slots Z (F0 m pc ls st0) := by
  intro T hT X
  obtain ⟨v, st₀, t, T', L, h0, X', hL, e1, e2, ⟨⟨v9, u, hv, hp, hb⟩, hz, hk⟩, stp⟩ := hr T hT X
  cases hv
  rw [h0] at hz hk
  obtain ⟨t2, a1, b1⟩ := kk v9 u T'.heap (locs ++ L) hp (by rw [e1]; exact hb)
    ⟨Nat.le_trans hS.1 (by rw [e1]; exact hz), fun q h1 h2 => by rw [e1, hk q (Nat.lt_of_lt_of_le h1 hS.1) h2]; exact hS.2.1 q h1 h2, fun q hq => by
      rcases List.mem_append.mp hq with h | h
      · exact hS.2.2 q h
      · exact hL q h⟩ T' rfl X'
  exact ⟨t2, stp t2 a1, b1⟩
/-- the words of a callee -/
def CS (N : MD) (n : Nat) : Prop := Cond.code N.1 N.2.1 N.2.2.1 N.2.2.2.1 ∈ gtbl ∧ Cond.initialized N.1.cls ∈ gtbl ∧ N.1.cls ≠ "java/lang/invoke/MethodHandle" ∧ N.1.cls ≠ "java/lang/invoke/VarHandle" ∧ (parseMethodDescriptor N.1.desc).map (fun d => d.parameters.length) = some n
theorem gt_good : ∀ (N : MD), Cond.code N.1 N.2.1 N.2.2.1 N.2.2.2.1 ∈ gtbl → GoodIn gtbl (.code N.1 N.2.1 N.2.2.1 N.2.2.2.1 :: gtbl) := by
  intro N hc w hw
  rcases List.mem_cons.mp hw with rfl | hw
  · exact ⟨hc, good_of_word (gtbl_good hc)⟩
  · exact ⟨hw, good_of_word (gtbl_good hw)⟩
/-- the room of a call: frames, words, cells, slots, what lies on the stack below the arguments -/
def RO (M N : MD) (k w : Nat) (st : List Value) : Prop := (N.2.2.2.2.frames + 1 ≤ M.2.2.2.2.frames ∧ 8 + (N.2.2.1 + 11) + N.2.2.2.2.locals ≤ M.2.2.2.2.locals) ∧ (k + N.2.2.2.2.cells ≤ M.2.2.2.2.cells ∧ w + N.2.2.2.2.slots ≤ M.2.2.2.2.slots) ∧ (st.map fun v => v.category).sum ≤ 8
theorem Pq.of {as : List Value} {s U : State} {H : Heap} {locs : List Loc} (hR : Rl g h H) (hS : va_S (gA g) s.heap H locs) (hK : Kst g s s.heap) (hz : gz g ≤ s.heap.size) (hU : U.heap = H) (hW : s.WarmedH U.vm) : Pq g as h (as.map (tv g)).toArray U := ⟨rfl, by rw [hU]; exact hR, hK.to hS hW hU, by rw [hU]; exact Nat.le_trans hz hS.1⟩
theorem cat_sum {st : List Value} : ((st.map (tv g)).map fun v => v.category).sum = (st.map fun v => v.category).sum := by
  rw [List.map_map]
  congr 1
  exact List.map_congr_left (fun v _ => tv_cat g v)
theorem q_callS {N : MD} {as : List Value} {n ix : Nat} {Q' : Option Value → HS → Prop} {stk : List Value} (hC : Ct g l N as h Q') (he : stk = as.reverse ++ st) (hd : decode M.2.1 pc = .ok (.invokestatic ix, 3)) (hl : Cond.methodLink M.1.cls ix N.1 ∈ gtbl) (cs : CS N n) (hs : Cond.static N.1 ∈ gtbl) (hn : as.length = n) (ro : RO M N k w st) (kk : ∀ (v : Option Value) (u : HS), Q' v u → Wq g l M (k + N.2.2.2.2.cells) (w + N.2.2.2.2.slots) (pc + 3) lv (v.toList ++ st) u Q) : Wq g l M k w pc lv stk h Q := by
  intro p e s m args below meth c C H ls locs hR hS hL
  subst he
  have hts := C.2.2.2.2.2.2.2.1
  have hK := C.2.2.2.2.2.2.2.2.1
  refine run_W (va_runS (As := as.map (tv g)) (rest := st.map (tv g)) ⟨C.1, C.2.1, C.2.2.1, C.2.2.2.2.1, hts⟩ hC ⟨callB_of n hts (gt_good N cs.1) rfl rfl rfl (hts _ cs.2.1) (hts _ hl) cs.2.2 ro.1, hts _ hs⟩ ⟨Pq.blind, fun U hU hW => Pq.of hR hS hK C.2.2.2.2.2.2.2.2.2 hU hW⟩ rfl (by rw [List.length_map]; exact hn) hL.1 (by show (as.reverse ++ st).map (tv g) = _; rw [List.map_append, List.map_reverse]) (by show 2 * 0 + _ ≤ 8; rw [cat_sum]; have := ro.2.2; omega) hd ro.2.1) hS (fun v u H1 locs1 hq hR1 hS1 => ?_)
  have h9 := kk v u hq p e s m args below meth c C H1 ls locs1 hR1 hS1 hL
  have e9 : (v.toList ++ st).map (tv g) = (v.map (tv g)).toList ++ st.map (tv g) := by cases v <;> simp
  rw [e9] at h9
  exact h9
/-- whether a name stands for a receiver of that class: 0 to 8 a made object, 20 a constant of Field, 21 of Measure, 22 a word -/
def rk (h : HS) (n ci : Nat) : Bool := if ci < 9 then ck h n ci else if ci = 20 then decide (1000 ≤ n ∧ n < 1004) else if ci = 21 then isM n else if ci = 22 then isS n else false
def rcl (ci : Nat) : String := if ci = 20 then RX4 else if ci = 21 then RX5 else if ci = 22 then "java/lang/String" else (vwCl.getD ci (RX0, TX0, 0)).1
theorem rk_cell {s : State} {H : Heap} {locs : List Loc} {n ci : Nat} (hR : Rl g h H) (hS : va_S (gA g) s.heap H locs) (hK : Kst g s s.heap) (hr : rk h n ci = true) : ∃ cell : Cell, H[ga g n]? = some cell ∧ cell.vm.isStatics = false ∧ s.vm.findClass (rcl ci) = some cell.cls := by
  unfold rk at hr
  by_cases h1 : ci < 9
  · rw [if_pos h1] at hr
    obtain ⟨hn, hk⟩ := ck_spec hr
    rw [hR.ad hK hn]
    have hc : vwCl[ci]? = some (vwCl.getD ci (RX0, TX0, 0)) := by
      rw [List.getD_eq_getElem?_getD, List.getElem?_eq_getElem (by simpa using h1)]
      rfl
    have h9 := va_recv hK.2.1 hR.2.2 hc (q0 := n) (a := gz g + n) (fs := fl g h n ci) (by rw [wl_get hn, ce_obj h1 hk])
    have e9 : rcl ci = (vwCl.getD ci (RX0, TX0, 0)).1 := by
      unfold rcl
      rw [if_neg (by omega), if_neg (by omega), if_neg (by omega)]
    rw [e9]
    exact h9
  · rw [if_neg h1] at hr
    by_cases h2 : ci = 20
    · rw [if_pos h2] at hr
      have hr := of_decide_eq_true hr
      have h9 := va_recvE (i := n - 1000) hK.2.2.1.1 (by show n - 1000 < 4; omega) hS
      rw [show 1000 + (n - 1000) = n by omega] at h9
      subst h2
      exact h9
    · rw [if_neg h2] at hr
      by_cases h3 : ci = 21
      · rw [if_pos h3] at hr
        have hr := of_decide_eq_true hr
        have h9 := va_recvE (i := n - 1010) hK.2.2.1.2.1 (by show n - 1010 < 5; omega) hS
        rw [show 1010 + (n - 1010) = n by omega] at h9
        subst h3
        exact h9
      · rw [if_neg h3] at hr
        by_cases h4 : ci = 22
        · rw [if_pos h4] at hr
          have hr := of_decide_eq_true hr
          have h9 := vk_recv (i := n - 1020) hK.2.2.1.2.2.2.1 (by omega) hS
          rw [show 1020 + (n - 1020) = n by omega] at h9
          subst h4
          exact h9
        · rw [if_neg h4] at hr
          cases hr
theorem q_callV {N : MD} {as : List Value} {b n ix ci : Nat} {Q' : Option Value → HS → Prop} {stk : List Value} (hC : Ct g l N (va_rf (some b) :: as) h Q') (he : stk = as.reverse ++ va_rf (some b) :: st) (hr : rk h b ci = true) (hcl : rcl ci = N.1.cls) (hd : decode M.2.1 pc = .ok (.invokevirtual ix, 3)) (hl : Cond.methodLink M.1.cls ix N.1 ∈ gtbl) (cs : CS N n) (hi : Cond.instanceMethod N.1 ∈ gtbl) (hs : Cond.selects N.1.cls N.1 N.1 ∈ gtbl) (hn : as.length = n) (ro : RO M N k w st) (kk : ∀ (v : Option Value) (u : HS), Q' v u → Wq g l M (k + N.2.2.2.2.cells) (w + N.2.2.2.2.slots) (pc + 3) lv (v.toList ++ st) u Q) : Wq g l M k w pc lv stk h Q := by
  intro p e s m args below meth c C H ls locs hR hS hL
  subst he
  have hts := C.2.2.2.2.2.2.2.1
  have hK := C.2.2.2.2.2.2.2.2.1
  have hcell := rk_cell hR hS hK hr
  rw [hcl] at hcell
  refine run_W (va_runV (b := ga g b) (As := as.map (tv g)) (rest := st.map (tv g)) ⟨C.1, C.2.1, C.2.2.1, C.2.2.2.2.1, hts⟩ hC ⟨callB_of n hts (gt_good N cs.1) rfl rfl rfl (hts _ cs.2.1) (hts _ hl) cs.2.2 ro.1, hts _ hi, hts _ hs⟩ ⟨Pq.blind, hcell, fun U hU hW => Pq.of (as := va_rf (some b) :: as) hR hS hK C.2.2.2.2.2.2.2.2.2 hU hW⟩ rfl (by rw [List.length_map]; exact hn) hL.1 (by show (as.reverse ++ va_rf (some b) :: st).map (tv g) = _; rw [List.map_append, List.map_reverse]; rfl) (by show 2 * 0 + _ ≤ 8; rw [cat_sum]; have := ro.2.2; omega) hd ro.2.1) hS (fun v u H1 locs1 hq hR1 hS1 => ?_)
  have h9 := kk v u hq p e s m args below meth c C H1 ls locs1 hR1 hS1 hL
  have e9 : (v.toList ++ st).map (tv g) = (v.map (tv g)).toList ++ st.map (tv g) := by cases v <;> simp
  rw [e9] at h9
  exact h9
theorem q_callI {N : MD} {as : List Value} {b n ix : Nat} {Q' : Option Value → HS → Prop} {stk : List Value} (hC : Ct g l N (va_rf (some b) :: as) h Q') (he : stk = as.reverse ++ va_rf (some b) :: st) (hd : decode M.2.1 pc = .ok (.invokespecial ix, 3)) (hl : Cond.methodLink M.1.cls ix N.1 ∈ gtbl) (cs : CS N n) (hi : Cond.instanceMethod N.1 ∈ gtbl) (hy : N.1.name = "<init>") (hv : N.2.2.2.1 = none) (hn : as.length = n) (ro : RO M N k w st) (kk : ∀ (v : Option Value) (u : HS), Q' v u → Wq g l M (k + N.2.2.2.2.cells) (w + N.2.2.2.2.slots) (pc + 3) lv (v.toList ++ st) u Q) : Wq g l M k w pc lv stk h Q := by
  intro p e s m args below meth c C H ls locs hR hS hL
  subst he
  have hts := C.2.2.2.2.2.2.2.1
  have hK := C.2.2.2.2.2.2.2.2.1
  obtain ⟨N1, N2, N3, N4, N5⟩ := N
  cases hv
  refine run_W (va_runI (b := ga g b) (As := as.map (tv g)) (rest := st.map (tv g)) ⟨C.1, C.2.1, C.2.2.1, C.2.2.2.2.1, hts⟩ hC ⟨callB_of n hts (gt_good (N1, N2, N3, none, N5) cs.1) rfl rfl rfl (hts _ cs.2.1) (hts _ hl) cs.2.2 ro.1, hy, hts _ hi⟩ ⟨Pq.blind, fun U hU hW => Pq.of (as := va_rf (some b) :: as) hR hS hK C.2.2.2.2.2.2.2.2.2 hU hW⟩ rfl (by rw [List.length_map]; exact hn) hL.1 (by show (as.reverse ++ va_rf (some b) :: st).map (tv g) = _; rw [List.map_append, List.map_reverse]; rfl) (by show 2 * 0 + _ ≤ 8; rw [cat_sum]; have := ro.2.2; omega) hd ro.2.1) hS (fun v u H1 locs1 hq hR1 hS1 => ?_)
  have h9 := kk v u hq p e s m args below meth c C H1 ls locs1 hR1 hS1 hL
  have e9 : (v.toList ++ st).map (tv g) = (v.map (tv g)).toList ++ st.map (tv g) := by cases v <;> simp
  rw [e9] at h9
  exact h9
theorem q_callIN {N : MD} {as : List Value} {b n ix : Nat} {host : String} {Q' : Option Value → HS → Prop} {stk : List Value} (hC : Ct g l N (va_rf (some b) :: as) h Q') (he : stk = as.reverse ++ va_rf (some b) :: st) (hd : decode M.2.1 pc = .ok (.invokespecial ix, 3)) (hl : Cond.methodLinkNest M.1.cls ix N.1 host ∈ nestW) (cs : CS N n) (hi : Cond.instanceMethod N.1 ∈ gtbl) (hy : N.1.name = "<init>") (hv : N.2.2.2.1 = none) (hn : as.length = n) (ro : RO M N k w st) (kk : ∀ (v : Option Value) (u : HS), Q' v u → Wq g l M (k + N.2.2.2.2.cells) (w + N.2.2.2.2.slots) (pc + 3) lv (v.toList ++ st) u Q) : Wq g l M k w pc lv stk h Q := by
  intro p e s m args below meth c C H ls locs hR hS hL
  subst he
  have hts := C.2.2.2.2.2.2.2.1
  have hK := C.2.2.2.2.2.2.2.2.1
  obtain ⟨N1, N2, N3, N4, N5⟩ := N
  cases hv
  refine run_W (va_runIN (b := ga g b) (As := as.map (tv g)) (rest := st.map (tv g)) ⟨C.1, C.2.1, C.2.2.1, C.2.2.2.2.1, hts⟩ hC ⟨va_cnB n hts (gt_good (N1, N2, N3, none, N5) cs.1) rfl rfl rfl (hK.2.2.2.2.1 _ hl) (hts _ cs.2.1) cs.2.2 ro.1, hy, hts _ hi⟩ ⟨Pq.blind, fun U hU hW => Pq.of (as := va_rf (some b) :: as) hR hS hK C.2.2.2.2.2.2.2.2.2 hU hW⟩ rfl (by rw [List.length_map]; exact hn) hL.1 (by show (as.reverse ++ va_rf (some b) :: st).map (tv g) = _; rw [List.map_append, List.map_reverse]; rfl) (by show 2 * 0 + _ ≤ 8; rw [cat_sum]; have := ro.2.2; omega) hd ro.2.1) hS (fun v u H1 locs1 hq hR1 hS1 => ?_)
  have h9 := kk v u hq p e s m args below meth c C H1 ls locs1 hR1 hS1 hL
  have e9 : (v.toList ++ st).map (tv g) = (v.map (tv g)).toList ++ st.map (tv g) := by cases v <;> simp
  rw [e9] at h9
  exact h9
/-- a method's contract out of the walk of its body -/
theorem Ct.of {as : List Value} (hp : plainName M.1.cls = true) (hlen : (lg_sl as).length ≤ M.2.2.1) (h0 : Wq g l M 0 0 0 (entL M.2.2.1 as) [] h Q) : Ct g l M as h Q := by
  refine Met.ofW (cc := M.2.1) (maxL := M.2.2.1) (ret := M.2.2.2.1) hp rfl ?_
  intro p e s m args below meth c s₁ B hml hv
  obtain ⟨rfl, hR, hK, hz⟩ := hv
  have hlen9 : (lg_sl (as.map (tv g))).length ≤ M.2.2.1 := by
    have e9 : ∀ l : List Value, (lg_sl (l.map (tv g))).length = (lg_sl l).length := by
      intro l
      induction l with
      | nil => rfl
      | cons v t ih =>
        simp only [lg_sl, List.map_cons, List.flatMap_cons, List.length_append, tv_cat] at ih ⊢
        rw [ih]
        congr 1
        split <;> rfl
    rw [e9]
    exact hlen
  have hl := lv_entry (as.map (tv g)) (n := M.2.2.1) hlen9
  rw [lg_entry_eq]
  have hts := atoms_spec (ws := .code M.1 M.2.1 M.2.2.1 M.2.2.2.1 :: gtbl) B.pre
  exact h0 p e s m _ below meth c ⟨B.exec, B.bytes, hml, B.returns, findClass_of_methodNamed B.named, B.notSynchronized, (name_of_methodNamed B.named B.method).1, fun w hw => hts w (List.mem_cons_of_mem _ hw), hK, hz⟩ s.heap _ [] hR va_S.rf ⟨hl.1, hl.2.1, fun i v hv => hl.2.2 (i, tv g v) (by
    have h9 := entL_get g as M.2.2.1 0 i v hv
    rw [Nat.zero_add] at h9
    exact h9)⟩
end RS

