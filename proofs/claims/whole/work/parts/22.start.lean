/-! THE CLAIM OUT OF ONE WALK OF THE LAW'S BODY. Your part is whole_start (and what it stands on); all else here is the same for every law, but numbers. -/
def R_law : String := "CrossTableLaw"
def lw_P (b : Addr) (xs : List Int32) (args : Array Value) (s : State) : Prop := args = #[.ref b] ∧ s.IntsAt b xs ∧ xs.length ≤ 2560 ∧ (Jvm.Cond.and given_1 narrow_1).before args s = true
def lw_Q (_ : Array Value) (s : State) (o : Outcome) (t : State) : Prop := o = .returned (some (.int 1)) ∧ Framed s o t [] 600000 room_1.slots
def lw_Z (below : List Frame) (a : Array Value) (s : State) : State → Prop := fun t => ∃ o, t.status = .running ∧ Ended t below o ∧ lw_Q a s o t
/-- the law's own end, with 1 on the stack, nothing written that was there before, its room as the claim has it -/
theorem lw_ret {p : Program} {l : Launch} {e : Env} {s : State} {m : MethodId} {below : List Frame} {meth : Method} {c : Code} {b : Nat} (hx : p.tables.exec = Jvm.exec) (hb : c.code = code) (hr : meth.sig.returnType = ret) (hlocks : meth.locks = false) {pc : Nat} {H : Heap} {ls : Array Slot} (hdg : decode code pc = .ok (.ireturn, 1)) : W p l e room_1 s m #[Value.ref b] below meth c H [] 600000 room_1.slots (lw_Z below #[Value.ref b] s) (F0 m pc ls [.int 1]) := by
  intro T hT X
  obtain ⟨fs, hret, hrun, hended, hW, hframe⟩ := X.leave (v := some (.int 1)) (hlocks := hlocks) (fun h => by rw [hr] at h; cases h)
  have hmeth' : T.vm.method? m = some meth := X.method'
  refine ⟨T.setFrames fs, ?_, .returned (some (.int 1)), hrun, hended, rfl, ⟨_, rfl⟩, hW, hframe⟩
  jvm_step X.here [X.here.top, hx, hb, hdg, hmeth', hr, ret, narrow_b1]
  (try refine ⟨rfl, ?_⟩); (try refine ⟨rfl, ?_⟩)
  first | (intro acts; rw [hret _ acts rfl rfl rfl]) | rw [hret _ _ rfl rfl rfl]
  exact Steps.refl _
/-- what holds at the law's entry: the machine, the code, the tables' words (any of lw_tbl by 'hts w (by decide +kernel)'), the script of L ints xs at the cell b, what the Statement gives of the start (any of its parts by flat_of_before) -/
def lw_At (p : Program) (s : State) (m : MethodId) (meth : Method) (c : Code) (b L : Nat) (xs : Nat → Int32) : Prop :=
  p.tables.exec = Jvm.exec ∧ c.code = code ∧ meth.sig.returnType = ret ∧ c.maxLocals = 4 ∧ s.vm.findClass R_law = some m.cls ∧ (∀ w ∈ lw_tbl, w.before #[Value.ref b] s = true) ∧ va_X b L xs s s.heap ∧ b < s.heap.size ∧ meth.locks = false ∧ (Jvm.Cond.and given_1 narrow_1).before #[Value.ref b] s = true ∧ meth.name = "law"
/-! THE START: what the Statement gives, as the constants' picture -/
theorem En_congr {E d : String} {nm : List String} {F : List (String × String × String × List Int32)} {ad ad' : Nat → Nat} {A : Nat → Prop} {U : State} {H : Heap} (h : va_En E d nm F ad A U H) (e : ∀ i, i < nm.length → ad' i = ad i) : va_En E d nm F ad' A U H :=
  ⟨fun i hi => by rw [e i hi]; exact h.1 i hi, fun i j hi hj q => h.2 i j hi hj (by rw [← e i hi, ← e j hj]; exact q)⟩
theorem Ef_congr {N : Nat} {o n d : String} {v v' : Nat → Value} {ad ad' : Nat → Nat} {A : Nat → Prop} {U : State} {H : Heap} (h : va_Ef N o n d v ad A U H) (e : ∀ i, i < N → ad' i = ad i) (e2 : ∀ i, i < N → v' i = v i) : va_Ef N o n d v' ad' A U H := fun i hi => by
  rw [e i hi, e2 i hi]
  exact h i hi
theorem vkS_congr {N : Nat} {len : List Nat} {byt : List (List Int32)} {a1 a2 b1 b2 : Nat → Nat} {A : Nat → Prop} {U : State} {H : Heap} (h : vk_S N len byt a1 a2 A U H) (e : ∀ i, i < N → b1 i = a1 i) (e2 : ∀ i, i < N → b2 i = a2 i) : vk_S N len byt b1 b2 A U H :=
  ⟨fun i hi => by rw [e i hi, e2 i hi]; exact h.1 i hi, fun i j hi hj q => h.2 i j hi hj (by rw [← e i hi, ← e j hj]; exact q)⟩
def adW (z : Nat) (aF aM aK aV : Nat → Nat) (tO tU tF b : Nat) : Nat → Nat := fun n => if n < 1000 then z + n else if n < 1010 then aF (n - 1000) else if n < 1020 then aM (n - 1010) else if n < 1030 then aK (n - 1020) else if n = 1030 then tO else if n = 1031 then tU else if n < 1050 then aV (n - 1040) else if n = 1050 then tF else b
set_option maxHeartbeats 4000000 in
set_option maxRecDepth 100000 in
theorem kst_start {s : State} {b L : Nat} {xs : Nat → Int32} (hts : ∀ w ∈ lw_tbl, w.before #[Value.ref b] s = true) (hgv : (Jvm.Cond.and given_1 narrow_1).before #[Value.ref b] s = true) (hX : va_X b L xs s s.heap) (hbl : b < s.heap.size) : ∃ g : GG, gz g = s.heap.size ∧ gL g = L ∧ gX g = xs ∧ ga g 2000 = b ∧ Kst g s s.heap := by
  have hs := flat_of_before _ hgv
  have hA : ∀ a : Nat, a < s.heap.size → ¬ (fun q : Nat => s.heap.size ≤ q) a := fun a h => Nat.not_le.mpr h
  obtain ⟨c0, i0, hKn0⟩ := u_known (C := RX0) (T := TX0) (N := 5) (n := 5) hts (by decide +kernel) (hts (.instantiable RX0 5) (by decide +kernel))
  obtain ⟨c1, i1, hKn1⟩ := u_known (C := RX1) (T := TX1) (N := 2) (n := 2) hts (by decide +kernel) (hts (.instantiable RX1 2) (by decide +kernel))
  obtain ⟨c2, i2, hKn2⟩ := u_known (C := RX2) (T := TX2) (N := 4) (n := 4) hts (by decide +kernel) (hts (.instantiable RX2 4) (by decide +kernel))
  obtain ⟨c3, i3, hKn3⟩ := u_known (C := RX3) (T := TX3) (N := 4) (n := 4) hts (by decide +kernel) (hts (.instantiable RX3 4) (by decide +kernel))
  obtain ⟨c4, i4, hKn4⟩ := u_known (C := RX6) (T := TX6) (N := 5) (n := 5) hts (by decide +kernel) (hts (.instantiable RX6 5) (by decide +kernel))
  obtain ⟨c5, i5, hKn5⟩ := u_known (C := RX7) (T := TX7) (N := 2) (n := 2) hts (by decide +kernel) (hts (.instantiable RX7 2) (by decide +kernel))
  obtain ⟨c6, i6, hKn6⟩ := u_known (C := RX8) (T := TX8) (N := 4) (n := 4) hts (by decide +kernel) (hts (.instantiable RX8 4) (by decide +kernel))
  obtain ⟨c7, i7, hKn7⟩ := u_known (C := RX9) (T := TX9) (N := 11) (n := 11) hts (by decide +kernel) (hts (.instantiable RX9 11) (by decide +kernel))
  obtain ⟨c8, i8, hKn8⟩ := u_known (C := RX10) (T := TX10) (N := 30) (n := 30) hts (by decide +kernel) (hts (.instantiable RX10 30) (by decide +kernel))
  obtain ⟨aF, hF, -⟩ := va_Enof2 (E := RX4) (d := "LCrossTable$Field;") (nm := ["TOWN", "WARE", "AMOUNT", "ALL"]) (F := []) (A := fun q : Nat => s.heap.size ≤ q) (fun i hi => hts _ ((by decide +kernel : ∀ i, i < 4 → Cond.laysStatic RX4 (["TOWN", "WARE", "AMOUNT", "ALL"].getD i "") "LCrossTable$Field;" ∈ lw_tbl) i hi)) (hts (.initialized RX4) (by decide +kernel))
    (fun i hi => hs _ ((by decide +kernel : ∀ i, i < 4 → Cond.exactly (.static RX4 (["TOWN", "WARE", "AMOUNT", "ALL"].getD i "") "LCrossTable$Field;") RX4 ∈ flatC (Jvm.Cond.and given_1 narrow_1)) i hi)) (fun q hq => by cases hq)
    (fun i j hi hj hij => by
      rcases (by decide +kernel : ∀ i, i < 4 → ∀ j, j < 4 → i ≠ j → (Cond.not (.eq (.static RX4 (["TOWN", "WARE", "AMOUNT", "ALL"].getD i "") "LCrossTable$Field;") (.static RX4 (["TOWN", "WARE", "AMOUNT", "ALL"].getD j "") "LCrossTable$Field;")) ∈ flatC (Jvm.Cond.and given_1 narrow_1) ∨ Cond.not (.eq (.static RX4 (["TOWN", "WARE", "AMOUNT", "ALL"].getD j "") "LCrossTable$Field;") (.static RX4 (["TOWN", "WARE", "AMOUNT", "ALL"].getD i "") "LCrossTable$Field;")) ∈ flatC (Jvm.Cond.and given_1 narrow_1))) i hi j hj hij with q | q
      · exact Or.inl (hs _ q)
      · exact Or.inr (hs _ q)) hA
  obtain ⟨aM, hM, hMe⟩ := va_Enof2 (E := RX5) (d := "LCrossTable$Measure;") (nm := ["COUNT", "SUM", "MOST", "LEAST", "KINDS"]) (F := []) (A := fun q : Nat => s.heap.size ≤ q) (fun i hi => hts _ ((by decide +kernel : ∀ i, i < 5 → Cond.laysStatic RX5 (["COUNT", "SUM", "MOST", "LEAST", "KINDS"].getD i "") "LCrossTable$Measure;" ∈ lw_tbl) i hi)) (hts (.initialized RX5) (by decide +kernel))
    (fun i hi => hs _ ((by decide +kernel : ∀ i, i < 5 → Cond.exactly (.static RX5 (["COUNT", "SUM", "MOST", "LEAST", "KINDS"].getD i "") "LCrossTable$Measure;") RX5 ∈ flatC (Jvm.Cond.and given_1 narrow_1)) i hi)) (fun q hq => by cases hq)
    (fun i j hi hj hij => by
      rcases (by decide +kernel : ∀ i, i < 5 → ∀ j, j < 5 → i ≠ j → (Cond.not (.eq (.static RX5 (["COUNT", "SUM", "MOST", "LEAST", "KINDS"].getD i "") "LCrossTable$Measure;") (.static RX5 (["COUNT", "SUM", "MOST", "LEAST", "KINDS"].getD j "") "LCrossTable$Measure;")) ∈ flatC (Jvm.Cond.and given_1 narrow_1) ∨ Cond.not (.eq (.static RX5 (["COUNT", "SUM", "MOST", "LEAST", "KINDS"].getD j "") "LCrossTable$Measure;") (.static RX5 (["COUNT", "SUM", "MOST", "LEAST", "KINDS"].getD i "") "LCrossTable$Measure;")) ∈ flatC (Jvm.Cond.and given_1 narrow_1))) i hi j hj hij with q | q
      · exact Or.inl (hs _ q)
      · exact Or.inr (hs _ q)) hA
  obtain ⟨aK, aV, hSt, hKe⟩ := vk_Sof (N := 5) (tm := fun i => Term.string RX5 ([69, 75, 78, 81, 84].getD i 0)) (len := wLen) (byt := wByt) (A := fun q : Nat => s.heap.size ≤ q) (by decide +kernel)
    (fun i hi => hs _ ((by decide +kernel : ∀ i, i < 5 → Cond.exactly (Term.string RX5 ([69, 75, 78, 81, 84].getD i 0)) "java/lang/String" ∈ flatC (Jvm.Cond.and given_1 narrow_1)) i hi))
    (fun i hi => hs _ ((by decide +kernel : ∀ i, i < 5 → Cond.eq (.field (Term.string RX5 ([69, 75, 78, 81, 84].getD i 0)) "java/lang/String" "coder" "B") (.int 0) ∈ flatC (Jvm.Cond.and given_1 narrow_1)) i hi))
    (fun i hi => hs _ ((by decide +kernel : ∀ i, i < 5 → Cond.arrayOf (.field (Term.string RX5 ([69, 75, 78, 81, 84].getD i 0)) "java/lang/String" "value" "[B") .byte ∈ flatC (Jvm.Cond.and given_1 narrow_1)) i hi))
    (fun i hi => hs _ ((by decide +kernel : ∀ i, i < 5 → Cond.eq (.length (.field (Term.string RX5 ([69, 75, 78, 81, 84].getD i 0)) "java/lang/String" "value" "[B")) (.int (Int32.ofNat (wLen.getD i 0))) ∈ flatC (Jvm.Cond.and given_1 narrow_1)) i hi))
    (fun i hi j hj => hs _ ((by decide +kernel : ∀ i, i < 5 → ∀ j, j < wLen.getD i 0 → Cond.eq (.elem (.field (Term.string RX5 ([69, 75, 78, 81, 84].getD i 0)) "java/lang/String" "value" "[B") (.int (Int32.ofNat j))) (.int ((wByt.getD i []).getD j 0)) ∈ flatC (Jvm.Cond.and given_1 narrow_1)) i hi j hj))
    (fun i j hi hj hij => by
      rcases (by decide +kernel : ∀ i, i < 5 → ∀ j, j < 5 → i ≠ j → (Cond.not (Cond.eq (Term.string RX5 ([69, 75, 78, 81, 84].getD i 0)) (Term.string RX5 ([69, 75, 78, 81, 84].getD j 0))) ∈ flatC (Jvm.Cond.and given_1 narrow_1) ∨ Cond.not (Cond.eq (Term.string RX5 ([69, 75, 78, 81, 84].getD j 0)) (Term.string RX5 ([69, 75, 78, 81, 84].getD i 0))) ∈ flatC (Jvm.Cond.and given_1 narrow_1))) i hi j hj hij with q | q
      · exact Or.inl (hs _ q)
      · exact Or.inr (hs _ q)) hA
  have hWd : va_Ef 5 RX5 "word" "Ljava/lang/String;" (fun i => .ref (aK i)) aM (fun q : Nat => s.heap.size ≤ q) s s.heap := va_Efof (tm := fun i => Term.string RX5 ([69, 75, 78, 81, 84].getD i 0)) hMe (fun i hi => hs _ ((by decide +kernel : ∀ i, i < 5 → Cond.eq (.field (.static RX5 (["COUNT", "SUM", "MOST", "LEAST", "KINDS"].getD i "") "LCrossTable$Measure;") RX5 "word" "Ljava/lang/String;") (Term.string RX5 ([69, 75, 78, 81, 84].getD i 0)) ∈ flatC (Jvm.Cond.and given_1 narrow_1)) i hi)) hKe hA
  obtain ⟨tO, hOe, hO⟩ := va_Tof (tm := .static RX9 "ORDERS" "[I") (ty := .int) (N := 7) (f := fun j => .int (ordV j)) (A := fun q : Nat => s.heap.size ≤ q) (by decide) (hs _ (by decide +kernel)) (va_eqt (hs (Cond.eq (.length (.static RX9 "ORDERS" "[I")) (.int (Int32.ofNat 7))) (by decide +kernel))) (fun j hj => va_eqt (hs _ ((by decide +kernel : ∀ j, j < 7 → Cond.eq (.elem (.static RX9 "ORDERS" "[I") (.int (Int32.ofNat j))) (.int (ordV j)) ∈ flatC (Jvm.Cond.and given_1 narrow_1)) j hj))) hA
  obtain ⟨tU, hUe, hU⟩ := va_Tof (tm := .static RX9 "DOING_UNITS" "[J") (ty := .long) (N := 5) (f := fun j => .long (untV j)) (A := fun q : Nat => s.heap.size ≤ q) (by decide) (hs _ (by decide +kernel)) (va_eqt (hs (Cond.eq (.length (.static RX9 "DOING_UNITS" "[J")) (.int (Int32.ofNat 5))) (by decide +kernel))) (fun j hj => va_eqtl (hs _ ((by decide +kernel : ∀ j, j < 5 → Cond.eq (.elem (.static RX9 "DOING_UNITS" "[J") (.int (Int32.ofNat j))) (.long (untV j)) ∈ flatC (Jvm.Cond.and given_1 narrow_1)) j hj))) hA
  have hZO : va_Z RX9 "ORDERS" "[I" (.ref tO) (fun q : Nat => s.heap.size ≤ q) s s.heap := va_Zref (hts _ (by decide +kernel)) (hts _ (by decide +kernel)) hOe hA
  have hZU : va_Z RX9 "DOING_UNITS" "[J" (.ref tU) (fun q : Nat => s.heap.size ≤ q) s s.heap := va_Zref (hts _ (by decide +kernel)) (hts _ (by decide +kernel)) hUe hA
  have hZC : va_Z "java/lang/String" "COMPACT_STRINGS" "Z" (.int 1) (fun q : Nat => s.heap.size ≤ q) s s.heap := va_Zof (hts _ (by decide +kernel)) (hts _ (by decide +kernel)) (va_eqt (hs _ (by decide +kernel))) hA
  have hZP : va_Zq "jdk/internal/util/Preconditions" "SIOOBE_FORMATTER" "Ljava/util/function/BiFunction;" (fun q : Nat => s.heap.size ≤ q) s s.heap := va_Zqof (hts _ (by decide +kernel)) (hts _ (by decide +kernel)) (hs _ (by decide +kernel)) hA
  obtain ⟨cI, kI, pI, fI1, fI2, fI3⟩ := Cond.arrayClass_spec (hts (.arrayClass .int) (by decide +kernel))
  obtain ⟨cZ, kZ, pZ, fZ1, fZ2, fZ3⟩ := Cond.arrayClass_spec (hts (.arrayClass .boolean) (by decide +kernel))
  obtain ⟨pA, cA, kA, fA1, -, fA3, fA4, fA5⟩ := Cond.arrayOver_spec (hts (.arrayOver (.object RX0)) (by decide +kernel))
  obtain ⟨pE, cE, kE, fE1, -, fE3, fE4, fE5⟩ := Cond.arrayOver_spec (hts (.arrayOver (.object RX3)) (by decide +kernel))
  have key : ∀ (tF : Nat) (fF : Option Nat), va_Z "jdk/internal/util/Preconditions" "SIOOBE_FORMATTER" "Ljava/util/function/BiFunction;" (va_rf (fF.map (adW s.heap.size aF aM aK aV tO tU tF b))) (fun q : Nat => s.heap.size ≤ q) s s.heap → ∃ g : GG, gz g = s.heap.size ∧ gL g = L ∧ gX g = xs ∧ ga g 2000 = b ∧ Kst g s s.heap := by
    intro tF fF hP9
    refine ⟨(s.heap.size, adW s.heap.size aF aM aK aV tO tU tF b, ((fun k => if k = 0 then c0 else if k = 1 then c1 else if k = 2 then c2 else if k = 3 then c3 else if k = 4 then c4 else if k = 5 then c5 else if k = 6 then c6 else if k = 7 then c7 else c8), (fun k => if k = 0 then i0 else if k = 1 then i1 else if k = 2 then i2 else if k = 3 then i3 else if k = 4 then i4 else if k = 5 then i5 else if k = 6 then i6 else if k = 7 then i7 else i8)), (fun k => if k = 0 then cI else if k = 1 then cZ else if k = 2 then cA else cE), L, xs, fF), rfl, rfl, rfl, rfl, ?_, ?_, ⟨?_, ?_, ?_, ?_, hZO, hO, hZU, hU, hZC, hX, hP9⟩, hbl, ?_, va_AO.of (hts (.arrayOver (.object RX0)) (by decide +kernel)), va_AO.of (hts (.arrayOver (.object RX3)) (by decide +kernel))⟩
    · intro n hn
      show adW _ _ _ _ _ _ _ _ _ n = _
      rw [adW, if_pos hn]
      rfl
    · refine ⟨?_, ?_⟩
      · intro k q hq
        match k, hq with
        | 0, hq => cases hq; exact hKn0
        | 1, hq => cases hq; exact hKn1
        | 2, hq => cases hq; exact hKn2
        | 3, hq => cases hq; exact hKn3
        | 4, hq => cases hq; exact hKn4
        | 5, hq => cases hq; exact hKn5
        | 6, hq => cases hq; exact hKn6
        | 7, hq => cases hq; exact hKn7
        | 8, hq => cases hq; exact hKn8
        | k + 9, hq => simp [vwCl] at hq
      · intro k q hq
        match k, hq with
        | 0, hq => cases hq; exact ⟨fun n z => ⟨fun k h => (by cases h), kI, fI2, pI, fI3⟩, fI1⟩
        | 1, hq => cases hq; exact ⟨fun n z => ⟨fun k h => (by cases h), kZ, fZ2, pZ, fZ3⟩, fZ1⟩
        | 2, hq => cases hq; exact ⟨fun n z => ⟨fun k h => (by cases h), kA, fA3, pA, fA4⟩, kA, pA, fA3, fA4, fA1, fA5⟩
        | 3, hq => cases hq; exact ⟨fun n z => ⟨fun k h => (by cases h), kE, fE3, pE, fE4⟩, kE, pE, fE3, fE4, fE1, fE5⟩
        | k + 4, hq => simp [tyL] at hq
    · refine En_congr hF (fun i hi => ?_)
      have hi : i < 4 := hi
      show adW _ _ _ _ _ _ _ _ _ (1000 + i) = _
      rw [adW, if_neg (by omega), if_pos (by omega), show 1000 + i - 1000 = i by omega]
    · refine En_congr hM (fun i hi => ?_)
      have hi : i < 5 := hi
      show adW _ _ _ _ _ _ _ _ _ (1010 + i) = _
      rw [adW, if_neg (by omega), if_neg (by omega), if_pos (by omega), show 1010 + i - 1010 = i by omega]
    · refine Ef_congr hWd (fun i hi => ?_) (fun i hi => ?_)
      · show adW _ _ _ _ _ _ _ _ _ (1010 + i) = _
        rw [adW, if_neg (by omega), if_neg (by omega), if_pos (by omega), show 1010 + i - 1010 = i by omega]
      · show Value.ref (adW _ _ _ _ _ _ _ _ _ (1020 + i)) = _
        rw [adW, if_neg (by omega), if_neg (by omega), if_neg (by omega), if_pos (by omega), show 1020 + i - 1020 = i by omega]
    · refine vkS_congr hSt (fun i hi => ?_) (fun i hi => ?_)
      · show adW _ _ _ _ _ _ _ _ _ (1020 + i) = _
        rw [adW, if_neg (by omega), if_neg (by omega), if_neg (by omega), if_pos (by omega), show 1020 + i - 1020 = i by omega]
      · show adW _ _ _ _ _ _ _ _ _ (1040 + i) = _
        rw [adW, if_neg (by omega), if_neg (by omega), if_neg (by omega), if_neg (by omega), if_neg (by omega), if_neg (by omega), if_pos (by omega), show 1040 + i - 1040 = i by omega]
    · intro w hw
      refine va_Nw.of ?_ (hts w ((by decide +kernel : ∀ w ∈ nestW, w ∈ lw_tbl) w hw))
      exact (by decide +kernel : ∀ w ∈ nestW, w.onTables = true) w hw
  rcases hZP with h9 | ⟨t, h9⟩
  · exact key 0 none h9
  · refine key t (some 1050) ?_
    show va_Z _ _ _ (.ref (adW _ _ _ _ _ _ _ _ _ 1050)) _ _ _
    exact h9
/-- the empty heap -/
def h00 : HS := (fun _ _ => 0, fun _ _ => 0, fun _ _ => none, 0)

