theorem wm_max_395 : Cond.methodLink RX4 49 Lib.Math.max.name ∈ gtbl := gtbl_of 395 (by decide +kernel) (by decide +kernel)
theorem wm_max_681 : Cond.methodLink RX9 319 Lib.Math.max.name ∈ gtbl := gtbl_of 681 (by decide +kernel) (by decide +kernel)
theorem wm_max_s : Cond.static Lib.Math.max.name ∈ gtbl := gtbl_of 396 (by decide +kernel) (by decide +kernel)
theorem wm_max_c : Cond.code Lib.Math.max.name Lib.Math.max.code 2 (some .int) ∈ gtbl := gtbl_of 397 (by decide +kernel) (by decide +kernel)
theorem wm_abs_675 : Cond.methodLink RX9 311 Lib.Math.abs.name ∈ gtbl := gtbl_of 675 (by decide +kernel) (by decide +kernel)
theorem wm_abs_s : Cond.static Lib.Math.abs.name ∈ gtbl := gtbl_of 676 (by decide +kernel) (by decide +kernel)
theorem wm_abs_c : Cond.code Lib.Math.abs.name Lib.Math.abs.code 1 (some .int) ∈ gtbl := gtbl_of 677 (by decide +kernel) (by decide +kernel)
theorem wm_i : Cond.initialized "java/lang/Math" ∈ gtbl := gtbl_of 64 (by decide +kernel) (by decide +kernel)
theorem q_mmax {g : GG} {l : Launch} {M : MD} {k w pc : Nat} {lv : List (Option Value)} {st : List Value} {h : HS} {Q : Option Value → HS → Prop} {ix : Nat} {x y : Int32} (hd : decode M.2.1 pc = .ok (.invokestatic ix, 3)) (hl : Cond.methodLink M.1.cls ix Lib.Math.max.name ∈ gtbl) (hf : 1 ≤ M.2.2.2.2.frames) (hlo : (st.map fun v => v.category).sum + 13 ≤ M.2.2.2.2.locals) (hk : k ≤ M.2.2.2.2.cells) (hw : w ≤ M.2.2.2.2.slots) (kk : Wq g l M k w (pc + 3) lv (.int (if x < y then y else x) :: st) h Q) : Wq g l M k w pc lv (.int y :: .int x :: st) h Q := by
  intro p e s m args below meth c C H ls locs hR hS hL
  have hts := C.2.2.2.2.2.2.2.1
  exact va_mmax C.1 C.2.1 (by rw [C.2.2.1, hL.1]) C.2.2.2.2.1 (hts _ hl) (hts _ wm_max_s) (hts _ wm_i) (hts _ wm_max_c) hf (by rw [cat_sum]; exact hlo) hk hw hd (kk p e s m args below meth c C H ls locs hR hS hL)
theorem q_mabs {g : GG} {l : Launch} {M : MD} {k w pc : Nat} {lv : List (Option Value)} {st : List Value} {h : HS} {Q : Option Value → HS → Prop} {ix : Nat} {x : Int32} (hd : decode M.2.1 pc = .ok (.invokestatic ix, 3)) (hl : Cond.methodLink M.1.cls ix Lib.Math.abs.name ∈ gtbl) (hf : 1 ≤ M.2.2.2.2.frames) (hlo : (st.map fun v => v.category).sum + 13 ≤ M.2.2.2.2.locals) (hk : k ≤ M.2.2.2.2.cells) (hw : w ≤ M.2.2.2.2.slots) (kk : Wq g l M k w (pc + 3) lv (.int (if 0 ≤ x then x else 0 - x) :: st) h Q) : Wq g l M k w pc lv (.int x :: st) h Q := by
  intro p e s m args below meth c C H ls locs hR hS hL
  have hts := C.2.2.2.2.2.2.2.1
  exact va_mabs C.1 C.2.1 (by rw [C.2.2.1, hL.1]) C.2.2.2.2.1 (hts _ hl) (hts _ wm_abs_s) (hts _ wm_i) (hts _ wm_abs_c) hf (by rw [cat_sum]; exact hlo) hk hw hd (kk p e s m args below meth c C H ls locs hR hS hL)
