theorem cat_i (x : Int32) : (Value.int x).category = 1 := rfl
theorem cat_l (x : Int64) : (Value.long x).category = 2 := rfl
theorem entL_r (n : Nat) (r : Option Nat) (t : List Value) : entL n (va_rf r :: t) = some (va_rf r) :: entL (n - 1) t := by cases r <;> rfl
theorem entL_i (n : Nat) (x : Int32) (t : List Value) : entL n (.int x :: t) = some (.int x) :: entL (n - 1) t := rfl
theorem entL_l (n : Nat) (x : Int64) (t : List Value) : entL n (.long x :: t) = some (.long x) :: none :: entL (n - 2) t := rfl
theorem Ct.of2 {g : GG} {l : Launch} {M : MD} {h : HS} {Q : Option Value → HS → Prop} {as : List Value} {lv0 : List (Option Value)} (hp : plainName M.1.cls = true) (hlen : (lg_sl as).length ≤ M.2.2.1) (he : entL M.2.2.1 as = lv0) (h0 : Wq g l M 0 0 0 lv0 [] h Q) : Ct g l M as h Q := Ct.of hp hlen (he ▸ h0)
