/-! BASE: an abstract heap (ints, longs, references by name and place), its picture in the machine's heap, the judgement over it. Names below 1000 are cells that the law has made (name n stands at z + n); 1000.. the constants of Field, 1010.. of Measure, 1020.. their words, 1040.. the words' bytes, 1030, 1031 the class's static arrays, 2000 the script. -/
abbrev GG : Type := Nat × (Nat → Nat) × va_G × (Nat → ClassId) × Nat × (Nat → Int32) × Option Nat
def gz (g : GG) : Nat := g.1
def ga (g : GG) : Nat → Nat := g.2.1
def gD (g : GG) : va_G := g.2.2.1
def gC (g : GG) : Nat → ClassId := g.2.2.2.1
def gL (g : GG) : Nat := g.2.2.2.2.1
def gX (g : GG) : Nat → Int32 := g.2.2.2.2.2.1
def gF (g : GG) : Option Nat := g.2.2.2.2.2.2
def gA (g : GG) : Nat → Prop := fun q => gz g ≤ q
abbrev HS : Type := (Nat → Nat → Int32) × (Nat → Nat → Int64) × (Nat → Nat → Option Nat) × Nat
def hI (h : HS) : Nat → Nat → Int32 := h.1
def hJ (h : HS) : Nat → Nat → Int64 := h.2.1
def hP (h : HS) : Nat → Nat → Option Nat := h.2.2.1
def hN (h : HS) : Nat := h.2.2.2
def up2 {α : Type} (f : Nat → Nat → α) (n k : Nat) (x : α) : Nat → Nat → α := fun m j => if m = n ∧ j = k then x else f m j
def sI (h : HS) (n k : Nat) (x : Int32) : HS := (up2 h.1 n k x, h.2.1, h.2.2.1, h.2.2.2)
def sJ (h : HS) (n k : Nat) (x : Int64) : HS := (h.1, up2 h.2.1 n k x, h.2.2.1, h.2.2.2)
def sP (h : HS) (n k : Nat) (x : Option Nat) : HS := (h.1, h.2.1, up2 h.2.2.1 n k x, h.2.2.2)
def sR (h : HS) (n : Nat) (f : Nat → Int32) : HS := (fun m => if m = n then f else h.1 m, h.2.1, h.2.2.1, h.2.2.2)
def nw (h : HS) : HS := (fun m => if m = hN h then fun _ => 0 else h.1 m, fun m => if m = hN h then fun _ => 0 else h.2.1 m, fun m => if m = hN h then fun _ => none else h.2.2.1 m, hN h + 1)
/-- the kind of a name: 0 to 8 an object of that class of vwCl, 9 int[], 10 boolean[], 11 Act[], 12 Entries[] -/
def kd (n : Nat) : Nat := [7, 5, 9, 4, 4, 3, 9, 9, 9, 3, 9, 9, 9, 1, 11, 0, 0, 0, 0, 0, 0, 0, 0, 0, 0, 0, 0, 0, 0, 2, 9, 9, 9, 2, 9, 9, 9, 6, 9, 9, 10, 12, 8, 9, 9, 9, 9, 9, 9, 9, 9, 9, 9, 9, 10, 9, 3, 9, 9, 9, 3, 9, 9, 9].getD n 99
/-- the length of an array's name -/
def al (n : Nat) : Nat := [0, 0, 32, 0, 0, 0, 16, 16, 16, 0, 16, 16, 16, 0, 14, 0, 0, 0, 0, 0, 0, 0, 0, 0, 0, 0, 0, 0, 0, 0, 21, 21, 21, 0, 21, 21, 21, 0, 6, 6, 6, 2, 0, 32, 34, 17, 17, 21, 21, 21, 238, 6, 6, 6, 2, 34, 0, 16, 16, 16, 0, 16, 16, 16].getD n 0
def nf (ci : Nat) : Nat := [5, 2, 4, 4, 5, 2, 4, 11, 30].getD ci 0
def fty (ci : Nat) : Nat → FieldType := match ci with
  | 0 => tyX0
  | 1 => tyX1
  | 2 => tyX2
  | 3 => tyX3
  | 4 => tyX6
  | 5 => tyX7
  | 6 => tyX8
  | 7 => tyX9
  | _ => tyX10
def fv (g : GG) (h : HS) (n k : Nat) (ty : FieldType) : Value := match ty with
  | .long => .long (hJ h n k)
  | .object _ => va_rf ((hP h n k).map (ga g))
  | .array _ => va_rf ((hP h n k).map (ga g))
  | _ => .int (hI h n k)
def fl (g : GG) (h : HS) (n ci : Nat) : List Value := (List.range (nf ci)).map (fun k => fv g h n k (fty ci k))
def aq (g : GG) (h : HS) (n : Nat) : Nat → Option Nat := fun j => (hP h n j).map (ga g)
def ce (g : GG) (h : HS) (n : Nat) : va_E :=
  if kd n < 9 then .inr (kd n, fl g h n (kd n))
  else if kd n = 9 then .inl (gC g 0, al n, .inl (hI h n))
  else if kd n = 10 then .inl (gC g 1, al n, .inl (hI h n))
  else if kd n = 11 then .inl (gC g 2, al n, .inr (.inr (.inr (.inr (aq g h n)))))
  else .inl (gC g 3, al n, .inr (.inr (.inr (.inr (aq g h n)))))
def wl (g : GG) (h : HS) : va_W := (List.range (hN h)).map (fun n => (gz g + n, ce g h n))
def Rl (g : GG) (h : HS) (H : Heap) : Prop := H.size = gz g + hN h ∧ hN h ≤ 1000 ∧ va_P (gD g) vwCl (wl g h) H
theorem wl_get {g : GG} {h : HS} {n : Nat} (hn : n < hN h) : (wl g h)[n]? = some (gz g + n, ce g h n) := by
  simp [wl, hn]
theorem wl_len {g : GG} {h : HS} : (wl g h).length = hN h := by simp [wl]
theorem wl_D (g : GG) (h : HS) : va_D (gA g) (wl g h) := by
  have key : ∀ (k : Nat) (q : Nat × va_E), (wl g h)[k]? = some q → q.1 = gz g + k := by
    intro k q hk
    have hl : k < hN h := by rw [← wl_len (g := g)]; exact (List.getElem?_eq_some_iff.mp hk).1
    rw [wl_get hl] at hk
    cases hk
    rfl
  refine ⟨fun i j x y hi hj e => ?_, fun k q hk => ?_⟩
  · have h1 := key i x hi
    have h2 := key j y hj
    omega
  · have h1 := key k q hk
    show gz g ≤ q.1
    omega
theorem wl_set {g : GG} {h h' : HS} {n : Nat} {e : va_E} (hn : n < hN h) (hN' : hN h' = hN h) (he : ce g h' n = e) (ho : ∀ m, m ≠ n → ce g h' m = ce g h m) : (wl g h).set n (gz g + n, e) = wl g h' := by
  refine List.ext_getElem? (fun i => ?_)
  by_cases hi : i < hN h
  · rw [wl_get (h := h') (by omega)]
    by_cases hin : i = n
    · subst hin
      rw [List.getElem?_set_self (by rw [wl_len]; exact hi), he]
    · rw [List.getElem?_set_ne (Ne.symm hin), wl_get hi, ho i hin]
  · rw [List.getElem?_eq_none (by rw [List.length_set, wl_len]; omega), List.getElem?_eq_none (by rw [wl_len]; omega)]
theorem ce_obj {g : GG} {h : HS} {n ci : Nat} (hc : ci < 9) (hk : kd n = ci) : ce g h n = .inr (ci, fl g h n ci) := by
  subst hk
  simp [ce, hc]
theorem ce_int {g : GG} {h : HS} {n : Nat} (hk : kd n = 9) : ce g h n = .inl (gC g 0, al n, .inl (hI h n)) := by simp [ce, hk]
theorem ce_boo {g : GG} {h : HS} {n : Nat} (hk : kd n = 10) : ce g h n = .inl (gC g 1, al n, .inl (hI h n)) := by simp [ce, hk]
theorem ce_act {g : GG} {h : HS} {n : Nat} (hk : kd n = 11) : ce g h n = .inl (gC g 2, al n, .inr (.inr (.inr (.inr (aq g h n))))) := by simp [ce, hk]
theorem ce_ent {g : GG} {h : HS} {n : Nat} (hk : kd n = 12) : ce g h n = .inl (gC g 3, al n, .inr (.inr (.inr (.inr (aq g h n))))) := by simp [ce, hk]
/-- two heaps that hold the same of a name have the same cell there -/
theorem ce_congr {g : GG} {h h' : HS} {n : Nat} (h1 : hI h' n = hI h n) (h2 : hJ h' n = hJ h n) (h3 : hP h' n = hP h n) : ce g h' n = ce g h n := by
  have e : aq g h' n = aq g h n := by
    funext j
    simp only [aq, h3]
  simp only [ce, fl, fv, e, h1, h2, h3]
theorem up2_ne {α : Type} {f : Nat → Nat → α} {n k m : Nat} {x : α} (hm : m ≠ n) : up2 f n k x m = f m := by
  funext j
  simp [up2, hm]
theorem up2_eq {α : Type} {f : Nat → Nat → α} {n k : Nat} {x : α} : up2 f n k x n = fun j => if j = k then x else f n j := by
  funext j
  simp [up2]
def tv (g : GG) (v : Value) : Value := match v with
  | .ref n => .ref (ga g n)
  | v => v
theorem tv_rf (g : GG) (r : Option Nat) : tv g (va_rf r) = va_rf (r.map (ga g)) := by cases r <;> rfl
theorem tv_cat (g : GG) (v : Value) : (tv g v).category = v.category := by cases v <;> rfl
/-! locals, by their places; none: not known -/
def kill1 (l : List (Option Value)) : List (Option Value) := match l with
  | [] => []
  | _ :: t => none :: t
def setL : List (Option Value) → Nat → Value → List (Option Value)
  | [], _, _ => []
  | _ :: t, 0, v => some v :: t
  | a :: t, i + 1, v => a :: setL t i v
def setJ : List (Option Value) → Nat → Value → List (Option Value)
  | [], _, _ => []
  | _ :: t, 0, v => some v :: kill1 t
  | a :: t, i + 1, v => a :: setJ t i v
def LV (g : GG) (ls : Array Slot) (n : Nat) (lv : List (Option Value)) : Prop := ls.size = n ∧ lv_wf ls ∧ ∀ (i : Nat) (v : Value), lv[i]? = some (some v) → ls[i]? = some (.val (tv g v))
def asL (g : GG) (lv : List (Option Value)) : List (Nat × Value) := (List.range lv.length).filterMap (fun i => match lv[i]? with
  | some (some v) => some (i, tv g v)
  | _ => none)
theorem asL_mem {g : GG} {lv : List (Option Value)} {i : Nat} {v : Value} (h : lv[i]? = some (some v)) : (i, tv g v) ∈ asL g lv := by
  refine List.mem_filterMap.mpr ⟨i, List.mem_range.mpr (List.getElem?_eq_some_iff.mp h).1, ?_⟩
  rw [h]
theorem asL_of {g : GG} {lv : List (Option Value)} {q : Nat × Value} (h : q ∈ asL g lv) : ∃ v, lv[q.1]? = some (some v) ∧ q.2 = tv g v := by
  obtain ⟨i, -, hi⟩ := List.mem_filterMap.mp h
  split at hi
  · next v hv =>
    cases hi
    exact ⟨v, hv, rfl⟩
  · cases hi
theorem LV.has {g : GG} {ls : Array Slot} {n : Nat} {lv : List (Option Value)} (h : LV g ls n lv) : lv_has ls n (asL g lv) := by
  refine ⟨h.1, h.2.1, fun q hq => ?_⟩
  obtain ⟨v, h1, h2⟩ := asL_of hq
  rw [h2]
  exact h.2.2 q.1 v h1
theorem kill1_get {t : List (Option Value)} {j : Nat} {w : Value} (h : (kill1 t)[j]? = some (some w)) : j ≠ 0 ∧ t[j]? = some (some w) := by
  cases t with
  | nil => simp [kill1] at h
  | cons a t =>
    cases j with
    | zero => simp [kill1] at h
    | succ j => exact ⟨by omega, by simpa [kill1] using h⟩
theorem setL_get : ∀ (lv : List (Option Value)) (i : Nat) (v : Value) (j : Nat) (w : Value), (setL lv i v)[j]? = some (some w) → (j = i ∧ w = v) ∨ (j ≠ i ∧ lv[j]? = some (some w))
  | [], i, v, j, w, h => by simp [setL] at h
  | a :: t, 0, v, 0, w, h => by
    left
    simp [setL] at h
    exact ⟨rfl, h.symm⟩
  | a :: t, 0, v, j + 1, w, h => Or.inr ⟨by omega, by simpa [setL] using h⟩
  | a :: t, i + 1, v, 0, w, h => Or.inr ⟨by omega, by simpa [setL] using h⟩
  | a :: t, i + 1, v, j + 1, w, h => by
    rcases setL_get t i v j w (by simpa [setL] using h) with ⟨h1, h2⟩ | ⟨h1, h2⟩
    · left; exact ⟨by omega, h2⟩
    · right; exact ⟨by omega, by simpa using h2⟩
theorem setJ_get : ∀ (lv : List (Option Value)) (i : Nat) (v : Value) (j : Nat) (w : Value), (setJ lv i v)[j]? = some (some w) → (j = i ∧ w = v) ∨ (j ≠ i ∧ lv[j]? = some (some w) ∧ j ≠ i + 1)
  | [], i, v, j, w, h => by simp [setJ] at h
  | a :: t, 0, v, 0, w, h => by
    left
    simp [setJ] at h
    exact ⟨rfl, h.symm⟩
  | a :: t, 0, v, j + 1, w, h => by
    have h1 := kill1_get (t := t) (j := j) (w := w) (by simpa [setJ] using h)
    exact Or.inr ⟨by omega, by simpa using h1.2, by omega⟩
  | a :: t, i + 1, v, 0, w, h => Or.inr ⟨by omega, by simpa [setJ] using h, by omega⟩
  | a :: t, i + 1, v, j + 1, w, h => by
    rcases setJ_get t i v j w (by simpa [setJ] using h) with ⟨h1, h2⟩ | ⟨h1, h2, h3⟩
    · left; exact ⟨by omega, h2⟩
    · right; exact ⟨by omega, by simpa using h2, by omega⟩
/-- what stands just ahead of a place is no long -/
def nbk (lv : List (Option Value)) (i : Nat) : Prop := ∀ (j : Nat) (w : Value), j + 1 = i → lv[j]? = some (some w) → ¬ w.category = 2
theorem nb_0 {lv : List (Option Value)} : nbk lv 0 := fun j w h => by omega
theorem nb_n {lv : List (Option Value)} {j : Nat} (h : lv[j]? = some none) : nbk lv (j + 1) := fun i w hi hw => by
  have e : i = j := by omega
  subst e
  rw [h] at hw
  cases hw
theorem nb_i {lv : List (Option Value)} {j : Nat} {x : Int32} (h : lv[j]? = some (some (.int x))) : nbk lv (j + 1) := fun i w hi hw => by
  have e : i = j := by omega
  subst e
  rw [h] at hw
  cases hw
  intro q
  simp [Value.category] at q
theorem nb_r {lv : List (Option Value)} {j : Nat} {r : Option Nat} (h : lv[j]? = some (some (va_rf r))) : nbk lv (j + 1) := fun i w hi hw => by
  have e : i = j := by omega
  subst e
  rw [h] at hw
  cases hw
  cases r <;> (intro q; simp [va_rf, Value.category] at q)
theorem LV.set1 {g : GG} {ls : Array Slot} {n i : Nat} {lv : List (Option Value)} {v : Value} (hnb : nbk lv i) (hc : v.category = 1) (h : lv_has ls n ((i, tv g v) :: (asL g lv).filter (fun q => !(q.1 == i) && !(q.1 + 1 == i && q.2.category == 2)))) : LV g ls n (setL lv i v) := by
  refine ⟨h.1, h.2.1, fun j w hw => ?_⟩
  rcases setL_get lv i v j w hw with ⟨h1, h2⟩ | ⟨h1, h2⟩
  · subst h1; subst h2
    exact h.2.2 _ List.mem_cons_self
  · refine h.2.2 (j, tv g w) (List.mem_cons_of_mem _ (List.mem_filter.mpr ⟨asL_mem h2, ?_⟩))
    simp only [tv_cat, Bool.and_eq_true, Bool.not_eq_true', beq_eq_false_iff_ne, Bool.and_eq_false_iff]
    refine ⟨h1, ?_⟩
    by_cases q : j + 1 = i
    · exact Or.inr (hnb j w q h2)
    · exact Or.inl q
theorem LV.set2 {g : GG} {ls : Array Slot} {n i : Nat} {lv : List (Option Value)} {v : Value} (hnb : nbk lv i) (hc : v.category = 2) (h : lv_has ls n ((i, tv g v) :: (asL g lv).filter (fun q => !(q.1 == i) && (!(q.1 == i + 1) && !(q.1 + 1 == i && q.2.category == 2))))) : LV g ls n (setJ lv i v) := by
  refine ⟨h.1, h.2.1, fun j w hw => ?_⟩
  rcases setJ_get lv i v j w hw with ⟨h1, h2⟩ | ⟨h1, h2, h4⟩
  · subst h1; subst h2
    exact h.2.2 _ List.mem_cons_self
  · refine h.2.2 (j, tv g w) (List.mem_cons_of_mem _ (List.mem_filter.mpr ⟨asL_mem h2, ?_⟩))
    simp only [tv_cat, Bool.and_eq_true, Bool.not_eq_true', beq_eq_false_iff_ne, Bool.and_eq_false_iff]
    refine ⟨h1, h4, ?_⟩
    by_cases q : j + 1 = i
    · exact Or.inr (hnb j w q h2)
    · exact Or.inl q
/-- of the locals only those that a mask names -/
def lmask : List (Option Value) → List Bool → List (Option Value)
  | a :: t, true :: m => a :: lmask t m
  | _ :: t, false :: m => none :: lmask t m
  | _, _ => []
theorem lmask_get : ∀ (lv : List (Option Value)) (m : List Bool) (i : Nat) (v : Value), (lmask lv m)[i]? = some (some v) → lv[i]? = some (some v)
  | [], _, i, v, h => by cases i <;> simp [lmask] at h
  | _ :: _, [], i, v, h => by cases i <;> simp [lmask] at h
  | a :: t, true :: m, 0, v, h => by simpa [lmask] using h
  | a :: t, true :: m, i + 1, v, h => by simpa using lmask_get t m i v (by simpa [lmask] using h)
  | a :: t, false :: m, 0, v, h => by simp [lmask] at h
  | a :: t, false :: m, i + 1, v, h => by simpa using lmask_get t m i v (by simpa [lmask] using h)
theorem LV.mask {g : GG} {ls : Array Slot} {n : Nat} {lv : List (Option Value)} (m : List Bool) (h : LV g ls n lv) : LV g ls n (lmask lv m) := ⟨h.1, h.2.1, fun i v hv => h.2.2 i v (lmask_get lv m i v hv)⟩
/-- the locals at a method's entry -/
def entL : Nat → List Value → List (Option Value)
  | n, [] => List.replicate n none
  | n, v :: t => match v with
    | .long _ => some v :: none :: entL (n - 2) t
    | .double _ => some v :: none :: entL (n - 2) t
    | _ => some v :: entL (n - 1) t
theorem entL_get (g : GG) : ∀ (vs : List Value) (n k i : Nat) (v : Value), (entL n vs)[i]? = some (some v) → (k + i, tv g v) ∈ lv_args k (vs.map (tv g))
  | [], n, k, i, v, h => by
    simp only [entL, List.getElem?_replicate] at h
    split at h <;> simp at h
  | x :: t, n, k, i, v, h => by
    have step2 : ∀ (y : Value), x.category = 2 → (some x :: none :: entL (n - 2) t)[i]? = some (some v) → (k + i, tv g v) ∈ lv_args k ((x :: t).map (tv g)) := by
      intro y hx hh
      match i, hh with
      | 0, hh => simp at hh; subst hh; simp [lv_args]
      | 1, hh => simp at hh
      | i + 2, hh =>
        have h1 := entL_get g t (n - 2) (k + 2) i v (by simpa using hh)
        simp only [List.map_cons, lv_args, tv_cat, hx]
        refine List.mem_cons_of_mem _ ?_
        have e : k + (i + 2) = k + 2 + i := by omega
        rw [e]
        exact h1
    have step1 : x.category = 1 → (some x :: entL (n - 1) t)[i]? = some (some v) → (k + i, tv g v) ∈ lv_args k ((x :: t).map (tv g)) := by
      intro hx hh
      match i, hh with
      | 0, hh => simp at hh; subst hh; simp [lv_args]
      | i + 1, hh =>
        have h1 := entL_get g t (n - 1) (k + 1) i v (by simpa using hh)
        simp only [List.map_cons, lv_args, tv_cat, hx]
        refine List.mem_cons_of_mem _ ?_
        have e : k + (i + 1) = k + 1 + i := by omega
        rw [e]
        exact h1
    cases x with
    | long y => exact step2 .null rfl (by simpa [entL] using h)
    | double y => exact step2 .null rfl (by simpa [entL] using h)
    | int y => exact step1 rfl (by simpa [entL] using h)
    | float y => exact step1 rfl (by simpa [entL] using h)
    | null => exact step1 rfl (by simpa [entL] using h)
    | ref y => exact step1 rfl (by simpa [entL] using h)
    | retAddr y => exact step1 rfl (by simpa [entL] using h)
