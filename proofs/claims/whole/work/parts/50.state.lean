/-! PURE: the state that both sides hold, and the two pictures of it -/
abbrev SL : Type := List (Int32 × Int32 × Bool)
abbrev ST : Type := List Nat × PL × EL × List EL × SL × Int64 × Option EL × Option EL
def T9 (h : HS) (T : List Nat) : Prop := ck h 1 5 = true ∧ hP h 1 0 = some 2 ∧ ck h 2 9 = true ∧ T.length ≤ 32 ∧ hI h 1 1 = nI T.length ∧ (∀ i, i < T.length → hI h 2 i = nI (ka T i)) ∧ ∀ i, i < T.length → ka T i ≤ 255
/-- an act of the class takes E back to s -/
def TB (h : HS) (o : Nat) (E s : EL) : Prop :=
  (hI h o 0 = 0 ∧ ∃ p, hI h o 1 = nI p ∧ p < E.length ∧ s = E.eraseIdx p) ∨
  (hI h o 0 = 1 ∧ ∃ p t w a, hI h o 1 = nI p ∧ hI h o 2 = nI t ∧ hI h o 3 = nI w ∧ hI h o 4 = nI a ∧ p ≤ E.length ∧ E.length < 16 ∧ EOK (t, w, a) ∧ s = E.insertIdx p (t, w, a)) ∨
  (hI h o 0 = 2 ∧ ∃ p a, hI h o 1 = nI p ∧ hI h o 4 = nI a ∧ p < E.length ∧ a ≤ 100 ∧ s = E.set p (tw E p, wa E p, a))
def AC (h : HS) (g : Nat → Nat) : EL → List EL → Prop
  | _, [] => True
  | E, s :: t => TB h (15 + g t.length) E s ∧ EV s ∧ AC h g s t
def A9 (h : HS) (E : EL) (A : List EL) : Prop := ck h 13 1 = true ∧ hP h 13 0 = some 14 ∧ ck h 14 11 = true ∧ A.length ≤ 14 ∧ hI h 13 1 = nI A.length ∧ (∀ j, j < 14 → ck h (15 + j) 0 = true) ∧ ∃ g : Nat → Nat, (∀ i, i < 14 → hP h 14 i = some (15 + g i) ∧ g i < 14) ∧ (∀ i j, i < 14 → j < 14 → g i = g j → i = j) ∧ AC h g E A
def b2 (b : Bool) : Int32 := if b = true then 1 else 0
def S9 (h : HS) (S : SL) : Prop := ck h 37 6 = true ∧ (hP h 37 0 = some 38 ∧ hP h 37 1 = some 39 ∧ hP h 37 2 = some 40) ∧ (ck h 38 9 = true ∧ ck h 39 9 = true ∧ ck h 40 10 = true) ∧ S.length ≤ 6 ∧ hI h 37 3 = nI S.length ∧ ∀ i, i < S.length → hI h 38 i = (S.getD i (0, 0, false)).1 ∧ hI h 39 i = (S.getD i (0, 0, false)).2.1 ∧ hI h 40 i = b2 (S.getD i (0, 0, false)).2.2
def Kp (h : HS) (e : Option Nat) (k : Option EL) : Prop := match e, k with
  | none, none => True
  | some e, some X => ER h e X
  | _, _ => False
def K9 (h : HS) (k0 k1 : Option EL) : Prop := ck h 41 12 = true ∧ ∃ e0 e1, hP h 41 0 = e0 ∧ hP h 41 1 = e1 ∧ Kp h e0 k0 ∧ Kp h e1 k1 ∧ ((e0 = none ∧ e1 = none ∧ hN h = 56) ∨ (e0 = some 56 ∧ e1 = none ∧ hN h = 60) ∨ (e0 = none ∧ e1 = some 56 ∧ hN h = 60) ∨ (e0 = some 56 ∧ e1 = some 60 ∧ hN h = 64) ∨ (e0 = some 60 ∧ e1 = some 56 ∧ hN h = 64))
def R9 (h : HS) (a : ST) : Prop := (∃ p q, W9 h p q a.2.1) ∧ T9 h a.1 ∧ ER h 5 a.2.2.1 ∧ EN h 9 ∧ A9 h a.2.2.1 a.2.2.2.1 ∧ S9 h a.2.2.2.2.1 ∧ hJ h 0 10 = a.2.2.2.2.2.1 ∧ K9 h a.2.2.2.2.2.2.1 a.2.2.2.2.2.2.2
theorem T9.fr {S : Nat → Nat → Prop} {h h' : HS} {T : List Nat} (x : T9 h T) (c : Ch S h h') (hS : ∀ n k, S n k → n ≠ 1 ∧ n ≠ 2) : T9 h' T := by
  obtain ⟨x1, x2, x3, x4, x5, x6, x7⟩ := x
  refine ⟨by rw [c.ck]; exact x1, ?_, by rw [c.ck]; exact x3, x4, ?_, fun i hi => ?_, x7⟩
  · rw [c.P (fun z => (hS _ _ z).1 rfl)]; exact x2
  · rw [c.I (fun z => (hS _ _ z).1 rfl)]; exact x5
  · rw [c.I (fun z => (hS _ _ z).2 rfl)]; exact x6 i hi
theorem TB.fr {h h' : HS} {o : Nat} {E s : EL} (x : TB h o E s) (c : ∀ k, k < 5 → hI h' o k = hI h o k) : TB h' o E s := by
  unfold TB at x ⊢
  rw [c 0 (by omega), c 1 (by omega), c 2 (by omega), c 3 (by omega), c 4 (by omega)]
  exact x
theorem AC.fr {h h' : HS} {g g' : Nat → Nat} : ∀ (A : List EL) (E : EL), AC h g E A → (∀ i, i < A.length → g' i = g i ∧ ∀ k, k < 5 → hI h' (15 + g i) k = hI h (15 + g i) k) → AC h' g' E A
  | [], _, _, _ => trivial
  | s :: t, E, x, c => by
    have h1 := c t.length (by simp)
    refine ⟨?_, x.2.1, AC.fr t s x.2.2 (fun i hi => c i (by simp only [List.length_cons]; omega))⟩
    rw [h1.1]
    exact x.1.fr h1.2
theorem A9.fr {S : Nat → Nat → Prop} {h h' : HS} {E : EL} {A : List EL} (x : A9 h E A) (c : Ch S h h') (hS : ∀ n k, S n k → n < 13 ∨ 28 < n) : A9 h' E A := by
  obtain ⟨x1, x2, x3, x4, x5, x6, g, x7, x8, x9⟩ := x
  refine ⟨by rw [c.ck]; exact x1, ?_, by rw [c.ck]; exact x3, x4, ?_, fun j hj => by rw [c.ck]; exact x6 j hj, g, fun i hi => ⟨?_, (x7 i hi).2⟩, x8, ?_⟩
  · rw [c.P (fun z => by have := hS _ _ z; omega)]; exact x2
  · rw [c.I (fun z => by have := hS _ _ z; omega)]; exact x5
  · rw [c.P (fun z => by have := hS _ _ z; omega)]; exact (x7 i hi).1
  · refine AC.fr A E x9 (fun i hi => ⟨rfl, fun k _ => c.I (fun z => ?_)⟩)
    have h1 := hS _ _ z
    have h2 := (x7 i (by omega)).2
    omega
theorem S9.fr {S : Nat → Nat → Prop} {h h' : HS} {L : SL} (x : S9 h L) (c : Ch S h h') (hS : ∀ n k, S n k → n < 37 ∨ 40 < n) : S9 h' L := by
  obtain ⟨x1, ⟨x2, x3, x4⟩, ⟨x5, x6, x7⟩, x8, x9, y1⟩ := x
  refine ⟨by rw [c.ck]; exact x1, ⟨?_, ?_, ?_⟩, ⟨by rw [c.ck]; exact x5, by rw [c.ck]; exact x6, by rw [c.ck]; exact x7⟩, x8, ?_, fun i hi => ?_⟩
  · rw [c.P (fun z => by have := hS _ _ z; omega)]; exact x2
  · rw [c.P (fun z => by have := hS _ _ z; omega)]; exact x3
  · rw [c.P (fun z => by have := hS _ _ z; omega)]; exact x4
  · rw [c.I (fun z => by have := hS _ _ z; omega)]; exact x9
  · rw [c.I (fun z => by have := hS _ _ z; omega), c.I (fun z => by have := hS _ _ z; omega), c.I (fun z => by have := hS _ _ z; omega)]; exact y1 i hi
theorem Kp.fr {S : Nat → Nat → Prop} {h h' : HS} {e : Option Nat} {k : Option EL} (x : Kp h e k) (c : Ch S h h') (hS : ∀ n k, S n k → n < 56) (he : ∀ n, e = some n → 56 ≤ n) : Kp h' e k := by
  cases e with
  | none => cases k with
    | none => trivial
    | some X => exact x
  | some n => cases k with
    | none => exact x
    | some X =>
      refine ER.fr (x : ER h n X) c (fun m k h1 h2 z => ?_)
      have := hS _ _ z
      have := he n rfl
      omega
theorem K9.fr {S : Nat → Nat → Prop} {h h' : HS} {k0 k1 : Option EL} (x : K9 h k0 k1) (c : Ch S h h') (hS : ∀ n k, S n k → n < 56 ∧ n ≠ 41) : K9 h' k0 k1 := by
  obtain ⟨x1, e0, e1, x2, x3, x4, x5, x6⟩ := x
  have g0 : ∀ n, e0 = some n → 56 ≤ n := by
    intro n hn
    subst hn
    rcases x6 with ⟨q, _⟩ | ⟨q, _⟩ | ⟨q, _⟩ | ⟨q, _⟩ | ⟨q, _⟩ <;> simp at q <;> omega
  have g1 : ∀ n, e1 = some n → 56 ≤ n := by
    intro n hn
    subst hn
    rcases x6 with ⟨_, q, _⟩ | ⟨_, q, _⟩ | ⟨_, q, _⟩ | ⟨_, q, _⟩ | ⟨_, q, _⟩ <;> simp at q <;> omega
  refine ⟨by rw [c.ck]; exact x1, e0, e1, ?_, ?_, x4.fr c (fun n k z => (hS n k z).1) g0, x5.fr c (fun n k z => (hS n k z).1) g1, by rw [c.1]; exact x6⟩
  · rw [c.P (fun z => (hS _ _ z).2 rfl)]; exact x2
  · rw [c.P (fun z => (hS _ _ z).2 rfl)]; exact x3
theorem K9.n56 {h : HS} {k0 k1 : Option EL} (x : K9 h k0 k1) : 56 ≤ hN h := by
  obtain ⟨_, e0, e1, _, _, _, _, x6⟩ := x
  omega
/-- what the class writes, what the reference writes -/
def F9 (m _k : Nat) : Prop := m < 42 ∨ 56 ≤ m
def F10 (m _k : Nat) : Prop := 42 ≤ m ∧ m < 56
theorem R9.fr {h h' : HS} {a : ST} (x : R9 h a) (c : Ch F10 h h') : R9 h' a := by
  obtain ⟨⟨p, q, x1⟩, x2, x3, x4, x5, x6, x7, x8⟩ := x
  refine ⟨⟨p, q, x1.fr c (fun k _ z => by unfold F10 at z; omega) (fun k z => by unfold F10 at z; omega) (fun k z => by unfold F10 at z; omega) (fun k _ z => by unfold F10 at z; omega) (fun k _ z => by unfold F10 at z; omega)⟩, x2.fr c (fun n k z => by unfold F10 at z; omega), x3.fr c (fun n k _ _ z => by unfold F10 at z; omega), x4.fr c (fun n k _ _ z => by unfold F10 at z; omega), x5.fr c (fun n k z => by unfold F10 at z; omega), x6.fr c (fun n k z => by unfold F10 at z; omega), ?_, x8.fr c (fun n k z => by unfold F10 at z; omega)⟩
  rw [c.J (fun z => by unfold F10 at z; omega)]; exact x7
/-- questions: only axes and the trial change -/
def FQ (m k : Nat) : Prop := SA m k ∨ (9 ≤ m ∧ m ≤ 12)
theorem R9.q {h h' : HS} {a : ST} (x : R9 h a) (c : Ch FQ h h') (h9 : EN h' 9) : R9 h' a := by
  obtain ⟨⟨p, q, x1⟩, x2, x3, x4, x5, x6, x7, x8⟩ := x
  refine ⟨⟨p, q, x1.fr c (fun k _ z => by unfold FQ SA at z; omega) (fun k z => by unfold FQ SA at z; omega) (fun k z => by unfold FQ SA at z; omega) (fun k _ z => by unfold FQ SA at z; omega) (fun k _ z => by unfold FQ SA at z; omega)⟩, x2.fr c (fun n k z => by unfold FQ SA at z; omega), x3.fr c (fun n k _ _ z => by unfold FQ SA at z; omega), h9, x5.fr c (fun n k z => by unfold FQ SA at z; omega), x6.fr c (fun n k z => by unfold FQ SA at z; omega), ?_, x8.fr c (fun n k z => by unfold FQ SA at z; omega)⟩
  rw [c.J (fun z => by unfold FQ SA at z; omega)]; exact x7
theorem R9.sa {h h' : HS} {a : ST} (x : R9 h a) (c : Ch SA h h') : R9 h' a := x.q (c.mono (fun m k z => Or.inl z)) (x.2.2.2.1.fr c (fun n k h1 h2 z => by unfold SA at z; omega))
theorem FQ_F9 {m k : Nat} (z : FQ m k) : F9 m k := by
  unfold FQ SA at z
  unfold F9
  omega
theorem SA_F9 {m k : Nat} (z : SA m k) : F9 m k := FQ_F9 (Or.inl z)
/-! the reference's picture -/
def T10 (h : HS) (T : List Nat) : Prop := T.length ≤ 32 ∧ hI h 42 11 = nI T.length ∧ (∀ i, i < T.length → hI h 43 i = nI (ka T i)) ∧ ∀ i, i < T.length → ka T i ≤ 255
def A10 (h : HS) (A : List EL) : Prop := A.length ≤ 14 ∧ hI h 42 20 = nI A.length ∧ ∃ nx, nx < 14 ∧ hI h 42 21 = nI nx ∧ ∀ j, j < A.length → BV h 50 (17 * ((nx + 13 - j) % 14)) (A.getD j [])
def S10 (h : HS) (S : SL) : Prop := S.length ≤ 6 ∧ hI h 42 23 = nI S.length ∧ ∀ i, i < S.length → hI h 51 i = (S.getD i (0, 0, false)).1 ∧ hI h 52 i = (S.getD i (0, 0, false)).2.1 ∧ hI h 53 i = b2 (S.getD i (0, 0, false)).2.2
def Kq (h : HS) (s : Nat) (k : Option EL) : Prop := match k with
  | none => hI h 54 s = 0
  | some X => hI h 54 s = 1 ∧ BV h 55 (17 * s) X
def R10 (h : HS) (a : ST) : Prop := C10 h ∧ MP h a.2.1 ∧ PV a.2.1 ∧ T10 h a.1 ∧ MV h 0 a.2.2.1 ∧ A10 h a.2.2.2.1 ∧ S10 h a.2.2.2.2.1 ∧ hJ h 42 27 = a.2.2.2.2.2.1 ∧ Kq h 0 a.2.2.2.2.2.2.1 ∧ Kq h 1 a.2.2.2.2.2.2.2
theorem ck_up {h h' : HS} {n ci : Nat} (hN' : hN h ≤ hN h') (x : ck h n ci = true) : ck h' n ci = true := by
  simp only [ck, Bool.and_eq_true, decide_eq_true_eq] at x ⊢
  exact ⟨by omega, x.2⟩
theorem R10.up {h h' : HS} {a : ST} (x : R10 h a) (hN' : hN h ≤ hN h') (c : ∀ n k, 42 ≤ n → n < 56 → hI h' n k = hI h n k ∧ hJ h' n k = hJ h n k ∧ hP h' n k = hP h n k) : R10 h' a := by
  have cI : ∀ n k, 42 ≤ n → n < 56 → hI h' n k = hI h n k := fun n k h1 h2 => (c n k h1 h2).1
  obtain ⟨⟨⟨x0, x1, x2, x3, x4, x5, x6, x7, x8, x9, x10, x11, x12, x13⟩, ⟨y0, y1, y2, y3, y4, y5, y6, y7, y8, y9, y10, y11, y12⟩⟩, ⟨m0, m1, m2, m3, m4⟩, hV, ⟨t1, t2, t3, t4⟩, ⟨e1, e2, e3⟩, ⟨a1, a2, nx, a3, a4, a5⟩, ⟨s1, s2, s3⟩, hJ1, k0, k1⟩ := x
  have cP : ∀ k, hP h' 42 k = hP h 42 k := fun k => (c 42 k (by omega) (by omega)).2.2
  have bv : ∀ n b X, 42 ≤ n → n < 56 → BV h n b X → BV h' n b X := fun n b X h1 h2 q => ⟨q.1, by rw [cI n _ h1 h2]; exact q.2.1, fun i hi => by rw [cI n _ h1 h2]; exact q.2.2 i hi⟩
  have kq : ∀ s k, Kq h s k → Kq h' s k := fun s k q => by
    cases k with
    | none => show hI h' 54 s = 0; rw [cI 54 _ (by omega) (by omega)]; exact q
    | some X => exact ⟨by rw [cI 54 _ (by omega) (by omega)]; exact q.1, bv 55 _ X (by omega) (by omega) q.2⟩
  refine ⟨⟨⟨ck_up hN' x0, ck_up hN' x1, ck_up hN' x2, ck_up hN' x3, ck_up hN' x4, ck_up hN' x5, ck_up hN' x6, ck_up hN' x7, ck_up hN' x8, ck_up hN' x9, ck_up hN' x10, ck_up hN' x11, ck_up hN' x12, ck_up hN' x13⟩, ⟨?_, ?_, ?_, ?_, ?_, ?_, ?_, ?_, ?_, ?_, ?_, ?_, ?_⟩⟩, ⟨?_, ?_, ?_, ?_, ?_⟩, hV, ⟨t1, ?_, fun i hi => ?_, t4⟩, ⟨e1, ?_, fun i hi => ?_⟩, ⟨a1, ?_, nx, a3, ?_, fun j hj => bv 50 _ _ (by omega) (by omega) (a5 j hj)⟩, ⟨s1, ?_, fun i hi => ?_⟩, ?_, kq 0 _ k0, kq 1 _ k1⟩
  any_goals (rw [cP]; assumption)
  any_goals (rw [cI _ _ (by omega) (by omega)]; assumption)
  · rw [cI _ _ (by omega) (by omega)]; exact t3 i hi
  · rw [cI _ _ (by omega) (by omega)]; exact e3 i hi
  · rw [cI _ _ (by omega) (by omega), cI _ _ (by omega) (by omega), cI _ _ (by omega) (by omega)]; exact s3 i hi
  · rw [(c 42 27 (by omega) (by omega)).2.1]; exact hJ1
theorem R10.fr {h h' : HS} {a : ST} (x : R10 h a) (c : Ch F9 h h') : R10 h' a := x.up (Nat.le_of_eq c.1.symm) (fun n k h1 h2 => c.2 n k (fun z => by unfold F9 at z; omega))
/-- questions of the reference -/
def FM (m k : Nat) : Prop := SR m k ∨ SK m k ∨ SC 44 17 m k
theorem R10.q {h h' : HS} {a : ST} (x : R10 h a) (c : Ch FM h h') : R10 h' a := by
  obtain ⟨x1, x2, hV, ⟨t1, t2, t3, t4⟩, x5, ⟨a1, a2, nx, a3, a4, a5⟩, ⟨s1, s2, s3⟩, hJ1, k0, k1⟩ := x
  have kq : ∀ s k, Kq h s k → Kq h' s k := fun s k q => by
    cases k with
    | none => show hI h' 54 s = 0; rw [c.I (fun z => by unfold FM SR SK SC at z; omega)]; exact q
    | some X => exact ⟨by rw [c.I (fun z => by unfold FM SR SK SC at z; omega)]; exact q.1, q.2.fr c (fun k _ _ z => by unfold FM SR SK SC at z; omega)⟩
  refine ⟨x1.fr c (fun n k z q => by unfold FM SR SK SC at z; omega), x2.fr c (fun k _ z => by unfold FM SR SK SC at z; omega), hV, ⟨t1, ?_, fun i hi => ?_, t4⟩, x5.fr c (fun k _ _ z => by unfold FM SR SK SC at z; omega), ⟨a1, ?_, nx, a3, ?_, fun j hj => (a5 j hj).fr c (fun k _ _ z => by unfold FM SR SK SC at z; omega)⟩, ⟨s1, ?_, fun i hi => ?_⟩, ?_, kq 0 _ k0, kq 1 _ k1⟩
  · rw [c.I (fun z => by unfold FM SR SK SC at z; omega)]; exact t2
  · rw [c.I (fun z => by unfold FM SR SK SC at z; omega)]; exact t3 i hi
  · rw [c.I (fun z => by unfold FM SR SK SC at z; omega)]; exact a2
  · rw [c.I (fun z => by unfold FM SR SK SC at z; omega)]; exact a4
  · rw [c.I (fun z => by unfold FM SR SK SC at z; omega)]; exact s2
  · rw [c.I (fun z => by unfold FM SR SK SC at z; omega), c.I (fun z => by unfold FM SR SK SC at z; omega), c.I (fun z => by unfold FM SR SK SC at z; omega)]; exact s3 i hi
  · rw [c.J (fun z => by unfold FM SR SK SC at z; omega)]; exact hJ1
theorem FM_F10 {m k : Nat} (z : FM m k) : F10 m k := by
  unfold FM SR SK SC at z
  unfold F10
  omega
