theorem rs_big : 100000 ≤ room_1.slots := by decide
def b_L_law_1007 (L : Nat) (X : Nat → Int32) (k18 : Option Nat → Option Nat → Int32 → HS → Option (Int32 × HS)) (a1 : Option Nat) (a2 : Option Nat) (a3 : Int32) (h : HS) : Option (Int32 × HS) :=
  k18 a1 a2 (a3 + (5 : Int32)) h
def b_L_law_160 (L : Nat) (X : Nat → Int32) (k18 : Option Nat → Option Nat → Int32 → HS → Option (Int32 × HS)) (a1 : Option Nat) (a2 : Option Nat) (a3 : Int32) (h : HS) : Option (Int32 × HS) :=
  gd (inb (a3 + (1 : Int32)) L) (nn a1 (fun n3 => gd (rk h n3 7) (bd (f_X9_write n3 (X (a3 + (1 : Int32)).toNatClampNeg) h) (fun r2 => gd (inb (a3 + (1 : Int32)) L) (nn a2 (fun n6 => gd (rk r2.2 n6 8) (bd (f_X10_write n6 (X (a3 + (1 : Int32)).toNatClampNeg) r2.2) (fun r5 => (if r2.1 = r5.1 then b_L_law_1007 L X k18 a1 a2 a3 r5.2 else gd (decide (narrow .boolean (.int (0 : Int32)) = .int (0 : Int32))) (some ((0 : Int32), r5.2)))))))))))
def b_L_law_183 (L : Nat) (X : Nat → Int32) (k18 : Option Nat → Option Nat → Int32 → HS → Option (Int32 × HS)) (a1 : Option Nat) (a2 : Option Nat) (a3 : Int32) (h : HS) : Option (Int32 × HS) :=
  nn a1 (fun n2 => gd (rk h n2 7) (bd (f_X9_wipe n2 h) (fun r1 => nn a2 (fun n4 => gd (rk r1.2 n4 8) (bd (f_X10_wipe n4 r1.2) (fun r3 => (if r1.1 = r3.1 then b_L_law_1007 L X k18 a1 a2 a3 r3.2 else gd (decide (narrow .boolean (.int (0 : Int32)) = .int (0 : Int32))) (some ((0 : Int32), r3.2)))))))))
def b_L_law_196 (L : Nat) (X : Nat → Int32) (k18 : Option Nat → Option Nat → Int32 → HS → Option (Int32 × HS)) (a1 : Option Nat) (a2 : Option Nat) (a3 : Int32) (h : HS) : Option (Int32 × HS) :=
  nn a1 (fun n2 => gd (rk h n2 7) (bd (f_X9_fault n2 h) (fun r1 => nn a2 (fun n4 => gd (rk r1.2 n4 8) (bd (f_X10_fault n4 r1.2) (fun r3 => (if r1.1 = r3.1 then b_L_law_1007 L X k18 a1 a2 a3 r3.2 else gd (decide (narrow .boolean (.int (0 : Int32)) = .int (0 : Int32))) (some ((0 : Int32), r3.2)))))))))
def b_L_law_209 (L : Nat) (X : Nat → Int32) (k18 : Option Nat → Option Nat → Int32 → HS → Option (Int32 × HS)) (a1 : Option Nat) (a2 : Option Nat) (a3 : Int32) (h : HS) : Option (Int32 × HS) :=
  nn a1 (fun n2 => gd (rk h n2 7) (bd (f_X9_plan n2 h) (fun r1 => nn a2 (fun n4 => gd (rk r1.2 n4 8) (bd (f_X10_plan n4 r1.2) (fun r3 => (if r1.1 = r3.1 then b_L_law_1007 L X k18 a1 a2 a3 r3.2 else gd (decide (narrow .boolean (.int (0 : Int32)) = .int (0 : Int32))) (some ((0 : Int32), r3.2)))))))))
def b_L_law_222 (L : Nat) (X : Nat → Int32) (k18 : Option Nat → Option Nat → Int32 → HS → Option (Int32 × HS)) (a1 : Option Nat) (a2 : Option Nat) (a3 : Int32) (h : HS) : Option (Int32 × HS) :=
  gd (inb (a3 + (1 : Int32)) L) (nn a1 (fun n3 => gd (rk h n3 7) (bd (f_X9_word n3 (X (a3 + (1 : Int32)).toNatClampNeg) h) (fun r2 => gd (inb (a3 + (1 : Int32)) L) (nn a2 (fun n6 => gd (rk r2.2 n6 8) (bd (f_X10_word n6 (X (a3 + (1 : Int32)).toNatClampNeg) r2.2) (fun r5 => (if r2.1 = r5.1 then b_L_law_1007 L X k18 a1 a2 a3 r5.2 else gd (decide (narrow .boolean (.int (0 : Int32)) = .int (0 : Int32))) (some ((0 : Int32), r5.2)))))))))))
def b_L_law_245 (L : Nat) (X : Nat → Int32) (k18 : Option Nat → Option Nat → Int32 → HS → Option (Int32 × HS)) (a1 : Option Nat) (a2 : Option Nat) (a3 : Int32) (h : HS) : Option (Int32 × HS) :=
  gd (inb (a3 + (1 : Int32)) L) (gd (inb (a3 + (2 : Int32)) L) (gd (inb (a3 + (3 : Int32)) L) (nn a1 (fun n5 => gd (rk h n5 7) (bd (f_X9_add n5 (X (a3 + (1 : Int32)).toNatClampNeg) (X (a3 + (2 : Int32)).toNatClampNeg) (X (a3 + (3 : Int32)).toNatClampNeg) h) (fun r4 => gd (inb (a3 + (1 : Int32)) L) (gd (inb (a3 + (2 : Int32)) L) (gd (inb (a3 + (3 : Int32)) L) (nn a2 (fun n10 => gd (rk r4.2 n10 8) (bd (f_X10_add n10 (X (a3 + (1 : Int32)).toNatClampNeg) (X (a3 + (2 : Int32)).toNatClampNeg) (X (a3 + (3 : Int32)).toNatClampNeg) r4.2) (fun r9 => (if r4.1 = r9.1 then b_L_law_1007 L X k18 a1 a2 a3 r9.2 else gd (decide (narrow .boolean (.int (0 : Int32)) = .int (0 : Int32))) (some ((0 : Int32), r9.2)))))))))))))))
def b_L_law_288 (L : Nat) (X : Nat → Int32) (k18 : Option Nat → Option Nat → Int32 → HS → Option (Int32 × HS)) (a1 : Option Nat) (a2 : Option Nat) (a3 : Int32) (h : HS) : Option (Int32 × HS) :=
  gd (inb (a3 + (1 : Int32)) L) (nn a1 (fun n3 => gd (rk h n3 7) (bd (f_X9_drop n3 (X (a3 + (1 : Int32)).toNatClampNeg) h) (fun r2 => gd (inb (a3 + (1 : Int32)) L) (nn a2 (fun n6 => gd (rk r2.2 n6 8) (bd (f_X10_drop n6 (X (a3 + (1 : Int32)).toNatClampNeg) r2.2) (fun r5 => (if r2.1 = r5.1 then b_L_law_1007 L X k18 a1 a2 a3 r5.2 else gd (decide (narrow .boolean (.int (0 : Int32)) = .int (0 : Int32))) (some ((0 : Int32), r5.2)))))))))))
def b_L_law_311 (L : Nat) (X : Nat → Int32) (k18 : Option Nat → Option Nat → Int32 → HS → Option (Int32 × HS)) (a1 : Option Nat) (a2 : Option Nat) (a3 : Int32) (h : HS) : Option (Int32 × HS) :=
  gd (inb (a3 + (1 : Int32)) L) (gd (inb (a3 + (2 : Int32)) L) (nn a1 (fun n4 => gd (rk h n4 7) (bd (f_X9_change n4 (X (a3 + (1 : Int32)).toNatClampNeg) (X (a3 + (2 : Int32)).toNatClampNeg) h) (fun r3 => gd (inb (a3 + (1 : Int32)) L) (gd (inb (a3 + (2 : Int32)) L) (nn a2 (fun n8 => gd (rk r3.2 n8 8) (bd (f_X10_change n8 (X (a3 + (1 : Int32)).toNatClampNeg) (X (a3 + (2 : Int32)).toNatClampNeg) r3.2) (fun r7 => (if r3.1 = r7.1 then b_L_law_1007 L X k18 a1 a2 a3 r7.2 else gd (decide (narrow .boolean (.int (0 : Int32)) = .int (0 : Int32))) (some ((0 : Int32), r7.2)))))))))))))
def b_L_law_344 (L : Nat) (X : Nat → Int32) (k18 : Option Nat → Option Nat → Int32 → HS → Option (Int32 × HS)) (a1 : Option Nat) (a2 : Option Nat) (a3 : Int32) (h : HS) : Option (Int32 × HS) :=
  nn a1 (fun n2 => gd (rk h n2 7) (bd (f_X9_undo n2 h) (fun r1 => nn a2 (fun n4 => gd (rk r1.2 n4 8) (bd (f_X10_undo n4 r1.2) (fun r3 => (if r1.1 = r3.1 then b_L_law_1007 L X k18 a1 a2 a3 r3.2 else gd (decide (narrow .boolean (.int (0 : Int32)) = .int (0 : Int32))) (some ((0 : Int32), r3.2)))))))))
def b_L_law_357 (L : Nat) (X : Nat → Int32) (k18 : Option Nat → Option Nat → Int32 → HS → Option (Int32 × HS)) (a1 : Option Nat) (a2 : Option Nat) (a3 : Int32) (h : HS) : Option (Int32 × HS) :=
  gd (inb (a3 + (1 : Int32)) L) (gd (inb (a3 + (2 : Int32)) L) (nn a1 (fun n4 => gd (rk h n4 7) (bd (f_X9_entry n4 (X (a3 + (1 : Int32)).toNatClampNeg) (X (a3 + (2 : Int32)).toNatClampNeg) h) (fun r3 => gd (inb (a3 + (1 : Int32)) L) (gd (inb (a3 + (2 : Int32)) L) (nn a2 (fun n8 => gd (rk r3.2 n8 8) (bd (f_X10_entry n8 (X (a3 + (1 : Int32)).toNatClampNeg) (X (a3 + (2 : Int32)).toNatClampNeg) r3.2) (fun r7 => (if r3.1 = r7.1 then b_L_law_1007 L X k18 a1 a2 a3 r7.2 else gd (decide (narrow .boolean (.int (0 : Int32)) = .int (0 : Int32))) (some ((0 : Int32), r7.2)))))))))))))
def b_L_law_390 (L : Nat) (X : Nat → Int32) (k18 : Option Nat → Option Nat → Int32 → HS → Option (Int32 × HS)) (a1 : Option Nat) (a2 : Option Nat) (a3 : Int32) (h : HS) : Option (Int32 × HS) :=
  gd (inb (a3 + (1 : Int32)) L) (gd (inb (a3 + (2 : Int32)) L) (nn a1 (fun n4 => gd (rk h n4 7) (bd (f_X9_key n4 (X (a3 + (1 : Int32)).toNatClampNeg) (X (a3 + (2 : Int32)).toNatClampNeg) h) (fun r3 => gd (inb (a3 + (1 : Int32)) L) (gd (inb (a3 + (2 : Int32)) L) (nn a2 (fun n8 => gd (rk r3.2 n8 8) (bd (f_X10_key n8 (X (a3 + (1 : Int32)).toNatClampNeg) (X (a3 + (2 : Int32)).toNatClampNeg) r3.2) (fun r7 => (if r3.1 = r7.1 then b_L_law_1007 L X k18 a1 a2 a3 r7.2 else gd (decide (narrow .boolean (.int (0 : Int32)) = .int (0 : Int32))) (some ((0 : Int32), r7.2)))))))))))))
def b_L_law_423 (L : Nat) (X : Nat → Int32) (k18 : Option Nat → Option Nat → Int32 → HS → Option (Int32 × HS)) (a1 : Option Nat) (a2 : Option Nat) (a3 : Int32) (h : HS) : Option (Int32 × HS) :=
  gd (inb (a3 + (1 : Int32)) L) (gd (inb (a3 + (2 : Int32)) L) (nn a1 (fun n4 => gd (rk h n4 7) (bd (f_X9_cell n4 (X (a3 + (1 : Int32)).toNatClampNeg) (X (a3 + (2 : Int32)).toNatClampNeg) h) (fun r3 => gd (inb (a3 + (1 : Int32)) L) (gd (inb (a3 + (2 : Int32)) L) (nn a2 (fun n8 => gd (rk r3.2 n8 8) (bd (f_X10_cell n8 (X (a3 + (1 : Int32)).toNatClampNeg) (X (a3 + (2 : Int32)).toNatClampNeg) r3.2) (fun r7 => (if r3.1 = r7.1 then b_L_law_1007 L X k18 a1 a2 a3 r7.2 else gd (decide (narrow .boolean (.int (0 : Int32)) = .int (0 : Int32))) (some ((0 : Int32), r7.2)))))))))))))
def b_L_law_456 (L : Nat) (X : Nat → Int32) (k18 : Option Nat → Option Nat → Int32 → HS → Option (Int32 × HS)) (a1 : Option Nat) (a2 : Option Nat) (a3 : Int32) (h : HS) : Option (Int32 × HS) :=
  gd (inb (a3 + (1 : Int32)) L) (gd (inb (a3 + (2 : Int32)) L) (nn a1 (fun n4 => gd (rk h n4 7) (bd (f_X9_drill n4 (X (a3 + (1 : Int32)).toNatClampNeg) (X (a3 + (2 : Int32)).toNatClampNeg) h) (fun r3 => gd (inb (a3 + (1 : Int32)) L) (gd (inb (a3 + (2 : Int32)) L) (nn a2 (fun n8 => gd (rk r3.2 n8 8) (bd (f_X10_drill n8 (X (a3 + (1 : Int32)).toNatClampNeg) (X (a3 + (2 : Int32)).toNatClampNeg) r3.2) (fun r7 => (if r3.1 = r7.1 then b_L_law_1007 L X k18 a1 a2 a3 r7.2 else gd (decide (narrow .boolean (.int (0 : Int32)) = .int (0 : Int32))) (some ((0 : Int32), r7.2)))))))))))))
def b_L_law_489 (L : Nat) (X : Nat → Int32) (k18 : Option Nat → Option Nat → Int32 → HS → Option (Int32 × HS)) (a1 : Option Nat) (a2 : Option Nat) (a3 : Int32) (h : HS) : Option (Int32 × HS) :=
  gd (inb (a3 + (1 : Int32)) L) (gd (inb (a3 + (2 : Int32)) L) (nn a1 (fun n4 => gd (rk h n4 7) (bd (f_X9_along n4 (X (a3 + (1 : Int32)).toNatClampNeg) (X (a3 + (2 : Int32)).toNatClampNeg) h) (fun r3 => gd (inb (a3 + (1 : Int32)) L) (gd (inb (a3 + (2 : Int32)) L) (nn a2 (fun n8 => gd (rk r3.2 n8 8) (bd (f_X10_along n8 (X (a3 + (1 : Int32)).toNatClampNeg) (X (a3 + (2 : Int32)).toNatClampNeg) r3.2) (fun r7 => (if r3.1 = r7.1 then b_L_law_1007 L X k18 a1 a2 a3 r7.2 else gd (decide (narrow .boolean (.int (0 : Int32)) = .int (0 : Int32))) (some ((0 : Int32), r7.2)))))))))))))
def b_L_law_522 (L : Nat) (X : Nat → Int32) (k18 : Option Nat → Option Nat → Int32 → HS → Option (Int32 × HS)) (a1 : Option Nat) (a2 : Option Nat) (a3 : Int32) (h : HS) : Option (Int32 × HS) :=
  nn a1 (fun n2 => gd (rk h n2 7) (bd (f_X9_total n2 h) (fun r1 => nn a2 (fun n4 => gd (rk r1.2 n4 8) (bd (f_X10_total n4 r1.2) (fun r3 => (if r1.1 = r3.1 then b_L_law_1007 L X k18 a1 a2 a3 r3.2 else gd (decide (narrow .boolean (.int (0 : Int32)) = .int (0 : Int32))) (some ((0 : Int32), r3.2)))))))))
def b_L_law_535 (L : Nat) (X : Nat → Int32) (k18 : Option Nat → Option Nat → Int32 → HS → Option (Int32 × HS)) (a1 : Option Nat) (a2 : Option Nat) (a3 : Int32) (h : HS) : Option (Int32 × HS) :=
  gd (inb (a3 + (1 : Int32)) L) (gd (inb (a3 + (2 : Int32)) L) (gd (inb (a3 + (3 : Int32)) L) (gd (inb (a3 + (4 : Int32)) L) (nn a1 (fun n6 => gd (rk h n6 7) (bd (f_X9_would n6 (X (a3 + (1 : Int32)).toNatClampNeg) (X (a3 + (2 : Int32)).toNatClampNeg) (X (a3 + (3 : Int32)).toNatClampNeg) (X (a3 + (4 : Int32)).toNatClampNeg) h) (fun r5 => gd (inb (a3 + (1 : Int32)) L) (gd (inb (a3 + (2 : Int32)) L) (gd (inb (a3 + (3 : Int32)) L) (gd (inb (a3 + (4 : Int32)) L) (nn a2 (fun n12 => gd (rk r5.2 n12 8) (bd (f_X10_would n12 (X (a3 + (1 : Int32)).toNatClampNeg) (X (a3 + (2 : Int32)).toNatClampNeg) (X (a3 + (3 : Int32)).toNatClampNeg) (X (a3 + (4 : Int32)).toNatClampNeg) r5.2) (fun r11 => (if r5.1 = r11.1 then b_L_law_1007 L X k18 a1 a2 a3 r11.2 else gd (decide (narrow .boolean (.int (0 : Int32)) = .int (0 : Int32))) (some ((0 : Int32), r11.2)))))))))))))))))
def b_L_law_588 (L : Nat) (X : Nat → Int32) (k18 : Option Nat → Option Nat → Int32 → HS → Option (Int32 × HS)) (a1 : Option Nat) (a2 : Option Nat) (a3 : Int32) (h : HS) : Option (Int32 × HS) :=
  gd (inb (a3 + (1 : Int32)) L) (nn a1 (fun n3 => gd (rk h n3 7) (bd (f_X9_best n3 (X (a3 + (1 : Int32)).toNatClampNeg) h) (fun r2 => gd (inb (a3 + (1 : Int32)) L) (nn a2 (fun n6 => gd (rk r2.2 n6 8) (bd (f_X10_best n6 (X (a3 + (1 : Int32)).toNatClampNeg) r2.2) (fun r5 => (if r2.1 = r5.1 then b_L_law_1007 L X k18 a1 a2 a3 r5.2 else gd (decide (narrow .boolean (.int (0 : Int32)) = .int (0 : Int32))) (some ((0 : Int32), r5.2)))))))))))
def b_L_law_611 (L : Nat) (X : Nat → Int32) (k18 : Option Nat → Option Nat → Int32 → HS → Option (Int32 × HS)) (a1 : Option Nat) (a2 : Option Nat) (a3 : Int32) (h : HS) : Option (Int32 × HS) :=
  gd (inb (a3 + (1 : Int32)) L) (gd (inb (a3 + (2 : Int32)) L) (gd (inb (a3 + (3 : Int32)) L) (nn a1 (fun n5 => gd (rk h n5 7) (bd (f_X9_judge n5 (X (a3 + (1 : Int32)).toNatClampNeg) (((X (a3 + (2 : Int32)).toNatClampNeg).toInt64 <<< ((32 : Int32).toInt64 &&& 63)) ||| ((X (a3 + (3 : Int32)).toNatClampNeg).toInt64 &&& (4294967295 : Int64))) h) (fun r4 => gd (inb (a3 + (1 : Int32)) L) (gd (inb (a3 + (2 : Int32)) L) (gd (inb (a3 + (3 : Int32)) L) (nn a2 (fun n10 => gd (rk r4.2 n10 8) (bd (f_X10_judge n10 (X (a3 + (1 : Int32)).toNatClampNeg) (((X (a3 + (2 : Int32)).toNatClampNeg).toInt64 <<< ((32 : Int32).toInt64 &&& 63)) ||| ((X (a3 + (3 : Int32)).toNatClampNeg).toInt64 &&& (4294967295 : Int64))) r4.2) (fun r9 => (if r4.1 = r9.1 then b_L_law_1007 L X k18 a1 a2 a3 r9.2 else gd (decide (narrow .boolean (.int (0 : Int32)) = .int (0 : Int32))) (some ((0 : Int32), r9.2)))))))))))))))
def b_L_law_674 (L : Nat) (X : Nat → Int32) (k18 : Option Nat → Option Nat → Int32 → HS → Option (Int32 × HS)) (a1 : Option Nat) (a2 : Option Nat) (a3 : Int32) (h : HS) : Option (Int32 × HS) :=
  gd (inb (a3 + (1 : Int32)) L) (gd (inb (a3 + (2 : Int32)) L) (gd (inb (a3 + (3 : Int32)) L) (nn a1 (fun n5 => gd (rk h n5 7) (bd (f_X9_see n5 (X (a3 + (1 : Int32)).toNatClampNeg) (X (a3 + (2 : Int32)).toNatClampNeg) (X (a3 + (3 : Int32)).toNatClampNeg) h) (fun r4 => gd (inb (a3 + (1 : Int32)) L) (gd (inb (a3 + (2 : Int32)) L) (gd (inb (a3 + (3 : Int32)) L) (nn a2 (fun n10 => gd (rk r4.2 n10 8) (bd (f_X10_see n10 (X (a3 + (1 : Int32)).toNatClampNeg) (X (a3 + (2 : Int32)).toNatClampNeg) (X (a3 + (3 : Int32)).toNatClampNeg) r4.2) (fun r9 => (if r4.1 = r9.1 then b_L_law_1007 L X k18 a1 a2 a3 r9.2 else gd (decide (narrow .boolean (.int (0 : Int32)) = .int (0 : Int32))) (some ((0 : Int32), r9.2)))))))))))))))
def b_L_law_717 (L : Nat) (X : Nat → Int32) (k18 : Option Nat → Option Nat → Int32 → HS → Option (Int32 × HS)) (a1 : Option Nat) (a2 : Option Nat) (a3 : Int32) (h : HS) : Option (Int32 × HS) :=
  nn a1 (fun n2 => gd (rk h n2 7) (bd (f_X9_unsee n2 h) (fun r1 => nn a2 (fun n4 => gd (rk r1.2 n4 8) (bd (f_X10_unsee n4 r1.2) (fun r3 => (if r1.1 = r3.1 then b_L_law_1007 L X k18 a1 a2 a3 r3.2 else gd (decide (narrow .boolean (.int (0 : Int32)) = .int (0 : Int32))) (some ((0 : Int32), r3.2)))))))))
def b_L_law_730 (L : Nat) (X : Nat → Int32) (k18 : Option Nat → Option Nat → Int32 → HS → Option (Int32 × HS)) (a1 : Option Nat) (a2 : Option Nat) (a3 : Int32) (h : HS) : Option (Int32 × HS) :=
  gd (inb (a3 + (1 : Int32)) L) (nn a1 (fun n3 => gd (rk h n3 7) (bd (f_X9_hidden n3 (X (a3 + (1 : Int32)).toNatClampNeg) h) (fun r2 => gd (inb (a3 + (1 : Int32)) L) (nn a2 (fun n6 => gd (rk r2.2 n6 8) (bd (f_X10_hidden n6 (X (a3 + (1 : Int32)).toNatClampNeg) r2.2) (fun r5 => (if r2.1 = r5.1 then b_L_law_1007 L X k18 a1 a2 a3 r5.2 else gd (decide (narrow .boolean (.int (0 : Int32)) = .int (0 : Int32))) (some ((0 : Int32), r5.2)))))))))))
def b_L_law_794 (L : Nat) (X : Nat → Int32) (k18 : Option Nat → Option Nat → Int32 → HS → Option (Int32 × HS)) (a1 : Option Nat) (a2 : Option Nat) (a3 : Int32) (s0 : Int32) (s1 : Option Nat) (s2 : Int32) (s3 : Int32) (h : HS) : Option (Int32 × HS) :=
  nn s1 (fun n2 => gd (rk h n2 8) (bd (f_X10_share n2 s2 s3 h) (fun r1 => (if s0 = r1.1 then b_L_law_1007 L X k18 a1 a2 a3 r1.2 else gd (decide (narrow .boolean (.int (0 : Int32)) = .int (0 : Int32))) (some ((0 : Int32), r1.2))))))
def b_L_law_772 (L : Nat) (X : Nat → Int32) (k18 : Option Nat → Option Nat → Int32 → HS → Option (Int32 × HS)) (a1 : Option Nat) (a2 : Option Nat) (a3 : Int32) (s0 : Option Nat) (s1 : Int32) (s2 : Int32) (h : HS) : Option (Int32 × HS) :=
  nn s0 (fun n2 => gd (rk h n2 7) (bd (f_X9_share n2 s1 s2 h) (fun r1 => gd (inb (a3 + (1 : Int32)) L) (gd (inb (a3 + (2 : Int32)) L) ((if (X (a3 + (2 : Int32)).toNatClampNeg) = 0 then b_L_law_794 L X k18 a1 a2 a3 r1.1 a2 (X (a3 + (1 : Int32)).toNatClampNeg) (0 : Int32) r1.2 else b_L_law_794 L X k18 a1 a2 a3 r1.1 a2 (X (a3 + (1 : Int32)).toNatClampNeg) (1 : Int32) r1.2))))))
def b_L_law_753 (L : Nat) (X : Nat → Int32) (k18 : Option Nat → Option Nat → Int32 → HS → Option (Int32 × HS)) (a1 : Option Nat) (a2 : Option Nat) (a3 : Int32) (h : HS) : Option (Int32 × HS) :=
  gd (inb (a3 + (1 : Int32)) L) (gd (inb (a3 + (2 : Int32)) L) ((if (X (a3 + (2 : Int32)).toNatClampNeg) = 0 then b_L_law_772 L X k18 a1 a2 a3 a1 (X (a3 + (1 : Int32)).toNatClampNeg) (0 : Int32) h else b_L_law_772 L X k18 a1 a2 a3 a1 (X (a3 + (1 : Int32)).toNatClampNeg) (1 : Int32) h)))
def b_L_law_853 (L : Nat) (X : Nat → Int32) (k18 : Option Nat → Option Nat → Int32 → HS → Option (Int32 × HS)) (a1 : Option Nat) (a2 : Option Nat) (a3 : Int32) (s0 : Int32) (s1 : Option Nat) (s2 : Int32) (s3 : Int32) (s4 : Int32) (h : HS) : Option (Int32 × HS) :=
  nn s1 (fun n2 => gd (rk h n2 8) (bd (f_X10_lost n2 s2 s3 s4 h) (fun r1 => (if s0 = r1.1 then b_L_law_1007 L X k18 a1 a2 a3 r1.2 else gd (decide (narrow .boolean (.int (0 : Int32)) = .int (0 : Int32))) (some ((0 : Int32), r1.2))))))
def b_L_law_826 (L : Nat) (X : Nat → Int32) (k18 : Option Nat → Option Nat → Int32 → HS → Option (Int32 × HS)) (a1 : Option Nat) (a2 : Option Nat) (a3 : Int32) (s0 : Option Nat) (s1 : Int32) (s2 : Int32) (s3 : Int32) (h : HS) : Option (Int32 × HS) :=
  nn s0 (fun n2 => gd (rk h n2 7) (bd (f_X9_lost n2 s1 s2 s3 h) (fun r1 => gd (inb (a3 + (1 : Int32)) L) (gd (inb (a3 + (2 : Int32)) L) (gd (inb (a3 + (3 : Int32)) L) ((if (X (a3 + (3 : Int32)).toNatClampNeg) = 0 then b_L_law_853 L X k18 a1 a2 a3 r1.1 a2 (X (a3 + (1 : Int32)).toNatClampNeg) (X (a3 + (2 : Int32)).toNatClampNeg) (0 : Int32) r1.2 else b_L_law_853 L X k18 a1 a2 a3 r1.1 a2 (X (a3 + (1 : Int32)).toNatClampNeg) (X (a3 + (2 : Int32)).toNatClampNeg) (1 : Int32) r1.2)))))))
def b_L_law_802 (L : Nat) (X : Nat → Int32) (k18 : Option Nat → Option Nat → Int32 → HS → Option (Int32 × HS)) (a1 : Option Nat) (a2 : Option Nat) (a3 : Int32) (h : HS) : Option (Int32 × HS) :=
  gd (inb (a3 + (1 : Int32)) L) (gd (inb (a3 + (2 : Int32)) L) (gd (inb (a3 + (3 : Int32)) L) ((if (X (a3 + (3 : Int32)).toNatClampNeg) = 0 then b_L_law_826 L X k18 a1 a2 a3 a1 (X (a3 + (1 : Int32)).toNatClampNeg) (X (a3 + (2 : Int32)).toNatClampNeg) (0 : Int32) h else b_L_law_826 L X k18 a1 a2 a3 a1 (X (a3 + (1 : Int32)).toNatClampNeg) (X (a3 + (2 : Int32)).toNatClampNeg) (1 : Int32) h))))
def b_L_law_861 (L : Nat) (X : Nat → Int32) (k18 : Option Nat → Option Nat → Int32 → HS → Option (Int32 × HS)) (a1 : Option Nat) (a2 : Option Nat) (a3 : Int32) (h : HS) : Option (Int32 × HS) :=
  gd (inb (a3 + (1 : Int32)) L) (gd (inb (a3 + (2 : Int32)) L) (nn a1 (fun n4 => gd (rk h n4 7) (bd (f_X9_seed n4 (((X (a3 + (1 : Int32)).toNatClampNeg).toInt64 <<< ((32 : Int32).toInt64 &&& 63)) ||| ((X (a3 + (2 : Int32)).toNatClampNeg).toInt64 &&& (4294967295 : Int64))) h) (fun r3 => gd (inb (a3 + (1 : Int32)) L) (gd (inb (a3 + (2 : Int32)) L) (nn a2 (fun n8 => gd (rk r3.2 n8 8) (bd (f_X10_seed n8 (((X (a3 + (1 : Int32)).toNatClampNeg).toInt64 <<< ((32 : Int32).toInt64 &&& 63)) ||| ((X (a3 + (2 : Int32)).toNatClampNeg).toInt64 &&& (4294967295 : Int64))) r3.2) (fun r7 => (if (lg_cmp r3.1 r7.1) = 0 then b_L_law_1007 L X k18 a1 a2 a3 r7.2 else gd (decide (narrow .boolean (.int (0 : Int32)) = .int (0 : Int32))) (some ((0 : Int32), r7.2)))))))))))))
def b_L_law_915 (L : Nat) (X : Nat → Int32) (k18 : Option Nat → Option Nat → Int32 → HS → Option (Int32 × HS)) (a1 : Option Nat) (a2 : Option Nat) (a3 : Int32) (h : HS) : Option (Int32 × HS) :=
  gd (inb (a3 + (1 : Int32)) L) (nn a1 (fun n3 => gd (rk h n3 7) (bd (f_X9_drawn n3 (X (a3 + (1 : Int32)).toNatClampNeg) h) (fun r2 => gd (inb (a3 + (1 : Int32)) L) (nn a2 (fun n6 => gd (rk r2.2 n6 8) (bd (f_X10_drawn n6 (X (a3 + (1 : Int32)).toNatClampNeg) r2.2) (fun r5 => (if r2.1 = r5.1 then b_L_law_1007 L X k18 a1 a2 a3 r5.2 else gd (decide (narrow .boolean (.int (0 : Int32)) = .int (0 : Int32))) (some ((0 : Int32), r5.2)))))))))))
def b_L_law_938 (L : Nat) (X : Nat → Int32) (k18 : Option Nat → Option Nat → Int32 → HS → Option (Int32 × HS)) (a1 : Option Nat) (a2 : Option Nat) (a3 : Int32) (h : HS) : Option (Int32 × HS) :=
  gd (inb (a3 + (1 : Int32)) L) (nn a1 (fun n3 => gd (rk h n3 7) (bd (f_X9_keep n3 (X (a3 + (1 : Int32)).toNatClampNeg) h) (fun r2 => gd (inb (a3 + (1 : Int32)) L) (nn a2 (fun n6 => gd (rk r2.2 n6 8) (bd (f_X10_keep n6 (X (a3 + (1 : Int32)).toNatClampNeg) r2.2) (fun r5 => (if r2.1 = r5.1 then b_L_law_1007 L X k18 a1 a2 a3 r5.2 else gd (decide (narrow .boolean (.int (0 : Int32)) = .int (0 : Int32))) (some ((0 : Int32), r5.2)))))))))))
def b_L_law_961 (L : Nat) (X : Nat → Int32) (k18 : Option Nat → Option Nat → Int32 → HS → Option (Int32 × HS)) (a1 : Option Nat) (a2 : Option Nat) (a3 : Int32) (h : HS) : Option (Int32 × HS) :=
  gd (inb (a3 + (1 : Int32)) L) (nn a1 (fun n3 => gd (rk h n3 7) (bd (f_X9_again n3 (X (a3 + (1 : Int32)).toNatClampNeg) h) (fun r2 => gd (inb (a3 + (1 : Int32)) L) (nn a2 (fun n6 => gd (rk r2.2 n6 8) (bd (f_X10_again n6 (X (a3 + (1 : Int32)).toNatClampNeg) r2.2) (fun r5 => (if r2.1 = r5.1 then b_L_law_1007 L X k18 a1 a2 a3 r5.2 else gd (decide (narrow .boolean (.int (0 : Int32)) = .int (0 : Int32))) (some ((0 : Int32), r5.2)))))))))))
def b_L_law_984 (L : Nat) (X : Nat → Int32) (k18 : Option Nat → Option Nat → Int32 → HS → Option (Int32 × HS)) (a1 : Option Nat) (a2 : Option Nat) (a3 : Int32) (h : HS) : Option (Int32 × HS) :=
  gd (inb (a3 + (1 : Int32)) L) (nn a1 (fun n3 => gd (rk h n3 7) (bd (f_X9_count n3 (X (a3 + (1 : Int32)).toNatClampNeg) h) (fun r2 => gd (inb (a3 + (1 : Int32)) L) (nn a2 (fun n6 => gd (rk r2.2 n6 8) (bd (f_X10_count n6 (X (a3 + (1 : Int32)).toNatClampNeg) r2.2) (fun r5 => (if r2.1 = r5.1 then b_L_law_1007 L X k18 a1 a2 a3 r5.2 else gd (decide (narrow .boolean (.int (0 : Int32)) = .int (0 : Int32))) (some ((0 : Int32), r5.2)))))))))))
def b_L_law_18 (L : Nat) (X : Nat → Int32) (k18 : Option Nat → Option Nat → Int32 → HS → Option (Int32 × HS)) (a1 : Option Nat) (a2 : Option Nat) (a3 : Int32) (h : HS) : Option (Int32 × HS) :=
  (if ((Int32.ofNat L) - (5 : Int32)) < a3 then gd (decide (narrow .boolean (.int (1 : Int32)) = .int (1 : Int32))) (some ((1 : Int32), h)) else gd (inb a3 L) (swT ((X a3.toNatClampNeg) &&& (31 : Int32)) 0 [b_L_law_160 L X k18 a1 a2 a3 h, b_L_law_183 L X k18 a1 a2 a3 h, b_L_law_196 L X k18 a1 a2 a3 h, b_L_law_209 L X k18 a1 a2 a3 h, b_L_law_222 L X k18 a1 a2 a3 h, b_L_law_245 L X k18 a1 a2 a3 h, b_L_law_288 L X k18 a1 a2 a3 h, b_L_law_311 L X k18 a1 a2 a3 h, b_L_law_344 L X k18 a1 a2 a3 h, b_L_law_357 L X k18 a1 a2 a3 h, b_L_law_390 L X k18 a1 a2 a3 h, b_L_law_423 L X k18 a1 a2 a3 h, b_L_law_456 L X k18 a1 a2 a3 h, b_L_law_489 L X k18 a1 a2 a3 h, b_L_law_522 L X k18 a1 a2 a3 h, b_L_law_535 L X k18 a1 a2 a3 h, b_L_law_588 L X k18 a1 a2 a3 h, b_L_law_611 L X k18 a1 a2 a3 h, b_L_law_674 L X k18 a1 a2 a3 h, b_L_law_717 L X k18 a1 a2 a3 h, b_L_law_730 L X k18 a1 a2 a3 h, b_L_law_753 L X k18 a1 a2 a3 h, b_L_law_802 L X k18 a1 a2 a3 h, b_L_law_861 L X k18 a1 a2 a3 h, b_L_law_915 L X k18 a1 a2 a3 h, b_L_law_938 L X k18 a1 a2 a3 h, b_L_law_961 L X k18 a1 a2 a3 h, b_L_law_984 L X k18 a1 a2 a3 h] (b_L_law_1007 L X k18 a1 a2 a3 h)))
def l_L_law_18 (L : Nat) (X : Nat → Int32) : Nat → Option Nat → Option Nat → Int32 → HS → Option (Int32 × HS)
  | 0 => fun _ _ _ _ => none
  | n + 1 => b_L_law_18 L X (l_L_law_18 L X n)
set_option maxRecDepth 100000 in
def f_L_law (L : Nat) (X : Nat → Int32) (h : HS) : Option (Int32 × HS) :=
  gd (cn h 7) (hl (nw h) (fun h1 => nn (some (hN h)) (fun n3 => bd (f_X9_init n3 h1) (fun r2 => gd (cn r2.2 8) (hl (nw r2.2) (fun h4 => nn (some (hN r2.2)) (fun n6 => bd (f_X10_init n6 h4) (fun r5 => l_L_law_18 L X 600 (some (hN h)) (some (hN r2.2)) (0 : Int32) r5.2))))))))
set_option maxHeartbeats 4000000 in
set_option maxRecDepth 100000 in
theorem wb_L_law_1007 (g : GG) (l : Launch) (c d : Nat) (hc : c + 4 ≤ 600000) (hd : d + 52 ≤ room_1.slots) (k18 : Option Nat → Option Nat → Int32 → HS → Option (Int32 × HS)) (a1 : Option Nat) (a2 : Option Nat) (a3 : Int32) (h : HS) (o : Int32 × HS) (hB : b_L_law_1007 (gL g) (gX g) k18 a1 a2 a3 h = some o) (hk18 : ∀ (a1 : Option Nat) (a2 : Option Nat) (a3 : Int32) (h : HS), k18 a1 a2 a3 h = some o → Wq g l mL_law (c + 4) (d + 52) 18 [some (va_rf (some 2000)), some (va_rf a1), some (va_rf a2), some (.int a3)] [] h (QI o)) : Wq g l mL_law (c + 4) (d + 52) 1007 [some (va_rf (some 2000)), some (va_rf a1), some (va_rf a2), some (.int a3)] [] h (QI o) := by
  unfold b_L_law_1007 at hB
  refine q_iinc dL_law_1007 rfl (show _ = (a3 + (5 : Int32)) from rfl) (by decide) (nb_r (j := 2) rfl) ?_
  refine q_goto (tgt := 18) dL_law_1010 (by decide) ?_
  exact Wq.mask [true, true, true, true] rfl (hk18 _ _ _ _ hB)
set_option maxHeartbeats 4000000 in
set_option maxRecDepth 100000 in
theorem wb_L_law_160 (g : GG) (l : Launch) (c d : Nat) (hc : c + 4 ≤ 600000) (hd : d + 52 ≤ room_1.slots) (k18 : Option Nat → Option Nat → Int32 → HS → Option (Int32 × HS)) (a1 : Option Nat) (a2 : Option Nat) (a3 : Int32) (h : HS) (o : Int32 × HS) (hB : b_L_law_160 (gL g) (gX g) k18 a1 a2 a3 h = some o) (hk18 : ∀ (a1 : Option Nat) (a2 : Option Nat) (a3 : Int32) (h : HS), k18 a1 a2 a3 h = some o → Wq g l mL_law (c + 4) (d + 52) 18 [some (va_rf (some 2000)), some (va_rf a1), some (va_rf a2), some (.int a3)] [] h (QI o)) : Wq g l mL_law c d 160 [some (va_rf (some 2000)), some (va_rf a1), some (va_rf a2), some (.int a3)] [] h (QI o) := by
  unfold b_L_law_160 at hB
  refine q_aload_n dL_law_160 rfl rfl ?_
  refine q_aload_n dL_law_161 rfl rfl ?_
  refine q_iload_n dL_law_162 rfl rfl ?_
  refine q_iconst (v := 1) dL_law_163 (by decide) ?_
  refine q_iadd dL_law_164 ?_
  refine q_ldX hB dL_law_165 (fun hB => ?_)
  refine q_callVI (k' := c) (w' := d) hB (fun b a hf => c_X9_write g l b _ _ a hf) rfl rfl dL_law_166 wd_274 cs_X9_write wd_275 wd_276 rfl ⟨⟨Nat.le_of_ble_eq_true rfl, Nat.le_of_ble_eq_true rfl⟩, ⟨show c + 0 ≤ 600000 by omega, show d + 0 ≤ room_1.slots by omega⟩, Nat.le_of_ble_eq_true rfl⟩ rfl rfl (fun n3 r2 hB => ?_)
  refine q_aload_n dL_law_169 rfl rfl ?_
  refine q_aload_n dL_law_170 rfl rfl ?_
  refine q_iload_n dL_law_171 rfl rfl ?_
  refine q_iconst (v := 1) dL_law_172 (by decide) ?_
  refine q_iadd dL_law_173 ?_
  refine q_ldX hB dL_law_174 (fun hB => ?_)
  refine q_callVI (k' := c) (w' := d) hB (fun b a hf => c_X10_write g l b _ _ a hf) rfl rfl dL_law_175 wd_820 cs_X10_write wd_821 wd_822 rfl ⟨⟨Nat.le_of_ble_eq_true rfl, Nat.le_of_ble_eq_true rfl⟩, ⟨show c + 0 ≤ 600000 by omega, show d + 0 ≤ room_1.slots by omega⟩, by simp [rf_cat, cat_i, cat_l]⟩ rfl rfl (fun n6 r5 hB => ?_)
  refine q_icmp_eq (tgt := 1007) hB dL_law_178 (by decide) (fun hB => ?_) (fun hB => ?_)
  · refine Wq.widen (k' := c + 4) (w' := d + 52) (by omega) (by omega) ?_
    exact Wq.mask [true, true, true, true] rfl (wb_L_law_1007 g l c d hc hd k18 _ _ _ _ o hB hk18)
  · refine q_iconst (v := 0) dL_law_181 (by decide) ?_
    exact q_zret hB dL_law_182 rfl (by show _ ≤ 600000; omega) (by show _ ≤ room_1.slots; omega)
set_option maxHeartbeats 4000000 in
set_option maxRecDepth 100000 in
theorem wb_L_law_183 (g : GG) (l : Launch) (c d : Nat) (hc : c + 4 ≤ 600000) (hd : d + 52 ≤ room_1.slots) (k18 : Option Nat → Option Nat → Int32 → HS → Option (Int32 × HS)) (a1 : Option Nat) (a2 : Option Nat) (a3 : Int32) (h : HS) (o : Int32 × HS) (hB : b_L_law_183 (gL g) (gX g) k18 a1 a2 a3 h = some o) (hk18 : ∀ (a1 : Option Nat) (a2 : Option Nat) (a3 : Int32) (h : HS), k18 a1 a2 a3 h = some o → Wq g l mL_law (c + 4) (d + 52) 18 [some (va_rf (some 2000)), some (va_rf a1), some (va_rf a2), some (.int a3)] [] h (QI o)) : Wq g l mL_law c d 183 [some (va_rf (some 2000)), some (va_rf a1), some (va_rf a2), some (.int a3)] [] h (QI o) := by
  unfold b_L_law_183 at hB
  refine q_aload_n dL_law_183 rfl rfl ?_
  refine q_callVI (k' := c) (w' := d) hB (fun b a hf => c_X9_wipe g l b _ a hf) rfl rfl dL_law_184 wd_282 cs_X9_wipe wd_283 wd_284 rfl ⟨⟨Nat.le_of_ble_eq_true rfl, Nat.le_of_ble_eq_true rfl⟩, ⟨show c + 0 ≤ 600000 by omega, show d + 0 ≤ room_1.slots by omega⟩, Nat.le_of_ble_eq_true rfl⟩ rfl rfl (fun n2 r1 hB => ?_)
  refine q_aload_n dL_law_187 rfl rfl ?_
  refine q_callVI (k' := c) (w' := d) hB (fun b a hf => c_X10_wipe g l b _ a hf) rfl rfl dL_law_188 wd_828 cs_X10_wipe wd_829 wd_830 rfl ⟨⟨Nat.le_of_ble_eq_true rfl, Nat.le_of_ble_eq_true rfl⟩, ⟨show c + 0 ≤ 600000 by omega, show d + 0 ≤ room_1.slots by omega⟩, by simp [rf_cat, cat_i, cat_l]⟩ rfl rfl (fun n4 r3 hB => ?_)
  refine q_icmp_eq (tgt := 1007) hB dL_law_191 (by decide) (fun hB => ?_) (fun hB => ?_)
  · refine Wq.widen (k' := c + 4) (w' := d + 52) (by omega) (by omega) ?_
    exact Wq.mask [true, true, true, true] rfl (wb_L_law_1007 g l c d hc hd k18 _ _ _ _ o hB hk18)
  · refine q_iconst (v := 0) dL_law_194 (by decide) ?_
    exact q_zret hB dL_law_195 rfl (by show _ ≤ 600000; omega) (by show _ ≤ room_1.slots; omega)
set_option maxHeartbeats 4000000 in
set_option maxRecDepth 100000 in
theorem wb_L_law_196 (g : GG) (l : Launch) (c d : Nat) (hc : c + 4 ≤ 600000) (hd : d + 52 ≤ room_1.slots) (k18 : Option Nat → Option Nat → Int32 → HS → Option (Int32 × HS)) (a1 : Option Nat) (a2 : Option Nat) (a3 : Int32) (h : HS) (o : Int32 × HS) (hB : b_L_law_196 (gL g) (gX g) k18 a1 a2 a3 h = some o) (hk18 : ∀ (a1 : Option Nat) (a2 : Option Nat) (a3 : Int32) (h : HS), k18 a1 a2 a3 h = some o → Wq g l mL_law (c + 4) (d + 52) 18 [some (va_rf (some 2000)), some (va_rf a1), some (va_rf a2), some (.int a3)] [] h (QI o)) : Wq g l mL_law c d 196 [some (va_rf (some 2000)), some (va_rf a1), some (va_rf a2), some (.int a3)] [] h (QI o) := by
  unfold b_L_law_196 at hB
  refine q_aload_n dL_law_196 rfl rfl ?_
  refine q_callVI (k' := c) (w' := d) hB (fun b a hf => c_X9_fault g l b _ a hf) rfl rfl dL_law_197 wd_286 cs_X9_fault wd_287 wd_288 rfl ⟨⟨Nat.le_of_ble_eq_true rfl, Nat.le_of_ble_eq_true rfl⟩, ⟨show c + 0 ≤ 600000 by omega, show d + 0 ≤ room_1.slots by omega⟩, Nat.le_of_ble_eq_true rfl⟩ rfl rfl (fun n2 r1 hB => ?_)
  refine q_aload_n dL_law_200 rfl rfl ?_
  refine q_callVI (k' := c) (w' := d) hB (fun b a hf => c_X10_fault g l b _ a hf) rfl rfl dL_law_201 wd_832 cs_X10_fault wd_833 wd_834 rfl ⟨⟨Nat.le_of_ble_eq_true rfl, Nat.le_of_ble_eq_true rfl⟩, ⟨show c + 0 ≤ 600000 by omega, show d + 0 ≤ room_1.slots by omega⟩, by simp [rf_cat, cat_i, cat_l]⟩ rfl rfl (fun n4 r3 hB => ?_)
  refine q_icmp_eq (tgt := 1007) hB dL_law_204 (by decide) (fun hB => ?_) (fun hB => ?_)
  · refine Wq.widen (k' := c + 4) (w' := d + 52) (by omega) (by omega) ?_
    exact Wq.mask [true, true, true, true] rfl (wb_L_law_1007 g l c d hc hd k18 _ _ _ _ o hB hk18)
  · refine q_iconst (v := 0) dL_law_207 (by decide) ?_
    exact q_zret hB dL_law_208 rfl (by show _ ≤ 600000; omega) (by show _ ≤ room_1.slots; omega)
set_option maxHeartbeats 4000000 in
set_option maxRecDepth 100000 in
theorem wb_L_law_209 (g : GG) (l : Launch) (c d : Nat) (hc : c + 4 ≤ 600000) (hd : d + 52 ≤ room_1.slots) (k18 : Option Nat → Option Nat → Int32 → HS → Option (Int32 × HS)) (a1 : Option Nat) (a2 : Option Nat) (a3 : Int32) (h : HS) (o : Int32 × HS) (hB : b_L_law_209 (gL g) (gX g) k18 a1 a2 a3 h = some o) (hk18 : ∀ (a1 : Option Nat) (a2 : Option Nat) (a3 : Int32) (h : HS), k18 a1 a2 a3 h = some o → Wq g l mL_law (c + 4) (d + 52) 18 [some (va_rf (some 2000)), some (va_rf a1), some (va_rf a2), some (.int a3)] [] h (QI o)) : Wq g l mL_law c d 209 [some (va_rf (some 2000)), some (va_rf a1), some (va_rf a2), some (.int a3)] [] h (QI o) := by
  unfold b_L_law_209 at hB
  refine q_aload_n dL_law_209 rfl rfl ?_
  refine q_callVI (k' := c) (w' := d) hB (fun b a hf => c_X9_plan g l b _ a hf) rfl rfl dL_law_210 wd_376 cs_X9_plan wd_377 wd_378 rfl ⟨⟨Nat.le_of_ble_eq_true rfl, Nat.le_of_ble_eq_true rfl⟩, ⟨show c + 0 ≤ 600000 by omega, show d + 0 ≤ room_1.slots by omega⟩, Nat.le_of_ble_eq_true rfl⟩ rfl rfl (fun n2 r1 hB => ?_)
  refine q_aload_n dL_law_213 rfl rfl ?_
  refine q_callVI (k' := c) (w' := d) hB (fun b a hf => c_X10_plan g l b _ a hf) rfl rfl dL_law_214 wd_855 cs_X10_plan wd_856 wd_857 rfl ⟨⟨Nat.le_of_ble_eq_true rfl, Nat.le_of_ble_eq_true rfl⟩, ⟨show c + 0 ≤ 600000 by omega, show d + 0 ≤ room_1.slots by omega⟩, by simp [rf_cat, cat_i, cat_l]⟩ rfl rfl (fun n4 r3 hB => ?_)
  refine q_icmp_eq (tgt := 1007) hB dL_law_217 (by decide) (fun hB => ?_) (fun hB => ?_)
  · refine Wq.widen (k' := c + 4) (w' := d + 52) (by omega) (by omega) ?_
    exact Wq.mask [true, true, true, true] rfl (wb_L_law_1007 g l c d hc hd k18 _ _ _ _ o hB hk18)
  · refine q_iconst (v := 0) dL_law_220 (by decide) ?_
    exact q_zret hB dL_law_221 rfl (by show _ ≤ 600000; omega) (by show _ ≤ room_1.slots; omega)
set_option maxHeartbeats 4000000 in
set_option maxRecDepth 100000 in
theorem wb_L_law_222 (g : GG) (l : Launch) (c d : Nat) (hc : c + 4 ≤ 600000) (hd : d + 52 ≤ room_1.slots) (k18 : Option Nat → Option Nat → Int32 → HS → Option (Int32 × HS)) (a1 : Option Nat) (a2 : Option Nat) (a3 : Int32) (h : HS) (o : Int32 × HS) (hB : b_L_law_222 (gL g) (gX g) k18 a1 a2 a3 h = some o) (hk18 : ∀ (a1 : Option Nat) (a2 : Option Nat) (a3 : Int32) (h : HS), k18 a1 a2 a3 h = some o → Wq g l mL_law (c + 4) (d + 52) 18 [some (va_rf (some 2000)), some (va_rf a1), some (va_rf a2), some (.int a3)] [] h (QI o)) : Wq g l mL_law c d 222 [some (va_rf (some 2000)), some (va_rf a1), some (va_rf a2), some (.int a3)] [] h (QI o) := by
  unfold b_L_law_222 at hB
  refine q_aload_n dL_law_222 rfl rfl ?_
  refine q_aload_n dL_law_223 rfl rfl ?_
  refine q_iload_n dL_law_224 rfl rfl ?_
  refine q_iconst (v := 1) dL_law_225 (by decide) ?_
  refine q_iadd dL_law_226 ?_
  refine q_ldX hB dL_law_227 (fun hB => ?_)
  refine q_callVI (k' := c) (w' := d) hB (fun b a hf => c_X9_word g l b _ _ a hf) rfl rfl dL_law_228 wd_449 cs_X9_word wd_450 wd_451 rfl ⟨⟨Nat.le_of_ble_eq_true rfl, Nat.le_of_ble_eq_true rfl⟩, ⟨show c + 0 ≤ 600000 by omega, show d + 0 ≤ room_1.slots by omega⟩, Nat.le_of_ble_eq_true rfl⟩ rfl rfl (fun n3 r2 hB => ?_)
  refine q_aload_n dL_law_231 rfl rfl ?_
  refine q_aload_n dL_law_232 rfl rfl ?_
  refine q_iload_n dL_law_233 rfl rfl ?_
  refine q_iconst (v := 1) dL_law_234 (by decide) ?_
  refine q_iadd dL_law_235 ?_
  refine q_ldX hB dL_law_236 (fun hB => ?_)
  refine q_callVI (k' := c) (w' := d) hB (fun b a hf => c_X10_word g l b _ _ a hf) rfl rfl dL_law_237 wd_898 cs_X10_word wd_899 wd_900 rfl ⟨⟨Nat.le_of_ble_eq_true rfl, Nat.le_of_ble_eq_true rfl⟩, ⟨show c + 0 ≤ 600000 by omega, show d + 0 ≤ room_1.slots by omega⟩, by simp [rf_cat, cat_i, cat_l]⟩ rfl rfl (fun n6 r5 hB => ?_)
  refine q_icmp_eq (tgt := 1007) hB dL_law_240 (by decide) (fun hB => ?_) (fun hB => ?_)
  · refine Wq.widen (k' := c + 4) (w' := d + 52) (by omega) (by omega) ?_
    exact Wq.mask [true, true, true, true] rfl (wb_L_law_1007 g l c d hc hd k18 _ _ _ _ o hB hk18)
  · refine q_iconst (v := 0) dL_law_243 (by decide) ?_
    exact q_zret hB dL_law_244 rfl (by show _ ≤ 600000; omega) (by show _ ≤ room_1.slots; omega)
set_option maxHeartbeats 4000000 in
set_option maxRecDepth 100000 in
theorem wb_L_law_245 (g : GG) (l : Launch) (c d : Nat) (hc : c + 4 ≤ 600000) (hd : d + 52 ≤ room_1.slots) (k18 : Option Nat → Option Nat → Int32 → HS → Option (Int32 × HS)) (a1 : Option Nat) (a2 : Option Nat) (a3 : Int32) (h : HS) (o : Int32 × HS) (hB : b_L_law_245 (gL g) (gX g) k18 a1 a2 a3 h = some o) (hk18 : ∀ (a1 : Option Nat) (a2 : Option Nat) (a3 : Int32) (h : HS), k18 a1 a2 a3 h = some o → Wq g l mL_law (c + 4) (d + 52) 18 [some (va_rf (some 2000)), some (va_rf a1), some (va_rf a2), some (.int a3)] [] h (QI o)) : Wq g l mL_law c d 245 [some (va_rf (some 2000)), some (va_rf a1), some (va_rf a2), some (.int a3)] [] h (QI o) := by
  unfold b_L_law_245 at hB
  refine q_aload_n dL_law_245 rfl rfl ?_
  refine q_aload_n dL_law_246 rfl rfl ?_
  refine q_iload_n dL_law_247 rfl rfl ?_
  refine q_iconst (v := 1) dL_law_248 (by decide) ?_
  refine q_iadd dL_law_249 ?_
  refine q_ldX hB dL_law_250 (fun hB => ?_)
  refine q_aload_n dL_law_251 rfl rfl ?_
  refine q_iload_n dL_law_252 rfl rfl ?_
  refine q_iconst (v := 2) dL_law_253 (by decide) ?_
  refine q_iadd dL_law_254 ?_
  refine q_ldX hB dL_law_255 (fun hB => ?_)
  refine q_aload_n dL_law_256 rfl rfl ?_
  refine q_iload_n dL_law_257 rfl rfl ?_
  refine q_iconst (v := 3) dL_law_258 (by decide) ?_
  refine q_iadd dL_law_259 ?_
  refine q_ldX hB dL_law_260 (fun hB => ?_)
  refine q_callVI (k' := c) (w' := d) hB (fun b a hf => c_X9_add g l b _ _ _ _ a hf) rfl rfl dL_law_261 wd_455 cs_X9_add wd_456 wd_457 rfl ⟨⟨Nat.le_of_ble_eq_true rfl, Nat.le_of_ble_eq_true rfl⟩, ⟨show c + 0 ≤ 600000 by omega, show d + 0 ≤ room_1.slots by omega⟩, Nat.le_of_ble_eq_true rfl⟩ rfl rfl (fun n5 r4 hB => ?_)
  refine q_aload_n dL_law_264 rfl rfl ?_
  refine q_aload_n dL_law_265 rfl rfl ?_
  refine q_iload_n dL_law_266 rfl rfl ?_
  refine q_iconst (v := 1) dL_law_267 (by decide) ?_
  refine q_iadd dL_law_268 ?_
  refine q_ldX hB dL_law_269 (fun hB => ?_)
  refine q_aload_n dL_law_270 rfl rfl ?_
  refine q_iload_n dL_law_271 rfl rfl ?_
  refine q_iconst (v := 2) dL_law_272 (by decide) ?_
  refine q_iadd dL_law_273 ?_
  refine q_ldX hB dL_law_274 (fun hB => ?_)
  refine q_aload_n dL_law_275 rfl rfl ?_
  refine q_iload_n dL_law_276 rfl rfl ?_
  refine q_iconst (v := 3) dL_law_277 (by decide) ?_
  refine q_iadd dL_law_278 ?_
  refine q_ldX hB dL_law_279 (fun hB => ?_)
  refine q_callVI (k' := c) (w' := d) hB (fun b a hf => c_X10_add g l b _ _ _ _ a hf) rfl rfl dL_law_280 wd_903 cs_X10_add wd_904 wd_905 rfl ⟨⟨Nat.le_of_ble_eq_true rfl, Nat.le_of_ble_eq_true rfl⟩, ⟨show c + 0 ≤ 600000 by omega, show d + 0 ≤ room_1.slots by omega⟩, by simp [rf_cat, cat_i, cat_l]⟩ rfl rfl (fun n10 r9 hB => ?_)
  refine q_icmp_eq (tgt := 1007) hB dL_law_283 (by decide) (fun hB => ?_) (fun hB => ?_)
  · refine Wq.widen (k' := c + 4) (w' := d + 52) (by omega) (by omega) ?_
    exact Wq.mask [true, true, true, true] rfl (wb_L_law_1007 g l c d hc hd k18 _ _ _ _ o hB hk18)
  · refine q_iconst (v := 0) dL_law_286 (by decide) ?_
    exact q_zret hB dL_law_287 rfl (by show _ ≤ 600000; omega) (by show _ ≤ room_1.slots; omega)
set_option maxHeartbeats 4000000 in
set_option maxRecDepth 100000 in
theorem wb_L_law_288 (g : GG) (l : Launch) (c d : Nat) (hc : c + 4 ≤ 600000) (hd : d + 52 ≤ room_1.slots) (k18 : Option Nat → Option Nat → Int32 → HS → Option (Int32 × HS)) (a1 : Option Nat) (a2 : Option Nat) (a3 : Int32) (h : HS) (o : Int32 × HS) (hB : b_L_law_288 (gL g) (gX g) k18 a1 a2 a3 h = some o) (hk18 : ∀ (a1 : Option Nat) (a2 : Option Nat) (a3 : Int32) (h : HS), k18 a1 a2 a3 h = some o → Wq g l mL_law (c + 4) (d + 52) 18 [some (va_rf (some 2000)), some (va_rf a1), some (va_rf a2), some (.int a3)] [] h (QI o)) : Wq g l mL_law c d 288 [some (va_rf (some 2000)), some (va_rf a1), some (va_rf a2), some (.int a3)] [] h (QI o) := by
  unfold b_L_law_288 at hB
  refine q_aload_n dL_law_288 rfl rfl ?_
  refine q_aload_n dL_law_289 rfl rfl ?_
  refine q_iload_n dL_law_290 rfl rfl ?_
  refine q_iconst (v := 1) dL_law_291 (by decide) ?_
  refine q_iadd dL_law_292 ?_
  refine q_ldX hB dL_law_293 (fun hB => ?_)
  refine q_callVI (k' := c) (w' := d) hB (fun b a hf => c_X9_drop g l b _ _ a hf) rfl rfl dL_law_294 wd_493 cs_X9_drop wd_494 wd_495 rfl ⟨⟨Nat.le_of_ble_eq_true rfl, Nat.le_of_ble_eq_true rfl⟩, ⟨show c + 0 ≤ 600000 by omega, show d + 0 ≤ room_1.slots by omega⟩, Nat.le_of_ble_eq_true rfl⟩ rfl rfl (fun n3 r2 hB => ?_)
  refine q_aload_n dL_law_297 rfl rfl ?_
  refine q_aload_n dL_law_298 rfl rfl ?_
  refine q_iload_n dL_law_299 rfl rfl ?_
  refine q_iconst (v := 1) dL_law_300 (by decide) ?_
  refine q_iadd dL_law_301 ?_
  refine q_ldX hB dL_law_302 (fun hB => ?_)
  refine q_callVI (k' := c) (w' := d) hB (fun b a hf => c_X10_drop g l b _ _ a hf) rfl rfl dL_law_303 wd_924 cs_X10_drop wd_925 wd_926 rfl ⟨⟨Nat.le_of_ble_eq_true rfl, Nat.le_of_ble_eq_true rfl⟩, ⟨show c + 0 ≤ 600000 by omega, show d + 0 ≤ room_1.slots by omega⟩, by simp [rf_cat, cat_i, cat_l]⟩ rfl rfl (fun n6 r5 hB => ?_)
  refine q_icmp_eq (tgt := 1007) hB dL_law_306 (by decide) (fun hB => ?_) (fun hB => ?_)
  · refine Wq.widen (k' := c + 4) (w' := d + 52) (by omega) (by omega) ?_
    exact Wq.mask [true, true, true, true] rfl (wb_L_law_1007 g l c d hc hd k18 _ _ _ _ o hB hk18)
  · refine q_iconst (v := 0) dL_law_309 (by decide) ?_
    exact q_zret hB dL_law_310 rfl (by show _ ≤ 600000; omega) (by show _ ≤ room_1.slots; omega)
set_option maxHeartbeats 4000000 in
set_option maxRecDepth 100000 in
theorem wb_L_law_311 (g : GG) (l : Launch) (c d : Nat) (hc : c + 4 ≤ 600000) (hd : d + 52 ≤ room_1.slots) (k18 : Option Nat → Option Nat → Int32 → HS → Option (Int32 × HS)) (a1 : Option Nat) (a2 : Option Nat) (a3 : Int32) (h : HS) (o : Int32 × HS) (hB : b_L_law_311 (gL g) (gX g) k18 a1 a2 a3 h = some o) (hk18 : ∀ (a1 : Option Nat) (a2 : Option Nat) (a3 : Int32) (h : HS), k18 a1 a2 a3 h = some o → Wq g l mL_law (c + 4) (d + 52) 18 [some (va_rf (some 2000)), some (va_rf a1), some (va_rf a2), some (.int a3)] [] h (QI o)) : Wq g l mL_law c d 311 [some (va_rf (some 2000)), some (va_rf a1), some (va_rf a2), some (.int a3)] [] h (QI o) := by
  unfold b_L_law_311 at hB
  refine q_aload_n dL_law_311 rfl rfl ?_
  refine q_aload_n dL_law_312 rfl rfl ?_
  refine q_iload_n dL_law_313 rfl rfl ?_
  refine q_iconst (v := 1) dL_law_314 (by decide) ?_
  refine q_iadd dL_law_315 ?_
  refine q_ldX hB dL_law_316 (fun hB => ?_)
  refine q_aload_n dL_law_317 rfl rfl ?_
  refine q_iload_n dL_law_318 rfl rfl ?_
  refine q_iconst (v := 2) dL_law_319 (by decide) ?_
  refine q_iadd dL_law_320 ?_
  refine q_ldX hB dL_law_321 (fun hB => ?_)
  refine q_callVI (k' := c) (w' := d) hB (fun b a hf => c_X9_change g l b _ _ _ a hf) rfl rfl dL_law_322 wd_506 cs_X9_change wd_507 wd_508 rfl ⟨⟨Nat.le_of_ble_eq_true rfl, Nat.le_of_ble_eq_true rfl⟩, ⟨show c + 0 ≤ 600000 by omega, show d + 0 ≤ room_1.slots by omega⟩, Nat.le_of_ble_eq_true rfl⟩ rfl rfl (fun n4 r3 hB => ?_)
  refine q_aload_n dL_law_325 rfl rfl ?_
  refine q_aload_n dL_law_326 rfl rfl ?_
  refine q_iload_n dL_law_327 rfl rfl ?_
  refine q_iconst (v := 1) dL_law_328 (by decide) ?_
  refine q_iadd dL_law_329 ?_
  refine q_ldX hB dL_law_330 (fun hB => ?_)
  refine q_aload_n dL_law_331 rfl rfl ?_
  refine q_iload_n dL_law_332 rfl rfl ?_
  refine q_iconst (v := 2) dL_law_333 (by decide) ?_
  refine q_iadd dL_law_334 ?_
  refine q_ldX hB dL_law_335 (fun hB => ?_)
  refine q_callVI (k' := c) (w' := d) hB (fun b a hf => c_X10_change g l b _ _ _ a hf) rfl rfl dL_law_336 wd_936 cs_X10_change wd_937 wd_938 rfl ⟨⟨Nat.le_of_ble_eq_true rfl, Nat.le_of_ble_eq_true rfl⟩, ⟨show c + 0 ≤ 600000 by omega, show d + 0 ≤ room_1.slots by omega⟩, by simp [rf_cat, cat_i, cat_l]⟩ rfl rfl (fun n8 r7 hB => ?_)
  refine q_icmp_eq (tgt := 1007) hB dL_law_339 (by decide) (fun hB => ?_) (fun hB => ?_)
  · refine Wq.widen (k' := c + 4) (w' := d + 52) (by omega) (by omega) ?_
    exact Wq.mask [true, true, true, true] rfl (wb_L_law_1007 g l c d hc hd k18 _ _ _ _ o hB hk18)
  · refine q_iconst (v := 0) dL_law_342 (by decide) ?_
    exact q_zret hB dL_law_343 rfl (by show _ ≤ 600000; omega) (by show _ ≤ room_1.slots; omega)
set_option maxHeartbeats 4000000 in
set_option maxRecDepth 100000 in
theorem wb_L_law_344 (g : GG) (l : Launch) (c d : Nat) (hc : c + 4 ≤ 600000) (hd : d + 52 ≤ room_1.slots) (k18 : Option Nat → Option Nat → Int32 → HS → Option (Int32 × HS)) (a1 : Option Nat) (a2 : Option Nat) (a3 : Int32) (h : HS) (o : Int32 × HS) (hB : b_L_law_344 (gL g) (gX g) k18 a1 a2 a3 h = some o) (hk18 : ∀ (a1 : Option Nat) (a2 : Option Nat) (a3 : Int32) (h : HS), k18 a1 a2 a3 h = some o → Wq g l mL_law (c + 4) (d + 52) 18 [some (va_rf (some 2000)), some (va_rf a1), some (va_rf a2), some (.int a3)] [] h (QI o)) : Wq g l mL_law c d 344 [some (va_rf (some 2000)), some (va_rf a1), some (va_rf a2), some (.int a3)] [] h (QI o) := by
  unfold b_L_law_344 at hB
  refine q_aload_n dL_law_344 rfl rfl ?_
  refine q_callVI (k' := c) (w' := d) hB (fun b a hf => c_X9_undo g l b _ a hf) rfl rfl dL_law_345 wd_510 cs_X9_undo wd_511 wd_512 rfl ⟨⟨Nat.le_of_ble_eq_true rfl, Nat.le_of_ble_eq_true rfl⟩, ⟨show c + 0 ≤ 600000 by omega, show d + 0 ≤ room_1.slots by omega⟩, Nat.le_of_ble_eq_true rfl⟩ rfl rfl (fun n2 r1 hB => ?_)
  refine q_aload_n dL_law_348 rfl rfl ?_
  refine q_callVI (k' := c) (w' := d) hB (fun b a hf => c_X10_undo g l b _ a hf) rfl rfl dL_law_349 wd_940 cs_X10_undo wd_941 wd_942 rfl ⟨⟨Nat.le_of_ble_eq_true rfl, Nat.le_of_ble_eq_true rfl⟩, ⟨show c + 0 ≤ 600000 by omega, show d + 0 ≤ room_1.slots by omega⟩, by simp [rf_cat, cat_i, cat_l]⟩ rfl rfl (fun n4 r3 hB => ?_)
  refine q_icmp_eq (tgt := 1007) hB dL_law_352 (by decide) (fun hB => ?_) (fun hB => ?_)
  · refine Wq.widen (k' := c + 4) (w' := d + 52) (by omega) (by omega) ?_
    exact Wq.mask [true, true, true, true] rfl (wb_L_law_1007 g l c d hc hd k18 _ _ _ _ o hB hk18)
  · refine q_iconst (v := 0) dL_law_355 (by decide) ?_
    exact q_zret hB dL_law_356 rfl (by show _ ≤ 600000; omega) (by show _ ≤ room_1.slots; omega)
set_option maxHeartbeats 4000000 in
set_option maxRecDepth 100000 in
theorem wb_L_law_357 (g : GG) (l : Launch) (c d : Nat) (hc : c + 4 ≤ 600000) (hd : d + 52 ≤ room_1.slots) (k18 : Option Nat → Option Nat → Int32 → HS → Option (Int32 × HS)) (a1 : Option Nat) (a2 : Option Nat) (a3 : Int32) (h : HS) (o : Int32 × HS) (hB : b_L_law_357 (gL g) (gX g) k18 a1 a2 a3 h = some o) (hk18 : ∀ (a1 : Option Nat) (a2 : Option Nat) (a3 : Int32) (h : HS), k18 a1 a2 a3 h = some o → Wq g l mL_law (c + 4) (d + 52) 18 [some (va_rf (some 2000)), some (va_rf a1), some (va_rf a2), some (.int a3)] [] h (QI o)) : Wq g l mL_law c d 357 [some (va_rf (some 2000)), some (va_rf a1), some (va_rf a2), some (.int a3)] [] h (QI o) := by
  unfold b_L_law_357 at hB
  refine q_aload_n dL_law_357 rfl rfl ?_
  refine q_aload_n dL_law_358 rfl rfl ?_
  refine q_iload_n dL_law_359 rfl rfl ?_
  refine q_iconst (v := 1) dL_law_360 (by decide) ?_
  refine q_iadd dL_law_361 ?_
  refine q_ldX hB dL_law_362 (fun hB => ?_)
  refine q_aload_n dL_law_363 rfl rfl ?_
  refine q_iload_n dL_law_364 rfl rfl ?_
  refine q_iconst (v := 2) dL_law_365 (by decide) ?_
  refine q_iadd dL_law_366 ?_
  refine q_ldX hB dL_law_367 (fun hB => ?_)
  refine q_callVI (k' := c) (w' := d) hB (fun b a hf => c_X9_entry g l b _ _ _ a hf) rfl rfl dL_law_368 wd_525 cs_X9_entry wd_526 wd_527 rfl ⟨⟨Nat.le_of_ble_eq_true rfl, Nat.le_of_ble_eq_true rfl⟩, ⟨show c + 0 ≤ 600000 by omega, show d + 0 ≤ room_1.slots by omega⟩, Nat.le_of_ble_eq_true rfl⟩ rfl rfl (fun n4 r3 hB => ?_)
  refine q_aload_n dL_law_371 rfl rfl ?_
  refine q_aload_n dL_law_372 rfl rfl ?_
  refine q_iload_n dL_law_373 rfl rfl ?_
  refine q_iconst (v := 1) dL_law_374 (by decide) ?_
  refine q_iadd dL_law_375 ?_
  refine q_ldX hB dL_law_376 (fun hB => ?_)
  refine q_aload_n dL_law_377 rfl rfl ?_
  refine q_iload_n dL_law_378 rfl rfl ?_
  refine q_iconst (v := 2) dL_law_379 (by decide) ?_
  refine q_iadd dL_law_380 ?_
  refine q_ldX hB dL_law_381 (fun hB => ?_)
  refine q_callVI (k' := c) (w' := d) hB (fun b a hf => c_X10_entry g l b _ _ _ a hf) rfl rfl dL_law_382 wd_944 cs_X10_entry wd_945 wd_946 rfl ⟨⟨Nat.le_of_ble_eq_true rfl, Nat.le_of_ble_eq_true rfl⟩, ⟨show c + 0 ≤ 600000 by omega, show d + 0 ≤ room_1.slots by omega⟩, by simp [rf_cat, cat_i, cat_l]⟩ rfl rfl (fun n8 r7 hB => ?_)
  refine q_icmp_eq (tgt := 1007) hB dL_law_385 (by decide) (fun hB => ?_) (fun hB => ?_)
  · refine Wq.widen (k' := c + 4) (w' := d + 52) (by omega) (by omega) ?_
    exact Wq.mask [true, true, true, true] rfl (wb_L_law_1007 g l c d hc hd k18 _ _ _ _ o hB hk18)
  · refine q_iconst (v := 0) dL_law_388 (by decide) ?_
    exact q_zret hB dL_law_389 rfl (by show _ ≤ 600000; omega) (by show _ ≤ room_1.slots; omega)
set_option maxHeartbeats 4000000 in
set_option maxRecDepth 100000 in
theorem wb_L_law_390 (g : GG) (l : Launch) (c d : Nat) (hc : c + 4 ≤ 600000) (hd : d + 52 ≤ room_1.slots) (k18 : Option Nat → Option Nat → Int32 → HS → Option (Int32 × HS)) (a1 : Option Nat) (a2 : Option Nat) (a3 : Int32) (h : HS) (o : Int32 × HS) (hB : b_L_law_390 (gL g) (gX g) k18 a1 a2 a3 h = some o) (hk18 : ∀ (a1 : Option Nat) (a2 : Option Nat) (a3 : Int32) (h : HS), k18 a1 a2 a3 h = some o → Wq g l mL_law (c + 4) (d + 52) 18 [some (va_rf (some 2000)), some (va_rf a1), some (va_rf a2), some (.int a3)] [] h (QI o)) : Wq g l mL_law c d 390 [some (va_rf (some 2000)), some (va_rf a1), some (va_rf a2), some (.int a3)] [] h (QI o) := by
  unfold b_L_law_390 at hB
  refine q_aload_n dL_law_390 rfl rfl ?_
  refine q_aload_n dL_law_391 rfl rfl ?_
  refine q_iload_n dL_law_392 rfl rfl ?_
  refine q_iconst (v := 1) dL_law_393 (by decide) ?_
  refine q_iadd dL_law_394 ?_
  refine q_ldX hB dL_law_395 (fun hB => ?_)
  refine q_aload_n dL_law_396 rfl rfl ?_
  refine q_iload_n dL_law_397 rfl rfl ?_
  refine q_iconst (v := 2) dL_law_398 (by decide) ?_
  refine q_iadd dL_law_399 ?_
  refine q_ldX hB dL_law_400 (fun hB => ?_)
  refine q_callVI (k' := c) (w' := d) hB (fun b a hf => c_X9_key g l b _ _ _ a hf) rfl rfl dL_law_401 wd_537 cs_X9_key wd_538 wd_539 rfl ⟨⟨Nat.le_of_ble_eq_true rfl, Nat.le_of_ble_eq_true rfl⟩, ⟨show c + 0 ≤ 600000 by omega, show d + 0 ≤ room_1.slots by omega⟩, Nat.le_of_ble_eq_true rfl⟩ rfl rfl (fun n4 r3 hB => ?_)
  refine q_aload_n dL_law_404 rfl rfl ?_
  refine q_aload_n dL_law_405 rfl rfl ?_
  refine q_iload_n dL_law_406 rfl rfl ?_
  refine q_iconst (v := 1) dL_law_407 (by decide) ?_
  refine q_iadd dL_law_408 ?_
  refine q_ldX hB dL_law_409 (fun hB => ?_)
  refine q_aload_n dL_law_410 rfl rfl ?_
  refine q_iload_n dL_law_411 rfl rfl ?_
  refine q_iconst (v := 2) dL_law_412 (by decide) ?_
  refine q_iadd dL_law_413 ?_
  refine q_ldX hB dL_law_414 (fun hB => ?_)
  refine q_callVI (k' := c) (w' := d) hB (fun b a hf => c_X10_key g l b _ _ _ a hf) rfl rfl dL_law_415 wd_952 cs_X10_key wd_953 wd_954 rfl ⟨⟨Nat.le_of_ble_eq_true rfl, Nat.le_of_ble_eq_true rfl⟩, ⟨show c + 0 ≤ 600000 by omega, show d + 0 ≤ room_1.slots by omega⟩, by simp [rf_cat, cat_i, cat_l]⟩ rfl rfl (fun n8 r7 hB => ?_)
  refine q_icmp_eq (tgt := 1007) hB dL_law_418 (by decide) (fun hB => ?_) (fun hB => ?_)
  · refine Wq.widen (k' := c + 4) (w' := d + 52) (by omega) (by omega) ?_
    exact Wq.mask [true, true, true, true] rfl (wb_L_law_1007 g l c d hc hd k18 _ _ _ _ o hB hk18)
  · refine q_iconst (v := 0) dL_law_421 (by decide) ?_
    exact q_zret hB dL_law_422 rfl (by show _ ≤ 600000; omega) (by show _ ≤ room_1.slots; omega)
set_option maxHeartbeats 4000000 in
set_option maxRecDepth 100000 in
theorem wb_L_law_423 (g : GG) (l : Launch) (c d : Nat) (hc : c + 4 ≤ 600000) (hd : d + 52 ≤ room_1.slots) (k18 : Option Nat → Option Nat → Int32 → HS → Option (Int32 × HS)) (a1 : Option Nat) (a2 : Option Nat) (a3 : Int32) (h : HS) (o : Int32 × HS) (hB : b_L_law_423 (gL g) (gX g) k18 a1 a2 a3 h = some o) (hk18 : ∀ (a1 : Option Nat) (a2 : Option Nat) (a3 : Int32) (h : HS), k18 a1 a2 a3 h = some o → Wq g l mL_law (c + 4) (d + 52) 18 [some (va_rf (some 2000)), some (va_rf a1), some (va_rf a2), some (.int a3)] [] h (QI o)) : Wq g l mL_law c d 423 [some (va_rf (some 2000)), some (va_rf a1), some (va_rf a2), some (.int a3)] [] h (QI o) := by
  unfold b_L_law_423 at hB
  refine q_aload_n dL_law_423 rfl rfl ?_
  refine q_aload_n dL_law_424 rfl rfl ?_
  refine q_iload_n dL_law_425 rfl rfl ?_
  refine q_iconst (v := 1) dL_law_426 (by decide) ?_
  refine q_iadd dL_law_427 ?_
  refine q_ldX hB dL_law_428 (fun hB => ?_)
  refine q_aload_n dL_law_429 rfl rfl ?_
  refine q_iload_n dL_law_430 rfl rfl ?_
  refine q_iconst (v := 2) dL_law_431 (by decide) ?_
  refine q_iadd dL_law_432 ?_
  refine q_ldX hB dL_law_433 (fun hB => ?_)
  refine q_callVI (k' := c) (w' := d) hB (fun b a hf => c_X9_cell g l b _ _ _ a hf) rfl rfl dL_law_434 wd_555 cs_X9_cell wd_556 wd_557 rfl ⟨⟨Nat.le_of_ble_eq_true rfl, Nat.le_of_ble_eq_true rfl⟩, ⟨show c + 0 ≤ 600000 by omega, show d + 0 ≤ room_1.slots by omega⟩, Nat.le_of_ble_eq_true rfl⟩ rfl rfl (fun n4 r3 hB => ?_)
  refine q_aload_n dL_law_437 rfl rfl ?_
  refine q_aload_n dL_law_438 rfl rfl ?_
  refine q_iload_n dL_law_439 rfl rfl ?_
  refine q_iconst (v := 1) dL_law_440 (by decide) ?_
  refine q_iadd dL_law_441 ?_
  refine q_ldX hB dL_law_442 (fun hB => ?_)
  refine q_aload_n dL_law_443 rfl rfl ?_
  refine q_iload_n dL_law_444 rfl rfl ?_
  refine q_iconst (v := 2) dL_law_445 (by decide) ?_
  refine q_iadd dL_law_446 ?_
  refine q_ldX hB dL_law_447 (fun hB => ?_)
  refine q_callVI (k' := c) (w' := d) hB (fun b a hf => c_X10_cell g l b _ _ _ a hf) rfl rfl dL_law_448 wd_960 cs_X10_cell wd_961 wd_962 rfl ⟨⟨Nat.le_of_ble_eq_true rfl, Nat.le_of_ble_eq_true rfl⟩, ⟨show c + 0 ≤ 600000 by omega, show d + 0 ≤ room_1.slots by omega⟩, by simp [rf_cat, cat_i, cat_l]⟩ rfl rfl (fun n8 r7 hB => ?_)
  refine q_icmp_eq (tgt := 1007) hB dL_law_451 (by decide) (fun hB => ?_) (fun hB => ?_)
  · refine Wq.widen (k' := c + 4) (w' := d + 52) (by omega) (by omega) ?_
    exact Wq.mask [true, true, true, true] rfl (wb_L_law_1007 g l c d hc hd k18 _ _ _ _ o hB hk18)
  · refine q_iconst (v := 0) dL_law_454 (by decide) ?_
    exact q_zret hB dL_law_455 rfl (by show _ ≤ 600000; omega) (by show _ ≤ room_1.slots; omega)
set_option maxHeartbeats 4000000 in
set_option maxRecDepth 100000 in
theorem wb_L_law_456 (g : GG) (l : Launch) (c d : Nat) (hc : c + 4 ≤ 600000) (hd : d + 52 ≤ room_1.slots) (k18 : Option Nat → Option Nat → Int32 → HS → Option (Int32 × HS)) (a1 : Option Nat) (a2 : Option Nat) (a3 : Int32) (h : HS) (o : Int32 × HS) (hB : b_L_law_456 (gL g) (gX g) k18 a1 a2 a3 h = some o) (hk18 : ∀ (a1 : Option Nat) (a2 : Option Nat) (a3 : Int32) (h : HS), k18 a1 a2 a3 h = some o → Wq g l mL_law (c + 4) (d + 52) 18 [some (va_rf (some 2000)), some (va_rf a1), some (va_rf a2), some (.int a3)] [] h (QI o)) : Wq g l mL_law c d 456 [some (va_rf (some 2000)), some (va_rf a1), some (va_rf a2), some (.int a3)] [] h (QI o) := by
  unfold b_L_law_456 at hB
  refine q_aload_n dL_law_456 rfl rfl ?_
  refine q_aload_n dL_law_457 rfl rfl ?_
  refine q_iload_n dL_law_458 rfl rfl ?_
  refine q_iconst (v := 1) dL_law_459 (by decide) ?_
  refine q_iadd dL_law_460 ?_
  refine q_ldX hB dL_law_461 (fun hB => ?_)
  refine q_aload_n dL_law_462 rfl rfl ?_
  refine q_iload_n dL_law_463 rfl rfl ?_
  refine q_iconst (v := 2) dL_law_464 (by decide) ?_
  refine q_iadd dL_law_465 ?_
  refine q_ldX hB dL_law_466 (fun hB => ?_)
  refine q_callVI (k' := c) (w' := d) hB (fun b a hf => c_X9_drill g l b _ _ _ a hf) rfl rfl dL_law_467 wd_572 cs_X9_drill wd_573 wd_574 rfl ⟨⟨Nat.le_of_ble_eq_true rfl, Nat.le_of_ble_eq_true rfl⟩, ⟨show c + 0 ≤ 600000 by omega, show d + 0 ≤ room_1.slots by omega⟩, Nat.le_of_ble_eq_true rfl⟩ rfl rfl (fun n4 r3 hB => ?_)
  refine q_aload_n dL_law_470 rfl rfl ?_
  refine q_aload_n dL_law_471 rfl rfl ?_
  refine q_iload_n dL_law_472 rfl rfl ?_
  refine q_iconst (v := 1) dL_law_473 (by decide) ?_
  refine q_iadd dL_law_474 ?_
  refine q_ldX hB dL_law_475 (fun hB => ?_)
  refine q_aload_n dL_law_476 rfl rfl ?_
  refine q_iload_n dL_law_477 rfl rfl ?_
  refine q_iconst (v := 2) dL_law_478 (by decide) ?_
  refine q_iadd dL_law_479 ?_
  refine q_ldX hB dL_law_480 (fun hB => ?_)
  refine q_callVI (k' := c) (w' := d) hB (fun b a hf => c_X10_drill g l b _ _ _ a hf) rfl rfl dL_law_481 wd_972 cs_X10_drill wd_973 wd_974 rfl ⟨⟨Nat.le_of_ble_eq_true rfl, Nat.le_of_ble_eq_true rfl⟩, ⟨show c + 0 ≤ 600000 by omega, show d + 0 ≤ room_1.slots by omega⟩, by simp [rf_cat, cat_i, cat_l]⟩ rfl rfl (fun n8 r7 hB => ?_)
  refine q_icmp_eq (tgt := 1007) hB dL_law_484 (by decide) (fun hB => ?_) (fun hB => ?_)
  · refine Wq.widen (k' := c + 4) (w' := d + 52) (by omega) (by omega) ?_
    exact Wq.mask [true, true, true, true] rfl (wb_L_law_1007 g l c d hc hd k18 _ _ _ _ o hB hk18)
  · refine q_iconst (v := 0) dL_law_487 (by decide) ?_
    exact q_zret hB dL_law_488 rfl (by show _ ≤ 600000; omega) (by show _ ≤ room_1.slots; omega)
set_option maxHeartbeats 4000000 in
set_option maxRecDepth 100000 in
theorem wb_L_law_489 (g : GG) (l : Launch) (c d : Nat) (hc : c + 4 ≤ 600000) (hd : d + 52 ≤ room_1.slots) (k18 : Option Nat → Option Nat → Int32 → HS → Option (Int32 × HS)) (a1 : Option Nat) (a2 : Option Nat) (a3 : Int32) (h : HS) (o : Int32 × HS) (hB : b_L_law_489 (gL g) (gX g) k18 a1 a2 a3 h = some o) (hk18 : ∀ (a1 : Option Nat) (a2 : Option Nat) (a3 : Int32) (h : HS), k18 a1 a2 a3 h = some o → Wq g l mL_law (c + 4) (d + 52) 18 [some (va_rf (some 2000)), some (va_rf a1), some (va_rf a2), some (.int a3)] [] h (QI o)) : Wq g l mL_law c d 489 [some (va_rf (some 2000)), some (va_rf a1), some (va_rf a2), some (.int a3)] [] h (QI o) := by
  unfold b_L_law_489 at hB
  refine q_aload_n dL_law_489 rfl rfl ?_
  refine q_aload_n dL_law_490 rfl rfl ?_
  refine q_iload_n dL_law_491 rfl rfl ?_
  refine q_iconst (v := 1) dL_law_492 (by decide) ?_
  refine q_iadd dL_law_493 ?_
  refine q_ldX hB dL_law_494 (fun hB => ?_)
  refine q_aload_n dL_law_495 rfl rfl ?_
  refine q_iload_n dL_law_496 rfl rfl ?_
  refine q_iconst (v := 2) dL_law_497 (by decide) ?_
  refine q_iadd dL_law_498 ?_
  refine q_ldX hB dL_law_499 (fun hB => ?_)
  refine q_callVI (k' := c) (w' := d) hB (fun b a hf => c_X9_along g l b _ _ _ a hf) rfl rfl dL_law_500 wd_576 cs_X9_along wd_577 wd_578 rfl ⟨⟨Nat.le_of_ble_eq_true rfl, Nat.le_of_ble_eq_true rfl⟩, ⟨show c + 0 ≤ 600000 by omega, show d + 0 ≤ room_1.slots by omega⟩, Nat.le_of_ble_eq_true rfl⟩ rfl rfl (fun n4 r3 hB => ?_)
  refine q_aload_n dL_law_503 rfl rfl ?_
  refine q_aload_n dL_law_504 rfl rfl ?_
  refine q_iload_n dL_law_505 rfl rfl ?_
  refine q_iconst (v := 1) dL_law_506 (by decide) ?_
  refine q_iadd dL_law_507 ?_
  refine q_ldX hB dL_law_508 (fun hB => ?_)
  refine q_aload_n dL_law_509 rfl rfl ?_
  refine q_iload_n dL_law_510 rfl rfl ?_
  refine q_iconst (v := 2) dL_law_511 (by decide) ?_
  refine q_iadd dL_law_512 ?_
  refine q_ldX hB dL_law_513 (fun hB => ?_)
  refine q_callVI (k' := c) (w' := d) hB (fun b a hf => c_X10_along g l b _ _ _ a hf) rfl rfl dL_law_514 wd_976 cs_X10_along wd_977 wd_978 rfl ⟨⟨Nat.le_of_ble_eq_true rfl, Nat.le_of_ble_eq_true rfl⟩, ⟨show c + 0 ≤ 600000 by omega, show d + 0 ≤ room_1.slots by omega⟩, by simp [rf_cat, cat_i, cat_l]⟩ rfl rfl (fun n8 r7 hB => ?_)
  refine q_icmp_eq (tgt := 1007) hB dL_law_517 (by decide) (fun hB => ?_) (fun hB => ?_)
  · refine Wq.widen (k' := c + 4) (w' := d + 52) (by omega) (by omega) ?_
    exact Wq.mask [true, true, true, true] rfl (wb_L_law_1007 g l c d hc hd k18 _ _ _ _ o hB hk18)
  · refine q_iconst (v := 0) dL_law_520 (by decide) ?_
    exact q_zret hB dL_law_521 rfl (by show _ ≤ 600000; omega) (by show _ ≤ room_1.slots; omega)
set_option maxHeartbeats 4000000 in
set_option maxRecDepth 100000 in
theorem wb_L_law_522 (g : GG) (l : Launch) (c d : Nat) (hc : c + 4 ≤ 600000) (hd : d + 52 ≤ room_1.slots) (k18 : Option Nat → Option Nat → Int32 → HS → Option (Int32 × HS)) (a1 : Option Nat) (a2 : Option Nat) (a3 : Int32) (h : HS) (o : Int32 × HS) (hB : b_L_law_522 (gL g) (gX g) k18 a1 a2 a3 h = some o) (hk18 : ∀ (a1 : Option Nat) (a2 : Option Nat) (a3 : Int32) (h : HS), k18 a1 a2 a3 h = some o → Wq g l mL_law (c + 4) (d + 52) 18 [some (va_rf (some 2000)), some (va_rf a1), some (va_rf a2), some (.int a3)] [] h (QI o)) : Wq g l mL_law c d 522 [some (va_rf (some 2000)), some (va_rf a1), some (va_rf a2), some (.int a3)] [] h (QI o) := by
  unfold b_L_law_522 at hB
  refine q_aload_n dL_law_522 rfl rfl ?_
  refine q_callVI (k' := c) (w' := d) hB (fun b a hf => c_X9_total g l b _ a hf) rfl rfl dL_law_523 wd_580 cs_X9_total wd_581 wd_582 rfl ⟨⟨Nat.le_of_ble_eq_true rfl, Nat.le_of_ble_eq_true rfl⟩, ⟨show c + 0 ≤ 600000 by omega, show d + 0 ≤ room_1.slots by omega⟩, Nat.le_of_ble_eq_true rfl⟩ rfl rfl (fun n2 r1 hB => ?_)
  refine q_aload_n dL_law_526 rfl rfl ?_
  refine q_callVI (k' := c) (w' := d) hB (fun b a hf => c_X10_total g l b _ a hf) rfl rfl dL_law_527 wd_980 cs_X10_total wd_981 wd_982 rfl ⟨⟨Nat.le_of_ble_eq_true rfl, Nat.le_of_ble_eq_true rfl⟩, ⟨show c + 0 ≤ 600000 by omega, show d + 0 ≤ room_1.slots by omega⟩, by simp [rf_cat, cat_i, cat_l]⟩ rfl rfl (fun n4 r3 hB => ?_)
  refine q_icmp_eq (tgt := 1007) hB dL_law_530 (by decide) (fun hB => ?_) (fun hB => ?_)
  · refine Wq.widen (k' := c + 4) (w' := d + 52) (by omega) (by omega) ?_
    exact Wq.mask [true, true, true, true] rfl (wb_L_law_1007 g l c d hc hd k18 _ _ _ _ o hB hk18)
  · refine q_iconst (v := 0) dL_law_533 (by decide) ?_
    exact q_zret hB dL_law_534 rfl (by show _ ≤ 600000; omega) (by show _ ≤ room_1.slots; omega)
set_option maxHeartbeats 4000000 in
set_option maxRecDepth 100000 in
theorem wb_L_law_535 (g : GG) (l : Launch) (c d : Nat) (hc : c + 4 ≤ 600000) (hd : d + 52 ≤ room_1.slots) (k18 : Option Nat → Option Nat → Int32 → HS → Option (Int32 × HS)) (a1 : Option Nat) (a2 : Option Nat) (a3 : Int32) (h : HS) (o : Int32 × HS) (hB : b_L_law_535 (gL g) (gX g) k18 a1 a2 a3 h = some o) (hk18 : ∀ (a1 : Option Nat) (a2 : Option Nat) (a3 : Int32) (h : HS), k18 a1 a2 a3 h = some o → Wq g l mL_law (c + 4) (d + 52) 18 [some (va_rf (some 2000)), some (va_rf a1), some (va_rf a2), some (.int a3)] [] h (QI o)) : Wq g l mL_law c d 535 [some (va_rf (some 2000)), some (va_rf a1), some (va_rf a2), some (.int a3)] [] h (QI o) := by
  unfold b_L_law_535 at hB
  refine q_aload_n dL_law_535 rfl rfl ?_
  refine q_aload_n dL_law_536 rfl rfl ?_
  refine q_iload_n dL_law_537 rfl rfl ?_
  refine q_iconst (v := 1) dL_law_538 (by decide) ?_
  refine q_iadd dL_law_539 ?_
  refine q_ldX hB dL_law_540 (fun hB => ?_)
  refine q_aload_n dL_law_541 rfl rfl ?_
  refine q_iload_n dL_law_542 rfl rfl ?_
  refine q_iconst (v := 2) dL_law_543 (by decide) ?_
  refine q_iadd dL_law_544 ?_
  refine q_ldX hB dL_law_545 (fun hB => ?_)
  refine q_aload_n dL_law_546 rfl rfl ?_
  refine q_iload_n dL_law_547 rfl rfl ?_
  refine q_iconst (v := 3) dL_law_548 (by decide) ?_
  refine q_iadd dL_law_549 ?_
  refine q_ldX hB dL_law_550 (fun hB => ?_)
  refine q_aload_n dL_law_551 rfl rfl ?_
  refine q_iload_n dL_law_552 rfl rfl ?_
  refine q_iconst (v := 4) dL_law_553 (by decide) ?_
  refine q_iadd dL_law_554 ?_
  refine q_ldX hB dL_law_555 (fun hB => ?_)
  refine q_callVI (k' := c) (w' := d) hB (fun b a hf => c_X9_would g l b _ _ _ _ _ a hf) rfl rfl dL_law_556 wd_592 cs_X9_would wd_593 wd_594 rfl ⟨⟨Nat.le_of_ble_eq_true rfl, Nat.le_of_ble_eq_true rfl⟩, ⟨show c + 0 ≤ 600000 by omega, show d + 0 ≤ room_1.slots by omega⟩, Nat.le_of_ble_eq_true rfl⟩ rfl rfl (fun n6 r5 hB => ?_)
  refine q_aload_n dL_law_559 rfl rfl ?_
  refine q_aload_n dL_law_560 rfl rfl ?_
  refine q_iload_n dL_law_561 rfl rfl ?_
  refine q_iconst (v := 1) dL_law_562 (by decide) ?_
  refine q_iadd dL_law_563 ?_
  refine q_ldX hB dL_law_564 (fun hB => ?_)
  refine q_aload_n dL_law_565 rfl rfl ?_
  refine q_iload_n dL_law_566 rfl rfl ?_
  refine q_iconst (v := 2) dL_law_567 (by decide) ?_
  refine q_iadd dL_law_568 ?_
  refine q_ldX hB dL_law_569 (fun hB => ?_)
  refine q_aload_n dL_law_570 rfl rfl ?_
  refine q_iload_n dL_law_571 rfl rfl ?_
  refine q_iconst (v := 3) dL_law_572 (by decide) ?_
  refine q_iadd dL_law_573 ?_
  refine q_ldX hB dL_law_574 (fun hB => ?_)
  refine q_aload_n dL_law_575 rfl rfl ?_
  refine q_iload_n dL_law_576 rfl rfl ?_
  refine q_iconst (v := 4) dL_law_577 (by decide) ?_
  refine q_iadd dL_law_578 ?_
  refine q_ldX hB dL_law_579 (fun hB => ?_)
  refine q_callVI (k' := c) (w' := d) hB (fun b a hf => c_X10_would g l b _ _ _ _ _ a hf) rfl rfl dL_law_580 wd_988 cs_X10_would wd_989 wd_990 rfl ⟨⟨Nat.le_of_ble_eq_true rfl, Nat.le_of_ble_eq_true rfl⟩, ⟨show c + 0 ≤ 600000 by omega, show d + 0 ≤ room_1.slots by omega⟩, by simp [rf_cat, cat_i, cat_l]⟩ rfl rfl (fun n12 r11 hB => ?_)
  refine q_icmp_eq (tgt := 1007) hB dL_law_583 (by decide) (fun hB => ?_) (fun hB => ?_)
  · refine Wq.widen (k' := c + 4) (w' := d + 52) (by omega) (by omega) ?_
    exact Wq.mask [true, true, true, true] rfl (wb_L_law_1007 g l c d hc hd k18 _ _ _ _ o hB hk18)
  · refine q_iconst (v := 0) dL_law_586 (by decide) ?_
    exact q_zret hB dL_law_587 rfl (by show _ ≤ 600000; omega) (by show _ ≤ room_1.slots; omega)
set_option maxHeartbeats 4000000 in
set_option maxRecDepth 100000 in
theorem wb_L_law_588 (g : GG) (l : Launch) (c d : Nat) (hc : c + 4 ≤ 600000) (hd : d + 52 ≤ room_1.slots) (k18 : Option Nat → Option Nat → Int32 → HS → Option (Int32 × HS)) (a1 : Option Nat) (a2 : Option Nat) (a3 : Int32) (h : HS) (o : Int32 × HS) (hB : b_L_law_588 (gL g) (gX g) k18 a1 a2 a3 h = some o) (hk18 : ∀ (a1 : Option Nat) (a2 : Option Nat) (a3 : Int32) (h : HS), k18 a1 a2 a3 h = some o → Wq g l mL_law (c + 4) (d + 52) 18 [some (va_rf (some 2000)), some (va_rf a1), some (va_rf a2), some (.int a3)] [] h (QI o)) : Wq g l mL_law c d 588 [some (va_rf (some 2000)), some (va_rf a1), some (va_rf a2), some (.int a3)] [] h (QI o) := by
  unfold b_L_law_588 at hB
  refine q_aload_n dL_law_588 rfl rfl ?_
  refine q_aload_n dL_law_589 rfl rfl ?_
  refine q_iload_n dL_law_590 rfl rfl ?_
  refine q_iconst (v := 1) dL_law_591 (by decide) ?_
  refine q_iadd dL_law_592 ?_
  refine q_ldX hB dL_law_593 (fun hB => ?_)
  refine q_callVI (k' := c) (w' := d) hB (fun b a hf => c_X9_best g l b _ _ a hf) rfl rfl dL_law_594 wd_600 cs_X9_best wd_601 wd_602 rfl ⟨⟨Nat.le_of_ble_eq_true rfl, Nat.le_of_ble_eq_true rfl⟩, ⟨show c + 0 ≤ 600000 by omega, show d + 0 ≤ room_1.slots by omega⟩, Nat.le_of_ble_eq_true rfl⟩ rfl rfl (fun n3 r2 hB => ?_)
  refine q_aload_n dL_law_597 rfl rfl ?_
  refine q_aload_n dL_law_598 rfl rfl ?_
  refine q_iload_n dL_law_599 rfl rfl ?_
  refine q_iconst (v := 1) dL_law_600 (by decide) ?_
  refine q_iadd dL_law_601 ?_
  refine q_ldX hB dL_law_602 (fun hB => ?_)
  refine q_callVI (k' := c) (w' := d) hB (fun b a hf => c_X10_best g l b _ _ a hf) rfl rfl dL_law_603 wd_996 cs_X10_best wd_997 wd_998 rfl ⟨⟨Nat.le_of_ble_eq_true rfl, Nat.le_of_ble_eq_true rfl⟩, ⟨show c + 0 ≤ 600000 by omega, show d + 0 ≤ room_1.slots by omega⟩, by simp [rf_cat, cat_i, cat_l]⟩ rfl rfl (fun n6 r5 hB => ?_)
  refine q_icmp_eq (tgt := 1007) hB dL_law_606 (by decide) (fun hB => ?_) (fun hB => ?_)
  · refine Wq.widen (k' := c + 4) (w' := d + 52) (by omega) (by omega) ?_
    exact Wq.mask [true, true, true, true] rfl (wb_L_law_1007 g l c d hc hd k18 _ _ _ _ o hB hk18)
  · refine q_iconst (v := 0) dL_law_609 (by decide) ?_
    exact q_zret hB dL_law_610 rfl (by show _ ≤ 600000; omega) (by show _ ≤ room_1.slots; omega)
set_option maxHeartbeats 4000000 in
set_option maxRecDepth 100000 in
theorem wb_L_law_611 (g : GG) (l : Launch) (c d : Nat) (hc : c + 4 ≤ 600000) (hd : d + 52 ≤ room_1.slots) (k18 : Option Nat → Option Nat → Int32 → HS → Option (Int32 × HS)) (a1 : Option Nat) (a2 : Option Nat) (a3 : Int32) (h : HS) (o : Int32 × HS) (hB : b_L_law_611 (gL g) (gX g) k18 a1 a2 a3 h = some o) (hk18 : ∀ (a1 : Option Nat) (a2 : Option Nat) (a3 : Int32) (h : HS), k18 a1 a2 a3 h = some o → Wq g l mL_law (c + 4) (d + 52) 18 [some (va_rf (some 2000)), some (va_rf a1), some (va_rf a2), some (.int a3)] [] h (QI o)) : Wq g l mL_law c d 611 [some (va_rf (some 2000)), some (va_rf a1), some (va_rf a2), some (.int a3)] [] h (QI o) := by
  unfold b_L_law_611 at hB
  refine q_aload_n dL_law_611 rfl rfl ?_
  refine q_aload_n dL_law_612 rfl rfl ?_
  refine q_iload_n dL_law_613 rfl rfl ?_
  refine q_iconst (v := 1) dL_law_614 (by decide) ?_
  refine q_iadd dL_law_615 ?_
  refine q_ldX hB dL_law_616 (fun hB => ?_)
  refine q_aload_n dL_law_617 rfl rfl ?_
  refine q_iload_n dL_law_618 rfl rfl ?_
  refine q_iconst (v := 2) dL_law_619 (by decide) ?_
  refine q_iadd dL_law_620 ?_
  refine q_ldX hB dL_law_621 (fun hB => ?_)
  refine q_i2l dL_law_622 ?_
  refine q_bipush (v := 32) dL_law_623 (by decide) ?_
  refine q_lshl dL_law_625 ?_
  refine q_aload_n dL_law_626 rfl rfl ?_
  refine q_iload_n dL_law_627 rfl rfl ?_
  refine q_iconst (v := 3) dL_law_628 (by decide) ?_
  refine q_iadd dL_law_629 ?_
  refine q_ldX hB dL_law_630 (fun hB => ?_)
  refine q_i2l dL_law_631 ?_
  refine q_ldc2 dL_law_632 wd_1087 ?_
  refine q_land dL_law_635 ?_
  refine q_lor dL_law_636 ?_
  refine q_callVI (k' := c) (w' := d) hB (fun b a hf => c_X9_judge g l b _ _ _ a hf) rfl rfl dL_law_637 wd_604 cs_X9_judge wd_605 wd_606 rfl ⟨⟨Nat.le_of_ble_eq_true rfl, Nat.le_of_ble_eq_true rfl⟩, ⟨show c + 0 ≤ 600000 by omega, show d + 0 ≤ room_1.slots by omega⟩, Nat.le_of_ble_eq_true rfl⟩ rfl rfl (fun n5 r4 hB => ?_)
  refine q_aload_n dL_law_640 rfl rfl ?_
  refine q_aload_n dL_law_641 rfl rfl ?_
  refine q_iload_n dL_law_642 rfl rfl ?_
  refine q_iconst (v := 1) dL_law_643 (by decide) ?_
  refine q_iadd dL_law_644 ?_
  refine q_ldX hB dL_law_645 (fun hB => ?_)
  refine q_aload_n dL_law_646 rfl rfl ?_
  refine q_iload_n dL_law_647 rfl rfl ?_
  refine q_iconst (v := 2) dL_law_648 (by decide) ?_
  refine q_iadd dL_law_649 ?_
  refine q_ldX hB dL_law_650 (fun hB => ?_)
  refine q_i2l dL_law_651 ?_
  refine q_bipush (v := 32) dL_law_652 (by decide) ?_
  refine q_lshl dL_law_654 ?_
  refine q_aload_n dL_law_655 rfl rfl ?_
  refine q_iload_n dL_law_656 rfl rfl ?_
  refine q_iconst (v := 3) dL_law_657 (by decide) ?_
  refine q_iadd dL_law_658 ?_
  refine q_ldX hB dL_law_659 (fun hB => ?_)
  refine q_i2l dL_law_660 ?_
  refine q_ldc2 dL_law_661 wd_1087 ?_
  refine q_land dL_law_664 ?_
  refine q_lor dL_law_665 ?_
  refine q_callVI (k' := c) (w' := d) hB (fun b a hf => c_X10_judge g l b _ _ _ a hf) rfl rfl dL_law_666 wd_1000 cs_X10_judge wd_1001 wd_1002 rfl ⟨⟨Nat.le_of_ble_eq_true rfl, Nat.le_of_ble_eq_true rfl⟩, ⟨show c + 0 ≤ 600000 by omega, show d + 0 ≤ room_1.slots by omega⟩, by simp [rf_cat, cat_i, cat_l]⟩ rfl rfl (fun n10 r9 hB => ?_)
  refine q_icmp_eq (tgt := 1007) hB dL_law_669 (by decide) (fun hB => ?_) (fun hB => ?_)
  · refine Wq.widen (k' := c + 4) (w' := d + 52) (by omega) (by omega) ?_
    exact Wq.mask [true, true, true, true] rfl (wb_L_law_1007 g l c d hc hd k18 _ _ _ _ o hB hk18)
  · refine q_iconst (v := 0) dL_law_672 (by decide) ?_
    exact q_zret hB dL_law_673 rfl (by show _ ≤ 600000; omega) (by show _ ≤ room_1.slots; omega)
set_option maxHeartbeats 4000000 in
set_option maxRecDepth 100000 in
theorem wb_L_law_674 (g : GG) (l : Launch) (c d : Nat) (hc : c + 4 ≤ 600000) (hd : d + 52 ≤ room_1.slots) (k18 : Option Nat → Option Nat → Int32 → HS → Option (Int32 × HS)) (a1 : Option Nat) (a2 : Option Nat) (a3 : Int32) (h : HS) (o : Int32 × HS) (hB : b_L_law_674 (gL g) (gX g) k18 a1 a2 a3 h = some o) (hk18 : ∀ (a1 : Option Nat) (a2 : Option Nat) (a3 : Int32) (h : HS), k18 a1 a2 a3 h = some o → Wq g l mL_law (c + 4) (d + 52) 18 [some (va_rf (some 2000)), some (va_rf a1), some (va_rf a2), some (.int a3)] [] h (QI o)) : Wq g l mL_law c d 674 [some (va_rf (some 2000)), some (va_rf a1), some (va_rf a2), some (.int a3)] [] h (QI o) := by
  unfold b_L_law_674 at hB
  refine q_aload_n dL_law_674 rfl rfl ?_
  refine q_aload_n dL_law_675 rfl rfl ?_
  refine q_iload_n dL_law_676 rfl rfl ?_
  refine q_iconst (v := 1) dL_law_677 (by decide) ?_
  refine q_iadd dL_law_678 ?_
  refine q_ldX hB dL_law_679 (fun hB => ?_)
  refine q_aload_n dL_law_680 rfl rfl ?_
  refine q_iload_n dL_law_681 rfl rfl ?_
  refine q_iconst (v := 2) dL_law_682 (by decide) ?_
  refine q_iadd dL_law_683 ?_
  refine q_ldX hB dL_law_684 (fun hB => ?_)
  refine q_aload_n dL_law_685 rfl rfl ?_
  refine q_iload_n dL_law_686 rfl rfl ?_
  refine q_iconst (v := 3) dL_law_687 (by decide) ?_
  refine q_iadd dL_law_688 ?_
  refine q_ldX hB dL_law_689 (fun hB => ?_)
  refine q_callVI (k' := c) (w' := d) hB (fun b a hf => c_X9_see g l b _ _ _ _ a hf) rfl rfl dL_law_690 wd_626 cs_X9_see wd_627 wd_628 rfl ⟨⟨Nat.le_of_ble_eq_true rfl, Nat.le_of_ble_eq_true rfl⟩, ⟨show c + 0 ≤ 600000 by omega, show d + 0 ≤ room_1.slots by omega⟩, Nat.le_of_ble_eq_true rfl⟩ rfl rfl (fun n5 r4 hB => ?_)
  refine q_aload_n dL_law_693 rfl rfl ?_
  refine q_aload_n dL_law_694 rfl rfl ?_
  refine q_iload_n dL_law_695 rfl rfl ?_
  refine q_iconst (v := 1) dL_law_696 (by decide) ?_
  refine q_iadd dL_law_697 ?_
  refine q_ldX hB dL_law_698 (fun hB => ?_)
  refine q_aload_n dL_law_699 rfl rfl ?_
  refine q_iload_n dL_law_700 rfl rfl ?_
  refine q_iconst (v := 2) dL_law_701 (by decide) ?_
  refine q_iadd dL_law_702 ?_
  refine q_ldX hB dL_law_703 (fun hB => ?_)
  refine q_aload_n dL_law_704 rfl rfl ?_
  refine q_iload_n dL_law_705 rfl rfl ?_
  refine q_iconst (v := 3) dL_law_706 (by decide) ?_
  refine q_iadd dL_law_707 ?_
  refine q_ldX hB dL_law_708 (fun hB => ?_)
  refine q_callVI (k' := c) (w' := d) hB (fun b a hf => c_X10_see g l b _ _ _ _ a hf) rfl rfl dL_law_709 wd_1012 cs_X10_see wd_1013 wd_1014 rfl ⟨⟨Nat.le_of_ble_eq_true rfl, Nat.le_of_ble_eq_true rfl⟩, ⟨show c + 0 ≤ 600000 by omega, show d + 0 ≤ room_1.slots by omega⟩, by simp [rf_cat, cat_i, cat_l]⟩ rfl rfl (fun n10 r9 hB => ?_)
  refine q_icmp_eq (tgt := 1007) hB dL_law_712 (by decide) (fun hB => ?_) (fun hB => ?_)
  · refine Wq.widen (k' := c + 4) (w' := d + 52) (by omega) (by omega) ?_
    exact Wq.mask [true, true, true, true] rfl (wb_L_law_1007 g l c d hc hd k18 _ _ _ _ o hB hk18)
  · refine q_iconst (v := 0) dL_law_715 (by decide) ?_
    exact q_zret hB dL_law_716 rfl (by show _ ≤ 600000; omega) (by show _ ≤ room_1.slots; omega)
set_option maxHeartbeats 4000000 in
set_option maxRecDepth 100000 in
theorem wb_L_law_717 (g : GG) (l : Launch) (c d : Nat) (hc : c + 4 ≤ 600000) (hd : d + 52 ≤ room_1.slots) (k18 : Option Nat → Option Nat → Int32 → HS → Option (Int32 × HS)) (a1 : Option Nat) (a2 : Option Nat) (a3 : Int32) (h : HS) (o : Int32 × HS) (hB : b_L_law_717 (gL g) (gX g) k18 a1 a2 a3 h = some o) (hk18 : ∀ (a1 : Option Nat) (a2 : Option Nat) (a3 : Int32) (h : HS), k18 a1 a2 a3 h = some o → Wq g l mL_law (c + 4) (d + 52) 18 [some (va_rf (some 2000)), some (va_rf a1), some (va_rf a2), some (.int a3)] [] h (QI o)) : Wq g l mL_law c d 717 [some (va_rf (some 2000)), some (va_rf a1), some (va_rf a2), some (.int a3)] [] h (QI o) := by
  unfold b_L_law_717 at hB
  refine q_aload_n dL_law_717 rfl rfl ?_
  refine q_callVI (k' := c) (w' := d) hB (fun b a hf => c_X9_unsee g l b _ a hf) rfl rfl dL_law_718 wd_640 cs_X9_unsee wd_641 wd_642 rfl ⟨⟨Nat.le_of_ble_eq_true rfl, Nat.le_of_ble_eq_true rfl⟩, ⟨show c + 0 ≤ 600000 by omega, show d + 0 ≤ room_1.slots by omega⟩, Nat.le_of_ble_eq_true rfl⟩ rfl rfl (fun n2 r1 hB => ?_)
  refine q_aload_n dL_law_721 rfl rfl ?_
  refine q_callVI (k' := c) (w' := d) hB (fun b a hf => c_X10_unsee g l b _ a hf) rfl rfl dL_law_722 wd_1018 cs_X10_unsee wd_1019 wd_1020 rfl ⟨⟨Nat.le_of_ble_eq_true rfl, Nat.le_of_ble_eq_true rfl⟩, ⟨show c + 0 ≤ 600000 by omega, show d + 0 ≤ room_1.slots by omega⟩, by simp [rf_cat, cat_i, cat_l]⟩ rfl rfl (fun n4 r3 hB => ?_)
  refine q_icmp_eq (tgt := 1007) hB dL_law_725 (by decide) (fun hB => ?_) (fun hB => ?_)
  · refine Wq.widen (k' := c + 4) (w' := d + 52) (by omega) (by omega) ?_
    exact Wq.mask [true, true, true, true] rfl (wb_L_law_1007 g l c d hc hd k18 _ _ _ _ o hB hk18)
  · refine q_iconst (v := 0) dL_law_728 (by decide) ?_
    exact q_zret hB dL_law_729 rfl (by show _ ≤ 600000; omega) (by show _ ≤ room_1.slots; omega)
set_option maxHeartbeats 4000000 in
set_option maxRecDepth 100000 in
theorem wb_L_law_730 (g : GG) (l : Launch) (c d : Nat) (hc : c + 4 ≤ 600000) (hd : d + 52 ≤ room_1.slots) (k18 : Option Nat → Option Nat → Int32 → HS → Option (Int32 × HS)) (a1 : Option Nat) (a2 : Option Nat) (a3 : Int32) (h : HS) (o : Int32 × HS) (hB : b_L_law_730 (gL g) (gX g) k18 a1 a2 a3 h = some o) (hk18 : ∀ (a1 : Option Nat) (a2 : Option Nat) (a3 : Int32) (h : HS), k18 a1 a2 a3 h = some o → Wq g l mL_law (c + 4) (d + 52) 18 [some (va_rf (some 2000)), some (va_rf a1), some (va_rf a2), some (.int a3)] [] h (QI o)) : Wq g l mL_law c d 730 [some (va_rf (some 2000)), some (va_rf a1), some (va_rf a2), some (.int a3)] [] h (QI o) := by
  unfold b_L_law_730 at hB
  refine q_aload_n dL_law_730 rfl rfl ?_
  refine q_aload_n dL_law_731 rfl rfl ?_
  refine q_iload_n dL_law_732 rfl rfl ?_
  refine q_iconst (v := 1) dL_law_733 (by decide) ?_
  refine q_iadd dL_law_734 ?_
  refine q_ldX hB dL_law_735 (fun hB => ?_)
  refine q_callVI (k' := c) (w' := d) hB (fun b a hf => c_X9_hidden g l b _ _ a hf) rfl rfl dL_law_736 wd_644 cs_X9_hidden wd_645 wd_646 rfl ⟨⟨Nat.le_of_ble_eq_true rfl, Nat.le_of_ble_eq_true rfl⟩, ⟨show c + 0 ≤ 600000 by omega, show d + 0 ≤ room_1.slots by omega⟩, Nat.le_of_ble_eq_true rfl⟩ rfl rfl (fun n3 r2 hB => ?_)
  refine q_aload_n dL_law_739 rfl rfl ?_
  refine q_aload_n dL_law_740 rfl rfl ?_
  refine q_iload_n dL_law_741 rfl rfl ?_
  refine q_iconst (v := 1) dL_law_742 (by decide) ?_
  refine q_iadd dL_law_743 ?_
  refine q_ldX hB dL_law_744 (fun hB => ?_)
  refine q_callVI (k' := c) (w' := d) hB (fun b a hf => c_X10_hidden g l b _ _ a hf) rfl rfl dL_law_745 wd_1022 cs_X10_hidden wd_1023 wd_1024 rfl ⟨⟨Nat.le_of_ble_eq_true rfl, Nat.le_of_ble_eq_true rfl⟩, ⟨show c + 0 ≤ 600000 by omega, show d + 0 ≤ room_1.slots by omega⟩, by simp [rf_cat, cat_i, cat_l]⟩ rfl rfl (fun n6 r5 hB => ?_)
  refine q_icmp_eq (tgt := 1007) hB dL_law_748 (by decide) (fun hB => ?_) (fun hB => ?_)
  · refine Wq.widen (k' := c + 4) (w' := d + 52) (by omega) (by omega) ?_
    exact Wq.mask [true, true, true, true] rfl (wb_L_law_1007 g l c d hc hd k18 _ _ _ _ o hB hk18)
  · refine q_iconst (v := 0) dL_law_751 (by decide) ?_
    exact q_zret hB dL_law_752 rfl (by show _ ≤ 600000; omega) (by show _ ≤ room_1.slots; omega)
set_option maxHeartbeats 4000000 in
set_option maxRecDepth 100000 in
theorem wb_L_law_794 (g : GG) (l : Launch) (c d : Nat) (hc : c + 4 ≤ 600000) (hd : d + 52 ≤ room_1.slots) (k18 : Option Nat → Option Nat → Int32 → HS → Option (Int32 × HS)) (a1 : Option Nat) (a2 : Option Nat) (a3 : Int32) (s0 : Int32) (s1 : Option Nat) (s2 : Int32) (s3 : Int32) (h : HS) (o : Int32 × HS) (hB : b_L_law_794 (gL g) (gX g) k18 a1 a2 a3 s0 s1 s2 s3 h = some o) (hk18 : ∀ (a1 : Option Nat) (a2 : Option Nat) (a3 : Int32) (h : HS), k18 a1 a2 a3 h = some o → Wq g l mL_law (c + 4) (d + 52) 18 [some (va_rf (some 2000)), some (va_rf a1), some (va_rf a2), some (.int a3)] [] h (QI o)) : Wq g l mL_law c d 794 [some (va_rf (some 2000)), some (va_rf a1), some (va_rf a2), some (.int a3)] [.int s3, .int s2, va_rf s1, .int s0] h (QI o) := by
  unfold b_L_law_794 at hB
  refine q_callVI (k' := c) (w' := d) hB (fun b a hf => c_X10_share g l b _ _ _ a hf) rfl rfl dL_law_794 wd_1030 cs_X10_share wd_1031 wd_1032 rfl ⟨⟨Nat.le_of_ble_eq_true rfl, Nat.le_of_ble_eq_true rfl⟩, ⟨show c + 0 ≤ 600000 by omega, show d + 0 ≤ room_1.slots by omega⟩, by simp [rf_cat, cat_i, cat_l]⟩ rfl rfl (fun n2 r1 hB => ?_)
  refine q_icmp_eq (tgt := 1007) hB dL_law_797 (by decide) (fun hB => ?_) (fun hB => ?_)
  · refine Wq.widen (k' := c + 4) (w' := d + 52) (by omega) (by omega) ?_
    exact Wq.mask [true, true, true, true] rfl (wb_L_law_1007 g l c d hc hd k18 _ _ _ _ o hB hk18)
  · refine q_iconst (v := 0) dL_law_800 (by decide) ?_
    exact q_zret hB dL_law_801 rfl (by show _ ≤ 600000; omega) (by show _ ≤ room_1.slots; omega)
set_option maxHeartbeats 4000000 in
set_option maxRecDepth 100000 in
theorem wb_L_law_772 (g : GG) (l : Launch) (c d : Nat) (hc : c + 4 ≤ 600000) (hd : d + 52 ≤ room_1.slots) (k18 : Option Nat → Option Nat → Int32 → HS → Option (Int32 × HS)) (a1 : Option Nat) (a2 : Option Nat) (a3 : Int32) (s0 : Option Nat) (s1 : Int32) (s2 : Int32) (h : HS) (o : Int32 × HS) (hB : b_L_law_772 (gL g) (gX g) k18 a1 a2 a3 s0 s1 s2 h = some o) (hk18 : ∀ (a1 : Option Nat) (a2 : Option Nat) (a3 : Int32) (h : HS), k18 a1 a2 a3 h = some o → Wq g l mL_law (c + 4) (d + 52) 18 [some (va_rf (some 2000)), some (va_rf a1), some (va_rf a2), some (.int a3)] [] h (QI o)) : Wq g l mL_law c d 772 [some (va_rf (some 2000)), some (va_rf a1), some (va_rf a2), some (.int a3)] [.int s2, .int s1, va_rf s0] h (QI o) := by
  unfold b_L_law_772 at hB
  refine q_callVI (k' := c) (w' := d) hB (fun b a hf => c_X9_share g l b _ _ _ a hf) rfl rfl dL_law_772 wd_654 cs_X9_share wd_655 wd_656 rfl ⟨⟨Nat.le_of_ble_eq_true rfl, Nat.le_of_ble_eq_true rfl⟩, ⟨show c + 0 ≤ 600000 by omega, show d + 0 ≤ room_1.slots by omega⟩, Nat.le_of_ble_eq_true rfl⟩ rfl rfl (fun n2 r1 hB => ?_)
  refine q_aload_n dL_law_775 rfl rfl ?_
  refine q_aload_n dL_law_776 rfl rfl ?_
  refine q_iload_n dL_law_777 rfl rfl ?_
  refine q_iconst (v := 1) dL_law_778 (by decide) ?_
  refine q_iadd dL_law_779 ?_
  refine q_ldX hB dL_law_780 (fun hB => ?_)
  refine q_aload_n dL_law_781 rfl rfl ?_
  refine q_iload_n dL_law_782 rfl rfl ?_
  refine q_iconst (v := 2) dL_law_783 (by decide) ?_
  refine q_iadd dL_law_784 ?_
  refine q_ldX hB dL_law_785 (fun hB => ?_)
  refine q_if_eq (tgt := 793) hB dL_law_786 (by decide) (fun hB => ?_) (fun hB => ?_)
  · refine q_iconst (v := 0) dL_law_793 (by decide) ?_
    exact Wq.mask [true, true, true, true] rfl (wb_L_law_794 g l c d hc hd k18 _ _ _ _ _ _ _ _ o hB hk18)
  · refine q_iconst (v := 1) dL_law_789 (by decide) ?_
    refine q_goto (tgt := 794) dL_law_790 (by decide) ?_
    exact Wq.mask [true, true, true, true] rfl (wb_L_law_794 g l c d hc hd k18 _ _ _ _ _ _ _ _ o hB hk18)
set_option maxHeartbeats 4000000 in
set_option maxRecDepth 100000 in
theorem wb_L_law_753 (g : GG) (l : Launch) (c d : Nat) (hc : c + 4 ≤ 600000) (hd : d + 52 ≤ room_1.slots) (k18 : Option Nat → Option Nat → Int32 → HS → Option (Int32 × HS)) (a1 : Option Nat) (a2 : Option Nat) (a3 : Int32) (h : HS) (o : Int32 × HS) (hB : b_L_law_753 (gL g) (gX g) k18 a1 a2 a3 h = some o) (hk18 : ∀ (a1 : Option Nat) (a2 : Option Nat) (a3 : Int32) (h : HS), k18 a1 a2 a3 h = some o → Wq g l mL_law (c + 4) (d + 52) 18 [some (va_rf (some 2000)), some (va_rf a1), some (va_rf a2), some (.int a3)] [] h (QI o)) : Wq g l mL_law c d 753 [some (va_rf (some 2000)), some (va_rf a1), some (va_rf a2), some (.int a3)] [] h (QI o) := by
  unfold b_L_law_753 at hB
  refine q_aload_n dL_law_753 rfl rfl ?_
  refine q_aload_n dL_law_754 rfl rfl ?_
  refine q_iload_n dL_law_755 rfl rfl ?_
  refine q_iconst (v := 1) dL_law_756 (by decide) ?_
  refine q_iadd dL_law_757 ?_
  refine q_ldX hB dL_law_758 (fun hB => ?_)
  refine q_aload_n dL_law_759 rfl rfl ?_
  refine q_iload_n dL_law_760 rfl rfl ?_
  refine q_iconst (v := 2) dL_law_761 (by decide) ?_
  refine q_iadd dL_law_762 ?_
  refine q_ldX hB dL_law_763 (fun hB => ?_)
  refine q_if_eq (tgt := 771) hB dL_law_764 (by decide) (fun hB => ?_) (fun hB => ?_)
  · refine q_iconst (v := 0) dL_law_771 (by decide) ?_
    exact Wq.mask [true, true, true, true] rfl (wb_L_law_772 g l c d hc hd k18 _ _ _ _ _ _ _ o hB hk18)
  · refine q_iconst (v := 1) dL_law_767 (by decide) ?_
    refine q_goto (tgt := 772) dL_law_768 (by decide) ?_
    exact Wq.mask [true, true, true, true] rfl (wb_L_law_772 g l c d hc hd k18 _ _ _ _ _ _ _ o hB hk18)
set_option maxHeartbeats 4000000 in
set_option maxRecDepth 100000 in
theorem wb_L_law_853 (g : GG) (l : Launch) (c d : Nat) (hc : c + 4 ≤ 600000) (hd : d + 52 ≤ room_1.slots) (k18 : Option Nat → Option Nat → Int32 → HS → Option (Int32 × HS)) (a1 : Option Nat) (a2 : Option Nat) (a3 : Int32) (s0 : Int32) (s1 : Option Nat) (s2 : Int32) (s3 : Int32) (s4 : Int32) (h : HS) (o : Int32 × HS) (hB : b_L_law_853 (gL g) (gX g) k18 a1 a2 a3 s0 s1 s2 s3 s4 h = some o) (hk18 : ∀ (a1 : Option Nat) (a2 : Option Nat) (a3 : Int32) (h : HS), k18 a1 a2 a3 h = some o → Wq g l mL_law (c + 4) (d + 52) 18 [some (va_rf (some 2000)), some (va_rf a1), some (va_rf a2), some (.int a3)] [] h (QI o)) : Wq g l mL_law c d 853 [some (va_rf (some 2000)), some (va_rf a1), some (va_rf a2), some (.int a3)] [.int s4, .int s3, .int s2, va_rf s1, .int s0] h (QI o) := by
  unfold b_L_law_853 at hB
  refine q_callVI (k' := c) (w' := d) hB (fun b a hf => c_X10_lost g l b _ _ _ _ a hf) rfl rfl dL_law_853 wd_1051 cs_X10_lost wd_1052 wd_1053 rfl ⟨⟨Nat.le_of_ble_eq_true rfl, Nat.le_of_ble_eq_true rfl⟩, ⟨show c + 0 ≤ 600000 by omega, show d + 0 ≤ room_1.slots by omega⟩, by simp [rf_cat, cat_i, cat_l]⟩ rfl rfl (fun n2 r1 hB => ?_)
  refine q_icmp_eq (tgt := 1007) hB dL_law_856 (by decide) (fun hB => ?_) (fun hB => ?_)
  · refine Wq.widen (k' := c + 4) (w' := d + 52) (by omega) (by omega) ?_
    exact Wq.mask [true, true, true, true] rfl (wb_L_law_1007 g l c d hc hd k18 _ _ _ _ o hB hk18)
  · refine q_iconst (v := 0) dL_law_859 (by decide) ?_
    exact q_zret hB dL_law_860 rfl (by show _ ≤ 600000; omega) (by show _ ≤ room_1.slots; omega)
set_option maxHeartbeats 4000000 in
set_option maxRecDepth 100000 in
theorem wb_L_law_826 (g : GG) (l : Launch) (c d : Nat) (hc : c + 4 ≤ 600000) (hd : d + 52 ≤ room_1.slots) (k18 : Option Nat → Option Nat → Int32 → HS → Option (Int32 × HS)) (a1 : Option Nat) (a2 : Option Nat) (a3 : Int32) (s0 : Option Nat) (s1 : Int32) (s2 : Int32) (s3 : Int32) (h : HS) (o : Int32 × HS) (hB : b_L_law_826 (gL g) (gX g) k18 a1 a2 a3 s0 s1 s2 s3 h = some o) (hk18 : ∀ (a1 : Option Nat) (a2 : Option Nat) (a3 : Int32) (h : HS), k18 a1 a2 a3 h = some o → Wq g l mL_law (c + 4) (d + 52) 18 [some (va_rf (some 2000)), some (va_rf a1), some (va_rf a2), some (.int a3)] [] h (QI o)) : Wq g l mL_law c d 826 [some (va_rf (some 2000)), some (va_rf a1), some (va_rf a2), some (.int a3)] [.int s3, .int s2, .int s1, va_rf s0] h (QI o) := by
  unfold b_L_law_826 at hB
  refine q_callVI (k' := c) (w' := d) hB (fun b a hf => c_X9_lost g l b _ _ _ _ a hf) rfl rfl dL_law_826 wd_682 cs_X9_lost wd_683 wd_684 rfl ⟨⟨Nat.le_of_ble_eq_true rfl, Nat.le_of_ble_eq_true rfl⟩, ⟨show c + 0 ≤ 600000 by omega, show d + 0 ≤ room_1.slots by omega⟩, Nat.le_of_ble_eq_true rfl⟩ rfl rfl (fun n2 r1 hB => ?_)
  refine q_aload_n dL_law_829 rfl rfl ?_
  refine q_aload_n dL_law_830 rfl rfl ?_
  refine q_iload_n dL_law_831 rfl rfl ?_
  refine q_iconst (v := 1) dL_law_832 (by decide) ?_
  refine q_iadd dL_law_833 ?_
  refine q_ldX hB dL_law_834 (fun hB => ?_)
  refine q_aload_n dL_law_835 rfl rfl ?_
  refine q_iload_n dL_law_836 rfl rfl ?_
  refine q_iconst (v := 2) dL_law_837 (by decide) ?_
  refine q_iadd dL_law_838 ?_
  refine q_ldX hB dL_law_839 (fun hB => ?_)
  refine q_aload_n dL_law_840 rfl rfl ?_
  refine q_iload_n dL_law_841 rfl rfl ?_
  refine q_iconst (v := 3) dL_law_842 (by decide) ?_
  refine q_iadd dL_law_843 ?_
  refine q_ldX hB dL_law_844 (fun hB => ?_)
  refine q_if_eq (tgt := 852) hB dL_law_845 (by decide) (fun hB => ?_) (fun hB => ?_)
  · refine q_iconst (v := 0) dL_law_852 (by decide) ?_
    exact Wq.mask [true, true, true, true] rfl (wb_L_law_853 g l c d hc hd k18 _ _ _ _ _ _ _ _ _ o hB hk18)
  · refine q_iconst (v := 1) dL_law_848 (by decide) ?_
    refine q_goto (tgt := 853) dL_law_849 (by decide) ?_
    exact Wq.mask [true, true, true, true] rfl (wb_L_law_853 g l c d hc hd k18 _ _ _ _ _ _ _ _ _ o hB hk18)
set_option maxHeartbeats 4000000 in
set_option maxRecDepth 100000 in
theorem wb_L_law_802 (g : GG) (l : Launch) (c d : Nat) (hc : c + 4 ≤ 600000) (hd : d + 52 ≤ room_1.slots) (k18 : Option Nat → Option Nat → Int32 → HS → Option (Int32 × HS)) (a1 : Option Nat) (a2 : Option Nat) (a3 : Int32) (h : HS) (o : Int32 × HS) (hB : b_L_law_802 (gL g) (gX g) k18 a1 a2 a3 h = some o) (hk18 : ∀ (a1 : Option Nat) (a2 : Option Nat) (a3 : Int32) (h : HS), k18 a1 a2 a3 h = some o → Wq g l mL_law (c + 4) (d + 52) 18 [some (va_rf (some 2000)), some (va_rf a1), some (va_rf a2), some (.int a3)] [] h (QI o)) : Wq g l mL_law c d 802 [some (va_rf (some 2000)), some (va_rf a1), some (va_rf a2), some (.int a3)] [] h (QI o) := by
  unfold b_L_law_802 at hB
  refine q_aload_n dL_law_802 rfl rfl ?_
  refine q_aload_n dL_law_803 rfl rfl ?_
  refine q_iload_n dL_law_804 rfl rfl ?_
  refine q_iconst (v := 1) dL_law_805 (by decide) ?_
  refine q_iadd dL_law_806 ?_
  refine q_ldX hB dL_law_807 (fun hB => ?_)
  refine q_aload_n dL_law_808 rfl rfl ?_
  refine q_iload_n dL_law_809 rfl rfl ?_
  refine q_iconst (v := 2) dL_law_810 (by decide) ?_
  refine q_iadd dL_law_811 ?_
  refine q_ldX hB dL_law_812 (fun hB => ?_)
  refine q_aload_n dL_law_813 rfl rfl ?_
  refine q_iload_n dL_law_814 rfl rfl ?_
  refine q_iconst (v := 3) dL_law_815 (by decide) ?_
  refine q_iadd dL_law_816 ?_
  refine q_ldX hB dL_law_817 (fun hB => ?_)
  refine q_if_eq (tgt := 825) hB dL_law_818 (by decide) (fun hB => ?_) (fun hB => ?_)
  · refine q_iconst (v := 0) dL_law_825 (by decide) ?_
    exact Wq.mask [true, true, true, true] rfl (wb_L_law_826 g l c d hc hd k18 _ _ _ _ _ _ _ _ o hB hk18)
  · refine q_iconst (v := 1) dL_law_821 (by decide) ?_
    refine q_goto (tgt := 826) dL_law_822 (by decide) ?_
    exact Wq.mask [true, true, true, true] rfl (wb_L_law_826 g l c d hc hd k18 _ _ _ _ _ _ _ _ o hB hk18)
set_option maxHeartbeats 4000000 in
set_option maxRecDepth 100000 in
theorem wb_L_law_861 (g : GG) (l : Launch) (c d : Nat) (hc : c + 4 ≤ 600000) (hd : d + 52 ≤ room_1.slots) (k18 : Option Nat → Option Nat → Int32 → HS → Option (Int32 × HS)) (a1 : Option Nat) (a2 : Option Nat) (a3 : Int32) (h : HS) (o : Int32 × HS) (hB : b_L_law_861 (gL g) (gX g) k18 a1 a2 a3 h = some o) (hk18 : ∀ (a1 : Option Nat) (a2 : Option Nat) (a3 : Int32) (h : HS), k18 a1 a2 a3 h = some o → Wq g l mL_law (c + 4) (d + 52) 18 [some (va_rf (some 2000)), some (va_rf a1), some (va_rf a2), some (.int a3)] [] h (QI o)) : Wq g l mL_law c d 861 [some (va_rf (some 2000)), some (va_rf a1), some (va_rf a2), some (.int a3)] [] h (QI o) := by
  unfold b_L_law_861 at hB
  refine q_aload_n dL_law_861 rfl rfl ?_
  refine q_aload_n dL_law_862 rfl rfl ?_
  refine q_iload_n dL_law_863 rfl rfl ?_
  refine q_iconst (v := 1) dL_law_864 (by decide) ?_
  refine q_iadd dL_law_865 ?_
  refine q_ldX hB dL_law_866 (fun hB => ?_)
  refine q_i2l dL_law_867 ?_
  refine q_bipush (v := 32) dL_law_868 (by decide) ?_
  refine q_lshl dL_law_870 ?_
  refine q_aload_n dL_law_871 rfl rfl ?_
  refine q_iload_n dL_law_872 rfl rfl ?_
  refine q_iconst (v := 2) dL_law_873 (by decide) ?_
  refine q_iadd dL_law_874 ?_
  refine q_ldX hB dL_law_875 (fun hB => ?_)
  refine q_i2l dL_law_876 ?_
  refine q_ldc2 dL_law_877 wd_1087 ?_
  refine q_land dL_law_880 ?_
  refine q_lor dL_law_881 ?_
  refine q_callVJ (k' := c) (w' := d) hB (fun b a hf => c_X9_seed g l b _ _ a hf) rfl rfl dL_law_882 wd_689 cs_X9_seed wd_690 wd_691 rfl ⟨⟨Nat.le_of_ble_eq_true rfl, Nat.le_of_ble_eq_true rfl⟩, ⟨show c + 0 ≤ 600000 by omega, show d + 0 ≤ room_1.slots by omega⟩, Nat.le_of_ble_eq_true rfl⟩ rfl rfl (fun n4 r3 hB => ?_)
  refine q_aload_n dL_law_885 rfl rfl ?_
  refine q_aload_n dL_law_886 rfl rfl ?_
  refine q_iload_n dL_law_887 rfl rfl ?_
  refine q_iconst (v := 1) dL_law_888 (by decide) ?_
  refine q_iadd dL_law_889 ?_
  refine q_ldX hB dL_law_890 (fun hB => ?_)
  refine q_i2l dL_law_891 ?_
  refine q_bipush (v := 32) dL_law_892 (by decide) ?_
  refine q_lshl dL_law_894 ?_
  refine q_aload_n dL_law_895 rfl rfl ?_
  refine q_iload_n dL_law_896 rfl rfl ?_
  refine q_iconst (v := 2) dL_law_897 (by decide) ?_
  refine q_iadd dL_law_898 ?_
  refine q_ldX hB dL_law_899 (fun hB => ?_)
  refine q_i2l dL_law_900 ?_
  refine q_ldc2 dL_law_901 wd_1087 ?_
  refine q_land dL_law_904 ?_
  refine q_lor dL_law_905 ?_
  refine q_callVJ (k' := c) (w' := d) hB (fun b a hf => c_X10_seed g l b _ _ a hf) rfl rfl dL_law_906 wd_1057 cs_X10_seed wd_1058 wd_1059 rfl ⟨⟨Nat.le_of_ble_eq_true rfl, Nat.le_of_ble_eq_true rfl⟩, ⟨show c + 0 ≤ 600000 by omega, show d + 0 ≤ room_1.slots by omega⟩, by simp [rf_cat, cat_i, cat_l]⟩ rfl rfl (fun n8 r7 hB => ?_)
  refine q_lcmp dL_law_909 ?_
  refine q_if_eq (tgt := 1007) hB dL_law_910 (by decide) (fun hB => ?_) (fun hB => ?_)
  · refine Wq.widen (k' := c + 4) (w' := d + 52) (by omega) (by omega) ?_
    exact Wq.mask [true, true, true, true] rfl (wb_L_law_1007 g l c d hc hd k18 _ _ _ _ o hB hk18)
  · refine q_iconst (v := 0) dL_law_913 (by decide) ?_
    exact q_zret hB dL_law_914 rfl (by show _ ≤ 600000; omega) (by show _ ≤ room_1.slots; omega)
set_option maxHeartbeats 4000000 in
set_option maxRecDepth 100000 in
theorem wb_L_law_915 (g : GG) (l : Launch) (c d : Nat) (hc : c + 4 ≤ 600000) (hd : d + 52 ≤ room_1.slots) (k18 : Option Nat → Option Nat → Int32 → HS → Option (Int32 × HS)) (a1 : Option Nat) (a2 : Option Nat) (a3 : Int32) (h : HS) (o : Int32 × HS) (hB : b_L_law_915 (gL g) (gX g) k18 a1 a2 a3 h = some o) (hk18 : ∀ (a1 : Option Nat) (a2 : Option Nat) (a3 : Int32) (h : HS), k18 a1 a2 a3 h = some o → Wq g l mL_law (c + 4) (d + 52) 18 [some (va_rf (some 2000)), some (va_rf a1), some (va_rf a2), some (.int a3)] [] h (QI o)) : Wq g l mL_law c d 915 [some (va_rf (some 2000)), some (va_rf a1), some (va_rf a2), some (.int a3)] [] h (QI o) := by
  unfold b_L_law_915 at hB
  refine q_aload_n dL_law_915 rfl rfl ?_
  refine q_aload_n dL_law_916 rfl rfl ?_
  refine q_iload_n dL_law_917 rfl rfl ?_
  refine q_iconst (v := 1) dL_law_918 (by decide) ?_
  refine q_iadd dL_law_919 ?_
  refine q_ldX hB dL_law_920 (fun hB => ?_)
  refine q_callVI (k' := c) (w' := d) hB (fun b a hf => c_X9_drawn g l b _ _ a hf) rfl rfl dL_law_921 wd_693 cs_X9_drawn wd_694 wd_695 rfl ⟨⟨Nat.le_of_ble_eq_true rfl, Nat.le_of_ble_eq_true rfl⟩, ⟨show c + 0 ≤ 600000 by omega, show d + 0 ≤ room_1.slots by omega⟩, Nat.le_of_ble_eq_true rfl⟩ rfl rfl (fun n3 r2 hB => ?_)
  refine q_aload_n dL_law_924 rfl rfl ?_
  refine q_aload_n dL_law_925 rfl rfl ?_
  refine q_iload_n dL_law_926 rfl rfl ?_
  refine q_iconst (v := 1) dL_law_927 (by decide) ?_
  refine q_iadd dL_law_928 ?_
  refine q_ldX hB dL_law_929 (fun hB => ?_)
  refine q_callVI (k' := c) (w' := d) hB (fun b a hf => c_X10_drawn g l b _ _ a hf) rfl rfl dL_law_930 wd_1061 cs_X10_drawn wd_1062 wd_1063 rfl ⟨⟨Nat.le_of_ble_eq_true rfl, Nat.le_of_ble_eq_true rfl⟩, ⟨show c + 0 ≤ 600000 by omega, show d + 0 ≤ room_1.slots by omega⟩, by simp [rf_cat, cat_i, cat_l]⟩ rfl rfl (fun n6 r5 hB => ?_)
  refine q_icmp_eq (tgt := 1007) hB dL_law_933 (by decide) (fun hB => ?_) (fun hB => ?_)
  · refine Wq.widen (k' := c + 4) (w' := d + 52) (by omega) (by omega) ?_
    exact Wq.mask [true, true, true, true] rfl (wb_L_law_1007 g l c d hc hd k18 _ _ _ _ o hB hk18)
  · refine q_iconst (v := 0) dL_law_936 (by decide) ?_
    exact q_zret hB dL_law_937 rfl (by show _ ≤ 600000; omega) (by show _ ≤ room_1.slots; omega)
set_option maxHeartbeats 4000000 in
set_option maxRecDepth 100000 in
theorem wb_L_law_938 (g : GG) (l : Launch) (c d : Nat) (hc : c + 4 ≤ 600000) (hd : d + 52 ≤ room_1.slots) (k18 : Option Nat → Option Nat → Int32 → HS → Option (Int32 × HS)) (a1 : Option Nat) (a2 : Option Nat) (a3 : Int32) (h : HS) (o : Int32 × HS) (hB : b_L_law_938 (gL g) (gX g) k18 a1 a2 a3 h = some o) (hk18 : ∀ (a1 : Option Nat) (a2 : Option Nat) (a3 : Int32) (h : HS), k18 a1 a2 a3 h = some o → Wq g l mL_law (c + 4) (d + 52) 18 [some (va_rf (some 2000)), some (va_rf a1), some (va_rf a2), some (.int a3)] [] h (QI o)) : Wq g l mL_law c d 938 [some (va_rf (some 2000)), some (va_rf a1), some (va_rf a2), some (.int a3)] [] h (QI o) := by
  unfold b_L_law_938 at hB
  refine q_aload_n dL_law_938 rfl rfl ?_
  refine q_aload_n dL_law_939 rfl rfl ?_
  refine q_iload_n dL_law_940 rfl rfl ?_
  refine q_iconst (v := 1) dL_law_941 (by decide) ?_
  refine q_iadd dL_law_942 ?_
  refine q_ldX hB dL_law_943 (fun hB => ?_)
  refine q_callVI (k' := c + 4) (w' := d + 52) hB (fun b a hf => c_X9_keep g l b _ _ a hf) rfl rfl dL_law_944 wd_703 cs_X9_keep wd_704 wd_705 rfl ⟨⟨Nat.le_of_ble_eq_true rfl, Nat.le_of_ble_eq_true rfl⟩, ⟨show c + 4 ≤ 600000 by omega, show d + 52 ≤ room_1.slots by omega⟩, Nat.le_of_ble_eq_true rfl⟩ rfl rfl (fun n3 r2 hB => ?_)
  refine q_aload_n dL_law_947 rfl rfl ?_
  refine q_aload_n dL_law_948 rfl rfl ?_
  refine q_iload_n dL_law_949 rfl rfl ?_
  refine q_iconst (v := 1) dL_law_950 (by decide) ?_
  refine q_iadd dL_law_951 ?_
  refine q_ldX hB dL_law_952 (fun hB => ?_)
  refine q_callVI (k' := c + 4) (w' := d + 52) hB (fun b a hf => c_X10_keep g l b _ _ a hf) rfl rfl dL_law_953 wd_1067 cs_X10_keep wd_1068 wd_1069 rfl ⟨⟨Nat.le_of_ble_eq_true rfl, Nat.le_of_ble_eq_true rfl⟩, ⟨show c + 4 + 0 ≤ 600000 by omega, show d + 52 + 0 ≤ room_1.slots by omega⟩, by simp [rf_cat, cat_i, cat_l]⟩ rfl rfl (fun n6 r5 hB => ?_)
  refine q_icmp_eq (tgt := 1007) hB dL_law_956 (by decide) (fun hB => ?_) (fun hB => ?_)
  · refine Wq.widen (k' := c + 4) (w' := d + 52) (by omega) (by omega) ?_
    exact Wq.mask [true, true, true, true] rfl (wb_L_law_1007 g l c d hc hd k18 _ _ _ _ o hB hk18)
  · refine q_iconst (v := 0) dL_law_959 (by decide) ?_
    exact q_zret hB dL_law_960 rfl (by show _ ≤ 600000; omega) (by show _ ≤ room_1.slots; omega)
set_option maxHeartbeats 4000000 in
set_option maxRecDepth 100000 in
theorem wb_L_law_961 (g : GG) (l : Launch) (c d : Nat) (hc : c + 4 ≤ 600000) (hd : d + 52 ≤ room_1.slots) (k18 : Option Nat → Option Nat → Int32 → HS → Option (Int32 × HS)) (a1 : Option Nat) (a2 : Option Nat) (a3 : Int32) (h : HS) (o : Int32 × HS) (hB : b_L_law_961 (gL g) (gX g) k18 a1 a2 a3 h = some o) (hk18 : ∀ (a1 : Option Nat) (a2 : Option Nat) (a3 : Int32) (h : HS), k18 a1 a2 a3 h = some o → Wq g l mL_law (c + 4) (d + 52) 18 [some (va_rf (some 2000)), some (va_rf a1), some (va_rf a2), some (.int a3)] [] h (QI o)) : Wq g l mL_law c d 961 [some (va_rf (some 2000)), some (va_rf a1), some (va_rf a2), some (.int a3)] [] h (QI o) := by
  unfold b_L_law_961 at hB
  refine q_aload_n dL_law_961 rfl rfl ?_
  refine q_aload_n dL_law_962 rfl rfl ?_
  refine q_iload_n dL_law_963 rfl rfl ?_
  refine q_iconst (v := 1) dL_law_964 (by decide) ?_
  refine q_iadd dL_law_965 ?_
  refine q_ldX hB dL_law_966 (fun hB => ?_)
  refine q_callVI (k' := c) (w' := d) hB (fun b a hf => c_X9_again g l b _ _ a hf) rfl rfl dL_law_967 wd_710 cs_X9_again wd_711 wd_712 rfl ⟨⟨Nat.le_of_ble_eq_true rfl, Nat.le_of_ble_eq_true rfl⟩, ⟨show c + 0 ≤ 600000 by omega, show d + 0 ≤ room_1.slots by omega⟩, Nat.le_of_ble_eq_true rfl⟩ rfl rfl (fun n3 r2 hB => ?_)
  refine q_aload_n dL_law_970 rfl rfl ?_
  refine q_aload_n dL_law_971 rfl rfl ?_
  refine q_iload_n dL_law_972 rfl rfl ?_
  refine q_iconst (v := 1) dL_law_973 (by decide) ?_
  refine q_iadd dL_law_974 ?_
  refine q_ldX hB dL_law_975 (fun hB => ?_)
  refine q_callVI (k' := c) (w' := d) hB (fun b a hf => c_X10_again g l b _ _ a hf) rfl rfl dL_law_976 wd_1071 cs_X10_again wd_1072 wd_1073 rfl ⟨⟨Nat.le_of_ble_eq_true rfl, Nat.le_of_ble_eq_true rfl⟩, ⟨show c + 0 ≤ 600000 by omega, show d + 0 ≤ room_1.slots by omega⟩, by simp [rf_cat, cat_i, cat_l]⟩ rfl rfl (fun n6 r5 hB => ?_)
  refine q_icmp_eq (tgt := 1007) hB dL_law_979 (by decide) (fun hB => ?_) (fun hB => ?_)
  · refine Wq.widen (k' := c + 4) (w' := d + 52) (by omega) (by omega) ?_
    exact Wq.mask [true, true, true, true] rfl (wb_L_law_1007 g l c d hc hd k18 _ _ _ _ o hB hk18)
  · refine q_iconst (v := 0) dL_law_982 (by decide) ?_
    exact q_zret hB dL_law_983 rfl (by show _ ≤ 600000; omega) (by show _ ≤ room_1.slots; omega)
set_option maxHeartbeats 4000000 in
set_option maxRecDepth 100000 in
theorem wb_L_law_984 (g : GG) (l : Launch) (c d : Nat) (hc : c + 4 ≤ 600000) (hd : d + 52 ≤ room_1.slots) (k18 : Option Nat → Option Nat → Int32 → HS → Option (Int32 × HS)) (a1 : Option Nat) (a2 : Option Nat) (a3 : Int32) (h : HS) (o : Int32 × HS) (hB : b_L_law_984 (gL g) (gX g) k18 a1 a2 a3 h = some o) (hk18 : ∀ (a1 : Option Nat) (a2 : Option Nat) (a3 : Int32) (h : HS), k18 a1 a2 a3 h = some o → Wq g l mL_law (c + 4) (d + 52) 18 [some (va_rf (some 2000)), some (va_rf a1), some (va_rf a2), some (.int a3)] [] h (QI o)) : Wq g l mL_law c d 984 [some (va_rf (some 2000)), some (va_rf a1), some (va_rf a2), some (.int a3)] [] h (QI o) := by
  unfold b_L_law_984 at hB
  refine q_aload_n dL_law_984 rfl rfl ?_
  refine q_aload_n dL_law_985 rfl rfl ?_
  refine q_iload_n dL_law_986 rfl rfl ?_
  refine q_iconst (v := 1) dL_law_987 (by decide) ?_
  refine q_iadd dL_law_988 ?_
  refine q_ldX hB dL_law_989 (fun hB => ?_)
  refine q_callVI (k' := c) (w' := d) hB (fun b a hf => c_X9_count g l b _ _ a hf) rfl rfl dL_law_990 wd_714 cs_X9_count wd_715 wd_716 rfl ⟨⟨Nat.le_of_ble_eq_true rfl, Nat.le_of_ble_eq_true rfl⟩, ⟨show c + 0 ≤ 600000 by omega, show d + 0 ≤ room_1.slots by omega⟩, Nat.le_of_ble_eq_true rfl⟩ rfl rfl (fun n3 r2 hB => ?_)
  refine q_aload_n dL_law_993 rfl rfl ?_
  refine q_aload_n dL_law_994 rfl rfl ?_
  refine q_iload_n dL_law_995 rfl rfl ?_
  refine q_iconst (v := 1) dL_law_996 (by decide) ?_
  refine q_iadd dL_law_997 ?_
  refine q_ldX hB dL_law_998 (fun hB => ?_)
  refine q_callVI (k' := c) (w' := d) hB (fun b a hf => c_X10_count g l b _ _ a hf) rfl rfl dL_law_999 wd_1075 cs_X10_count wd_1076 wd_1077 rfl ⟨⟨Nat.le_of_ble_eq_true rfl, Nat.le_of_ble_eq_true rfl⟩, ⟨show c + 0 ≤ 600000 by omega, show d + 0 ≤ room_1.slots by omega⟩, by simp [rf_cat, cat_i, cat_l]⟩ rfl rfl (fun n6 r5 hB => ?_)
  refine q_icmp_eq (tgt := 1007) hB dL_law_1002 (by decide) (fun hB => ?_) (fun hB => ?_)
  · refine Wq.widen (k' := c + 4) (w' := d + 52) (by omega) (by omega) ?_
    exact Wq.mask [true, true, true, true] rfl (wb_L_law_1007 g l c d hc hd k18 _ _ _ _ o hB hk18)
  · refine q_iconst (v := 0) dL_law_1005 (by decide) ?_
    exact q_zret hB dL_law_1006 rfl (by show _ ≤ 600000; omega) (by show _ ≤ room_1.slots; omega)
set_option maxHeartbeats 4000000 in
set_option maxRecDepth 100000 in
theorem wb_L_law_18 (g : GG) (l : Launch) (c d : Nat) (hc : c + 4 ≤ 600000) (hd : d + 52 ≤ room_1.slots) (k18 : Option Nat → Option Nat → Int32 → HS → Option (Int32 × HS)) (a1 : Option Nat) (a2 : Option Nat) (a3 : Int32) (h : HS) (o : Int32 × HS) (hB : b_L_law_18 (gL g) (gX g) k18 a1 a2 a3 h = some o) (hk18 : ∀ (a1 : Option Nat) (a2 : Option Nat) (a3 : Int32) (h : HS), k18 a1 a2 a3 h = some o → Wq g l mL_law (c + 4) (d + 52) 18 [some (va_rf (some 2000)), some (va_rf a1), some (va_rf a2), some (.int a3)] [] h (QI o)) : Wq g l mL_law c d 18 [some (va_rf (some 2000)), some (va_rf a1), some (va_rf a2), some (.int a3)] [] h (QI o) := by
  unfold b_L_law_18 at hB
  refine q_iload_n dL_law_18 rfl rfl ?_
  refine q_aload_n dL_law_19 rfl rfl ?_
  refine q_lenX dL_law_20 ?_
  refine q_iconst (v := 5) dL_law_21 (by decide) ?_
  refine q_isub dL_law_22 ?_
  refine q_icmp_gt (tgt := 1013) hB dL_law_23 (by decide) (fun hB => ?_) (fun hB => ?_)
  · refine q_iconst (v := 1) dL_law_1013 (by decide) ?_
    exact q_zret hB dL_law_1014 rfl (by show _ ≤ 600000; omega) (by show _ ≤ room_1.slots; omega)
  · refine q_aload_n dL_law_26 rfl rfl ?_
    refine q_iload_n dL_law_27 rfl rfl ?_
    refine q_ldX hB dL_law_28 (fun hB => ?_)
    refine q_bipush (v := 31) dL_law_29 (by decide) ?_
    refine q_iand dL_law_31 ?_
    refine q_tab (dt := 1007) [160, 183, 196, 209, 222, 245, 288, 311, 344, 357, 390, 423, 456, 489, 522, 535, 588, 611, 674, 717, 730, 753, 802, 861, 915, 938, 961, 984] hB dL_law_32 rfl rfl (by decide) (by decide) (fun hB => ?_) (fun i hi hB => ?_)
    · refine Wq.widen (k' := c + 4) (w' := d + 52) (by omega) (by omega) ?_
      exact Wq.mask [true, true, true, true] rfl (wb_L_law_1007 g l c d hc hd k18 _ _ _ _ o hB hk18)
    · match i, hi, hB with
      | 0, _, hB =>
        simp only [List.getD_cons_zero, List.getD_cons_succ] at hB
        exact Wq.mask [true, true, true, true] rfl (wb_L_law_160 g l c d hc hd k18 _ _ _ _ o hB hk18)
      | 1, _, hB =>
        simp only [List.getD_cons_zero, List.getD_cons_succ] at hB
        exact Wq.mask [true, true, true, true] rfl (wb_L_law_183 g l c d hc hd k18 _ _ _ _ o hB hk18)
      | 2, _, hB =>
        simp only [List.getD_cons_zero, List.getD_cons_succ] at hB
        exact Wq.mask [true, true, true, true] rfl (wb_L_law_196 g l c d hc hd k18 _ _ _ _ o hB hk18)
      | 3, _, hB =>
        simp only [List.getD_cons_zero, List.getD_cons_succ] at hB
        exact Wq.mask [true, true, true, true] rfl (wb_L_law_209 g l c d hc hd k18 _ _ _ _ o hB hk18)
      | 4, _, hB =>
        simp only [List.getD_cons_zero, List.getD_cons_succ] at hB
        exact Wq.mask [true, true, true, true] rfl (wb_L_law_222 g l c d hc hd k18 _ _ _ _ o hB hk18)
      | 5, _, hB =>
        simp only [List.getD_cons_zero, List.getD_cons_succ] at hB
        exact Wq.mask [true, true, true, true] rfl (wb_L_law_245 g l c d hc hd k18 _ _ _ _ o hB hk18)
      | 6, _, hB =>
        simp only [List.getD_cons_zero, List.getD_cons_succ] at hB
        exact Wq.mask [true, true, true, true] rfl (wb_L_law_288 g l c d hc hd k18 _ _ _ _ o hB hk18)
      | 7, _, hB =>
        simp only [List.getD_cons_zero, List.getD_cons_succ] at hB
        exact Wq.mask [true, true, true, true] rfl (wb_L_law_311 g l c d hc hd k18 _ _ _ _ o hB hk18)
      | 8, _, hB =>
        simp only [List.getD_cons_zero, List.getD_cons_succ] at hB
        exact Wq.mask [true, true, true, true] rfl (wb_L_law_344 g l c d hc hd k18 _ _ _ _ o hB hk18)
      | 9, _, hB =>
        simp only [List.getD_cons_zero, List.getD_cons_succ] at hB
        exact Wq.mask [true, true, true, true] rfl (wb_L_law_357 g l c d hc hd k18 _ _ _ _ o hB hk18)
      | 10, _, hB =>
        simp only [List.getD_cons_zero, List.getD_cons_succ] at hB
        exact Wq.mask [true, true, true, true] rfl (wb_L_law_390 g l c d hc hd k18 _ _ _ _ o hB hk18)
      | 11, _, hB =>
        simp only [List.getD_cons_zero, List.getD_cons_succ] at hB
        exact Wq.mask [true, true, true, true] rfl (wb_L_law_423 g l c d hc hd k18 _ _ _ _ o hB hk18)
      | 12, _, hB =>
        simp only [List.getD_cons_zero, List.getD_cons_succ] at hB
        exact Wq.mask [true, true, true, true] rfl (wb_L_law_456 g l c d hc hd k18 _ _ _ _ o hB hk18)
      | 13, _, hB =>
        simp only [List.getD_cons_zero, List.getD_cons_succ] at hB
        exact Wq.mask [true, true, true, true] rfl (wb_L_law_489 g l c d hc hd k18 _ _ _ _ o hB hk18)
      | 14, _, hB =>
        simp only [List.getD_cons_zero, List.getD_cons_succ] at hB
        exact Wq.mask [true, true, true, true] rfl (wb_L_law_522 g l c d hc hd k18 _ _ _ _ o hB hk18)
      | 15, _, hB =>
        simp only [List.getD_cons_zero, List.getD_cons_succ] at hB
        exact Wq.mask [true, true, true, true] rfl (wb_L_law_535 g l c d hc hd k18 _ _ _ _ o hB hk18)
      | 16, _, hB =>
        simp only [List.getD_cons_zero, List.getD_cons_succ] at hB
        exact Wq.mask [true, true, true, true] rfl (wb_L_law_588 g l c d hc hd k18 _ _ _ _ o hB hk18)
      | 17, _, hB =>
        simp only [List.getD_cons_zero, List.getD_cons_succ] at hB
        exact Wq.mask [true, true, true, true] rfl (wb_L_law_611 g l c d hc hd k18 _ _ _ _ o hB hk18)
      | 18, _, hB =>
        simp only [List.getD_cons_zero, List.getD_cons_succ] at hB
        exact Wq.mask [true, true, true, true] rfl (wb_L_law_674 g l c d hc hd k18 _ _ _ _ o hB hk18)
      | 19, _, hB =>
        simp only [List.getD_cons_zero, List.getD_cons_succ] at hB
        exact Wq.mask [true, true, true, true] rfl (wb_L_law_717 g l c d hc hd k18 _ _ _ _ o hB hk18)
      | 20, _, hB =>
        simp only [List.getD_cons_zero, List.getD_cons_succ] at hB
        exact Wq.mask [true, true, true, true] rfl (wb_L_law_730 g l c d hc hd k18 _ _ _ _ o hB hk18)
      | 21, _, hB =>
        simp only [List.getD_cons_zero, List.getD_cons_succ] at hB
        exact Wq.mask [true, true, true, true] rfl (wb_L_law_753 g l c d hc hd k18 _ _ _ _ o hB hk18)
      | 22, _, hB =>
        simp only [List.getD_cons_zero, List.getD_cons_succ] at hB
        exact Wq.mask [true, true, true, true] rfl (wb_L_law_802 g l c d hc hd k18 _ _ _ _ o hB hk18)
      | 23, _, hB =>
        simp only [List.getD_cons_zero, List.getD_cons_succ] at hB
        exact Wq.mask [true, true, true, true] rfl (wb_L_law_861 g l c d hc hd k18 _ _ _ _ o hB hk18)
      | 24, _, hB =>
        simp only [List.getD_cons_zero, List.getD_cons_succ] at hB
        exact Wq.mask [true, true, true, true] rfl (wb_L_law_915 g l c d hc hd k18 _ _ _ _ o hB hk18)
      | 25, _, hB =>
        simp only [List.getD_cons_zero, List.getD_cons_succ] at hB
        exact Wq.mask [true, true, true, true] rfl (wb_L_law_938 g l c d hc hd k18 _ _ _ _ o hB hk18)
      | 26, _, hB =>
        simp only [List.getD_cons_zero, List.getD_cons_succ] at hB
        exact Wq.mask [true, true, true, true] rfl (wb_L_law_961 g l c d hc hd k18 _ _ _ _ o hB hk18)
      | 27, _, hB =>
        simp only [List.getD_cons_zero, List.getD_cons_succ] at hB
        exact Wq.mask [true, true, true, true] rfl (wb_L_law_984 g l c d hc hd k18 _ _ _ _ o hB hk18)
      | n + 28, hi, _ => exact absurd hi (by simp only [List.length_cons, List.length_nil]; omega)
set_option maxHeartbeats 4000000 in
theorem wl_L_law_18 (g : GG) (l : Launch) : ∀ (n : Nat) (a1 : Option Nat) (a2 : Option Nat) (a3 : Int32) (h : HS) (o : Int32 × HS), n ≤ 600 → l_L_law_18 (gL g) (gX g) n a1 a2 a3 h = some o → Wq g l mL_law (60 + 4 * (600 - n)) (3000 + 52 * (600 - n)) 18 [some (va_rf (some 2000)), some (va_rf a1), some (va_rf a2), some (.int a3)] [] h (QI o) := by
  intro n
  induction n with
  | zero =>
    intro a1 a2 a3  h o hn hB
    have q : (none : Option (Int32 × HS)) = some o := hB
    cases q
  | succ n ih =>
    intro a1 a2 a3  h o hn hB
    refine wb_L_law_18 g l (60 + 4 * (600 - (n + 1))) (3000 + 52 * (600 - (n + 1))) (by omega) (by have := rs_big; omega) (l_L_law_18 (gL g) (gX g) n) a1 a2 a3  h o hB (fun a1 a2 a3  h hB => ?_)
    have h9 := ih a1 a2 a3  h o (by omega) hB
    rw [show 60 + 4 * (600 - (n + 1)) + 4 = 60 + 4 * (600 - n) by omega, show 3000 + 52 * (600 - (n + 1)) + 52 = 3000 + 52 * (600 - n) by omega]
    exact h9
set_option maxHeartbeats 4000000 in
set_option maxRecDepth 100000 in
theorem w_L_law (g : GG) (l : Launch) (h : HS) (o : Int32 × HS) (hB : f_L_law (gL g) (gX g) h = some o) : Wq g l mL_law 0 0 0 [some (va_rf (some 2000)), none, none, none] [] h (QI o) := by
  unfold f_L_law at hB
  refine q_new hB dL_law_0 fc_7 (by decide) wd_68 wd_69 wd_47 (by decide) (by decide) (fun hB => ?_)
  refine q_nm hB (fun h1 hB => ?_)
  refine q_dup dL_law_3 (rf_cat _) ?_
  refine q_callI_ (k' := 42) (w' := 403) hB (fun b a hf => c_X9_init g l b _ a hf) rfl dL_law_4 wd_70 cs_X9_init wd_71 rfl rfl rfl ⟨⟨Nat.le_of_ble_eq_true rfl, Nat.le_of_ble_eq_true rfl⟩, ⟨Nat.le_of_ble_eq_true rfl, Nat.le_of_ble_eq_true rfl⟩, by simp [rf_cat, cat_i, cat_l]⟩ rfl rfl (fun n3 r2 hB => ?_)
  refine q_astore_n dL_law_7 rfl (by decide) (nb_r (j := 0) rfl) ?_
  refine q_new hB dL_law_8 fc_8 (by decide) wd_723 wd_724 wd_58 (by decide) (by decide) (fun hB => ?_)
  refine q_nm hB (fun h4 hB => ?_)
  refine q_dup dL_law_11 (rf_cat _) ?_
  refine q_callI_ (k' := 56) (w' := 888) hB (fun b a hf => c_X10_init g l b _ a hf) rfl dL_law_12 wd_725 cs_X10_init wd_726 rfl rfl rfl ⟨⟨Nat.le_of_ble_eq_true rfl, Nat.le_of_ble_eq_true rfl⟩, ⟨Nat.le_of_ble_eq_true rfl, Nat.le_of_ble_eq_true rfl⟩, by simp [rf_cat, cat_i, cat_l]⟩ rfl rfl (fun n6 r5 hB => ?_)
  refine q_astore_n dL_law_15 rfl (by decide) (nb_r (j := 1) rfl) ?_
  refine q_iconst (v := 0) dL_law_16 (by decide) ?_
  refine q_istore_n dL_law_17 rfl (by decide) (nb_r (j := 2) rfl) ?_
  refine Wq.widen (k' := 60 + 4 * (600 - 600)) (w' := 3000 + 52 * (600 - 600)) (by decide) (by decide) ?_
  exact Wq.mask [true, true, true, true] rfl (wl_L_law_18 g l 600 _ _ _ _ o (Nat.le_refl _) hB)
