section
-- ===== PART A: goes FIRST, ahead of the names: the tables' words, and 'selects' of the private methods out of them =====
/-- a private method of a class that the tables say can be made, by its rows of tables_1 -/
def lw_okq (q : MethodName × Nat) : Prop := (q.1.cls ≠ "java/lang/invoke/MethodHandle" ∧ q.1.cls ≠ "java/lang/invoke/VarHandle") ∧ Cond.instantiable q.1.cls q.2 ∈ tables_1 ∧ Cond.privateMethod q.1 ∈ tables_1 ∧ Cond.instanceMethod q.1 ∈ tables_1
theorem lw_p0 : lw_okq (⟨"CrossTable$PlanText", "letterAt", "(I)I"⟩, 2) := ⟨⟨by decide +kernel, by decide +kernel⟩, List.mem_of_getElem? (i := 31) (by decide +kernel), List.mem_of_getElem? (i := 249) (by decide +kernel), List.mem_of_getElem? (i := 250) (by decide +kernel)⟩
theorem lw_p1 : lw_okq (⟨"CrossTable$PlanText", "spelt", "(Ljava/lang/String;)I"⟩, 2) := ⟨⟨by decide +kernel, by decide +kernel⟩, List.mem_of_getElem? (i := 31) (by decide +kernel), List.mem_of_getElem? (i := 275) (by decide +kernel), List.mem_of_getElem? (i := 276) (by decide +kernel)⟩
theorem lw_p2 : lw_okq (⟨"CrossTable$PlanText", "figureAt", "(I)I"⟩, 2) := ⟨⟨by decide +kernel, by decide +kernel⟩, List.mem_of_getElem? (i := 31) (by decide +kernel), List.mem_of_getElem? (i := 327) (by decide +kernel), List.mem_of_getElem? (i := 328) (by decide +kernel)⟩
theorem lw_p3 : lw_okq (⟨"CrossTable", "rowsOf", "(LCrossTable$Entries;)LCrossTable$Axis;"⟩, 11) := ⟨⟨by decide +kernel, by decide +kernel⟩, List.mem_of_getElem? (i := 23) (by decide +kernel), List.mem_of_getElem? (i := 335) (by decide +kernel), List.mem_of_getElem? (i := 336) (by decide +kernel)⟩
theorem lw_p4 : lw_okq (⟨"CrossTable$Axis", "greatestBut", "(I)I"⟩, 4) := ⟨⟨by decide +kernel, by decide +kernel⟩, List.mem_of_getElem? (i := 149) (by decide +kernel), List.mem_of_getElem? (i := 396) (by decide +kernel), List.mem_of_getElem? (i := 397) (by decide +kernel)⟩
theorem lw_p5 : lw_okq (⟨"CrossTable$Axis", "closeUp", "(I)V"⟩, 4) := ⟨⟨by decide +kernel, by decide +kernel⟩, List.mem_of_getElem? (i := 149) (by decide +kernel), List.mem_of_getElem? (i := 400) (by decide +kernel), List.mem_of_getElem? (i := 401) (by decide +kernel)⟩
theorem lw_p6 : lw_okq (⟨"CrossTable$Entries", "shift", "(III)V"⟩, 4) := ⟨⟨by decide +kernel, by decide +kernel⟩, List.mem_of_getElem? (i := 84) (by decide +kernel), List.mem_of_getElem? (i := 441) (by decide +kernel), List.mem_of_getElem? (i := 442) (by decide +kernel)⟩
theorem lw_p7 : lw_okq (⟨"CrossTable", "columnsOf", "(LCrossTable$Entries;)LCrossTable$Axis;"⟩, 11) := ⟨⟨by decide +kernel, by decide +kernel⟩, List.mem_of_getElem? (i := 23) (by decide +kernel), List.mem_of_getElem? (i := 488) (by decide +kernel), List.mem_of_getElem? (i := 489) (by decide +kernel)⟩
theorem lw_p8 : lw_okq (⟨"CrossTable", "axisOf", "(I)LCrossTable$Axis;"⟩, 11) := ⟨⟨by decide +kernel, by decide +kernel⟩, List.mem_of_getElem? (i := 23) (by decide +kernel), List.mem_of_getElem? (i := 502) (by decide +kernel), List.mem_of_getElem? (i := 503) (by decide +kernel)⟩
theorem lw_p9 : lw_okq (⟨"CrossTable", "cellOf", "(LCrossTable$Entries;II)I"⟩, 11) := ⟨⟨by decide +kernel, by decide +kernel⟩, List.mem_of_getElem? (i := 23) (by decide +kernel), List.mem_of_getElem? (i := 514) (by decide +kernel), List.mem_of_getElem? (i := 515) (by decide +kernel)⟩
theorem lw_p10 : lw_okq (⟨"CrossTable", "measureOf", "(LCrossTable$Entries;I)I"⟩, 11) := ⟨⟨by decide +kernel, by decide +kernel⟩, List.mem_of_getElem? (i := 23) (by decide +kernel), List.mem_of_getElem? (i := 522) (by decide +kernel), List.mem_of_getElem? (i := 523) (by decide +kernel)⟩
theorem lw_p11 : lw_okq (⟨"CrossTable", "totalOf", "(LCrossTable$Entries;)I"⟩, 11) := ⟨⟨by decide +kernel, by decide +kernel⟩, List.mem_of_getElem? (i := 23) (by decide +kernel), List.mem_of_getElem? (i := 539) (by decide +kernel), List.mem_of_getElem? (i := 540) (by decide +kernel)⟩
theorem lw_p12 : lw_okq (⟨"CrossTable", "stands", "(I)Z"⟩, 11) := ⟨⟨by decide +kernel, by decide +kernel⟩, List.mem_of_getElem? (i := 23) (by decide +kernel), List.mem_of_getElem? (i := 565) (by decide +kernel), List.mem_of_getElem? (i := 566) (by decide +kernel)⟩
theorem lw_p13 : lw_okq (⟨"CrossTable", "addToTrial", "(III)Z"⟩, 11) := ⟨⟨by decide +kernel, by decide +kernel⟩, List.mem_of_getElem? (i := 23) (by decide +kernel), List.mem_of_getElem? (i := 569) (by decide +kernel), List.mem_of_getElem? (i := 570) (by decide +kernel)⟩
theorem lw_p14 : lw_okq (⟨"CrossTable", "dropFromTrial", "(I)Z"⟩, 11) := ⟨⟨by decide +kernel, by decide +kernel⟩, List.mem_of_getElem? (i := 23) (by decide +kernel), List.mem_of_getElem? (i := 573) (by decide +kernel), List.mem_of_getElem? (i := 574) (by decide +kernel)⟩
theorem lw_p15 : lw_okq (⟨"CrossTable", "changeInTrial", "(II)Z"⟩, 11) := ⟨⟨by decide +kernel, by decide +kernel⟩, List.mem_of_getElem? (i := 23) (by decide +kernel), List.mem_of_getElem? (i := 577) (by decide +kernel), List.mem_of_getElem? (i := 578) (by decide +kernel)⟩
def lw_privs_1 : List (MethodName × Nat) := [(⟨"CrossTable$PlanText", "letterAt", "(I)I"⟩, 2), (⟨"CrossTable$PlanText", "spelt", "(Ljava/lang/String;)I"⟩, 2), (⟨"CrossTable$PlanText", "figureAt", "(I)I"⟩, 2), (⟨"CrossTable", "rowsOf", "(LCrossTable$Entries;)LCrossTable$Axis;"⟩, 11), (⟨"CrossTable$Axis", "greatestBut", "(I)I"⟩, 4), (⟨"CrossTable$Axis", "closeUp", "(I)V"⟩, 4), (⟨"CrossTable$Entries", "shift", "(III)V"⟩, 4), (⟨"CrossTable", "columnsOf", "(LCrossTable$Entries;)LCrossTable$Axis;"⟩, 11), (⟨"CrossTable", "axisOf", "(I)LCrossTable$Axis;"⟩, 11), (⟨"CrossTable", "cellOf", "(LCrossTable$Entries;II)I"⟩, 11), (⟨"CrossTable", "measureOf", "(LCrossTable$Entries;I)I"⟩, 11), (⟨"CrossTable", "totalOf", "(LCrossTable$Entries;)I"⟩, 11), (⟨"CrossTable", "stands", "(I)Z"⟩, 11), (⟨"CrossTable", "addToTrial", "(III)Z"⟩, 11), (⟨"CrossTable", "dropFromTrial", "(I)Z"⟩, 11), (⟨"CrossTable", "changeInTrial", "(II)Z"⟩, 11)]
theorem lw_r1 : ∀ q ∈ lw_privs_1, lw_okq q := List.forall_mem_cons.mpr ⟨lw_p0, List.forall_mem_cons.mpr ⟨lw_p1, List.forall_mem_cons.mpr ⟨lw_p2, List.forall_mem_cons.mpr ⟨lw_p3, List.forall_mem_cons.mpr ⟨lw_p4, List.forall_mem_cons.mpr ⟨lw_p5, List.forall_mem_cons.mpr ⟨lw_p6, List.forall_mem_cons.mpr ⟨lw_p7, List.forall_mem_cons.mpr ⟨lw_p8, List.forall_mem_cons.mpr ⟨lw_p9, List.forall_mem_cons.mpr ⟨lw_p10, List.forall_mem_cons.mpr ⟨lw_p11, List.forall_mem_cons.mpr ⟨lw_p12, List.forall_mem_cons.mpr ⟨lw_p13, List.forall_mem_cons.mpr ⟨lw_p14, List.forall_mem_cons.mpr ⟨lw_p15, fun _ h => absurd h List.not_mem_nil⟩⟩⟩⟩⟩⟩⟩⟩⟩⟩⟩⟩⟩⟩⟩⟩
theorem lw_p16 : lw_okq (⟨"CrossTable", "isAllSeenSo", "(III)Z"⟩, 11) := ⟨⟨by decide +kernel, by decide +kernel⟩, List.mem_of_getElem? (i := 23) (by decide +kernel), List.mem_of_getElem? (i := 605) (by decide +kernel), List.mem_of_getElem? (i := 606) (by decide +kernel)⟩
theorem lw_p17 : lw_okq (⟨"CrossTable", "worthOf", "(I)I"⟩, 11) := ⟨⟨by decide +kernel, by decide +kernel⟩, List.mem_of_getElem? (i := 23) (by decide +kernel), List.mem_of_getElem? (i := 620) (by decide +kernel), List.mem_of_getElem? (i := 621) (by decide +kernel)⟩
theorem lw_p18 : lw_okq (⟨"CrossTable", "drawIntoTrial", "(I)V"⟩, 11) := ⟨⟨by decide +kernel, by decide +kernel⟩, List.mem_of_getElem? (i := 23) (by decide +kernel), List.mem_of_getElem? (i := 654) (by decide +kernel), List.mem_of_getElem? (i := 655) (by decide +kernel)⟩
theorem lw_p19 : lw_okq (⟨"CrossTableModel", "readText", "()I"⟩, 30) := ⟨⟨by decide +kernel, by decide +kernel⟩, List.mem_of_getElem? (i := 678) (by decide +kernel), List.mem_of_getElem? (i := 791) (by decide +kernel), List.mem_of_getElem? (i := 792) (by decide +kernel)⟩
theorem lw_p20 : lw_okq (⟨"CrossTableModel", "readEnd", "(I)I"⟩, 30) := ⟨⟨by decide +kernel, by decide +kernel⟩, List.mem_of_getElem? (i := 678) (by decide +kernel), List.mem_of_getElem? (i := 802) (by decide +kernel), List.mem_of_getElem? (i := 803) (by decide +kernel)⟩
theorem lw_p21 : lw_okq (⟨"CrossTableModel", "findRows", "(I)V"⟩, 30) := ⟨⟨by decide +kernel, by decide +kernel⟩, List.mem_of_getElem? (i := 678) (by decide +kernel), List.mem_of_getElem? (i := 814) (by decide +kernel), List.mem_of_getElem? (i := 815) (by decide +kernel)⟩
theorem lw_p22 : lw_okq (⟨"CrossTableModel", "groupOf", "(III)I"⟩, 30) := ⟨⟨by decide +kernel, by decide +kernel⟩, List.mem_of_getElem? (i := 678) (by decide +kernel), List.mem_of_getElem? (i := 818) (by decide +kernel), List.mem_of_getElem? (i := 819) (by decide +kernel)⟩
theorem lw_p23 : lw_okq (⟨"CrossTableModel", "many", "(I)I"⟩, 30) := ⟨⟨by decide +kernel, by decide +kernel⟩, List.mem_of_getElem? (i := 678) (by decide +kernel), List.mem_of_getElem? (i := 822) (by decide +kernel), List.mem_of_getElem? (i := 823) (by decide +kernel)⟩
theorem lw_p24 : lw_okq (⟨"CrossTableModel", "keyOf", "(III)I"⟩, 30) := ⟨⟨by decide +kernel, by decide +kernel⟩, List.mem_of_getElem? (i := 678) (by decide +kernel), List.mem_of_getElem? (i := 826) (by decide +kernel), List.mem_of_getElem? (i := 827) (by decide +kernel)⟩
theorem lw_p25 : lw_okq (⟨"CrossTableModel", "at", "(II)I"⟩, 30) := ⟨⟨by decide +kernel, by decide +kernel⟩, List.mem_of_getElem? (i := 678) (by decide +kernel), List.mem_of_getElem? (i := 830) (by decide +kernel), List.mem_of_getElem? (i := 831) (by decide +kernel)⟩
theorem lw_p26 : lw_okq (⟨"CrossTableModel", "pick", "(II)V"⟩, 30) := ⟨⟨by decide +kernel, by decide +kernel⟩, List.mem_of_getElem? (i := 678) (by decide +kernel), List.mem_of_getElem? (i := 834) (by decide +kernel), List.mem_of_getElem? (i := 835) (by decide +kernel)⟩
theorem lw_p27 : lw_okq (⟨"CrossTableModel", "measureOf", "(II)I"⟩, 30) := ⟨⟨by decide +kernel, by decide +kernel⟩, List.mem_of_getElem? (i := 678) (by decide +kernel), List.mem_of_getElem? (i := 838) (by decide +kernel), List.mem_of_getElem? (i := 839) (by decide +kernel)⟩
theorem lw_p28 : lw_okq (⟨"CrossTableModel", "twinsOf", "(II)I"⟩, 30) := ⟨⟨by decide +kernel, by decide +kernel⟩, List.mem_of_getElem? (i := 678) (by decide +kernel), List.mem_of_getElem? (i := 842) (by decide +kernel), List.mem_of_getElem? (i := 843) (by decide +kernel)⟩
theorem lw_p29 : lw_okq (⟨"CrossTableModel", "amountOf", "(II)I"⟩, 30) := ⟨⟨by decide +kernel, by decide +kernel⟩, List.mem_of_getElem? (i := 678) (by decide +kernel), List.mem_of_getElem? (i := 849) (by decide +kernel), List.mem_of_getElem? (i := 850) (by decide +kernel)⟩
theorem lw_p30 : lw_okq (⟨"CrossTableModel", "keepAct", "()V"⟩, 30) := ⟨⟨by decide +kernel, by decide +kernel⟩, List.mem_of_getElem? (i := 678) (by decide +kernel), List.mem_of_getElem? (i := 868) (by decide +kernel), List.mem_of_getElem? (i := 869) (by decide +kernel)⟩
theorem lw_p31 : lw_okq (⟨"CrossTableModel", "addOn", "(II)V"⟩, 30) := ⟨⟨by decide +kernel, by decide +kernel⟩, List.mem_of_getElem? (i := 678) (by decide +kernel), List.mem_of_getElem? (i := 875) (by decide +kernel), List.mem_of_getElem? (i := 876) (by decide +kernel)⟩
def lw_privs_2 : List (MethodName × Nat) := [(⟨"CrossTable", "isAllSeenSo", "(III)Z"⟩, 11), (⟨"CrossTable", "worthOf", "(I)I"⟩, 11), (⟨"CrossTable", "drawIntoTrial", "(I)V"⟩, 11), (⟨"CrossTableModel", "readText", "()I"⟩, 30), (⟨"CrossTableModel", "readEnd", "(I)I"⟩, 30), (⟨"CrossTableModel", "findRows", "(I)V"⟩, 30), (⟨"CrossTableModel", "groupOf", "(III)I"⟩, 30), (⟨"CrossTableModel", "many", "(I)I"⟩, 30), (⟨"CrossTableModel", "keyOf", "(III)I"⟩, 30), (⟨"CrossTableModel", "at", "(II)I"⟩, 30), (⟨"CrossTableModel", "pick", "(II)V"⟩, 30), (⟨"CrossTableModel", "measureOf", "(II)I"⟩, 30), (⟨"CrossTableModel", "twinsOf", "(II)I"⟩, 30), (⟨"CrossTableModel", "amountOf", "(II)I"⟩, 30), (⟨"CrossTableModel", "keepAct", "()V"⟩, 30), (⟨"CrossTableModel", "addOn", "(II)V"⟩, 30)]
theorem lw_r2 : ∀ q ∈ lw_privs_2, lw_okq q := List.forall_mem_cons.mpr ⟨lw_p16, List.forall_mem_cons.mpr ⟨lw_p17, List.forall_mem_cons.mpr ⟨lw_p18, List.forall_mem_cons.mpr ⟨lw_p19, List.forall_mem_cons.mpr ⟨lw_p20, List.forall_mem_cons.mpr ⟨lw_p21, List.forall_mem_cons.mpr ⟨lw_p22, List.forall_mem_cons.mpr ⟨lw_p23, List.forall_mem_cons.mpr ⟨lw_p24, List.forall_mem_cons.mpr ⟨lw_p25, List.forall_mem_cons.mpr ⟨lw_p26, List.forall_mem_cons.mpr ⟨lw_p27, List.forall_mem_cons.mpr ⟨lw_p28, List.forall_mem_cons.mpr ⟨lw_p29, List.forall_mem_cons.mpr ⟨lw_p30, List.forall_mem_cons.mpr ⟨lw_p31, fun _ h => absurd h List.not_mem_nil⟩⟩⟩⟩⟩⟩⟩⟩⟩⟩⟩⟩⟩⟩⟩⟩
theorem lw_p32 : lw_okq (⟨"CrossTableModel", "isThere", "(I)Z"⟩, 30) := ⟨⟨by decide +kernel, by decide +kernel⟩, List.mem_of_getElem? (i := 678) (by decide +kernel), List.mem_of_getElem? (i := 883) (by decide +kernel), List.mem_of_getElem? (i := 884) (by decide +kernel)⟩
theorem lw_p33 : lw_okq (⟨"CrossTableModel", "dropOn", "(II)V"⟩, 30) := ⟨⟨by decide +kernel, by decide +kernel⟩, List.mem_of_getElem? (i := 678) (by decide +kernel), List.mem_of_getElem? (i := 887) (by decide +kernel), List.mem_of_getElem? (i := 888) (by decide +kernel)⟩
theorem lw_p34 : lw_okq (⟨"CrossTableModel", "rowKeyOf", "(I)I"⟩, 30) := ⟨⟨by decide +kernel, by decide +kernel⟩, List.mem_of_getElem? (i := 678) (by decide +kernel), List.mem_of_getElem? (i := 903) (by decide +kernel), List.mem_of_getElem? (i := 904) (by decide +kernel)⟩
theorem lw_p35 : lw_okq (⟨"CrossTableModel", "findColumns", "(I)V"⟩, 30) := ⟨⟨by decide +kernel, by decide +kernel⟩, List.mem_of_getElem? (i := 678) (by decide +kernel), List.mem_of_getElem? (i := 911) (by decide +kernel), List.mem_of_getElem? (i := 912) (by decide +kernel)⟩
theorem lw_p36 : lw_okq (⟨"CrossTableModel", "rowOf", "(I)I"⟩, 30) := ⟨⟨by decide +kernel, by decide +kernel⟩, List.mem_of_getElem? (i := 678) (by decide +kernel), List.mem_of_getElem? (i := 919) (by decide +kernel), List.mem_of_getElem? (i := 920) (by decide +kernel)⟩
theorem lw_p37 : lw_okq (⟨"CrossTableModel", "columnOf", "(I)I"⟩, 30) := ⟨⟨by decide +kernel, by decide +kernel⟩, List.mem_of_getElem? (i := 678) (by decide +kernel), List.mem_of_getElem? (i := 923) (by decide +kernel), List.mem_of_getElem? (i := 924) (by decide +kernel)⟩
theorem lw_p38 : lw_okq (⟨"CrossTableModel", "allOf", "(I)I"⟩, 30) := ⟨⟨by decide +kernel, by decide +kernel⟩, List.mem_of_getElem? (i := 678) (by decide +kernel), List.mem_of_getElem? (i := 939) (by decide +kernel), List.mem_of_getElem? (i := 940) (by decide +kernel)⟩
theorem lw_p39 : lw_okq (⟨"CrossTableModel", "layTrial", "()V"⟩, 30) := ⟨⟨by decide +kernel, by decide +kernel⟩, List.mem_of_getElem? (i := 678) (by decide +kernel), List.mem_of_getElem? (i := 947) (by decide +kernel), List.mem_of_getElem? (i := 948) (by decide +kernel)⟩
theorem lw_p40 : lw_okq (⟨"CrossTableModel", "tryThing", "(III)Z"⟩, 30) := ⟨⟨by decide +kernel, by decide +kernel⟩, List.mem_of_getElem? (i := 678) (by decide +kernel), List.mem_of_getElem? (i := 963) (by decide +kernel), List.mem_of_getElem? (i := 964) (by decide +kernel)⟩
theorem lw_p41 : lw_okq (⟨"CrossTableModel", "mayBe", "(I)Z"⟩, 30) := ⟨⟨by decide +kernel, by decide +kernel⟩, List.mem_of_getElem? (i := 678) (by decide +kernel), List.mem_of_getElem? (i := 981) (by decide +kernel), List.mem_of_getElem? (i := 982) (by decide +kernel)⟩
theorem lw_p42 : lw_okq (⟨"CrossTableModel", "worthBy", "(I)I"⟩, 30) := ⟨⟨by decide +kernel, by decide +kernel⟩, List.mem_of_getElem? (i := 678) (by decide +kernel), List.mem_of_getElem? (i := 995) (by decide +kernel), List.mem_of_getElem? (i := 996) (by decide +kernel)⟩
theorem lw_p43 : lw_okq (⟨"CrossTableModel", "measureBy", "(I)I"⟩, 30) := ⟨⟨by decide +kernel, by decide +kernel⟩, List.mem_of_getElem? (i := 678) (by decide +kernel), List.mem_of_getElem? (i := 999) (by decide +kernel), List.mem_of_getElem? (i := 1000) (by decide +kernel)⟩
theorem lw_p44 : lw_okq (⟨"CrossTableModel", "filledCells", "()I"⟩, 30) := ⟨⟨by decide +kernel, by decide +kernel⟩, List.mem_of_getElem? (i := 678) (by decide +kernel), List.mem_of_getElem? (i := 1034) (by decide +kernel), List.mem_of_getElem? (i := 1035) (by decide +kernel)⟩
theorem lw_p45 : lw_okq (⟨"CrossTableModel", "missingAmounts", "()I"⟩, 30) := ⟨⟨by decide +kernel, by decide +kernel⟩, List.mem_of_getElem? (i := 678) (by decide +kernel), List.mem_of_getElem? (i := 1038) (by decide +kernel), List.mem_of_getElem? (i := 1039) (by decide +kernel)⟩
def lw_privs_3 : List (MethodName × Nat) := [(⟨"CrossTableModel", "isThere", "(I)Z"⟩, 30), (⟨"CrossTableModel", "dropOn", "(II)V"⟩, 30), (⟨"CrossTableModel", "rowKeyOf", "(I)I"⟩, 30), (⟨"CrossTableModel", "findColumns", "(I)V"⟩, 30), (⟨"CrossTableModel", "rowOf", "(I)I"⟩, 30), (⟨"CrossTableModel", "columnOf", "(I)I"⟩, 30), (⟨"CrossTableModel", "allOf", "(I)I"⟩, 30), (⟨"CrossTableModel", "layTrial", "()V"⟩, 30), (⟨"CrossTableModel", "tryThing", "(III)Z"⟩, 30), (⟨"CrossTableModel", "mayBe", "(I)Z"⟩, 30), (⟨"CrossTableModel", "worthBy", "(I)I"⟩, 30), (⟨"CrossTableModel", "measureBy", "(I)I"⟩, 30), (⟨"CrossTableModel", "filledCells", "()I"⟩, 30), (⟨"CrossTableModel", "missingAmounts", "()I"⟩, 30)]
theorem lw_r3 : ∀ q ∈ lw_privs_3, lw_okq q := List.forall_mem_cons.mpr ⟨lw_p32, List.forall_mem_cons.mpr ⟨lw_p33, List.forall_mem_cons.mpr ⟨lw_p34, List.forall_mem_cons.mpr ⟨lw_p35, List.forall_mem_cons.mpr ⟨lw_p36, List.forall_mem_cons.mpr ⟨lw_p37, List.forall_mem_cons.mpr ⟨lw_p38, List.forall_mem_cons.mpr ⟨lw_p39, List.forall_mem_cons.mpr ⟨lw_p40, List.forall_mem_cons.mpr ⟨lw_p41, List.forall_mem_cons.mpr ⟨lw_p42, List.forall_mem_cons.mpr ⟨lw_p43, List.forall_mem_cons.mpr ⟨lw_p44, List.forall_mem_cons.mpr ⟨lw_p45, fun _ h => absurd h List.not_mem_nil⟩⟩⟩⟩⟩⟩⟩⟩⟩⟩⟩⟩⟩⟩
def lw_privs : List (MethodName × Nat) := lw_privs_1 ++ (lw_privs_2 ++ (lw_privs_3))
def lw_tbl : List Cond := k2_sels lw_privs ++ tables_1
theorem lw_privs_ok : ∀ q ∈ lw_privs, lw_okq q := by
  show ∀ q ∈ lw_privs_1 ++ (lw_privs_2 ++ (lw_privs_3)), lw_okq q
  exact List.forall_mem_append.mpr ⟨lw_r1, List.forall_mem_append.mpr ⟨lw_r2, lw_r3⟩⟩

/-! ===== BEGIN printed: names, fields, word lists, decode rows ===== -/
def RX0 : String := "CrossTable$Act"
def TX0 : u_T := fun k => match k with
  | 0 => ("CrossTable$Act", "kind", "I", false)
  | 1 => ("CrossTable$Act", "place", "I", false)
  | 2 => ("CrossTable$Act", "town", "I", false)
  | 3 => ("CrossTable$Act", "ware", "I", false)
  | _ => ("CrossTable$Act", "amount", "I", false)
def tyX0 : Nat → FieldType := fun k => match k with
  | 0 => .int
  | 1 => .int
  | 2 => .int
  | 3 => .int
  | _ => .int
abbrev wsX00 : List Cond := u_ws RX0 TX0 5
theorem nmX0 : ∀ a, a < 5 → ∀ b, b < 5 → a ≠ b → (TX0 a).2.1 ≠ (TX0 b).2.1 := by decide +kernel
theorem tyX0_ok : ∀ k, k < 5 → parseFieldDescriptor (TX0 k).2.2.1 = some (tyX0 k) := by decide +kernel
abbrev cX0_init : ByteArray := prog_2_method_1_code
def yX0_init : MethodName := ⟨RX0, "<init>", "()V"⟩
abbrev cX0_tell : ByteArray := prog_2_method_2_code
def yX0_tell : MethodName := ⟨RX0, "tell", "(IIIII)V"⟩
abbrev cX0_takeBack : ByteArray := prog_2_method_3_code
def yX0_takeBack : MethodName := ⟨RX0, "takeBack", "(LCrossTable$Entries;)V"⟩
def RX1 : String := "CrossTable$ActRow"
def TX1 : u_T := fun k => match k with
  | 0 => ("CrossTable$ActRow", "acts", "[LCrossTable$Act;", true)
  | _ => ("CrossTable$ActRow", "size", "I", false)
def tyX1 : Nat → FieldType := fun k => match k with
  | 0 => .array (.object "CrossTable$Act")
  | _ => .int
abbrev wsX10 : List Cond := u_ws RX1 TX1 2
theorem nmX1 : ∀ a, a < 2 → ∀ b, b < 2 → a ≠ b → (TX1 a).2.1 ≠ (TX1 b).2.1 := by decide +kernel
theorem tyX1_ok : ∀ k, k < 2 → parseFieldDescriptor (TX1 k).2.2.1 = some (tyX1 k) := by decide +kernel
abbrev cX1_init : ByteArray := prog_3_method_1_code
def yX1_init : MethodName := ⟨RX1, "<init>", "()V"⟩
abbrev cX1_next : ByteArray := prog_3_method_2_code
def yX1_next : MethodName := ⟨RX1, "next", "()LCrossTable$Act;"⟩
abbrev cX1_takeLast : ByteArray := prog_3_method_3_code
def yX1_takeLast : MethodName := ⟨RX1, "takeLast", "()LCrossTable$Act;"⟩
def RX2 : String := "CrossTable$Axis"
def TX2 : u_T := fun k => match k with
  | 0 => ("CrossTable$Axis", "keys", "[I", true)
  | 1 => ("CrossTable$Axis", "sets", "[I", true)
  | 2 => ("CrossTable$Axis", "measures", "[I", true)
  | _ => ("CrossTable$Axis", "size", "I", false)
def tyX2 : Nat → FieldType := fun k => match k with
  | 0 => .array .int
  | 1 => .array .int
  | 2 => .array .int
  | _ => .int
abbrev wsX20 : List Cond := u_ws RX2 TX2 4
theorem nmX2 : ∀ a, a < 4 → ∀ b, b < 4 → a ≠ b → (TX2 a).2.1 ≠ (TX2 b).2.1 := by decide +kernel
theorem tyX2_ok : ∀ k, k < 4 → parseFieldDescriptor (TX2 k).2.2.1 = some (tyX2 k) := by decide +kernel
abbrev cX2_init : ByteArray := prog_4_method_1_code
def yX2_init : MethodName := ⟨RX2, "<init>", "()V"⟩
abbrev cX2_has : ByteArray := prog_4_method_2_code
def yX2_has : MethodName := ⟨RX2, "has", "(I)Z"⟩
abbrev cX2_gather : ByteArray := prog_4_method_3_code
def yX2_gather : MethodName := ⟨RX2, "gather", "(LCrossTable$Entries;LCrossTable$Field;I)V"⟩
abbrev cX2_foldRest : ByteArray := prog_4_method_4_code
def yX2_foldRest : MethodName := ⟨RX2, "foldRest", "(LCrossTable$Entries;LCrossTable$Measure;I)V"⟩
abbrev cX2_greatestBut : ByteArray := prog_4_method_5_code
def yX2_greatestBut : MethodName := ⟨RX2, "greatestBut", "(I)I"⟩
abbrev cX2_closeUp : ByteArray := prog_4_method_6_code
def yX2_closeUp : MethodName := ⟨RX2, "closeUp", "(I)V"⟩
abbrev cX2_setOf : ByteArray := prog_4_method_7_code
def yX2_setOf : MethodName := ⟨RX2, "setOf", "(I)I"⟩
abbrev cX2_keyOfEntry : ByteArray := prog_4_method_8_code
def yX2_keyOfEntry : MethodName := ⟨RX2, "keyOfEntry", "(I)I"⟩
abbrev cX2_union : ByteArray := prog_4_method_9_code
def yX2_union : MethodName := ⟨RX2, "union", "(I)I"⟩
abbrev cX2_meetings : ByteArray := prog_4_method_10_code
def yX2_meetings : MethodName := ⟨RX2, "meetings", "(LCrossTable$Axis;)I"⟩
def RX3 : String := "CrossTable$Entries"
def TX3 : u_T := fun k => match k with
  | 0 => ("CrossTable$Entries", "towns", "[I", true)
  | 1 => ("CrossTable$Entries", "wares", "[I", true)
  | 2 => ("CrossTable$Entries", "amounts", "[I", true)
  | _ => ("CrossTable$Entries", "size", "I", false)
def tyX3 : Nat → FieldType := fun k => match k with
  | 0 => .array .int
  | 1 => .array .int
  | 2 => .array .int
  | _ => .int
abbrev wsX30 : List Cond := u_ws RX3 TX3 4
theorem nmX3 : ∀ a, a < 4 → ∀ b, b < 4 → a ≠ b → (TX3 a).2.1 ≠ (TX3 b).2.1 := by decide +kernel
theorem tyX3_ok : ∀ k, k < 4 → parseFieldDescriptor (TX3 k).2.2.1 = some (tyX3 k) := by decide +kernel
abbrev cX3_init : ByteArray := prog_5_method_1_code
def yX3_init : MethodName := ⟨RX3, "<init>", "()V"⟩
abbrev cX3_has : ByteArray := prog_5_method_2_code
def yX3_has : MethodName := ⟨RX3, "has", "(I)Z"⟩
abbrev cX3_hasRoom : ByteArray := prog_5_method_3_code
def yX3_hasRoom : MethodName := ⟨RX3, "hasRoom", "()Z"⟩
abbrev cX3_all : ByteArray := prog_5_method_4_code
def yX3_all : MethodName := ⟨RX3, "all", "()I"⟩
abbrev cX3_append : ByteArray := prog_5_method_5_code
def yX3_append : MethodName := ⟨RX3, "append", "(III)V"⟩
abbrev cX3_insert : ByteArray := prog_5_method_6_code
def yX3_insert : MethodName := ⟨RX3, "insert", "(IIII)V"⟩
abbrev cX3_remove : ByteArray := prog_5_method_7_code
def yX3_remove : MethodName := ⟨RX3, "remove", "(I)V"⟩
abbrev cX3_shift : ByteArray := prog_5_method_8_code
def yX3_shift : MethodName := ⟨RX3, "shift", "(III)V"⟩
abbrev cX3_copyFrom : ByteArray := prog_5_method_9_code
def yX3_copyFrom : MethodName := ⟨RX3, "copyFrom", "(LCrossTable$Entries;)V"⟩
abbrev cX3_missing : ByteArray := prog_5_method_10_code
def yX3_missing : MethodName := ⟨RX3, "missing", "()I"⟩
abbrev cX3_sumOf : ByteArray := prog_5_method_11_code
def yX3_sumOf : MethodName := ⟨RX3, "sumOf", "(I)I"⟩
abbrev cX3_mostOf : ByteArray := prog_5_method_12_code
def yX3_mostOf : MethodName := ⟨RX3, "mostOf", "(I)I"⟩
abbrev cX3_leastOf : ByteArray := prog_5_method_13_code
def yX3_leastOf : MethodName := ⟨RX3, "leastOf", "(I)I"⟩
abbrev cX3_kindsOf : ByteArray := prog_5_method_14_code
def yX3_kindsOf : MethodName := ⟨RX3, "kindsOf", "(I)I"⟩
def RX4 : String := "CrossTable$Field"
def TX4 : u_T := fun k => match k with
  | _ => ("", "", "", false)
def tyX4 : Nat → FieldType := fun k => match k with
  | _ => .int
abbrev wsX40 : List Cond := u_ws RX4 TX4 0
theorem nmX4 : ∀ a, a < 0 → ∀ b, b < 0 → a ≠ b → (TX4 a).2.1 ≠ (TX4 b).2.1 := by decide +kernel
theorem tyX4_ok : ∀ k, k < 0 → parseFieldDescriptor (TX4 k).2.2.1 = some (tyX4 k) := by decide +kernel
abbrev cX4_named : ByteArray := prog_6_method_4_code
def yX4_named : MethodName := ⟨RX4, "named", "(I)LCrossTable$Field;"⟩
abbrev cX4_keyOf : ByteArray := prog_6_method_5_code
def yX4_keyOf : MethodName := ⟨RX4, "keyOf", "(LCrossTable$Entries;II)I"⟩
abbrev cX4_binOf : ByteArray := prog_6_method_6_code
def yX4_binOf : MethodName := ⟨RX4, "binOf", "(II)I"⟩
def RX5 : String := "CrossTable$Measure"
def TX5 : u_T := fun k => match k with
  | _ => ("", "", "", false)
def tyX5 : Nat → FieldType := fun k => match k with
  | _ => .int
abbrev wsX50 : List Cond := u_ws RX5 TX5 0
theorem nmX5 : ∀ a, a < 0 → ∀ b, b < 0 → a ≠ b → (TX5 a).2.1 ≠ (TX5 b).2.1 := by decide +kernel
theorem tyX5_ok : ∀ k, k < 0 → parseFieldDescriptor (TX5 k).2.2.1 = some (tyX5 k) := by decide +kernel
abbrev cX5_startingWith : ByteArray := prog_7_method_4_code
def yX5_startingWith : MethodName := ⟨RX5, "startingWith", "(I)LCrossTable$Measure;"⟩
abbrev cX5_of : ByteArray := prog_7_method_5_code
def yX5_of : MethodName := ⟨RX5, "of", "(LCrossTable$Entries;I)I"⟩
def RX6 : String := "CrossTable$Plan"
def TX6 : u_T := fun k => match k with
  | 0 => ("CrossTable$Plan", "rowField", "LCrossTable$Field;", false)
  | 1 => ("CrossTable$Plan", "columnField", "LCrossTable$Field;", false)
  | 2 => ("CrossTable$Plan", "measure", "LCrossTable$Measure;", false)
  | 3 => ("CrossTable$Plan", "top", "I", false)
  | _ => ("CrossTable$Plan", "width", "I", false)
def tyX6 : Nat → FieldType := fun k => match k with
  | 0 => .object "CrossTable$Field"
  | 1 => .object "CrossTable$Field"
  | 2 => .object "CrossTable$Measure"
  | 3 => .int
  | _ => .int
abbrev wsX60 : List Cond := u_ws RX6 TX6 5
theorem nmX6 : ∀ a, a < 5 → ∀ b, b < 5 → a ≠ b → (TX6 a).2.1 ≠ (TX6 b).2.1 := by decide +kernel
theorem tyX6_ok : ∀ k, k < 5 → parseFieldDescriptor (TX6 k).2.2.1 = some (tyX6 k) := by decide +kernel
abbrev cX6_init : ByteArray := prog_8_method_1_code
def yX6_init : MethodName := ⟨RX6, "<init>", "()V"⟩
def RX7 : String := "CrossTable$PlanText"
def TX7 : u_T := fun k => match k with
  | 0 => ("CrossTable$PlanText", "letters", "[I", true)
  | _ => ("CrossTable$PlanText", "length", "I", false)
def tyX7 : Nat → FieldType := fun k => match k with
  | 0 => .array .int
  | _ => .int
abbrev wsX70 : List Cond := u_ws RX7 TX7 2
theorem nmX7 : ∀ a, a < 2 → ∀ b, b < 2 → a ≠ b → (TX7 a).2.1 ≠ (TX7 b).2.1 := by decide +kernel
theorem tyX7_ok : ∀ k, k < 2 → parseFieldDescriptor (TX7 k).2.2.1 = some (tyX7 k) := by decide +kernel
abbrev cX7_init : ByteArray := prog_9_method_1_code
def yX7_init : MethodName := ⟨RX7, "<init>", "()V"⟩
abbrev cX7_put : ByteArray := prog_9_method_2_code
def yX7_put : MethodName := ⟨RX7, "put", "(I)Z"⟩
abbrev cX7_readInto : ByteArray := prog_9_method_3_code
def yX7_readInto : MethodName := ⟨RX7, "readInto", "(LCrossTable$Plan;)I"⟩
abbrev cX7_spelt : ByteArray := prog_9_method_4_code
def yX7_spelt : MethodName := ⟨RX7, "spelt", "(Ljava/lang/String;)I"⟩
abbrev cX7_letterAt : ByteArray := prog_9_method_5_code
def yX7_letterAt : MethodName := ⟨RX7, "letterAt", "(I)I"⟩
abbrev cX7_figureAt : ByteArray := prog_9_method_6_code
def yX7_figureAt : MethodName := ⟨RX7, "figureAt", "(I)I"⟩
def RX8 : String := "CrossTable$Seen"
def TX8 : u_T := fun k => match k with
  | 0 => ("CrossTable$Seen", "keys", "[I", true)
  | 1 => ("CrossTable$Seen", "measures", "[I", true)
  | 2 => ("CrossTable$Seen", "was", "[Z", true)
  | _ => ("CrossTable$Seen", "size", "I", false)
def tyX8 : Nat → FieldType := fun k => match k with
  | 0 => .array .int
  | 1 => .array .int
  | 2 => .array .boolean
  | _ => .int
abbrev wsX80 : List Cond := u_ws RX8 TX8 4
theorem nmX8 : ∀ a, a < 4 → ∀ b, b < 4 → a ≠ b → (TX8 a).2.1 ≠ (TX8 b).2.1 := by decide +kernel
theorem tyX8_ok : ∀ k, k < 4 → parseFieldDescriptor (TX8 k).2.2.1 = some (tyX8 k) := by decide +kernel
abbrev cX8_init : ByteArray := prog_10_method_1_code
def yX8_init : MethodName := ⟨RX8, "<init>", "()V"⟩
abbrev cX8_put : ByteArray := prog_10_method_2_code
def yX8_put : MethodName := ⟨RX8, "put", "(IIZ)Z"⟩
def RX9 : String := "CrossTable"
def TX9 : u_T := fun k => match k with
  | 0 => ("CrossTable", "text", "LCrossTable$PlanText;", true)
  | 1 => ("CrossTable", "plan", "LCrossTable$Plan;", false)
  | 2 => ("CrossTable", "draft", "LCrossTable$Plan;", false)
  | 3 => ("CrossTable", "entries", "LCrossTable$Entries;", true)
  | 4 => ("CrossTable", "trial", "LCrossTable$Entries;", true)
  | 5 => ("CrossTable", "acts", "LCrossTable$ActRow;", true)
  | 6 => ("CrossTable", "rows", "LCrossTable$Axis;", true)
  | 7 => ("CrossTable", "columns", "LCrossTable$Axis;", true)
  | 8 => ("CrossTable", "seen", "LCrossTable$Seen;", true)
  | 9 => ("CrossTable", "slots", "[LCrossTable$Entries;", true)
  | _ => ("CrossTable", "drawSeed", "J", false)
def tyX9 : Nat → FieldType := fun k => match k with
  | 0 => .object "CrossTable$PlanText"
  | 1 => .object "CrossTable$Plan"
  | 2 => .object "CrossTable$Plan"
  | 3 => .object "CrossTable$Entries"
  | 4 => .object "CrossTable$Entries"
  | 5 => .object "CrossTable$ActRow"
  | 6 => .object "CrossTable$Axis"
  | 7 => .object "CrossTable$Axis"
  | 8 => .object "CrossTable$Seen"
  | 9 => .array (.object "CrossTable$Entries")
  | _ => .long
abbrev wsX90 : List Cond := u_ws RX9 TX9 11
theorem nmX9 : ∀ a, a < 11 → ∀ b, b < 11 → a ≠ b → (TX9 a).2.1 ≠ (TX9 b).2.1 := by decide +kernel
theorem tyX9_ok : ∀ k, k < 11 → parseFieldDescriptor (TX9 k).2.2.1 = some (tyX9 k) := by decide +kernel
abbrev cX9_init : ByteArray := prog_1_method_1_code
def yX9_init : MethodName := ⟨RX9, "<init>", "()V"⟩
abbrev cX9_write : ByteArray := prog_1_method_2_code
def yX9_write : MethodName := ⟨RX9, "write", "(I)I"⟩
abbrev cX9_wipe : ByteArray := prog_1_method_3_code
def yX9_wipe : MethodName := ⟨RX9, "wipe", "()I"⟩
abbrev cX9_fault : ByteArray := prog_1_method_4_code
def yX9_fault : MethodName := ⟨RX9, "fault", "()I"⟩
abbrev cX9_plan : ByteArray := prog_1_method_5_code
def yX9_plan : MethodName := ⟨RX9, "plan", "()I"⟩
abbrev cX9_word : ByteArray := prog_1_method_6_code
def yX9_word : MethodName := ⟨RX9, "word", "(I)I"⟩
abbrev cX9_add : ByteArray := prog_1_method_7_code
def yX9_add : MethodName := ⟨RX9, "add", "(III)I"⟩
abbrev cX9_drop : ByteArray := prog_1_method_8_code
def yX9_drop : MethodName := ⟨RX9, "drop", "(I)I"⟩
abbrev cX9_change : ByteArray := prog_1_method_9_code
def yX9_change : MethodName := ⟨RX9, "change", "(II)I"⟩
abbrev cX9_undo : ByteArray := prog_1_method_10_code
def yX9_undo : MethodName := ⟨RX9, "undo", "()I"⟩
abbrev cX9_entry : ByteArray := prog_1_method_11_code
def yX9_entry : MethodName := ⟨RX9, "entry", "(II)I"⟩
abbrev cX9_key : ByteArray := prog_1_method_12_code
def yX9_key : MethodName := ⟨RX9, "key", "(II)I"⟩
abbrev cX9_cell : ByteArray := prog_1_method_13_code
def yX9_cell : MethodName := ⟨RX9, "cell", "(II)I"⟩
abbrev cX9_drill : ByteArray := prog_1_method_14_code
def yX9_drill : MethodName := ⟨RX9, "drill", "(II)I"⟩
abbrev cX9_along : ByteArray := prog_1_method_15_code
def yX9_along : MethodName := ⟨RX9, "along", "(II)I"⟩
abbrev cX9_total : ByteArray := prog_1_method_16_code
def yX9_total : MethodName := ⟨RX9, "total", "()I"⟩
abbrev cX9_would : ByteArray := prog_1_method_17_code
def yX9_would : MethodName := ⟨RX9, "would", "(IIII)I"⟩
abbrev cX9_best : ByteArray := prog_1_method_18_code
def yX9_best : MethodName := ⟨RX9, "best", "(I)I"⟩
abbrev cX9_judge : ByteArray := prog_1_method_19_code
def yX9_judge : MethodName := ⟨RX9, "judge", "(IJ)I"⟩
abbrev cX9_see : ByteArray := prog_1_method_20_code
def yX9_see : MethodName := ⟨RX9, "see", "(III)I"⟩
abbrev cX9_unsee : ByteArray := prog_1_method_21_code
def yX9_unsee : MethodName := ⟨RX9, "unsee", "()I"⟩
abbrev cX9_hidden : ByteArray := prog_1_method_22_code
def yX9_hidden : MethodName := ⟨RX9, "hidden", "(I)I"⟩
abbrev cX9_share : ByteArray := prog_1_method_23_code
def yX9_share : MethodName := ⟨RX9, "share", "(IZ)I"⟩
abbrev cX9_lost : ByteArray := prog_1_method_24_code
def yX9_lost : MethodName := ⟨RX9, "lost", "(IIZ)I"⟩
abbrev cX9_seed : ByteArray := prog_1_method_25_code
def yX9_seed : MethodName := ⟨RX9, "seed", "(J)J"⟩
abbrev cX9_drawn : ByteArray := prog_1_method_26_code
def yX9_drawn : MethodName := ⟨RX9, "drawn", "(I)I"⟩
abbrev cX9_keep : ByteArray := prog_1_method_27_code
def yX9_keep : MethodName := ⟨RX9, "keep", "(I)I"⟩
abbrev cX9_again : ByteArray := prog_1_method_28_code
def yX9_again : MethodName := ⟨RX9, "again", "(I)I"⟩
abbrev cX9_count : ByteArray := prog_1_method_29_code
def yX9_count : MethodName := ⟨RX9, "count", "(I)I"⟩
abbrev cX9_isAmount : ByteArray := prog_1_method_30_code
def yX9_isAmount : MethodName := ⟨RX9, "isAmount", "(I)Z"⟩
abbrev cX9_isEntry : ByteArray := prog_1_method_31_code
def yX9_isEntry : MethodName := ⟨RX9, "isEntry", "(III)Z"⟩
abbrev cX9_isAxis : ByteArray := prog_1_method_32_code
def yX9_isAxis : MethodName := ⟨RX9, "isAxis", "(I)Z"⟩
abbrev cX9_isOneOfTwo : ByteArray := prog_1_method_33_code
def yX9_isOneOfTwo : MethodName := ⟨RX9, "isOneOfTwo", "(I)Z"⟩
abbrev cX9_isRowKey : ByteArray := prog_1_method_34_code
def yX9_isRowKey : MethodName := ⟨RX9, "isRowKey", "(I)Z"⟩
abbrev cX9_isSeenMeasure : ByteArray := prog_1_method_35_code
def yX9_isSeenMeasure : MethodName := ⟨RX9, "isSeenMeasure", "(I)Z"⟩
abbrev cX9_isSlot : ByteArray := prog_1_method_36_code
def yX9_isSlot : MethodName := ⟨RX9, "isSlot", "(I)Z"⟩
abbrev cX9_rowsOf : ByteArray := prog_1_method_37_code
def yX9_rowsOf : MethodName := ⟨RX9, "rowsOf", "(LCrossTable$Entries;)LCrossTable$Axis;"⟩
abbrev cX9_columnsOf : ByteArray := prog_1_method_38_code
def yX9_columnsOf : MethodName := ⟨RX9, "columnsOf", "(LCrossTable$Entries;)LCrossTable$Axis;"⟩
abbrev cX9_axisOf : ByteArray := prog_1_method_39_code
def yX9_axisOf : MethodName := ⟨RX9, "axisOf", "(I)LCrossTable$Axis;"⟩
abbrev cX9_cellOf : ByteArray := prog_1_method_40_code
def yX9_cellOf : MethodName := ⟨RX9, "cellOf", "(LCrossTable$Entries;II)I"⟩
abbrev cX9_measureOf : ByteArray := prog_1_method_41_code
def yX9_measureOf : MethodName := ⟨RX9, "measureOf", "(LCrossTable$Entries;I)I"⟩
abbrev cX9_totalOf : ByteArray := prog_1_method_42_code
def yX9_totalOf : MethodName := ⟨RX9, "totalOf", "(LCrossTable$Entries;)I"⟩
abbrev cX9_worthOf : ByteArray := prog_1_method_43_code
def yX9_worthOf : MethodName := ⟨RX9, "worthOf", "(I)I"⟩
abbrev cX9_noneAsZero : ByteArray := prog_1_method_44_code
def yX9_noneAsZero : MethodName := ⟨RX9, "noneAsZero", "(I)I"⟩
abbrev cX9_stands : ByteArray := prog_1_method_45_code
def yX9_stands : MethodName := ⟨RX9, "stands", "(I)Z"⟩
abbrev cX9_addToTrial : ByteArray := prog_1_method_46_code
def yX9_addToTrial : MethodName := ⟨RX9, "addToTrial", "(III)Z"⟩
abbrev cX9_dropFromTrial : ByteArray := prog_1_method_47_code
def yX9_dropFromTrial : MethodName := ⟨RX9, "dropFromTrial", "(I)Z"⟩
abbrev cX9_changeInTrial : ByteArray := prog_1_method_48_code
def yX9_changeInTrial : MethodName := ⟨RX9, "changeInTrial", "(II)Z"⟩
abbrev cX9_isAllSeenSo : ByteArray := prog_1_method_49_code
def yX9_isAllSeenSo : MethodName := ⟨RX9, "isAllSeenSo", "(III)Z"⟩
abbrev cX9_drawIntoTrial : ByteArray := prog_1_method_50_code
def yX9_drawIntoTrial : MethodName := ⟨RX9, "drawIntoTrial", "(I)V"⟩
abbrev cX9_fraction : ByteArray := prog_1_method_51_code
def yX9_fraction : MethodName := ⟨RX9, "fraction", "(IIZ)I"⟩
abbrev cX9_commonDivisor : ByteArray := prog_1_method_52_code
def yX9_commonDivisor : MethodName := ⟨RX9, "commonDivisor", "(II)I"⟩
abbrev cX9_power : ByteArray := prog_1_method_53_code
def yX9_power : MethodName := ⟨RX9, "power", "(II)I"⟩
def RX10 : String := "CrossTableModel"
def TX10 : u_T := fun k => match k with
  | 0 => ("CrossTableModel", "rowField", "I", false)
  | 1 => ("CrossTableModel", "columnField", "I", false)
  | 2 => ("CrossTableModel", "measure", "I", false)
  | 3 => ("CrossTableModel", "top", "I", false)
  | 4 => ("CrossTableModel", "wide", "I", false)
  | 5 => ("CrossTableModel", "readRow", "I", false)
  | 6 => ("CrossTableModel", "readColumn", "I", false)
  | 7 => ("CrossTableModel", "readMeasure", "I", false)
  | 8 => ("CrossTableModel", "readTop", "I", false)
  | 9 => ("CrossTableModel", "readWide", "I", false)
  | 10 => ("CrossTableModel", "text", "[I", true)
  | 11 => ("CrossTableModel", "length", "I", false)
  | 12 => ("CrossTableModel", "now", "[I", true)
  | 13 => ("CrossTableModel", "rows", "I", false)
  | 14 => ("CrossTableModel", "columns", "I", false)
  | 15 => ("CrossTableModel", "rowKey", "[I", true)
  | 16 => ("CrossTableModel", "rowSet", "[I", true)
  | 17 => ("CrossTableModel", "columnKey", "[I", true)
  | 18 => ("CrossTableModel", "columnSet", "[I", true)
  | 19 => ("CrossTableModel", "isPicked", "[I", true)
  | 20 => ("CrossTableModel", "acts", "I", false)
  | 21 => ("CrossTableModel", "next", "I", false)
  | 22 => ("CrossTableModel", "row", "[I", true)
  | 23 => ("CrossTableModel", "seen", "I", false)
  | 24 => ("CrossTableModel", "seenKey", "[I", true)
  | 25 => ("CrossTableModel", "seenValue", "[I", true)
  | 26 => ("CrossTableModel", "seenWas", "[I", true)
  | 27 => ("CrossTableModel", "seed", "J", false)
  | 28 => ("CrossTableModel", "isKept", "[Z", true)
  | _ => ("CrossTableModel", "kept", "[I", true)
def tyX10 : Nat → FieldType := fun k => match k with
  | 0 => .int
  | 1 => .int
  | 2 => .int
  | 3 => .int
  | 4 => .int
  | 5 => .int
  | 6 => .int
  | 7 => .int
  | 8 => .int
  | 9 => .int
  | 10 => .array .int
  | 11 => .int
  | 12 => .array .int
  | 13 => .int
  | 14 => .int
  | 15 => .array .int
  | 16 => .array .int
  | 17 => .array .int
  | 18 => .array .int
  | 19 => .array .int
  | 20 => .int
  | 21 => .int
  | 22 => .array .int
  | 23 => .int
  | 24 => .array .int
  | 25 => .array .int
  | 26 => .array .int
  | 27 => .long
  | 28 => .array .boolean
  | _ => .array .int
abbrev wsX100 : List Cond := u_ws RX10 TX10 30
theorem nmX10 : ∀ a, a < 30 → ∀ b, b < 30 → a ≠ b → (TX10 a).2.1 ≠ (TX10 b).2.1 := by decide +kernel
theorem tyX10_ok : ∀ k, k < 30 → parseFieldDescriptor (TX10 k).2.2.1 = some (tyX10 k) := by decide +kernel
abbrev cX10_init : ByteArray := prog_12_method_1_code
def yX10_init : MethodName := ⟨RX10, "<init>", "()V"⟩
abbrev cX10_in : ByteArray := prog_12_method_3_code
def yX10_in : MethodName := ⟨RX10, "in", "(JJJ)Z"⟩
abbrev cX10_has : ByteArray := prog_12_method_4_code
def yX10_has : MethodName := ⟨RX10, "has", "(II)Z"⟩
abbrev cX10_ones : ByteArray := prog_12_method_5_code
def yX10_ones : MethodName := ⟨RX10, "ones", "(I)I"⟩
abbrev cX10_write : ByteArray := prog_12_method_6_code
def yX10_write : MethodName := ⟨RX10, "write", "(I)I"⟩
abbrev cX10_wipe : ByteArray := prog_12_method_7_code
def yX10_wipe : MethodName := ⟨RX10, "wipe", "()I"⟩
abbrev cX10_fieldOf : ByteArray := prog_12_method_8_code
def yX10_fieldOf : MethodName := ⟨RX10, "fieldOf", "(I)I"⟩
abbrev cX10_letterOf : ByteArray := prog_12_method_9_code
def yX10_letterOf : MethodName := ⟨RX10, "letterOf", "(II)I"⟩
abbrev cX10_readText : ByteArray := prog_12_method_10_code
def yX10_readText : MethodName := ⟨RX10, "readText", "()I"⟩
abbrev cX10_readEnd : ByteArray := prog_12_method_11_code
def yX10_readEnd : MethodName := ⟨RX10, "readEnd", "(I)I"⟩
abbrev cX10_fault : ByteArray := prog_12_method_12_code
def yX10_fault : MethodName := ⟨RX10, "fault", "()I"⟩
abbrev cX10_plan : ByteArray := prog_12_method_13_code
def yX10_plan : MethodName := ⟨RX10, "plan", "()I"⟩
abbrev cX10_word : ByteArray := prog_12_method_14_code
def yX10_word : MethodName := ⟨RX10, "word", "(I)I"⟩
abbrev cX10_many : ByteArray := prog_12_method_15_code
def yX10_many : MethodName := ⟨RX10, "many", "(I)I"⟩
abbrev cX10_at : ByteArray := prog_12_method_16_code
def yX10_at : MethodName := ⟨RX10, "at", "(II)I"⟩
abbrev cX10_amountOf : ByteArray := prog_12_method_17_code
def yX10_amountOf : MethodName := ⟨RX10, "amountOf", "(II)I"⟩
abbrev cX10_keyOf : ByteArray := prog_12_method_18_code
def yX10_keyOf : MethodName := ⟨RX10, "keyOf", "(III)I"⟩
abbrev cX10_addOn : ByteArray := prog_12_method_19_code
def yX10_addOn : MethodName := ⟨RX10, "addOn", "(II)V"⟩
abbrev cX10_dropOn : ByteArray := prog_12_method_20_code
def yX10_dropOn : MethodName := ⟨RX10, "dropOn", "(II)V"⟩
abbrev cX10_allOf : ByteArray := prog_12_method_21_code
def yX10_allOf : MethodName := ⟨RX10, "allOf", "(I)I"⟩
abbrev cX10_twinsOf : ByteArray := prog_12_method_22_code
def yX10_twinsOf : MethodName := ⟨RX10, "twinsOf", "(II)I"⟩
abbrev cX10_measureOf : ByteArray := prog_12_method_23_code
def yX10_measureOf : MethodName := ⟨RX10, "measureOf", "(II)I"⟩
abbrev cX10_groupOf : ByteArray := prog_12_method_24_code
def yX10_groupOf : MethodName := ⟨RX10, "groupOf", "(III)I"⟩
abbrev cX10_pick : ByteArray := prog_12_method_25_code
def yX10_pick : MethodName := ⟨RX10, "pick", "(II)V"⟩
abbrev cX10_findRows : ByteArray := prog_12_method_26_code
def yX10_findRows : MethodName := ⟨RX10, "findRows", "(I)V"⟩
abbrev cX10_findColumns : ByteArray := prog_12_method_27_code
def yX10_findColumns : MethodName := ⟨RX10, "findColumns", "(I)V"⟩
abbrev cX10_rowOf : ByteArray := prog_12_method_28_code
def yX10_rowOf : MethodName := ⟨RX10, "rowOf", "(I)I"⟩
abbrev cX10_columnOf : ByteArray := prog_12_method_29_code
def yX10_columnOf : MethodName := ⟨RX10, "columnOf", "(I)I"⟩
abbrev cX10_keepAct : ByteArray := prog_12_method_30_code
def yX10_keepAct : MethodName := ⟨RX10, "keepAct", "()V"⟩
abbrev cX10_isEntry : ByteArray := prog_12_method_31_code
def yX10_isEntry : MethodName := ⟨RX10, "isEntry", "(III)Z"⟩
abbrev cX10_asOne : ByteArray := prog_12_method_32_code
def yX10_asOne : MethodName := ⟨RX10, "asOne", "(III)I"⟩
abbrev cX10_add : ByteArray := prog_12_method_33_code
def yX10_add : MethodName := ⟨RX10, "add", "(III)I"⟩
abbrev cX10_isThere : ByteArray := prog_12_method_34_code
def yX10_isThere : MethodName := ⟨RX10, "isThere", "(I)Z"⟩
abbrev cX10_drop : ByteArray := prog_12_method_35_code
def yX10_drop : MethodName := ⟨RX10, "drop", "(I)I"⟩
abbrev cX10_change : ByteArray := prog_12_method_36_code
def yX10_change : MethodName := ⟨RX10, "change", "(II)I"⟩
abbrev cX10_undo : ByteArray := prog_12_method_37_code
def yX10_undo : MethodName := ⟨RX10, "undo", "()I"⟩
abbrev cX10_rowKeyOf : ByteArray := prog_12_method_38_code
def yX10_rowKeyOf : MethodName := ⟨RX10, "rowKeyOf", "(I)I"⟩
abbrev cX10_entry : ByteArray := prog_12_method_39_code
def yX10_entry : MethodName := ⟨RX10, "entry", "(II)I"⟩
abbrev cX10_key : ByteArray := prog_12_method_40_code
def yX10_key : MethodName := ⟨RX10, "key", "(II)I"⟩
abbrev cX10_cell : ByteArray := prog_12_method_41_code
def yX10_cell : MethodName := ⟨RX10, "cell", "(II)I"⟩
abbrev cX10_drill : ByteArray := prog_12_method_42_code
def yX10_drill : MethodName := ⟨RX10, "drill", "(II)I"⟩
abbrev cX10_along : ByteArray := prog_12_method_43_code
def yX10_along : MethodName := ⟨RX10, "along", "(II)I"⟩
abbrev cX10_total : ByteArray := prog_12_method_44_code
def yX10_total : MethodName := ⟨RX10, "total", "()I"⟩
abbrev cX10_layTrial : ByteArray := prog_12_method_45_code
def yX10_layTrial : MethodName := ⟨RX10, "layTrial", "()V"⟩
abbrev cX10_would : ByteArray := prog_12_method_46_code
def yX10_would : MethodName := ⟨RX10, "would", "(IIII)I"⟩
abbrev cX10_best : ByteArray := prog_12_method_47_code
def yX10_best : MethodName := ⟨RX10, "best", "(I)I"⟩
abbrev cX10_tryThing : ByteArray := prog_12_method_48_code
def yX10_tryThing : MethodName := ⟨RX10, "tryThing", "(III)Z"⟩
abbrev cX10_tenThousandTo : ByteArray := prog_12_method_49_code
def yX10_tenThousandTo : MethodName := ⟨RX10, "tenThousandTo", "(I)J"⟩
abbrev cX10_judge : ByteArray := prog_12_method_50_code
def yX10_judge : MethodName := ⟨RX10, "judge", "(IJ)I"⟩
abbrev cX10_see : ByteArray := prog_12_method_51_code
def yX10_see : MethodName := ⟨RX10, "see", "(III)I"⟩
abbrev cX10_unsee : ByteArray := prog_12_method_52_code
def yX10_unsee : MethodName := ⟨RX10, "unsee", "()I"⟩
abbrev cX10_mayBe : ByteArray := prog_12_method_53_code
def yX10_mayBe : MethodName := ⟨RX10, "mayBe", "(I)Z"⟩
abbrev cX10_hidden : ByteArray := prog_12_method_54_code
def yX10_hidden : MethodName := ⟨RX10, "hidden", "(I)I"⟩
abbrev cX10_factorial : ByteArray := prog_12_method_55_code
def yX10_factorial : MethodName := ⟨RX10, "factorial", "(I)I"⟩
abbrev cX10_common : ByteArray := prog_12_method_56_code
def yX10_common : MethodName := ⟨RX10, "common", "(II)I"⟩
abbrev cX10_measureBy : ByteArray := prog_12_method_57_code
def yX10_measureBy : MethodName := ⟨RX10, "measureBy", "(I)I"⟩
abbrev cX10_worthBy : ByteArray := prog_12_method_58_code
def yX10_worthBy : MethodName := ⟨RX10, "worthBy", "(I)I"⟩
abbrev cX10_share : ByteArray := prog_12_method_59_code
def yX10_share : MethodName := ⟨RX10, "share", "(IZ)I"⟩
abbrev cX10_lost : ByteArray := prog_12_method_60_code
def yX10_lost : MethodName := ⟨RX10, "lost", "(IIZ)I"⟩
abbrev cX10_seed : ByteArray := prog_12_method_61_code
def yX10_seed : MethodName := ⟨RX10, "seed", "(J)J"⟩
abbrev cX10_drawn : ByteArray := prog_12_method_62_code
def yX10_drawn : MethodName := ⟨RX10, "drawn", "(I)I"⟩
abbrev cX10_keep : ByteArray := prog_12_method_63_code
def yX10_keep : MethodName := ⟨RX10, "keep", "(I)I"⟩
abbrev cX10_again : ByteArray := prog_12_method_64_code
def yX10_again : MethodName := ⟨RX10, "again", "(I)I"⟩
abbrev cX10_filledCells : ByteArray := prog_12_method_65_code
def yX10_filledCells : MethodName := ⟨RX10, "filledCells", "()I"⟩
abbrev cX10_missingAmounts : ByteArray := prog_12_method_66_code
def yX10_missingAmounts : MethodName := ⟨RX10, "missingAmounts", "()I"⟩
abbrev cX10_count : ByteArray := prog_12_method_67_code
def yX10_count : MethodName := ⟨RX10, "count", "(I)I"⟩
def RJx145de : String := "java/io/Serializable"
def TJx145de : u_T := fun k => match k with
  | _ => ("", "", "", false)
def tyJx145de : Nat → FieldType := fun k => match k with
  | _ => .int
abbrev wsJx145de0 : List Cond := u_ws RJx145de TJx145de 0
theorem nmJx145de : ∀ a, a < 0 → ∀ b, b < 0 → a ≠ b → (TJx145de a).2.1 ≠ (TJx145de b).2.1 := by decide +kernel
theorem tyJx145de_ok : ∀ k, k < 0 → parseFieldDescriptor (TJx145de k).2.2.1 = some (tyJx145de k) := by decide +kernel
def RJx9f9b0 : String := "java/lang/CharSequence"
def TJx9f9b0 : u_T := fun k => match k with
  | _ => ("", "", "", false)
def tyJx9f9b0 : Nat → FieldType := fun k => match k with
  | _ => .int
abbrev wsJx9f9b00 : List Cond := u_ws RJx9f9b0 TJx9f9b0 0
theorem nmJx9f9b0 : ∀ a, a < 0 → ∀ b, b < 0 → a ≠ b → (TJx9f9b0 a).2.1 ≠ (TJx9f9b0 b).2.1 := by decide +kernel
theorem tyJx9f9b0_ok : ∀ k, k < 0 → parseFieldDescriptor (TJx9f9b0 k).2.2.1 = some (tyJx9f9b0 k) := by decide +kernel
def RJxb160c : String := "java/lang/Comparable"
def TJxb160c : u_T := fun k => match k with
  | _ => ("", "", "", false)
def tyJxb160c : Nat → FieldType := fun k => match k with
  | _ => .int
abbrev wsJxb160c0 : List Cond := u_ws RJxb160c TJxb160c 0
theorem nmJxb160c : ∀ a, a < 0 → ∀ b, b < 0 → a ≠ b → (TJxb160c a).2.1 ≠ (TJxb160c b).2.1 := by decide +kernel
theorem tyJxb160c_ok : ∀ k, k < 0 → parseFieldDescriptor (TJxb160c k).2.2.1 = some (tyJxb160c k) := by decide +kernel
def RJx29ce0 : String := "java/lang/Enum"
def TJx29ce0 : u_T := fun k => match k with
  | _ => ("", "", "", false)
def tyJx29ce0 : Nat → FieldType := fun k => match k with
  | _ => .int
abbrev wsJx29ce00 : List Cond := u_ws RJx29ce0 TJx29ce0 0
theorem nmJx29ce0 : ∀ a, a < 0 → ∀ b, b < 0 → a ≠ b → (TJx29ce0 a).2.1 ≠ (TJx29ce0 b).2.1 := by decide +kernel
theorem tyJx29ce0_ok : ∀ k, k < 0 → parseFieldDescriptor (TJx29ce0 k).2.2.1 = some (tyJx29ce0 k) := by decide +kernel
def RJ6 : String := "java/lang/Integer"
def TJ6 : u_T := fun k => match k with
  | _ => ("", "", "", false)
def tyJ6 : Nat → FieldType := fun k => match k with
  | _ => .int
abbrev wsJ60 : List Cond := u_ws RJ6 TJ6 0
theorem nmJ6 : ∀ a, a < 0 → ∀ b, b < 0 → a ≠ b → (TJ6 a).2.1 ≠ (TJ6 b).2.1 := by decide +kernel
theorem tyJ6_ok : ∀ k, k < 0 → parseFieldDescriptor (TJ6 k).2.2.1 = some (tyJ6 k) := by decide +kernel
abbrev cJ6_bitCount_0f7a4 : ByteArray := prog_14_method_49_code
def yJ6_bitCount_0f7a4 : MethodName := ⟨RJ6, "bitCount", "(I)I"⟩
def RJ13 : String := "java/lang/Long"
def TJ13 : u_T := fun k => match k with
  | _ => ("", "", "", false)
def tyJ13 : Nat → FieldType := fun k => match k with
  | _ => .int
abbrev wsJ130 : List Cond := u_ws RJ13 TJ13 0
theorem nmJ13 : ∀ a, a < 0 → ∀ b, b < 0 → a ≠ b → (TJ13 a).2.1 ≠ (TJ13 b).2.1 := by decide +kernel
theorem tyJ13_ok : ∀ k, k < 0 → parseFieldDescriptor (TJ13 k).2.2.1 = some (tyJ13 k) := by decide +kernel
abbrev cJ13_bitCount_95d88 : ByteArray := prog_15_method_50_code
def yJ13_bitCount_95d88 : MethodName := ⟨RJ13, "bitCount", "(J)I"⟩
def RJ9 : String := "java/lang/Math"
def TJ9 : u_T := fun k => match k with
  | _ => ("", "", "", false)
def tyJ9 : Nat → FieldType := fun k => match k with
  | _ => .int
abbrev wsJ90 : List Cond := u_ws RJ9 TJ9 0
theorem nmJ9 : ∀ a, a < 0 → ∀ b, b < 0 → a ≠ b → (TJ9 a).2.1 ≠ (TJ9 b).2.1 := by decide +kernel
theorem tyJ9_ok : ∀ k, k < 0 → parseFieldDescriptor (TJ9 k).2.2.1 = some (tyJ9 k) := by decide +kernel
abbrev cJ9_abs_0f7a4 : ByteArray := prog_16_method_59_code
def yJ9_abs_0f7a4 : MethodName := ⟨RJ9, "abs", "(I)I"⟩
abbrev cJ9_max_7cf53 : ByteArray := prog_16_method_65_code
def yJ9_max_7cf53 : MethodName := ⟨RJ9, "max", "(II)I"⟩
def RJ0 : String := "java/lang/String"
def TJ0 : u_T := fun k => match k with
  | _ => ("", "", "", false)
def tyJ0 : Nat → FieldType := fun k => match k with
  | _ => .int
abbrev wsJ00 : List Cond := u_ws RJ0 TJ0 0
theorem nmJ0 : ∀ a, a < 0 → ∀ b, b < 0 → a ≠ b → (TJ0 a).2.1 ≠ (TJ0 b).2.1 := by decide +kernel
theorem tyJ0_ok : ∀ k, k < 0 → parseFieldDescriptor (TJ0 k).2.2.1 = some (tyJ0 k) := by decide +kernel
abbrev cJ0_length_8abf5 : ByteArray := prog_17_method_54_code
def yJ0_length_8abf5 : MethodName := ⟨RJ0, "length", "()I"⟩
abbrev cJ0_charAt_5068e : ByteArray := prog_17_method_56_code
def yJ0_charAt_5068e : MethodName := ⟨RJ0, "charAt", "(I)C"⟩
abbrev cJ0_coder_7d493 : ByteArray := prog_17_method_152_code
def yJ0_coder_7d493 : MethodName := ⟨RJ0, "coder", "()B"⟩
abbrev cJ0_isLatin1_aae02 : ByteArray := prog_17_method_154_code
def yJ0_isLatin1_aae02 : MethodName := ⟨RJ0, "isLatin1", "()Z"⟩
abbrev cJ0_checkIndex_df160 : ByteArray := prog_17_method_155_code
def yJ0_checkIndex_df160 : MethodName := ⟨RJ0, "checkIndex", "(II)V"⟩
def RJ1 : String := "java/lang/StringLatin1"
def TJ1 : u_T := fun k => match k with
  | _ => ("", "", "", false)
def tyJ1 : Nat → FieldType := fun k => match k with
  | _ => .int
abbrev wsJ10 : List Cond := u_ws RJ1 TJ1 0
theorem nmJ1 : ∀ a, a < 0 → ∀ b, b < 0 → a ≠ b → (TJ1 a).2.1 ≠ (TJ1 b).2.1 := by decide +kernel
theorem tyJ1_ok : ∀ k, k < 0 → parseFieldDescriptor (TJ1 k).2.2.1 = some (tyJ1 k) := by decide +kernel
abbrev cJ1_charAt_3b067 : ByteArray := prog_18_method_2_code
def yJ1_charAt_3b067 : MethodName := ⟨RJ1, "charAt", "([BI)C"⟩
def RJ2 : String := "java/lang/StringUTF16"
def TJ2 : u_T := fun k => match k with
  | _ => ("", "", "", false)
def tyJ2 : Nat → FieldType := fun k => match k with
  | _ => .int
abbrev wsJ20 : List Cond := u_ws RJ2 TJ2 0
theorem nmJ2 : ∀ a, a < 0 → ∀ b, b < 0 → a ≠ b → (TJ2 a).2.1 ≠ (TJ2 b).2.1 := by decide +kernel
theorem tyJ2_ok : ∀ k, k < 0 → parseFieldDescriptor (TJ2 k).2.2.1 = some (tyJ2 k) := by decide +kernel
abbrev cJ2_getChar_3b067 : ByteArray := prog_19_method_5_code
def yJ2_getChar_3b067 : MethodName := ⟨RJ2, "getChar", "([BI)C"⟩
abbrev cJ2_length_9d52b : ByteArray := prog_19_method_6_code
def yJ2_length_9d52b : MethodName := ⟨RJ2, "length", "([B)I"⟩
abbrev cJ2_charAt_3b067 : ByteArray := prog_19_method_83_code
def yJ2_charAt_3b067 : MethodName := ⟨RJ2, "charAt", "([BI)C"⟩
abbrev cJ2_checkIndex_2214a : ByteArray := prog_19_method_91_code
def yJ2_checkIndex_2214a : MethodName := ⟨RJ2, "checkIndex", "(I[B)V"⟩
def RJ10 : String := "java/lang/System"
def TJ10 : u_T := fun k => match k with
  | _ => ("", "", "", false)
def tyJ10 : Nat → FieldType := fun k => match k with
  | _ => .int
abbrev wsJ100 : List Cond := u_ws RJ10 TJ10 0
theorem nmJ10 : ∀ a, a < 0 → ∀ b, b < 0 → a ≠ b → (TJ10 a).2.1 ≠ (TJ10 b).2.1 := by decide +kernel
theorem tyJ10_ok : ∀ k, k < 0 → parseFieldDescriptor (TJ10 k).2.2.1 = some (tyJ10 k) := by decide +kernel
def RJxfd54e : String := "java/lang/constant/Constable"
def TJxfd54e : u_T := fun k => match k with
  | _ => ("", "", "", false)
def tyJxfd54e : Nat → FieldType := fun k => match k with
  | _ => .int
abbrev wsJxfd54e0 : List Cond := u_ws RJxfd54e TJxfd54e 0
theorem nmJxfd54e : ∀ a, a < 0 → ∀ b, b < 0 → a ≠ b → (TJxfd54e a).2.1 ≠ (TJxfd54e b).2.1 := by decide +kernel
theorem tyJxfd54e_ok : ∀ k, k < 0 → parseFieldDescriptor (TJxfd54e k).2.2.1 = some (tyJxfd54e k) := by decide +kernel
def RJx3cf43 : String := "java/lang/constant/ConstantDesc"
def TJx3cf43 : u_T := fun k => match k with
  | _ => ("", "", "", false)
def tyJx3cf43 : Nat → FieldType := fun k => match k with
  | _ => .int
abbrev wsJx3cf430 : List Cond := u_ws RJx3cf43 TJx3cf43 0
theorem nmJx3cf43 : ∀ a, a < 0 → ∀ b, b < 0 → a ≠ b → (TJx3cf43 a).2.1 ≠ (TJx3cf43 b).2.1 := by decide +kernel
theorem tyJx3cf43_ok : ∀ k, k < 0 → parseFieldDescriptor (TJx3cf43 k).2.2.1 = some (tyJx3cf43 k) := by decide +kernel
def RJ7 : String := "java/util/Arrays"
def TJ7 : u_T := fun k => match k with
  | _ => ("", "", "", false)
def tyJ7 : Nat → FieldType := fun k => match k with
  | _ => .int
abbrev wsJ70 : List Cond := u_ws RJ7 TJ7 0
theorem nmJ7 : ∀ a, a < 0 → ∀ b, b < 0 → a ≠ b → (TJ7 a).2.1 ≠ (TJ7 b).2.1 := by decide +kernel
theorem tyJ7_ok : ∀ k, k < 0 → parseFieldDescriptor (TJ7 k).2.2.1 = some (tyJ7 k) := by decide +kernel
abbrev cJ7_fill_53178 : ByteArray := prog_21_method_103_code
def yJ7_fill_53178 : MethodName := ⟨RJ7, "fill", "([II)V"⟩
def RJ3 : String := "jdk/internal/util/Preconditions"
def TJ3 : u_T := fun k => match k with
  | _ => ("", "", "", false)
def tyJ3 : Nat → FieldType := fun k => match k with
  | _ => .int
abbrev wsJ30 : List Cond := u_ws RJ3 TJ3 0
theorem nmJ3 : ∀ a, a < 0 → ∀ b, b < 0 → a ≠ b → (TJ3 a).2.1 ≠ (TJ3 b).2.1 := by decide +kernel
theorem tyJ3_ok : ∀ k, k < 0 → parseFieldDescriptor (TJ3 k).2.2.1 = some (tyJ3 k) := by decide +kernel
abbrev cJ3_checkIndex_8e157 : ByteArray := prog_22_method_11_code
def yJ3_checkIndex_8e157 : MethodName := ⟨RJ3, "checkIndex", "(IILjava/util/function/BiFunction;)I"⟩
def RL : String := "CrossTableLaw"
abbrev cL_law : ByteArray := code
def yL_law : MethodName := ⟨RL, "law", "([I)Z"⟩
abbrev vwCl : List vw_C := [(RX0, TX0, 5), (RX1, TX1, 2), (RX2, TX2, 4), (RX3, TX3, 4), (RX6, TX6, 5), (RX7, TX7, 2), (RX8, TX8, 4), (RX9, TX9, 11), (RX10, TX10, 30)]
end
section
theorem dX0_init_0 : decode cX0_init 0 = .ok (.aload_n 0, 1) := by decide +kernel
theorem dX0_init_1 : decode cX0_init 1 = .ok (.invokespecial 3, 3) := by decide +kernel
theorem dX0_init_4 : decode cX0_init 4 = .ok (.return_, 1) := by decide +kernel
theorem dX0_tell_0 : decode cX0_tell 0 = .ok (.aload_n 0, 1) := by decide +kernel
theorem dX0_tell_1 : decode cX0_tell 1 = .ok (.iload_n 1, 1) := by decide +kernel
theorem dX0_tell_2 : decode cX0_tell 2 = .ok (.putfield 9, 3) := by decide +kernel
theorem dX0_tell_5 : decode cX0_tell 5 = .ok (.aload_n 0, 1) := by decide +kernel
theorem dX0_tell_6 : decode cX0_tell 6 = .ok (.iload_n 2, 1) := by decide +kernel
theorem dX0_tell_7 : decode cX0_tell 7 = .ok (.putfield 15, 3) := by decide +kernel
theorem dX0_tell_10 : decode cX0_tell 10 = .ok (.aload_n 0, 1) := by decide +kernel
theorem dX0_tell_11 : decode cX0_tell 11 = .ok (.iload_n 3, 1) := by decide +kernel
theorem dX0_tell_12 : decode cX0_tell 12 = .ok (.putfield 18, 3) := by decide +kernel
theorem dX0_tell_15 : decode cX0_tell 15 = .ok (.aload_n 0, 1) := by decide +kernel
theorem dX0_tell_16 : decode cX0_tell 16 = .ok (.iload 4, 2) := by decide +kernel
theorem dX0_tell_18 : decode cX0_tell 18 = .ok (.putfield 21, 3) := by decide +kernel
theorem dX0_tell_21 : decode cX0_tell 21 = .ok (.aload_n 0, 1) := by decide +kernel
theorem dX0_tell_22 : decode cX0_tell 22 = .ok (.iload 5, 2) := by decide +kernel
theorem dX0_tell_24 : decode cX0_tell 24 = .ok (.putfield 24, 3) := by decide +kernel
theorem dX0_tell_27 : decode cX0_tell 27 = .ok (.return_, 1) := by decide +kernel
theorem dX0_takeBack_0 : decode cX0_takeBack 0 = .ok (.aload_n 0, 1) := by decide +kernel
theorem dX0_takeBack_1 : decode cX0_takeBack 1 = .ok (.getfield 9, 3) := by decide +kernel
theorem dX0_takeBack_4 : decode cX0_takeBack 4 = .ok (.ifCond .ne 14, 3) := by decide +kernel
theorem dX0_takeBack_7 : decode cX0_takeBack 7 = .ok (.aload_n 1, 1) := by decide +kernel
theorem dX0_takeBack_8 : decode cX0_takeBack 8 = .ok (.aload_n 0, 1) := by decide +kernel
theorem dX0_takeBack_9 : decode cX0_takeBack 9 = .ok (.getfield 15, 3) := by decide +kernel
theorem dX0_takeBack_12 : decode cX0_takeBack 12 = .ok (.invokevirtual 27, 3) := by decide +kernel
theorem dX0_takeBack_15 : decode cX0_takeBack 15 = .ok (.goto 58, 3) := by decide +kernel
theorem dX0_takeBack_18 : decode cX0_takeBack 18 = .ok (.aload_n 0, 1) := by decide +kernel
theorem dX0_takeBack_19 : decode cX0_takeBack 19 = .ok (.getfield 9, 3) := by decide +kernel
theorem dX0_takeBack_22 : decode cX0_takeBack 22 = .ok (.iconst 1, 1) := by decide +kernel
theorem dX0_takeBack_23 : decode cX0_takeBack 23 = .ok (.if_icmp .ne 26, 3) := by decide +kernel
theorem dX0_takeBack_26 : decode cX0_takeBack 26 = .ok (.aload_n 1, 1) := by decide +kernel
theorem dX0_takeBack_27 : decode cX0_takeBack 27 = .ok (.aload_n 0, 1) := by decide +kernel
theorem dX0_takeBack_28 : decode cX0_takeBack 28 = .ok (.getfield 15, 3) := by decide +kernel
theorem dX0_takeBack_31 : decode cX0_takeBack 31 = .ok (.aload_n 0, 1) := by decide +kernel
theorem dX0_takeBack_32 : decode cX0_takeBack 32 = .ok (.getfield 18, 3) := by decide +kernel
theorem dX0_takeBack_35 : decode cX0_takeBack 35 = .ok (.aload_n 0, 1) := by decide +kernel
theorem dX0_takeBack_36 : decode cX0_takeBack 36 = .ok (.getfield 21, 3) := by decide +kernel
theorem dX0_takeBack_39 : decode cX0_takeBack 39 = .ok (.aload_n 0, 1) := by decide +kernel
theorem dX0_takeBack_40 : decode cX0_takeBack 40 = .ok (.getfield 24, 3) := by decide +kernel
theorem dX0_takeBack_43 : decode cX0_takeBack 43 = .ok (.invokevirtual 33, 3) := by decide +kernel
theorem dX0_takeBack_46 : decode cX0_takeBack 46 = .ok (.goto 27, 3) := by decide +kernel
theorem dX0_takeBack_49 : decode cX0_takeBack 49 = .ok (.aload_n 1, 1) := by decide +kernel
theorem dX0_takeBack_50 : decode cX0_takeBack 50 = .ok (.aload_n 0, 1) := by decide +kernel
theorem dX0_takeBack_51 : decode cX0_takeBack 51 = .ok (.getfield 15, 3) := by decide +kernel
theorem dX0_takeBack_54 : decode cX0_takeBack 54 = .ok (.invokevirtual 37, 3) := by decide +kernel
theorem dX0_takeBack_57 : decode cX0_takeBack 57 = .ok (.ifCond .eq 16, 3) := by decide +kernel
theorem dX0_takeBack_60 : decode cX0_takeBack 60 = .ok (.aload_n 1, 1) := by decide +kernel
theorem dX0_takeBack_61 : decode cX0_takeBack 61 = .ok (.getfield 41, 3) := by decide +kernel
theorem dX0_takeBack_64 : decode cX0_takeBack 64 = .ok (.aload_n 0, 1) := by decide +kernel
theorem dX0_takeBack_65 : decode cX0_takeBack 65 = .ok (.getfield 15, 3) := by decide +kernel
theorem dX0_takeBack_68 : decode cX0_takeBack 68 = .ok (.aload_n 0, 1) := by decide +kernel
theorem dX0_takeBack_69 : decode cX0_takeBack 69 = .ok (.getfield 24, 3) := by decide +kernel
theorem dX0_takeBack_72 : decode cX0_takeBack 72 = .ok (.iastore, 1) := by decide +kernel
theorem dX0_takeBack_73 : decode cX0_takeBack 73 = .ok (.return_, 1) := by decide +kernel
theorem dX1_init_0 : decode cX1_init 0 = .ok (.aload_n 0, 1) := by decide +kernel
theorem dX1_init_1 : decode cX1_init 1 = .ok (.invokespecial 3, 3) := by decide +kernel
theorem dX1_init_4 : decode cX1_init 4 = .ok (.aload_n 0, 1) := by decide +kernel
theorem dX1_init_5 : decode cX1_init 5 = .ok (.bipush 14, 2) := by decide +kernel
theorem dX1_init_7 : decode cX1_init 7 = .ok (.anewarray 9, 3) := by decide +kernel
theorem dX1_init_10 : decode cX1_init 10 = .ok (.putfield 11, 3) := by decide +kernel
theorem dX1_init_13 : decode cX1_init 13 = .ok (.aload_n 0, 1) := by decide +kernel
theorem dX1_init_14 : decode cX1_init 14 = .ok (.iconst 0, 1) := by decide +kernel
theorem dX1_init_15 : decode cX1_init 15 = .ok (.putfield 17, 3) := by decide +kernel
theorem dX1_init_18 : decode cX1_init 18 = .ok (.iconst 0, 1) := by decide +kernel
theorem dX1_init_19 : decode cX1_init 19 = .ok (.istore_n 1, 1) := by decide +kernel
theorem dX1_init_20 : decode cX1_init 20 = .ok (.iload_n 1, 1) := by decide +kernel
theorem dX1_init_21 : decode cX1_init 21 = .ok (.aload_n 0, 1) := by decide +kernel
theorem dX1_init_22 : decode cX1_init 22 = .ok (.getfield 11, 3) := by decide +kernel
theorem dX1_init_25 : decode cX1_init 25 = .ok (.arraylength, 1) := by decide +kernel
theorem dX1_init_26 : decode cX1_init 26 = .ok (.if_icmp .ge 22, 3) := by decide +kernel
theorem dX1_init_29 : decode cX1_init 29 = .ok (.aload_n 0, 1) := by decide +kernel
theorem dX1_init_30 : decode cX1_init 30 = .ok (.getfield 11, 3) := by decide +kernel
theorem dX1_init_33 : decode cX1_init 33 = .ok (.iload_n 1, 1) := by decide +kernel
theorem dX1_init_34 : decode cX1_init 34 = .ok (.new 9, 3) := by decide +kernel
theorem dX1_init_37 : decode cX1_init 37 = .ok (.dup, 1) := by decide +kernel
theorem dX1_init_38 : decode cX1_init 38 = .ok (.invokespecial 21, 3) := by decide +kernel
theorem dX1_init_41 : decode cX1_init 41 = .ok (.aastore, 1) := by decide +kernel
theorem dX1_init_42 : decode cX1_init 42 = .ok (.iinc 1 1, 3) := by decide +kernel
theorem dX1_init_45 : decode cX1_init 45 = .ok (.goto (-25), 3) := by decide +kernel
theorem dX1_init_48 : decode cX1_init 48 = .ok (.return_, 1) := by decide +kernel
theorem dX1_next_0 : decode cX1_next 0 = .ok (.aload_n 0, 1) := by decide +kernel
theorem dX1_next_1 : decode cX1_next 1 = .ok (.getfield 17, 3) := by decide +kernel
theorem dX1_next_4 : decode cX1_next 4 = .ok (.bipush 14, 2) := by decide +kernel
theorem dX1_next_6 : decode cX1_next 6 = .ok (.if_icmp .ge 25, 3) := by decide +kernel
theorem dX1_next_9 : decode cX1_next 9 = .ok (.aload_n 0, 1) := by decide +kernel
theorem dX1_next_10 : decode cX1_next 10 = .ok (.dup, 1) := by decide +kernel
theorem dX1_next_11 : decode cX1_next 11 = .ok (.getfield 17, 3) := by decide +kernel
theorem dX1_next_14 : decode cX1_next 14 = .ok (.iconst 1, 1) := by decide +kernel
theorem dX1_next_15 : decode cX1_next 15 = .ok (.iadd, 1) := by decide +kernel
theorem dX1_next_16 : decode cX1_next 16 = .ok (.putfield 17, 3) := by decide +kernel
theorem dX1_next_19 : decode cX1_next 19 = .ok (.aload_n 0, 1) := by decide +kernel
theorem dX1_next_20 : decode cX1_next 20 = .ok (.getfield 11, 3) := by decide +kernel
theorem dX1_next_23 : decode cX1_next 23 = .ok (.aload_n 0, 1) := by decide +kernel
theorem dX1_next_24 : decode cX1_next 24 = .ok (.getfield 17, 3) := by decide +kernel
theorem dX1_next_27 : decode cX1_next 27 = .ok (.iconst 1, 1) := by decide +kernel
theorem dX1_next_28 : decode cX1_next 28 = .ok (.isub, 1) := by decide +kernel
theorem dX1_next_29 : decode cX1_next 29 = .ok (.aaload, 1) := by decide +kernel
theorem dX1_next_30 : decode cX1_next 30 = .ok (.areturn, 1) := by decide +kernel
theorem dX1_next_31 : decode cX1_next 31 = .ok (.aload_n 0, 1) := by decide +kernel
theorem dX1_next_32 : decode cX1_next 32 = .ok (.getfield 11, 3) := by decide +kernel
theorem dX1_next_35 : decode cX1_next 35 = .ok (.iconst 0, 1) := by decide +kernel
theorem dX1_next_36 : decode cX1_next 36 = .ok (.aaload, 1) := by decide +kernel
theorem dX1_next_37 : decode cX1_next 37 = .ok (.astore_n 1, 1) := by decide +kernel
theorem dX1_next_38 : decode cX1_next 38 = .ok (.iconst 1, 1) := by decide +kernel
theorem dX1_next_39 : decode cX1_next 39 = .ok (.istore_n 2, 1) := by decide +kernel
theorem dX1_next_40 : decode cX1_next 40 = .ok (.iload_n 2, 1) := by decide +kernel
theorem dX1_next_41 : decode cX1_next 41 = .ok (.bipush 14, 2) := by decide +kernel
theorem dX1_next_43 : decode cX1_next 43 = .ok (.if_icmp .ge 23, 3) := by decide +kernel
theorem dX1_next_46 : decode cX1_next 46 = .ok (.aload_n 0, 1) := by decide +kernel
theorem dX1_next_47 : decode cX1_next 47 = .ok (.getfield 11, 3) := by decide +kernel
theorem dX1_next_50 : decode cX1_next 50 = .ok (.iload_n 2, 1) := by decide +kernel
theorem dX1_next_51 : decode cX1_next 51 = .ok (.iconst 1, 1) := by decide +kernel
theorem dX1_next_52 : decode cX1_next 52 = .ok (.isub, 1) := by decide +kernel
theorem dX1_next_53 : decode cX1_next 53 = .ok (.aload_n 0, 1) := by decide +kernel
theorem dX1_next_54 : decode cX1_next 54 = .ok (.getfield 11, 3) := by decide +kernel
theorem dX1_next_57 : decode cX1_next 57 = .ok (.iload_n 2, 1) := by decide +kernel
theorem dX1_next_58 : decode cX1_next 58 = .ok (.aaload, 1) := by decide +kernel
theorem dX1_next_59 : decode cX1_next 59 = .ok (.aastore, 1) := by decide +kernel
theorem dX1_next_60 : decode cX1_next 60 = .ok (.iinc 2 1, 3) := by decide +kernel
theorem dX1_next_63 : decode cX1_next 63 = .ok (.goto (-23), 3) := by decide +kernel
theorem dX1_next_66 : decode cX1_next 66 = .ok (.aload_n 0, 1) := by decide +kernel
theorem dX1_next_67 : decode cX1_next 67 = .ok (.getfield 11, 3) := by decide +kernel
theorem dX1_next_70 : decode cX1_next 70 = .ok (.bipush 13, 2) := by decide +kernel
theorem dX1_next_72 : decode cX1_next 72 = .ok (.aload_n 1, 1) := by decide +kernel
theorem dX1_next_73 : decode cX1_next 73 = .ok (.aastore, 1) := by decide +kernel
theorem dX1_next_74 : decode cX1_next 74 = .ok (.aload_n 1, 1) := by decide +kernel
theorem dX1_next_75 : decode cX1_next 75 = .ok (.areturn, 1) := by decide +kernel
theorem dX1_takeLast_0 : decode cX1_takeLast 0 = .ok (.aload_n 0, 1) := by decide +kernel
theorem dX1_takeLast_1 : decode cX1_takeLast 1 = .ok (.getfield 17, 3) := by decide +kernel
theorem dX1_takeLast_4 : decode cX1_takeLast 4 = .ok (.iconst 1, 1) := by decide +kernel
theorem dX1_takeLast_5 : decode cX1_takeLast 5 = .ok (.if_icmp .ge 5, 3) := by decide +kernel
theorem dX1_takeLast_8 : decode cX1_takeLast 8 = .ok (.aconst_null, 1) := by decide +kernel
theorem dX1_takeLast_9 : decode cX1_takeLast 9 = .ok (.areturn, 1) := by decide +kernel
theorem dX1_takeLast_10 : decode cX1_takeLast 10 = .ok (.aload_n 0, 1) := by decide +kernel
theorem dX1_takeLast_11 : decode cX1_takeLast 11 = .ok (.dup, 1) := by decide +kernel
theorem dX1_takeLast_12 : decode cX1_takeLast 12 = .ok (.getfield 17, 3) := by decide +kernel
theorem dX1_takeLast_15 : decode cX1_takeLast 15 = .ok (.iconst 1, 1) := by decide +kernel
theorem dX1_takeLast_16 : decode cX1_takeLast 16 = .ok (.isub, 1) := by decide +kernel
theorem dX1_takeLast_17 : decode cX1_takeLast 17 = .ok (.putfield 17, 3) := by decide +kernel
theorem dX1_takeLast_20 : decode cX1_takeLast 20 = .ok (.aload_n 0, 1) := by decide +kernel
theorem dX1_takeLast_21 : decode cX1_takeLast 21 = .ok (.getfield 11, 3) := by decide +kernel
theorem dX1_takeLast_24 : decode cX1_takeLast 24 = .ok (.aload_n 0, 1) := by decide +kernel
theorem dX1_takeLast_25 : decode cX1_takeLast 25 = .ok (.getfield 17, 3) := by decide +kernel
theorem dX1_takeLast_28 : decode cX1_takeLast 28 = .ok (.aaload, 1) := by decide +kernel
theorem dX1_takeLast_29 : decode cX1_takeLast 29 = .ok (.areturn, 1) := by decide +kernel
theorem dX2_init_0 : decode cX2_init 0 = .ok (.aload_n 0, 1) := by decide +kernel
theorem dX2_init_1 : decode cX2_init 1 = .ok (.invokespecial 3, 3) := by decide +kernel
theorem dX2_init_4 : decode cX2_init 4 = .ok (.aload_n 0, 1) := by decide +kernel
theorem dX2_init_5 : decode cX2_init 5 = .ok (.bipush 21, 2) := by decide +kernel
theorem dX2_init_7 : decode cX2_init 7 = .ok (.newarray .int, 2) := by decide +kernel
theorem dX2_init_9 : decode cX2_init 9 = .ok (.putfield 9, 3) := by decide +kernel
theorem dX2_init_12 : decode cX2_init 12 = .ok (.aload_n 0, 1) := by decide +kernel
theorem dX2_init_13 : decode cX2_init 13 = .ok (.bipush 21, 2) := by decide +kernel
theorem dX2_init_15 : decode cX2_init 15 = .ok (.newarray .int, 2) := by decide +kernel
theorem dX2_init_17 : decode cX2_init 17 = .ok (.putfield 15, 3) := by decide +kernel
theorem dX2_init_20 : decode cX2_init 20 = .ok (.aload_n 0, 1) := by decide +kernel
theorem dX2_init_21 : decode cX2_init 21 = .ok (.bipush 21, 2) := by decide +kernel
theorem dX2_init_23 : decode cX2_init 23 = .ok (.newarray .int, 2) := by decide +kernel
theorem dX2_init_25 : decode cX2_init 25 = .ok (.putfield 18, 3) := by decide +kernel
theorem dX2_init_28 : decode cX2_init 28 = .ok (.aload_n 0, 1) := by decide +kernel
theorem dX2_init_29 : decode cX2_init 29 = .ok (.iconst 0, 1) := by decide +kernel
theorem dX2_init_30 : decode cX2_init 30 = .ok (.putfield 21, 3) := by decide +kernel
theorem dX2_init_33 : decode cX2_init 33 = .ok (.return_, 1) := by decide +kernel
theorem dX2_has_0 : decode cX2_has 0 = .ok (.iload_n 1, 1) := by decide +kernel
theorem dX2_has_1 : decode cX2_has 1 = .ok (.ifCond .lt 15, 3) := by decide +kernel
theorem dX2_has_4 : decode cX2_has 4 = .ok (.iload_n 1, 1) := by decide +kernel
theorem dX2_has_5 : decode cX2_has 5 = .ok (.aload_n 0, 1) := by decide +kernel
theorem dX2_has_6 : decode cX2_has 6 = .ok (.getfield 21, 3) := by decide +kernel
theorem dX2_has_9 : decode cX2_has 9 = .ok (.if_icmp .ge 7, 3) := by decide +kernel
theorem dX2_has_12 : decode cX2_has 12 = .ok (.iconst 1, 1) := by decide +kernel
theorem dX2_has_13 : decode cX2_has 13 = .ok (.goto 4, 3) := by decide +kernel
theorem dX2_has_16 : decode cX2_has 16 = .ok (.iconst 0, 1) := by decide +kernel
theorem dX2_has_17 : decode cX2_has 17 = .ok (.ireturn, 1) := by decide +kernel
theorem dX2_gather_0 : decode cX2_gather 0 = .ok (.aload_n 0, 1) := by decide +kernel
theorem dX2_gather_1 : decode cX2_gather 1 = .ok (.getfield 15, 3) := by decide +kernel
theorem dX2_gather_4 : decode cX2_gather 4 = .ok (.iconst 0, 1) := by decide +kernel
theorem dX2_gather_5 : decode cX2_gather 5 = .ok (.invokestatic 25, 3) := by decide +kernel
theorem dX2_gather_8 : decode cX2_gather 8 = .ok (.iconst 0, 1) := by decide +kernel
theorem dX2_gather_9 : decode cX2_gather 9 = .ok (.istore 4, 2) := by decide +kernel
theorem dX2_gather_11 : decode cX2_gather 11 = .ok (.iload 4, 2) := by decide +kernel
theorem dX2_gather_13 : decode cX2_gather 13 = .ok (.aload_n 1, 1) := by decide +kernel
theorem dX2_gather_14 : decode cX2_gather 14 = .ok (.getfield 31, 3) := by decide +kernel
theorem dX2_gather_17 : decode cX2_gather 17 = .ok (.if_icmp .ge 48, 3) := by decide +kernel
theorem dX2_gather_20 : decode cX2_gather 20 = .ok (.aload_n 2, 1) := by decide +kernel
theorem dX2_gather_21 : decode cX2_gather 21 = .ok (.aload_n 1, 1) := by decide +kernel
theorem dX2_gather_22 : decode cX2_gather 22 = .ok (.iload 4, 2) := by decide +kernel
theorem dX2_gather_24 : decode cX2_gather 24 = .ok (.iload_n 3, 1) := by decide +kernel
theorem dX2_gather_25 : decode cX2_gather 25 = .ok (.invokevirtual 34, 3) := by decide +kernel
theorem dX2_gather_28 : decode cX2_gather 28 = .ok (.istore 5, 2) := by decide +kernel
theorem dX2_gather_30 : decode cX2_gather 30 = .ok (.iload 5, 2) := by decide +kernel
theorem dX2_gather_32 : decode cX2_gather 32 = .ok (.ifCond .lt 27, 3) := by decide +kernel
theorem dX2_gather_35 : decode cX2_gather 35 = .ok (.iload 5, 2) := by decide +kernel
theorem dX2_gather_37 : decode cX2_gather 37 = .ok (.aload_n 0, 1) := by decide +kernel
theorem dX2_gather_38 : decode cX2_gather 38 = .ok (.getfield 15, 3) := by decide +kernel
theorem dX2_gather_41 : decode cX2_gather 41 = .ok (.arraylength, 1) := by decide +kernel
theorem dX2_gather_42 : decode cX2_gather 42 = .ok (.if_icmp .ge 17, 3) := by decide +kernel
theorem dX2_gather_45 : decode cX2_gather 45 = .ok (.aload_n 0, 1) := by decide +kernel
theorem dX2_gather_46 : decode cX2_gather 46 = .ok (.getfield 15, 3) := by decide +kernel
theorem dX2_gather_49 : decode cX2_gather 49 = .ok (.iload 5, 2) := by decide +kernel
theorem dX2_gather_51 : decode cX2_gather 51 = .ok (.dup2, 1) := by decide +kernel
theorem dX2_gather_52 : decode cX2_gather 52 = .ok (.iaload, 1) := by decide +kernel
theorem dX2_gather_53 : decode cX2_gather 53 = .ok (.iconst 1, 1) := by decide +kernel
theorem dX2_gather_54 : decode cX2_gather 54 = .ok (.iload 4, 2) := by decide +kernel
theorem dX2_gather_56 : decode cX2_gather 56 = .ok (.ishl, 1) := by decide +kernel
theorem dX2_gather_57 : decode cX2_gather 57 = .ok (.ior, 1) := by decide +kernel
theorem dX2_gather_58 : decode cX2_gather 58 = .ok (.iastore, 1) := by decide +kernel
theorem dX2_gather_59 : decode cX2_gather 59 = .ok (.iinc 4 1, 3) := by decide +kernel
theorem dX2_gather_62 : decode cX2_gather 62 = .ok (.goto (-51), 3) := by decide +kernel
theorem dX2_gather_65 : decode cX2_gather 65 = .ok (.aload_n 0, 1) := by decide +kernel
theorem dX2_gather_66 : decode cX2_gather 66 = .ok (.iconst 0, 1) := by decide +kernel
theorem dX2_gather_67 : decode cX2_gather 67 = .ok (.putfield 21, 3) := by decide +kernel
theorem dX2_gather_70 : decode cX2_gather 70 = .ok (.iconst 0, 1) := by decide +kernel
theorem dX2_gather_71 : decode cX2_gather 71 = .ok (.istore 4, 2) := by decide +kernel
theorem dX2_gather_73 : decode cX2_gather 73 = .ok (.iload 4, 2) := by decide +kernel
theorem dX2_gather_75 : decode cX2_gather 75 = .ok (.aload_n 0, 1) := by decide +kernel
theorem dX2_gather_76 : decode cX2_gather 76 = .ok (.getfield 15, 3) := by decide +kernel
theorem dX2_gather_79 : decode cX2_gather 79 = .ok (.arraylength, 1) := by decide +kernel
theorem dX2_gather_80 : decode cX2_gather 80 = .ok (.if_icmp .ge 56, 3) := by decide +kernel
theorem dX2_gather_83 : decode cX2_gather 83 = .ok (.aload_n 0, 1) := by decide +kernel
theorem dX2_gather_84 : decode cX2_gather 84 = .ok (.getfield 15, 3) := by decide +kernel
theorem dX2_gather_87 : decode cX2_gather 87 = .ok (.iload 4, 2) := by decide +kernel
theorem dX2_gather_89 : decode cX2_gather 89 = .ok (.iaload, 1) := by decide +kernel
theorem dX2_gather_90 : decode cX2_gather 90 = .ok (.ifCond .eq 40, 3) := by decide +kernel
theorem dX2_gather_93 : decode cX2_gather 93 = .ok (.aload_n 0, 1) := by decide +kernel
theorem dX2_gather_94 : decode cX2_gather 94 = .ok (.getfield 9, 3) := by decide +kernel
theorem dX2_gather_97 : decode cX2_gather 97 = .ok (.aload_n 0, 1) := by decide +kernel
theorem dX2_gather_98 : decode cX2_gather 98 = .ok (.getfield 21, 3) := by decide +kernel
theorem dX2_gather_101 : decode cX2_gather 101 = .ok (.iload 4, 2) := by decide +kernel
theorem dX2_gather_103 : decode cX2_gather 103 = .ok (.iastore, 1) := by decide +kernel
theorem dX2_gather_104 : decode cX2_gather 104 = .ok (.aload_n 0, 1) := by decide +kernel
theorem dX2_gather_105 : decode cX2_gather 105 = .ok (.getfield 15, 3) := by decide +kernel
theorem dX2_gather_108 : decode cX2_gather 108 = .ok (.aload_n 0, 1) := by decide +kernel
theorem dX2_gather_109 : decode cX2_gather 109 = .ok (.getfield 21, 3) := by decide +kernel
theorem dX2_gather_112 : decode cX2_gather 112 = .ok (.aload_n 0, 1) := by decide +kernel
theorem dX2_gather_113 : decode cX2_gather 113 = .ok (.getfield 15, 3) := by decide +kernel
theorem dX2_gather_116 : decode cX2_gather 116 = .ok (.iload 4, 2) := by decide +kernel
theorem dX2_gather_118 : decode cX2_gather 118 = .ok (.iaload, 1) := by decide +kernel
theorem dX2_gather_119 : decode cX2_gather 119 = .ok (.iastore, 1) := by decide +kernel
theorem dX2_gather_120 : decode cX2_gather 120 = .ok (.aload_n 0, 1) := by decide +kernel
theorem dX2_gather_121 : decode cX2_gather 121 = .ok (.dup, 1) := by decide +kernel
theorem dX2_gather_122 : decode cX2_gather 122 = .ok (.getfield 21, 3) := by decide +kernel
theorem dX2_gather_125 : decode cX2_gather 125 = .ok (.iconst 1, 1) := by decide +kernel
theorem dX2_gather_126 : decode cX2_gather 126 = .ok (.iadd, 1) := by decide +kernel
theorem dX2_gather_127 : decode cX2_gather 127 = .ok (.putfield 21, 3) := by decide +kernel
theorem dX2_gather_130 : decode cX2_gather 130 = .ok (.iinc 4 1, 3) := by decide +kernel
theorem dX2_gather_133 : decode cX2_gather 133 = .ok (.goto (-60), 3) := by decide +kernel
theorem dX2_gather_136 : decode cX2_gather 136 = .ok (.return_, 1) := by decide +kernel
theorem dX2_foldRest_0 : decode cX2_foldRest 0 = .ok (.iload_n 3, 1) := by decide +kernel
theorem dX2_foldRest_1 : decode cX2_foldRest 1 = .ok (.iconst 1, 1) := by decide +kernel
theorem dX2_foldRest_2 : decode cX2_foldRest 2 = .ok (.if_icmp .lt 11, 3) := by decide +kernel
theorem dX2_foldRest_5 : decode cX2_foldRest 5 = .ok (.aload_n 0, 1) := by decide +kernel
theorem dX2_foldRest_6 : decode cX2_foldRest 6 = .ok (.getfield 21, 3) := by decide +kernel
theorem dX2_foldRest_9 : decode cX2_foldRest 9 = .ok (.iload_n 3, 1) := by decide +kernel
theorem dX2_foldRest_10 : decode cX2_foldRest 10 = .ok (.if_icmp .gt 4, 3) := by decide +kernel
theorem dX2_foldRest_13 : decode cX2_foldRest 13 = .ok (.return_, 1) := by decide +kernel
theorem dX2_foldRest_14 : decode cX2_foldRest 14 = .ok (.iconst 0, 1) := by decide +kernel
theorem dX2_foldRest_15 : decode cX2_foldRest 15 = .ok (.istore 4, 2) := by decide +kernel
theorem dX2_foldRest_17 : decode cX2_foldRest 17 = .ok (.iload 4, 2) := by decide +kernel
theorem dX2_foldRest_19 : decode cX2_foldRest 19 = .ok (.aload_n 0, 1) := by decide +kernel
theorem dX2_foldRest_20 : decode cX2_foldRest 20 = .ok (.getfield 21, 3) := by decide +kernel
theorem dX2_foldRest_23 : decode cX2_foldRest 23 = .ok (.if_icmp .ge 28, 3) := by decide +kernel
theorem dX2_foldRest_26 : decode cX2_foldRest 26 = .ok (.aload_n 0, 1) := by decide +kernel
theorem dX2_foldRest_27 : decode cX2_foldRest 27 = .ok (.getfield 18, 3) := by decide +kernel
theorem dX2_foldRest_30 : decode cX2_foldRest 30 = .ok (.iload 4, 2) := by decide +kernel
theorem dX2_foldRest_32 : decode cX2_foldRest 32 = .ok (.aload_n 2, 1) := by decide +kernel
theorem dX2_foldRest_33 : decode cX2_foldRest 33 = .ok (.aload_n 1, 1) := by decide +kernel
theorem dX2_foldRest_34 : decode cX2_foldRest 34 = .ok (.aload_n 0, 1) := by decide +kernel
theorem dX2_foldRest_35 : decode cX2_foldRest 35 = .ok (.getfield 15, 3) := by decide +kernel
theorem dX2_foldRest_38 : decode cX2_foldRest 38 = .ok (.iload 4, 2) := by decide +kernel
theorem dX2_foldRest_40 : decode cX2_foldRest 40 = .ok (.iaload, 1) := by decide +kernel
theorem dX2_foldRest_41 : decode cX2_foldRest 41 = .ok (.invokevirtual 40, 3) := by decide +kernel
theorem dX2_foldRest_44 : decode cX2_foldRest 44 = .ok (.iastore, 1) := by decide +kernel
theorem dX2_foldRest_45 : decode cX2_foldRest 45 = .ok (.iinc 4 1, 3) := by decide +kernel
theorem dX2_foldRest_48 : decode cX2_foldRest 48 = .ok (.goto (-31), 3) := by decide +kernel
theorem dX2_foldRest_51 : decode cX2_foldRest 51 = .ok (.iconst 0, 1) := by decide +kernel
theorem dX2_foldRest_52 : decode cX2_foldRest 52 = .ok (.istore 4, 2) := by decide +kernel
theorem dX2_foldRest_54 : decode cX2_foldRest 54 = .ok (.iconst 0, 1) := by decide +kernel
theorem dX2_foldRest_55 : decode cX2_foldRest 55 = .ok (.istore 5, 2) := by decide +kernel
theorem dX2_foldRest_57 : decode cX2_foldRest 57 = .ok (.iload 5, 2) := by decide +kernel
theorem dX2_foldRest_59 : decode cX2_foldRest 59 = .ok (.iload_n 3, 1) := by decide +kernel
theorem dX2_foldRest_60 : decode cX2_foldRest 60 = .ok (.if_icmp .ge 22, 3) := by decide +kernel
theorem dX2_foldRest_63 : decode cX2_foldRest 63 = .ok (.iload 4, 2) := by decide +kernel
theorem dX2_foldRest_65 : decode cX2_foldRest 65 = .ok (.iconst 1, 1) := by decide +kernel
theorem dX2_foldRest_66 : decode cX2_foldRest 66 = .ok (.aload_n 0, 1) := by decide +kernel
theorem dX2_foldRest_67 : decode cX2_foldRest 67 = .ok (.iload 4, 2) := by decide +kernel
theorem dX2_foldRest_69 : decode cX2_foldRest 69 = .ok (.invokevirtual 46, 3) := by decide +kernel
theorem dX2_foldRest_72 : decode cX2_foldRest 72 = .ok (.ishl, 1) := by decide +kernel
theorem dX2_foldRest_73 : decode cX2_foldRest 73 = .ok (.ior, 1) := by decide +kernel
theorem dX2_foldRest_74 : decode cX2_foldRest 74 = .ok (.istore 4, 2) := by decide +kernel
theorem dX2_foldRest_76 : decode cX2_foldRest 76 = .ok (.iinc 5 1, 3) := by decide +kernel
theorem dX2_foldRest_79 : decode cX2_foldRest 79 = .ok (.goto (-22), 3) := by decide +kernel
theorem dX2_foldRest_82 : decode cX2_foldRest 82 = .ok (.aload_n 0, 1) := by decide +kernel
theorem dX2_foldRest_83 : decode cX2_foldRest 83 = .ok (.iload 4, 2) := by decide +kernel
theorem dX2_foldRest_85 : decode cX2_foldRest 85 = .ok (.invokevirtual 50, 3) := by decide +kernel
theorem dX2_foldRest_88 : decode cX2_foldRest 88 = .ok (.return_, 1) := by decide +kernel
theorem dX2_greatestBut_0 : decode cX2_greatestBut 0 = .ok (.iconst 0, 1) := by decide +kernel
theorem dX2_greatestBut_1 : decode cX2_greatestBut 1 = .ok (.istore_n 2, 1) := by decide +kernel
theorem dX2_greatestBut_2 : decode cX2_greatestBut 2 = .ok (.iconst 0, 1) := by decide +kernel
theorem dX2_greatestBut_3 : decode cX2_greatestBut 3 = .ok (.istore_n 3, 1) := by decide +kernel
theorem dX2_greatestBut_4 : decode cX2_greatestBut 4 = .ok (.iconst 0, 1) := by decide +kernel
theorem dX2_greatestBut_5 : decode cX2_greatestBut 5 = .ok (.istore 4, 2) := by decide +kernel
theorem dX2_greatestBut_7 : decode cX2_greatestBut 7 = .ok (.iload 4, 2) := by decide +kernel
theorem dX2_greatestBut_9 : decode cX2_greatestBut 9 = .ok (.aload_n 0, 1) := by decide +kernel
theorem dX2_greatestBut_10 : decode cX2_greatestBut 10 = .ok (.getfield 21, 3) := by decide +kernel
theorem dX2_greatestBut_13 : decode cX2_greatestBut 13 = .ok (.if_icmp .ge 55, 3) := by decide +kernel
theorem dX2_greatestBut_16 : decode cX2_greatestBut 16 = .ok (.iload_n 1, 1) := by decide +kernel
theorem dX2_greatestBut_17 : decode cX2_greatestBut 17 = .ok (.iload 4, 2) := by decide +kernel
theorem dX2_greatestBut_19 : decode cX2_greatestBut 19 = .ok (.ishr, 1) := by decide +kernel
theorem dX2_greatestBut_20 : decode cX2_greatestBut 20 = .ok (.iconst 1, 1) := by decide +kernel
theorem dX2_greatestBut_21 : decode cX2_greatestBut 21 = .ok (.iand, 1) := by decide +kernel
theorem dX2_greatestBut_22 : decode cX2_greatestBut 22 = .ok (.ifCond .ne 7, 3) := by decide +kernel
theorem dX2_greatestBut_25 : decode cX2_greatestBut 25 = .ok (.iconst 1, 1) := by decide +kernel
theorem dX2_greatestBut_26 : decode cX2_greatestBut 26 = .ok (.goto 4, 3) := by decide +kernel
theorem dX2_greatestBut_29 : decode cX2_greatestBut 29 = .ok (.iconst 0, 1) := by decide +kernel
theorem dX2_greatestBut_30 : decode cX2_greatestBut 30 = .ok (.istore 5, 2) := by decide +kernel
theorem dX2_greatestBut_32 : decode cX2_greatestBut 32 = .ok (.iload 5, 2) := by decide +kernel
theorem dX2_greatestBut_34 : decode cX2_greatestBut 34 = .ok (.ifCond .eq 28, 3) := by decide +kernel
theorem dX2_greatestBut_37 : decode cX2_greatestBut 37 = .ok (.iload_n 3, 1) := by decide +kernel
theorem dX2_greatestBut_38 : decode cX2_greatestBut 38 = .ok (.ifCond .eq 19, 3) := by decide +kernel
theorem dX2_greatestBut_41 : decode cX2_greatestBut 41 = .ok (.aload_n 0, 1) := by decide +kernel
theorem dX2_greatestBut_42 : decode cX2_greatestBut 42 = .ok (.getfield 18, 3) := by decide +kernel
theorem dX2_greatestBut_45 : decode cX2_greatestBut 45 = .ok (.iload 4, 2) := by decide +kernel
theorem dX2_greatestBut_47 : decode cX2_greatestBut 47 = .ok (.iaload, 1) := by decide +kernel
theorem dX2_greatestBut_48 : decode cX2_greatestBut 48 = .ok (.aload_n 0, 1) := by decide +kernel
theorem dX2_greatestBut_49 : decode cX2_greatestBut 49 = .ok (.getfield 18, 3) := by decide +kernel
theorem dX2_greatestBut_52 : decode cX2_greatestBut 52 = .ok (.iload_n 2, 1) := by decide +kernel
theorem dX2_greatestBut_53 : decode cX2_greatestBut 53 = .ok (.iaload, 1) := by decide +kernel
theorem dX2_greatestBut_54 : decode cX2_greatestBut 54 = .ok (.if_icmp .le 8, 3) := by decide +kernel
theorem dX2_greatestBut_57 : decode cX2_greatestBut 57 = .ok (.iload 4, 2) := by decide +kernel
theorem dX2_greatestBut_59 : decode cX2_greatestBut 59 = .ok (.istore_n 2, 1) := by decide +kernel
theorem dX2_greatestBut_60 : decode cX2_greatestBut 60 = .ok (.iconst 1, 1) := by decide +kernel
theorem dX2_greatestBut_61 : decode cX2_greatestBut 61 = .ok (.istore_n 3, 1) := by decide +kernel
theorem dX2_greatestBut_62 : decode cX2_greatestBut 62 = .ok (.iinc 4 1, 3) := by decide +kernel
theorem dX2_greatestBut_65 : decode cX2_greatestBut 65 = .ok (.goto (-58), 3) := by decide +kernel
theorem dX2_greatestBut_68 : decode cX2_greatestBut 68 = .ok (.iload_n 2, 1) := by decide +kernel
theorem dX2_greatestBut_69 : decode cX2_greatestBut 69 = .ok (.ireturn, 1) := by decide +kernel
theorem dX2_closeUp_0 : decode cX2_closeUp 0 = .ok (.iconst 0, 1) := by decide +kernel
theorem dX2_closeUp_1 : decode cX2_closeUp 1 = .ok (.istore_n 2, 1) := by decide +kernel
theorem dX2_closeUp_2 : decode cX2_closeUp 2 = .ok (.iconst 0, 1) := by decide +kernel
theorem dX2_closeUp_3 : decode cX2_closeUp 3 = .ok (.istore_n 3, 1) := by decide +kernel
theorem dX2_closeUp_4 : decode cX2_closeUp 4 = .ok (.iconst 0, 1) := by decide +kernel
theorem dX2_closeUp_5 : decode cX2_closeUp 5 = .ok (.istore 4, 2) := by decide +kernel
theorem dX2_closeUp_7 : decode cX2_closeUp 7 = .ok (.iload 4, 2) := by decide +kernel
theorem dX2_closeUp_9 : decode cX2_closeUp 9 = .ok (.aload_n 0, 1) := by decide +kernel
theorem dX2_closeUp_10 : decode cX2_closeUp 10 = .ok (.getfield 21, 3) := by decide +kernel
theorem dX2_closeUp_13 : decode cX2_closeUp 13 = .ok (.if_icmp .ge 61, 3) := by decide +kernel
theorem dX2_closeUp_16 : decode cX2_closeUp 16 = .ok (.iload_n 1, 1) := by decide +kernel
theorem dX2_closeUp_17 : decode cX2_closeUp 17 = .ok (.iload 4, 2) := by decide +kernel
theorem dX2_closeUp_19 : decode cX2_closeUp 19 = .ok (.ishr, 1) := by decide +kernel
theorem dX2_closeUp_20 : decode cX2_closeUp 20 = .ok (.iconst 1, 1) := by decide +kernel
theorem dX2_closeUp_21 : decode cX2_closeUp 21 = .ok (.iand, 1) := by decide +kernel
theorem dX2_closeUp_22 : decode cX2_closeUp 22 = .ok (.iconst 1, 1) := by decide +kernel
theorem dX2_closeUp_23 : decode cX2_closeUp 23 = .ok (.if_icmp .ne 35, 3) := by decide +kernel
theorem dX2_closeUp_26 : decode cX2_closeUp 26 = .ok (.aload_n 0, 1) := by decide +kernel
theorem dX2_closeUp_27 : decode cX2_closeUp 27 = .ok (.getfield 9, 3) := by decide +kernel
theorem dX2_closeUp_30 : decode cX2_closeUp 30 = .ok (.iload_n 3, 1) := by decide +kernel
theorem dX2_closeUp_31 : decode cX2_closeUp 31 = .ok (.aload_n 0, 1) := by decide +kernel
theorem dX2_closeUp_32 : decode cX2_closeUp 32 = .ok (.getfield 9, 3) := by decide +kernel
theorem dX2_closeUp_35 : decode cX2_closeUp 35 = .ok (.iload 4, 2) := by decide +kernel
theorem dX2_closeUp_37 : decode cX2_closeUp 37 = .ok (.iaload, 1) := by decide +kernel
theorem dX2_closeUp_38 : decode cX2_closeUp 38 = .ok (.iastore, 1) := by decide +kernel
theorem dX2_closeUp_39 : decode cX2_closeUp 39 = .ok (.aload_n 0, 1) := by decide +kernel
theorem dX2_closeUp_40 : decode cX2_closeUp 40 = .ok (.getfield 15, 3) := by decide +kernel
theorem dX2_closeUp_43 : decode cX2_closeUp 43 = .ok (.iload_n 3, 1) := by decide +kernel
theorem dX2_closeUp_44 : decode cX2_closeUp 44 = .ok (.aload_n 0, 1) := by decide +kernel
theorem dX2_closeUp_45 : decode cX2_closeUp 45 = .ok (.getfield 15, 3) := by decide +kernel
theorem dX2_closeUp_48 : decode cX2_closeUp 48 = .ok (.iload 4, 2) := by decide +kernel
theorem dX2_closeUp_50 : decode cX2_closeUp 50 = .ok (.iaload, 1) := by decide +kernel
theorem dX2_closeUp_51 : decode cX2_closeUp 51 = .ok (.iastore, 1) := by decide +kernel
theorem dX2_closeUp_52 : decode cX2_closeUp 52 = .ok (.iinc 3 1, 3) := by decide +kernel
theorem dX2_closeUp_55 : decode cX2_closeUp 55 = .ok (.goto 13, 3) := by decide +kernel
theorem dX2_closeUp_58 : decode cX2_closeUp 58 = .ok (.iload_n 2, 1) := by decide +kernel
theorem dX2_closeUp_59 : decode cX2_closeUp 59 = .ok (.aload_n 0, 1) := by decide +kernel
theorem dX2_closeUp_60 : decode cX2_closeUp 60 = .ok (.getfield 15, 3) := by decide +kernel
theorem dX2_closeUp_63 : decode cX2_closeUp 63 = .ok (.iload 4, 2) := by decide +kernel
theorem dX2_closeUp_65 : decode cX2_closeUp 65 = .ok (.iaload, 1) := by decide +kernel
theorem dX2_closeUp_66 : decode cX2_closeUp 66 = .ok (.ior, 1) := by decide +kernel
theorem dX2_closeUp_67 : decode cX2_closeUp 67 = .ok (.istore_n 2, 1) := by decide +kernel
theorem dX2_closeUp_68 : decode cX2_closeUp 68 = .ok (.iinc 4 1, 3) := by decide +kernel
theorem dX2_closeUp_71 : decode cX2_closeUp 71 = .ok (.goto (-64), 3) := by decide +kernel
theorem dX2_closeUp_74 : decode cX2_closeUp 74 = .ok (.iload_n 3, 1) := by decide +kernel
theorem dX2_closeUp_75 : decode cX2_closeUp 75 = .ok (.aload_n 0, 1) := by decide +kernel
theorem dX2_closeUp_76 : decode cX2_closeUp 76 = .ok (.getfield 21, 3) := by decide +kernel
theorem dX2_closeUp_79 : decode cX2_closeUp 79 = .ok (.if_icmp .ge 25, 3) := by decide +kernel
theorem dX2_closeUp_82 : decode cX2_closeUp 82 = .ok (.aload_n 0, 1) := by decide +kernel
theorem dX2_closeUp_83 : decode cX2_closeUp 83 = .ok (.getfield 9, 3) := by decide +kernel
theorem dX2_closeUp_86 : decode cX2_closeUp 86 = .ok (.iload_n 3, 1) := by decide +kernel
theorem dX2_closeUp_87 : decode cX2_closeUp 87 = .ok (.bipush 99, 2) := by decide +kernel
theorem dX2_closeUp_89 : decode cX2_closeUp 89 = .ok (.iastore, 1) := by decide +kernel
theorem dX2_closeUp_90 : decode cX2_closeUp 90 = .ok (.aload_n 0, 1) := by decide +kernel
theorem dX2_closeUp_91 : decode cX2_closeUp 91 = .ok (.getfield 15, 3) := by decide +kernel
theorem dX2_closeUp_94 : decode cX2_closeUp 94 = .ok (.iload_n 3, 1) := by decide +kernel
theorem dX2_closeUp_95 : decode cX2_closeUp 95 = .ok (.iload_n 2, 1) := by decide +kernel
theorem dX2_closeUp_96 : decode cX2_closeUp 96 = .ok (.iastore, 1) := by decide +kernel
theorem dX2_closeUp_97 : decode cX2_closeUp 97 = .ok (.aload_n 0, 1) := by decide +kernel
theorem dX2_closeUp_98 : decode cX2_closeUp 98 = .ok (.iload_n 3, 1) := by decide +kernel
theorem dX2_closeUp_99 : decode cX2_closeUp 99 = .ok (.iconst 1, 1) := by decide +kernel
theorem dX2_closeUp_100 : decode cX2_closeUp 100 = .ok (.iadd, 1) := by decide +kernel
theorem dX2_closeUp_101 : decode cX2_closeUp 101 = .ok (.putfield 21, 3) := by decide +kernel
theorem dX2_closeUp_104 : decode cX2_closeUp 104 = .ok (.return_, 1) := by decide +kernel
theorem dX2_setOf_0 : decode cX2_setOf 0 = .ok (.iconst 0, 1) := by decide +kernel
theorem dX2_setOf_1 : decode cX2_setOf 1 = .ok (.istore_n 2, 1) := by decide +kernel
theorem dX2_setOf_2 : decode cX2_setOf 2 = .ok (.iload_n 2, 1) := by decide +kernel
theorem dX2_setOf_3 : decode cX2_setOf 3 = .ok (.aload_n 0, 1) := by decide +kernel
theorem dX2_setOf_4 : decode cX2_setOf 4 = .ok (.getfield 21, 3) := by decide +kernel
theorem dX2_setOf_7 : decode cX2_setOf 7 = .ok (.if_icmp .ge 26, 3) := by decide +kernel
theorem dX2_setOf_10 : decode cX2_setOf 10 = .ok (.aload_n 0, 1) := by decide +kernel
theorem dX2_setOf_11 : decode cX2_setOf 11 = .ok (.getfield 9, 3) := by decide +kernel
theorem dX2_setOf_14 : decode cX2_setOf 14 = .ok (.iload_n 2, 1) := by decide +kernel
theorem dX2_setOf_15 : decode cX2_setOf 15 = .ok (.iaload, 1) := by decide +kernel
theorem dX2_setOf_16 : decode cX2_setOf 16 = .ok (.iload_n 1, 1) := by decide +kernel
theorem dX2_setOf_17 : decode cX2_setOf 17 = .ok (.if_icmp .ne 10, 3) := by decide +kernel
theorem dX2_setOf_20 : decode cX2_setOf 20 = .ok (.aload_n 0, 1) := by decide +kernel
theorem dX2_setOf_21 : decode cX2_setOf 21 = .ok (.getfield 15, 3) := by decide +kernel
theorem dX2_setOf_24 : decode cX2_setOf 24 = .ok (.iload_n 2, 1) := by decide +kernel
theorem dX2_setOf_25 : decode cX2_setOf 25 = .ok (.iaload, 1) := by decide +kernel
theorem dX2_setOf_26 : decode cX2_setOf 26 = .ok (.ireturn, 1) := by decide +kernel
theorem dX2_setOf_27 : decode cX2_setOf 27 = .ok (.iinc 2 1, 3) := by decide +kernel
theorem dX2_setOf_30 : decode cX2_setOf 30 = .ok (.goto (-28), 3) := by decide +kernel
theorem dX2_setOf_33 : decode cX2_setOf 33 = .ok (.iconst 0, 1) := by decide +kernel
theorem dX2_setOf_34 : decode cX2_setOf 34 = .ok (.ireturn, 1) := by decide +kernel
theorem dX2_keyOfEntry_0 : decode cX2_keyOfEntry 0 = .ok (.iconst 0, 1) := by decide +kernel
theorem dX2_keyOfEntry_1 : decode cX2_keyOfEntry 1 = .ok (.istore_n 2, 1) := by decide +kernel
theorem dX2_keyOfEntry_2 : decode cX2_keyOfEntry 2 = .ok (.iload_n 2, 1) := by decide +kernel
theorem dX2_keyOfEntry_3 : decode cX2_keyOfEntry 3 = .ok (.aload_n 0, 1) := by decide +kernel
theorem dX2_keyOfEntry_4 : decode cX2_keyOfEntry 4 = .ok (.getfield 21, 3) := by decide +kernel
theorem dX2_keyOfEntry_7 : decode cX2_keyOfEntry 7 = .ok (.if_icmp .ge 30, 3) := by decide +kernel
theorem dX2_keyOfEntry_10 : decode cX2_keyOfEntry 10 = .ok (.aload_n 0, 1) := by decide +kernel
theorem dX2_keyOfEntry_11 : decode cX2_keyOfEntry 11 = .ok (.getfield 15, 3) := by decide +kernel
theorem dX2_keyOfEntry_14 : decode cX2_keyOfEntry 14 = .ok (.iload_n 2, 1) := by decide +kernel
theorem dX2_keyOfEntry_15 : decode cX2_keyOfEntry 15 = .ok (.iaload, 1) := by decide +kernel
theorem dX2_keyOfEntry_16 : decode cX2_keyOfEntry 16 = .ok (.iload_n 1, 1) := by decide +kernel
theorem dX2_keyOfEntry_17 : decode cX2_keyOfEntry 17 = .ok (.ishr, 1) := by decide +kernel
theorem dX2_keyOfEntry_18 : decode cX2_keyOfEntry 18 = .ok (.iconst 1, 1) := by decide +kernel
theorem dX2_keyOfEntry_19 : decode cX2_keyOfEntry 19 = .ok (.iand, 1) := by decide +kernel
theorem dX2_keyOfEntry_20 : decode cX2_keyOfEntry 20 = .ok (.iconst 1, 1) := by decide +kernel
theorem dX2_keyOfEntry_21 : decode cX2_keyOfEntry 21 = .ok (.if_icmp .ne 10, 3) := by decide +kernel
theorem dX2_keyOfEntry_24 : decode cX2_keyOfEntry 24 = .ok (.aload_n 0, 1) := by decide +kernel
theorem dX2_keyOfEntry_25 : decode cX2_keyOfEntry 25 = .ok (.getfield 9, 3) := by decide +kernel
theorem dX2_keyOfEntry_28 : decode cX2_keyOfEntry 28 = .ok (.iload_n 2, 1) := by decide +kernel
theorem dX2_keyOfEntry_29 : decode cX2_keyOfEntry 29 = .ok (.iaload, 1) := by decide +kernel
theorem dX2_keyOfEntry_30 : decode cX2_keyOfEntry 30 = .ok (.ireturn, 1) := by decide +kernel
theorem dX2_keyOfEntry_31 : decode cX2_keyOfEntry 31 = .ok (.iinc 2 1, 3) := by decide +kernel
theorem dX2_keyOfEntry_34 : decode cX2_keyOfEntry 34 = .ok (.goto (-32), 3) := by decide +kernel
theorem dX2_keyOfEntry_37 : decode cX2_keyOfEntry 37 = .ok (.bipush (-9), 2) := by decide +kernel
theorem dX2_keyOfEntry_39 : decode cX2_keyOfEntry 39 = .ok (.ireturn, 1) := by decide +kernel
theorem dX2_union_0 : decode cX2_union 0 = .ok (.iconst 0, 1) := by decide +kernel
theorem dX2_union_1 : decode cX2_union 1 = .ok (.istore_n 2, 1) := by decide +kernel
theorem dX2_union_2 : decode cX2_union 2 = .ok (.iconst 0, 1) := by decide +kernel
theorem dX2_union_3 : decode cX2_union 3 = .ok (.istore_n 3, 1) := by decide +kernel
theorem dX2_union_4 : decode cX2_union 4 = .ok (.iload_n 3, 1) := by decide +kernel
theorem dX2_union_5 : decode cX2_union 5 = .ok (.aload_n 0, 1) := by decide +kernel
theorem dX2_union_6 : decode cX2_union 6 = .ok (.getfield 21, 3) := by decide +kernel
theorem dX2_union_9 : decode cX2_union 9 = .ok (.if_icmp .ge 27, 3) := by decide +kernel
theorem dX2_union_12 : decode cX2_union 12 = .ok (.iload_n 1, 1) := by decide +kernel
theorem dX2_union_13 : decode cX2_union 13 = .ok (.iload_n 3, 1) := by decide +kernel
theorem dX2_union_14 : decode cX2_union 14 = .ok (.ishr, 1) := by decide +kernel
theorem dX2_union_15 : decode cX2_union 15 = .ok (.iconst 1, 1) := by decide +kernel
theorem dX2_union_16 : decode cX2_union 16 = .ok (.iand, 1) := by decide +kernel
theorem dX2_union_17 : decode cX2_union 17 = .ok (.iconst 1, 1) := by decide +kernel
theorem dX2_union_18 : decode cX2_union 18 = .ok (.if_icmp .ne 12, 3) := by decide +kernel
theorem dX2_union_21 : decode cX2_union 21 = .ok (.iload_n 2, 1) := by decide +kernel
theorem dX2_union_22 : decode cX2_union 22 = .ok (.aload_n 0, 1) := by decide +kernel
theorem dX2_union_23 : decode cX2_union 23 = .ok (.getfield 15, 3) := by decide +kernel
theorem dX2_union_26 : decode cX2_union 26 = .ok (.iload_n 3, 1) := by decide +kernel
theorem dX2_union_27 : decode cX2_union 27 = .ok (.iaload, 1) := by decide +kernel
theorem dX2_union_28 : decode cX2_union 28 = .ok (.ior, 1) := by decide +kernel
theorem dX2_union_29 : decode cX2_union 29 = .ok (.istore_n 2, 1) := by decide +kernel
theorem dX2_union_30 : decode cX2_union 30 = .ok (.iinc 3 1, 3) := by decide +kernel
theorem dX2_union_33 : decode cX2_union 33 = .ok (.goto (-29), 3) := by decide +kernel
theorem dX2_union_36 : decode cX2_union 36 = .ok (.iload_n 2, 1) := by decide +kernel
theorem dX2_union_37 : decode cX2_union 37 = .ok (.ireturn, 1) := by decide +kernel
theorem dX2_meetings_0 : decode cX2_meetings 0 = .ok (.iconst 0, 1) := by decide +kernel
theorem dX2_meetings_1 : decode cX2_meetings 1 = .ok (.istore_n 2, 1) := by decide +kernel
theorem dX2_meetings_2 : decode cX2_meetings 2 = .ok (.iconst 0, 1) := by decide +kernel
theorem dX2_meetings_3 : decode cX2_meetings 3 = .ok (.istore_n 3, 1) := by decide +kernel
theorem dX2_meetings_4 : decode cX2_meetings 4 = .ok (.iload_n 3, 1) := by decide +kernel
theorem dX2_meetings_5 : decode cX2_meetings 5 = .ok (.aload_n 0, 1) := by decide +kernel
theorem dX2_meetings_6 : decode cX2_meetings 6 = .ok (.getfield 21, 3) := by decide +kernel
theorem dX2_meetings_9 : decode cX2_meetings 9 = .ok (.if_icmp .ge 47, 3) := by decide +kernel
theorem dX2_meetings_12 : decode cX2_meetings 12 = .ok (.iconst 0, 1) := by decide +kernel
theorem dX2_meetings_13 : decode cX2_meetings 13 = .ok (.istore 4, 2) := by decide +kernel
theorem dX2_meetings_15 : decode cX2_meetings 15 = .ok (.iload 4, 2) := by decide +kernel
theorem dX2_meetings_17 : decode cX2_meetings 17 = .ok (.aload_n 1, 1) := by decide +kernel
theorem dX2_meetings_18 : decode cX2_meetings 18 = .ok (.getfield 21, 3) := by decide +kernel
theorem dX2_meetings_21 : decode cX2_meetings 21 = .ok (.if_icmp .ge 29, 3) := by decide +kernel
theorem dX2_meetings_24 : decode cX2_meetings 24 = .ok (.aload_n 0, 1) := by decide +kernel
theorem dX2_meetings_25 : decode cX2_meetings 25 = .ok (.getfield 15, 3) := by decide +kernel
theorem dX2_meetings_28 : decode cX2_meetings 28 = .ok (.iload_n 3, 1) := by decide +kernel
theorem dX2_meetings_29 : decode cX2_meetings 29 = .ok (.iaload, 1) := by decide +kernel
theorem dX2_meetings_30 : decode cX2_meetings 30 = .ok (.aload_n 1, 1) := by decide +kernel
theorem dX2_meetings_31 : decode cX2_meetings 31 = .ok (.getfield 15, 3) := by decide +kernel
theorem dX2_meetings_34 : decode cX2_meetings 34 = .ok (.iload 4, 2) := by decide +kernel
theorem dX2_meetings_36 : decode cX2_meetings 36 = .ok (.iaload, 1) := by decide +kernel
theorem dX2_meetings_37 : decode cX2_meetings 37 = .ok (.iand, 1) := by decide +kernel
theorem dX2_meetings_38 : decode cX2_meetings 38 = .ok (.ifCond .eq 6, 3) := by decide +kernel
theorem dX2_meetings_41 : decode cX2_meetings 41 = .ok (.iinc 2 1, 3) := by decide +kernel
theorem dX2_meetings_44 : decode cX2_meetings 44 = .ok (.iinc 4 1, 3) := by decide +kernel
theorem dX2_meetings_47 : decode cX2_meetings 47 = .ok (.goto (-32), 3) := by decide +kernel
theorem dX2_meetings_50 : decode cX2_meetings 50 = .ok (.iinc 3 1, 3) := by decide +kernel
theorem dX2_meetings_53 : decode cX2_meetings 53 = .ok (.goto (-49), 3) := by decide +kernel
theorem dX2_meetings_56 : decode cX2_meetings 56 = .ok (.iload_n 2, 1) := by decide +kernel
theorem dX2_meetings_57 : decode cX2_meetings 57 = .ok (.ireturn, 1) := by decide +kernel
theorem dX3_init_0 : decode cX3_init 0 = .ok (.aload_n 0, 1) := by decide +kernel
theorem dX3_init_1 : decode cX3_init 1 = .ok (.invokespecial 3, 3) := by decide +kernel
theorem dX3_init_4 : decode cX3_init 4 = .ok (.aload_n 0, 1) := by decide +kernel
theorem dX3_init_5 : decode cX3_init 5 = .ok (.bipush 16, 2) := by decide +kernel
theorem dX3_init_7 : decode cX3_init 7 = .ok (.newarray .int, 2) := by decide +kernel
theorem dX3_init_9 : decode cX3_init 9 = .ok (.putfield 9, 3) := by decide +kernel
theorem dX3_init_12 : decode cX3_init 12 = .ok (.aload_n 0, 1) := by decide +kernel
theorem dX3_init_13 : decode cX3_init 13 = .ok (.bipush 16, 2) := by decide +kernel
theorem dX3_init_15 : decode cX3_init 15 = .ok (.newarray .int, 2) := by decide +kernel
theorem dX3_init_17 : decode cX3_init 17 = .ok (.putfield 15, 3) := by decide +kernel
theorem dX3_init_20 : decode cX3_init 20 = .ok (.aload_n 0, 1) := by decide +kernel
theorem dX3_init_21 : decode cX3_init 21 = .ok (.bipush 16, 2) := by decide +kernel
theorem dX3_init_23 : decode cX3_init 23 = .ok (.newarray .int, 2) := by decide +kernel
theorem dX3_init_25 : decode cX3_init 25 = .ok (.putfield 18, 3) := by decide +kernel
theorem dX3_init_28 : decode cX3_init 28 = .ok (.aload_n 0, 1) := by decide +kernel
theorem dX3_init_29 : decode cX3_init 29 = .ok (.iconst 0, 1) := by decide +kernel
theorem dX3_init_30 : decode cX3_init 30 = .ok (.putfield 21, 3) := by decide +kernel
theorem dX3_init_33 : decode cX3_init 33 = .ok (.return_, 1) := by decide +kernel
theorem dX3_has_0 : decode cX3_has 0 = .ok (.iload_n 1, 1) := by decide +kernel
theorem dX3_has_1 : decode cX3_has 1 = .ok (.ifCond .lt 15, 3) := by decide +kernel
theorem dX3_has_4 : decode cX3_has 4 = .ok (.iload_n 1, 1) := by decide +kernel
theorem dX3_has_5 : decode cX3_has 5 = .ok (.aload_n 0, 1) := by decide +kernel
theorem dX3_has_6 : decode cX3_has 6 = .ok (.getfield 21, 3) := by decide +kernel
theorem dX3_has_9 : decode cX3_has 9 = .ok (.if_icmp .ge 7, 3) := by decide +kernel
theorem dX3_has_12 : decode cX3_has 12 = .ok (.iconst 1, 1) := by decide +kernel
theorem dX3_has_13 : decode cX3_has 13 = .ok (.goto 4, 3) := by decide +kernel
theorem dX3_has_16 : decode cX3_has 16 = .ok (.iconst 0, 1) := by decide +kernel
theorem dX3_has_17 : decode cX3_has 17 = .ok (.ireturn, 1) := by decide +kernel
theorem dX3_hasRoom_0 : decode cX3_hasRoom 0 = .ok (.aload_n 0, 1) := by decide +kernel
theorem dX3_hasRoom_1 : decode cX3_hasRoom 1 = .ok (.getfield 21, 3) := by decide +kernel
theorem dX3_hasRoom_4 : decode cX3_hasRoom 4 = .ok (.bipush 16, 2) := by decide +kernel
theorem dX3_hasRoom_6 : decode cX3_hasRoom 6 = .ok (.if_icmp .ge 7, 3) := by decide +kernel
theorem dX3_hasRoom_9 : decode cX3_hasRoom 9 = .ok (.iconst 1, 1) := by decide +kernel
theorem dX3_hasRoom_10 : decode cX3_hasRoom 10 = .ok (.goto 4, 3) := by decide +kernel
theorem dX3_hasRoom_13 : decode cX3_hasRoom 13 = .ok (.iconst 0, 1) := by decide +kernel
theorem dX3_hasRoom_14 : decode cX3_hasRoom 14 = .ok (.ireturn, 1) := by decide +kernel
theorem dX3_all_0 : decode cX3_all 0 = .ok (.iconst 1, 1) := by decide +kernel
theorem dX3_all_1 : decode cX3_all 1 = .ok (.aload_n 0, 1) := by decide +kernel
theorem dX3_all_2 : decode cX3_all 2 = .ok (.getfield 21, 3) := by decide +kernel
theorem dX3_all_5 : decode cX3_all 5 = .ok (.ishl, 1) := by decide +kernel
theorem dX3_all_6 : decode cX3_all 6 = .ok (.iconst 1, 1) := by decide +kernel
theorem dX3_all_7 : decode cX3_all 7 = .ok (.isub, 1) := by decide +kernel
theorem dX3_all_8 : decode cX3_all 8 = .ok (.ireturn, 1) := by decide +kernel
theorem dX3_append_0 : decode cX3_append 0 = .ok (.aload_n 0, 1) := by decide +kernel
theorem dX3_append_1 : decode cX3_append 1 = .ok (.aload_n 0, 1) := by decide +kernel
theorem dX3_append_2 : decode cX3_append 2 = .ok (.getfield 21, 3) := by decide +kernel
theorem dX3_append_5 : decode cX3_append 5 = .ok (.iload_n 1, 1) := by decide +kernel
theorem dX3_append_6 : decode cX3_append 6 = .ok (.iload_n 2, 1) := by decide +kernel
theorem dX3_append_7 : decode cX3_append 7 = .ok (.iload_n 3, 1) := by decide +kernel
theorem dX3_append_8 : decode cX3_append 8 = .ok (.invokevirtual 25, 3) := by decide +kernel
theorem dX3_append_11 : decode cX3_append 11 = .ok (.return_, 1) := by decide +kernel
theorem dX3_insert_0 : decode cX3_insert 0 = .ok (.aload_n 0, 1) := by decide +kernel
theorem dX3_insert_1 : decode cX3_insert 1 = .ok (.invokevirtual 29, 3) := by decide +kernel
theorem dX3_insert_4 : decode cX3_insert 4 = .ok (.ifCond .eq 15, 3) := by decide +kernel
theorem dX3_insert_7 : decode cX3_insert 7 = .ok (.iload_n 1, 1) := by decide +kernel
theorem dX3_insert_8 : decode cX3_insert 8 = .ok (.ifCond .lt 11, 3) := by decide +kernel
theorem dX3_insert_11 : decode cX3_insert 11 = .ok (.iload_n 1, 1) := by decide +kernel
theorem dX3_insert_12 : decode cX3_insert 12 = .ok (.aload_n 0, 1) := by decide +kernel
theorem dX3_insert_13 : decode cX3_insert 13 = .ok (.getfield 21, 3) := by decide +kernel
theorem dX3_insert_16 : decode cX3_insert 16 = .ok (.if_icmp .le 4, 3) := by decide +kernel
theorem dX3_insert_19 : decode cX3_insert 19 = .ok (.return_, 1) := by decide +kernel
theorem dX3_insert_20 : decode cX3_insert 20 = .ok (.aload_n 0, 1) := by decide +kernel
theorem dX3_insert_21 : decode cX3_insert 21 = .ok (.iload_n 1, 1) := by decide +kernel
theorem dX3_insert_22 : decode cX3_insert 22 = .ok (.iload_n 1, 1) := by decide +kernel
theorem dX3_insert_23 : decode cX3_insert 23 = .ok (.iconst 1, 1) := by decide +kernel
theorem dX3_insert_24 : decode cX3_insert 24 = .ok (.iadd, 1) := by decide +kernel
theorem dX3_insert_25 : decode cX3_insert 25 = .ok (.aload_n 0, 1) := by decide +kernel
theorem dX3_insert_26 : decode cX3_insert 26 = .ok (.getfield 21, 3) := by decide +kernel
theorem dX3_insert_29 : decode cX3_insert 29 = .ok (.iload_n 1, 1) := by decide +kernel
theorem dX3_insert_30 : decode cX3_insert 30 = .ok (.isub, 1) := by decide +kernel
theorem dX3_insert_31 : decode cX3_insert 31 = .ok (.invokevirtual 33, 3) := by decide +kernel
theorem dX3_insert_34 : decode cX3_insert 34 = .ok (.aload_n 0, 1) := by decide +kernel
theorem dX3_insert_35 : decode cX3_insert 35 = .ok (.getfield 9, 3) := by decide +kernel
theorem dX3_insert_38 : decode cX3_insert 38 = .ok (.iload_n 1, 1) := by decide +kernel
theorem dX3_insert_39 : decode cX3_insert 39 = .ok (.iload_n 2, 1) := by decide +kernel
theorem dX3_insert_40 : decode cX3_insert 40 = .ok (.iastore, 1) := by decide +kernel
theorem dX3_insert_41 : decode cX3_insert 41 = .ok (.aload_n 0, 1) := by decide +kernel
theorem dX3_insert_42 : decode cX3_insert 42 = .ok (.getfield 15, 3) := by decide +kernel
theorem dX3_insert_45 : decode cX3_insert 45 = .ok (.iload_n 1, 1) := by decide +kernel
theorem dX3_insert_46 : decode cX3_insert 46 = .ok (.iload_n 3, 1) := by decide +kernel
theorem dX3_insert_47 : decode cX3_insert 47 = .ok (.iastore, 1) := by decide +kernel
theorem dX3_insert_48 : decode cX3_insert 48 = .ok (.aload_n 0, 1) := by decide +kernel
theorem dX3_insert_49 : decode cX3_insert 49 = .ok (.getfield 18, 3) := by decide +kernel
theorem dX3_insert_52 : decode cX3_insert 52 = .ok (.iload_n 1, 1) := by decide +kernel
theorem dX3_insert_53 : decode cX3_insert 53 = .ok (.iload 4, 2) := by decide +kernel
theorem dX3_insert_55 : decode cX3_insert 55 = .ok (.iastore, 1) := by decide +kernel
theorem dX3_insert_56 : decode cX3_insert 56 = .ok (.aload_n 0, 1) := by decide +kernel
theorem dX3_insert_57 : decode cX3_insert 57 = .ok (.dup, 1) := by decide +kernel
theorem dX3_insert_58 : decode cX3_insert 58 = .ok (.getfield 21, 3) := by decide +kernel
theorem dX3_insert_61 : decode cX3_insert 61 = .ok (.iconst 1, 1) := by decide +kernel
theorem dX3_insert_62 : decode cX3_insert 62 = .ok (.iadd, 1) := by decide +kernel
theorem dX3_insert_63 : decode cX3_insert 63 = .ok (.putfield 21, 3) := by decide +kernel
theorem dX3_insert_66 : decode cX3_insert 66 = .ok (.return_, 1) := by decide +kernel
theorem dX3_remove_0 : decode cX3_remove 0 = .ok (.aload_n 0, 1) := by decide +kernel
theorem dX3_remove_1 : decode cX3_remove 1 = .ok (.iload_n 1, 1) := by decide +kernel
theorem dX3_remove_2 : decode cX3_remove 2 = .ok (.invokevirtual 37, 3) := by decide +kernel
theorem dX3_remove_5 : decode cX3_remove 5 = .ok (.ifCond .ne 4, 3) := by decide +kernel
theorem dX3_remove_8 : decode cX3_remove 8 = .ok (.return_, 1) := by decide +kernel
theorem dX3_remove_9 : decode cX3_remove 9 = .ok (.aload_n 0, 1) := by decide +kernel
theorem dX3_remove_10 : decode cX3_remove 10 = .ok (.iload_n 1, 1) := by decide +kernel
theorem dX3_remove_11 : decode cX3_remove 11 = .ok (.iconst 1, 1) := by decide +kernel
theorem dX3_remove_12 : decode cX3_remove 12 = .ok (.iadd, 1) := by decide +kernel
theorem dX3_remove_13 : decode cX3_remove 13 = .ok (.iload_n 1, 1) := by decide +kernel
theorem dX3_remove_14 : decode cX3_remove 14 = .ok (.aload_n 0, 1) := by decide +kernel
theorem dX3_remove_15 : decode cX3_remove 15 = .ok (.getfield 21, 3) := by decide +kernel
theorem dX3_remove_18 : decode cX3_remove 18 = .ok (.iload_n 1, 1) := by decide +kernel
theorem dX3_remove_19 : decode cX3_remove 19 = .ok (.isub, 1) := by decide +kernel
theorem dX3_remove_20 : decode cX3_remove 20 = .ok (.iconst 1, 1) := by decide +kernel
theorem dX3_remove_21 : decode cX3_remove 21 = .ok (.isub, 1) := by decide +kernel
theorem dX3_remove_22 : decode cX3_remove 22 = .ok (.invokevirtual 33, 3) := by decide +kernel
theorem dX3_remove_25 : decode cX3_remove 25 = .ok (.aload_n 0, 1) := by decide +kernel
theorem dX3_remove_26 : decode cX3_remove 26 = .ok (.dup, 1) := by decide +kernel
theorem dX3_remove_27 : decode cX3_remove 27 = .ok (.getfield 21, 3) := by decide +kernel
theorem dX3_remove_30 : decode cX3_remove 30 = .ok (.iconst 1, 1) := by decide +kernel
theorem dX3_remove_31 : decode cX3_remove 31 = .ok (.isub, 1) := by decide +kernel
theorem dX3_remove_32 : decode cX3_remove 32 = .ok (.putfield 21, 3) := by decide +kernel
theorem dX3_remove_35 : decode cX3_remove 35 = .ok (.return_, 1) := by decide +kernel
theorem dX3_shift_0 : decode cX3_shift 0 = .ok (.aload_n 0, 1) := by decide +kernel
theorem dX3_shift_1 : decode cX3_shift 1 = .ok (.getfield 9, 3) := by decide +kernel
theorem dX3_shift_4 : decode cX3_shift 4 = .ok (.iload_n 1, 1) := by decide +kernel
theorem dX3_shift_5 : decode cX3_shift 5 = .ok (.aload_n 0, 1) := by decide +kernel
theorem dX3_shift_6 : decode cX3_shift 6 = .ok (.getfield 9, 3) := by decide +kernel
theorem dX3_shift_9 : decode cX3_shift 9 = .ok (.iload_n 2, 1) := by decide +kernel
theorem dX3_shift_10 : decode cX3_shift 10 = .ok (.iload_n 3, 1) := by decide +kernel
theorem dX3_shift_11 : decode cX3_shift 11 = .ok (.invokestatic 41, 3) := by decide +kernel
theorem dX3_shift_14 : decode cX3_shift 14 = .ok (.aload_n 0, 1) := by decide +kernel
theorem dX3_shift_15 : decode cX3_shift 15 = .ok (.getfield 15, 3) := by decide +kernel
theorem dX3_shift_18 : decode cX3_shift 18 = .ok (.iload_n 1, 1) := by decide +kernel
theorem dX3_shift_19 : decode cX3_shift 19 = .ok (.aload_n 0, 1) := by decide +kernel
theorem dX3_shift_20 : decode cX3_shift 20 = .ok (.getfield 15, 3) := by decide +kernel
theorem dX3_shift_23 : decode cX3_shift 23 = .ok (.iload_n 2, 1) := by decide +kernel
theorem dX3_shift_24 : decode cX3_shift 24 = .ok (.iload_n 3, 1) := by decide +kernel
theorem dX3_shift_25 : decode cX3_shift 25 = .ok (.invokestatic 41, 3) := by decide +kernel
theorem dX3_shift_28 : decode cX3_shift 28 = .ok (.aload_n 0, 1) := by decide +kernel
theorem dX3_shift_29 : decode cX3_shift 29 = .ok (.getfield 18, 3) := by decide +kernel
theorem dX3_shift_32 : decode cX3_shift 32 = .ok (.iload_n 1, 1) := by decide +kernel
theorem dX3_shift_33 : decode cX3_shift 33 = .ok (.aload_n 0, 1) := by decide +kernel
theorem dX3_shift_34 : decode cX3_shift 34 = .ok (.getfield 18, 3) := by decide +kernel
theorem dX3_shift_37 : decode cX3_shift 37 = .ok (.iload_n 2, 1) := by decide +kernel
theorem dX3_shift_38 : decode cX3_shift 38 = .ok (.iload_n 3, 1) := by decide +kernel
theorem dX3_shift_39 : decode cX3_shift 39 = .ok (.invokestatic 41, 3) := by decide +kernel
theorem dX3_shift_42 : decode cX3_shift 42 = .ok (.return_, 1) := by decide +kernel
theorem dX3_copyFrom_0 : decode cX3_copyFrom 0 = .ok (.aload_n 0, 1) := by decide +kernel
theorem dX3_copyFrom_1 : decode cX3_copyFrom 1 = .ok (.aload_n 1, 1) := by decide +kernel
theorem dX3_copyFrom_2 : decode cX3_copyFrom 2 = .ok (.getfield 21, 3) := by decide +kernel
theorem dX3_copyFrom_5 : decode cX3_copyFrom 5 = .ok (.putfield 21, 3) := by decide +kernel
theorem dX3_copyFrom_8 : decode cX3_copyFrom 8 = .ok (.aload_n 1, 1) := by decide +kernel
theorem dX3_copyFrom_9 : decode cX3_copyFrom 9 = .ok (.getfield 9, 3) := by decide +kernel
theorem dX3_copyFrom_12 : decode cX3_copyFrom 12 = .ok (.iconst 0, 1) := by decide +kernel
theorem dX3_copyFrom_13 : decode cX3_copyFrom 13 = .ok (.aload_n 0, 1) := by decide +kernel
theorem dX3_copyFrom_14 : decode cX3_copyFrom 14 = .ok (.getfield 9, 3) := by decide +kernel
theorem dX3_copyFrom_17 : decode cX3_copyFrom 17 = .ok (.iconst 0, 1) := by decide +kernel
theorem dX3_copyFrom_18 : decode cX3_copyFrom 18 = .ok (.aload_n 0, 1) := by decide +kernel
theorem dX3_copyFrom_19 : decode cX3_copyFrom 19 = .ok (.getfield 21, 3) := by decide +kernel
theorem dX3_copyFrom_22 : decode cX3_copyFrom 22 = .ok (.invokestatic 41, 3) := by decide +kernel
theorem dX3_copyFrom_25 : decode cX3_copyFrom 25 = .ok (.aload_n 1, 1) := by decide +kernel
theorem dX3_copyFrom_26 : decode cX3_copyFrom 26 = .ok (.getfield 15, 3) := by decide +kernel
theorem dX3_copyFrom_29 : decode cX3_copyFrom 29 = .ok (.iconst 0, 1) := by decide +kernel
theorem dX3_copyFrom_30 : decode cX3_copyFrom 30 = .ok (.aload_n 0, 1) := by decide +kernel
theorem dX3_copyFrom_31 : decode cX3_copyFrom 31 = .ok (.getfield 15, 3) := by decide +kernel
theorem dX3_copyFrom_34 : decode cX3_copyFrom 34 = .ok (.iconst 0, 1) := by decide +kernel
theorem dX3_copyFrom_35 : decode cX3_copyFrom 35 = .ok (.aload_n 0, 1) := by decide +kernel
theorem dX3_copyFrom_36 : decode cX3_copyFrom 36 = .ok (.getfield 21, 3) := by decide +kernel
theorem dX3_copyFrom_39 : decode cX3_copyFrom 39 = .ok (.invokestatic 41, 3) := by decide +kernel
theorem dX3_copyFrom_42 : decode cX3_copyFrom 42 = .ok (.aload_n 1, 1) := by decide +kernel
theorem dX3_copyFrom_43 : decode cX3_copyFrom 43 = .ok (.getfield 18, 3) := by decide +kernel
theorem dX3_copyFrom_46 : decode cX3_copyFrom 46 = .ok (.iconst 0, 1) := by decide +kernel
theorem dX3_copyFrom_47 : decode cX3_copyFrom 47 = .ok (.aload_n 0, 1) := by decide +kernel
theorem dX3_copyFrom_48 : decode cX3_copyFrom 48 = .ok (.getfield 18, 3) := by decide +kernel
theorem dX3_copyFrom_51 : decode cX3_copyFrom 51 = .ok (.iconst 0, 1) := by decide +kernel
theorem dX3_copyFrom_52 : decode cX3_copyFrom 52 = .ok (.aload_n 0, 1) := by decide +kernel
theorem dX3_copyFrom_53 : decode cX3_copyFrom 53 = .ok (.getfield 21, 3) := by decide +kernel
theorem dX3_copyFrom_56 : decode cX3_copyFrom 56 = .ok (.invokestatic 41, 3) := by decide +kernel
theorem dX3_copyFrom_59 : decode cX3_copyFrom 59 = .ok (.return_, 1) := by decide +kernel
theorem dX3_missing_0 : decode cX3_missing 0 = .ok (.iconst 0, 1) := by decide +kernel
theorem dX3_missing_1 : decode cX3_missing 1 = .ok (.istore_n 1, 1) := by decide +kernel
theorem dX3_missing_2 : decode cX3_missing 2 = .ok (.iconst 0, 1) := by decide +kernel
theorem dX3_missing_3 : decode cX3_missing 3 = .ok (.istore_n 2, 1) := by decide +kernel
theorem dX3_missing_4 : decode cX3_missing 4 = .ok (.iload_n 2, 1) := by decide +kernel
theorem dX3_missing_5 : decode cX3_missing 5 = .ok (.aload_n 0, 1) := by decide +kernel
theorem dX3_missing_6 : decode cX3_missing 6 = .ok (.getfield 21, 3) := by decide +kernel
theorem dX3_missing_9 : decode cX3_missing 9 = .ok (.if_icmp .ge 26, 3) := by decide +kernel
theorem dX3_missing_12 : decode cX3_missing 12 = .ok (.aload_n 0, 1) := by decide +kernel
theorem dX3_missing_13 : decode cX3_missing 13 = .ok (.getfield 18, 3) := by decide +kernel
theorem dX3_missing_16 : decode cX3_missing 16 = .ok (.iload_n 2, 1) := by decide +kernel
theorem dX3_missing_17 : decode cX3_missing 17 = .ok (.iaload, 1) := by decide +kernel
theorem dX3_missing_18 : decode cX3_missing 18 = .ok (.bipush 100, 2) := by decide +kernel
theorem dX3_missing_20 : decode cX3_missing 20 = .ok (.if_icmp .ne 9, 3) := by decide +kernel
theorem dX3_missing_23 : decode cX3_missing 23 = .ok (.iload_n 1, 1) := by decide +kernel
theorem dX3_missing_24 : decode cX3_missing 24 = .ok (.iconst 1, 1) := by decide +kernel
theorem dX3_missing_25 : decode cX3_missing 25 = .ok (.iload_n 2, 1) := by decide +kernel
theorem dX3_missing_26 : decode cX3_missing 26 = .ok (.ishl, 1) := by decide +kernel
theorem dX3_missing_27 : decode cX3_missing 27 = .ok (.ior, 1) := by decide +kernel
theorem dX3_missing_28 : decode cX3_missing 28 = .ok (.istore_n 1, 1) := by decide +kernel
theorem dX3_missing_29 : decode cX3_missing 29 = .ok (.iinc 2 1, 3) := by decide +kernel
theorem dX3_missing_32 : decode cX3_missing 32 = .ok (.goto (-28), 3) := by decide +kernel
theorem dX3_missing_35 : decode cX3_missing 35 = .ok (.iload_n 1, 1) := by decide +kernel
theorem dX3_missing_36 : decode cX3_missing 36 = .ok (.ireturn, 1) := by decide +kernel
theorem dX3_sumOf_0 : decode cX3_sumOf 0 = .ok (.iconst 0, 1) := by decide +kernel
theorem dX3_sumOf_1 : decode cX3_sumOf 1 = .ok (.istore_n 2, 1) := by decide +kernel
theorem dX3_sumOf_2 : decode cX3_sumOf 2 = .ok (.iconst 0, 1) := by decide +kernel
theorem dX3_sumOf_3 : decode cX3_sumOf 3 = .ok (.istore_n 3, 1) := by decide +kernel
theorem dX3_sumOf_4 : decode cX3_sumOf 4 = .ok (.iload_n 3, 1) := by decide +kernel
theorem dX3_sumOf_5 : decode cX3_sumOf 5 = .ok (.aload_n 0, 1) := by decide +kernel
theorem dX3_sumOf_6 : decode cX3_sumOf 6 = .ok (.getfield 21, 3) := by decide +kernel
theorem dX3_sumOf_9 : decode cX3_sumOf 9 = .ok (.if_icmp .ge 27, 3) := by decide +kernel
theorem dX3_sumOf_12 : decode cX3_sumOf 12 = .ok (.iload_n 1, 1) := by decide +kernel
theorem dX3_sumOf_13 : decode cX3_sumOf 13 = .ok (.iload_n 3, 1) := by decide +kernel
theorem dX3_sumOf_14 : decode cX3_sumOf 14 = .ok (.ishr, 1) := by decide +kernel
theorem dX3_sumOf_15 : decode cX3_sumOf 15 = .ok (.iconst 1, 1) := by decide +kernel
theorem dX3_sumOf_16 : decode cX3_sumOf 16 = .ok (.iand, 1) := by decide +kernel
theorem dX3_sumOf_17 : decode cX3_sumOf 17 = .ok (.iconst 1, 1) := by decide +kernel
theorem dX3_sumOf_18 : decode cX3_sumOf 18 = .ok (.if_icmp .ne 12, 3) := by decide +kernel
theorem dX3_sumOf_21 : decode cX3_sumOf 21 = .ok (.iload_n 2, 1) := by decide +kernel
theorem dX3_sumOf_22 : decode cX3_sumOf 22 = .ok (.aload_n 0, 1) := by decide +kernel
theorem dX3_sumOf_23 : decode cX3_sumOf 23 = .ok (.getfield 18, 3) := by decide +kernel
theorem dX3_sumOf_26 : decode cX3_sumOf 26 = .ok (.iload_n 3, 1) := by decide +kernel
theorem dX3_sumOf_27 : decode cX3_sumOf 27 = .ok (.iaload, 1) := by decide +kernel
theorem dX3_sumOf_28 : decode cX3_sumOf 28 = .ok (.iadd, 1) := by decide +kernel
theorem dX3_sumOf_29 : decode cX3_sumOf 29 = .ok (.istore_n 2, 1) := by decide +kernel
theorem dX3_sumOf_30 : decode cX3_sumOf 30 = .ok (.iinc 3 1, 3) := by decide +kernel
theorem dX3_sumOf_33 : decode cX3_sumOf 33 = .ok (.goto (-29), 3) := by decide +kernel
theorem dX3_sumOf_36 : decode cX3_sumOf 36 = .ok (.iload_n 2, 1) := by decide +kernel
theorem dX3_sumOf_37 : decode cX3_sumOf 37 = .ok (.ireturn, 1) := by decide +kernel
theorem dX3_mostOf_0 : decode cX3_mostOf 0 = .ok (.bipush (-9), 2) := by decide +kernel
theorem dX3_mostOf_2 : decode cX3_mostOf 2 = .ok (.istore_n 2, 1) := by decide +kernel
theorem dX3_mostOf_3 : decode cX3_mostOf 3 = .ok (.iconst 0, 1) := by decide +kernel
theorem dX3_mostOf_4 : decode cX3_mostOf 4 = .ok (.istore_n 3, 1) := by decide +kernel
theorem dX3_mostOf_5 : decode cX3_mostOf 5 = .ok (.iload_n 3, 1) := by decide +kernel
theorem dX3_mostOf_6 : decode cX3_mostOf 6 = .ok (.aload_n 0, 1) := by decide +kernel
theorem dX3_mostOf_7 : decode cX3_mostOf 7 = .ok (.getfield 21, 3) := by decide +kernel
theorem dX3_mostOf_10 : decode cX3_mostOf 10 = .ok (.if_icmp .ge 35, 3) := by decide +kernel
theorem dX3_mostOf_13 : decode cX3_mostOf 13 = .ok (.iload_n 1, 1) := by decide +kernel
theorem dX3_mostOf_14 : decode cX3_mostOf 14 = .ok (.iload_n 3, 1) := by decide +kernel
theorem dX3_mostOf_15 : decode cX3_mostOf 15 = .ok (.ishr, 1) := by decide +kernel
theorem dX3_mostOf_16 : decode cX3_mostOf 16 = .ok (.iconst 1, 1) := by decide +kernel
theorem dX3_mostOf_17 : decode cX3_mostOf 17 = .ok (.iand, 1) := by decide +kernel
theorem dX3_mostOf_18 : decode cX3_mostOf 18 = .ok (.iconst 1, 1) := by decide +kernel
theorem dX3_mostOf_19 : decode cX3_mostOf 19 = .ok (.if_icmp .ne 20, 3) := by decide +kernel
theorem dX3_mostOf_22 : decode cX3_mostOf 22 = .ok (.aload_n 0, 1) := by decide +kernel
theorem dX3_mostOf_23 : decode cX3_mostOf 23 = .ok (.getfield 18, 3) := by decide +kernel
theorem dX3_mostOf_26 : decode cX3_mostOf 26 = .ok (.iload_n 3, 1) := by decide +kernel
theorem dX3_mostOf_27 : decode cX3_mostOf 27 = .ok (.iaload, 1) := by decide +kernel
theorem dX3_mostOf_28 : decode cX3_mostOf 28 = .ok (.iload_n 2, 1) := by decide +kernel
theorem dX3_mostOf_29 : decode cX3_mostOf 29 = .ok (.if_icmp .le 10, 3) := by decide +kernel
theorem dX3_mostOf_32 : decode cX3_mostOf 32 = .ok (.aload_n 0, 1) := by decide +kernel
theorem dX3_mostOf_33 : decode cX3_mostOf 33 = .ok (.getfield 18, 3) := by decide +kernel
theorem dX3_mostOf_36 : decode cX3_mostOf 36 = .ok (.iload_n 3, 1) := by decide +kernel
theorem dX3_mostOf_37 : decode cX3_mostOf 37 = .ok (.iaload, 1) := by decide +kernel
theorem dX3_mostOf_38 : decode cX3_mostOf 38 = .ok (.istore_n 2, 1) := by decide +kernel
theorem dX3_mostOf_39 : decode cX3_mostOf 39 = .ok (.iinc 3 1, 3) := by decide +kernel
theorem dX3_mostOf_42 : decode cX3_mostOf 42 = .ok (.goto (-37), 3) := by decide +kernel
theorem dX3_mostOf_45 : decode cX3_mostOf 45 = .ok (.iload_n 2, 1) := by decide +kernel
theorem dX3_mostOf_46 : decode cX3_mostOf 46 = .ok (.ireturn, 1) := by decide +kernel
theorem dX3_leastOf_0 : decode cX3_leastOf 0 = .ok (.bipush 100, 2) := by decide +kernel
theorem dX3_leastOf_2 : decode cX3_leastOf 2 = .ok (.istore_n 2, 1) := by decide +kernel
theorem dX3_leastOf_3 : decode cX3_leastOf 3 = .ok (.iconst 0, 1) := by decide +kernel
theorem dX3_leastOf_4 : decode cX3_leastOf 4 = .ok (.istore_n 3, 1) := by decide +kernel
theorem dX3_leastOf_5 : decode cX3_leastOf 5 = .ok (.iload_n 3, 1) := by decide +kernel
theorem dX3_leastOf_6 : decode cX3_leastOf 6 = .ok (.aload_n 0, 1) := by decide +kernel
theorem dX3_leastOf_7 : decode cX3_leastOf 7 = .ok (.getfield 21, 3) := by decide +kernel
theorem dX3_leastOf_10 : decode cX3_leastOf 10 = .ok (.if_icmp .ge 35, 3) := by decide +kernel
theorem dX3_leastOf_13 : decode cX3_leastOf 13 = .ok (.iload_n 1, 1) := by decide +kernel
theorem dX3_leastOf_14 : decode cX3_leastOf 14 = .ok (.iload_n 3, 1) := by decide +kernel
theorem dX3_leastOf_15 : decode cX3_leastOf 15 = .ok (.ishr, 1) := by decide +kernel
theorem dX3_leastOf_16 : decode cX3_leastOf 16 = .ok (.iconst 1, 1) := by decide +kernel
theorem dX3_leastOf_17 : decode cX3_leastOf 17 = .ok (.iand, 1) := by decide +kernel
theorem dX3_leastOf_18 : decode cX3_leastOf 18 = .ok (.iconst 1, 1) := by decide +kernel
theorem dX3_leastOf_19 : decode cX3_leastOf 19 = .ok (.if_icmp .ne 20, 3) := by decide +kernel
theorem dX3_leastOf_22 : decode cX3_leastOf 22 = .ok (.aload_n 0, 1) := by decide +kernel
theorem dX3_leastOf_23 : decode cX3_leastOf 23 = .ok (.getfield 18, 3) := by decide +kernel
theorem dX3_leastOf_26 : decode cX3_leastOf 26 = .ok (.iload_n 3, 1) := by decide +kernel
theorem dX3_leastOf_27 : decode cX3_leastOf 27 = .ok (.iaload, 1) := by decide +kernel
theorem dX3_leastOf_28 : decode cX3_leastOf 28 = .ok (.iload_n 2, 1) := by decide +kernel
theorem dX3_leastOf_29 : decode cX3_leastOf 29 = .ok (.if_icmp .ge 10, 3) := by decide +kernel
theorem dX3_leastOf_32 : decode cX3_leastOf 32 = .ok (.aload_n 0, 1) := by decide +kernel
theorem dX3_leastOf_33 : decode cX3_leastOf 33 = .ok (.getfield 18, 3) := by decide +kernel
theorem dX3_leastOf_36 : decode cX3_leastOf 36 = .ok (.iload_n 3, 1) := by decide +kernel
theorem dX3_leastOf_37 : decode cX3_leastOf 37 = .ok (.iaload, 1) := by decide +kernel
theorem dX3_leastOf_38 : decode cX3_leastOf 38 = .ok (.istore_n 2, 1) := by decide +kernel
theorem dX3_leastOf_39 : decode cX3_leastOf 39 = .ok (.iinc 3 1, 3) := by decide +kernel
theorem dX3_leastOf_42 : decode cX3_leastOf 42 = .ok (.goto (-37), 3) := by decide +kernel
theorem dX3_leastOf_45 : decode cX3_leastOf 45 = .ok (.iload_n 2, 1) := by decide +kernel
theorem dX3_leastOf_46 : decode cX3_leastOf 46 = .ok (.bipush 100, 2) := by decide +kernel
theorem dX3_leastOf_48 : decode cX3_leastOf 48 = .ok (.if_icmp .ne 8, 3) := by decide +kernel
theorem dX3_leastOf_51 : decode cX3_leastOf 51 = .ok (.bipush (-9), 2) := by decide +kernel
theorem dX3_leastOf_53 : decode cX3_leastOf 53 = .ok (.goto 4, 3) := by decide +kernel
theorem dX3_leastOf_56 : decode cX3_leastOf 56 = .ok (.iload_n 2, 1) := by decide +kernel
theorem dX3_leastOf_57 : decode cX3_leastOf 57 = .ok (.ireturn, 1) := by decide +kernel
theorem dX3_kindsOf_0 : decode cX3_kindsOf 0 = .ok (.lconst 0, 1) := by decide +kernel
theorem dX3_kindsOf_1 : decode cX3_kindsOf 1 = .ok (.lstore_n 2, 1) := by decide +kernel
theorem dX3_kindsOf_2 : decode cX3_kindsOf 2 = .ok (.lconst 0, 1) := by decide +kernel
theorem dX3_kindsOf_3 : decode cX3_kindsOf 3 = .ok (.lstore 4, 2) := by decide +kernel
theorem dX3_kindsOf_5 : decode cX3_kindsOf 5 = .ok (.iconst 0, 1) := by decide +kernel
theorem dX3_kindsOf_6 : decode cX3_kindsOf 6 = .ok (.istore 6, 2) := by decide +kernel
theorem dX3_kindsOf_8 : decode cX3_kindsOf 8 = .ok (.iload 6, 2) := by decide +kernel
theorem dX3_kindsOf_10 : decode cX3_kindsOf 10 = .ok (.aload_n 0, 1) := by decide +kernel
theorem dX3_kindsOf_11 : decode cX3_kindsOf 11 = .ok (.getfield 21, 3) := by decide +kernel
theorem dX3_kindsOf_14 : decode cX3_kindsOf 14 = .ok (.if_icmp .ge 60, 3) := by decide +kernel
theorem dX3_kindsOf_17 : decode cX3_kindsOf 17 = .ok (.iload_n 1, 1) := by decide +kernel
theorem dX3_kindsOf_18 : decode cX3_kindsOf 18 = .ok (.iload 6, 2) := by decide +kernel
theorem dX3_kindsOf_20 : decode cX3_kindsOf 20 = .ok (.ishr, 1) := by decide +kernel
theorem dX3_kindsOf_21 : decode cX3_kindsOf 21 = .ok (.iconst 1, 1) := by decide +kernel
theorem dX3_kindsOf_22 : decode cX3_kindsOf 22 = .ok (.iand, 1) := by decide +kernel
theorem dX3_kindsOf_23 : decode cX3_kindsOf 23 = .ok (.iconst 1, 1) := by decide +kernel
theorem dX3_kindsOf_24 : decode cX3_kindsOf 24 = .ok (.if_icmp .ne 44, 3) := by decide +kernel
theorem dX3_kindsOf_27 : decode cX3_kindsOf 27 = .ok (.aload_n 0, 1) := by decide +kernel
theorem dX3_kindsOf_28 : decode cX3_kindsOf 28 = .ok (.getfield 18, 3) := by decide +kernel
theorem dX3_kindsOf_31 : decode cX3_kindsOf 31 = .ok (.iload 6, 2) := by decide +kernel
theorem dX3_kindsOf_33 : decode cX3_kindsOf 33 = .ok (.iaload, 1) := by decide +kernel
theorem dX3_kindsOf_34 : decode cX3_kindsOf 34 = .ok (.bipush 64, 2) := by decide +kernel
theorem dX3_kindsOf_36 : decode cX3_kindsOf 36 = .ok (.if_icmp .ge 18, 3) := by decide +kernel
theorem dX3_kindsOf_39 : decode cX3_kindsOf 39 = .ok (.lload_n 2, 1) := by decide +kernel
theorem dX3_kindsOf_40 : decode cX3_kindsOf 40 = .ok (.lconst 1, 1) := by decide +kernel
theorem dX3_kindsOf_41 : decode cX3_kindsOf 41 = .ok (.aload_n 0, 1) := by decide +kernel
theorem dX3_kindsOf_42 : decode cX3_kindsOf 42 = .ok (.getfield 18, 3) := by decide +kernel
theorem dX3_kindsOf_45 : decode cX3_kindsOf 45 = .ok (.iload 6, 2) := by decide +kernel
theorem dX3_kindsOf_47 : decode cX3_kindsOf 47 = .ok (.iaload, 1) := by decide +kernel
theorem dX3_kindsOf_48 : decode cX3_kindsOf 48 = .ok (.lshl, 1) := by decide +kernel
theorem dX3_kindsOf_49 : decode cX3_kindsOf 49 = .ok (.lor, 1) := by decide +kernel
theorem dX3_kindsOf_50 : decode cX3_kindsOf 50 = .ok (.lstore_n 2, 1) := by decide +kernel
theorem dX3_kindsOf_51 : decode cX3_kindsOf 51 = .ok (.goto 17, 3) := by decide +kernel
theorem dX3_kindsOf_54 : decode cX3_kindsOf 54 = .ok (.lload 4, 2) := by decide +kernel
theorem dX3_kindsOf_56 : decode cX3_kindsOf 56 = .ok (.lconst 1, 1) := by decide +kernel
theorem dX3_kindsOf_57 : decode cX3_kindsOf 57 = .ok (.aload_n 0, 1) := by decide +kernel
theorem dX3_kindsOf_58 : decode cX3_kindsOf 58 = .ok (.getfield 18, 3) := by decide +kernel
theorem dX3_kindsOf_61 : decode cX3_kindsOf 61 = .ok (.iload 6, 2) := by decide +kernel
theorem dX3_kindsOf_63 : decode cX3_kindsOf 63 = .ok (.iaload, 1) := by decide +kernel
theorem dX3_kindsOf_64 : decode cX3_kindsOf 64 = .ok (.lshl, 1) := by decide +kernel
theorem dX3_kindsOf_65 : decode cX3_kindsOf 65 = .ok (.lor, 1) := by decide +kernel
theorem dX3_kindsOf_66 : decode cX3_kindsOf 66 = .ok (.lstore 4, 2) := by decide +kernel
theorem dX3_kindsOf_68 : decode cX3_kindsOf 68 = .ok (.iinc 6 1, 3) := by decide +kernel
theorem dX3_kindsOf_71 : decode cX3_kindsOf 71 = .ok (.goto (-63), 3) := by decide +kernel
theorem dX3_kindsOf_74 : decode cX3_kindsOf 74 = .ok (.lload_n 2, 1) := by decide +kernel
theorem dX3_kindsOf_75 : decode cX3_kindsOf 75 = .ok (.invokestatic 47, 3) := by decide +kernel
theorem dX3_kindsOf_78 : decode cX3_kindsOf 78 = .ok (.lload 4, 2) := by decide +kernel
theorem dX3_kindsOf_80 : decode cX3_kindsOf 80 = .ok (.invokestatic 47, 3) := by decide +kernel
theorem dX3_kindsOf_83 : decode cX3_kindsOf 83 = .ok (.iadd, 1) := by decide +kernel
theorem dX3_kindsOf_84 : decode cX3_kindsOf 84 = .ok (.ireturn, 1) := by decide +kernel
theorem dX4_named_0 : decode cX4_named 0 = .ok (.iload_n 0, 1) := by decide +kernel
theorem dX4_named_1 : decode cX4_named 1 = .ok (.lookupswitch 59 #[(45, 55), (97, 43), (98, 47), (118, 51)], 43) := by decide +kernel
theorem dX4_named_44 : decode cX4_named 44 = .ok (.getstatic 5, 3) := by decide +kernel
theorem dX4_named_47 : decode cX4_named 47 = .ok (.areturn, 1) := by decide +kernel
theorem dX4_named_48 : decode cX4_named 48 = .ok (.getstatic 9, 3) := by decide +kernel
theorem dX4_named_51 : decode cX4_named 51 = .ok (.areturn, 1) := by decide +kernel
theorem dX4_named_52 : decode cX4_named 52 = .ok (.getstatic 12, 3) := by decide +kernel
theorem dX4_named_55 : decode cX4_named 55 = .ok (.areturn, 1) := by decide +kernel
theorem dX4_named_56 : decode cX4_named 56 = .ok (.getstatic 15, 3) := by decide +kernel
theorem dX4_named_59 : decode cX4_named 59 = .ok (.areturn, 1) := by decide +kernel
theorem dX4_named_60 : decode cX4_named 60 = .ok (.aconst_null, 1) := by decide +kernel
theorem dX4_named_61 : decode cX4_named 61 = .ok (.areturn, 1) := by decide +kernel
theorem dX4_keyOf_0 : decode cX4_keyOf 0 = .ok (.aload_n 0, 1) := by decide +kernel
theorem dX4_keyOf_1 : decode cX4_keyOf 1 = .ok (.getstatic 5, 3) := by decide +kernel
theorem dX4_keyOf_4 : decode cX4_keyOf 4 = .ok (.if_acmp .ne 10, 3) := by decide +kernel
theorem dX4_keyOf_7 : decode cX4_keyOf 7 = .ok (.aload_n 1, 1) := by decide +kernel
theorem dX4_keyOf_8 : decode cX4_keyOf 8 = .ok (.getfield 37, 3) := by decide +kernel
theorem dX4_keyOf_11 : decode cX4_keyOf 11 = .ok (.iload_n 2, 1) := by decide +kernel
theorem dX4_keyOf_12 : decode cX4_keyOf 12 = .ok (.iaload, 1) := by decide +kernel
theorem dX4_keyOf_13 : decode cX4_keyOf 13 = .ok (.ireturn, 1) := by decide +kernel
theorem dX4_keyOf_14 : decode cX4_keyOf 14 = .ok (.aload_n 0, 1) := by decide +kernel
theorem dX4_keyOf_15 : decode cX4_keyOf 15 = .ok (.getstatic 9, 3) := by decide +kernel
theorem dX4_keyOf_18 : decode cX4_keyOf 18 = .ok (.if_acmp .ne 10, 3) := by decide +kernel
theorem dX4_keyOf_21 : decode cX4_keyOf 21 = .ok (.aload_n 1, 1) := by decide +kernel
theorem dX4_keyOf_22 : decode cX4_keyOf 22 = .ok (.getfield 43, 3) := by decide +kernel
theorem dX4_keyOf_25 : decode cX4_keyOf 25 = .ok (.iload_n 2, 1) := by decide +kernel
theorem dX4_keyOf_26 : decode cX4_keyOf 26 = .ok (.iaload, 1) := by decide +kernel
theorem dX4_keyOf_27 : decode cX4_keyOf 27 = .ok (.ireturn, 1) := by decide +kernel
theorem dX4_keyOf_28 : decode cX4_keyOf 28 = .ok (.aload_n 0, 1) := by decide +kernel
theorem dX4_keyOf_29 : decode cX4_keyOf 29 = .ok (.getstatic 12, 3) := by decide +kernel
theorem dX4_keyOf_32 : decode cX4_keyOf 32 = .ok (.if_acmp .ne 20, 3) := by decide +kernel
theorem dX4_keyOf_35 : decode cX4_keyOf 35 = .ok (.aload_n 1, 1) := by decide +kernel
theorem dX4_keyOf_36 : decode cX4_keyOf 36 = .ok (.getfield 46, 3) := by decide +kernel
theorem dX4_keyOf_39 : decode cX4_keyOf 39 = .ok (.iload_n 2, 1) := by decide +kernel
theorem dX4_keyOf_40 : decode cX4_keyOf 40 = .ok (.iaload, 1) := by decide +kernel
theorem dX4_keyOf_41 : decode cX4_keyOf 41 = .ok (.iconst 1, 1) := by decide +kernel
theorem dX4_keyOf_42 : decode cX4_keyOf 42 = .ok (.iconst 5, 1) := by decide +kernel
theorem dX4_keyOf_43 : decode cX4_keyOf 43 = .ok (.iload_n 3, 1) := by decide +kernel
theorem dX4_keyOf_44 : decode cX4_keyOf 44 = .ok (.imul, 1) := by decide +kernel
theorem dX4_keyOf_45 : decode cX4_keyOf 45 = .ok (.invokestatic 49, 3) := by decide +kernel
theorem dX4_keyOf_48 : decode cX4_keyOf 48 = .ok (.invokestatic 55, 3) := by decide +kernel
theorem dX4_keyOf_51 : decode cX4_keyOf 51 = .ok (.ireturn, 1) := by decide +kernel
theorem dX4_keyOf_52 : decode cX4_keyOf 52 = .ok (.iconst 0, 1) := by decide +kernel
theorem dX4_keyOf_53 : decode cX4_keyOf 53 = .ok (.ireturn, 1) := by decide +kernel
theorem dX4_binOf_0 : decode cX4_binOf 0 = .ok (.iload_n 0, 1) := by decide +kernel
theorem dX4_binOf_1 : decode cX4_binOf 1 = .ok (.bipush 100, 2) := by decide +kernel
theorem dX4_binOf_3 : decode cX4_binOf 3 = .ok (.if_icmp .ne 8, 3) := by decide +kernel
theorem dX4_binOf_6 : decode cX4_binOf 6 = .ok (.bipush 20, 2) := by decide +kernel
theorem dX4_binOf_8 : decode cX4_binOf 8 = .ok (.goto 6, 3) := by decide +kernel
theorem dX4_binOf_11 : decode cX4_binOf 11 = .ok (.iload_n 0, 1) := by decide +kernel
theorem dX4_binOf_12 : decode cX4_binOf 12 = .ok (.iload_n 1, 1) := by decide +kernel
theorem dX4_binOf_13 : decode cX4_binOf 13 = .ok (.idiv, 1) := by decide +kernel
theorem dX4_binOf_14 : decode cX4_binOf 14 = .ok (.ireturn, 1) := by decide +kernel
theorem dX5_startingWith_0 : decode cX5_startingWith 0 = .ok (.iload_n 0, 1) := by decide +kernel
theorem dX5_startingWith_1 : decode cX5_startingWith 1 = .ok (.lookupswitch 71 #[(99, 51), (107, 67), (108, 63), (109, 59), (115, 55)], 51) := by decide +kernel
theorem dX5_startingWith_52 : decode cX5_startingWith 52 = .ok (.getstatic 5, 3) := by decide +kernel
theorem dX5_startingWith_55 : decode cX5_startingWith 55 = .ok (.areturn, 1) := by decide +kernel
theorem dX5_startingWith_56 : decode cX5_startingWith 56 = .ok (.getstatic 9, 3) := by decide +kernel
theorem dX5_startingWith_59 : decode cX5_startingWith 59 = .ok (.areturn, 1) := by decide +kernel
theorem dX5_startingWith_60 : decode cX5_startingWith 60 = .ok (.getstatic 12, 3) := by decide +kernel
theorem dX5_startingWith_63 : decode cX5_startingWith 63 = .ok (.areturn, 1) := by decide +kernel
theorem dX5_startingWith_64 : decode cX5_startingWith 64 = .ok (.getstatic 15, 3) := by decide +kernel
theorem dX5_startingWith_67 : decode cX5_startingWith 67 = .ok (.areturn, 1) := by decide +kernel
theorem dX5_startingWith_68 : decode cX5_startingWith 68 = .ok (.getstatic 18, 3) := by decide +kernel
theorem dX5_startingWith_71 : decode cX5_startingWith 71 = .ok (.areturn, 1) := by decide +kernel
theorem dX5_startingWith_72 : decode cX5_startingWith 72 = .ok (.aconst_null, 1) := by decide +kernel
theorem dX5_startingWith_73 : decode cX5_startingWith 73 = .ok (.areturn, 1) := by decide +kernel
theorem dX5_of_0 : decode cX5_of 0 = .ok (.iload_n 2, 1) := by decide +kernel
theorem dX5_of_1 : decode cX5_of 1 = .ok (.ifCond .ne 6, 3) := by decide +kernel
theorem dX5_of_4 : decode cX5_of 4 = .ok (.bipush (-9), 2) := by decide +kernel
theorem dX5_of_6 : decode cX5_of 6 = .ok (.ireturn, 1) := by decide +kernel
theorem dX5_of_7 : decode cX5_of 7 = .ok (.aload_n 0, 1) := by decide +kernel
theorem dX5_of_8 : decode cX5_of 8 = .ok (.getstatic 5, 3) := by decide +kernel
theorem dX5_of_11 : decode cX5_of 11 = .ok (.if_acmp .ne 8, 3) := by decide +kernel
theorem dX5_of_14 : decode cX5_of 14 = .ok (.iload_n 2, 1) := by decide +kernel
theorem dX5_of_15 : decode cX5_of 15 = .ok (.invokestatic 44, 3) := by decide +kernel
theorem dX5_of_18 : decode cX5_of 18 = .ok (.ireturn, 1) := by decide +kernel
theorem dX5_of_19 : decode cX5_of 19 = .ok (.iload_n 2, 1) := by decide +kernel
theorem dX5_of_20 : decode cX5_of 20 = .ok (.aload_n 1, 1) := by decide +kernel
theorem dX5_of_21 : decode cX5_of 21 = .ok (.invokevirtual 50, 3) := by decide +kernel
theorem dX5_of_24 : decode cX5_of 24 = .ok (.iconst (-1), 1) := by decide +kernel
theorem dX5_of_25 : decode cX5_of 25 = .ok (.ixor, 1) := by decide +kernel
theorem dX5_of_26 : decode cX5_of 26 = .ok (.iand, 1) := by decide +kernel
theorem dX5_of_27 : decode cX5_of 27 = .ok (.istore_n 3, 1) := by decide +kernel
theorem dX5_of_28 : decode cX5_of 28 = .ok (.aload_n 0, 1) := by decide +kernel
theorem dX5_of_29 : decode cX5_of 29 = .ok (.getstatic 9, 3) := by decide +kernel
theorem dX5_of_32 : decode cX5_of 32 = .ok (.if_acmp .ne 9, 3) := by decide +kernel
theorem dX5_of_35 : decode cX5_of 35 = .ok (.aload_n 1, 1) := by decide +kernel
theorem dX5_of_36 : decode cX5_of 36 = .ok (.iload_n 3, 1) := by decide +kernel
theorem dX5_of_37 : decode cX5_of 37 = .ok (.invokevirtual 56, 3) := by decide +kernel
theorem dX5_of_40 : decode cX5_of 40 = .ok (.ireturn, 1) := by decide +kernel
theorem dX5_of_41 : decode cX5_of 41 = .ok (.aload_n 0, 1) := by decide +kernel
theorem dX5_of_42 : decode cX5_of 42 = .ok (.getstatic 12, 3) := by decide +kernel
theorem dX5_of_45 : decode cX5_of 45 = .ok (.if_acmp .ne 9, 3) := by decide +kernel
theorem dX5_of_48 : decode cX5_of 48 = .ok (.aload_n 1, 1) := by decide +kernel
theorem dX5_of_49 : decode cX5_of 49 = .ok (.iload_n 3, 1) := by decide +kernel
theorem dX5_of_50 : decode cX5_of 50 = .ok (.invokevirtual 59, 3) := by decide +kernel
theorem dX5_of_53 : decode cX5_of 53 = .ok (.ireturn, 1) := by decide +kernel
theorem dX5_of_54 : decode cX5_of 54 = .ok (.aload_n 0, 1) := by decide +kernel
theorem dX5_of_55 : decode cX5_of 55 = .ok (.getstatic 15, 3) := by decide +kernel
theorem dX5_of_58 : decode cX5_of 58 = .ok (.if_acmp .ne 11, 3) := by decide +kernel
theorem dX5_of_61 : decode cX5_of 61 = .ok (.aload_n 1, 1) := by decide +kernel
theorem dX5_of_62 : decode cX5_of 62 = .ok (.iload_n 3, 1) := by decide +kernel
theorem dX5_of_63 : decode cX5_of 63 = .ok (.invokevirtual 62, 3) := by decide +kernel
theorem dX5_of_66 : decode cX5_of 66 = .ok (.goto 8, 3) := by decide +kernel
theorem dX5_of_69 : decode cX5_of 69 = .ok (.aload_n 1, 1) := by decide +kernel
theorem dX5_of_70 : decode cX5_of 70 = .ok (.iload_n 3, 1) := by decide +kernel
theorem dX5_of_71 : decode cX5_of 71 = .ok (.invokevirtual 65, 3) := by decide +kernel
theorem dX5_of_74 : decode cX5_of 74 = .ok (.ireturn, 1) := by decide +kernel
theorem dX6_init_0 : decode cX6_init 0 = .ok (.aload_n 0, 1) := by decide +kernel
theorem dX6_init_1 : decode cX6_init 1 = .ok (.invokespecial 1, 3) := by decide +kernel
theorem dX6_init_4 : decode cX6_init 4 = .ok (.aload_n 0, 1) := by decide +kernel
theorem dX6_init_5 : decode cX6_init 5 = .ok (.getstatic 7, 3) := by decide +kernel
theorem dX6_init_8 : decode cX6_init 8 = .ok (.putfield 13, 3) := by decide +kernel
theorem dX6_init_11 : decode cX6_init 11 = .ok (.aload_n 0, 1) := by decide +kernel
theorem dX6_init_12 : decode cX6_init 12 = .ok (.getstatic 18, 3) := by decide +kernel
theorem dX6_init_15 : decode cX6_init 15 = .ok (.putfield 21, 3) := by decide +kernel
theorem dX6_init_18 : decode cX6_init 18 = .ok (.aload_n 0, 1) := by decide +kernel
theorem dX6_init_19 : decode cX6_init 19 = .ok (.getstatic 24, 3) := by decide +kernel
theorem dX6_init_22 : decode cX6_init 22 = .ok (.putfield 30, 3) := by decide +kernel
theorem dX6_init_25 : decode cX6_init 25 = .ok (.aload_n 0, 1) := by decide +kernel
theorem dX6_init_26 : decode cX6_init 26 = .ok (.iconst 0, 1) := by decide +kernel
theorem dX6_init_27 : decode cX6_init 27 = .ok (.putfield 33, 3) := by decide +kernel
theorem dX6_init_30 : decode cX6_init 30 = .ok (.aload_n 0, 1) := by decide +kernel
theorem dX6_init_31 : decode cX6_init 31 = .ok (.iconst 1, 1) := by decide +kernel
theorem dX6_init_32 : decode cX6_init 32 = .ok (.putfield 37, 3) := by decide +kernel
theorem dX6_init_35 : decode cX6_init 35 = .ok (.return_, 1) := by decide +kernel
theorem dX7_init_0 : decode cX7_init 0 = .ok (.aload_n 0, 1) := by decide +kernel
theorem dX7_init_1 : decode cX7_init 1 = .ok (.invokespecial 3, 3) := by decide +kernel
theorem dX7_init_4 : decode cX7_init 4 = .ok (.aload_n 0, 1) := by decide +kernel
theorem dX7_init_5 : decode cX7_init 5 = .ok (.bipush 32, 2) := by decide +kernel
theorem dX7_init_7 : decode cX7_init 7 = .ok (.newarray .int, 2) := by decide +kernel
theorem dX7_init_9 : decode cX7_init 9 = .ok (.putfield 9, 3) := by decide +kernel
theorem dX7_init_12 : decode cX7_init 12 = .ok (.aload_n 0, 1) := by decide +kernel
theorem dX7_init_13 : decode cX7_init 13 = .ok (.iconst 0, 1) := by decide +kernel
theorem dX7_init_14 : decode cX7_init 14 = .ok (.putfield 15, 3) := by decide +kernel
theorem dX7_init_17 : decode cX7_init 17 = .ok (.return_, 1) := by decide +kernel
theorem dX7_put_0 : decode cX7_put 0 = .ok (.aload_n 0, 1) := by decide +kernel
theorem dX7_put_1 : decode cX7_put 1 = .ok (.getfield 15, 3) := by decide +kernel
theorem dX7_put_4 : decode cX7_put 4 = .ok (.aload_n 0, 1) := by decide +kernel
theorem dX7_put_5 : decode cX7_put 5 = .ok (.getfield 9, 3) := by decide +kernel
theorem dX7_put_8 : decode cX7_put 8 = .ok (.arraylength, 1) := by decide +kernel
theorem dX7_put_9 : decode cX7_put 9 = .ok (.if_icmp .ge 7, 3) := by decide +kernel
theorem dX7_put_12 : decode cX7_put 12 = .ok (.iconst 1, 1) := by decide +kernel
theorem dX7_put_13 : decode cX7_put 13 = .ok (.goto 4, 3) := by decide +kernel
theorem dX7_put_16 : decode cX7_put 16 = .ok (.iconst 0, 1) := by decide +kernel
theorem dX7_put_17 : decode cX7_put 17 = .ok (.istore_n 2, 1) := by decide +kernel
theorem dX7_put_18 : decode cX7_put 18 = .ok (.iload_n 2, 1) := by decide +kernel
theorem dX7_put_19 : decode cX7_put 19 = .ok (.ifCond .eq 23, 3) := by decide +kernel
theorem dX7_put_22 : decode cX7_put 22 = .ok (.aload_n 0, 1) := by decide +kernel
theorem dX7_put_23 : decode cX7_put 23 = .ok (.getfield 9, 3) := by decide +kernel
theorem dX7_put_26 : decode cX7_put 26 = .ok (.aload_n 0, 1) := by decide +kernel
theorem dX7_put_27 : decode cX7_put 27 = .ok (.getfield 15, 3) := by decide +kernel
theorem dX7_put_30 : decode cX7_put 30 = .ok (.iload_n 1, 1) := by decide +kernel
theorem dX7_put_31 : decode cX7_put 31 = .ok (.iastore, 1) := by decide +kernel
theorem dX7_put_32 : decode cX7_put 32 = .ok (.aload_n 0, 1) := by decide +kernel
theorem dX7_put_33 : decode cX7_put 33 = .ok (.dup, 1) := by decide +kernel
theorem dX7_put_34 : decode cX7_put 34 = .ok (.getfield 15, 3) := by decide +kernel
theorem dX7_put_37 : decode cX7_put 37 = .ok (.iconst 1, 1) := by decide +kernel
theorem dX7_put_38 : decode cX7_put 38 = .ok (.iadd, 1) := by decide +kernel
theorem dX7_put_39 : decode cX7_put 39 = .ok (.putfield 15, 3) := by decide +kernel
theorem dX7_put_42 : decode cX7_put 42 = .ok (.iload_n 2, 1) := by decide +kernel
theorem dX7_put_43 : decode cX7_put 43 = .ok (.ireturn, 1) := by decide +kernel
theorem dX7_readInto_0 : decode cX7_readInto 0 = .ok (.aload_n 0, 1) := by decide +kernel
theorem dX7_readInto_1 : decode cX7_readInto 1 = .ok (.iconst 0, 1) := by decide +kernel
theorem dX7_readInto_2 : decode cX7_readInto 2 = .ok (.invokevirtual 19, 3) := by decide +kernel
theorem dX7_readInto_5 : decode cX7_readInto 5 = .ok (.invokestatic 23, 3) := by decide +kernel
theorem dX7_readInto_8 : decode cX7_readInto 8 = .ok (.astore_n 2, 1) := by decide +kernel
theorem dX7_readInto_9 : decode cX7_readInto 9 = .ok (.aload_n 2, 1) := by decide +kernel
theorem dX7_readInto_10 : decode cX7_readInto 10 = .ok (.ifnull 10, 3) := by decide +kernel
theorem dX7_readInto_13 : decode cX7_readInto 13 = .ok (.aload_n 2, 1) := by decide +kernel
theorem dX7_readInto_14 : decode cX7_readInto 14 = .ok (.getstatic 29, 3) := by decide +kernel
theorem dX7_readInto_17 : decode cX7_readInto 17 = .ok (.if_acmp .ne 5, 3) := by decide +kernel
theorem dX7_readInto_20 : decode cX7_readInto 20 = .ok (.iconst 0, 1) := by decide +kernel
theorem dX7_readInto_21 : decode cX7_readInto 21 = .ok (.ireturn, 1) := by decide +kernel
theorem dX7_readInto_22 : decode cX7_readInto 22 = .ok (.aload_n 0, 1) := by decide +kernel
theorem dX7_readInto_23 : decode cX7_readInto 23 = .ok (.iconst 1, 1) := by decide +kernel
theorem dX7_readInto_24 : decode cX7_readInto 24 = .ok (.invokevirtual 19, 3) := by decide +kernel
theorem dX7_readInto_27 : decode cX7_readInto 27 = .ok (.invokestatic 23, 3) := by decide +kernel
theorem dX7_readInto_30 : decode cX7_readInto 30 = .ok (.astore_n 3, 1) := by decide +kernel
theorem dX7_readInto_31 : decode cX7_readInto 31 = .ok (.aload_n 3, 1) := by decide +kernel
theorem dX7_readInto_32 : decode cX7_readInto 32 = .ok (.ifnull 8, 3) := by decide +kernel
theorem dX7_readInto_35 : decode cX7_readInto 35 = .ok (.aload_n 3, 1) := by decide +kernel
theorem dX7_readInto_36 : decode cX7_readInto 36 = .ok (.aload_n 2, 1) := by decide +kernel
theorem dX7_readInto_37 : decode cX7_readInto 37 = .ok (.if_acmp .ne 5, 3) := by decide +kernel
theorem dX7_readInto_40 : decode cX7_readInto 40 = .ok (.iconst 1, 1) := by decide +kernel
theorem dX7_readInto_41 : decode cX7_readInto 41 = .ok (.ireturn, 1) := by decide +kernel
theorem dX7_readInto_42 : decode cX7_readInto 42 = .ok (.aload_n 0, 1) := by decide +kernel
theorem dX7_readInto_43 : decode cX7_readInto 43 = .ok (.iconst 2, 1) := by decide +kernel
theorem dX7_readInto_44 : decode cX7_readInto 44 = .ok (.invokevirtual 19, 3) := by decide +kernel
theorem dX7_readInto_47 : decode cX7_readInto 47 = .ok (.invokestatic 33, 3) := by decide +kernel
theorem dX7_readInto_50 : decode cX7_readInto 50 = .ok (.astore 4, 2) := by decide +kernel
theorem dX7_readInto_52 : decode cX7_readInto 52 = .ok (.aload 4, 2) := by decide +kernel
theorem dX7_readInto_54 : decode cX7_readInto 54 = .ok (.ifnonnull 5, 3) := by decide +kernel
theorem dX7_readInto_57 : decode cX7_readInto 57 = .ok (.iconst 2, 1) := by decide +kernel
theorem dX7_readInto_58 : decode cX7_readInto 58 = .ok (.ireturn, 1) := by decide +kernel
theorem dX7_readInto_59 : decode cX7_readInto 59 = .ok (.iconst 2, 1) := by decide +kernel
theorem dX7_readInto_60 : decode cX7_readInto 60 = .ok (.aload_n 0, 1) := by decide +kernel
theorem dX7_readInto_61 : decode cX7_readInto 61 = .ok (.aload 4, 2) := by decide +kernel
theorem dX7_readInto_63 : decode cX7_readInto 63 = .ok (.getfield 39, 3) := by decide +kernel
theorem dX7_readInto_66 : decode cX7_readInto 66 = .ok (.invokevirtual 43, 3) := by decide +kernel
theorem dX7_readInto_69 : decode cX7_readInto 69 = .ok (.iadd, 1) := by decide +kernel
theorem dX7_readInto_70 : decode cX7_readInto 70 = .ok (.istore 5, 2) := by decide +kernel
theorem dX7_readInto_72 : decode cX7_readInto 72 = .ok (.iload 5, 2) := by decide +kernel
theorem dX7_readInto_74 : decode cX7_readInto 74 = .ok (.iconst 2, 1) := by decide +kernel
theorem dX7_readInto_75 : decode cX7_readInto 75 = .ok (.aload 4, 2) := by decide +kernel
theorem dX7_readInto_77 : decode cX7_readInto 77 = .ok (.getfield 39, 3) := by decide +kernel
theorem dX7_readInto_80 : decode cX7_readInto 80 = .ok (.invokevirtual 47, 3) := by decide +kernel
theorem dX7_readInto_83 : decode cX7_readInto 83 = .ok (.iadd, 1) := by decide +kernel
theorem dX7_readInto_84 : decode cX7_readInto 84 = .ok (.if_icmp .lt 14, 3) := by decide +kernel
theorem dX7_readInto_87 : decode cX7_readInto 87 = .ok (.aload_n 0, 1) := by decide +kernel
theorem dX7_readInto_88 : decode cX7_readInto 88 = .ok (.iload 5, 2) := by decide +kernel
theorem dX7_readInto_90 : decode cX7_readInto 90 = .ok (.invokevirtual 19, 3) := by decide +kernel
theorem dX7_readInto_93 : decode cX7_readInto 93 = .ok (.bipush 46, 2) := by decide +kernel
theorem dX7_readInto_95 : decode cX7_readInto 95 = .ok (.if_icmp .eq 6, 3) := by decide +kernel
theorem dX7_readInto_98 : decode cX7_readInto 98 = .ok (.iload 5, 2) := by decide +kernel
theorem dX7_readInto_100 : decode cX7_readInto 100 = .ok (.ireturn, 1) := by decide +kernel
theorem dX7_readInto_101 : decode cX7_readInto 101 = .ok (.aload_n 0, 1) := by decide +kernel
theorem dX7_readInto_102 : decode cX7_readInto 102 = .ok (.iload 5, 2) := by decide +kernel
theorem dX7_readInto_104 : decode cX7_readInto 104 = .ok (.iconst 1, 1) := by decide +kernel
theorem dX7_readInto_105 : decode cX7_readInto 105 = .ok (.iadd, 1) := by decide +kernel
theorem dX7_readInto_106 : decode cX7_readInto 106 = .ok (.invokevirtual 52, 3) := by decide +kernel
theorem dX7_readInto_109 : decode cX7_readInto 109 = .ok (.istore 6, 2) := by decide +kernel
theorem dX7_readInto_111 : decode cX7_readInto 111 = .ok (.iload 6, 2) := by decide +kernel
theorem dX7_readInto_113 : decode cX7_readInto 113 = .ok (.ifCond .lt 9, 3) := by decide +kernel
theorem dX7_readInto_116 : decode cX7_readInto 116 = .ok (.iload 6, 2) := by decide +kernel
theorem dX7_readInto_118 : decode cX7_readInto 118 = .ok (.iconst 4, 1) := by decide +kernel
theorem dX7_readInto_119 : decode cX7_readInto 119 = .ok (.if_icmp .le 8, 3) := by decide +kernel
theorem dX7_readInto_122 : decode cX7_readInto 122 = .ok (.iload 5, 2) := by decide +kernel
theorem dX7_readInto_124 : decode cX7_readInto 124 = .ok (.iconst 1, 1) := by decide +kernel
theorem dX7_readInto_125 : decode cX7_readInto 125 = .ok (.iadd, 1) := by decide +kernel
theorem dX7_readInto_126 : decode cX7_readInto 126 = .ok (.ireturn, 1) := by decide +kernel
theorem dX7_readInto_127 : decode cX7_readInto 127 = .ok (.aload_n 0, 1) := by decide +kernel
theorem dX7_readInto_128 : decode cX7_readInto 128 = .ok (.iload 5, 2) := by decide +kernel
theorem dX7_readInto_130 : decode cX7_readInto 130 = .ok (.iconst 2, 1) := by decide +kernel
theorem dX7_readInto_131 : decode cX7_readInto 131 = .ok (.iadd, 1) := by decide +kernel
theorem dX7_readInto_132 : decode cX7_readInto 132 = .ok (.invokevirtual 52, 3) := by decide +kernel
theorem dX7_readInto_135 : decode cX7_readInto 135 = .ok (.istore 7, 2) := by decide +kernel
theorem dX7_readInto_137 : decode cX7_readInto 137 = .ok (.iload 7, 2) := by decide +kernel
theorem dX7_readInto_139 : decode cX7_readInto 139 = .ok (.iconst 1, 1) := by decide +kernel
theorem dX7_readInto_140 : decode cX7_readInto 140 = .ok (.if_icmp .ge 8, 3) := by decide +kernel
theorem dX7_readInto_143 : decode cX7_readInto 143 = .ok (.iload 5, 2) := by decide +kernel
theorem dX7_readInto_145 : decode cX7_readInto 145 = .ok (.iconst 2, 1) := by decide +kernel
theorem dX7_readInto_146 : decode cX7_readInto 146 = .ok (.iadd, 1) := by decide +kernel
theorem dX7_readInto_147 : decode cX7_readInto 147 = .ok (.ireturn, 1) := by decide +kernel
theorem dX7_readInto_148 : decode cX7_readInto 148 = .ok (.aload_n 0, 1) := by decide +kernel
theorem dX7_readInto_149 : decode cX7_readInto 149 = .ok (.getfield 15, 3) := by decide +kernel
theorem dX7_readInto_152 : decode cX7_readInto 152 = .ok (.iload 5, 2) := by decide +kernel
theorem dX7_readInto_154 : decode cX7_readInto 154 = .ok (.iconst 3, 1) := by decide +kernel
theorem dX7_readInto_155 : decode cX7_readInto 155 = .ok (.iadd, 1) := by decide +kernel
theorem dX7_readInto_156 : decode cX7_readInto 156 = .ok (.if_icmp .le 8, 3) := by decide +kernel
theorem dX7_readInto_159 : decode cX7_readInto 159 = .ok (.iload 5, 2) := by decide +kernel
theorem dX7_readInto_161 : decode cX7_readInto 161 = .ok (.iconst 3, 1) := by decide +kernel
theorem dX7_readInto_162 : decode cX7_readInto 162 = .ok (.iadd, 1) := by decide +kernel
theorem dX7_readInto_163 : decode cX7_readInto 163 = .ok (.ireturn, 1) := by decide +kernel
theorem dX7_readInto_164 : decode cX7_readInto 164 = .ok (.aload_n 1, 1) := by decide +kernel
theorem dX7_readInto_165 : decode cX7_readInto 165 = .ok (.aload_n 2, 1) := by decide +kernel
theorem dX7_readInto_166 : decode cX7_readInto 166 = .ok (.putfield 55, 3) := by decide +kernel
theorem dX7_readInto_169 : decode cX7_readInto 169 = .ok (.aload_n 1, 1) := by decide +kernel
theorem dX7_readInto_170 : decode cX7_readInto 170 = .ok (.aload_n 3, 1) := by decide +kernel
theorem dX7_readInto_171 : decode cX7_readInto 171 = .ok (.putfield 60, 3) := by decide +kernel
theorem dX7_readInto_174 : decode cX7_readInto 174 = .ok (.aload_n 1, 1) := by decide +kernel
theorem dX7_readInto_175 : decode cX7_readInto 175 = .ok (.aload 4, 2) := by decide +kernel
theorem dX7_readInto_177 : decode cX7_readInto 177 = .ok (.putfield 63, 3) := by decide +kernel
theorem dX7_readInto_180 : decode cX7_readInto 180 = .ok (.aload_n 1, 1) := by decide +kernel
theorem dX7_readInto_181 : decode cX7_readInto 181 = .ok (.iload 6, 2) := by decide +kernel
theorem dX7_readInto_183 : decode cX7_readInto 183 = .ok (.putfield 67, 3) := by decide +kernel
theorem dX7_readInto_186 : decode cX7_readInto 186 = .ok (.aload_n 1, 1) := by decide +kernel
theorem dX7_readInto_187 : decode cX7_readInto 187 = .ok (.iload 7, 2) := by decide +kernel
theorem dX7_readInto_189 : decode cX7_readInto 189 = .ok (.putfield 70, 3) := by decide +kernel
theorem dX7_readInto_192 : decode cX7_readInto 192 = .ok (.bipush (-9), 2) := by decide +kernel
theorem dX7_readInto_194 : decode cX7_readInto 194 = .ok (.ireturn, 1) := by decide +kernel
theorem dX7_spelt_0 : decode cX7_spelt 0 = .ok (.iconst 0, 1) := by decide +kernel
theorem dX7_spelt_1 : decode cX7_spelt 1 = .ok (.istore_n 2, 1) := by decide +kernel
theorem dX7_spelt_2 : decode cX7_spelt 2 = .ok (.iload_n 2, 1) := by decide +kernel
theorem dX7_spelt_3 : decode cX7_spelt 3 = .ok (.aload_n 1, 1) := by decide +kernel
theorem dX7_spelt_4 : decode cX7_spelt 4 = .ok (.invokevirtual 47, 3) := by decide +kernel
theorem dX7_spelt_7 : decode cX7_spelt 7 = .ok (.if_icmp .ge 26, 3) := by decide +kernel
theorem dX7_spelt_10 : decode cX7_spelt 10 = .ok (.aload_n 0, 1) := by decide +kernel
theorem dX7_spelt_11 : decode cX7_spelt 11 = .ok (.iconst 2, 1) := by decide +kernel
theorem dX7_spelt_12 : decode cX7_spelt 12 = .ok (.iload_n 2, 1) := by decide +kernel
theorem dX7_spelt_13 : decode cX7_spelt 13 = .ok (.iadd, 1) := by decide +kernel
theorem dX7_spelt_14 : decode cX7_spelt 14 = .ok (.invokevirtual 19, 3) := by decide +kernel
theorem dX7_spelt_17 : decode cX7_spelt 17 = .ok (.aload_n 1, 1) := by decide +kernel
theorem dX7_spelt_18 : decode cX7_spelt 18 = .ok (.iload_n 2, 1) := by decide +kernel
theorem dX7_spelt_19 : decode cX7_spelt 19 = .ok (.invokevirtual 73, 3) := by decide +kernel
theorem dX7_spelt_22 : decode cX7_spelt 22 = .ok (.if_icmp .eq 5, 3) := by decide +kernel
theorem dX7_spelt_25 : decode cX7_spelt 25 = .ok (.iload_n 2, 1) := by decide +kernel
theorem dX7_spelt_26 : decode cX7_spelt 26 = .ok (.ireturn, 1) := by decide +kernel
theorem dX7_spelt_27 : decode cX7_spelt 27 = .ok (.iinc 2 1, 3) := by decide +kernel
theorem dX7_spelt_30 : decode cX7_spelt 30 = .ok (.goto (-28), 3) := by decide +kernel
theorem dX7_spelt_33 : decode cX7_spelt 33 = .ok (.aload_n 1, 1) := by decide +kernel
theorem dX7_spelt_34 : decode cX7_spelt 34 = .ok (.invokevirtual 47, 3) := by decide +kernel
theorem dX7_spelt_37 : decode cX7_spelt 37 = .ok (.ireturn, 1) := by decide +kernel
theorem dX7_letterAt_0 : decode cX7_letterAt 0 = .ok (.iload_n 1, 1) := by decide +kernel
theorem dX7_letterAt_1 : decode cX7_letterAt 1 = .ok (.ifCond .lt 20, 3) := by decide +kernel
theorem dX7_letterAt_4 : decode cX7_letterAt 4 = .ok (.iload_n 1, 1) := by decide +kernel
theorem dX7_letterAt_5 : decode cX7_letterAt 5 = .ok (.aload_n 0, 1) := by decide +kernel
theorem dX7_letterAt_6 : decode cX7_letterAt 6 = .ok (.getfield 15, 3) := by decide +kernel
theorem dX7_letterAt_9 : decode cX7_letterAt 9 = .ok (.if_icmp .ge 12, 3) := by decide +kernel
theorem dX7_letterAt_12 : decode cX7_letterAt 12 = .ok (.aload_n 0, 1) := by decide +kernel
theorem dX7_letterAt_13 : decode cX7_letterAt 13 = .ok (.getfield 9, 3) := by decide +kernel
theorem dX7_letterAt_16 : decode cX7_letterAt 16 = .ok (.iload_n 1, 1) := by decide +kernel
theorem dX7_letterAt_17 : decode cX7_letterAt 17 = .ok (.iaload, 1) := by decide +kernel
theorem dX7_letterAt_18 : decode cX7_letterAt 18 = .ok (.goto 4, 3) := by decide +kernel
theorem dX7_letterAt_21 : decode cX7_letterAt 21 = .ok (.iconst (-1), 1) := by decide +kernel
theorem dX7_letterAt_22 : decode cX7_letterAt 22 = .ok (.ireturn, 1) := by decide +kernel
theorem dX7_figureAt_0 : decode cX7_figureAt 0 = .ok (.aload_n 0, 1) := by decide +kernel
theorem dX7_figureAt_1 : decode cX7_figureAt 1 = .ok (.iload_n 1, 1) := by decide +kernel
theorem dX7_figureAt_2 : decode cX7_figureAt 2 = .ok (.invokevirtual 19, 3) := by decide +kernel
theorem dX7_figureAt_5 : decode cX7_figureAt 5 = .ok (.istore_n 2, 1) := by decide +kernel
theorem dX7_figureAt_6 : decode cX7_figureAt 6 = .ok (.iload_n 2, 1) := by decide +kernel
theorem dX7_figureAt_7 : decode cX7_figureAt 7 = .ok (.bipush 48, 2) := by decide +kernel
theorem dX7_figureAt_9 : decode cX7_figureAt 9 = .ok (.if_icmp .lt 16, 3) := by decide +kernel
theorem dX7_figureAt_12 : decode cX7_figureAt 12 = .ok (.iload_n 2, 1) := by decide +kernel
theorem dX7_figureAt_13 : decode cX7_figureAt 13 = .ok (.bipush 57, 2) := by decide +kernel
theorem dX7_figureAt_15 : decode cX7_figureAt 15 = .ok (.if_icmp .gt 10, 3) := by decide +kernel
theorem dX7_figureAt_18 : decode cX7_figureAt 18 = .ok (.iload_n 2, 1) := by decide +kernel
theorem dX7_figureAt_19 : decode cX7_figureAt 19 = .ok (.bipush 48, 2) := by decide +kernel
theorem dX7_figureAt_21 : decode cX7_figureAt 21 = .ok (.isub, 1) := by decide +kernel
theorem dX7_figureAt_22 : decode cX7_figureAt 22 = .ok (.goto 4, 3) := by decide +kernel
theorem dX7_figureAt_25 : decode cX7_figureAt 25 = .ok (.iconst (-1), 1) := by decide +kernel
theorem dX7_figureAt_26 : decode cX7_figureAt 26 = .ok (.ireturn, 1) := by decide +kernel
theorem dX8_init_0 : decode cX8_init 0 = .ok (.aload_n 0, 1) := by decide +kernel
theorem dX8_init_1 : decode cX8_init 1 = .ok (.invokespecial 3, 3) := by decide +kernel
theorem dX8_init_4 : decode cX8_init 4 = .ok (.aload_n 0, 1) := by decide +kernel
theorem dX8_init_5 : decode cX8_init 5 = .ok (.bipush 6, 2) := by decide +kernel
theorem dX8_init_7 : decode cX8_init 7 = .ok (.newarray .int, 2) := by decide +kernel
theorem dX8_init_9 : decode cX8_init 9 = .ok (.putfield 9, 3) := by decide +kernel
theorem dX8_init_12 : decode cX8_init 12 = .ok (.aload_n 0, 1) := by decide +kernel
theorem dX8_init_13 : decode cX8_init 13 = .ok (.bipush 6, 2) := by decide +kernel
theorem dX8_init_15 : decode cX8_init 15 = .ok (.newarray .int, 2) := by decide +kernel
theorem dX8_init_17 : decode cX8_init 17 = .ok (.putfield 15, 3) := by decide +kernel
theorem dX8_init_20 : decode cX8_init 20 = .ok (.aload_n 0, 1) := by decide +kernel
theorem dX8_init_21 : decode cX8_init 21 = .ok (.bipush 6, 2) := by decide +kernel
theorem dX8_init_23 : decode cX8_init 23 = .ok (.newarray .boolean, 2) := by decide +kernel
theorem dX8_init_25 : decode cX8_init 25 = .ok (.putfield 18, 3) := by decide +kernel
theorem dX8_init_28 : decode cX8_init 28 = .ok (.aload_n 0, 1) := by decide +kernel
theorem dX8_init_29 : decode cX8_init 29 = .ok (.iconst 0, 1) := by decide +kernel
theorem dX8_init_30 : decode cX8_init 30 = .ok (.putfield 22, 3) := by decide +kernel
theorem dX8_init_33 : decode cX8_init 33 = .ok (.return_, 1) := by decide +kernel
theorem dX8_put_0 : decode cX8_put 0 = .ok (.aload_n 0, 1) := by decide +kernel
theorem dX8_put_1 : decode cX8_put 1 = .ok (.getfield 22, 3) := by decide +kernel
theorem dX8_put_4 : decode cX8_put 4 = .ok (.bipush 6, 2) := by decide +kernel
theorem dX8_put_6 : decode cX8_put 6 = .ok (.if_icmp .ge 7, 3) := by decide +kernel
theorem dX8_put_9 : decode cX8_put 9 = .ok (.iconst 1, 1) := by decide +kernel
theorem dX8_put_10 : decode cX8_put 10 = .ok (.goto 4, 3) := by decide +kernel
theorem dX8_put_13 : decode cX8_put 13 = .ok (.iconst 0, 1) := by decide +kernel
theorem dX8_put_14 : decode cX8_put 14 = .ok (.istore 4, 2) := by decide +kernel
theorem dX8_put_16 : decode cX8_put 16 = .ok (.iload 4, 2) := by decide +kernel
theorem dX8_put_18 : decode cX8_put 18 = .ok (.ifCond .eq 43, 3) := by decide +kernel
theorem dX8_put_21 : decode cX8_put 21 = .ok (.aload_n 0, 1) := by decide +kernel
theorem dX8_put_22 : decode cX8_put 22 = .ok (.getfield 9, 3) := by decide +kernel
theorem dX8_put_25 : decode cX8_put 25 = .ok (.aload_n 0, 1) := by decide +kernel
theorem dX8_put_26 : decode cX8_put 26 = .ok (.getfield 22, 3) := by decide +kernel
theorem dX8_put_29 : decode cX8_put 29 = .ok (.iload_n 1, 1) := by decide +kernel
theorem dX8_put_30 : decode cX8_put 30 = .ok (.iastore, 1) := by decide +kernel
theorem dX8_put_31 : decode cX8_put 31 = .ok (.aload_n 0, 1) := by decide +kernel
theorem dX8_put_32 : decode cX8_put 32 = .ok (.getfield 15, 3) := by decide +kernel
theorem dX8_put_35 : decode cX8_put 35 = .ok (.aload_n 0, 1) := by decide +kernel
theorem dX8_put_36 : decode cX8_put 36 = .ok (.getfield 22, 3) := by decide +kernel
theorem dX8_put_39 : decode cX8_put 39 = .ok (.iload_n 2, 1) := by decide +kernel
theorem dX8_put_40 : decode cX8_put 40 = .ok (.iastore, 1) := by decide +kernel
theorem dX8_put_41 : decode cX8_put 41 = .ok (.aload_n 0, 1) := by decide +kernel
theorem dX8_put_42 : decode cX8_put 42 = .ok (.getfield 18, 3) := by decide +kernel
theorem dX8_put_45 : decode cX8_put 45 = .ok (.aload_n 0, 1) := by decide +kernel
theorem dX8_put_46 : decode cX8_put 46 = .ok (.getfield 22, 3) := by decide +kernel
theorem dX8_put_49 : decode cX8_put 49 = .ok (.iload_n 3, 1) := by decide +kernel
theorem dX8_put_50 : decode cX8_put 50 = .ok (.bastore, 1) := by decide +kernel
theorem dX8_put_51 : decode cX8_put 51 = .ok (.aload_n 0, 1) := by decide +kernel
theorem dX8_put_52 : decode cX8_put 52 = .ok (.dup, 1) := by decide +kernel
theorem dX8_put_53 : decode cX8_put 53 = .ok (.getfield 22, 3) := by decide +kernel
theorem dX8_put_56 : decode cX8_put 56 = .ok (.iconst 1, 1) := by decide +kernel
theorem dX8_put_57 : decode cX8_put 57 = .ok (.iadd, 1) := by decide +kernel
theorem dX8_put_58 : decode cX8_put 58 = .ok (.putfield 22, 3) := by decide +kernel
theorem dX8_put_61 : decode cX8_put 61 = .ok (.iload 4, 2) := by decide +kernel
theorem dX8_put_63 : decode cX8_put 63 = .ok (.ireturn, 1) := by decide +kernel
theorem dJ0_length_8abf5_0 : decode cJ0_length_8abf5 0 = .ok (.aload_n 0, 1) := by decide +kernel
theorem dJ0_length_8abf5_1 : decode cJ0_length_8abf5 1 = .ok (.getfield 9, 3) := by decide +kernel
theorem dJ0_length_8abf5_4 : decode cJ0_length_8abf5 4 = .ok (.arraylength, 1) := by decide +kernel
theorem dJ0_length_8abf5_5 : decode cJ0_length_8abf5 5 = .ok (.aload_n 0, 1) := by decide +kernel
theorem dJ0_length_8abf5_6 : decode cJ0_length_8abf5 6 = .ok (.invokevirtual 335, 3) := by decide +kernel
theorem dJ0_length_8abf5_9 : decode cJ0_length_8abf5 9 = .ok (.ishr, 1) := by decide +kernel
theorem dJ0_length_8abf5_10 : decode cJ0_length_8abf5 10 = .ok (.ireturn, 1) := by decide +kernel
theorem dJ0_charAt_5068e_0 : decode cJ0_charAt_5068e 0 = .ok (.aload_n 0, 1) := by decide +kernel
theorem dJ0_charAt_5068e_1 : decode cJ0_charAt_5068e 1 = .ok (.invokevirtual 492, 3) := by decide +kernel
theorem dJ0_charAt_5068e_4 : decode cJ0_charAt_5068e 4 = .ok (.ifCond .eq 12, 3) := by decide +kernel
theorem dJ0_charAt_5068e_7 : decode cJ0_charAt_5068e 7 = .ok (.aload_n 0, 1) := by decide +kernel
theorem dJ0_charAt_5068e_8 : decode cJ0_charAt_5068e 8 = .ok (.getfield 9, 3) := by decide +kernel
theorem dJ0_charAt_5068e_11 : decode cJ0_charAt_5068e 11 = .ok (.iload_n 1, 1) := by decide +kernel
theorem dJ0_charAt_5068e_12 : decode cJ0_charAt_5068e 12 = .ok (.invokestatic 495, 3) := by decide +kernel
theorem dJ0_charAt_5068e_15 : decode cJ0_charAt_5068e 15 = .ok (.ireturn, 1) := by decide +kernel
theorem dJ0_charAt_5068e_16 : decode cJ0_charAt_5068e 16 = .ok (.aload_n 0, 1) := by decide +kernel
theorem dJ0_charAt_5068e_17 : decode cJ0_charAt_5068e 17 = .ok (.getfield 9, 3) := by decide +kernel
theorem dJ0_charAt_5068e_20 : decode cJ0_charAt_5068e 20 = .ok (.iload_n 1, 1) := by decide +kernel
theorem dJ0_charAt_5068e_21 : decode cJ0_charAt_5068e 21 = .ok (.invokestatic 498, 3) := by decide +kernel
theorem dJ0_charAt_5068e_24 : decode cJ0_charAt_5068e 24 = .ok (.ireturn, 1) := by decide +kernel
theorem dJ0_coder_7d493_0 : decode cJ0_coder_7d493 0 = .ok (.getstatic 38, 3) := by decide +kernel
theorem dJ0_coder_7d493_3 : decode cJ0_coder_7d493 3 = .ok (.ifCond .eq 10, 3) := by decide +kernel
theorem dJ0_coder_7d493_6 : decode cJ0_coder_7d493 6 = .ok (.aload_n 0, 1) := by decide +kernel
theorem dJ0_coder_7d493_7 : decode cJ0_coder_7d493 7 = .ok (.getfield 15, 3) := by decide +kernel
theorem dJ0_coder_7d493_10 : decode cJ0_coder_7d493 10 = .ok (.goto 4, 3) := by decide +kernel
theorem dJ0_coder_7d493_13 : decode cJ0_coder_7d493 13 = .ok (.iconst 1, 1) := by decide +kernel
theorem dJ0_coder_7d493_14 : decode cJ0_coder_7d493 14 = .ok (.ireturn, 1) := by decide +kernel
theorem dJ0_isLatin1_aae02_0 : decode cJ0_isLatin1_aae02 0 = .ok (.getstatic 38, 3) := by decide +kernel
theorem dJ0_isLatin1_aae02_3 : decode cJ0_isLatin1_aae02 3 = .ok (.ifCond .eq 14, 3) := by decide +kernel
theorem dJ0_isLatin1_aae02_6 : decode cJ0_isLatin1_aae02 6 = .ok (.aload_n 0, 1) := by decide +kernel
theorem dJ0_isLatin1_aae02_7 : decode cJ0_isLatin1_aae02 7 = .ok (.getfield 15, 3) := by decide +kernel
theorem dJ0_isLatin1_aae02_10 : decode cJ0_isLatin1_aae02 10 = .ok (.ifCond .ne 7, 3) := by decide +kernel
theorem dJ0_isLatin1_aae02_13 : decode cJ0_isLatin1_aae02 13 = .ok (.iconst 1, 1) := by decide +kernel
theorem dJ0_isLatin1_aae02_14 : decode cJ0_isLatin1_aae02 14 = .ok (.goto 4, 3) := by decide +kernel
theorem dJ0_isLatin1_aae02_17 : decode cJ0_isLatin1_aae02 17 = .ok (.iconst 0, 1) := by decide +kernel
theorem dJ0_isLatin1_aae02_18 : decode cJ0_isLatin1_aae02 18 = .ok (.ireturn, 1) := by decide +kernel
theorem dJ0_checkIndex_df160_0 : decode cJ0_checkIndex_df160 0 = .ok (.iload_n 0, 1) := by decide +kernel
theorem dJ0_checkIndex_df160_1 : decode cJ0_checkIndex_df160 1 = .ok (.iload_n 1, 1) := by decide +kernel
theorem dJ0_checkIndex_df160_2 : decode cJ0_checkIndex_df160 2 = .ok (.getstatic 1053, 3) := by decide +kernel
theorem dJ0_checkIndex_df160_5 : decode cJ0_checkIndex_df160 5 = .ok (.invokestatic 1059, 3) := by decide +kernel
theorem dJ0_checkIndex_df160_8 : decode cJ0_checkIndex_df160 8 = .ok (.pop, 1) := by decide +kernel
theorem dJ0_checkIndex_df160_9 : decode cJ0_checkIndex_df160 9 = .ok (.return_, 1) := by decide +kernel
theorem dJ1_charAt_3b067_0 : decode cJ1_charAt_3b067 0 = .ok (.iload_n 1, 1) := by decide +kernel
theorem dJ1_charAt_3b067_1 : decode cJ1_charAt_3b067 1 = .ok (.aload_n 0, 1) := by decide +kernel
theorem dJ1_charAt_3b067_2 : decode cJ1_charAt_3b067 2 = .ok (.arraylength, 1) := by decide +kernel
theorem dJ1_charAt_3b067_3 : decode cJ1_charAt_3b067 3 = .ok (.invokestatic 9, 3) := by decide +kernel
theorem dJ1_charAt_3b067_6 : decode cJ1_charAt_3b067 6 = .ok (.aload_n 0, 1) := by decide +kernel
theorem dJ1_charAt_3b067_7 : decode cJ1_charAt_3b067 7 = .ok (.iload_n 1, 1) := by decide +kernel
theorem dJ1_charAt_3b067_8 : decode cJ1_charAt_3b067 8 = .ok (.baload, 1) := by decide +kernel
theorem dJ1_charAt_3b067_9 : decode cJ1_charAt_3b067 9 = .ok (.sipush 255, 3) := by decide +kernel
theorem dJ1_charAt_3b067_12 : decode cJ1_charAt_3b067 12 = .ok (.iand, 1) := by decide +kernel
theorem dJ1_charAt_3b067_13 : decode cJ1_charAt_3b067 13 = .ok (.i2c, 1) := by decide +kernel
theorem dJ1_charAt_3b067_14 : decode cJ1_charAt_3b067 14 = .ok (.ireturn, 1) := by decide +kernel
theorem dJ2_getChar_3b067_0 : decode cJ2_getChar_3b067 0 = .ok (.getstatic 44, 3) := by decide +kernel
theorem dJ2_getChar_3b067_3 : decode cJ2_getChar_3b067 3 = .ok (.ifCond .ne 25, 3) := by decide +kernel
theorem dJ2_getChar_3b067_6 : decode cJ2_getChar_3b067 6 = .ok (.iload_n 1, 1) := by decide +kernel
theorem dJ2_getChar_3b067_7 : decode cJ2_getChar_3b067 7 = .ok (.ifCond .lt 11, 3) := by decide +kernel
theorem dJ2_getChar_3b067_10 : decode cJ2_getChar_3b067 10 = .ok (.iload_n 1, 1) := by decide +kernel
theorem dJ2_getChar_3b067_11 : decode cJ2_getChar_3b067 11 = .ok (.aload_n 0, 1) := by decide +kernel
theorem dJ2_getChar_3b067_12 : decode cJ2_getChar_3b067 12 = .ok (.invokestatic 48, 3) := by decide +kernel
theorem dJ2_getChar_3b067_15 : decode cJ2_getChar_3b067 15 = .ok (.if_icmp .lt 13, 3) := by decide +kernel
theorem dJ2_getChar_3b067_18 : decode cJ2_getChar_3b067 18 = .ok (.new 52, 3) := by decide +kernel
theorem dJ2_getChar_3b067_21 : decode cJ2_getChar_3b067 21 = .ok (.dup, 1) := by decide +kernel
theorem dJ2_getChar_3b067_22 : decode cJ2_getChar_3b067 22 = .ok (.ldc 54, 2) := by decide +kernel
theorem dJ2_getChar_3b067_24 : decode cJ2_getChar_3b067 24 = .ok (.invokespecial 56, 3) := by decide +kernel
theorem dJ2_getChar_3b067_27 : decode cJ2_getChar_3b067 27 = .ok (.athrow, 1) := by decide +kernel
theorem dJ2_getChar_3b067_28 : decode cJ2_getChar_3b067 28 = .ok (.iload_n 1, 1) := by decide +kernel
theorem dJ2_getChar_3b067_29 : decode cJ2_getChar_3b067 29 = .ok (.iconst 1, 1) := by decide +kernel
theorem dJ2_getChar_3b067_30 : decode cJ2_getChar_3b067 30 = .ok (.ishl, 1) := by decide +kernel
theorem dJ2_getChar_3b067_31 : decode cJ2_getChar_3b067 31 = .ok (.istore_n 1, 1) := by decide +kernel
theorem dJ2_getChar_3b067_32 : decode cJ2_getChar_3b067 32 = .ok (.aload_n 0, 1) := by decide +kernel
theorem dJ2_getChar_3b067_33 : decode cJ2_getChar_3b067 33 = .ok (.iload_n 1, 1) := by decide +kernel
theorem dJ2_getChar_3b067_34 : decode cJ2_getChar_3b067 34 = .ok (.iinc 1 1, 3) := by decide +kernel
theorem dJ2_getChar_3b067_37 : decode cJ2_getChar_3b067 37 = .ok (.baload, 1) := by decide +kernel
theorem dJ2_getChar_3b067_38 : decode cJ2_getChar_3b067 38 = .ok (.sipush 255, 3) := by decide +kernel
theorem dJ2_getChar_3b067_41 : decode cJ2_getChar_3b067 41 = .ok (.iand, 1) := by decide +kernel
theorem dJ2_getChar_3b067_42 : decode cJ2_getChar_3b067 42 = .ok (.getstatic 59, 3) := by decide +kernel
theorem dJ2_getChar_3b067_45 : decode cJ2_getChar_3b067 45 = .ok (.ishl, 1) := by decide +kernel
theorem dJ2_getChar_3b067_46 : decode cJ2_getChar_3b067 46 = .ok (.aload_n 0, 1) := by decide +kernel
theorem dJ2_getChar_3b067_47 : decode cJ2_getChar_3b067 47 = .ok (.iload_n 1, 1) := by decide +kernel
theorem dJ2_getChar_3b067_48 : decode cJ2_getChar_3b067 48 = .ok (.baload, 1) := by decide +kernel
theorem dJ2_getChar_3b067_49 : decode cJ2_getChar_3b067 49 = .ok (.sipush 255, 3) := by decide +kernel
theorem dJ2_getChar_3b067_52 : decode cJ2_getChar_3b067 52 = .ok (.iand, 1) := by decide +kernel
theorem dJ2_getChar_3b067_53 : decode cJ2_getChar_3b067 53 = .ok (.getstatic 63, 3) := by decide +kernel
theorem dJ2_getChar_3b067_56 : decode cJ2_getChar_3b067 56 = .ok (.ishl, 1) := by decide +kernel
theorem dJ2_getChar_3b067_57 : decode cJ2_getChar_3b067 57 = .ok (.ior, 1) := by decide +kernel
theorem dJ2_getChar_3b067_58 : decode cJ2_getChar_3b067 58 = .ok (.i2c, 1) := by decide +kernel
theorem dJ2_getChar_3b067_59 : decode cJ2_getChar_3b067 59 = .ok (.ireturn, 1) := by decide +kernel
theorem dJ2_length_9d52b_0 : decode cJ2_length_9d52b 0 = .ok (.aload_n 0, 1) := by decide +kernel
theorem dJ2_length_9d52b_1 : decode cJ2_length_9d52b 1 = .ok (.arraylength, 1) := by decide +kernel
theorem dJ2_length_9d52b_2 : decode cJ2_length_9d52b 2 = .ok (.iconst 1, 1) := by decide +kernel
theorem dJ2_length_9d52b_3 : decode cJ2_length_9d52b 3 = .ok (.ishr, 1) := by decide +kernel
theorem dJ2_length_9d52b_4 : decode cJ2_length_9d52b 4 = .ok (.ireturn, 1) := by decide +kernel
theorem dJ2_charAt_3b067_0 : decode cJ2_charAt_3b067 0 = .ok (.iload_n 1, 1) := by decide +kernel
theorem dJ2_charAt_3b067_1 : decode cJ2_charAt_3b067 1 = .ok (.aload_n 0, 1) := by decide +kernel
theorem dJ2_charAt_3b067_2 : decode cJ2_charAt_3b067 2 = .ok (.invokestatic 67, 3) := by decide +kernel
theorem dJ2_charAt_3b067_5 : decode cJ2_charAt_3b067 5 = .ok (.aload_n 0, 1) := by decide +kernel
theorem dJ2_charAt_3b067_6 : decode cJ2_charAt_3b067 6 = .ok (.iload_n 1, 1) := by decide +kernel
theorem dJ2_charAt_3b067_7 : decode cJ2_charAt_3b067 7 = .ok (.invokestatic 71, 3) := by decide +kernel
theorem dJ2_charAt_3b067_10 : decode cJ2_charAt_3b067 10 = .ok (.ireturn, 1) := by decide +kernel
theorem dJ2_checkIndex_2214a_0 : decode cJ2_checkIndex_2214a 0 = .ok (.iload_n 0, 1) := by decide +kernel
theorem dJ2_checkIndex_2214a_1 : decode cJ2_checkIndex_2214a 1 = .ok (.aload_n 1, 1) := by decide +kernel
theorem dJ2_checkIndex_2214a_2 : decode cJ2_checkIndex_2214a 2 = .ok (.invokestatic 48, 3) := by decide +kernel
theorem dJ2_checkIndex_2214a_5 : decode cJ2_checkIndex_2214a 5 = .ok (.invokestatic 414, 3) := by decide +kernel
theorem dJ2_checkIndex_2214a_8 : decode cJ2_checkIndex_2214a 8 = .ok (.return_, 1) := by decide +kernel
theorem dJ3_checkIndex_8e157_0 : decode cJ3_checkIndex_8e157 0 = .ok (.iload_n 0, 1) := by decide +kernel
theorem dJ3_checkIndex_8e157_1 : decode cJ3_checkIndex_8e157 1 = .ok (.ifCond .lt 8, 3) := by decide +kernel
theorem dJ3_checkIndex_8e157_4 : decode cJ3_checkIndex_8e157 4 = .ok (.iload_n 0, 1) := by decide +kernel
theorem dJ3_checkIndex_8e157_5 : decode cJ3_checkIndex_8e157 5 = .ok (.iload_n 1, 1) := by decide +kernel
theorem dJ3_checkIndex_8e157_6 : decode cJ3_checkIndex_8e157 6 = .ok (.if_icmp .lt 10, 3) := by decide +kernel
theorem dJ3_checkIndex_8e157_9 : decode cJ3_checkIndex_8e157 9 = .ok (.aload_n 2, 1) := by decide +kernel
theorem dJ3_checkIndex_8e157_10 : decode cJ3_checkIndex_8e157 10 = .ok (.iload_n 0, 1) := by decide +kernel
theorem dJ3_checkIndex_8e157_11 : decode cJ3_checkIndex_8e157 11 = .ok (.iload_n 1, 1) := by decide +kernel
theorem dJ3_checkIndex_8e157_12 : decode cJ3_checkIndex_8e157 12 = .ok (.invokestatic 95, 3) := by decide +kernel
theorem dJ3_checkIndex_8e157_15 : decode cJ3_checkIndex_8e157 15 = .ok (.athrow, 1) := by decide +kernel
theorem dJ3_checkIndex_8e157_16 : decode cJ3_checkIndex_8e157 16 = .ok (.iload_n 0, 1) := by decide +kernel
theorem dJ3_checkIndex_8e157_17 : decode cJ3_checkIndex_8e157 17 = .ok (.ireturn, 1) := by decide +kernel
theorem dJ6_bitCount_0f7a4_0 : decode cJ6_bitCount_0f7a4 0 = .ok (.iload_n 0, 1) := by decide +kernel
theorem dJ6_bitCount_0f7a4_1 : decode cJ6_bitCount_0f7a4 1 = .ok (.iload_n 0, 1) := by decide +kernel
theorem dJ6_bitCount_0f7a4_2 : decode cJ6_bitCount_0f7a4 2 = .ok (.iconst 1, 1) := by decide +kernel
theorem dJ6_bitCount_0f7a4_3 : decode cJ6_bitCount_0f7a4 3 = .ok (.iushr, 1) := by decide +kernel
theorem dJ6_bitCount_0f7a4_4 : decode cJ6_bitCount_0f7a4 4 = .ok (.ldc_w 265, 3) := by decide +kernel
theorem dJ6_bitCount_0f7a4_7 : decode cJ6_bitCount_0f7a4 7 = .ok (.iand, 1) := by decide +kernel
theorem dJ6_bitCount_0f7a4_8 : decode cJ6_bitCount_0f7a4 8 = .ok (.isub, 1) := by decide +kernel
theorem dJ6_bitCount_0f7a4_9 : decode cJ6_bitCount_0f7a4 9 = .ok (.istore_n 0, 1) := by decide +kernel
theorem dJ6_bitCount_0f7a4_10 : decode cJ6_bitCount_0f7a4 10 = .ok (.iload_n 0, 1) := by decide +kernel
theorem dJ6_bitCount_0f7a4_11 : decode cJ6_bitCount_0f7a4 11 = .ok (.ldc_w 266, 3) := by decide +kernel
theorem dJ6_bitCount_0f7a4_14 : decode cJ6_bitCount_0f7a4 14 = .ok (.iand, 1) := by decide +kernel
theorem dJ6_bitCount_0f7a4_15 : decode cJ6_bitCount_0f7a4 15 = .ok (.iload_n 0, 1) := by decide +kernel
theorem dJ6_bitCount_0f7a4_16 : decode cJ6_bitCount_0f7a4 16 = .ok (.iconst 2, 1) := by decide +kernel
theorem dJ6_bitCount_0f7a4_17 : decode cJ6_bitCount_0f7a4 17 = .ok (.iushr, 1) := by decide +kernel
theorem dJ6_bitCount_0f7a4_18 : decode cJ6_bitCount_0f7a4 18 = .ok (.ldc_w 266, 3) := by decide +kernel
theorem dJ6_bitCount_0f7a4_21 : decode cJ6_bitCount_0f7a4 21 = .ok (.iand, 1) := by decide +kernel
theorem dJ6_bitCount_0f7a4_22 : decode cJ6_bitCount_0f7a4 22 = .ok (.iadd, 1) := by decide +kernel
theorem dJ6_bitCount_0f7a4_23 : decode cJ6_bitCount_0f7a4 23 = .ok (.istore_n 0, 1) := by decide +kernel
theorem dJ6_bitCount_0f7a4_24 : decode cJ6_bitCount_0f7a4 24 = .ok (.iload_n 0, 1) := by decide +kernel
theorem dJ6_bitCount_0f7a4_25 : decode cJ6_bitCount_0f7a4 25 = .ok (.iload_n 0, 1) := by decide +kernel
theorem dJ6_bitCount_0f7a4_26 : decode cJ6_bitCount_0f7a4 26 = .ok (.iconst 4, 1) := by decide +kernel
theorem dJ6_bitCount_0f7a4_27 : decode cJ6_bitCount_0f7a4 27 = .ok (.iushr, 1) := by decide +kernel
theorem dJ6_bitCount_0f7a4_28 : decode cJ6_bitCount_0f7a4 28 = .ok (.iadd, 1) := by decide +kernel
theorem dJ6_bitCount_0f7a4_29 : decode cJ6_bitCount_0f7a4 29 = .ok (.ldc_w 267, 3) := by decide +kernel
theorem dJ6_bitCount_0f7a4_32 : decode cJ6_bitCount_0f7a4 32 = .ok (.iand, 1) := by decide +kernel
theorem dJ6_bitCount_0f7a4_33 : decode cJ6_bitCount_0f7a4 33 = .ok (.istore_n 0, 1) := by decide +kernel
theorem dJ6_bitCount_0f7a4_34 : decode cJ6_bitCount_0f7a4 34 = .ok (.iload_n 0, 1) := by decide +kernel
theorem dJ6_bitCount_0f7a4_35 : decode cJ6_bitCount_0f7a4 35 = .ok (.iload_n 0, 1) := by decide +kernel
theorem dJ6_bitCount_0f7a4_36 : decode cJ6_bitCount_0f7a4 36 = .ok (.bipush 8, 2) := by decide +kernel
theorem dJ6_bitCount_0f7a4_38 : decode cJ6_bitCount_0f7a4 38 = .ok (.iushr, 1) := by decide +kernel
theorem dJ6_bitCount_0f7a4_39 : decode cJ6_bitCount_0f7a4 39 = .ok (.iadd, 1) := by decide +kernel
theorem dJ6_bitCount_0f7a4_40 : decode cJ6_bitCount_0f7a4 40 = .ok (.istore_n 0, 1) := by decide +kernel
theorem dJ6_bitCount_0f7a4_41 : decode cJ6_bitCount_0f7a4 41 = .ok (.iload_n 0, 1) := by decide +kernel
theorem dJ6_bitCount_0f7a4_42 : decode cJ6_bitCount_0f7a4 42 = .ok (.iload_n 0, 1) := by decide +kernel
theorem dJ6_bitCount_0f7a4_43 : decode cJ6_bitCount_0f7a4 43 = .ok (.bipush 16, 2) := by decide +kernel
theorem dJ6_bitCount_0f7a4_45 : decode cJ6_bitCount_0f7a4 45 = .ok (.iushr, 1) := by decide +kernel
theorem dJ6_bitCount_0f7a4_46 : decode cJ6_bitCount_0f7a4 46 = .ok (.iadd, 1) := by decide +kernel
theorem dJ6_bitCount_0f7a4_47 : decode cJ6_bitCount_0f7a4 47 = .ok (.istore_n 0, 1) := by decide +kernel
theorem dJ6_bitCount_0f7a4_48 : decode cJ6_bitCount_0f7a4 48 = .ok (.iload_n 0, 1) := by decide +kernel
theorem dJ6_bitCount_0f7a4_49 : decode cJ6_bitCount_0f7a4 49 = .ok (.bipush 63, 2) := by decide +kernel
theorem dJ6_bitCount_0f7a4_51 : decode cJ6_bitCount_0f7a4 51 = .ok (.iand, 1) := by decide +kernel
theorem dJ6_bitCount_0f7a4_52 : decode cJ6_bitCount_0f7a4 52 = .ok (.ireturn, 1) := by decide +kernel
theorem dJ7_fill_53178_0 : decode cJ7_fill_53178 0 = .ok (.iconst 0, 1) := by decide +kernel
theorem dJ7_fill_53178_1 : decode cJ7_fill_53178 1 = .ok (.istore_n 2, 1) := by decide +kernel
theorem dJ7_fill_53178_2 : decode cJ7_fill_53178 2 = .ok (.aload_n 0, 1) := by decide +kernel
theorem dJ7_fill_53178_3 : decode cJ7_fill_53178 3 = .ok (.arraylength, 1) := by decide +kernel
theorem dJ7_fill_53178_4 : decode cJ7_fill_53178 4 = .ok (.istore_n 3, 1) := by decide +kernel
theorem dJ7_fill_53178_5 : decode cJ7_fill_53178 5 = .ok (.iload_n 2, 1) := by decide +kernel
theorem dJ7_fill_53178_6 : decode cJ7_fill_53178 6 = .ok (.iload_n 3, 1) := by decide +kernel
theorem dJ7_fill_53178_7 : decode cJ7_fill_53178 7 = .ok (.if_icmp .ge 13, 3) := by decide +kernel
theorem dJ7_fill_53178_10 : decode cJ7_fill_53178 10 = .ok (.aload_n 0, 1) := by decide +kernel
theorem dJ7_fill_53178_11 : decode cJ7_fill_53178 11 = .ok (.iload_n 2, 1) := by decide +kernel
theorem dJ7_fill_53178_12 : decode cJ7_fill_53178 12 = .ok (.iload_n 1, 1) := by decide +kernel
theorem dJ7_fill_53178_13 : decode cJ7_fill_53178 13 = .ok (.iastore, 1) := by decide +kernel
theorem dJ7_fill_53178_14 : decode cJ7_fill_53178 14 = .ok (.iinc 2 1, 3) := by decide +kernel
theorem dJ7_fill_53178_17 : decode cJ7_fill_53178 17 = .ok (.goto (-12), 3) := by decide +kernel
theorem dJ7_fill_53178_20 : decode cJ7_fill_53178 20 = .ok (.return_, 1) := by decide +kernel
theorem dJ9_abs_0f7a4_0 : decode cJ9_abs_0f7a4 0 = .ok (.iload_n 0, 1) := by decide +kernel
theorem dJ9_abs_0f7a4_1 : decode cJ9_abs_0f7a4 1 = .ok (.ifCond .ge 8, 3) := by decide +kernel
theorem dJ9_abs_0f7a4_4 : decode cJ9_abs_0f7a4 4 = .ok (.iload_n 0, 1) := by decide +kernel
theorem dJ9_abs_0f7a4_5 : decode cJ9_abs_0f7a4 5 = .ok (.ineg, 1) := by decide +kernel
theorem dJ9_abs_0f7a4_6 : decode cJ9_abs_0f7a4 6 = .ok (.goto 4, 3) := by decide +kernel
theorem dJ9_abs_0f7a4_9 : decode cJ9_abs_0f7a4 9 = .ok (.iload_n 0, 1) := by decide +kernel
theorem dJ9_abs_0f7a4_10 : decode cJ9_abs_0f7a4 10 = .ok (.ireturn, 1) := by decide +kernel
theorem dJ9_max_7cf53_0 : decode cJ9_max_7cf53 0 = .ok (.iload_n 0, 1) := by decide +kernel
theorem dJ9_max_7cf53_1 : decode cJ9_max_7cf53 1 = .ok (.iload_n 1, 1) := by decide +kernel
theorem dJ9_max_7cf53_2 : decode cJ9_max_7cf53 2 = .ok (.if_icmp .lt 7, 3) := by decide +kernel
theorem dJ9_max_7cf53_5 : decode cJ9_max_7cf53 5 = .ok (.iload_n 0, 1) := by decide +kernel
theorem dJ9_max_7cf53_6 : decode cJ9_max_7cf53 6 = .ok (.goto 4, 3) := by decide +kernel
theorem dJ9_max_7cf53_9 : decode cJ9_max_7cf53 9 = .ok (.iload_n 1, 1) := by decide +kernel
theorem dJ9_max_7cf53_10 : decode cJ9_max_7cf53 10 = .ok (.ireturn, 1) := by decide +kernel
theorem dJ13_bitCount_95d88_0 : decode cJ13_bitCount_95d88 0 = .ok (.lload_n 0, 1) := by decide +kernel
theorem dJ13_bitCount_95d88_1 : decode cJ13_bitCount_95d88 1 = .ok (.lload_n 0, 1) := by decide +kernel
theorem dJ13_bitCount_95d88_2 : decode cJ13_bitCount_95d88 2 = .ok (.iconst 1, 1) := by decide +kernel
theorem dJ13_bitCount_95d88_3 : decode cJ13_bitCount_95d88 3 = .ok (.lushr, 1) := by decide +kernel
theorem dJ13_bitCount_95d88_4 : decode cJ13_bitCount_95d88 4 = .ok (.ldc2_w 314, 3) := by decide +kernel
theorem dJ13_bitCount_95d88_7 : decode cJ13_bitCount_95d88 7 = .ok (.land, 1) := by decide +kernel
theorem dJ13_bitCount_95d88_8 : decode cJ13_bitCount_95d88 8 = .ok (.lsub, 1) := by decide +kernel
theorem dJ13_bitCount_95d88_9 : decode cJ13_bitCount_95d88 9 = .ok (.lstore_n 0, 1) := by decide +kernel
theorem dJ13_bitCount_95d88_10 : decode cJ13_bitCount_95d88 10 = .ok (.lload_n 0, 1) := by decide +kernel
theorem dJ13_bitCount_95d88_11 : decode cJ13_bitCount_95d88 11 = .ok (.ldc2_w 316, 3) := by decide +kernel
theorem dJ13_bitCount_95d88_14 : decode cJ13_bitCount_95d88 14 = .ok (.land, 1) := by decide +kernel
theorem dJ13_bitCount_95d88_15 : decode cJ13_bitCount_95d88 15 = .ok (.lload_n 0, 1) := by decide +kernel
theorem dJ13_bitCount_95d88_16 : decode cJ13_bitCount_95d88 16 = .ok (.iconst 2, 1) := by decide +kernel
theorem dJ13_bitCount_95d88_17 : decode cJ13_bitCount_95d88 17 = .ok (.lushr, 1) := by decide +kernel
theorem dJ13_bitCount_95d88_18 : decode cJ13_bitCount_95d88 18 = .ok (.ldc2_w 316, 3) := by decide +kernel
theorem dJ13_bitCount_95d88_21 : decode cJ13_bitCount_95d88 21 = .ok (.land, 1) := by decide +kernel
theorem dJ13_bitCount_95d88_22 : decode cJ13_bitCount_95d88 22 = .ok (.ladd, 1) := by decide +kernel
theorem dJ13_bitCount_95d88_23 : decode cJ13_bitCount_95d88 23 = .ok (.lstore_n 0, 1) := by decide +kernel
theorem dJ13_bitCount_95d88_24 : decode cJ13_bitCount_95d88 24 = .ok (.lload_n 0, 1) := by decide +kernel
theorem dJ13_bitCount_95d88_25 : decode cJ13_bitCount_95d88 25 = .ok (.lload_n 0, 1) := by decide +kernel
theorem dJ13_bitCount_95d88_26 : decode cJ13_bitCount_95d88 26 = .ok (.iconst 4, 1) := by decide +kernel
theorem dJ13_bitCount_95d88_27 : decode cJ13_bitCount_95d88 27 = .ok (.lushr, 1) := by decide +kernel
theorem dJ13_bitCount_95d88_28 : decode cJ13_bitCount_95d88 28 = .ok (.ladd, 1) := by decide +kernel
theorem dJ13_bitCount_95d88_29 : decode cJ13_bitCount_95d88 29 = .ok (.ldc2_w 318, 3) := by decide +kernel
theorem dJ13_bitCount_95d88_32 : decode cJ13_bitCount_95d88 32 = .ok (.land, 1) := by decide +kernel
theorem dJ13_bitCount_95d88_33 : decode cJ13_bitCount_95d88 33 = .ok (.lstore_n 0, 1) := by decide +kernel
theorem dJ13_bitCount_95d88_34 : decode cJ13_bitCount_95d88 34 = .ok (.lload_n 0, 1) := by decide +kernel
theorem dJ13_bitCount_95d88_35 : decode cJ13_bitCount_95d88 35 = .ok (.lload_n 0, 1) := by decide +kernel
theorem dJ13_bitCount_95d88_36 : decode cJ13_bitCount_95d88 36 = .ok (.bipush 8, 2) := by decide +kernel
theorem dJ13_bitCount_95d88_38 : decode cJ13_bitCount_95d88 38 = .ok (.lushr, 1) := by decide +kernel
theorem dJ13_bitCount_95d88_39 : decode cJ13_bitCount_95d88 39 = .ok (.ladd, 1) := by decide +kernel
theorem dJ13_bitCount_95d88_40 : decode cJ13_bitCount_95d88 40 = .ok (.lstore_n 0, 1) := by decide +kernel
theorem dJ13_bitCount_95d88_41 : decode cJ13_bitCount_95d88 41 = .ok (.lload_n 0, 1) := by decide +kernel
theorem dJ13_bitCount_95d88_42 : decode cJ13_bitCount_95d88 42 = .ok (.lload_n 0, 1) := by decide +kernel
theorem dJ13_bitCount_95d88_43 : decode cJ13_bitCount_95d88 43 = .ok (.bipush 16, 2) := by decide +kernel
theorem dJ13_bitCount_95d88_45 : decode cJ13_bitCount_95d88 45 = .ok (.lushr, 1) := by decide +kernel
theorem dJ13_bitCount_95d88_46 : decode cJ13_bitCount_95d88 46 = .ok (.ladd, 1) := by decide +kernel
theorem dJ13_bitCount_95d88_47 : decode cJ13_bitCount_95d88 47 = .ok (.lstore_n 0, 1) := by decide +kernel
theorem dJ13_bitCount_95d88_48 : decode cJ13_bitCount_95d88 48 = .ok (.lload_n 0, 1) := by decide +kernel
theorem dJ13_bitCount_95d88_49 : decode cJ13_bitCount_95d88 49 = .ok (.lload_n 0, 1) := by decide +kernel
theorem dJ13_bitCount_95d88_50 : decode cJ13_bitCount_95d88 50 = .ok (.bipush 32, 2) := by decide +kernel
theorem dJ13_bitCount_95d88_52 : decode cJ13_bitCount_95d88 52 = .ok (.lushr, 1) := by decide +kernel
theorem dJ13_bitCount_95d88_53 : decode cJ13_bitCount_95d88 53 = .ok (.ladd, 1) := by decide +kernel
theorem dJ13_bitCount_95d88_54 : decode cJ13_bitCount_95d88 54 = .ok (.lstore_n 0, 1) := by decide +kernel
theorem dJ13_bitCount_95d88_55 : decode cJ13_bitCount_95d88 55 = .ok (.lload_n 0, 1) := by decide +kernel
theorem dJ13_bitCount_95d88_56 : decode cJ13_bitCount_95d88 56 = .ok (.l2i, 1) := by decide +kernel
theorem dJ13_bitCount_95d88_57 : decode cJ13_bitCount_95d88 57 = .ok (.bipush 127, 2) := by decide +kernel
theorem dJ13_bitCount_95d88_59 : decode cJ13_bitCount_95d88 59 = .ok (.iand, 1) := by decide +kernel
theorem dJ13_bitCount_95d88_60 : decode cJ13_bitCount_95d88 60 = .ok (.ireturn, 1) := by decide +kernel
end
section
theorem dX9_init_0 : decode cX9_init 0 = .ok (.aload_n 0, 1) := by decide +kernel
theorem dX9_init_1 : decode cX9_init 1 = .ok (.invokespecial 1, 3) := by decide +kernel
theorem dX9_init_4 : decode cX9_init 4 = .ok (.aload_n 0, 1) := by decide +kernel
theorem dX9_init_5 : decode cX9_init 5 = .ok (.new 7, 3) := by decide +kernel
theorem dX9_init_8 : decode cX9_init 8 = .ok (.dup, 1) := by decide +kernel
theorem dX9_init_9 : decode cX9_init 9 = .ok (.invokespecial 9, 3) := by decide +kernel
theorem dX9_init_12 : decode cX9_init 12 = .ok (.putfield 10, 3) := by decide +kernel
theorem dX9_init_15 : decode cX9_init 15 = .ok (.aload_n 0, 1) := by decide +kernel
theorem dX9_init_16 : decode cX9_init 16 = .ok (.new 16, 3) := by decide +kernel
theorem dX9_init_19 : decode cX9_init 19 = .ok (.dup, 1) := by decide +kernel
theorem dX9_init_20 : decode cX9_init 20 = .ok (.invokespecial 18, 3) := by decide +kernel
theorem dX9_init_23 : decode cX9_init 23 = .ok (.putfield 19, 3) := by decide +kernel
theorem dX9_init_26 : decode cX9_init 26 = .ok (.aload_n 0, 1) := by decide +kernel
theorem dX9_init_27 : decode cX9_init 27 = .ok (.new 16, 3) := by decide +kernel
theorem dX9_init_30 : decode cX9_init 30 = .ok (.dup, 1) := by decide +kernel
theorem dX9_init_31 : decode cX9_init 31 = .ok (.invokespecial 18, 3) := by decide +kernel
theorem dX9_init_34 : decode cX9_init 34 = .ok (.putfield 23, 3) := by decide +kernel
theorem dX9_init_37 : decode cX9_init 37 = .ok (.aload_n 0, 1) := by decide +kernel
theorem dX9_init_38 : decode cX9_init 38 = .ok (.new 26, 3) := by decide +kernel
theorem dX9_init_41 : decode cX9_init 41 = .ok (.dup, 1) := by decide +kernel
theorem dX9_init_42 : decode cX9_init 42 = .ok (.invokespecial 28, 3) := by decide +kernel
theorem dX9_init_45 : decode cX9_init 45 = .ok (.putfield 29, 3) := by decide +kernel
theorem dX9_init_48 : decode cX9_init 48 = .ok (.aload_n 0, 1) := by decide +kernel
theorem dX9_init_49 : decode cX9_init 49 = .ok (.new 26, 3) := by decide +kernel
theorem dX9_init_52 : decode cX9_init 52 = .ok (.dup, 1) := by decide +kernel
theorem dX9_init_53 : decode cX9_init 53 = .ok (.invokespecial 28, 3) := by decide +kernel
theorem dX9_init_56 : decode cX9_init 56 = .ok (.putfield 33, 3) := by decide +kernel
theorem dX9_init_59 : decode cX9_init 59 = .ok (.aload_n 0, 1) := by decide +kernel
theorem dX9_init_60 : decode cX9_init 60 = .ok (.new 36, 3) := by decide +kernel
theorem dX9_init_63 : decode cX9_init 63 = .ok (.dup, 1) := by decide +kernel
theorem dX9_init_64 : decode cX9_init 64 = .ok (.invokespecial 38, 3) := by decide +kernel
theorem dX9_init_67 : decode cX9_init 67 = .ok (.putfield 39, 3) := by decide +kernel
theorem dX9_init_70 : decode cX9_init 70 = .ok (.aload_n 0, 1) := by decide +kernel
theorem dX9_init_71 : decode cX9_init 71 = .ok (.new 43, 3) := by decide +kernel
theorem dX9_init_74 : decode cX9_init 74 = .ok (.dup, 1) := by decide +kernel
theorem dX9_init_75 : decode cX9_init 75 = .ok (.invokespecial 45, 3) := by decide +kernel
theorem dX9_init_78 : decode cX9_init 78 = .ok (.putfield 46, 3) := by decide +kernel
theorem dX9_init_81 : decode cX9_init 81 = .ok (.aload_n 0, 1) := by decide +kernel
theorem dX9_init_82 : decode cX9_init 82 = .ok (.new 43, 3) := by decide +kernel
theorem dX9_init_85 : decode cX9_init 85 = .ok (.dup, 1) := by decide +kernel
theorem dX9_init_86 : decode cX9_init 86 = .ok (.invokespecial 45, 3) := by decide +kernel
theorem dX9_init_89 : decode cX9_init 89 = .ok (.putfield 50, 3) := by decide +kernel
theorem dX9_init_92 : decode cX9_init 92 = .ok (.aload_n 0, 1) := by decide +kernel
theorem dX9_init_93 : decode cX9_init 93 = .ok (.new 53, 3) := by decide +kernel
theorem dX9_init_96 : decode cX9_init 96 = .ok (.dup, 1) := by decide +kernel
theorem dX9_init_97 : decode cX9_init 97 = .ok (.invokespecial 55, 3) := by decide +kernel
theorem dX9_init_100 : decode cX9_init 100 = .ok (.putfield 56, 3) := by decide +kernel
theorem dX9_init_103 : decode cX9_init 103 = .ok (.aload_n 0, 1) := by decide +kernel
theorem dX9_init_104 : decode cX9_init 104 = .ok (.iconst 2, 1) := by decide +kernel
theorem dX9_init_105 : decode cX9_init 105 = .ok (.anewarray 26, 3) := by decide +kernel
theorem dX9_init_108 : decode cX9_init 108 = .ok (.putfield 60, 3) := by decide +kernel
theorem dX9_init_111 : decode cX9_init 111 = .ok (.aload_n 0, 1) := by decide +kernel
theorem dX9_init_112 : decode cX9_init 112 = .ok (.lconst 0, 1) := by decide +kernel
theorem dX9_init_113 : decode cX9_init 113 = .ok (.putfield 64, 3) := by decide +kernel
theorem dX9_init_116 : decode cX9_init 116 = .ok (.return_, 1) := by decide +kernel
theorem dX9_write_0 : decode cX9_write 0 = .ok (.iload_n 1, 1) := by decide +kernel
theorem dX9_write_1 : decode cX9_write 1 = .ok (.ifCond .lt 10, 3) := by decide +kernel
theorem dX9_write_4 : decode cX9_write 4 = .ok (.iload_n 1, 1) := by decide +kernel
theorem dX9_write_5 : decode cX9_write 5 = .ok (.sipush 255, 3) := by decide +kernel
theorem dX9_write_8 : decode cX9_write 8 = .ok (.if_icmp .le 6, 3) := by decide +kernel
theorem dX9_write_11 : decode cX9_write 11 = .ok (.bipush (-2), 2) := by decide +kernel
theorem dX9_write_13 : decode cX9_write 13 = .ok (.ireturn, 1) := by decide +kernel
theorem dX9_write_14 : decode cX9_write 14 = .ok (.aload_n 0, 1) := by decide +kernel
theorem dX9_write_15 : decode cX9_write 15 = .ok (.getfield 10, 3) := by decide +kernel
theorem dX9_write_18 : decode cX9_write 18 = .ok (.iload_n 1, 1) := by decide +kernel
theorem dX9_write_19 : decode cX9_write 19 = .ok (.invokevirtual 68, 3) := by decide +kernel
theorem dX9_write_22 : decode cX9_write 22 = .ok (.ifCond .eq 13, 3) := by decide +kernel
theorem dX9_write_25 : decode cX9_write 25 = .ok (.aload_n 0, 1) := by decide +kernel
theorem dX9_write_26 : decode cX9_write 26 = .ok (.getfield 10, 3) := by decide +kernel
theorem dX9_write_29 : decode cX9_write 29 = .ok (.getfield 72, 3) := by decide +kernel
theorem dX9_write_32 : decode cX9_write 32 = .ok (.goto 5, 3) := by decide +kernel
theorem dX9_write_35 : decode cX9_write 35 = .ok (.bipush (-4), 2) := by decide +kernel
theorem dX9_write_37 : decode cX9_write 37 = .ok (.ireturn, 1) := by decide +kernel
theorem dX9_wipe_0 : decode cX9_wipe 0 = .ok (.aload_n 0, 1) := by decide +kernel
theorem dX9_wipe_1 : decode cX9_wipe 1 = .ok (.getfield 10, 3) := by decide +kernel
theorem dX9_wipe_4 : decode cX9_wipe 4 = .ok (.getfield 72, 3) := by decide +kernel
theorem dX9_wipe_7 : decode cX9_wipe 7 = .ok (.istore_n 1, 1) := by decide +kernel
theorem dX9_wipe_8 : decode cX9_wipe 8 = .ok (.aload_n 0, 1) := by decide +kernel
theorem dX9_wipe_9 : decode cX9_wipe 9 = .ok (.getfield 10, 3) := by decide +kernel
theorem dX9_wipe_12 : decode cX9_wipe 12 = .ok (.iconst 0, 1) := by decide +kernel
theorem dX9_wipe_13 : decode cX9_wipe 13 = .ok (.putfield 72, 3) := by decide +kernel
theorem dX9_wipe_16 : decode cX9_wipe 16 = .ok (.iload_n 1, 1) := by decide +kernel
theorem dX9_wipe_17 : decode cX9_wipe 17 = .ok (.ireturn, 1) := by decide +kernel
theorem dX9_fault_0 : decode cX9_fault 0 = .ok (.aload_n 0, 1) := by decide +kernel
theorem dX9_fault_1 : decode cX9_fault 1 = .ok (.getfield 10, 3) := by decide +kernel
theorem dX9_fault_4 : decode cX9_fault 4 = .ok (.aload_n 0, 1) := by decide +kernel
theorem dX9_fault_5 : decode cX9_fault 5 = .ok (.getfield 23, 3) := by decide +kernel
theorem dX9_fault_8 : decode cX9_fault 8 = .ok (.invokevirtual 76, 3) := by decide +kernel
theorem dX9_fault_11 : decode cX9_fault 11 = .ok (.ireturn, 1) := by decide +kernel
theorem dX9_plan_0 : decode cX9_plan 0 = .ok (.aload_n 0, 1) := by decide +kernel
theorem dX9_plan_1 : decode cX9_plan 1 = .ok (.getfield 10, 3) := by decide +kernel
theorem dX9_plan_4 : decode cX9_plan 4 = .ok (.aload_n 0, 1) := by decide +kernel
theorem dX9_plan_5 : decode cX9_plan 5 = .ok (.getfield 23, 3) := by decide +kernel
theorem dX9_plan_8 : decode cX9_plan 8 = .ok (.invokevirtual 76, 3) := by decide +kernel
theorem dX9_plan_11 : decode cX9_plan 11 = .ok (.bipush (-9), 2) := by decide +kernel
theorem dX9_plan_13 : decode cX9_plan 13 = .ok (.if_icmp .eq 6, 3) := by decide +kernel
theorem dX9_plan_16 : decode cX9_plan 16 = .ok (.bipush (-3), 2) := by decide +kernel
theorem dX9_plan_18 : decode cX9_plan 18 = .ok (.ireturn, 1) := by decide +kernel
theorem dX9_plan_19 : decode cX9_plan 19 = .ok (.aload_n 0, 1) := by decide +kernel
theorem dX9_plan_20 : decode cX9_plan 20 = .ok (.getfield 19, 3) := by decide +kernel
theorem dX9_plan_23 : decode cX9_plan 23 = .ok (.astore_n 1, 1) := by decide +kernel
theorem dX9_plan_24 : decode cX9_plan 24 = .ok (.aload_n 0, 1) := by decide +kernel
theorem dX9_plan_25 : decode cX9_plan 25 = .ok (.aload_n 0, 1) := by decide +kernel
theorem dX9_plan_26 : decode cX9_plan 26 = .ok (.getfield 23, 3) := by decide +kernel
theorem dX9_plan_29 : decode cX9_plan 29 = .ok (.putfield 19, 3) := by decide +kernel
theorem dX9_plan_32 : decode cX9_plan 32 = .ok (.aload_n 0, 1) := by decide +kernel
theorem dX9_plan_33 : decode cX9_plan 33 = .ok (.aload_n 1, 1) := by decide +kernel
theorem dX9_plan_34 : decode cX9_plan 34 = .ok (.putfield 23, 3) := by decide +kernel
theorem dX9_plan_37 : decode cX9_plan 37 = .ok (.aload_n 0, 1) := by decide +kernel
theorem dX9_plan_38 : decode cX9_plan 38 = .ok (.aload_n 0, 1) := by decide +kernel
theorem dX9_plan_39 : decode cX9_plan 39 = .ok (.getfield 29, 3) := by decide +kernel
theorem dX9_plan_42 : decode cX9_plan 42 = .ok (.invokevirtual 80, 3) := by decide +kernel
theorem dX9_plan_45 : decode cX9_plan 45 = .ok (.getfield 84, 3) := by decide +kernel
theorem dX9_plan_48 : decode cX9_plan 48 = .ok (.ireturn, 1) := by decide +kernel
theorem dX9_word_0 : decode cX9_word 0 = .ok (.aload_n 0, 1) := by decide +kernel
theorem dX9_word_1 : decode cX9_word 1 = .ok (.getfield 19, 3) := by decide +kernel
theorem dX9_word_4 : decode cX9_word 4 = .ok (.getfield 87, 3) := by decide +kernel
theorem dX9_word_7 : decode cX9_word 7 = .ok (.getfield 91, 3) := by decide +kernel
theorem dX9_word_10 : decode cX9_word 10 = .ok (.astore_n 2, 1) := by decide +kernel
theorem dX9_word_11 : decode cX9_word 11 = .ok (.iload_n 1, 1) := by decide +kernel
theorem dX9_word_12 : decode cX9_word 12 = .ok (.ifCond .lt 19, 3) := by decide +kernel
theorem dX9_word_15 : decode cX9_word 15 = .ok (.iload_n 1, 1) := by decide +kernel
theorem dX9_word_16 : decode cX9_word 16 = .ok (.aload_n 2, 1) := by decide +kernel
theorem dX9_word_17 : decode cX9_word 17 = .ok (.invokevirtual 97, 3) := by decide +kernel
theorem dX9_word_20 : decode cX9_word 20 = .ok (.if_icmp .ge 11, 3) := by decide +kernel
theorem dX9_word_23 : decode cX9_word 23 = .ok (.aload_n 2, 1) := by decide +kernel
theorem dX9_word_24 : decode cX9_word 24 = .ok (.iload_n 1, 1) := by decide +kernel
theorem dX9_word_25 : decode cX9_word 25 = .ok (.invokevirtual 102, 3) := by decide +kernel
theorem dX9_word_28 : decode cX9_word 28 = .ok (.goto 5, 3) := by decide +kernel
theorem dX9_word_31 : decode cX9_word 31 = .ok (.bipush (-9), 2) := by decide +kernel
theorem dX9_word_33 : decode cX9_word 33 = .ok (.ireturn, 1) := by decide +kernel
theorem dX9_add_0 : decode cX9_add 0 = .ok (.iload_n 1, 1) := by decide +kernel
theorem dX9_add_1 : decode cX9_add 1 = .ok (.iload_n 2, 1) := by decide +kernel
theorem dX9_add_2 : decode cX9_add 2 = .ok (.iload_n 3, 1) := by decide +kernel
theorem dX9_add_3 : decode cX9_add 3 = .ok (.invokestatic 106, 3) := by decide +kernel
theorem dX9_add_6 : decode cX9_add 6 = .ok (.ifCond .ne 6, 3) := by decide +kernel
theorem dX9_add_9 : decode cX9_add 9 = .ok (.bipush (-2), 2) := by decide +kernel
theorem dX9_add_11 : decode cX9_add 11 = .ok (.ireturn, 1) := by decide +kernel
theorem dX9_add_12 : decode cX9_add 12 = .ok (.aload_n 0, 1) := by decide +kernel
theorem dX9_add_13 : decode cX9_add 13 = .ok (.getfield 29, 3) := by decide +kernel
theorem dX9_add_16 : decode cX9_add 16 = .ok (.invokevirtual 110, 3) := by decide +kernel
theorem dX9_add_19 : decode cX9_add 19 = .ok (.ifCond .ne 6, 3) := by decide +kernel
theorem dX9_add_22 : decode cX9_add 22 = .ok (.bipush (-4), 2) := by decide +kernel
theorem dX9_add_24 : decode cX9_add 24 = .ok (.ireturn, 1) := by decide +kernel
theorem dX9_add_25 : decode cX9_add 25 = .ok (.aload_n 0, 1) := by decide +kernel
theorem dX9_add_26 : decode cX9_add 26 = .ok (.getfield 39, 3) := by decide +kernel
theorem dX9_add_29 : decode cX9_add 29 = .ok (.invokevirtual 114, 3) := by decide +kernel
theorem dX9_add_32 : decode cX9_add 32 = .ok (.iconst 0, 1) := by decide +kernel
theorem dX9_add_33 : decode cX9_add 33 = .ok (.aload_n 0, 1) := by decide +kernel
theorem dX9_add_34 : decode cX9_add 34 = .ok (.getfield 29, 3) := by decide +kernel
theorem dX9_add_37 : decode cX9_add 37 = .ok (.getfield 118, 3) := by decide +kernel
theorem dX9_add_40 : decode cX9_add 40 = .ok (.iload_n 1, 1) := by decide +kernel
theorem dX9_add_41 : decode cX9_add 41 = .ok (.iload_n 2, 1) := by decide +kernel
theorem dX9_add_42 : decode cX9_add 42 = .ok (.iload_n 3, 1) := by decide +kernel
theorem dX9_add_43 : decode cX9_add 43 = .ok (.invokevirtual 119, 3) := by decide +kernel
theorem dX9_add_46 : decode cX9_add 46 = .ok (.aload_n 0, 1) := by decide +kernel
theorem dX9_add_47 : decode cX9_add 47 = .ok (.getfield 29, 3) := by decide +kernel
theorem dX9_add_50 : decode cX9_add 50 = .ok (.iload_n 1, 1) := by decide +kernel
theorem dX9_add_51 : decode cX9_add 51 = .ok (.iload_n 2, 1) := by decide +kernel
theorem dX9_add_52 : decode cX9_add 52 = .ok (.iload_n 3, 1) := by decide +kernel
theorem dX9_add_53 : decode cX9_add 53 = .ok (.invokevirtual 125, 3) := by decide +kernel
theorem dX9_add_56 : decode cX9_add 56 = .ok (.aload_n 0, 1) := by decide +kernel
theorem dX9_add_57 : decode cX9_add 57 = .ok (.getfield 29, 3) := by decide +kernel
theorem dX9_add_60 : decode cX9_add 60 = .ok (.getfield 118, 3) := by decide +kernel
theorem dX9_add_63 : decode cX9_add 63 = .ok (.ireturn, 1) := by decide +kernel
theorem dX9_drop_0 : decode cX9_drop 0 = .ok (.aload_n 0, 1) := by decide +kernel
theorem dX9_drop_1 : decode cX9_drop 1 = .ok (.getfield 29, 3) := by decide +kernel
theorem dX9_drop_4 : decode cX9_drop 4 = .ok (.iload_n 1, 1) := by decide +kernel
theorem dX9_drop_5 : decode cX9_drop 5 = .ok (.invokevirtual 129, 3) := by decide +kernel
theorem dX9_drop_8 : decode cX9_drop 8 = .ok (.ifCond .ne 5, 3) := by decide +kernel
theorem dX9_drop_11 : decode cX9_drop 11 = .ok (.iconst (-1), 1) := by decide +kernel
theorem dX9_drop_12 : decode cX9_drop 12 = .ok (.ireturn, 1) := by decide +kernel
theorem dX9_drop_13 : decode cX9_drop 13 = .ok (.aload_n 0, 1) := by decide +kernel
theorem dX9_drop_14 : decode cX9_drop 14 = .ok (.getfield 29, 3) := by decide +kernel
theorem dX9_drop_17 : decode cX9_drop 17 = .ok (.getfield 132, 3) := by decide +kernel
theorem dX9_drop_20 : decode cX9_drop 20 = .ok (.iload_n 1, 1) := by decide +kernel
theorem dX9_drop_21 : decode cX9_drop 21 = .ok (.iaload, 1) := by decide +kernel
theorem dX9_drop_22 : decode cX9_drop 22 = .ok (.istore_n 2, 1) := by decide +kernel
theorem dX9_drop_23 : decode cX9_drop 23 = .ok (.aload_n 0, 1) := by decide +kernel
theorem dX9_drop_24 : decode cX9_drop 24 = .ok (.getfield 39, 3) := by decide +kernel
theorem dX9_drop_27 : decode cX9_drop 27 = .ok (.invokevirtual 114, 3) := by decide +kernel
theorem dX9_drop_30 : decode cX9_drop 30 = .ok (.iconst 1, 1) := by decide +kernel
theorem dX9_drop_31 : decode cX9_drop 31 = .ok (.iload_n 1, 1) := by decide +kernel
theorem dX9_drop_32 : decode cX9_drop 32 = .ok (.aload_n 0, 1) := by decide +kernel
theorem dX9_drop_33 : decode cX9_drop 33 = .ok (.getfield 29, 3) := by decide +kernel
theorem dX9_drop_36 : decode cX9_drop 36 = .ok (.getfield 136, 3) := by decide +kernel
theorem dX9_drop_39 : decode cX9_drop 39 = .ok (.iload_n 1, 1) := by decide +kernel
theorem dX9_drop_40 : decode cX9_drop 40 = .ok (.iaload, 1) := by decide +kernel
theorem dX9_drop_41 : decode cX9_drop 41 = .ok (.aload_n 0, 1) := by decide +kernel
theorem dX9_drop_42 : decode cX9_drop 42 = .ok (.getfield 29, 3) := by decide +kernel
theorem dX9_drop_45 : decode cX9_drop 45 = .ok (.getfield 139, 3) := by decide +kernel
theorem dX9_drop_48 : decode cX9_drop 48 = .ok (.iload_n 1, 1) := by decide +kernel
theorem dX9_drop_49 : decode cX9_drop 49 = .ok (.iaload, 1) := by decide +kernel
theorem dX9_drop_50 : decode cX9_drop 50 = .ok (.iload_n 2, 1) := by decide +kernel
theorem dX9_drop_51 : decode cX9_drop 51 = .ok (.invokevirtual 119, 3) := by decide +kernel
theorem dX9_drop_54 : decode cX9_drop 54 = .ok (.aload_n 0, 1) := by decide +kernel
theorem dX9_drop_55 : decode cX9_drop 55 = .ok (.getfield 29, 3) := by decide +kernel
theorem dX9_drop_58 : decode cX9_drop 58 = .ok (.iload_n 1, 1) := by decide +kernel
theorem dX9_drop_59 : decode cX9_drop 59 = .ok (.invokevirtual 142, 3) := by decide +kernel
theorem dX9_drop_62 : decode cX9_drop 62 = .ok (.iload_n 2, 1) := by decide +kernel
theorem dX9_drop_63 : decode cX9_drop 63 = .ok (.ireturn, 1) := by decide +kernel
theorem dX9_change_0 : decode cX9_change 0 = .ok (.aload_n 0, 1) := by decide +kernel
theorem dX9_change_1 : decode cX9_change 1 = .ok (.getfield 29, 3) := by decide +kernel
theorem dX9_change_4 : decode cX9_change 4 = .ok (.iload_n 1, 1) := by decide +kernel
theorem dX9_change_5 : decode cX9_change 5 = .ok (.invokevirtual 129, 3) := by decide +kernel
theorem dX9_change_8 : decode cX9_change 8 = .ok (.ifCond .ne 5, 3) := by decide +kernel
theorem dX9_change_11 : decode cX9_change 11 = .ok (.iconst (-1), 1) := by decide +kernel
theorem dX9_change_12 : decode cX9_change 12 = .ok (.ireturn, 1) := by decide +kernel
theorem dX9_change_13 : decode cX9_change 13 = .ok (.iload_n 2, 1) := by decide +kernel
theorem dX9_change_14 : decode cX9_change 14 = .ok (.invokestatic 146, 3) := by decide +kernel
theorem dX9_change_17 : decode cX9_change 17 = .ok (.ifCond .ne 6, 3) := by decide +kernel
theorem dX9_change_20 : decode cX9_change 20 = .ok (.bipush (-2), 2) := by decide +kernel
theorem dX9_change_22 : decode cX9_change 22 = .ok (.ireturn, 1) := by decide +kernel
theorem dX9_change_23 : decode cX9_change 23 = .ok (.aload_n 0, 1) := by decide +kernel
theorem dX9_change_24 : decode cX9_change 24 = .ok (.getfield 29, 3) := by decide +kernel
theorem dX9_change_27 : decode cX9_change 27 = .ok (.getfield 132, 3) := by decide +kernel
theorem dX9_change_30 : decode cX9_change 30 = .ok (.iload_n 1, 1) := by decide +kernel
theorem dX9_change_31 : decode cX9_change 31 = .ok (.iaload, 1) := by decide +kernel
theorem dX9_change_32 : decode cX9_change 32 = .ok (.istore_n 3, 1) := by decide +kernel
theorem dX9_change_33 : decode cX9_change 33 = .ok (.aload_n 0, 1) := by decide +kernel
theorem dX9_change_34 : decode cX9_change 34 = .ok (.getfield 39, 3) := by decide +kernel
theorem dX9_change_37 : decode cX9_change 37 = .ok (.invokevirtual 114, 3) := by decide +kernel
theorem dX9_change_40 : decode cX9_change 40 = .ok (.iconst 2, 1) := by decide +kernel
theorem dX9_change_41 : decode cX9_change 41 = .ok (.iload_n 1, 1) := by decide +kernel
theorem dX9_change_42 : decode cX9_change 42 = .ok (.aload_n 0, 1) := by decide +kernel
theorem dX9_change_43 : decode cX9_change 43 = .ok (.getfield 29, 3) := by decide +kernel
theorem dX9_change_46 : decode cX9_change 46 = .ok (.getfield 136, 3) := by decide +kernel
theorem dX9_change_49 : decode cX9_change 49 = .ok (.iload_n 1, 1) := by decide +kernel
theorem dX9_change_50 : decode cX9_change 50 = .ok (.iaload, 1) := by decide +kernel
theorem dX9_change_51 : decode cX9_change 51 = .ok (.aload_n 0, 1) := by decide +kernel
theorem dX9_change_52 : decode cX9_change 52 = .ok (.getfield 29, 3) := by decide +kernel
theorem dX9_change_55 : decode cX9_change 55 = .ok (.getfield 139, 3) := by decide +kernel
theorem dX9_change_58 : decode cX9_change 58 = .ok (.iload_n 1, 1) := by decide +kernel
theorem dX9_change_59 : decode cX9_change 59 = .ok (.iaload, 1) := by decide +kernel
theorem dX9_change_60 : decode cX9_change 60 = .ok (.iload_n 3, 1) := by decide +kernel
theorem dX9_change_61 : decode cX9_change 61 = .ok (.invokevirtual 119, 3) := by decide +kernel
theorem dX9_change_64 : decode cX9_change 64 = .ok (.aload_n 0, 1) := by decide +kernel
theorem dX9_change_65 : decode cX9_change 65 = .ok (.getfield 29, 3) := by decide +kernel
theorem dX9_change_68 : decode cX9_change 68 = .ok (.getfield 132, 3) := by decide +kernel
theorem dX9_change_71 : decode cX9_change 71 = .ok (.iload_n 1, 1) := by decide +kernel
theorem dX9_change_72 : decode cX9_change 72 = .ok (.iload_n 2, 1) := by decide +kernel
theorem dX9_change_73 : decode cX9_change 73 = .ok (.iastore, 1) := by decide +kernel
theorem dX9_change_74 : decode cX9_change 74 = .ok (.iload_n 3, 1) := by decide +kernel
theorem dX9_change_75 : decode cX9_change 75 = .ok (.ireturn, 1) := by decide +kernel
theorem dX9_undo_0 : decode cX9_undo 0 = .ok (.aload_n 0, 1) := by decide +kernel
theorem dX9_undo_1 : decode cX9_undo 1 = .ok (.getfield 39, 3) := by decide +kernel
theorem dX9_undo_4 : decode cX9_undo 4 = .ok (.invokevirtual 149, 3) := by decide +kernel
theorem dX9_undo_7 : decode cX9_undo 7 = .ok (.astore_n 1, 1) := by decide +kernel
theorem dX9_undo_8 : decode cX9_undo 8 = .ok (.aload_n 1, 1) := by decide +kernel
theorem dX9_undo_9 : decode cX9_undo 9 = .ok (.ifnonnull 6, 3) := by decide +kernel
theorem dX9_undo_12 : decode cX9_undo 12 = .ok (.bipush (-3), 2) := by decide +kernel
theorem dX9_undo_14 : decode cX9_undo 14 = .ok (.ireturn, 1) := by decide +kernel
theorem dX9_undo_15 : decode cX9_undo 15 = .ok (.aload_n 1, 1) := by decide +kernel
theorem dX9_undo_16 : decode cX9_undo 16 = .ok (.aload_n 0, 1) := by decide +kernel
theorem dX9_undo_17 : decode cX9_undo 17 = .ok (.getfield 29, 3) := by decide +kernel
theorem dX9_undo_20 : decode cX9_undo 20 = .ok (.invokevirtual 152, 3) := by decide +kernel
theorem dX9_undo_23 : decode cX9_undo 23 = .ok (.aload_n 0, 1) := by decide +kernel
theorem dX9_undo_24 : decode cX9_undo 24 = .ok (.getfield 39, 3) := by decide +kernel
theorem dX9_undo_27 : decode cX9_undo 27 = .ok (.getfield 156, 3) := by decide +kernel
theorem dX9_undo_30 : decode cX9_undo 30 = .ok (.ireturn, 1) := by decide +kernel
theorem dX9_entry_0 : decode cX9_entry 0 = .ok (.aload_n 0, 1) := by decide +kernel
theorem dX9_entry_1 : decode cX9_entry 1 = .ok (.getfield 29, 3) := by decide +kernel
theorem dX9_entry_4 : decode cX9_entry 4 = .ok (.iload_n 1, 1) := by decide +kernel
theorem dX9_entry_5 : decode cX9_entry 5 = .ok (.invokevirtual 129, 3) := by decide +kernel
theorem dX9_entry_8 : decode cX9_entry 8 = .ok (.ifCond .ne 5, 3) := by decide +kernel
theorem dX9_entry_11 : decode cX9_entry 11 = .ok (.iconst (-1), 1) := by decide +kernel
theorem dX9_entry_12 : decode cX9_entry 12 = .ok (.ireturn, 1) := by decide +kernel
theorem dX9_entry_13 : decode cX9_entry 13 = .ok (.iload_n 2, 1) := by decide +kernel
theorem dX9_entry_14 : decode cX9_entry 14 = .ok (.tableswitch 90 0 4 #[34, 44, 54, 64, 77], 34) := by decide +kernel
theorem dX9_entry_48 : decode cX9_entry 48 = .ok (.aload_n 0, 1) := by decide +kernel
theorem dX9_entry_49 : decode cX9_entry 49 = .ok (.getfield 29, 3) := by decide +kernel
theorem dX9_entry_52 : decode cX9_entry 52 = .ok (.getfield 136, 3) := by decide +kernel
theorem dX9_entry_55 : decode cX9_entry 55 = .ok (.iload_n 1, 1) := by decide +kernel
theorem dX9_entry_56 : decode cX9_entry 56 = .ok (.iaload, 1) := by decide +kernel
theorem dX9_entry_57 : decode cX9_entry 57 = .ok (.ireturn, 1) := by decide +kernel
theorem dX9_entry_58 : decode cX9_entry 58 = .ok (.aload_n 0, 1) := by decide +kernel
theorem dX9_entry_59 : decode cX9_entry 59 = .ok (.getfield 29, 3) := by decide +kernel
theorem dX9_entry_62 : decode cX9_entry 62 = .ok (.getfield 139, 3) := by decide +kernel
theorem dX9_entry_65 : decode cX9_entry 65 = .ok (.iload_n 1, 1) := by decide +kernel
theorem dX9_entry_66 : decode cX9_entry 66 = .ok (.iaload, 1) := by decide +kernel
theorem dX9_entry_67 : decode cX9_entry 67 = .ok (.ireturn, 1) := by decide +kernel
theorem dX9_entry_68 : decode cX9_entry 68 = .ok (.aload_n 0, 1) := by decide +kernel
theorem dX9_entry_69 : decode cX9_entry 69 = .ok (.getfield 29, 3) := by decide +kernel
theorem dX9_entry_72 : decode cX9_entry 72 = .ok (.getfield 132, 3) := by decide +kernel
theorem dX9_entry_75 : decode cX9_entry 75 = .ok (.iload_n 1, 1) := by decide +kernel
theorem dX9_entry_76 : decode cX9_entry 76 = .ok (.iaload, 1) := by decide +kernel
theorem dX9_entry_77 : decode cX9_entry 77 = .ok (.ireturn, 1) := by decide +kernel
theorem dX9_entry_78 : decode cX9_entry 78 = .ok (.aload_n 0, 1) := by decide +kernel
theorem dX9_entry_79 : decode cX9_entry 79 = .ok (.aload_n 0, 1) := by decide +kernel
theorem dX9_entry_80 : decode cX9_entry 80 = .ok (.getfield 29, 3) := by decide +kernel
theorem dX9_entry_83 : decode cX9_entry 83 = .ok (.invokevirtual 80, 3) := by decide +kernel
theorem dX9_entry_86 : decode cX9_entry 86 = .ok (.iload_n 1, 1) := by decide +kernel
theorem dX9_entry_87 : decode cX9_entry 87 = .ok (.invokevirtual 157, 3) := by decide +kernel
theorem dX9_entry_90 : decode cX9_entry 90 = .ok (.ireturn, 1) := by decide +kernel
theorem dX9_entry_91 : decode cX9_entry 91 = .ok (.aload_n 0, 1) := by decide +kernel
theorem dX9_entry_92 : decode cX9_entry 92 = .ok (.aload_n 0, 1) := by decide +kernel
theorem dX9_entry_93 : decode cX9_entry 93 = .ok (.getfield 29, 3) := by decide +kernel
theorem dX9_entry_96 : decode cX9_entry 96 = .ok (.invokevirtual 161, 3) := by decide +kernel
theorem dX9_entry_99 : decode cX9_entry 99 = .ok (.iload_n 1, 1) := by decide +kernel
theorem dX9_entry_100 : decode cX9_entry 100 = .ok (.invokevirtual 157, 3) := by decide +kernel
theorem dX9_entry_103 : decode cX9_entry 103 = .ok (.ireturn, 1) := by decide +kernel
theorem dX9_entry_104 : decode cX9_entry 104 = .ok (.bipush (-2), 2) := by decide +kernel
theorem dX9_entry_106 : decode cX9_entry 106 = .ok (.ireturn, 1) := by decide +kernel
theorem dX9_key_0 : decode cX9_key 0 = .ok (.iload_n 1, 1) := by decide +kernel
theorem dX9_key_1 : decode cX9_key 1 = .ok (.invokestatic 164, 3) := by decide +kernel
theorem dX9_key_4 : decode cX9_key 4 = .ok (.ifCond .ne 6, 3) := by decide +kernel
theorem dX9_key_7 : decode cX9_key 7 = .ok (.bipush (-2), 2) := by decide +kernel
theorem dX9_key_9 : decode cX9_key 9 = .ok (.ireturn, 1) := by decide +kernel
theorem dX9_key_10 : decode cX9_key 10 = .ok (.aload_n 0, 1) := by decide +kernel
theorem dX9_key_11 : decode cX9_key 11 = .ok (.iload_n 1, 1) := by decide +kernel
theorem dX9_key_12 : decode cX9_key 12 = .ok (.invokevirtual 167, 3) := by decide +kernel
theorem dX9_key_15 : decode cX9_key 15 = .ok (.astore_n 3, 1) := by decide +kernel
theorem dX9_key_16 : decode cX9_key 16 = .ok (.aload_n 3, 1) := by decide +kernel
theorem dX9_key_17 : decode cX9_key 17 = .ok (.iload_n 2, 1) := by decide +kernel
theorem dX9_key_18 : decode cX9_key 18 = .ok (.invokevirtual 171, 3) := by decide +kernel
theorem dX9_key_21 : decode cX9_key 21 = .ok (.ifCond .eq 12, 3) := by decide +kernel
theorem dX9_key_24 : decode cX9_key 24 = .ok (.aload_n 3, 1) := by decide +kernel
theorem dX9_key_25 : decode cX9_key 25 = .ok (.getfield 172, 3) := by decide +kernel
theorem dX9_key_28 : decode cX9_key 28 = .ok (.iload_n 2, 1) := by decide +kernel
theorem dX9_key_29 : decode cX9_key 29 = .ok (.iaload, 1) := by decide +kernel
theorem dX9_key_30 : decode cX9_key 30 = .ok (.goto 5, 3) := by decide +kernel
theorem dX9_key_33 : decode cX9_key 33 = .ok (.bipush (-9), 2) := by decide +kernel
theorem dX9_key_35 : decode cX9_key 35 = .ok (.ireturn, 1) := by decide +kernel
theorem dX9_cell_0 : decode cX9_cell 0 = .ok (.aload_n 0, 1) := by decide +kernel
theorem dX9_cell_1 : decode cX9_cell 1 = .ok (.aload_n 0, 1) := by decide +kernel
theorem dX9_cell_2 : decode cX9_cell 2 = .ok (.getfield 29, 3) := by decide +kernel
theorem dX9_cell_5 : decode cX9_cell 5 = .ok (.aload_n 0, 1) := by decide +kernel
theorem dX9_cell_6 : decode cX9_cell 6 = .ok (.aload_n 0, 1) := by decide +kernel
theorem dX9_cell_7 : decode cX9_cell 7 = .ok (.getfield 29, 3) := by decide +kernel
theorem dX9_cell_10 : decode cX9_cell 10 = .ok (.iload_n 1, 1) := by decide +kernel
theorem dX9_cell_11 : decode cX9_cell 11 = .ok (.iload_n 2, 1) := by decide +kernel
theorem dX9_cell_12 : decode cX9_cell 12 = .ok (.invokevirtual 175, 3) := by decide +kernel
theorem dX9_cell_15 : decode cX9_cell 15 = .ok (.invokevirtual 179, 3) := by decide +kernel
theorem dX9_cell_18 : decode cX9_cell 18 = .ok (.ireturn, 1) := by decide +kernel
theorem dX9_drill_0 : decode cX9_drill 0 = .ok (.aload_n 0, 1) := by decide +kernel
theorem dX9_drill_1 : decode cX9_drill 1 = .ok (.aload_n 0, 1) := by decide +kernel
theorem dX9_drill_2 : decode cX9_drill 2 = .ok (.getfield 29, 3) := by decide +kernel
theorem dX9_drill_5 : decode cX9_drill 5 = .ok (.iload_n 1, 1) := by decide +kernel
theorem dX9_drill_6 : decode cX9_drill 6 = .ok (.iload_n 2, 1) := by decide +kernel
theorem dX9_drill_7 : decode cX9_drill 7 = .ok (.invokevirtual 175, 3) := by decide +kernel
theorem dX9_drill_10 : decode cX9_drill 10 = .ok (.ireturn, 1) := by decide +kernel
theorem dX9_along_0 : decode cX9_along 0 = .ok (.iload_n 1, 1) := by decide +kernel
theorem dX9_along_1 : decode cX9_along 1 = .ok (.invokestatic 164, 3) := by decide +kernel
theorem dX9_along_4 : decode cX9_along 4 = .ok (.ifCond .ne 6, 3) := by decide +kernel
theorem dX9_along_7 : decode cX9_along 7 = .ok (.bipush (-2), 2) := by decide +kernel
theorem dX9_along_9 : decode cX9_along 9 = .ok (.ireturn, 1) := by decide +kernel
theorem dX9_along_10 : decode cX9_along 10 = .ok (.aload_n 0, 1) := by decide +kernel
theorem dX9_along_11 : decode cX9_along 11 = .ok (.aload_n 0, 1) := by decide +kernel
theorem dX9_along_12 : decode cX9_along 12 = .ok (.getfield 29, 3) := by decide +kernel
theorem dX9_along_15 : decode cX9_along 15 = .ok (.aload_n 0, 1) := by decide +kernel
theorem dX9_along_16 : decode cX9_along 16 = .ok (.iload_n 1, 1) := by decide +kernel
theorem dX9_along_17 : decode cX9_along 17 = .ok (.invokevirtual 167, 3) := by decide +kernel
theorem dX9_along_20 : decode cX9_along 20 = .ok (.iload_n 2, 1) := by decide +kernel
theorem dX9_along_21 : decode cX9_along 21 = .ok (.invokevirtual 183, 3) := by decide +kernel
theorem dX9_along_24 : decode cX9_along 24 = .ok (.invokevirtual 179, 3) := by decide +kernel
theorem dX9_along_27 : decode cX9_along 27 = .ok (.ireturn, 1) := by decide +kernel
theorem dX9_total_0 : decode cX9_total 0 = .ok (.aload_n 0, 1) := by decide +kernel
theorem dX9_total_1 : decode cX9_total 1 = .ok (.aload_n 0, 1) := by decide +kernel
theorem dX9_total_2 : decode cX9_total 2 = .ok (.getfield 29, 3) := by decide +kernel
theorem dX9_total_5 : decode cX9_total 5 = .ok (.invokevirtual 186, 3) := by decide +kernel
theorem dX9_total_8 : decode cX9_total 8 = .ok (.ireturn, 1) := by decide +kernel
theorem dX9_would_0 : decode cX9_would 0 = .ok (.iload_n 1, 1) := by decide +kernel
theorem dX9_would_1 : decode cX9_would 1 = .ok (.iload_n 2, 1) := by decide +kernel
theorem dX9_would_2 : decode cX9_would 2 = .ok (.iload_n 3, 1) := by decide +kernel
theorem dX9_would_3 : decode cX9_would 3 = .ok (.invokestatic 106, 3) := by decide +kernel
theorem dX9_would_6 : decode cX9_would 6 = .ok (.ifCond .eq 11, 3) := by decide +kernel
theorem dX9_would_9 : decode cX9_would 9 = .ok (.iload 4, 2) := by decide +kernel
theorem dX9_would_11 : decode cX9_would 11 = .ok (.invokestatic 190, 3) := by decide +kernel
theorem dX9_would_14 : decode cX9_would 14 = .ok (.ifCond .ne 6, 3) := by decide +kernel
theorem dX9_would_17 : decode cX9_would 17 = .ok (.bipush (-2), 2) := by decide +kernel
theorem dX9_would_19 : decode cX9_would 19 = .ok (.ireturn, 1) := by decide +kernel
theorem dX9_would_20 : decode cX9_would 20 = .ok (.aload_n 0, 1) := by decide +kernel
theorem dX9_would_21 : decode cX9_would 21 = .ok (.getfield 29, 3) := by decide +kernel
theorem dX9_would_24 : decode cX9_would 24 = .ok (.invokevirtual 110, 3) := by decide +kernel
theorem dX9_would_27 : decode cX9_would 27 = .ok (.ifCond .ne 6, 3) := by decide +kernel
theorem dX9_would_30 : decode cX9_would 30 = .ok (.bipush (-4), 2) := by decide +kernel
theorem dX9_would_32 : decode cX9_would 32 = .ok (.ireturn, 1) := by decide +kernel
theorem dX9_would_33 : decode cX9_would 33 = .ok (.aload_n 0, 1) := by decide +kernel
theorem dX9_would_34 : decode cX9_would 34 = .ok (.getfield 33, 3) := by decide +kernel
theorem dX9_would_37 : decode cX9_would 37 = .ok (.aload_n 0, 1) := by decide +kernel
theorem dX9_would_38 : decode cX9_would 38 = .ok (.getfield 29, 3) := by decide +kernel
theorem dX9_would_41 : decode cX9_would 41 = .ok (.invokevirtual 193, 3) := by decide +kernel
theorem dX9_would_44 : decode cX9_would 44 = .ok (.aload_n 0, 1) := by decide +kernel
theorem dX9_would_45 : decode cX9_would 45 = .ok (.getfield 33, 3) := by decide +kernel
theorem dX9_would_48 : decode cX9_would 48 = .ok (.iload_n 1, 1) := by decide +kernel
theorem dX9_would_49 : decode cX9_would 49 = .ok (.iload_n 2, 1) := by decide +kernel
theorem dX9_would_50 : decode cX9_would 50 = .ok (.iload_n 3, 1) := by decide +kernel
theorem dX9_would_51 : decode cX9_would 51 = .ok (.invokevirtual 125, 3) := by decide +kernel
theorem dX9_would_54 : decode cX9_would 54 = .ok (.iload 4, 2) := by decide +kernel
theorem dX9_would_56 : decode cX9_would 56 = .ok (.ifCond .ne 14, 3) := by decide +kernel
theorem dX9_would_59 : decode cX9_would 59 = .ok (.aload_n 0, 1) := by decide +kernel
theorem dX9_would_60 : decode cX9_would 60 = .ok (.aload_n 0, 1) := by decide +kernel
theorem dX9_would_61 : decode cX9_would 61 = .ok (.getfield 33, 3) := by decide +kernel
theorem dX9_would_64 : decode cX9_would 64 = .ok (.invokevirtual 186, 3) := by decide +kernel
theorem dX9_would_67 : decode cX9_would 67 = .ok (.goto 14, 3) := by decide +kernel
theorem dX9_would_70 : decode cX9_would 70 = .ok (.aload_n 0, 1) := by decide +kernel
theorem dX9_would_71 : decode cX9_would 71 = .ok (.aload_n 0, 1) := by decide +kernel
theorem dX9_would_72 : decode cX9_would 72 = .ok (.getfield 33, 3) := by decide +kernel
theorem dX9_would_75 : decode cX9_would 75 = .ok (.invokevirtual 80, 3) := by decide +kernel
theorem dX9_would_78 : decode cX9_would 78 = .ok (.getfield 84, 3) := by decide +kernel
theorem dX9_would_81 : decode cX9_would 81 = .ok (.ireturn, 1) := by decide +kernel
theorem dX9_best_0 : decode cX9_best 0 = .ok (.iload_n 1, 1) := by decide +kernel
theorem dX9_best_1 : decode cX9_best 1 = .ok (.invokestatic 190, 3) := by decide +kernel
theorem dX9_best_4 : decode cX9_best 4 = .ok (.ifCond .ne 6, 3) := by decide +kernel
theorem dX9_best_7 : decode cX9_best 7 = .ok (.bipush (-2), 2) := by decide +kernel
theorem dX9_best_9 : decode cX9_best 9 = .ok (.ireturn, 1) := by decide +kernel
theorem dX9_best_10 : decode cX9_best 10 = .ok (.bipush (-9), 2) := by decide +kernel
theorem dX9_best_12 : decode cX9_best 12 = .ok (.istore_n 2, 1) := by decide +kernel
theorem dX9_best_13 : decode cX9_best 13 = .ok (.bipush (-9), 2) := by decide +kernel
theorem dX9_best_15 : decode cX9_best 15 = .ok (.istore_n 3, 1) := by decide +kernel
theorem dX9_best_16 : decode cX9_best 16 = .ok (.iconst 0, 1) := by decide +kernel
theorem dX9_best_17 : decode cX9_best 17 = .ok (.istore 4, 2) := by decide +kernel
theorem dX9_best_19 : decode cX9_best 19 = .ok (.iload 4, 2) := by decide +kernel
theorem dX9_best_21 : decode cX9_best 21 = .ok (.aload_n 0, 1) := by decide +kernel
theorem dX9_best_22 : decode cX9_best 22 = .ok (.getfield 29, 3) := by decide +kernel
theorem dX9_best_25 : decode cX9_best 25 = .ok (.getfield 118, 3) := by decide +kernel
theorem dX9_best_28 : decode cX9_best 28 = .ok (.if_icmp .ge 51, 3) := by decide +kernel
theorem dX9_best_31 : decode cX9_best 31 = .ok (.aload_n 0, 1) := by decide +kernel
theorem dX9_best_32 : decode cX9_best 32 = .ok (.aload_n 0, 1) := by decide +kernel
theorem dX9_best_33 : decode cX9_best 33 = .ok (.getfield 29, 3) := by decide +kernel
theorem dX9_best_36 : decode cX9_best 36 = .ok (.aload_n 0, 1) := by decide +kernel
theorem dX9_best_37 : decode cX9_best 37 = .ok (.getfield 29, 3) := by decide +kernel
theorem dX9_best_40 : decode cX9_best 40 = .ok (.invokevirtual 196, 3) := by decide +kernel
theorem dX9_best_43 : decode cX9_best 43 = .ok (.iconst 1, 1) := by decide +kernel
theorem dX9_best_44 : decode cX9_best 44 = .ok (.iload 4, 2) := by decide +kernel
theorem dX9_best_46 : decode cX9_best 46 = .ok (.ishl, 1) := by decide +kernel
theorem dX9_best_47 : decode cX9_best 47 = .ok (.iconst (-1), 1) := by decide +kernel
theorem dX9_best_48 : decode cX9_best 48 = .ok (.ixor, 1) := by decide +kernel
theorem dX9_best_49 : decode cX9_best 49 = .ok (.iand, 1) := by decide +kernel
theorem dX9_best_50 : decode cX9_best 50 = .ok (.invokevirtual 179, 3) := by decide +kernel
theorem dX9_best_53 : decode cX9_best 53 = .ok (.istore 5, 2) := by decide +kernel
theorem dX9_best_55 : decode cX9_best 55 = .ok (.iload_n 2, 1) := by decide +kernel
theorem dX9_best_56 : decode cX9_best 56 = .ok (.bipush (-9), 2) := by decide +kernel
theorem dX9_best_58 : decode cX9_best 58 = .ok (.if_icmp .eq 9, 3) := by decide +kernel
theorem dX9_best_61 : decode cX9_best 61 = .ok (.iload 5, 2) := by decide +kernel
theorem dX9_best_63 : decode cX9_best 63 = .ok (.iload_n 3, 1) := by decide +kernel
theorem dX9_best_64 : decode cX9_best 64 = .ok (.if_icmp .le 9, 3) := by decide +kernel
theorem dX9_best_67 : decode cX9_best 67 = .ok (.iload 4, 2) := by decide +kernel
theorem dX9_best_69 : decode cX9_best 69 = .ok (.istore_n 2, 1) := by decide +kernel
theorem dX9_best_70 : decode cX9_best 70 = .ok (.iload 5, 2) := by decide +kernel
theorem dX9_best_72 : decode cX9_best 72 = .ok (.istore_n 3, 1) := by decide +kernel
theorem dX9_best_73 : decode cX9_best 73 = .ok (.iinc 4 1, 3) := by decide +kernel
theorem dX9_best_76 : decode cX9_best 76 = .ok (.goto (-57), 3) := by decide +kernel
theorem dX9_best_79 : decode cX9_best 79 = .ok (.iload_n 1, 1) := by decide +kernel
theorem dX9_best_80 : decode cX9_best 80 = .ok (.ifCond .ne 7, 3) := by decide +kernel
theorem dX9_best_83 : decode cX9_best 83 = .ok (.iload_n 2, 1) := by decide +kernel
theorem dX9_best_84 : decode cX9_best 84 = .ok (.goto 4, 3) := by decide +kernel
theorem dX9_best_87 : decode cX9_best 87 = .ok (.iload_n 3, 1) := by decide +kernel
theorem dX9_best_88 : decode cX9_best 88 = .ok (.ireturn, 1) := by decide +kernel
theorem dX9_judge_0 : decode cX9_judge 0 = .ok (.iload_n 1, 1) := by decide +kernel
theorem dX9_judge_1 : decode cX9_judge 1 = .ok (.iconst 1, 1) := by decide +kernel
theorem dX9_judge_2 : decode cX9_judge 2 = .ok (.if_icmp .lt 24, 3) := by decide +kernel
theorem dX9_judge_5 : decode cX9_judge 5 = .ok (.iload_n 1, 1) := by decide +kernel
theorem dX9_judge_6 : decode cX9_judge 6 = .ok (.iconst 4, 1) := by decide +kernel
theorem dX9_judge_7 : decode cX9_judge 7 = .ok (.if_icmp .gt 19, 3) := by decide +kernel
theorem dX9_judge_10 : decode cX9_judge 10 = .ok (.lload_n 2, 1) := by decide +kernel
theorem dX9_judge_11 : decode cX9_judge 11 = .ok (.lconst 0, 1) := by decide +kernel
theorem dX9_judge_12 : decode cX9_judge 12 = .ok (.lcmp, 1) := by decide +kernel
theorem dX9_judge_13 : decode cX9_judge 13 = .ok (.ifCond .lt 13, 3) := by decide +kernel
theorem dX9_judge_16 : decode cX9_judge 16 = .ok (.lload_n 2, 1) := by decide +kernel
theorem dX9_judge_17 : decode cX9_judge 17 = .ok (.getstatic 199, 3) := by decide +kernel
theorem dX9_judge_20 : decode cX9_judge 20 = .ok (.iload_n 1, 1) := by decide +kernel
theorem dX9_judge_21 : decode cX9_judge 21 = .ok (.laload, 1) := by decide +kernel
theorem dX9_judge_22 : decode cX9_judge 22 = .ok (.lcmp, 1) := by decide +kernel
theorem dX9_judge_23 : decode cX9_judge 23 = .ok (.ifCond .lt 6, 3) := by decide +kernel
theorem dX9_judge_26 : decode cX9_judge 26 = .ok (.bipush (-2), 2) := by decide +kernel
theorem dX9_judge_28 : decode cX9_judge 28 = .ok (.ireturn, 1) := by decide +kernel
theorem dX9_judge_29 : decode cX9_judge 29 = .ok (.aload_n 0, 1) := by decide +kernel
theorem dX9_judge_30 : decode cX9_judge 30 = .ok (.getfield 33, 3) := by decide +kernel
theorem dX9_judge_33 : decode cX9_judge 33 = .ok (.aload_n 0, 1) := by decide +kernel
theorem dX9_judge_34 : decode cX9_judge 34 = .ok (.getfield 29, 3) := by decide +kernel
theorem dX9_judge_37 : decode cX9_judge 37 = .ok (.invokevirtual 193, 3) := by decide +kernel
theorem dX9_judge_40 : decode cX9_judge 40 = .ok (.iconst 0, 1) := by decide +kernel
theorem dX9_judge_41 : decode cX9_judge 41 = .ok (.istore 4, 2) := by decide +kernel
theorem dX9_judge_43 : decode cX9_judge 43 = .ok (.iload 4, 2) := by decide +kernel
theorem dX9_judge_45 : decode cX9_judge 45 = .ok (.iload_n 1, 1) := by decide +kernel
theorem dX9_judge_46 : decode cX9_judge 46 = .ok (.if_icmp .ge 42, 3) := by decide +kernel
theorem dX9_judge_49 : decode cX9_judge 49 = .ok (.lload_n 2, 1) := by decide +kernel
theorem dX9_judge_50 : decode cX9_judge 50 = .ok (.getstatic 199, 3) := by decide +kernel
theorem dX9_judge_53 : decode cX9_judge 53 = .ok (.iload_n 1, 1) := by decide +kernel
theorem dX9_judge_54 : decode cX9_judge 54 = .ok (.iconst 1, 1) := by decide +kernel
theorem dX9_judge_55 : decode cX9_judge 55 = .ok (.isub, 1) := by decide +kernel
theorem dX9_judge_56 : decode cX9_judge 56 = .ok (.iload 4, 2) := by decide +kernel
theorem dX9_judge_58 : decode cX9_judge 58 = .ok (.isub, 1) := by decide +kernel
theorem dX9_judge_59 : decode cX9_judge 59 = .ok (.laload, 1) := by decide +kernel
theorem dX9_judge_60 : decode cX9_judge 60 = .ok (.ldiv, 1) := by decide +kernel
theorem dX9_judge_61 : decode cX9_judge 61 = .ok (.lstore 5, 2) := by decide +kernel
theorem dX9_judge_63 : decode cX9_judge 63 = .ok (.aload_n 0, 1) := by decide +kernel
theorem dX9_judge_64 : decode cX9_judge 64 = .ok (.lload 5, 2) := by decide +kernel
theorem dX9_judge_66 : decode cX9_judge 66 = .ok (.getstatic 199, 3) := by decide +kernel
theorem dX9_judge_69 : decode cX9_judge 69 = .ok (.iconst 1, 1) := by decide +kernel
theorem dX9_judge_70 : decode cX9_judge 70 = .ok (.laload, 1) := by decide +kernel
theorem dX9_judge_71 : decode cX9_judge 71 = .ok (.lrem, 1) := by decide +kernel
theorem dX9_judge_72 : decode cX9_judge 72 = .ok (.l2i, 1) := by decide +kernel
theorem dX9_judge_73 : decode cX9_judge 73 = .ok (.invokevirtual 203, 3) := by decide +kernel
theorem dX9_judge_76 : decode cX9_judge 76 = .ok (.ifCond .ne 6, 3) := by decide +kernel
theorem dX9_judge_79 : decode cX9_judge 79 = .ok (.iload 4, 2) := by decide +kernel
theorem dX9_judge_81 : decode cX9_judge 81 = .ok (.ireturn, 1) := by decide +kernel
theorem dX9_judge_82 : decode cX9_judge 82 = .ok (.iinc 4 1, 3) := by decide +kernel
theorem dX9_judge_85 : decode cX9_judge 85 = .ok (.goto (-42), 3) := by decide +kernel
theorem dX9_judge_88 : decode cX9_judge 88 = .ok (.bipush (-9), 2) := by decide +kernel
theorem dX9_judge_90 : decode cX9_judge 90 = .ok (.ireturn, 1) := by decide +kernel
theorem dX9_see_0 : decode cX9_see 0 = .ok (.iload_n 1, 1) := by decide +kernel
theorem dX9_see_1 : decode cX9_see 1 = .ok (.invokestatic 206, 3) := by decide +kernel
theorem dX9_see_4 : decode cX9_see 4 = .ok (.ifCond .eq 17, 3) := by decide +kernel
theorem dX9_see_7 : decode cX9_see 7 = .ok (.iload_n 2, 1) := by decide +kernel
theorem dX9_see_8 : decode cX9_see 8 = .ok (.invokestatic 209, 3) := by decide +kernel
theorem dX9_see_11 : decode cX9_see 11 = .ok (.ifCond .eq 10, 3) := by decide +kernel
theorem dX9_see_14 : decode cX9_see 14 = .ok (.iload_n 3, 1) := by decide +kernel
theorem dX9_see_15 : decode cX9_see 15 = .ok (.invokestatic 190, 3) := by decide +kernel
theorem dX9_see_18 : decode cX9_see 18 = .ok (.ifCond .ne 6, 3) := by decide +kernel
theorem dX9_see_21 : decode cX9_see 21 = .ok (.bipush (-2), 2) := by decide +kernel
theorem dX9_see_23 : decode cX9_see 23 = .ok (.ireturn, 1) := by decide +kernel
theorem dX9_see_24 : decode cX9_see 24 = .ok (.aload_n 0, 1) := by decide +kernel
theorem dX9_see_25 : decode cX9_see 25 = .ok (.getfield 56, 3) := by decide +kernel
theorem dX9_see_28 : decode cX9_see 28 = .ok (.iload_n 1, 1) := by decide +kernel
theorem dX9_see_29 : decode cX9_see 29 = .ok (.iload_n 2, 1) := by decide +kernel
theorem dX9_see_30 : decode cX9_see 30 = .ok (.iload_n 3, 1) := by decide +kernel
theorem dX9_see_31 : decode cX9_see 31 = .ok (.iconst 1, 1) := by decide +kernel
theorem dX9_see_32 : decode cX9_see 32 = .ok (.if_icmp .ne 7, 3) := by decide +kernel
theorem dX9_see_35 : decode cX9_see 35 = .ok (.iconst 1, 1) := by decide +kernel
theorem dX9_see_36 : decode cX9_see 36 = .ok (.goto 4, 3) := by decide +kernel
theorem dX9_see_39 : decode cX9_see 39 = .ok (.iconst 0, 1) := by decide +kernel
theorem dX9_see_40 : decode cX9_see 40 = .ok (.invokevirtual 212, 3) := by decide +kernel
theorem dX9_see_43 : decode cX9_see 43 = .ok (.ifCond .eq 13, 3) := by decide +kernel
theorem dX9_see_46 : decode cX9_see 46 = .ok (.aload_n 0, 1) := by decide +kernel
theorem dX9_see_47 : decode cX9_see 47 = .ok (.getfield 56, 3) := by decide +kernel
theorem dX9_see_50 : decode cX9_see 50 = .ok (.getfield 215, 3) := by decide +kernel
theorem dX9_see_53 : decode cX9_see 53 = .ok (.goto 5, 3) := by decide +kernel
theorem dX9_see_56 : decode cX9_see 56 = .ok (.bipush (-4), 2) := by decide +kernel
theorem dX9_see_58 : decode cX9_see 58 = .ok (.ireturn, 1) := by decide +kernel
theorem dX9_unsee_0 : decode cX9_unsee 0 = .ok (.aload_n 0, 1) := by decide +kernel
theorem dX9_unsee_1 : decode cX9_unsee 1 = .ok (.getfield 56, 3) := by decide +kernel
theorem dX9_unsee_4 : decode cX9_unsee 4 = .ok (.getfield 215, 3) := by decide +kernel
theorem dX9_unsee_7 : decode cX9_unsee 7 = .ok (.istore_n 1, 1) := by decide +kernel
theorem dX9_unsee_8 : decode cX9_unsee 8 = .ok (.aload_n 0, 1) := by decide +kernel
theorem dX9_unsee_9 : decode cX9_unsee 9 = .ok (.getfield 56, 3) := by decide +kernel
theorem dX9_unsee_12 : decode cX9_unsee 12 = .ok (.iconst 0, 1) := by decide +kernel
theorem dX9_unsee_13 : decode cX9_unsee 13 = .ok (.putfield 215, 3) := by decide +kernel
theorem dX9_unsee_16 : decode cX9_unsee 16 = .ok (.iload_n 1, 1) := by decide +kernel
theorem dX9_unsee_17 : decode cX9_unsee 17 = .ok (.ireturn, 1) := by decide +kernel
theorem dX9_hidden_0 : decode cX9_hidden 0 = .ok (.iload_n 1, 1) := by decide +kernel
theorem dX9_hidden_1 : decode cX9_hidden 1 = .ok (.invokestatic 190, 3) := by decide +kernel
theorem dX9_hidden_4 : decode cX9_hidden 4 = .ok (.ifCond .ne 6, 3) := by decide +kernel
theorem dX9_hidden_7 : decode cX9_hidden 7 = .ok (.bipush (-2), 2) := by decide +kernel
theorem dX9_hidden_9 : decode cX9_hidden 9 = .ok (.ireturn, 1) := by decide +kernel
theorem dX9_hidden_10 : decode cX9_hidden 10 = .ok (.aload_n 0, 1) := by decide +kernel
theorem dX9_hidden_11 : decode cX9_hidden 11 = .ok (.getfield 29, 3) := by decide +kernel
theorem dX9_hidden_14 : decode cX9_hidden 14 = .ok (.invokevirtual 110, 3) := by decide +kernel
theorem dX9_hidden_17 : decode cX9_hidden 17 = .ok (.ifCond .ne 6, 3) := by decide +kernel
theorem dX9_hidden_20 : decode cX9_hidden 20 = .ok (.bipush (-4), 2) := by decide +kernel
theorem dX9_hidden_22 : decode cX9_hidden 22 = .ok (.ireturn, 1) := by decide +kernel
theorem dX9_hidden_23 : decode cX9_hidden 23 = .ok (.aload_n 0, 1) := by decide +kernel
theorem dX9_hidden_24 : decode cX9_hidden 24 = .ok (.getfield 19, 3) := by decide +kernel
theorem dX9_hidden_27 : decode cX9_hidden 27 = .ok (.getfield 216, 3) := by decide +kernel
theorem dX9_hidden_30 : decode cX9_hidden 30 = .ok (.getstatic 220, 3) := by decide +kernel
theorem dX9_hidden_33 : decode cX9_hidden 33 = .ok (.if_acmp .ne 7, 3) := by decide +kernel
theorem dX9_hidden_36 : decode cX9_hidden 36 = .ok (.iconst 4, 1) := by decide +kernel
theorem dX9_hidden_37 : decode cX9_hidden 37 = .ok (.goto 4, 3) := by decide +kernel
theorem dX9_hidden_40 : decode cX9_hidden 40 = .ok (.iconst 1, 1) := by decide +kernel
theorem dX9_hidden_41 : decode cX9_hidden 41 = .ok (.istore_n 2, 1) := by decide +kernel
theorem dX9_hidden_42 : decode cX9_hidden 42 = .ok (.aload_n 0, 1) := by decide +kernel
theorem dX9_hidden_43 : decode cX9_hidden 43 = .ok (.getfield 19, 3) := by decide +kernel
theorem dX9_hidden_46 : decode cX9_hidden 46 = .ok (.getfield 216, 3) := by decide +kernel
theorem dX9_hidden_49 : decode cX9_hidden 49 = .ok (.getstatic 225, 3) := by decide +kernel
theorem dX9_hidden_52 : decode cX9_hidden 52 = .ok (.if_acmp .ne 7, 3) := by decide +kernel
theorem dX9_hidden_55 : decode cX9_hidden 55 = .ok (.iconst 5, 1) := by decide +kernel
theorem dX9_hidden_56 : decode cX9_hidden 56 = .ok (.goto 4, 3) := by decide +kernel
theorem dX9_hidden_59 : decode cX9_hidden 59 = .ok (.iconst 1, 1) := by decide +kernel
theorem dX9_hidden_60 : decode cX9_hidden 60 = .ok (.istore_n 3, 1) := by decide +kernel
theorem dX9_hidden_61 : decode cX9_hidden 61 = .ok (.bipush (-9), 2) := by decide +kernel
theorem dX9_hidden_63 : decode cX9_hidden 63 = .ok (.istore 4, 2) := by decide +kernel
theorem dX9_hidden_65 : decode cX9_hidden 65 = .ok (.iconst 0, 1) := by decide +kernel
theorem dX9_hidden_66 : decode cX9_hidden 66 = .ok (.istore 5, 2) := by decide +kernel
theorem dX9_hidden_68 : decode cX9_hidden 68 = .ok (.iconst 0, 1) := by decide +kernel
theorem dX9_hidden_69 : decode cX9_hidden 69 = .ok (.istore 6, 2) := by decide +kernel
theorem dX9_hidden_71 : decode cX9_hidden 71 = .ok (.iload 6, 2) := by decide +kernel
theorem dX9_hidden_73 : decode cX9_hidden 73 = .ok (.iload_n 2, 1) := by decide +kernel
theorem dX9_hidden_74 : decode cX9_hidden 74 = .ok (.if_icmp .ge 84, 3) := by decide +kernel
theorem dX9_hidden_77 : decode cX9_hidden 77 = .ok (.iconst 0, 1) := by decide +kernel
theorem dX9_hidden_78 : decode cX9_hidden 78 = .ok (.istore 7, 2) := by decide +kernel
theorem dX9_hidden_80 : decode cX9_hidden 80 = .ok (.iload 7, 2) := by decide +kernel
theorem dX9_hidden_82 : decode cX9_hidden 82 = .ok (.iload_n 3, 1) := by decide +kernel
theorem dX9_hidden_83 : decode cX9_hidden 83 = .ok (.if_icmp .ge 69, 3) := by decide +kernel
theorem dX9_hidden_86 : decode cX9_hidden 86 = .ok (.iconst 0, 1) := by decide +kernel
theorem dX9_hidden_87 : decode cX9_hidden 87 = .ok (.istore 8, 2) := by decide +kernel
theorem dX9_hidden_89 : decode cX9_hidden 89 = .ok (.iload 8, 2) := by decide +kernel
theorem dX9_hidden_91 : decode cX9_hidden 91 = .ok (.bipush 100, 2) := by decide +kernel
theorem dX9_hidden_93 : decode cX9_hidden 93 = .ok (.if_icmp .gt 53, 3) := by decide +kernel
theorem dX9_hidden_96 : decode cX9_hidden 96 = .ok (.aload_n 0, 1) := by decide +kernel
theorem dX9_hidden_97 : decode cX9_hidden 97 = .ok (.iload 6, 2) := by decide +kernel
theorem dX9_hidden_99 : decode cX9_hidden 99 = .ok (.iload 7, 2) := by decide +kernel
theorem dX9_hidden_101 : decode cX9_hidden 101 = .ok (.iload 8, 2) := by decide +kernel
theorem dX9_hidden_103 : decode cX9_hidden 103 = .ok (.invokevirtual 228, 3) := by decide +kernel
theorem dX9_hidden_106 : decode cX9_hidden 106 = .ok (.ifCond .eq 34, 3) := by decide +kernel
theorem dX9_hidden_109 : decode cX9_hidden 109 = .ok (.iload 5, 2) := by decide +kernel
theorem dX9_hidden_111 : decode cX9_hidden 111 = .ok (.ifCond .ne 22, 3) := by decide +kernel
theorem dX9_hidden_114 : decode cX9_hidden 114 = .ok (.sipush 10000, 3) := by decide +kernel
theorem dX9_hidden_117 : decode cX9_hidden 117 = .ok (.iload 6, 2) := by decide +kernel
theorem dX9_hidden_119 : decode cX9_hidden 119 = .ok (.imul, 1) := by decide +kernel
theorem dX9_hidden_120 : decode cX9_hidden 120 = .ok (.sipush 1000, 3) := by decide +kernel
theorem dX9_hidden_123 : decode cX9_hidden 123 = .ok (.iload 7, 2) := by decide +kernel
theorem dX9_hidden_125 : decode cX9_hidden 125 = .ok (.imul, 1) := by decide +kernel
theorem dX9_hidden_126 : decode cX9_hidden 126 = .ok (.iadd, 1) := by decide +kernel
theorem dX9_hidden_127 : decode cX9_hidden 127 = .ok (.iload 8, 2) := by decide +kernel
theorem dX9_hidden_129 : decode cX9_hidden 129 = .ok (.iadd, 1) := by decide +kernel
theorem dX9_hidden_130 : decode cX9_hidden 130 = .ok (.goto 5, 3) := by decide +kernel
theorem dX9_hidden_133 : decode cX9_hidden 133 = .ok (.iload 4, 2) := by decide +kernel
theorem dX9_hidden_135 : decode cX9_hidden 135 = .ok (.istore 4, 2) := by decide +kernel
theorem dX9_hidden_137 : decode cX9_hidden 137 = .ok (.iinc 5 1, 3) := by decide +kernel
theorem dX9_hidden_140 : decode cX9_hidden 140 = .ok (.iinc 8 1, 3) := by decide +kernel
theorem dX9_hidden_143 : decode cX9_hidden 143 = .ok (.goto (-54), 3) := by decide +kernel
theorem dX9_hidden_146 : decode cX9_hidden 146 = .ok (.iinc 7 1, 3) := by decide +kernel
theorem dX9_hidden_149 : decode cX9_hidden 149 = .ok (.goto (-69), 3) := by decide +kernel
theorem dX9_hidden_152 : decode cX9_hidden 152 = .ok (.iinc 6 1, 3) := by decide +kernel
theorem dX9_hidden_155 : decode cX9_hidden 155 = .ok (.goto (-84), 3) := by decide +kernel
theorem dX9_hidden_158 : decode cX9_hidden 158 = .ok (.iload_n 2, 1) := by decide +kernel
theorem dX9_hidden_159 : decode cX9_hidden 159 = .ok (.iconst 1, 1) := by decide +kernel
theorem dX9_hidden_160 : decode cX9_hidden 160 = .ok (.if_icmp .ne 7, 3) := by decide +kernel
theorem dX9_hidden_163 : decode cX9_hidden 163 = .ok (.iconst 4, 1) := by decide +kernel
theorem dX9_hidden_164 : decode cX9_hidden 164 = .ok (.goto 4, 3) := by decide +kernel
theorem dX9_hidden_167 : decode cX9_hidden 167 = .ok (.iconst 1, 1) := by decide +kernel
theorem dX9_hidden_168 : decode cX9_hidden 168 = .ok (.iload_n 3, 1) := by decide +kernel
theorem dX9_hidden_169 : decode cX9_hidden 169 = .ok (.iconst 1, 1) := by decide +kernel
theorem dX9_hidden_170 : decode cX9_hidden 170 = .ok (.if_icmp .ne 7, 3) := by decide +kernel
theorem dX9_hidden_173 : decode cX9_hidden 173 = .ok (.iconst 5, 1) := by decide +kernel
theorem dX9_hidden_174 : decode cX9_hidden 174 = .ok (.goto 4, 3) := by decide +kernel
theorem dX9_hidden_177 : decode cX9_hidden 177 = .ok (.iconst 1, 1) := by decide +kernel
theorem dX9_hidden_178 : decode cX9_hidden 178 = .ok (.imul, 1) := by decide +kernel
theorem dX9_hidden_179 : decode cX9_hidden 179 = .ok (.istore 6, 2) := by decide +kernel
theorem dX9_hidden_181 : decode cX9_hidden 181 = .ok (.iload_n 1, 1) := by decide +kernel
theorem dX9_hidden_182 : decode cX9_hidden 182 = .ok (.ifCond .ne 11, 3) := by decide +kernel
theorem dX9_hidden_185 : decode cX9_hidden 185 = .ok (.iload 5, 2) := by decide +kernel
theorem dX9_hidden_187 : decode cX9_hidden 187 = .ok (.iload 6, 2) := by decide +kernel
theorem dX9_hidden_189 : decode cX9_hidden 189 = .ok (.imul, 1) := by decide +kernel
theorem dX9_hidden_190 : decode cX9_hidden 190 = .ok (.goto 5, 3) := by decide +kernel
theorem dX9_hidden_193 : decode cX9_hidden 193 = .ok (.iload 4, 2) := by decide +kernel
theorem dX9_hidden_195 : decode cX9_hidden 195 = .ok (.ireturn, 1) := by decide +kernel
theorem dX9_share_0 : decode cX9_share 0 = .ok (.aload_n 0, 1) := by decide +kernel
theorem dX9_share_1 : decode cX9_share 1 = .ok (.aload_n 0, 1) := by decide +kernel
theorem dX9_share_2 : decode cX9_share 2 = .ok (.getfield 29, 3) := by decide +kernel
theorem dX9_share_5 : decode cX9_share 5 = .ok (.invokevirtual 80, 3) := by decide +kernel
theorem dX9_share_8 : decode cX9_share 8 = .ok (.astore_n 3, 1) := by decide +kernel
theorem dX9_share_9 : decode cX9_share 9 = .ok (.aload_n 3, 1) := by decide +kernel
theorem dX9_share_10 : decode cX9_share 10 = .ok (.iload_n 1, 1) := by decide +kernel
theorem dX9_share_11 : decode cX9_share 11 = .ok (.invokevirtual 171, 3) := by decide +kernel
theorem dX9_share_14 : decode cX9_share 14 = .ok (.ifCond .ne 5, 3) := by decide +kernel
theorem dX9_share_17 : decode cX9_share 17 = .ok (.iconst (-1), 1) := by decide +kernel
theorem dX9_share_18 : decode cX9_share 18 = .ok (.ireturn, 1) := by decide +kernel
theorem dX9_share_19 : decode cX9_share 19 = .ok (.aload_n 3, 1) := by decide +kernel
theorem dX9_share_20 : decode cX9_share 20 = .ok (.getfield 84, 3) := by decide +kernel
theorem dX9_share_23 : decode cX9_share 23 = .ok (.bipush 6, 2) := by decide +kernel
theorem dX9_share_25 : decode cX9_share 25 = .ok (.if_icmp .le 6, 3) := by decide +kernel
theorem dX9_share_28 : decode cX9_share 28 = .ok (.bipush (-4), 2) := by decide +kernel
theorem dX9_share_30 : decode cX9_share 30 = .ok (.ireturn, 1) := by decide +kernel
theorem dX9_share_31 : decode cX9_share 31 = .ok (.iconst 0, 1) := by decide +kernel
theorem dX9_share_32 : decode cX9_share 32 = .ok (.istore 4, 2) := by decide +kernel
theorem dX9_share_34 : decode cX9_share 34 = .ok (.iconst 0, 1) := by decide +kernel
theorem dX9_share_35 : decode cX9_share 35 = .ok (.istore 5, 2) := by decide +kernel
theorem dX9_share_37 : decode cX9_share 37 = .ok (.iload 5, 2) := by decide +kernel
theorem dX9_share_39 : decode cX9_share 39 = .ok (.iconst 1, 1) := by decide +kernel
theorem dX9_share_40 : decode cX9_share 40 = .ok (.aload_n 3, 1) := by decide +kernel
theorem dX9_share_41 : decode cX9_share 41 = .ok (.getfield 84, 3) := by decide +kernel
theorem dX9_share_44 : decode cX9_share 44 = .ok (.ishl, 1) := by decide +kernel
theorem dX9_share_45 : decode cX9_share 45 = .ok (.if_icmp .ge 84, 3) := by decide +kernel
theorem dX9_share_48 : decode cX9_share 48 = .ok (.iload 5, 2) := by decide +kernel
theorem dX9_share_50 : decode cX9_share 50 = .ok (.iload_n 1, 1) := by decide +kernel
theorem dX9_share_51 : decode cX9_share 51 = .ok (.ishr, 1) := by decide +kernel
theorem dX9_share_52 : decode cX9_share 52 = .ok (.iconst 1, 1) := by decide +kernel
theorem dX9_share_53 : decode cX9_share 53 = .ok (.iand, 1) := by decide +kernel
theorem dX9_share_54 : decode cX9_share 54 = .ok (.ifCond .ne 69, 3) := by decide +kernel
theorem dX9_share_57 : decode cX9_share 57 = .ok (.iload 5, 2) := by decide +kernel
theorem dX9_share_59 : decode cX9_share 59 = .ok (.invokestatic 231, 3) := by decide +kernel
theorem dX9_share_62 : decode cX9_share 62 = .ok (.istore 6, 2) := by decide +kernel
theorem dX9_share_64 : decode cX9_share 64 = .ok (.getstatic 236, 3) := by decide +kernel
theorem dX9_share_67 : decode cX9_share 67 = .ok (.iload 6, 2) := by decide +kernel
theorem dX9_share_69 : decode cX9_share 69 = .ok (.iaload, 1) := by decide +kernel
theorem dX9_share_70 : decode cX9_share 70 = .ok (.getstatic 236, 3) := by decide +kernel
theorem dX9_share_73 : decode cX9_share 73 = .ok (.aload_n 3, 1) := by decide +kernel
theorem dX9_share_74 : decode cX9_share 74 = .ok (.getfield 84, 3) := by decide +kernel
theorem dX9_share_77 : decode cX9_share 77 = .ok (.iconst 1, 1) := by decide +kernel
theorem dX9_share_78 : decode cX9_share 78 = .ok (.isub, 1) := by decide +kernel
theorem dX9_share_79 : decode cX9_share 79 = .ok (.iload 6, 2) := by decide +kernel
theorem dX9_share_81 : decode cX9_share 81 = .ok (.isub, 1) := by decide +kernel
theorem dX9_share_82 : decode cX9_share 82 = .ok (.iaload, 1) := by decide +kernel
theorem dX9_share_83 : decode cX9_share 83 = .ok (.imul, 1) := by decide +kernel
theorem dX9_share_84 : decode cX9_share 84 = .ok (.istore 7, 2) := by decide +kernel
theorem dX9_share_86 : decode cX9_share 86 = .ok (.aload_n 0, 1) := by decide +kernel
theorem dX9_share_87 : decode cX9_share 87 = .ok (.aload_n 3, 1) := by decide +kernel
theorem dX9_share_88 : decode cX9_share 88 = .ok (.iload 5, 2) := by decide +kernel
theorem dX9_share_90 : decode cX9_share 90 = .ok (.iconst 1, 1) := by decide +kernel
theorem dX9_share_91 : decode cX9_share 91 = .ok (.iload_n 1, 1) := by decide +kernel
theorem dX9_share_92 : decode cX9_share 92 = .ok (.ishl, 1) := by decide +kernel
theorem dX9_share_93 : decode cX9_share 93 = .ok (.ior, 1) := by decide +kernel
theorem dX9_share_94 : decode cX9_share 94 = .ok (.invokevirtual 239, 3) := by decide +kernel
theorem dX9_share_97 : decode cX9_share 97 = .ok (.invokevirtual 242, 3) := by decide +kernel
theorem dX9_share_100 : decode cX9_share 100 = .ok (.aload_n 0, 1) := by decide +kernel
theorem dX9_share_101 : decode cX9_share 101 = .ok (.aload_n 3, 1) := by decide +kernel
theorem dX9_share_102 : decode cX9_share 102 = .ok (.iload 5, 2) := by decide +kernel
theorem dX9_share_104 : decode cX9_share 104 = .ok (.invokevirtual 239, 3) := by decide +kernel
theorem dX9_share_107 : decode cX9_share 107 = .ok (.invokevirtual 242, 3) := by decide +kernel
theorem dX9_share_110 : decode cX9_share 110 = .ok (.isub, 1) := by decide +kernel
theorem dX9_share_111 : decode cX9_share 111 = .ok (.istore 8, 2) := by decide +kernel
theorem dX9_share_113 : decode cX9_share 113 = .ok (.iload 4, 2) := by decide +kernel
theorem dX9_share_115 : decode cX9_share 115 = .ok (.iload 7, 2) := by decide +kernel
theorem dX9_share_117 : decode cX9_share 117 = .ok (.iload 8, 2) := by decide +kernel
theorem dX9_share_119 : decode cX9_share 119 = .ok (.imul, 1) := by decide +kernel
theorem dX9_share_120 : decode cX9_share 120 = .ok (.iadd, 1) := by decide +kernel
theorem dX9_share_121 : decode cX9_share 121 = .ok (.istore 4, 2) := by decide +kernel
theorem dX9_share_123 : decode cX9_share 123 = .ok (.iinc 5 1, 3) := by decide +kernel
theorem dX9_share_126 : decode cX9_share 126 = .ok (.goto (-89), 3) := by decide +kernel
theorem dX9_share_129 : decode cX9_share 129 = .ok (.iload 4, 2) := by decide +kernel
theorem dX9_share_131 : decode cX9_share 131 = .ok (.getstatic 236, 3) := by decide +kernel
theorem dX9_share_134 : decode cX9_share 134 = .ok (.aload_n 3, 1) := by decide +kernel
theorem dX9_share_135 : decode cX9_share 135 = .ok (.getfield 84, 3) := by decide +kernel
theorem dX9_share_138 : decode cX9_share 138 = .ok (.iaload, 1) := by decide +kernel
theorem dX9_share_139 : decode cX9_share 139 = .ok (.iload_n 2, 1) := by decide +kernel
theorem dX9_share_140 : decode cX9_share 140 = .ok (.invokestatic 245, 3) := by decide +kernel
theorem dX9_share_143 : decode cX9_share 143 = .ok (.ireturn, 1) := by decide +kernel
theorem dX9_lost_0 : decode cX9_lost 0 = .ok (.iload_n 1, 1) := by decide +kernel
theorem dX9_lost_1 : decode cX9_lost 1 = .ok (.ifCond .lt 20, 3) := by decide +kernel
theorem dX9_lost_4 : decode cX9_lost 4 = .ok (.iload_n 1, 1) := by decide +kernel
theorem dX9_lost_5 : decode cX9_lost 5 = .ok (.sipush 999, 3) := by decide +kernel
theorem dX9_lost_8 : decode cX9_lost 8 = .ok (.if_icmp .gt 13, 3) := by decide +kernel
theorem dX9_lost_11 : decode cX9_lost 11 = .ok (.iload_n 2, 1) := by decide +kernel
theorem dX9_lost_12 : decode cX9_lost 12 = .ok (.ifCond .lt 9, 3) := by decide +kernel
theorem dX9_lost_15 : decode cX9_lost 15 = .ok (.iload_n 2, 1) := by decide +kernel
theorem dX9_lost_16 : decode cX9_lost 16 = .ok (.bipush 10, 2) := by decide +kernel
theorem dX9_lost_18 : decode cX9_lost 18 = .ok (.if_icmp .le 6, 3) := by decide +kernel
theorem dX9_lost_21 : decode cX9_lost 21 = .ok (.bipush (-2), 2) := by decide +kernel
theorem dX9_lost_23 : decode cX9_lost 23 = .ok (.ireturn, 1) := by decide +kernel
theorem dX9_lost_24 : decode cX9_lost 24 = .ok (.aload_n 0, 1) := by decide +kernel
theorem dX9_lost_25 : decode cX9_lost 25 = .ok (.aload_n 0, 1) := by decide +kernel
theorem dX9_lost_26 : decode cX9_lost 26 = .ok (.getfield 29, 3) := by decide +kernel
theorem dX9_lost_29 : decode cX9_lost 29 = .ok (.invokevirtual 80, 3) := by decide +kernel
theorem dX9_lost_32 : decode cX9_lost 32 = .ok (.astore 4, 2) := by decide +kernel
theorem dX9_lost_34 : decode cX9_lost 34 = .ok (.aload 4, 2) := by decide +kernel
theorem dX9_lost_36 : decode cX9_lost 36 = .ok (.getfield 84, 3) := by decide +kernel
theorem dX9_lost_39 : decode cX9_lost 39 = .ok (.bipush 6, 2) := by decide +kernel
theorem dX9_lost_41 : decode cX9_lost 41 = .ok (.if_icmp .le 6, 3) := by decide +kernel
theorem dX9_lost_44 : decode cX9_lost 44 = .ok (.bipush (-4), 2) := by decide +kernel
theorem dX9_lost_46 : decode cX9_lost 46 = .ok (.ireturn, 1) := by decide +kernel
theorem dX9_lost_47 : decode cX9_lost 47 = .ok (.iconst 0, 1) := by decide +kernel
theorem dX9_lost_48 : decode cX9_lost 48 = .ok (.istore 5, 2) := by decide +kernel
theorem dX9_lost_50 : decode cX9_lost 50 = .ok (.iconst 0, 1) := by decide +kernel
theorem dX9_lost_51 : decode cX9_lost 51 = .ok (.istore 6, 2) := by decide +kernel
theorem dX9_lost_53 : decode cX9_lost 53 = .ok (.iload 6, 2) := by decide +kernel
theorem dX9_lost_55 : decode cX9_lost 55 = .ok (.iconst 1, 1) := by decide +kernel
theorem dX9_lost_56 : decode cX9_lost 56 = .ok (.aload 4, 2) := by decide +kernel
theorem dX9_lost_58 : decode cX9_lost 58 = .ok (.getfield 84, 3) := by decide +kernel
theorem dX9_lost_61 : decode cX9_lost 61 = .ok (.ishl, 1) := by decide +kernel
theorem dX9_lost_62 : decode cX9_lost 62 = .ok (.if_icmp .ge 62, 3) := by decide +kernel
theorem dX9_lost_65 : decode cX9_lost 65 = .ok (.aload_n 0, 1) := by decide +kernel
theorem dX9_lost_66 : decode cX9_lost 66 = .ok (.aload_n 0, 1) := by decide +kernel
theorem dX9_lost_67 : decode cX9_lost 67 = .ok (.getfield 29, 3) := by decide +kernel
theorem dX9_lost_70 : decode cX9_lost 70 = .ok (.aload 4, 2) := by decide +kernel
theorem dX9_lost_72 : decode cX9_lost 72 = .ok (.iload 6, 2) := by decide +kernel
theorem dX9_lost_74 : decode cX9_lost 74 = .ok (.invokevirtual 239, 3) := by decide +kernel
theorem dX9_lost_77 : decode cX9_lost 77 = .ok (.invokevirtual 179, 3) := by decide +kernel
theorem dX9_lost_80 : decode cX9_lost 80 = .ok (.iload_n 1, 1) := by decide +kernel
theorem dX9_lost_81 : decode cX9_lost 81 = .ok (.if_icmp .lt 37, 3) := by decide +kernel
theorem dX9_lost_84 : decode cX9_lost 84 = .ok (.iload 6, 2) := by decide +kernel
theorem dX9_lost_86 : decode cX9_lost 86 = .ok (.invokestatic 231, 3) := by decide +kernel
theorem dX9_lost_89 : decode cX9_lost 89 = .ok (.istore 7, 2) := by decide +kernel
theorem dX9_lost_91 : decode cX9_lost 91 = .ok (.iload 5, 2) := by decide +kernel
theorem dX9_lost_93 : decode cX9_lost 93 = .ok (.bipush 10, 2) := by decide +kernel
theorem dX9_lost_95 : decode cX9_lost 95 = .ok (.iload_n 2, 1) := by decide +kernel
theorem dX9_lost_96 : decode cX9_lost 96 = .ok (.isub, 1) := by decide +kernel
theorem dX9_lost_97 : decode cX9_lost 97 = .ok (.iload 7, 2) := by decide +kernel
theorem dX9_lost_99 : decode cX9_lost 99 = .ok (.invokestatic 249, 3) := by decide +kernel
theorem dX9_lost_102 : decode cX9_lost 102 = .ok (.iload_n 2, 1) := by decide +kernel
theorem dX9_lost_103 : decode cX9_lost 103 = .ok (.aload 4, 2) := by decide +kernel
theorem dX9_lost_105 : decode cX9_lost 105 = .ok (.getfield 84, 3) := by decide +kernel
theorem dX9_lost_108 : decode cX9_lost 108 = .ok (.iload 7, 2) := by decide +kernel
theorem dX9_lost_110 : decode cX9_lost 110 = .ok (.isub, 1) := by decide +kernel
theorem dX9_lost_111 : decode cX9_lost 111 = .ok (.invokestatic 249, 3) := by decide +kernel
theorem dX9_lost_114 : decode cX9_lost 114 = .ok (.imul, 1) := by decide +kernel
theorem dX9_lost_115 : decode cX9_lost 115 = .ok (.iadd, 1) := by decide +kernel
theorem dX9_lost_116 : decode cX9_lost 116 = .ok (.istore 5, 2) := by decide +kernel
theorem dX9_lost_118 : decode cX9_lost 118 = .ok (.iinc 6 1, 3) := by decide +kernel
theorem dX9_lost_121 : decode cX9_lost 121 = .ok (.goto (-68), 3) := by decide +kernel
theorem dX9_lost_124 : decode cX9_lost 124 = .ok (.iload 5, 2) := by decide +kernel
theorem dX9_lost_126 : decode cX9_lost 126 = .ok (.bipush 10, 2) := by decide +kernel
theorem dX9_lost_128 : decode cX9_lost 128 = .ok (.aload 4, 2) := by decide +kernel
theorem dX9_lost_130 : decode cX9_lost 130 = .ok (.getfield 84, 3) := by decide +kernel
theorem dX9_lost_133 : decode cX9_lost 133 = .ok (.invokestatic 249, 3) := by decide +kernel
theorem dX9_lost_136 : decode cX9_lost 136 = .ok (.iload_n 3, 1) := by decide +kernel
theorem dX9_lost_137 : decode cX9_lost 137 = .ok (.invokestatic 245, 3) := by decide +kernel
theorem dX9_lost_140 : decode cX9_lost 140 = .ok (.ireturn, 1) := by decide +kernel
theorem dX9_seed_0 : decode cX9_seed 0 = .ok (.aload_n 0, 1) := by decide +kernel
theorem dX9_seed_1 : decode cX9_seed 1 = .ok (.getfield 64, 3) := by decide +kernel
theorem dX9_seed_4 : decode cX9_seed 4 = .ok (.lstore_n 3, 1) := by decide +kernel
theorem dX9_seed_5 : decode cX9_seed 5 = .ok (.aload_n 0, 1) := by decide +kernel
theorem dX9_seed_6 : decode cX9_seed 6 = .ok (.lload_n 1, 1) := by decide +kernel
theorem dX9_seed_7 : decode cX9_seed 7 = .ok (.putfield 64, 3) := by decide +kernel
theorem dX9_seed_10 : decode cX9_seed 10 = .ok (.lload_n 3, 1) := by decide +kernel
theorem dX9_seed_11 : decode cX9_seed 11 = .ok (.lreturn, 1) := by decide +kernel
theorem dX9_drawn_0 : decode cX9_drawn 0 = .ok (.iload_n 1, 1) := by decide +kernel
theorem dX9_drawn_1 : decode cX9_drawn 1 = .ok (.iconst 1, 1) := by decide +kernel
theorem dX9_drawn_2 : decode cX9_drawn 2 = .ok (.if_icmp .lt 9, 3) := by decide +kernel
theorem dX9_drawn_5 : decode cX9_drawn 5 = .ok (.iload_n 1, 1) := by decide +kernel
theorem dX9_drawn_6 : decode cX9_drawn 6 = .ok (.bipush 20, 2) := by decide +kernel
theorem dX9_drawn_8 : decode cX9_drawn 8 = .ok (.if_icmp .le 6, 3) := by decide +kernel
theorem dX9_drawn_11 : decode cX9_drawn 11 = .ok (.bipush (-2), 2) := by decide +kernel
theorem dX9_drawn_13 : decode cX9_drawn 13 = .ok (.ireturn, 1) := by decide +kernel
theorem dX9_drawn_14 : decode cX9_drawn 14 = .ok (.aload_n 0, 1) := by decide +kernel
theorem dX9_drawn_15 : decode cX9_drawn 15 = .ok (.getfield 33, 3) := by decide +kernel
theorem dX9_drawn_18 : decode cX9_drawn 18 = .ok (.aload_n 0, 1) := by decide +kernel
theorem dX9_drawn_19 : decode cX9_drawn 19 = .ok (.getfield 29, 3) := by decide +kernel
theorem dX9_drawn_22 : decode cX9_drawn 22 = .ok (.invokevirtual 193, 3) := by decide +kernel
theorem dX9_drawn_25 : decode cX9_drawn 25 = .ok (.iconst 0, 1) := by decide +kernel
theorem dX9_drawn_26 : decode cX9_drawn 26 = .ok (.istore_n 2, 1) := by decide +kernel
theorem dX9_drawn_27 : decode cX9_drawn 27 = .ok (.iconst 0, 1) := by decide +kernel
theorem dX9_drawn_28 : decode cX9_drawn 28 = .ok (.istore_n 3, 1) := by decide +kernel
theorem dX9_drawn_29 : decode cX9_drawn 29 = .ok (.iload_n 3, 1) := by decide +kernel
theorem dX9_drawn_30 : decode cX9_drawn 30 = .ok (.iload_n 1, 1) := by decide +kernel
theorem dX9_drawn_31 : decode cX9_drawn 31 = .ok (.if_icmp .ge 51, 3) := by decide +kernel
theorem dX9_drawn_34 : decode cX9_drawn 34 = .ok (.aload_n 0, 1) := by decide +kernel
theorem dX9_drawn_35 : decode cX9_drawn 35 = .ok (.aload_n 0, 1) := by decide +kernel
theorem dX9_drawn_36 : decode cX9_drawn 36 = .ok (.getfield 64, 3) := by decide +kernel
theorem dX9_drawn_39 : decode cX9_drawn 39 = .ok (.ldc2_w 253, 3) := by decide +kernel
theorem dX9_drawn_42 : decode cX9_drawn 42 = .ok (.lmul, 1) := by decide +kernel
theorem dX9_drawn_43 : decode cX9_drawn 43 = .ok (.ldc2_w 255, 3) := by decide +kernel
theorem dX9_drawn_46 : decode cX9_drawn 46 = .ok (.ladd, 1) := by decide +kernel
theorem dX9_drawn_47 : decode cX9_drawn 47 = .ok (.putfield 64, 3) := by decide +kernel
theorem dX9_drawn_50 : decode cX9_drawn 50 = .ok (.aload_n 0, 1) := by decide +kernel
theorem dX9_drawn_51 : decode cX9_drawn 51 = .ok (.aload_n 0, 1) := by decide +kernel
theorem dX9_drawn_52 : decode cX9_drawn 52 = .ok (.getfield 64, 3) := by decide +kernel
theorem dX9_drawn_55 : decode cX9_drawn 55 = .ok (.bipush 33, 2) := by decide +kernel
theorem dX9_drawn_57 : decode cX9_drawn 57 = .ok (.lushr, 1) := by decide +kernel
theorem dX9_drawn_58 : decode cX9_drawn 58 = .ok (.l2i, 1) := by decide +kernel
theorem dX9_drawn_59 : decode cX9_drawn 59 = .ok (.invokevirtual 257, 3) := by decide +kernel
theorem dX9_drawn_62 : decode cX9_drawn 62 = .ok (.iload_n 2, 1) := by decide +kernel
theorem dX9_drawn_63 : decode cX9_drawn 63 = .ok (.aload_n 0, 1) := by decide +kernel
theorem dX9_drawn_64 : decode cX9_drawn 64 = .ok (.aload_n 0, 1) := by decide +kernel
theorem dX9_drawn_65 : decode cX9_drawn 65 = .ok (.getfield 33, 3) := by decide +kernel
theorem dX9_drawn_68 : decode cX9_drawn 68 = .ok (.invokevirtual 186, 3) := by decide +kernel
theorem dX9_drawn_71 : decode cX9_drawn 71 = .ok (.invokestatic 260, 3) := by decide +kernel
theorem dX9_drawn_74 : decode cX9_drawn 74 = .ok (.iadd, 1) := by decide +kernel
theorem dX9_drawn_75 : decode cX9_drawn 75 = .ok (.istore_n 2, 1) := by decide +kernel
theorem dX9_drawn_76 : decode cX9_drawn 76 = .ok (.iinc 3 1, 3) := by decide +kernel
theorem dX9_drawn_79 : decode cX9_drawn 79 = .ok (.goto (-50), 3) := by decide +kernel
theorem dX9_drawn_82 : decode cX9_drawn 82 = .ok (.iload_n 2, 1) := by decide +kernel
theorem dX9_drawn_83 : decode cX9_drawn 83 = .ok (.ireturn, 1) := by decide +kernel
theorem dX9_keep_0 : decode cX9_keep 0 = .ok (.iload_n 1, 1) := by decide +kernel
theorem dX9_keep_1 : decode cX9_keep 1 = .ok (.invokestatic 263, 3) := by decide +kernel
theorem dX9_keep_4 : decode cX9_keep 4 = .ok (.ifCond .ne 5, 3) := by decide +kernel
theorem dX9_keep_7 : decode cX9_keep 7 = .ok (.iconst (-1), 1) := by decide +kernel
theorem dX9_keep_8 : decode cX9_keep 8 = .ok (.ireturn, 1) := by decide +kernel
theorem dX9_keep_9 : decode cX9_keep 9 = .ok (.aload_n 0, 1) := by decide +kernel
theorem dX9_keep_10 : decode cX9_keep 10 = .ok (.getfield 60, 3) := by decide +kernel
theorem dX9_keep_13 : decode cX9_keep 13 = .ok (.iload_n 1, 1) := by decide +kernel
theorem dX9_keep_14 : decode cX9_keep 14 = .ok (.aaload, 1) := by decide +kernel
theorem dX9_keep_15 : decode cX9_keep 15 = .ok (.astore_n 2, 1) := by decide +kernel
theorem dX9_keep_16 : decode cX9_keep 16 = .ok (.aload_n 2, 1) := by decide +kernel
theorem dX9_keep_17 : decode cX9_keep 17 = .ok (.ifnonnull 18, 3) := by decide +kernel
theorem dX9_keep_20 : decode cX9_keep 20 = .ok (.new 26, 3) := by decide +kernel
theorem dX9_keep_23 : decode cX9_keep 23 = .ok (.dup, 1) := by decide +kernel
theorem dX9_keep_24 : decode cX9_keep 24 = .ok (.invokespecial 28, 3) := by decide +kernel
theorem dX9_keep_27 : decode cX9_keep 27 = .ok (.astore_n 2, 1) := by decide +kernel
theorem dX9_keep_28 : decode cX9_keep 28 = .ok (.aload_n 0, 1) := by decide +kernel
theorem dX9_keep_29 : decode cX9_keep 29 = .ok (.getfield 60, 3) := by decide +kernel
theorem dX9_keep_32 : decode cX9_keep 32 = .ok (.iload_n 1, 1) := by decide +kernel
theorem dX9_keep_33 : decode cX9_keep 33 = .ok (.aload_n 2, 1) := by decide +kernel
theorem dX9_keep_34 : decode cX9_keep 34 = .ok (.aastore, 1) := by decide +kernel
theorem dX9_keep_35 : decode cX9_keep 35 = .ok (.aload_n 2, 1) := by decide +kernel
theorem dX9_keep_36 : decode cX9_keep 36 = .ok (.aload_n 0, 1) := by decide +kernel
theorem dX9_keep_37 : decode cX9_keep 37 = .ok (.getfield 29, 3) := by decide +kernel
theorem dX9_keep_40 : decode cX9_keep 40 = .ok (.invokevirtual 193, 3) := by decide +kernel
theorem dX9_keep_43 : decode cX9_keep 43 = .ok (.aload_n 2, 1) := by decide +kernel
theorem dX9_keep_44 : decode cX9_keep 44 = .ok (.getfield 118, 3) := by decide +kernel
theorem dX9_keep_47 : decode cX9_keep 47 = .ok (.ireturn, 1) := by decide +kernel
theorem dX9_again_0 : decode cX9_again 0 = .ok (.iload_n 1, 1) := by decide +kernel
theorem dX9_again_1 : decode cX9_again 1 = .ok (.invokestatic 263, 3) := by decide +kernel
theorem dX9_again_4 : decode cX9_again 4 = .ok (.ifCond .ne 5, 3) := by decide +kernel
theorem dX9_again_7 : decode cX9_again 7 = .ok (.iconst (-1), 1) := by decide +kernel
theorem dX9_again_8 : decode cX9_again 8 = .ok (.ireturn, 1) := by decide +kernel
theorem dX9_again_9 : decode cX9_again 9 = .ok (.aload_n 0, 1) := by decide +kernel
theorem dX9_again_10 : decode cX9_again 10 = .ok (.getfield 60, 3) := by decide +kernel
theorem dX9_again_13 : decode cX9_again 13 = .ok (.iload_n 1, 1) := by decide +kernel
theorem dX9_again_14 : decode cX9_again 14 = .ok (.aaload, 1) := by decide +kernel
theorem dX9_again_15 : decode cX9_again 15 = .ok (.astore_n 2, 1) := by decide +kernel
theorem dX9_again_16 : decode cX9_again 16 = .ok (.aload_n 2, 1) := by decide +kernel
theorem dX9_again_17 : decode cX9_again 17 = .ok (.ifnonnull 6, 3) := by decide +kernel
theorem dX9_again_20 : decode cX9_again 20 = .ok (.bipush (-3), 2) := by decide +kernel
theorem dX9_again_22 : decode cX9_again 22 = .ok (.ireturn, 1) := by decide +kernel
theorem dX9_again_23 : decode cX9_again 23 = .ok (.aload_n 0, 1) := by decide +kernel
theorem dX9_again_24 : decode cX9_again 24 = .ok (.getfield 29, 3) := by decide +kernel
theorem dX9_again_27 : decode cX9_again 27 = .ok (.aload_n 2, 1) := by decide +kernel
theorem dX9_again_28 : decode cX9_again 28 = .ok (.invokevirtual 193, 3) := by decide +kernel
theorem dX9_again_31 : decode cX9_again 31 = .ok (.aload_n 0, 1) := by decide +kernel
theorem dX9_again_32 : decode cX9_again 32 = .ok (.getfield 39, 3) := by decide +kernel
theorem dX9_again_35 : decode cX9_again 35 = .ok (.iconst 0, 1) := by decide +kernel
theorem dX9_again_36 : decode cX9_again 36 = .ok (.putfield 156, 3) := by decide +kernel
theorem dX9_again_39 : decode cX9_again 39 = .ok (.aload_n 0, 1) := by decide +kernel
theorem dX9_again_40 : decode cX9_again 40 = .ok (.getfield 29, 3) := by decide +kernel
theorem dX9_again_43 : decode cX9_again 43 = .ok (.getfield 118, 3) := by decide +kernel
theorem dX9_again_46 : decode cX9_again 46 = .ok (.ireturn, 1) := by decide +kernel
theorem dX9_count_0 : decode cX9_count 0 = .ok (.iload_n 1, 1) := by decide +kernel
theorem dX9_count_1 : decode cX9_count 1 = .ok (.tableswitch 134 0 7 #[47, 55, 63, 75, 87, 107, 118, 126], 47) := by decide +kernel
theorem dX9_count_48 : decode cX9_count 48 = .ok (.aload_n 0, 1) := by decide +kernel
theorem dX9_count_49 : decode cX9_count 49 = .ok (.getfield 10, 3) := by decide +kernel
theorem dX9_count_52 : decode cX9_count 52 = .ok (.getfield 72, 3) := by decide +kernel
theorem dX9_count_55 : decode cX9_count 55 = .ok (.ireturn, 1) := by decide +kernel
theorem dX9_count_56 : decode cX9_count 56 = .ok (.aload_n 0, 1) := by decide +kernel
theorem dX9_count_57 : decode cX9_count 57 = .ok (.getfield 29, 3) := by decide +kernel
theorem dX9_count_60 : decode cX9_count 60 = .ok (.getfield 118, 3) := by decide +kernel
theorem dX9_count_63 : decode cX9_count 63 = .ok (.ireturn, 1) := by decide +kernel
theorem dX9_count_64 : decode cX9_count 64 = .ok (.aload_n 0, 1) := by decide +kernel
theorem dX9_count_65 : decode cX9_count 65 = .ok (.aload_n 0, 1) := by decide +kernel
theorem dX9_count_66 : decode cX9_count 66 = .ok (.getfield 29, 3) := by decide +kernel
theorem dX9_count_69 : decode cX9_count 69 = .ok (.invokevirtual 80, 3) := by decide +kernel
theorem dX9_count_72 : decode cX9_count 72 = .ok (.getfield 84, 3) := by decide +kernel
theorem dX9_count_75 : decode cX9_count 75 = .ok (.ireturn, 1) := by decide +kernel
theorem dX9_count_76 : decode cX9_count 76 = .ok (.aload_n 0, 1) := by decide +kernel
theorem dX9_count_77 : decode cX9_count 77 = .ok (.aload_n 0, 1) := by decide +kernel
theorem dX9_count_78 : decode cX9_count 78 = .ok (.getfield 29, 3) := by decide +kernel
theorem dX9_count_81 : decode cX9_count 81 = .ok (.invokevirtual 161, 3) := by decide +kernel
theorem dX9_count_84 : decode cX9_count 84 = .ok (.getfield 84, 3) := by decide +kernel
theorem dX9_count_87 : decode cX9_count 87 = .ok (.ireturn, 1) := by decide +kernel
theorem dX9_count_88 : decode cX9_count 88 = .ok (.aload_n 0, 1) := by decide +kernel
theorem dX9_count_89 : decode cX9_count 89 = .ok (.aload_n 0, 1) := by decide +kernel
theorem dX9_count_90 : decode cX9_count 90 = .ok (.getfield 29, 3) := by decide +kernel
theorem dX9_count_93 : decode cX9_count 93 = .ok (.invokevirtual 80, 3) := by decide +kernel
theorem dX9_count_96 : decode cX9_count 96 = .ok (.aload_n 0, 1) := by decide +kernel
theorem dX9_count_97 : decode cX9_count 97 = .ok (.aload_n 0, 1) := by decide +kernel
theorem dX9_count_98 : decode cX9_count 98 = .ok (.getfield 29, 3) := by decide +kernel
theorem dX9_count_101 : decode cX9_count 101 = .ok (.invokevirtual 161, 3) := by decide +kernel
theorem dX9_count_104 : decode cX9_count 104 = .ok (.invokevirtual 266, 3) := by decide +kernel
theorem dX9_count_107 : decode cX9_count 107 = .ok (.ireturn, 1) := by decide +kernel
theorem dX9_count_108 : decode cX9_count 108 = .ok (.aload_n 0, 1) := by decide +kernel
theorem dX9_count_109 : decode cX9_count 109 = .ok (.getfield 29, 3) := by decide +kernel
theorem dX9_count_112 : decode cX9_count 112 = .ok (.invokevirtual 270, 3) := by decide +kernel
theorem dX9_count_115 : decode cX9_count 115 = .ok (.invokestatic 231, 3) := by decide +kernel
theorem dX9_count_118 : decode cX9_count 118 = .ok (.ireturn, 1) := by decide +kernel
theorem dX9_count_119 : decode cX9_count 119 = .ok (.aload_n 0, 1) := by decide +kernel
theorem dX9_count_120 : decode cX9_count 120 = .ok (.getfield 39, 3) := by decide +kernel
theorem dX9_count_123 : decode cX9_count 123 = .ok (.getfield 156, 3) := by decide +kernel
theorem dX9_count_126 : decode cX9_count 126 = .ok (.ireturn, 1) := by decide +kernel
theorem dX9_count_127 : decode cX9_count 127 = .ok (.aload_n 0, 1) := by decide +kernel
theorem dX9_count_128 : decode cX9_count 128 = .ok (.getfield 56, 3) := by decide +kernel
theorem dX9_count_131 : decode cX9_count 131 = .ok (.getfield 215, 3) := by decide +kernel
theorem dX9_count_134 : decode cX9_count 134 = .ok (.ireturn, 1) := by decide +kernel
theorem dX9_count_135 : decode cX9_count 135 = .ok (.bipush (-2), 2) := by decide +kernel
theorem dX9_count_137 : decode cX9_count 137 = .ok (.ireturn, 1) := by decide +kernel
theorem dX9_isAmount_0 : decode cX9_isAmount 0 = .ok (.iload_n 0, 1) := by decide +kernel
theorem dX9_isAmount_1 : decode cX9_isAmount 1 = .ok (.ifCond .lt 13, 3) := by decide +kernel
theorem dX9_isAmount_4 : decode cX9_isAmount 4 = .ok (.iload_n 0, 1) := by decide +kernel
theorem dX9_isAmount_5 : decode cX9_isAmount 5 = .ok (.bipush 100, 2) := by decide +kernel
theorem dX9_isAmount_7 : decode cX9_isAmount 7 = .ok (.if_icmp .gt 7, 3) := by decide +kernel
theorem dX9_isAmount_10 : decode cX9_isAmount 10 = .ok (.iconst 1, 1) := by decide +kernel
theorem dX9_isAmount_11 : decode cX9_isAmount 11 = .ok (.goto 4, 3) := by decide +kernel
theorem dX9_isAmount_14 : decode cX9_isAmount 14 = .ok (.iconst 0, 1) := by decide +kernel
theorem dX9_isAmount_15 : decode cX9_isAmount 15 = .ok (.ireturn, 1) := by decide +kernel
theorem dX9_isEntry_0 : decode cX9_isEntry 0 = .ok (.iload_n 0, 1) := by decide +kernel
theorem dX9_isEntry_1 : decode cX9_isEntry 1 = .ok (.ifCond .lt 28, 3) := by decide +kernel
theorem dX9_isEntry_4 : decode cX9_isEntry 4 = .ok (.iload_n 0, 1) := by decide +kernel
theorem dX9_isEntry_5 : decode cX9_isEntry 5 = .ok (.iconst 4, 1) := by decide +kernel
theorem dX9_isEntry_6 : decode cX9_isEntry 6 = .ok (.if_icmp .ge 23, 3) := by decide +kernel
theorem dX9_isEntry_9 : decode cX9_isEntry 9 = .ok (.iload_n 1, 1) := by decide +kernel
theorem dX9_isEntry_10 : decode cX9_isEntry 10 = .ok (.ifCond .lt 19, 3) := by decide +kernel
theorem dX9_isEntry_13 : decode cX9_isEntry 13 = .ok (.iload_n 1, 1) := by decide +kernel
theorem dX9_isEntry_14 : decode cX9_isEntry 14 = .ok (.iconst 5, 1) := by decide +kernel
theorem dX9_isEntry_15 : decode cX9_isEntry 15 = .ok (.if_icmp .ge 14, 3) := by decide +kernel
theorem dX9_isEntry_18 : decode cX9_isEntry 18 = .ok (.iload_n 2, 1) := by decide +kernel
theorem dX9_isEntry_19 : decode cX9_isEntry 19 = .ok (.invokestatic 146, 3) := by decide +kernel
theorem dX9_isEntry_22 : decode cX9_isEntry 22 = .ok (.ifCond .eq 7, 3) := by decide +kernel
theorem dX9_isEntry_25 : decode cX9_isEntry 25 = .ok (.iconst 1, 1) := by decide +kernel
theorem dX9_isEntry_26 : decode cX9_isEntry 26 = .ok (.goto 4, 3) := by decide +kernel
theorem dX9_isEntry_29 : decode cX9_isEntry 29 = .ok (.iconst 0, 1) := by decide +kernel
theorem dX9_isEntry_30 : decode cX9_isEntry 30 = .ok (.ireturn, 1) := by decide +kernel
theorem dX9_isAxis_0 : decode cX9_isAxis 0 = .ok (.iload_n 0, 1) := by decide +kernel
theorem dX9_isAxis_1 : decode cX9_isAxis 1 = .ok (.invokestatic 190, 3) := by decide +kernel
theorem dX9_isAxis_4 : decode cX9_isAxis 4 = .ok (.ireturn, 1) := by decide +kernel
theorem dX9_isOneOfTwo_0 : decode cX9_isOneOfTwo 0 = .ok (.iload_n 0, 1) := by decide +kernel
theorem dX9_isOneOfTwo_1 : decode cX9_isOneOfTwo 1 = .ok (.ifCond .eq 8, 3) := by decide +kernel
theorem dX9_isOneOfTwo_4 : decode cX9_isOneOfTwo 4 = .ok (.iload_n 0, 1) := by decide +kernel
theorem dX9_isOneOfTwo_5 : decode cX9_isOneOfTwo 5 = .ok (.iconst 1, 1) := by decide +kernel
theorem dX9_isOneOfTwo_6 : decode cX9_isOneOfTwo 6 = .ok (.if_icmp .ne 7, 3) := by decide +kernel
theorem dX9_isOneOfTwo_9 : decode cX9_isOneOfTwo 9 = .ok (.iconst 1, 1) := by decide +kernel
theorem dX9_isOneOfTwo_10 : decode cX9_isOneOfTwo 10 = .ok (.goto 4, 3) := by decide +kernel
theorem dX9_isOneOfTwo_13 : decode cX9_isOneOfTwo 13 = .ok (.iconst 0, 1) := by decide +kernel
theorem dX9_isOneOfTwo_14 : decode cX9_isOneOfTwo 14 = .ok (.ireturn, 1) := by decide +kernel
theorem dX9_isRowKey_0 : decode cX9_isRowKey 0 = .ok (.iload_n 0, 1) := by decide +kernel
theorem dX9_isRowKey_1 : decode cX9_isRowKey 1 = .ok (.ifCond .lt 9, 3) := by decide +kernel
theorem dX9_isRowKey_4 : decode cX9_isRowKey 4 = .ok (.iload_n 0, 1) := by decide +kernel
theorem dX9_isRowKey_5 : decode cX9_isRowKey 5 = .ok (.bipush 20, 2) := by decide +kernel
theorem dX9_isRowKey_7 : decode cX9_isRowKey 7 = .ok (.if_icmp .le 9, 3) := by decide +kernel
theorem dX9_isRowKey_10 : decode cX9_isRowKey 10 = .ok (.iload_n 0, 1) := by decide +kernel
theorem dX9_isRowKey_11 : decode cX9_isRowKey 11 = .ok (.bipush 99, 2) := by decide +kernel
theorem dX9_isRowKey_13 : decode cX9_isRowKey 13 = .ok (.if_icmp .ne 7, 3) := by decide +kernel
theorem dX9_isRowKey_16 : decode cX9_isRowKey 16 = .ok (.iconst 1, 1) := by decide +kernel
theorem dX9_isRowKey_17 : decode cX9_isRowKey 17 = .ok (.goto 4, 3) := by decide +kernel
theorem dX9_isRowKey_20 : decode cX9_isRowKey 20 = .ok (.iconst 0, 1) := by decide +kernel
theorem dX9_isRowKey_21 : decode cX9_isRowKey 21 = .ok (.ireturn, 1) := by decide +kernel
theorem dX9_isSeenMeasure_0 : decode cX9_isSeenMeasure 0 = .ok (.iload_n 0, 1) := by decide +kernel
theorem dX9_isSeenMeasure_1 : decode cX9_isSeenMeasure 1 = .ok (.bipush (-9), 2) := by decide +kernel
theorem dX9_isSeenMeasure_3 : decode cX9_isSeenMeasure 3 = .ok (.if_icmp .eq 14, 3) := by decide +kernel
theorem dX9_isSeenMeasure_6 : decode cX9_isSeenMeasure 6 = .ok (.iload_n 0, 1) := by decide +kernel
theorem dX9_isSeenMeasure_7 : decode cX9_isSeenMeasure 7 = .ok (.ifCond .lt 14, 3) := by decide +kernel
theorem dX9_isSeenMeasure_10 : decode cX9_isSeenMeasure 10 = .ok (.iload_n 0, 1) := by decide +kernel
theorem dX9_isSeenMeasure_11 : decode cX9_isSeenMeasure 11 = .ok (.sipush 9999, 3) := by decide +kernel
theorem dX9_isSeenMeasure_14 : decode cX9_isSeenMeasure 14 = .ok (.if_icmp .gt 7, 3) := by decide +kernel
theorem dX9_isSeenMeasure_17 : decode cX9_isSeenMeasure 17 = .ok (.iconst 1, 1) := by decide +kernel
theorem dX9_isSeenMeasure_18 : decode cX9_isSeenMeasure 18 = .ok (.goto 4, 3) := by decide +kernel
theorem dX9_isSeenMeasure_21 : decode cX9_isSeenMeasure 21 = .ok (.iconst 0, 1) := by decide +kernel
theorem dX9_isSeenMeasure_22 : decode cX9_isSeenMeasure 22 = .ok (.ireturn, 1) := by decide +kernel
theorem dX9_isSlot_0 : decode cX9_isSlot 0 = .ok (.iload_n 0, 1) := by decide +kernel
theorem dX9_isSlot_1 : decode cX9_isSlot 1 = .ok (.ifCond .lt 12, 3) := by decide +kernel
theorem dX9_isSlot_4 : decode cX9_isSlot 4 = .ok (.iload_n 0, 1) := by decide +kernel
theorem dX9_isSlot_5 : decode cX9_isSlot 5 = .ok (.iconst 2, 1) := by decide +kernel
theorem dX9_isSlot_6 : decode cX9_isSlot 6 = .ok (.if_icmp .ge 7, 3) := by decide +kernel
theorem dX9_isSlot_9 : decode cX9_isSlot 9 = .ok (.iconst 1, 1) := by decide +kernel
theorem dX9_isSlot_10 : decode cX9_isSlot 10 = .ok (.goto 4, 3) := by decide +kernel
theorem dX9_isSlot_13 : decode cX9_isSlot 13 = .ok (.iconst 0, 1) := by decide +kernel
theorem dX9_isSlot_14 : decode cX9_isSlot 14 = .ok (.ireturn, 1) := by decide +kernel
theorem dX9_rowsOf_0 : decode cX9_rowsOf 0 = .ok (.aload_n 0, 1) := by decide +kernel
theorem dX9_rowsOf_1 : decode cX9_rowsOf 1 = .ok (.getfield 46, 3) := by decide +kernel
theorem dX9_rowsOf_4 : decode cX9_rowsOf 4 = .ok (.aload_n 1, 1) := by decide +kernel
theorem dX9_rowsOf_5 : decode cX9_rowsOf 5 = .ok (.aload_n 0, 1) := by decide +kernel
theorem dX9_rowsOf_6 : decode cX9_rowsOf 6 = .ok (.getfield 19, 3) := by decide +kernel
theorem dX9_rowsOf_9 : decode cX9_rowsOf 9 = .ok (.getfield 216, 3) := by decide +kernel
theorem dX9_rowsOf_12 : decode cX9_rowsOf 12 = .ok (.aload_n 0, 1) := by decide +kernel
theorem dX9_rowsOf_13 : decode cX9_rowsOf 13 = .ok (.getfield 19, 3) := by decide +kernel
theorem dX9_rowsOf_16 : decode cX9_rowsOf 16 = .ok (.getfield 273, 3) := by decide +kernel
theorem dX9_rowsOf_19 : decode cX9_rowsOf 19 = .ok (.invokevirtual 276, 3) := by decide +kernel
theorem dX9_rowsOf_22 : decode cX9_rowsOf 22 = .ok (.aload_n 0, 1) := by decide +kernel
theorem dX9_rowsOf_23 : decode cX9_rowsOf 23 = .ok (.getfield 46, 3) := by decide +kernel
theorem dX9_rowsOf_26 : decode cX9_rowsOf 26 = .ok (.aload_n 1, 1) := by decide +kernel
theorem dX9_rowsOf_27 : decode cX9_rowsOf 27 = .ok (.aload_n 0, 1) := by decide +kernel
theorem dX9_rowsOf_28 : decode cX9_rowsOf 28 = .ok (.getfield 19, 3) := by decide +kernel
theorem dX9_rowsOf_31 : decode cX9_rowsOf 31 = .ok (.getfield 87, 3) := by decide +kernel
theorem dX9_rowsOf_34 : decode cX9_rowsOf 34 = .ok (.aload_n 0, 1) := by decide +kernel
theorem dX9_rowsOf_35 : decode cX9_rowsOf 35 = .ok (.getfield 19, 3) := by decide +kernel
theorem dX9_rowsOf_38 : decode cX9_rowsOf 38 = .ok (.getfield 280, 3) := by decide +kernel
theorem dX9_rowsOf_41 : decode cX9_rowsOf 41 = .ok (.invokevirtual 283, 3) := by decide +kernel
theorem dX9_rowsOf_44 : decode cX9_rowsOf 44 = .ok (.aload_n 0, 1) := by decide +kernel
theorem dX9_rowsOf_45 : decode cX9_rowsOf 45 = .ok (.getfield 46, 3) := by decide +kernel
theorem dX9_rowsOf_48 : decode cX9_rowsOf 48 = .ok (.areturn, 1) := by decide +kernel
theorem dX9_columnsOf_0 : decode cX9_columnsOf 0 = .ok (.aload_n 0, 1) := by decide +kernel
theorem dX9_columnsOf_1 : decode cX9_columnsOf 1 = .ok (.getfield 50, 3) := by decide +kernel
theorem dX9_columnsOf_4 : decode cX9_columnsOf 4 = .ok (.aload_n 1, 1) := by decide +kernel
theorem dX9_columnsOf_5 : decode cX9_columnsOf 5 = .ok (.aload_n 0, 1) := by decide +kernel
theorem dX9_columnsOf_6 : decode cX9_columnsOf 6 = .ok (.getfield 19, 3) := by decide +kernel
theorem dX9_columnsOf_9 : decode cX9_columnsOf 9 = .ok (.getfield 287, 3) := by decide +kernel
theorem dX9_columnsOf_12 : decode cX9_columnsOf 12 = .ok (.aload_n 0, 1) := by decide +kernel
theorem dX9_columnsOf_13 : decode cX9_columnsOf 13 = .ok (.getfield 19, 3) := by decide +kernel
theorem dX9_columnsOf_16 : decode cX9_columnsOf 16 = .ok (.getfield 273, 3) := by decide +kernel
theorem dX9_columnsOf_19 : decode cX9_columnsOf 19 = .ok (.invokevirtual 276, 3) := by decide +kernel
theorem dX9_columnsOf_22 : decode cX9_columnsOf 22 = .ok (.aload_n 0, 1) := by decide +kernel
theorem dX9_columnsOf_23 : decode cX9_columnsOf 23 = .ok (.getfield 50, 3) := by decide +kernel
theorem dX9_columnsOf_26 : decode cX9_columnsOf 26 = .ok (.areturn, 1) := by decide +kernel
theorem dX9_axisOf_0 : decode cX9_axisOf 0 = .ok (.iload_n 1, 1) := by decide +kernel
theorem dX9_axisOf_1 : decode cX9_axisOf 1 = .ok (.ifCond .ne 14, 3) := by decide +kernel
theorem dX9_axisOf_4 : decode cX9_axisOf 4 = .ok (.aload_n 0, 1) := by decide +kernel
theorem dX9_axisOf_5 : decode cX9_axisOf 5 = .ok (.aload_n 0, 1) := by decide +kernel
theorem dX9_axisOf_6 : decode cX9_axisOf 6 = .ok (.getfield 29, 3) := by decide +kernel
theorem dX9_axisOf_9 : decode cX9_axisOf 9 = .ok (.invokevirtual 80, 3) := by decide +kernel
theorem dX9_axisOf_12 : decode cX9_axisOf 12 = .ok (.goto 11, 3) := by decide +kernel
theorem dX9_axisOf_15 : decode cX9_axisOf 15 = .ok (.aload_n 0, 1) := by decide +kernel
theorem dX9_axisOf_16 : decode cX9_axisOf 16 = .ok (.aload_n 0, 1) := by decide +kernel
theorem dX9_axisOf_17 : decode cX9_axisOf 17 = .ok (.getfield 29, 3) := by decide +kernel
theorem dX9_axisOf_20 : decode cX9_axisOf 20 = .ok (.invokevirtual 161, 3) := by decide +kernel
theorem dX9_axisOf_23 : decode cX9_axisOf 23 = .ok (.areturn, 1) := by decide +kernel
theorem dX9_cellOf_0 : decode cX9_cellOf 0 = .ok (.aload_n 0, 1) := by decide +kernel
theorem dX9_cellOf_1 : decode cX9_cellOf 1 = .ok (.aload_n 1, 1) := by decide +kernel
theorem dX9_cellOf_2 : decode cX9_cellOf 2 = .ok (.invokevirtual 80, 3) := by decide +kernel
theorem dX9_cellOf_5 : decode cX9_cellOf 5 = .ok (.iload_n 2, 1) := by decide +kernel
theorem dX9_cellOf_6 : decode cX9_cellOf 6 = .ok (.invokevirtual 183, 3) := by decide +kernel
theorem dX9_cellOf_9 : decode cX9_cellOf 9 = .ok (.aload_n 0, 1) := by decide +kernel
theorem dX9_cellOf_10 : decode cX9_cellOf 10 = .ok (.aload_n 1, 1) := by decide +kernel
theorem dX9_cellOf_11 : decode cX9_cellOf 11 = .ok (.invokevirtual 161, 3) := by decide +kernel
theorem dX9_cellOf_14 : decode cX9_cellOf 14 = .ok (.iload_n 3, 1) := by decide +kernel
theorem dX9_cellOf_15 : decode cX9_cellOf 15 = .ok (.invokevirtual 183, 3) := by decide +kernel
theorem dX9_cellOf_18 : decode cX9_cellOf 18 = .ok (.iand, 1) := by decide +kernel
theorem dX9_cellOf_19 : decode cX9_cellOf 19 = .ok (.ireturn, 1) := by decide +kernel
theorem dX9_measureOf_0 : decode cX9_measureOf 0 = .ok (.aload_n 0, 1) := by decide +kernel
theorem dX9_measureOf_1 : decode cX9_measureOf 1 = .ok (.getfield 19, 3) := by decide +kernel
theorem dX9_measureOf_4 : decode cX9_measureOf 4 = .ok (.getfield 87, 3) := by decide +kernel
theorem dX9_measureOf_7 : decode cX9_measureOf 7 = .ok (.aload_n 1, 1) := by decide +kernel
theorem dX9_measureOf_8 : decode cX9_measureOf 8 = .ok (.iload_n 2, 1) := by decide +kernel
theorem dX9_measureOf_9 : decode cX9_measureOf 9 = .ok (.invokevirtual 290, 3) := by decide +kernel
theorem dX9_measureOf_12 : decode cX9_measureOf 12 = .ok (.ireturn, 1) := by decide +kernel
theorem dX9_totalOf_0 : decode cX9_totalOf 0 = .ok (.aload_n 0, 1) := by decide +kernel
theorem dX9_totalOf_1 : decode cX9_totalOf 1 = .ok (.aload_n 1, 1) := by decide +kernel
theorem dX9_totalOf_2 : decode cX9_totalOf 2 = .ok (.aload_n 1, 1) := by decide +kernel
theorem dX9_totalOf_3 : decode cX9_totalOf 3 = .ok (.invokevirtual 196, 3) := by decide +kernel
theorem dX9_totalOf_6 : decode cX9_totalOf 6 = .ok (.invokevirtual 179, 3) := by decide +kernel
theorem dX9_totalOf_9 : decode cX9_totalOf 9 = .ok (.ireturn, 1) := by decide +kernel
theorem dX9_worthOf_0 : decode cX9_worthOf 0 = .ok (.aload_n 0, 1) := by decide +kernel
theorem dX9_worthOf_1 : decode cX9_worthOf 1 = .ok (.aload_n 0, 1) := by decide +kernel
theorem dX9_worthOf_2 : decode cX9_worthOf 2 = .ok (.getfield 29, 3) := by decide +kernel
theorem dX9_worthOf_5 : decode cX9_worthOf 5 = .ok (.iload_n 1, 1) := by decide +kernel
theorem dX9_worthOf_6 : decode cX9_worthOf 6 = .ok (.invokevirtual 179, 3) := by decide +kernel
theorem dX9_worthOf_9 : decode cX9_worthOf 9 = .ok (.invokestatic 260, 3) := by decide +kernel
theorem dX9_worthOf_12 : decode cX9_worthOf 12 = .ok (.ireturn, 1) := by decide +kernel
theorem dX9_noneAsZero_0 : decode cX9_noneAsZero 0 = .ok (.iload_n 0, 1) := by decide +kernel
theorem dX9_noneAsZero_1 : decode cX9_noneAsZero 1 = .ok (.bipush (-9), 2) := by decide +kernel
theorem dX9_noneAsZero_3 : decode cX9_noneAsZero 3 = .ok (.if_icmp .ne 7, 3) := by decide +kernel
theorem dX9_noneAsZero_6 : decode cX9_noneAsZero 6 = .ok (.iconst 0, 1) := by decide +kernel
theorem dX9_noneAsZero_7 : decode cX9_noneAsZero 7 = .ok (.goto 4, 3) := by decide +kernel
theorem dX9_noneAsZero_10 : decode cX9_noneAsZero 10 = .ok (.iload_n 0, 1) := by decide +kernel
theorem dX9_noneAsZero_11 : decode cX9_noneAsZero 11 = .ok (.ireturn, 1) := by decide +kernel
theorem dX9_stands_0 : decode cX9_stands 0 = .ok (.iload_n 1, 1) := by decide +kernel
theorem dX9_stands_1 : decode cX9_stands 1 = .ok (.bipush 100, 2) := by decide +kernel
theorem dX9_stands_3 : decode cX9_stands 3 = .ok (.idiv, 1) := by decide +kernel
theorem dX9_stands_4 : decode cX9_stands 4 = .ok (.bipush 10, 2) := by decide +kernel
theorem dX9_stands_6 : decode cX9_stands 6 = .ok (.irem, 1) := by decide +kernel
theorem dX9_stands_7 : decode cX9_stands 7 = .ok (.istore_n 2, 1) := by decide +kernel
theorem dX9_stands_8 : decode cX9_stands 8 = .ok (.iload_n 1, 1) := by decide +kernel
theorem dX9_stands_9 : decode cX9_stands 9 = .ok (.bipush 10, 2) := by decide +kernel
theorem dX9_stands_11 : decode cX9_stands 11 = .ok (.idiv, 1) := by decide +kernel
theorem dX9_stands_12 : decode cX9_stands 12 = .ok (.bipush 10, 2) := by decide +kernel
theorem dX9_stands_14 : decode cX9_stands 14 = .ok (.irem, 1) := by decide +kernel
theorem dX9_stands_15 : decode cX9_stands 15 = .ok (.istore_n 3, 1) := by decide +kernel
theorem dX9_stands_16 : decode cX9_stands 16 = .ok (.iload_n 1, 1) := by decide +kernel
theorem dX9_stands_17 : decode cX9_stands 17 = .ok (.bipush 10, 2) := by decide +kernel
theorem dX9_stands_19 : decode cX9_stands 19 = .ok (.irem, 1) := by decide +kernel
theorem dX9_stands_20 : decode cX9_stands 20 = .ok (.istore 4, 2) := by decide +kernel
theorem dX9_stands_22 : decode cX9_stands 22 = .ok (.iload_n 1, 1) := by decide +kernel
theorem dX9_stands_23 : decode cX9_stands 23 = .ok (.bipush 100, 2) := by decide +kernel
theorem dX9_stands_25 : decode cX9_stands 25 = .ok (.irem, 1) := by decide +kernel
theorem dX9_stands_26 : decode cX9_stands 26 = .ok (.istore 5, 2) := by decide +kernel
theorem dX9_stands_28 : decode cX9_stands 28 = .ok (.iload_n 1, 1) := by decide +kernel
theorem dX9_stands_29 : decode cX9_stands 29 = .ok (.sipush 1000, 3) := by decide +kernel
theorem dX9_stands_32 : decode cX9_stands 32 = .ok (.idiv, 1) := by decide +kernel
theorem dX9_stands_33 : decode cX9_stands 33 = .ok (.tableswitch 163 1 6 #[39, 51, 70, 81, 111, 140], 39) := by decide +kernel
theorem dX9_stands_72 : decode cX9_stands 72 = .ok (.aload_n 0, 1) := by decide +kernel
theorem dX9_stands_73 : decode cX9_stands 73 = .ok (.iload_n 2, 1) := by decide +kernel
theorem dX9_stands_74 : decode cX9_stands 74 = .ok (.iload_n 3, 1) := by decide +kernel
theorem dX9_stands_75 : decode cX9_stands 75 = .ok (.bipush 11, 2) := by decide +kernel
theorem dX9_stands_77 : decode cX9_stands 77 = .ok (.iload 4, 2) := by decide +kernel
theorem dX9_stands_79 : decode cX9_stands 79 = .ok (.imul, 1) := by decide +kernel
theorem dX9_stands_80 : decode cX9_stands 80 = .ok (.invokevirtual 293, 3) := by decide +kernel
theorem dX9_stands_83 : decode cX9_stands 83 = .ok (.ireturn, 1) := by decide +kernel
theorem dX9_stands_84 : decode cX9_stands 84 = .ok (.iload_n 2, 1) := by decide +kernel
theorem dX9_stands_85 : decode cX9_stands 85 = .ok (.ifCond .ne 16, 3) := by decide +kernel
theorem dX9_stands_88 : decode cX9_stands 88 = .ok (.aload_n 0, 1) := by decide +kernel
theorem dX9_stands_89 : decode cX9_stands 89 = .ok (.iload 5, 2) := by decide +kernel
theorem dX9_stands_91 : decode cX9_stands 91 = .ok (.invokevirtual 296, 3) := by decide +kernel
theorem dX9_stands_94 : decode cX9_stands 94 = .ok (.ifCond .eq 7, 3) := by decide +kernel
theorem dX9_stands_97 : decode cX9_stands 97 = .ok (.iconst 1, 1) := by decide +kernel
theorem dX9_stands_98 : decode cX9_stands 98 = .ok (.goto 4, 3) := by decide +kernel
theorem dX9_stands_101 : decode cX9_stands 101 = .ok (.iconst 0, 1) := by decide +kernel
theorem dX9_stands_102 : decode cX9_stands 102 = .ok (.ireturn, 1) := by decide +kernel
theorem dX9_stands_103 : decode cX9_stands 103 = .ok (.aload_n 0, 1) := by decide +kernel
theorem dX9_stands_104 : decode cX9_stands 104 = .ok (.iload 5, 2) := by decide +kernel
theorem dX9_stands_106 : decode cX9_stands 106 = .ok (.bipush 11, 2) := by decide +kernel
theorem dX9_stands_108 : decode cX9_stands 108 = .ok (.iload_n 2, 1) := by decide +kernel
theorem dX9_stands_109 : decode cX9_stands 109 = .ok (.imul, 1) := by decide +kernel
theorem dX9_stands_110 : decode cX9_stands 110 = .ok (.invokevirtual 299, 3) := by decide +kernel
theorem dX9_stands_113 : decode cX9_stands 113 = .ok (.ireturn, 1) := by decide +kernel
theorem dX9_stands_114 : decode cX9_stands 114 = .ok (.iload_n 2, 1) := by decide +kernel
theorem dX9_stands_115 : decode cX9_stands 115 = .ok (.ifCond .ne 27, 3) := by decide +kernel
theorem dX9_stands_118 : decode cX9_stands 118 = .ok (.iload_n 3, 1) := by decide +kernel
theorem dX9_stands_119 : decode cX9_stands 119 = .ok (.ifCond .ne 23, 3) := by decide +kernel
theorem dX9_stands_122 : decode cX9_stands 122 = .ok (.aload_n 0, 1) := by decide +kernel
theorem dX9_stands_123 : decode cX9_stands 123 = .ok (.aload_n 0, 1) := by decide +kernel
theorem dX9_stands_124 : decode cX9_stands 124 = .ok (.getfield 33, 3) := by decide +kernel
theorem dX9_stands_127 : decode cX9_stands 127 = .ok (.invokevirtual 80, 3) := by decide +kernel
theorem dX9_stands_130 : decode cX9_stands 130 = .ok (.getfield 84, 3) := by decide +kernel
theorem dX9_stands_133 : decode cX9_stands 133 = .ok (.iload 4, 2) := by decide +kernel
theorem dX9_stands_135 : decode cX9_stands 135 = .ok (.if_icmp .lt 7, 3) := by decide +kernel
theorem dX9_stands_138 : decode cX9_stands 138 = .ok (.iconst 1, 1) := by decide +kernel
theorem dX9_stands_139 : decode cX9_stands 139 = .ok (.goto 4, 3) := by decide +kernel
theorem dX9_stands_142 : decode cX9_stands 142 = .ok (.iconst 0, 1) := by decide +kernel
theorem dX9_stands_143 : decode cX9_stands 143 = .ok (.ireturn, 1) := by decide +kernel
theorem dX9_stands_144 : decode cX9_stands 144 = .ok (.aload_n 0, 1) := by decide +kernel
theorem dX9_stands_145 : decode cX9_stands 145 = .ok (.aload_n 0, 1) := by decide +kernel
theorem dX9_stands_146 : decode cX9_stands 146 = .ok (.getfield 33, 3) := by decide +kernel
theorem dX9_stands_149 : decode cX9_stands 149 = .ok (.aload_n 0, 1) := by decide +kernel
theorem dX9_stands_150 : decode cX9_stands 150 = .ok (.aload_n 0, 1) := by decide +kernel
theorem dX9_stands_151 : decode cX9_stands 151 = .ok (.getfield 33, 3) := by decide +kernel
theorem dX9_stands_154 : decode cX9_stands 154 = .ok (.iload_n 2, 1) := by decide +kernel
theorem dX9_stands_155 : decode cX9_stands 155 = .ok (.iload_n 3, 1) := by decide +kernel
theorem dX9_stands_156 : decode cX9_stands 156 = .ok (.invokevirtual 175, 3) := by decide +kernel
theorem dX9_stands_159 : decode cX9_stands 159 = .ok (.invokevirtual 179, 3) := by decide +kernel
theorem dX9_stands_162 : decode cX9_stands 162 = .ok (.iload 4, 2) := by decide +kernel
theorem dX9_stands_164 : decode cX9_stands 164 = .ok (.if_icmp .lt 7, 3) := by decide +kernel
theorem dX9_stands_167 : decode cX9_stands 167 = .ok (.iconst 1, 1) := by decide +kernel
theorem dX9_stands_168 : decode cX9_stands 168 = .ok (.goto 4, 3) := by decide +kernel
theorem dX9_stands_171 : decode cX9_stands 171 = .ok (.iconst 0, 1) := by decide +kernel
theorem dX9_stands_172 : decode cX9_stands 172 = .ok (.ireturn, 1) := by decide +kernel
theorem dX9_stands_173 : decode cX9_stands 173 = .ok (.iload_n 2, 1) := by decide +kernel
theorem dX9_stands_174 : decode cX9_stands 174 = .ok (.ifCond .ne 20, 3) := by decide +kernel
theorem dX9_stands_177 : decode cX9_stands 177 = .ok (.aload_n 0, 1) := by decide +kernel
theorem dX9_stands_178 : decode cX9_stands 178 = .ok (.aload_n 0, 1) := by decide +kernel
theorem dX9_stands_179 : decode cX9_stands 179 = .ok (.getfield 33, 3) := by decide +kernel
theorem dX9_stands_182 : decode cX9_stands 182 = .ok (.invokevirtual 186, 3) := by decide +kernel
theorem dX9_stands_185 : decode cX9_stands 185 = .ok (.iload 5, 2) := by decide +kernel
theorem dX9_stands_187 : decode cX9_stands 187 = .ok (.if_icmp .lt 7, 3) := by decide +kernel
theorem dX9_stands_190 : decode cX9_stands 190 = .ok (.iconst 1, 1) := by decide +kernel
theorem dX9_stands_191 : decode cX9_stands 191 = .ok (.goto 4, 3) := by decide +kernel
theorem dX9_stands_194 : decode cX9_stands 194 = .ok (.iconst 0, 1) := by decide +kernel
theorem dX9_stands_195 : decode cX9_stands 195 = .ok (.ireturn, 1) := by decide +kernel
theorem dX9_stands_196 : decode cX9_stands 196 = .ok (.iconst 0, 1) := by decide +kernel
theorem dX9_stands_197 : decode cX9_stands 197 = .ok (.ireturn, 1) := by decide +kernel
theorem dX9_addToTrial_0 : decode cX9_addToTrial 0 = .ok (.iload_n 1, 1) := by decide +kernel
theorem dX9_addToTrial_1 : decode cX9_addToTrial 1 = .ok (.iload_n 2, 1) := by decide +kernel
theorem dX9_addToTrial_2 : decode cX9_addToTrial 2 = .ok (.iload_n 3, 1) := by decide +kernel
theorem dX9_addToTrial_3 : decode cX9_addToTrial 3 = .ok (.invokestatic 106, 3) := by decide +kernel
theorem dX9_addToTrial_6 : decode cX9_addToTrial 6 = .ok (.ifCond .eq 17, 3) := by decide +kernel
theorem dX9_addToTrial_9 : decode cX9_addToTrial 9 = .ok (.aload_n 0, 1) := by decide +kernel
theorem dX9_addToTrial_10 : decode cX9_addToTrial 10 = .ok (.getfield 33, 3) := by decide +kernel
theorem dX9_addToTrial_13 : decode cX9_addToTrial 13 = .ok (.invokevirtual 110, 3) := by decide +kernel
theorem dX9_addToTrial_16 : decode cX9_addToTrial 16 = .ok (.ifCond .eq 7, 3) := by decide +kernel
theorem dX9_addToTrial_19 : decode cX9_addToTrial 19 = .ok (.iconst 1, 1) := by decide +kernel
theorem dX9_addToTrial_20 : decode cX9_addToTrial 20 = .ok (.goto 4, 3) := by decide +kernel
theorem dX9_addToTrial_23 : decode cX9_addToTrial 23 = .ok (.iconst 0, 1) := by decide +kernel
theorem dX9_addToTrial_24 : decode cX9_addToTrial 24 = .ok (.istore 4, 2) := by decide +kernel
theorem dX9_addToTrial_26 : decode cX9_addToTrial 26 = .ok (.iload 4, 2) := by decide +kernel
theorem dX9_addToTrial_28 : decode cX9_addToTrial 28 = .ok (.ifCond .eq 13, 3) := by decide +kernel
theorem dX9_addToTrial_31 : decode cX9_addToTrial 31 = .ok (.aload_n 0, 1) := by decide +kernel
theorem dX9_addToTrial_32 : decode cX9_addToTrial 32 = .ok (.getfield 33, 3) := by decide +kernel
theorem dX9_addToTrial_35 : decode cX9_addToTrial 35 = .ok (.iload_n 1, 1) := by decide +kernel
theorem dX9_addToTrial_36 : decode cX9_addToTrial 36 = .ok (.iload_n 2, 1) := by decide +kernel
theorem dX9_addToTrial_37 : decode cX9_addToTrial 37 = .ok (.iload_n 3, 1) := by decide +kernel
theorem dX9_addToTrial_38 : decode cX9_addToTrial 38 = .ok (.invokevirtual 125, 3) := by decide +kernel
theorem dX9_addToTrial_41 : decode cX9_addToTrial 41 = .ok (.iload 4, 2) := by decide +kernel
theorem dX9_addToTrial_43 : decode cX9_addToTrial 43 = .ok (.ireturn, 1) := by decide +kernel
theorem dX9_dropFromTrial_0 : decode cX9_dropFromTrial 0 = .ok (.aload_n 0, 1) := by decide +kernel
theorem dX9_dropFromTrial_1 : decode cX9_dropFromTrial 1 = .ok (.getfield 33, 3) := by decide +kernel
theorem dX9_dropFromTrial_4 : decode cX9_dropFromTrial 4 = .ok (.iload_n 1, 1) := by decide +kernel
theorem dX9_dropFromTrial_5 : decode cX9_dropFromTrial 5 = .ok (.invokevirtual 129, 3) := by decide +kernel
theorem dX9_dropFromTrial_8 : decode cX9_dropFromTrial 8 = .ok (.istore_n 2, 1) := by decide +kernel
theorem dX9_dropFromTrial_9 : decode cX9_dropFromTrial 9 = .ok (.iload_n 2, 1) := by decide +kernel
theorem dX9_dropFromTrial_10 : decode cX9_dropFromTrial 10 = .ok (.ifCond .eq 11, 3) := by decide +kernel
theorem dX9_dropFromTrial_13 : decode cX9_dropFromTrial 13 = .ok (.aload_n 0, 1) := by decide +kernel
theorem dX9_dropFromTrial_14 : decode cX9_dropFromTrial 14 = .ok (.getfield 33, 3) := by decide +kernel
theorem dX9_dropFromTrial_17 : decode cX9_dropFromTrial 17 = .ok (.iload_n 1, 1) := by decide +kernel
theorem dX9_dropFromTrial_18 : decode cX9_dropFromTrial 18 = .ok (.invokevirtual 142, 3) := by decide +kernel
theorem dX9_dropFromTrial_21 : decode cX9_dropFromTrial 21 = .ok (.iload_n 2, 1) := by decide +kernel
theorem dX9_dropFromTrial_22 : decode cX9_dropFromTrial 22 = .ok (.ireturn, 1) := by decide +kernel
theorem dX9_changeInTrial_0 : decode cX9_changeInTrial 0 = .ok (.aload_n 0, 1) := by decide +kernel
theorem dX9_changeInTrial_1 : decode cX9_changeInTrial 1 = .ok (.getfield 33, 3) := by decide +kernel
theorem dX9_changeInTrial_4 : decode cX9_changeInTrial 4 = .ok (.iload_n 1, 1) := by decide +kernel
theorem dX9_changeInTrial_5 : decode cX9_changeInTrial 5 = .ok (.invokevirtual 129, 3) := by decide +kernel
theorem dX9_changeInTrial_8 : decode cX9_changeInTrial 8 = .ok (.istore_n 3, 1) := by decide +kernel
theorem dX9_changeInTrial_9 : decode cX9_changeInTrial 9 = .ok (.iload_n 3, 1) := by decide +kernel
theorem dX9_changeInTrial_10 : decode cX9_changeInTrial 10 = .ok (.ifCond .eq 13, 3) := by decide +kernel
theorem dX9_changeInTrial_13 : decode cX9_changeInTrial 13 = .ok (.aload_n 0, 1) := by decide +kernel
theorem dX9_changeInTrial_14 : decode cX9_changeInTrial 14 = .ok (.getfield 33, 3) := by decide +kernel
theorem dX9_changeInTrial_17 : decode cX9_changeInTrial 17 = .ok (.getfield 132, 3) := by decide +kernel
theorem dX9_changeInTrial_20 : decode cX9_changeInTrial 20 = .ok (.iload_n 1, 1) := by decide +kernel
theorem dX9_changeInTrial_21 : decode cX9_changeInTrial 21 = .ok (.iload_n 2, 1) := by decide +kernel
theorem dX9_changeInTrial_22 : decode cX9_changeInTrial 22 = .ok (.iastore, 1) := by decide +kernel
theorem dX9_changeInTrial_23 : decode cX9_changeInTrial 23 = .ok (.iload_n 3, 1) := by decide +kernel
theorem dX9_changeInTrial_24 : decode cX9_changeInTrial 24 = .ok (.ireturn, 1) := by decide +kernel
theorem dX9_isAllSeenSo_0 : decode cX9_isAllSeenSo 0 = .ok (.aload_n 0, 1) := by decide +kernel
theorem dX9_isAllSeenSo_1 : decode cX9_isAllSeenSo 1 = .ok (.getfield 33, 3) := by decide +kernel
theorem dX9_isAllSeenSo_4 : decode cX9_isAllSeenSo 4 = .ok (.aload_n 0, 1) := by decide +kernel
theorem dX9_isAllSeenSo_5 : decode cX9_isAllSeenSo 5 = .ok (.getfield 29, 3) := by decide +kernel
theorem dX9_isAllSeenSo_8 : decode cX9_isAllSeenSo 8 = .ok (.invokevirtual 193, 3) := by decide +kernel
theorem dX9_isAllSeenSo_11 : decode cX9_isAllSeenSo 11 = .ok (.aload_n 0, 1) := by decide +kernel
theorem dX9_isAllSeenSo_12 : decode cX9_isAllSeenSo 12 = .ok (.getfield 33, 3) := by decide +kernel
theorem dX9_isAllSeenSo_15 : decode cX9_isAllSeenSo 15 = .ok (.iload_n 1, 1) := by decide +kernel
theorem dX9_isAllSeenSo_16 : decode cX9_isAllSeenSo 16 = .ok (.iload_n 2, 1) := by decide +kernel
theorem dX9_isAllSeenSo_17 : decode cX9_isAllSeenSo 17 = .ok (.iload_n 3, 1) := by decide +kernel
theorem dX9_isAllSeenSo_18 : decode cX9_isAllSeenSo 18 = .ok (.invokevirtual 125, 3) := by decide +kernel
theorem dX9_isAllSeenSo_21 : decode cX9_isAllSeenSo 21 = .ok (.aload_n 0, 1) := by decide +kernel
theorem dX9_isAllSeenSo_22 : decode cX9_isAllSeenSo 22 = .ok (.aload_n 0, 1) := by decide +kernel
theorem dX9_isAllSeenSo_23 : decode cX9_isAllSeenSo 23 = .ok (.getfield 33, 3) := by decide +kernel
theorem dX9_isAllSeenSo_26 : decode cX9_isAllSeenSo 26 = .ok (.invokevirtual 80, 3) := by decide +kernel
theorem dX9_isAllSeenSo_29 : decode cX9_isAllSeenSo 29 = .ok (.astore 4, 2) := by decide +kernel
theorem dX9_isAllSeenSo_31 : decode cX9_isAllSeenSo 31 = .ok (.iconst 0, 1) := by decide +kernel
theorem dX9_isAllSeenSo_32 : decode cX9_isAllSeenSo 32 = .ok (.istore 5, 2) := by decide +kernel
theorem dX9_isAllSeenSo_34 : decode cX9_isAllSeenSo 34 = .ok (.iload 5, 2) := by decide +kernel
theorem dX9_isAllSeenSo_36 : decode cX9_isAllSeenSo 36 = .ok (.aload_n 0, 1) := by decide +kernel
theorem dX9_isAllSeenSo_37 : decode cX9_isAllSeenSo 37 = .ok (.getfield 56, 3) := by decide +kernel
theorem dX9_isAllSeenSo_40 : decode cX9_isAllSeenSo 40 = .ok (.getfield 215, 3) := by decide +kernel
theorem dX9_isAllSeenSo_43 : decode cX9_isAllSeenSo 43 = .ok (.if_icmp .ge 69, 3) := by decide +kernel
theorem dX9_isAllSeenSo_46 : decode cX9_isAllSeenSo 46 = .ok (.aload_n 0, 1) := by decide +kernel
theorem dX9_isAllSeenSo_47 : decode cX9_isAllSeenSo 47 = .ok (.aload_n 0, 1) := by decide +kernel
theorem dX9_isAllSeenSo_48 : decode cX9_isAllSeenSo 48 = .ok (.getfield 33, 3) := by decide +kernel
theorem dX9_isAllSeenSo_51 : decode cX9_isAllSeenSo 51 = .ok (.aload 4, 2) := by decide +kernel
theorem dX9_isAllSeenSo_53 : decode cX9_isAllSeenSo 53 = .ok (.aload_n 0, 1) := by decide +kernel
theorem dX9_isAllSeenSo_54 : decode cX9_isAllSeenSo 54 = .ok (.getfield 56, 3) := by decide +kernel
theorem dX9_isAllSeenSo_57 : decode cX9_isAllSeenSo 57 = .ok (.getfield 303, 3) := by decide +kernel
theorem dX9_isAllSeenSo_60 : decode cX9_isAllSeenSo 60 = .ok (.iload 5, 2) := by decide +kernel
theorem dX9_isAllSeenSo_62 : decode cX9_isAllSeenSo 62 = .ok (.iaload, 1) := by decide +kernel
theorem dX9_isAllSeenSo_63 : decode cX9_isAllSeenSo 63 = .ok (.invokevirtual 183, 3) := by decide +kernel
theorem dX9_isAllSeenSo_66 : decode cX9_isAllSeenSo 66 = .ok (.invokevirtual 179, 3) := by decide +kernel
theorem dX9_isAllSeenSo_69 : decode cX9_isAllSeenSo 69 = .ok (.aload_n 0, 1) := by decide +kernel
theorem dX9_isAllSeenSo_70 : decode cX9_isAllSeenSo 70 = .ok (.getfield 56, 3) := by decide +kernel
theorem dX9_isAllSeenSo_73 : decode cX9_isAllSeenSo 73 = .ok (.getfield 304, 3) := by decide +kernel
theorem dX9_isAllSeenSo_76 : decode cX9_isAllSeenSo 76 = .ok (.iload 5, 2) := by decide +kernel
theorem dX9_isAllSeenSo_78 : decode cX9_isAllSeenSo 78 = .ok (.iaload, 1) := by decide +kernel
theorem dX9_isAllSeenSo_79 : decode cX9_isAllSeenSo 79 = .ok (.if_icmp .ne 7, 3) := by decide +kernel
theorem dX9_isAllSeenSo_82 : decode cX9_isAllSeenSo 82 = .ok (.iconst 1, 1) := by decide +kernel
theorem dX9_isAllSeenSo_83 : decode cX9_isAllSeenSo 83 = .ok (.goto 4, 3) := by decide +kernel
theorem dX9_isAllSeenSo_86 : decode cX9_isAllSeenSo 86 = .ok (.iconst 0, 1) := by decide +kernel
theorem dX9_isAllSeenSo_87 : decode cX9_isAllSeenSo 87 = .ok (.istore 6, 2) := by decide +kernel
theorem dX9_isAllSeenSo_89 : decode cX9_isAllSeenSo 89 = .ok (.iload 6, 2) := by decide +kernel
theorem dX9_isAllSeenSo_91 : decode cX9_isAllSeenSo 91 = .ok (.aload_n 0, 1) := by decide +kernel
theorem dX9_isAllSeenSo_92 : decode cX9_isAllSeenSo 92 = .ok (.getfield 56, 3) := by decide +kernel
theorem dX9_isAllSeenSo_95 : decode cX9_isAllSeenSo 95 = .ok (.getfield 307, 3) := by decide +kernel
theorem dX9_isAllSeenSo_98 : decode cX9_isAllSeenSo 98 = .ok (.iload 5, 2) := by decide +kernel
theorem dX9_isAllSeenSo_100 : decode cX9_isAllSeenSo 100 = .ok (.baload, 1) := by decide +kernel
theorem dX9_isAllSeenSo_101 : decode cX9_isAllSeenSo 101 = .ok (.if_icmp .eq 5, 3) := by decide +kernel
theorem dX9_isAllSeenSo_104 : decode cX9_isAllSeenSo 104 = .ok (.iconst 0, 1) := by decide +kernel
theorem dX9_isAllSeenSo_105 : decode cX9_isAllSeenSo 105 = .ok (.ireturn, 1) := by decide +kernel
theorem dX9_isAllSeenSo_106 : decode cX9_isAllSeenSo 106 = .ok (.iinc 5 1, 3) := by decide +kernel
theorem dX9_isAllSeenSo_109 : decode cX9_isAllSeenSo 109 = .ok (.goto (-75), 3) := by decide +kernel
theorem dX9_isAllSeenSo_112 : decode cX9_isAllSeenSo 112 = .ok (.iconst 1, 1) := by decide +kernel
theorem dX9_isAllSeenSo_113 : decode cX9_isAllSeenSo 113 = .ok (.ireturn, 1) := by decide +kernel
theorem dX9_drawIntoTrial_0 : decode cX9_drawIntoTrial 0 = .ok (.aload_n 0, 1) := by decide +kernel
theorem dX9_drawIntoTrial_1 : decode cX9_drawIntoTrial 1 = .ok (.getfield 33, 3) := by decide +kernel
theorem dX9_drawIntoTrial_4 : decode cX9_drawIntoTrial 4 = .ok (.invokevirtual 110, 3) := by decide +kernel
theorem dX9_drawIntoTrial_7 : decode cX9_drawIntoTrial 7 = .ok (.ifCond .eq 28, 3) := by decide +kernel
theorem dX9_drawIntoTrial_10 : decode cX9_drawIntoTrial 10 = .ok (.aload_n 0, 1) := by decide +kernel
theorem dX9_drawIntoTrial_11 : decode cX9_drawIntoTrial 11 = .ok (.getfield 33, 3) := by decide +kernel
theorem dX9_drawIntoTrial_14 : decode cX9_drawIntoTrial 14 = .ok (.iload_n 1, 1) := by decide +kernel
theorem dX9_drawIntoTrial_15 : decode cX9_drawIntoTrial 15 = .ok (.iconst 4, 1) := by decide +kernel
theorem dX9_drawIntoTrial_16 : decode cX9_drawIntoTrial 16 = .ok (.irem, 1) := by decide +kernel
theorem dX9_drawIntoTrial_17 : decode cX9_drawIntoTrial 17 = .ok (.iload_n 1, 1) := by decide +kernel
theorem dX9_drawIntoTrial_18 : decode cX9_drawIntoTrial 18 = .ok (.iconst 4, 1) := by decide +kernel
theorem dX9_drawIntoTrial_19 : decode cX9_drawIntoTrial 19 = .ok (.idiv, 1) := by decide +kernel
theorem dX9_drawIntoTrial_20 : decode cX9_drawIntoTrial 20 = .ok (.iconst 5, 1) := by decide +kernel
theorem dX9_drawIntoTrial_21 : decode cX9_drawIntoTrial 21 = .ok (.irem, 1) := by decide +kernel
theorem dX9_drawIntoTrial_22 : decode cX9_drawIntoTrial 22 = .ok (.iload_n 1, 1) := by decide +kernel
theorem dX9_drawIntoTrial_23 : decode cX9_drawIntoTrial 23 = .ok (.bipush 32, 2) := by decide +kernel
theorem dX9_drawIntoTrial_25 : decode cX9_drawIntoTrial 25 = .ok (.idiv, 1) := by decide +kernel
theorem dX9_drawIntoTrial_26 : decode cX9_drawIntoTrial 26 = .ok (.bipush 101, 2) := by decide +kernel
theorem dX9_drawIntoTrial_28 : decode cX9_drawIntoTrial 28 = .ok (.irem, 1) := by decide +kernel
theorem dX9_drawIntoTrial_29 : decode cX9_drawIntoTrial 29 = .ok (.invokevirtual 125, 3) := by decide +kernel
theorem dX9_drawIntoTrial_32 : decode cX9_drawIntoTrial 32 = .ok (.goto 11, 3) := by decide +kernel
theorem dX9_drawIntoTrial_35 : decode cX9_drawIntoTrial 35 = .ok (.aload_n 0, 1) := by decide +kernel
theorem dX9_drawIntoTrial_36 : decode cX9_drawIntoTrial 36 = .ok (.getfield 33, 3) := by decide +kernel
theorem dX9_drawIntoTrial_39 : decode cX9_drawIntoTrial 39 = .ok (.iconst 0, 1) := by decide +kernel
theorem dX9_drawIntoTrial_40 : decode cX9_drawIntoTrial 40 = .ok (.invokevirtual 142, 3) := by decide +kernel
theorem dX9_drawIntoTrial_43 : decode cX9_drawIntoTrial 43 = .ok (.return_, 1) := by decide +kernel
theorem dX9_fraction_0 : decode cX9_fraction 0 = .ok (.iconst 1, 1) := by decide +kernel
theorem dX9_fraction_1 : decode cX9_fraction 1 = .ok (.iload_n 0, 1) := by decide +kernel
theorem dX9_fraction_2 : decode cX9_fraction 2 = .ok (.invokestatic 311, 3) := by decide +kernel
theorem dX9_fraction_5 : decode cX9_fraction 5 = .ok (.iload_n 1, 1) := by decide +kernel
theorem dX9_fraction_6 : decode cX9_fraction 6 = .ok (.invokestatic 316, 3) := by decide +kernel
theorem dX9_fraction_9 : decode cX9_fraction 9 = .ok (.invokestatic 319, 3) := by decide +kernel
theorem dX9_fraction_12 : decode cX9_fraction 12 = .ok (.istore_n 3, 1) := by decide +kernel
theorem dX9_fraction_13 : decode cX9_fraction 13 = .ok (.iload_n 2, 1) := by decide +kernel
theorem dX9_fraction_14 : decode cX9_fraction 14 = .ok (.ifCond .eq 7, 3) := by decide +kernel
theorem dX9_fraction_17 : decode cX9_fraction 17 = .ok (.iload_n 0, 1) := by decide +kernel
theorem dX9_fraction_18 : decode cX9_fraction 18 = .ok (.goto 4, 3) := by decide +kernel
theorem dX9_fraction_21 : decode cX9_fraction 21 = .ok (.iload_n 1, 1) := by decide +kernel
theorem dX9_fraction_22 : decode cX9_fraction 22 = .ok (.iload_n 3, 1) := by decide +kernel
theorem dX9_fraction_23 : decode cX9_fraction 23 = .ok (.idiv, 1) := by decide +kernel
theorem dX9_fraction_24 : decode cX9_fraction 24 = .ok (.ireturn, 1) := by decide +kernel
theorem dX9_commonDivisor_0 : decode cX9_commonDivisor 0 = .ok (.iload_n 0, 1) := by decide +kernel
theorem dX9_commonDivisor_1 : decode cX9_commonDivisor 1 = .ok (.istore_n 2, 1) := by decide +kernel
theorem dX9_commonDivisor_2 : decode cX9_commonDivisor 2 = .ok (.iload_n 1, 1) := by decide +kernel
theorem dX9_commonDivisor_3 : decode cX9_commonDivisor 3 = .ok (.istore_n 3, 1) := by decide +kernel
theorem dX9_commonDivisor_4 : decode cX9_commonDivisor 4 = .ok (.iconst 0, 1) := by decide +kernel
theorem dX9_commonDivisor_5 : decode cX9_commonDivisor 5 = .ok (.istore 4, 2) := by decide +kernel
theorem dX9_commonDivisor_7 : decode cX9_commonDivisor 7 = .ok (.iload 4, 2) := by decide +kernel
theorem dX9_commonDivisor_9 : decode cX9_commonDivisor 9 = .ok (.bipush 100, 2) := by decide +kernel
theorem dX9_commonDivisor_11 : decode cX9_commonDivisor 11 = .ok (.if_icmp .ge 23, 3) := by decide +kernel
theorem dX9_commonDivisor_14 : decode cX9_commonDivisor 14 = .ok (.iload_n 3, 1) := by decide +kernel
theorem dX9_commonDivisor_15 : decode cX9_commonDivisor 15 = .ok (.ifCond .eq 19, 3) := by decide +kernel
theorem dX9_commonDivisor_18 : decode cX9_commonDivisor 18 = .ok (.iload_n 2, 1) := by decide +kernel
theorem dX9_commonDivisor_19 : decode cX9_commonDivisor 19 = .ok (.iload_n 3, 1) := by decide +kernel
theorem dX9_commonDivisor_20 : decode cX9_commonDivisor 20 = .ok (.irem, 1) := by decide +kernel
theorem dX9_commonDivisor_21 : decode cX9_commonDivisor 21 = .ok (.istore 5, 2) := by decide +kernel
theorem dX9_commonDivisor_23 : decode cX9_commonDivisor 23 = .ok (.iload_n 3, 1) := by decide +kernel
theorem dX9_commonDivisor_24 : decode cX9_commonDivisor 24 = .ok (.istore_n 2, 1) := by decide +kernel
theorem dX9_commonDivisor_25 : decode cX9_commonDivisor 25 = .ok (.iload 5, 2) := by decide +kernel
theorem dX9_commonDivisor_27 : decode cX9_commonDivisor 27 = .ok (.istore_n 3, 1) := by decide +kernel
theorem dX9_commonDivisor_28 : decode cX9_commonDivisor 28 = .ok (.iinc 4 1, 3) := by decide +kernel
theorem dX9_commonDivisor_31 : decode cX9_commonDivisor 31 = .ok (.goto (-24), 3) := by decide +kernel
theorem dX9_commonDivisor_34 : decode cX9_commonDivisor 34 = .ok (.iload_n 2, 1) := by decide +kernel
theorem dX9_commonDivisor_35 : decode cX9_commonDivisor 35 = .ok (.ireturn, 1) := by decide +kernel
theorem dX9_power_0 : decode cX9_power 0 = .ok (.iconst 1, 1) := by decide +kernel
theorem dX9_power_1 : decode cX9_power 1 = .ok (.istore_n 2, 1) := by decide +kernel
theorem dX9_power_2 : decode cX9_power 2 = .ok (.iconst 0, 1) := by decide +kernel
theorem dX9_power_3 : decode cX9_power 3 = .ok (.istore_n 3, 1) := by decide +kernel
theorem dX9_power_4 : decode cX9_power 4 = .ok (.iload_n 3, 1) := by decide +kernel
theorem dX9_power_5 : decode cX9_power 5 = .ok (.iload_n 1, 1) := by decide +kernel
theorem dX9_power_6 : decode cX9_power 6 = .ok (.if_icmp .ge 13, 3) := by decide +kernel
theorem dX9_power_9 : decode cX9_power 9 = .ok (.iload_n 2, 1) := by decide +kernel
theorem dX9_power_10 : decode cX9_power 10 = .ok (.iload_n 0, 1) := by decide +kernel
theorem dX9_power_11 : decode cX9_power 11 = .ok (.imul, 1) := by decide +kernel
theorem dX9_power_12 : decode cX9_power 12 = .ok (.istore_n 2, 1) := by decide +kernel
theorem dX9_power_13 : decode cX9_power 13 = .ok (.iinc 3 1, 3) := by decide +kernel
theorem dX9_power_16 : decode cX9_power 16 = .ok (.goto (-12), 3) := by decide +kernel
theorem dX9_power_19 : decode cX9_power 19 = .ok (.iload_n 2, 1) := by decide +kernel
theorem dX9_power_20 : decode cX9_power 20 = .ok (.ireturn, 1) := by decide +kernel
end
section
theorem dX10_init_0 : decode cX10_init 0 = .ok (.aload_n 0, 1) := by decide +kernel
theorem dX10_init_1 : decode cX10_init 1 = .ok (.invokespecial 1, 3) := by decide +kernel
theorem dX10_init_4 : decode cX10_init 4 = .ok (.aload_n 0, 1) := by decide +kernel
theorem dX10_init_5 : decode cX10_init 5 = .ok (.iconst 0, 1) := by decide +kernel
theorem dX10_init_6 : decode cX10_init 6 = .ok (.putfield 9, 3) := by decide +kernel
theorem dX10_init_9 : decode cX10_init 9 = .ok (.aload_n 0, 1) := by decide +kernel
theorem dX10_init_10 : decode cX10_init 10 = .ok (.iconst 1, 1) := by decide +kernel
theorem dX10_init_11 : decode cX10_init 11 = .ok (.putfield 13, 3) := by decide +kernel
theorem dX10_init_14 : decode cX10_init 14 = .ok (.aload_n 0, 1) := by decide +kernel
theorem dX10_init_15 : decode cX10_init 15 = .ok (.iconst 1, 1) := by decide +kernel
theorem dX10_init_16 : decode cX10_init 16 = .ok (.putfield 16, 3) := by decide +kernel
theorem dX10_init_19 : decode cX10_init 19 = .ok (.aload_n 0, 1) := by decide +kernel
theorem dX10_init_20 : decode cX10_init 20 = .ok (.bipush 32, 2) := by decide +kernel
theorem dX10_init_22 : decode cX10_init 22 = .ok (.newarray .int, 2) := by decide +kernel
theorem dX10_init_24 : decode cX10_init 24 = .ok (.putfield 19, 3) := by decide +kernel
theorem dX10_init_27 : decode cX10_init 27 = .ok (.aload_n 0, 1) := by decide +kernel
theorem dX10_init_28 : decode cX10_init 28 = .ok (.bipush 34, 2) := by decide +kernel
theorem dX10_init_30 : decode cX10_init 30 = .ok (.newarray .int, 2) := by decide +kernel
theorem dX10_init_32 : decode cX10_init 32 = .ok (.putfield 23, 3) := by decide +kernel
theorem dX10_init_35 : decode cX10_init 35 = .ok (.aload_n 0, 1) := by decide +kernel
theorem dX10_init_36 : decode cX10_init 36 = .ok (.bipush 17, 2) := by decide +kernel
theorem dX10_init_38 : decode cX10_init 38 = .ok (.newarray .int, 2) := by decide +kernel
theorem dX10_init_40 : decode cX10_init 40 = .ok (.putfield 26, 3) := by decide +kernel
theorem dX10_init_43 : decode cX10_init 43 = .ok (.aload_n 0, 1) := by decide +kernel
theorem dX10_init_44 : decode cX10_init 44 = .ok (.bipush 17, 2) := by decide +kernel
theorem dX10_init_46 : decode cX10_init 46 = .ok (.newarray .int, 2) := by decide +kernel
theorem dX10_init_48 : decode cX10_init 48 = .ok (.putfield 29, 3) := by decide +kernel
theorem dX10_init_51 : decode cX10_init 51 = .ok (.aload_n 0, 1) := by decide +kernel
theorem dX10_init_52 : decode cX10_init 52 = .ok (.bipush 21, 2) := by decide +kernel
theorem dX10_init_54 : decode cX10_init 54 = .ok (.newarray .int, 2) := by decide +kernel
theorem dX10_init_56 : decode cX10_init 56 = .ok (.putfield 32, 3) := by decide +kernel
theorem dX10_init_59 : decode cX10_init 59 = .ok (.aload_n 0, 1) := by decide +kernel
theorem dX10_init_60 : decode cX10_init 60 = .ok (.bipush 21, 2) := by decide +kernel
theorem dX10_init_62 : decode cX10_init 62 = .ok (.newarray .int, 2) := by decide +kernel
theorem dX10_init_64 : decode cX10_init 64 = .ok (.putfield 35, 3) := by decide +kernel
theorem dX10_init_67 : decode cX10_init 67 = .ok (.aload_n 0, 1) := by decide +kernel
theorem dX10_init_68 : decode cX10_init 68 = .ok (.bipush 21, 2) := by decide +kernel
theorem dX10_init_70 : decode cX10_init 70 = .ok (.newarray .int, 2) := by decide +kernel
theorem dX10_init_72 : decode cX10_init 72 = .ok (.putfield 38, 3) := by decide +kernel
theorem dX10_init_75 : decode cX10_init 75 = .ok (.aload_n 0, 1) := by decide +kernel
theorem dX10_init_76 : decode cX10_init 76 = .ok (.sipush 238, 3) := by decide +kernel
theorem dX10_init_79 : decode cX10_init 79 = .ok (.newarray .int, 2) := by decide +kernel
theorem dX10_init_81 : decode cX10_init 81 = .ok (.putfield 41, 3) := by decide +kernel
theorem dX10_init_84 : decode cX10_init 84 = .ok (.aload_n 0, 1) := by decide +kernel
theorem dX10_init_85 : decode cX10_init 85 = .ok (.bipush 6, 2) := by decide +kernel
theorem dX10_init_87 : decode cX10_init 87 = .ok (.newarray .int, 2) := by decide +kernel
theorem dX10_init_89 : decode cX10_init 89 = .ok (.putfield 44, 3) := by decide +kernel
theorem dX10_init_92 : decode cX10_init 92 = .ok (.aload_n 0, 1) := by decide +kernel
theorem dX10_init_93 : decode cX10_init 93 = .ok (.bipush 6, 2) := by decide +kernel
theorem dX10_init_95 : decode cX10_init 95 = .ok (.newarray .int, 2) := by decide +kernel
theorem dX10_init_97 : decode cX10_init 97 = .ok (.putfield 47, 3) := by decide +kernel
theorem dX10_init_100 : decode cX10_init 100 = .ok (.aload_n 0, 1) := by decide +kernel
theorem dX10_init_101 : decode cX10_init 101 = .ok (.bipush 6, 2) := by decide +kernel
theorem dX10_init_103 : decode cX10_init 103 = .ok (.newarray .int, 2) := by decide +kernel
theorem dX10_init_105 : decode cX10_init 105 = .ok (.putfield 50, 3) := by decide +kernel
theorem dX10_init_108 : decode cX10_init 108 = .ok (.aload_n 0, 1) := by decide +kernel
theorem dX10_init_109 : decode cX10_init 109 = .ok (.iconst 2, 1) := by decide +kernel
theorem dX10_init_110 : decode cX10_init 110 = .ok (.newarray .boolean, 2) := by decide +kernel
theorem dX10_init_112 : decode cX10_init 112 = .ok (.putfield 53, 3) := by decide +kernel
theorem dX10_init_115 : decode cX10_init 115 = .ok (.aload_n 0, 1) := by decide +kernel
theorem dX10_init_116 : decode cX10_init 116 = .ok (.bipush 34, 2) := by decide +kernel
theorem dX10_init_118 : decode cX10_init 118 = .ok (.newarray .int, 2) := by decide +kernel
theorem dX10_init_120 : decode cX10_init 120 = .ok (.putfield 57, 3) := by decide +kernel
theorem dX10_init_123 : decode cX10_init 123 = .ok (.return_, 1) := by decide +kernel
theorem dX10_in_0 : decode cX10_in 0 = .ok (.lload_n 0, 1) := by decide +kernel
theorem dX10_in_1 : decode cX10_in 1 = .ok (.lload_n 2, 1) := by decide +kernel
theorem dX10_in_2 : decode cX10_in 2 = .ok (.lcmp, 1) := by decide +kernel
theorem dX10_in_3 : decode cX10_in 3 = .ok (.ifCond .lt 14, 3) := by decide +kernel
theorem dX10_in_6 : decode cX10_in 6 = .ok (.lload_n 0, 1) := by decide +kernel
theorem dX10_in_7 : decode cX10_in 7 = .ok (.lload 4, 2) := by decide +kernel
theorem dX10_in_9 : decode cX10_in 9 = .ok (.lcmp, 1) := by decide +kernel
theorem dX10_in_10 : decode cX10_in 10 = .ok (.ifCond .gt 7, 3) := by decide +kernel
theorem dX10_in_13 : decode cX10_in 13 = .ok (.iconst 1, 1) := by decide +kernel
theorem dX10_in_14 : decode cX10_in 14 = .ok (.goto 4, 3) := by decide +kernel
theorem dX10_in_17 : decode cX10_in 17 = .ok (.iconst 0, 1) := by decide +kernel
theorem dX10_in_18 : decode cX10_in 18 = .ok (.ireturn, 1) := by decide +kernel
theorem dX10_has_0 : decode cX10_has 0 = .ok (.iload_n 0, 1) := by decide +kernel
theorem dX10_has_1 : decode cX10_has 1 = .ok (.iload_n 1, 1) := by decide +kernel
theorem dX10_has_2 : decode cX10_has 2 = .ok (.ishr, 1) := by decide +kernel
theorem dX10_has_3 : decode cX10_has 3 = .ok (.iconst 1, 1) := by decide +kernel
theorem dX10_has_4 : decode cX10_has 4 = .ok (.iand, 1) := by decide +kernel
theorem dX10_has_5 : decode cX10_has 5 = .ok (.iconst 1, 1) := by decide +kernel
theorem dX10_has_6 : decode cX10_has 6 = .ok (.if_icmp .ne 7, 3) := by decide +kernel
theorem dX10_has_9 : decode cX10_has 9 = .ok (.iconst 1, 1) := by decide +kernel
theorem dX10_has_10 : decode cX10_has 10 = .ok (.goto 4, 3) := by decide +kernel
theorem dX10_has_13 : decode cX10_has 13 = .ok (.iconst 0, 1) := by decide +kernel
theorem dX10_has_14 : decode cX10_has 14 = .ok (.ireturn, 1) := by decide +kernel
theorem dX10_ones_0 : decode cX10_ones 0 = .ok (.iconst 0, 1) := by decide +kernel
theorem dX10_ones_1 : decode cX10_ones 1 = .ok (.istore_n 1, 1) := by decide +kernel
theorem dX10_ones_2 : decode cX10_ones 2 = .ok (.iconst 0, 1) := by decide +kernel
theorem dX10_ones_3 : decode cX10_ones 3 = .ok (.istore_n 2, 1) := by decide +kernel
theorem dX10_ones_4 : decode cX10_ones 4 = .ok (.iload_n 2, 1) := by decide +kernel
theorem dX10_ones_5 : decode cX10_ones 5 = .ok (.bipush 16, 2) := by decide +kernel
theorem dX10_ones_7 : decode cX10_ones 7 = .ok (.if_icmp .ge 17, 3) := by decide +kernel
theorem dX10_ones_10 : decode cX10_ones 10 = .ok (.iload_n 1, 1) := by decide +kernel
theorem dX10_ones_11 : decode cX10_ones 11 = .ok (.iload_n 0, 1) := by decide +kernel
theorem dX10_ones_12 : decode cX10_ones 12 = .ok (.iload_n 2, 1) := by decide +kernel
theorem dX10_ones_13 : decode cX10_ones 13 = .ok (.ishr, 1) := by decide +kernel
theorem dX10_ones_14 : decode cX10_ones 14 = .ok (.iconst 1, 1) := by decide +kernel
theorem dX10_ones_15 : decode cX10_ones 15 = .ok (.iand, 1) := by decide +kernel
theorem dX10_ones_16 : decode cX10_ones 16 = .ok (.iadd, 1) := by decide +kernel
theorem dX10_ones_17 : decode cX10_ones 17 = .ok (.istore_n 1, 1) := by decide +kernel
theorem dX10_ones_18 : decode cX10_ones 18 = .ok (.iinc 2 1, 3) := by decide +kernel
theorem dX10_ones_21 : decode cX10_ones 21 = .ok (.goto (-17), 3) := by decide +kernel
theorem dX10_ones_24 : decode cX10_ones 24 = .ok (.iload_n 1, 1) := by decide +kernel
theorem dX10_ones_25 : decode cX10_ones 25 = .ok (.ireturn, 1) := by decide +kernel
theorem dX10_write_0 : decode cX10_write 0 = .ok (.iload_n 1, 1) := by decide +kernel
theorem dX10_write_1 : decode cX10_write 1 = .ok (.i2l, 1) := by decide +kernel
theorem dX10_write_2 : decode cX10_write 2 = .ok (.lconst 0, 1) := by decide +kernel
theorem dX10_write_3 : decode cX10_write 3 = .ok (.ldc2_w 60, 3) := by decide +kernel
theorem dX10_write_6 : decode cX10_write 6 = .ok (.invokestatic 62, 3) := by decide +kernel
theorem dX10_write_9 : decode cX10_write 9 = .ok (.ifCond .ne 6, 3) := by decide +kernel
theorem dX10_write_12 : decode cX10_write 12 = .ok (.bipush (-2), 2) := by decide +kernel
theorem dX10_write_14 : decode cX10_write 14 = .ok (.ireturn, 1) := by decide +kernel
theorem dX10_write_15 : decode cX10_write 15 = .ok (.aload_n 0, 1) := by decide +kernel
theorem dX10_write_16 : decode cX10_write 16 = .ok (.getfield 66, 3) := by decide +kernel
theorem dX10_write_19 : decode cX10_write 19 = .ok (.bipush 32, 2) := by decide +kernel
theorem dX10_write_21 : decode cX10_write 21 = .ok (.if_icmp .ne 6, 3) := by decide +kernel
theorem dX10_write_24 : decode cX10_write 24 = .ok (.bipush (-4), 2) := by decide +kernel
theorem dX10_write_26 : decode cX10_write 26 = .ok (.ireturn, 1) := by decide +kernel
theorem dX10_write_27 : decode cX10_write 27 = .ok (.aload_n 0, 1) := by decide +kernel
theorem dX10_write_28 : decode cX10_write 28 = .ok (.getfield 19, 3) := by decide +kernel
theorem dX10_write_31 : decode cX10_write 31 = .ok (.aload_n 0, 1) := by decide +kernel
theorem dX10_write_32 : decode cX10_write 32 = .ok (.getfield 66, 3) := by decide +kernel
theorem dX10_write_35 : decode cX10_write 35 = .ok (.iload_n 1, 1) := by decide +kernel
theorem dX10_write_36 : decode cX10_write 36 = .ok (.iastore, 1) := by decide +kernel
theorem dX10_write_37 : decode cX10_write 37 = .ok (.aload_n 0, 1) := by decide +kernel
theorem dX10_write_38 : decode cX10_write 38 = .ok (.dup, 1) := by decide +kernel
theorem dX10_write_39 : decode cX10_write 39 = .ok (.getfield 66, 3) := by decide +kernel
theorem dX10_write_42 : decode cX10_write 42 = .ok (.iconst 1, 1) := by decide +kernel
theorem dX10_write_43 : decode cX10_write 43 = .ok (.iadd, 1) := by decide +kernel
theorem dX10_write_44 : decode cX10_write 44 = .ok (.putfield 66, 3) := by decide +kernel
theorem dX10_write_47 : decode cX10_write 47 = .ok (.aload_n 0, 1) := by decide +kernel
theorem dX10_write_48 : decode cX10_write 48 = .ok (.getfield 66, 3) := by decide +kernel
theorem dX10_write_51 : decode cX10_write 51 = .ok (.ireturn, 1) := by decide +kernel
theorem dX10_wipe_0 : decode cX10_wipe 0 = .ok (.aload_n 0, 1) := by decide +kernel
theorem dX10_wipe_1 : decode cX10_wipe 1 = .ok (.getfield 66, 3) := by decide +kernel
theorem dX10_wipe_4 : decode cX10_wipe 4 = .ok (.istore_n 1, 1) := by decide +kernel
theorem dX10_wipe_5 : decode cX10_wipe 5 = .ok (.aload_n 0, 1) := by decide +kernel
theorem dX10_wipe_6 : decode cX10_wipe 6 = .ok (.iconst 0, 1) := by decide +kernel
theorem dX10_wipe_7 : decode cX10_wipe 7 = .ok (.putfield 66, 3) := by decide +kernel
theorem dX10_wipe_10 : decode cX10_wipe 10 = .ok (.iload_n 1, 1) := by decide +kernel
theorem dX10_wipe_11 : decode cX10_wipe 11 = .ok (.ireturn, 1) := by decide +kernel
theorem dX10_fieldOf_0 : decode cX10_fieldOf 0 = .ok (.iload_n 0, 1) := by decide +kernel
theorem dX10_fieldOf_1 : decode cX10_fieldOf 1 = .ok (.lookupswitch 51 #[(45, 49), (97, 43), (98, 45), (118, 47)], 43) := by decide +kernel
theorem dX10_fieldOf_44 : decode cX10_fieldOf 44 = .ok (.iconst 0, 1) := by decide +kernel
theorem dX10_fieldOf_45 : decode cX10_fieldOf 45 = .ok (.ireturn, 1) := by decide +kernel
theorem dX10_fieldOf_46 : decode cX10_fieldOf 46 = .ok (.iconst 1, 1) := by decide +kernel
theorem dX10_fieldOf_47 : decode cX10_fieldOf 47 = .ok (.ireturn, 1) := by decide +kernel
theorem dX10_fieldOf_48 : decode cX10_fieldOf 48 = .ok (.iconst 2, 1) := by decide +kernel
theorem dX10_fieldOf_49 : decode cX10_fieldOf 49 = .ok (.ireturn, 1) := by decide +kernel
theorem dX10_fieldOf_50 : decode cX10_fieldOf 50 = .ok (.iconst 3, 1) := by decide +kernel
theorem dX10_fieldOf_51 : decode cX10_fieldOf 51 = .ok (.ireturn, 1) := by decide +kernel
theorem dX10_fieldOf_52 : decode cX10_fieldOf 52 = .ok (.bipush (-9), 2) := by decide +kernel
theorem dX10_fieldOf_54 : decode cX10_fieldOf 54 = .ok (.ireturn, 1) := by decide +kernel
theorem dX10_letterOf_0 : decode cX10_letterOf 0 = .ok (.bipush 10, 2) := by decide +kernel
theorem dX10_letterOf_2 : decode cX10_letterOf 2 = .ok (.iload_n 0, 1) := by decide +kernel
theorem dX10_letterOf_3 : decode cX10_letterOf 3 = .ok (.imul, 1) := by decide +kernel
theorem dX10_letterOf_4 : decode cX10_letterOf 4 = .ok (.iload_n 1, 1) := by decide +kernel
theorem dX10_letterOf_5 : decode cX10_letterOf 5 = .ok (.iadd, 1) := by decide +kernel
theorem dX10_letterOf_6 : decode cX10_letterOf 6 = .ok (.tableswitch 260 0 44 #[194, 197, 200, 203, 206, 260, 260, 260, 260, 260, 209, 212, 215, 260, 260, 260, 260, 260, 260, 260, 218, 221, 224, 227, 260, 260, 260, 260, 260, 260, 230, 233, 236, 239, 242, 260, 260, 260, 260, 260, 245, 248, 251, 254, 257], 194) := by decide +kernel
theorem dX10_letterOf_200 : decode cX10_letterOf 200 = .ok (.bipush 99, 2) := by decide +kernel
theorem dX10_letterOf_202 : decode cX10_letterOf 202 = .ok (.ireturn, 1) := by decide +kernel
theorem dX10_letterOf_203 : decode cX10_letterOf 203 = .ok (.bipush 111, 2) := by decide +kernel
theorem dX10_letterOf_205 : decode cX10_letterOf 205 = .ok (.ireturn, 1) := by decide +kernel
theorem dX10_letterOf_206 : decode cX10_letterOf 206 = .ok (.bipush 117, 2) := by decide +kernel
theorem dX10_letterOf_208 : decode cX10_letterOf 208 = .ok (.ireturn, 1) := by decide +kernel
theorem dX10_letterOf_209 : decode cX10_letterOf 209 = .ok (.bipush 110, 2) := by decide +kernel
theorem dX10_letterOf_211 : decode cX10_letterOf 211 = .ok (.ireturn, 1) := by decide +kernel
theorem dX10_letterOf_212 : decode cX10_letterOf 212 = .ok (.bipush 116, 2) := by decide +kernel
theorem dX10_letterOf_214 : decode cX10_letterOf 214 = .ok (.ireturn, 1) := by decide +kernel
theorem dX10_letterOf_215 : decode cX10_letterOf 215 = .ok (.bipush 115, 2) := by decide +kernel
theorem dX10_letterOf_217 : decode cX10_letterOf 217 = .ok (.ireturn, 1) := by decide +kernel
theorem dX10_letterOf_218 : decode cX10_letterOf 218 = .ok (.bipush 117, 2) := by decide +kernel
theorem dX10_letterOf_220 : decode cX10_letterOf 220 = .ok (.ireturn, 1) := by decide +kernel
theorem dX10_letterOf_221 : decode cX10_letterOf 221 = .ok (.bipush 109, 2) := by decide +kernel
theorem dX10_letterOf_223 : decode cX10_letterOf 223 = .ok (.ireturn, 1) := by decide +kernel
theorem dX10_letterOf_224 : decode cX10_letterOf 224 = .ok (.bipush 109, 2) := by decide +kernel
theorem dX10_letterOf_226 : decode cX10_letterOf 226 = .ok (.ireturn, 1) := by decide +kernel
theorem dX10_letterOf_227 : decode cX10_letterOf 227 = .ok (.bipush 111, 2) := by decide +kernel
theorem dX10_letterOf_229 : decode cX10_letterOf 229 = .ok (.ireturn, 1) := by decide +kernel
theorem dX10_letterOf_230 : decode cX10_letterOf 230 = .ok (.bipush 115, 2) := by decide +kernel
theorem dX10_letterOf_232 : decode cX10_letterOf 232 = .ok (.ireturn, 1) := by decide +kernel
theorem dX10_letterOf_233 : decode cX10_letterOf 233 = .ok (.bipush 116, 2) := by decide +kernel
theorem dX10_letterOf_235 : decode cX10_letterOf 235 = .ok (.ireturn, 1) := by decide +kernel
theorem dX10_letterOf_236 : decode cX10_letterOf 236 = .ok (.bipush 108, 2) := by decide +kernel
theorem dX10_letterOf_238 : decode cX10_letterOf 238 = .ok (.ireturn, 1) := by decide +kernel
theorem dX10_letterOf_239 : decode cX10_letterOf 239 = .ok (.bipush 101, 2) := by decide +kernel
theorem dX10_letterOf_241 : decode cX10_letterOf 241 = .ok (.ireturn, 1) := by decide +kernel
theorem dX10_letterOf_242 : decode cX10_letterOf 242 = .ok (.bipush 97, 2) := by decide +kernel
theorem dX10_letterOf_244 : decode cX10_letterOf 244 = .ok (.ireturn, 1) := by decide +kernel
theorem dX10_letterOf_245 : decode cX10_letterOf 245 = .ok (.bipush 115, 2) := by decide +kernel
theorem dX10_letterOf_247 : decode cX10_letterOf 247 = .ok (.ireturn, 1) := by decide +kernel
theorem dX10_letterOf_248 : decode cX10_letterOf 248 = .ok (.bipush 116, 2) := by decide +kernel
theorem dX10_letterOf_250 : decode cX10_letterOf 250 = .ok (.ireturn, 1) := by decide +kernel
theorem dX10_letterOf_251 : decode cX10_letterOf 251 = .ok (.bipush 107, 2) := by decide +kernel
theorem dX10_letterOf_253 : decode cX10_letterOf 253 = .ok (.ireturn, 1) := by decide +kernel
theorem dX10_letterOf_254 : decode cX10_letterOf 254 = .ok (.bipush 105, 2) := by decide +kernel
theorem dX10_letterOf_256 : decode cX10_letterOf 256 = .ok (.ireturn, 1) := by decide +kernel
theorem dX10_letterOf_257 : decode cX10_letterOf 257 = .ok (.bipush 110, 2) := by decide +kernel
theorem dX10_letterOf_259 : decode cX10_letterOf 259 = .ok (.ireturn, 1) := by decide +kernel
theorem dX10_letterOf_260 : decode cX10_letterOf 260 = .ok (.bipush 100, 2) := by decide +kernel
theorem dX10_letterOf_262 : decode cX10_letterOf 262 = .ok (.ireturn, 1) := by decide +kernel
theorem dX10_letterOf_263 : decode cX10_letterOf 263 = .ok (.bipush 115, 2) := by decide +kernel
theorem dX10_letterOf_265 : decode cX10_letterOf 265 = .ok (.ireturn, 1) := by decide +kernel
theorem dX10_letterOf_266 : decode cX10_letterOf 266 = .ok (.bipush (-9), 2) := by decide +kernel
theorem dX10_letterOf_268 : decode cX10_letterOf 268 = .ok (.ireturn, 1) := by decide +kernel
theorem dX10_readText_0 : decode cX10_readText 0 = .ok (.aload_n 0, 1) := by decide +kernel
theorem dX10_readText_1 : decode cX10_readText 1 = .ok (.getfield 66, 3) := by decide +kernel
theorem dX10_readText_4 : decode cX10_readText 4 = .ok (.ifCond .eq 23, 3) := by decide +kernel
theorem dX10_readText_7 : decode cX10_readText 7 = .ok (.aload_n 0, 1) := by decide +kernel
theorem dX10_readText_8 : decode cX10_readText 8 = .ok (.getfield 19, 3) := by decide +kernel
theorem dX10_readText_11 : decode cX10_readText 11 = .ok (.iconst 0, 1) := by decide +kernel
theorem dX10_readText_12 : decode cX10_readText 12 = .ok (.iaload, 1) := by decide +kernel
theorem dX10_readText_13 : decode cX10_readText 13 = .ok (.invokestatic 69, 3) := by decide +kernel
theorem dX10_readText_16 : decode cX10_readText 16 = .ok (.i2l, 1) := by decide +kernel
theorem dX10_readText_17 : decode cX10_readText 17 = .ok (.lconst 0, 1) := by decide +kernel
theorem dX10_readText_18 : decode cX10_readText 18 = .ok (.ldc2_w 73, 3) := by decide +kernel
theorem dX10_readText_21 : decode cX10_readText 21 = .ok (.invokestatic 62, 3) := by decide +kernel
theorem dX10_readText_24 : decode cX10_readText 24 = .ok (.ifCond .ne 5, 3) := by decide +kernel
theorem dX10_readText_27 : decode cX10_readText 27 = .ok (.iconst 0, 1) := by decide +kernel
theorem dX10_readText_28 : decode cX10_readText 28 = .ok (.ireturn, 1) := by decide +kernel
theorem dX10_readText_29 : decode cX10_readText 29 = .ok (.aload_n 0, 1) := by decide +kernel
theorem dX10_readText_30 : decode cX10_readText 30 = .ok (.aload_n 0, 1) := by decide +kernel
theorem dX10_readText_31 : decode cX10_readText 31 = .ok (.getfield 19, 3) := by decide +kernel
theorem dX10_readText_34 : decode cX10_readText 34 = .ok (.iconst 0, 1) := by decide +kernel
theorem dX10_readText_35 : decode cX10_readText 35 = .ok (.iaload, 1) := by decide +kernel
theorem dX10_readText_36 : decode cX10_readText 36 = .ok (.invokestatic 69, 3) := by decide +kernel
theorem dX10_readText_39 : decode cX10_readText 39 = .ok (.putfield 75, 3) := by decide +kernel
theorem dX10_readText_42 : decode cX10_readText 42 = .ok (.aload_n 0, 1) := by decide +kernel
theorem dX10_readText_43 : decode cX10_readText 43 = .ok (.getfield 66, 3) := by decide +kernel
theorem dX10_readText_46 : decode cX10_readText 46 = .ok (.iconst 1, 1) := by decide +kernel
theorem dX10_readText_47 : decode cX10_readText 47 = .ok (.if_icmp .eq 33, 3) := by decide +kernel
theorem dX10_readText_50 : decode cX10_readText 50 = .ok (.aload_n 0, 1) := by decide +kernel
theorem dX10_readText_51 : decode cX10_readText 51 = .ok (.getfield 19, 3) := by decide +kernel
theorem dX10_readText_54 : decode cX10_readText 54 = .ok (.iconst 1, 1) := by decide +kernel
theorem dX10_readText_55 : decode cX10_readText 55 = .ok (.iaload, 1) := by decide +kernel
theorem dX10_readText_56 : decode cX10_readText 56 = .ok (.invokestatic 69, 3) := by decide +kernel
theorem dX10_readText_59 : decode cX10_readText 59 = .ok (.bipush (-9), 2) := by decide +kernel
theorem dX10_readText_61 : decode cX10_readText 61 = .ok (.if_icmp .eq 19, 3) := by decide +kernel
theorem dX10_readText_64 : decode cX10_readText 64 = .ok (.aload_n 0, 1) := by decide +kernel
theorem dX10_readText_65 : decode cX10_readText 65 = .ok (.getfield 19, 3) := by decide +kernel
theorem dX10_readText_68 : decode cX10_readText 68 = .ok (.iconst 1, 1) := by decide +kernel
theorem dX10_readText_69 : decode cX10_readText 69 = .ok (.iaload, 1) := by decide +kernel
theorem dX10_readText_70 : decode cX10_readText 70 = .ok (.invokestatic 69, 3) := by decide +kernel
theorem dX10_readText_73 : decode cX10_readText 73 = .ok (.aload_n 0, 1) := by decide +kernel
theorem dX10_readText_74 : decode cX10_readText 74 = .ok (.getfield 75, 3) := by decide +kernel
theorem dX10_readText_77 : decode cX10_readText 77 = .ok (.if_icmp .ne 5, 3) := by decide +kernel
theorem dX10_readText_80 : decode cX10_readText 80 = .ok (.iconst 1, 1) := by decide +kernel
theorem dX10_readText_81 : decode cX10_readText 81 = .ok (.ireturn, 1) := by decide +kernel
theorem dX10_readText_82 : decode cX10_readText 82 = .ok (.aload_n 0, 1) := by decide +kernel
theorem dX10_readText_83 : decode cX10_readText 83 = .ok (.aload_n 0, 1) := by decide +kernel
theorem dX10_readText_84 : decode cX10_readText 84 = .ok (.getfield 19, 3) := by decide +kernel
theorem dX10_readText_87 : decode cX10_readText 87 = .ok (.iconst 1, 1) := by decide +kernel
theorem dX10_readText_88 : decode cX10_readText 88 = .ok (.iaload, 1) := by decide +kernel
theorem dX10_readText_89 : decode cX10_readText 89 = .ok (.invokestatic 69, 3) := by decide +kernel
theorem dX10_readText_92 : decode cX10_readText 92 = .ok (.putfield 78, 3) := by decide +kernel
theorem dX10_readText_95 : decode cX10_readText 95 = .ok (.aload_n 0, 1) := by decide +kernel
theorem dX10_readText_96 : decode cX10_readText 96 = .ok (.bipush (-9), 2) := by decide +kernel
theorem dX10_readText_98 : decode cX10_readText 98 = .ok (.putfield 81, 3) := by decide +kernel
theorem dX10_readText_101 : decode cX10_readText 101 = .ok (.iconst 0, 1) := by decide +kernel
theorem dX10_readText_102 : decode cX10_readText 102 = .ok (.istore_n 1, 1) := by decide +kernel
theorem dX10_readText_103 : decode cX10_readText 103 = .ok (.iload_n 1, 1) := by decide +kernel
theorem dX10_readText_104 : decode cX10_readText 104 = .ok (.iconst 5, 1) := by decide +kernel
theorem dX10_readText_105 : decode cX10_readText 105 = .ok (.if_icmp .ge 43, 3) := by decide +kernel
theorem dX10_readText_108 : decode cX10_readText 108 = .ok (.aload_n 0, 1) := by decide +kernel
theorem dX10_readText_109 : decode cX10_readText 109 = .ok (.aload_n 0, 1) := by decide +kernel
theorem dX10_readText_110 : decode cX10_readText 110 = .ok (.getfield 66, 3) := by decide +kernel
theorem dX10_readText_113 : decode cX10_readText 113 = .ok (.iconst 2, 1) := by decide +kernel
theorem dX10_readText_114 : decode cX10_readText 114 = .ok (.if_icmp .le 21, 3) := by decide +kernel
theorem dX10_readText_117 : decode cX10_readText 117 = .ok (.iload_n 1, 1) := by decide +kernel
theorem dX10_readText_118 : decode cX10_readText 118 = .ok (.iconst 0, 1) := by decide +kernel
theorem dX10_readText_119 : decode cX10_readText 119 = .ok (.invokestatic 84, 3) := by decide +kernel
theorem dX10_readText_122 : decode cX10_readText 122 = .ok (.aload_n 0, 1) := by decide +kernel
theorem dX10_readText_123 : decode cX10_readText 123 = .ok (.getfield 19, 3) := by decide +kernel
theorem dX10_readText_126 : decode cX10_readText 126 = .ok (.iconst 2, 1) := by decide +kernel
theorem dX10_readText_127 : decode cX10_readText 127 = .ok (.iaload, 1) := by decide +kernel
theorem dX10_readText_128 : decode cX10_readText 128 = .ok (.if_icmp .ne 7, 3) := by decide +kernel
theorem dX10_readText_131 : decode cX10_readText 131 = .ok (.iload_n 1, 1) := by decide +kernel
theorem dX10_readText_132 : decode cX10_readText 132 = .ok (.goto 7, 3) := by decide +kernel
theorem dX10_readText_135 : decode cX10_readText 135 = .ok (.aload_n 0, 1) := by decide +kernel
theorem dX10_readText_136 : decode cX10_readText 136 = .ok (.getfield 81, 3) := by decide +kernel
theorem dX10_readText_139 : decode cX10_readText 139 = .ok (.putfield 81, 3) := by decide +kernel
theorem dX10_readText_142 : decode cX10_readText 142 = .ok (.iinc 1 1, 3) := by decide +kernel
theorem dX10_readText_145 : decode cX10_readText 145 = .ok (.goto (-42), 3) := by decide +kernel
theorem dX10_readText_148 : decode cX10_readText 148 = .ok (.aload_n 0, 1) := by decide +kernel
theorem dX10_readText_149 : decode cX10_readText 149 = .ok (.getfield 81, 3) := by decide +kernel
theorem dX10_readText_152 : decode cX10_readText 152 = .ok (.bipush (-9), 2) := by decide +kernel
theorem dX10_readText_154 : decode cX10_readText 154 = .ok (.if_icmp .ne 5, 3) := by decide +kernel
theorem dX10_readText_157 : decode cX10_readText 157 = .ok (.iconst 2, 1) := by decide +kernel
theorem dX10_readText_158 : decode cX10_readText 158 = .ok (.ireturn, 1) := by decide +kernel
theorem dX10_readText_159 : decode cX10_readText 159 = .ok (.iconst 2, 1) := by decide +kernel
theorem dX10_readText_160 : decode cX10_readText 160 = .ok (.istore_n 1, 1) := by decide +kernel
theorem dX10_readText_161 : decode cX10_readText 161 = .ok (.aload_n 0, 1) := by decide +kernel
theorem dX10_readText_162 : decode cX10_readText 162 = .ok (.getfield 81, 3) := by decide +kernel
theorem dX10_readText_165 : decode cX10_readText 165 = .ok (.iload_n 1, 1) := by decide +kernel
theorem dX10_readText_166 : decode cX10_readText 166 = .ok (.iconst 2, 1) := by decide +kernel
theorem dX10_readText_167 : decode cX10_readText 167 = .ok (.isub, 1) := by decide +kernel
theorem dX10_readText_168 : decode cX10_readText 168 = .ok (.invokestatic 84, 3) := by decide +kernel
theorem dX10_readText_171 : decode cX10_readText 171 = .ok (.bipush (-9), 2) := by decide +kernel
theorem dX10_readText_173 : decode cX10_readText 173 = .ok (.if_icmp .eq 38, 3) := by decide +kernel
theorem dX10_readText_176 : decode cX10_readText 176 = .ok (.iload_n 1, 1) := by decide +kernel
theorem dX10_readText_177 : decode cX10_readText 177 = .ok (.aload_n 0, 1) := by decide +kernel
theorem dX10_readText_178 : decode cX10_readText 178 = .ok (.getfield 66, 3) := by decide +kernel
theorem dX10_readText_181 : decode cX10_readText 181 = .ok (.if_icmp .ge 22, 3) := by decide +kernel
theorem dX10_readText_184 : decode cX10_readText 184 = .ok (.aload_n 0, 1) := by decide +kernel
theorem dX10_readText_185 : decode cX10_readText 185 = .ok (.getfield 19, 3) := by decide +kernel
theorem dX10_readText_188 : decode cX10_readText 188 = .ok (.iload_n 1, 1) := by decide +kernel
theorem dX10_readText_189 : decode cX10_readText 189 = .ok (.iaload, 1) := by decide +kernel
theorem dX10_readText_190 : decode cX10_readText 190 = .ok (.aload_n 0, 1) := by decide +kernel
theorem dX10_readText_191 : decode cX10_readText 191 = .ok (.getfield 81, 3) := by decide +kernel
theorem dX10_readText_194 : decode cX10_readText 194 = .ok (.iload_n 1, 1) := by decide +kernel
theorem dX10_readText_195 : decode cX10_readText 195 = .ok (.iconst 2, 1) := by decide +kernel
theorem dX10_readText_196 : decode cX10_readText 196 = .ok (.isub, 1) := by decide +kernel
theorem dX10_readText_197 : decode cX10_readText 197 = .ok (.invokestatic 84, 3) := by decide +kernel
theorem dX10_readText_200 : decode cX10_readText 200 = .ok (.if_icmp .eq 5, 3) := by decide +kernel
theorem dX10_readText_203 : decode cX10_readText 203 = .ok (.iload_n 1, 1) := by decide +kernel
theorem dX10_readText_204 : decode cX10_readText 204 = .ok (.ireturn, 1) := by decide +kernel
theorem dX10_readText_205 : decode cX10_readText 205 = .ok (.iinc 1 1, 3) := by decide +kernel
theorem dX10_readText_208 : decode cX10_readText 208 = .ok (.goto (-47), 3) := by decide +kernel
theorem dX10_readText_211 : decode cX10_readText 211 = .ok (.aload_n 0, 1) := by decide +kernel
theorem dX10_readText_212 : decode cX10_readText 212 = .ok (.iload_n 1, 1) := by decide +kernel
theorem dX10_readText_213 : decode cX10_readText 213 = .ok (.invokevirtual 88, 3) := by decide +kernel
theorem dX10_readText_216 : decode cX10_readText 216 = .ok (.ireturn, 1) := by decide +kernel
theorem dX10_readEnd_0 : decode cX10_readEnd 0 = .ok (.iload_n 1, 1) := by decide +kernel
theorem dX10_readEnd_1 : decode cX10_readEnd 1 = .ok (.aload_n 0, 1) := by decide +kernel
theorem dX10_readEnd_2 : decode cX10_readEnd 2 = .ok (.getfield 66, 3) := by decide +kernel
theorem dX10_readEnd_5 : decode cX10_readEnd 5 = .ok (.if_icmp .ge 14, 3) := by decide +kernel
theorem dX10_readEnd_8 : decode cX10_readEnd 8 = .ok (.aload_n 0, 1) := by decide +kernel
theorem dX10_readEnd_9 : decode cX10_readEnd 9 = .ok (.getfield 19, 3) := by decide +kernel
theorem dX10_readEnd_12 : decode cX10_readEnd 12 = .ok (.iload_n 1, 1) := by decide +kernel
theorem dX10_readEnd_13 : decode cX10_readEnd 13 = .ok (.iaload, 1) := by decide +kernel
theorem dX10_readEnd_14 : decode cX10_readEnd 14 = .ok (.bipush 46, 2) := by decide +kernel
theorem dX10_readEnd_16 : decode cX10_readEnd 16 = .ok (.if_icmp .eq 5, 3) := by decide +kernel
theorem dX10_readEnd_19 : decode cX10_readEnd 19 = .ok (.iload_n 1, 1) := by decide +kernel
theorem dX10_readEnd_20 : decode cX10_readEnd 20 = .ok (.ireturn, 1) := by decide +kernel
theorem dX10_readEnd_21 : decode cX10_readEnd 21 = .ok (.iload_n 1, 1) := by decide +kernel
theorem dX10_readEnd_22 : decode cX10_readEnd 22 = .ok (.iconst 1, 1) := by decide +kernel
theorem dX10_readEnd_23 : decode cX10_readEnd 23 = .ok (.iadd, 1) := by decide +kernel
theorem dX10_readEnd_24 : decode cX10_readEnd 24 = .ok (.aload_n 0, 1) := by decide +kernel
theorem dX10_readEnd_25 : decode cX10_readEnd 25 = .ok (.getfield 66, 3) := by decide +kernel
theorem dX10_readEnd_28 : decode cX10_readEnd 28 = .ok (.if_icmp .ge 24, 3) := by decide +kernel
theorem dX10_readEnd_31 : decode cX10_readEnd 31 = .ok (.aload_n 0, 1) := by decide +kernel
theorem dX10_readEnd_32 : decode cX10_readEnd 32 = .ok (.getfield 19, 3) := by decide +kernel
theorem dX10_readEnd_35 : decode cX10_readEnd 35 = .ok (.iload_n 1, 1) := by decide +kernel
theorem dX10_readEnd_36 : decode cX10_readEnd 36 = .ok (.iconst 1, 1) := by decide +kernel
theorem dX10_readEnd_37 : decode cX10_readEnd 37 = .ok (.iadd, 1) := by decide +kernel
theorem dX10_readEnd_38 : decode cX10_readEnd 38 = .ok (.iaload, 1) := by decide +kernel
theorem dX10_readEnd_39 : decode cX10_readEnd 39 = .ok (.i2l, 1) := by decide +kernel
theorem dX10_readEnd_40 : decode cX10_readEnd 40 = .ok (.ldc2_w 91, 3) := by decide +kernel
theorem dX10_readEnd_43 : decode cX10_readEnd 43 = .ok (.ldc2_w 93, 3) := by decide +kernel
theorem dX10_readEnd_46 : decode cX10_readEnd 46 = .ok (.invokestatic 62, 3) := by decide +kernel
theorem dX10_readEnd_49 : decode cX10_readEnd 49 = .ok (.ifCond .ne 7, 3) := by decide +kernel
theorem dX10_readEnd_52 : decode cX10_readEnd 52 = .ok (.iload_n 1, 1) := by decide +kernel
theorem dX10_readEnd_53 : decode cX10_readEnd 53 = .ok (.iconst 1, 1) := by decide +kernel
theorem dX10_readEnd_54 : decode cX10_readEnd 54 = .ok (.iadd, 1) := by decide +kernel
theorem dX10_readEnd_55 : decode cX10_readEnd 55 = .ok (.ireturn, 1) := by decide +kernel
theorem dX10_readEnd_56 : decode cX10_readEnd 56 = .ok (.iload_n 1, 1) := by decide +kernel
theorem dX10_readEnd_57 : decode cX10_readEnd 57 = .ok (.iconst 2, 1) := by decide +kernel
theorem dX10_readEnd_58 : decode cX10_readEnd 58 = .ok (.iadd, 1) := by decide +kernel
theorem dX10_readEnd_59 : decode cX10_readEnd 59 = .ok (.aload_n 0, 1) := by decide +kernel
theorem dX10_readEnd_60 : decode cX10_readEnd 60 = .ok (.getfield 66, 3) := by decide +kernel
theorem dX10_readEnd_63 : decode cX10_readEnd 63 = .ok (.if_icmp .ge 24, 3) := by decide +kernel
theorem dX10_readEnd_66 : decode cX10_readEnd 66 = .ok (.aload_n 0, 1) := by decide +kernel
theorem dX10_readEnd_67 : decode cX10_readEnd 67 = .ok (.getfield 19, 3) := by decide +kernel
theorem dX10_readEnd_70 : decode cX10_readEnd 70 = .ok (.iload_n 1, 1) := by decide +kernel
theorem dX10_readEnd_71 : decode cX10_readEnd 71 = .ok (.iconst 2, 1) := by decide +kernel
theorem dX10_readEnd_72 : decode cX10_readEnd 72 = .ok (.iadd, 1) := by decide +kernel
theorem dX10_readEnd_73 : decode cX10_readEnd 73 = .ok (.iaload, 1) := by decide +kernel
theorem dX10_readEnd_74 : decode cX10_readEnd 74 = .ok (.i2l, 1) := by decide +kernel
theorem dX10_readEnd_75 : decode cX10_readEnd 75 = .ok (.ldc2_w 95, 3) := by decide +kernel
theorem dX10_readEnd_78 : decode cX10_readEnd 78 = .ok (.ldc2_w 97, 3) := by decide +kernel
theorem dX10_readEnd_81 : decode cX10_readEnd 81 = .ok (.invokestatic 62, 3) := by decide +kernel
theorem dX10_readEnd_84 : decode cX10_readEnd 84 = .ok (.ifCond .ne 7, 3) := by decide +kernel
theorem dX10_readEnd_87 : decode cX10_readEnd 87 = .ok (.iload_n 1, 1) := by decide +kernel
theorem dX10_readEnd_88 : decode cX10_readEnd 88 = .ok (.iconst 2, 1) := by decide +kernel
theorem dX10_readEnd_89 : decode cX10_readEnd 89 = .ok (.iadd, 1) := by decide +kernel
theorem dX10_readEnd_90 : decode cX10_readEnd 90 = .ok (.ireturn, 1) := by decide +kernel
theorem dX10_readEnd_91 : decode cX10_readEnd 91 = .ok (.aload_n 0, 1) := by decide +kernel
theorem dX10_readEnd_92 : decode cX10_readEnd 92 = .ok (.aload_n 0, 1) := by decide +kernel
theorem dX10_readEnd_93 : decode cX10_readEnd 93 = .ok (.getfield 19, 3) := by decide +kernel
theorem dX10_readEnd_96 : decode cX10_readEnd 96 = .ok (.iload_n 1, 1) := by decide +kernel
theorem dX10_readEnd_97 : decode cX10_readEnd 97 = .ok (.iconst 1, 1) := by decide +kernel
theorem dX10_readEnd_98 : decode cX10_readEnd 98 = .ok (.iadd, 1) := by decide +kernel
theorem dX10_readEnd_99 : decode cX10_readEnd 99 = .ok (.iaload, 1) := by decide +kernel
theorem dX10_readEnd_100 : decode cX10_readEnd 100 = .ok (.bipush 48, 2) := by decide +kernel
theorem dX10_readEnd_102 : decode cX10_readEnd 102 = .ok (.isub, 1) := by decide +kernel
theorem dX10_readEnd_103 : decode cX10_readEnd 103 = .ok (.putfield 99, 3) := by decide +kernel
theorem dX10_readEnd_106 : decode cX10_readEnd 106 = .ok (.aload_n 0, 1) := by decide +kernel
theorem dX10_readEnd_107 : decode cX10_readEnd 107 = .ok (.aload_n 0, 1) := by decide +kernel
theorem dX10_readEnd_108 : decode cX10_readEnd 108 = .ok (.getfield 19, 3) := by decide +kernel
theorem dX10_readEnd_111 : decode cX10_readEnd 111 = .ok (.iload_n 1, 1) := by decide +kernel
theorem dX10_readEnd_112 : decode cX10_readEnd 112 = .ok (.iconst 2, 1) := by decide +kernel
theorem dX10_readEnd_113 : decode cX10_readEnd 113 = .ok (.iadd, 1) := by decide +kernel
theorem dX10_readEnd_114 : decode cX10_readEnd 114 = .ok (.iaload, 1) := by decide +kernel
theorem dX10_readEnd_115 : decode cX10_readEnd 115 = .ok (.bipush 48, 2) := by decide +kernel
theorem dX10_readEnd_117 : decode cX10_readEnd 117 = .ok (.isub, 1) := by decide +kernel
theorem dX10_readEnd_118 : decode cX10_readEnd 118 = .ok (.putfield 102, 3) := by decide +kernel
theorem dX10_readEnd_121 : decode cX10_readEnd 121 = .ok (.iload_n 1, 1) := by decide +kernel
theorem dX10_readEnd_122 : decode cX10_readEnd 122 = .ok (.iconst 3, 1) := by decide +kernel
theorem dX10_readEnd_123 : decode cX10_readEnd 123 = .ok (.iadd, 1) := by decide +kernel
theorem dX10_readEnd_124 : decode cX10_readEnd 124 = .ok (.aload_n 0, 1) := by decide +kernel
theorem dX10_readEnd_125 : decode cX10_readEnd 125 = .ok (.getfield 66, 3) := by decide +kernel
theorem dX10_readEnd_128 : decode cX10_readEnd 128 = .ok (.if_icmp .ge 9, 3) := by decide +kernel
theorem dX10_readEnd_131 : decode cX10_readEnd 131 = .ok (.iload_n 1, 1) := by decide +kernel
theorem dX10_readEnd_132 : decode cX10_readEnd 132 = .ok (.iconst 3, 1) := by decide +kernel
theorem dX10_readEnd_133 : decode cX10_readEnd 133 = .ok (.iadd, 1) := by decide +kernel
theorem dX10_readEnd_134 : decode cX10_readEnd 134 = .ok (.goto 5, 3) := by decide +kernel
theorem dX10_readEnd_137 : decode cX10_readEnd 137 = .ok (.bipush (-9), 2) := by decide +kernel
theorem dX10_readEnd_139 : decode cX10_readEnd 139 = .ok (.ireturn, 1) := by decide +kernel
theorem dX10_fault_0 : decode cX10_fault 0 = .ok (.aload_n 0, 1) := by decide +kernel
theorem dX10_fault_1 : decode cX10_fault 1 = .ok (.invokevirtual 105, 3) := by decide +kernel
theorem dX10_fault_4 : decode cX10_fault 4 = .ok (.ireturn, 1) := by decide +kernel
theorem dX10_plan_0 : decode cX10_plan 0 = .ok (.aload_n 0, 1) := by decide +kernel
theorem dX10_plan_1 : decode cX10_plan 1 = .ok (.invokevirtual 105, 3) := by decide +kernel
theorem dX10_plan_4 : decode cX10_plan 4 = .ok (.bipush (-9), 2) := by decide +kernel
theorem dX10_plan_6 : decode cX10_plan 6 = .ok (.if_icmp .eq 6, 3) := by decide +kernel
theorem dX10_plan_9 : decode cX10_plan 9 = .ok (.bipush (-3), 2) := by decide +kernel
theorem dX10_plan_11 : decode cX10_plan 11 = .ok (.ireturn, 1) := by decide +kernel
theorem dX10_plan_12 : decode cX10_plan 12 = .ok (.aload_n 0, 1) := by decide +kernel
theorem dX10_plan_13 : decode cX10_plan 13 = .ok (.aload_n 0, 1) := by decide +kernel
theorem dX10_plan_14 : decode cX10_plan 14 = .ok (.getfield 75, 3) := by decide +kernel
theorem dX10_plan_17 : decode cX10_plan 17 = .ok (.putfield 9, 3) := by decide +kernel
theorem dX10_plan_20 : decode cX10_plan 20 = .ok (.aload_n 0, 1) := by decide +kernel
theorem dX10_plan_21 : decode cX10_plan 21 = .ok (.aload_n 0, 1) := by decide +kernel
theorem dX10_plan_22 : decode cX10_plan 22 = .ok (.getfield 78, 3) := by decide +kernel
theorem dX10_plan_25 : decode cX10_plan 25 = .ok (.putfield 13, 3) := by decide +kernel
theorem dX10_plan_28 : decode cX10_plan 28 = .ok (.aload_n 0, 1) := by decide +kernel
theorem dX10_plan_29 : decode cX10_plan 29 = .ok (.aload_n 0, 1) := by decide +kernel
theorem dX10_plan_30 : decode cX10_plan 30 = .ok (.getfield 81, 3) := by decide +kernel
theorem dX10_plan_33 : decode cX10_plan 33 = .ok (.putfield 109, 3) := by decide +kernel
theorem dX10_plan_36 : decode cX10_plan 36 = .ok (.aload_n 0, 1) := by decide +kernel
theorem dX10_plan_37 : decode cX10_plan 37 = .ok (.aload_n 0, 1) := by decide +kernel
theorem dX10_plan_38 : decode cX10_plan 38 = .ok (.getfield 99, 3) := by decide +kernel
theorem dX10_plan_41 : decode cX10_plan 41 = .ok (.putfield 112, 3) := by decide +kernel
theorem dX10_plan_44 : decode cX10_plan 44 = .ok (.aload_n 0, 1) := by decide +kernel
theorem dX10_plan_45 : decode cX10_plan 45 = .ok (.aload_n 0, 1) := by decide +kernel
theorem dX10_plan_46 : decode cX10_plan 46 = .ok (.getfield 102, 3) := by decide +kernel
theorem dX10_plan_49 : decode cX10_plan 49 = .ok (.putfield 16, 3) := by decide +kernel
theorem dX10_plan_52 : decode cX10_plan 52 = .ok (.aload_n 0, 1) := by decide +kernel
theorem dX10_plan_53 : decode cX10_plan 53 = .ok (.iconst 0, 1) := by decide +kernel
theorem dX10_plan_54 : decode cX10_plan 54 = .ok (.invokevirtual 115, 3) := by decide +kernel
theorem dX10_plan_57 : decode cX10_plan 57 = .ok (.aload_n 0, 1) := by decide +kernel
theorem dX10_plan_58 : decode cX10_plan 58 = .ok (.getfield 119, 3) := by decide +kernel
theorem dX10_plan_61 : decode cX10_plan 61 = .ok (.ireturn, 1) := by decide +kernel
theorem dX10_word_0 : decode cX10_word 0 = .ok (.iload_n 1, 1) := by decide +kernel
theorem dX10_word_1 : decode cX10_word 1 = .ok (.i2l, 1) := by decide +kernel
theorem dX10_word_2 : decode cX10_word 2 = .ok (.lconst 0, 1) := by decide +kernel
theorem dX10_word_3 : decode cX10_word 3 = .ok (.ldc2_w 122, 3) := by decide +kernel
theorem dX10_word_6 : decode cX10_word 6 = .ok (.invokestatic 62, 3) := by decide +kernel
theorem dX10_word_9 : decode cX10_word 9 = .ok (.ifCond .eq 14, 3) := by decide +kernel
theorem dX10_word_12 : decode cX10_word 12 = .ok (.aload_n 0, 1) := by decide +kernel
theorem dX10_word_13 : decode cX10_word 13 = .ok (.getfield 109, 3) := by decide +kernel
theorem dX10_word_16 : decode cX10_word 16 = .ok (.iload_n 1, 1) := by decide +kernel
theorem dX10_word_17 : decode cX10_word 17 = .ok (.invokestatic 84, 3) := by decide +kernel
theorem dX10_word_20 : decode cX10_word 20 = .ok (.goto 5, 3) := by decide +kernel
theorem dX10_word_23 : decode cX10_word 23 = .ok (.bipush (-9), 2) := by decide +kernel
theorem dX10_word_25 : decode cX10_word 25 = .ok (.ireturn, 1) := by decide +kernel
theorem dX10_many_0 : decode cX10_many 0 = .ok (.aload_n 0, 1) := by decide +kernel
theorem dX10_many_1 : decode cX10_many 1 = .ok (.getfield 23, 3) := by decide +kernel
theorem dX10_many_4 : decode cX10_many 4 = .ok (.bipush 17, 2) := by decide +kernel
theorem dX10_many_6 : decode cX10_many 6 = .ok (.iload_n 1, 1) := by decide +kernel
theorem dX10_many_7 : decode cX10_many 7 = .ok (.imul, 1) := by decide +kernel
theorem dX10_many_8 : decode cX10_many 8 = .ok (.iaload, 1) := by decide +kernel
theorem dX10_many_9 : decode cX10_many 9 = .ok (.ireturn, 1) := by decide +kernel
theorem dX10_at_0 : decode cX10_at 0 = .ok (.aload_n 0, 1) := by decide +kernel
theorem dX10_at_1 : decode cX10_at 1 = .ok (.getfield 23, 3) := by decide +kernel
theorem dX10_at_4 : decode cX10_at 4 = .ok (.bipush 17, 2) := by decide +kernel
theorem dX10_at_6 : decode cX10_at 6 = .ok (.iload_n 1, 1) := by decide +kernel
theorem dX10_at_7 : decode cX10_at 7 = .ok (.imul, 1) := by decide +kernel
theorem dX10_at_8 : decode cX10_at 8 = .ok (.iconst 1, 1) := by decide +kernel
theorem dX10_at_9 : decode cX10_at 9 = .ok (.iadd, 1) := by decide +kernel
theorem dX10_at_10 : decode cX10_at 10 = .ok (.iload_n 2, 1) := by decide +kernel
theorem dX10_at_11 : decode cX10_at 11 = .ok (.iadd, 1) := by decide +kernel
theorem dX10_at_12 : decode cX10_at 12 = .ok (.iaload, 1) := by decide +kernel
theorem dX10_at_13 : decode cX10_at 13 = .ok (.ireturn, 1) := by decide +kernel
theorem dX10_amountOf_0 : decode cX10_amountOf 0 = .ok (.aload_n 0, 1) := by decide +kernel
theorem dX10_amountOf_1 : decode cX10_amountOf 1 = .ok (.iload_n 1, 1) := by decide +kernel
theorem dX10_amountOf_2 : decode cX10_amountOf 2 = .ok (.iload_n 2, 1) := by decide +kernel
theorem dX10_amountOf_3 : decode cX10_amountOf 3 = .ok (.invokevirtual 124, 3) := by decide +kernel
theorem dX10_amountOf_6 : decode cX10_amountOf 6 = .ok (.sipush 1000, 3) := by decide +kernel
theorem dX10_amountOf_9 : decode cX10_amountOf 9 = .ok (.irem, 1) := by decide +kernel
theorem dX10_amountOf_10 : decode cX10_amountOf 10 = .ok (.ireturn, 1) := by decide +kernel
theorem dX10_keyOf_0 : decode cX10_keyOf 0 = .ok (.aload_n 0, 1) := by decide +kernel
theorem dX10_keyOf_1 : decode cX10_keyOf 1 = .ok (.iload_n 1, 1) := by decide +kernel
theorem dX10_keyOf_2 : decode cX10_keyOf 2 = .ok (.iload_n 2, 1) := by decide +kernel
theorem dX10_keyOf_3 : decode cX10_keyOf 3 = .ok (.invokevirtual 124, 3) := by decide +kernel
theorem dX10_keyOf_6 : decode cX10_keyOf 6 = .ok (.istore 4, 2) := by decide +kernel
theorem dX10_keyOf_8 : decode cX10_keyOf 8 = .ok (.iload_n 3, 1) := by decide +kernel
theorem dX10_keyOf_9 : decode cX10_keyOf 9 = .ok (.tableswitch 74 0 2 #[27, 34, 44], 27) := by decide +kernel
theorem dX10_keyOf_36 : decode cX10_keyOf 36 = .ok (.iload 4, 2) := by decide +kernel
theorem dX10_keyOf_38 : decode cX10_keyOf 38 = .ok (.sipush 10000, 3) := by decide +kernel
theorem dX10_keyOf_41 : decode cX10_keyOf 41 = .ok (.idiv, 1) := by decide +kernel
theorem dX10_keyOf_42 : decode cX10_keyOf 42 = .ok (.ireturn, 1) := by decide +kernel
theorem dX10_keyOf_43 : decode cX10_keyOf 43 = .ok (.iload 4, 2) := by decide +kernel
theorem dX10_keyOf_45 : decode cX10_keyOf 45 = .ok (.sipush 1000, 3) := by decide +kernel
theorem dX10_keyOf_48 : decode cX10_keyOf 48 = .ok (.idiv, 1) := by decide +kernel
theorem dX10_keyOf_49 : decode cX10_keyOf 49 = .ok (.bipush 10, 2) := by decide +kernel
theorem dX10_keyOf_51 : decode cX10_keyOf 51 = .ok (.irem, 1) := by decide +kernel
theorem dX10_keyOf_52 : decode cX10_keyOf 52 = .ok (.ireturn, 1) := by decide +kernel
theorem dX10_keyOf_53 : decode cX10_keyOf 53 = .ok (.iload 4, 2) := by decide +kernel
theorem dX10_keyOf_55 : decode cX10_keyOf 55 = .ok (.sipush 1000, 3) := by decide +kernel
theorem dX10_keyOf_58 : decode cX10_keyOf 58 = .ok (.irem, 1) := by decide +kernel
theorem dX10_keyOf_59 : decode cX10_keyOf 59 = .ok (.bipush 100, 2) := by decide +kernel
theorem dX10_keyOf_61 : decode cX10_keyOf 61 = .ok (.if_icmp .ne 8, 3) := by decide +kernel
theorem dX10_keyOf_64 : decode cX10_keyOf 64 = .ok (.bipush 20, 2) := by decide +kernel
theorem dX10_keyOf_66 : decode cX10_keyOf 66 = .ok (.goto 16, 3) := by decide +kernel
theorem dX10_keyOf_69 : decode cX10_keyOf 69 = .ok (.iload 4, 2) := by decide +kernel
theorem dX10_keyOf_71 : decode cX10_keyOf 71 = .ok (.sipush 1000, 3) := by decide +kernel
theorem dX10_keyOf_74 : decode cX10_keyOf 74 = .ok (.irem, 1) := by decide +kernel
theorem dX10_keyOf_75 : decode cX10_keyOf 75 = .ok (.iconst 5, 1) := by decide +kernel
theorem dX10_keyOf_76 : decode cX10_keyOf 76 = .ok (.aload_n 0, 1) := by decide +kernel
theorem dX10_keyOf_77 : decode cX10_keyOf 77 = .ok (.getfield 16, 3) := by decide +kernel
theorem dX10_keyOf_80 : decode cX10_keyOf 80 = .ok (.imul, 1) := by decide +kernel
theorem dX10_keyOf_81 : decode cX10_keyOf 81 = .ok (.idiv, 1) := by decide +kernel
theorem dX10_keyOf_82 : decode cX10_keyOf 82 = .ok (.ireturn, 1) := by decide +kernel
theorem dX10_keyOf_83 : decode cX10_keyOf 83 = .ok (.iconst 0, 1) := by decide +kernel
theorem dX10_keyOf_84 : decode cX10_keyOf 84 = .ok (.ireturn, 1) := by decide +kernel
theorem dX10_addOn_0 : decode cX10_addOn 0 = .ok (.aload_n 0, 1) := by decide +kernel
theorem dX10_addOn_1 : decode cX10_addOn 1 = .ok (.getfield 23, 3) := by decide +kernel
theorem dX10_addOn_4 : decode cX10_addOn 4 = .ok (.bipush 17, 2) := by decide +kernel
theorem dX10_addOn_6 : decode cX10_addOn 6 = .ok (.iload_n 1, 1) := by decide +kernel
theorem dX10_addOn_7 : decode cX10_addOn 7 = .ok (.imul, 1) := by decide +kernel
theorem dX10_addOn_8 : decode cX10_addOn 8 = .ok (.iconst 1, 1) := by decide +kernel
theorem dX10_addOn_9 : decode cX10_addOn 9 = .ok (.iadd, 1) := by decide +kernel
theorem dX10_addOn_10 : decode cX10_addOn 10 = .ok (.aload_n 0, 1) := by decide +kernel
theorem dX10_addOn_11 : decode cX10_addOn 11 = .ok (.iload_n 1, 1) := by decide +kernel
theorem dX10_addOn_12 : decode cX10_addOn 12 = .ok (.invokevirtual 127, 3) := by decide +kernel
theorem dX10_addOn_15 : decode cX10_addOn 15 = .ok (.iadd, 1) := by decide +kernel
theorem dX10_addOn_16 : decode cX10_addOn 16 = .ok (.iload_n 2, 1) := by decide +kernel
theorem dX10_addOn_17 : decode cX10_addOn 17 = .ok (.iastore, 1) := by decide +kernel
theorem dX10_addOn_18 : decode cX10_addOn 18 = .ok (.aload_n 0, 1) := by decide +kernel
theorem dX10_addOn_19 : decode cX10_addOn 19 = .ok (.getfield 23, 3) := by decide +kernel
theorem dX10_addOn_22 : decode cX10_addOn 22 = .ok (.bipush 17, 2) := by decide +kernel
theorem dX10_addOn_24 : decode cX10_addOn 24 = .ok (.iload_n 1, 1) := by decide +kernel
theorem dX10_addOn_25 : decode cX10_addOn 25 = .ok (.imul, 1) := by decide +kernel
theorem dX10_addOn_26 : decode cX10_addOn 26 = .ok (.dup2, 1) := by decide +kernel
theorem dX10_addOn_27 : decode cX10_addOn 27 = .ok (.iaload, 1) := by decide +kernel
theorem dX10_addOn_28 : decode cX10_addOn 28 = .ok (.iconst 1, 1) := by decide +kernel
theorem dX10_addOn_29 : decode cX10_addOn 29 = .ok (.iadd, 1) := by decide +kernel
theorem dX10_addOn_30 : decode cX10_addOn 30 = .ok (.iastore, 1) := by decide +kernel
theorem dX10_addOn_31 : decode cX10_addOn 31 = .ok (.return_, 1) := by decide +kernel
theorem dX10_dropOn_0 : decode cX10_dropOn 0 = .ok (.aload_n 0, 1) := by decide +kernel
theorem dX10_dropOn_1 : decode cX10_dropOn 1 = .ok (.getfield 23, 3) := by decide +kernel
theorem dX10_dropOn_4 : decode cX10_dropOn 4 = .ok (.bipush 17, 2) := by decide +kernel
theorem dX10_dropOn_6 : decode cX10_dropOn 6 = .ok (.iload_n 1, 1) := by decide +kernel
theorem dX10_dropOn_7 : decode cX10_dropOn 7 = .ok (.imul, 1) := by decide +kernel
theorem dX10_dropOn_8 : decode cX10_dropOn 8 = .ok (.dup2, 1) := by decide +kernel
theorem dX10_dropOn_9 : decode cX10_dropOn 9 = .ok (.iaload, 1) := by decide +kernel
theorem dX10_dropOn_10 : decode cX10_dropOn 10 = .ok (.iconst 1, 1) := by decide +kernel
theorem dX10_dropOn_11 : decode cX10_dropOn 11 = .ok (.isub, 1) := by decide +kernel
theorem dX10_dropOn_12 : decode cX10_dropOn 12 = .ok (.iastore, 1) := by decide +kernel
theorem dX10_dropOn_13 : decode cX10_dropOn 13 = .ok (.iload_n 2, 1) := by decide +kernel
theorem dX10_dropOn_14 : decode cX10_dropOn 14 = .ok (.istore_n 3, 1) := by decide +kernel
theorem dX10_dropOn_15 : decode cX10_dropOn 15 = .ok (.iload_n 3, 1) := by decide +kernel
theorem dX10_dropOn_16 : decode cX10_dropOn 16 = .ok (.aload_n 0, 1) := by decide +kernel
theorem dX10_dropOn_17 : decode cX10_dropOn 17 = .ok (.iload_n 1, 1) := by decide +kernel
theorem dX10_dropOn_18 : decode cX10_dropOn 18 = .ok (.invokevirtual 127, 3) := by decide +kernel
theorem dX10_dropOn_21 : decode cX10_dropOn 21 = .ok (.if_icmp .ge 35, 3) := by decide +kernel
theorem dX10_dropOn_24 : decode cX10_dropOn 24 = .ok (.aload_n 0, 1) := by decide +kernel
theorem dX10_dropOn_25 : decode cX10_dropOn 25 = .ok (.getfield 23, 3) := by decide +kernel
theorem dX10_dropOn_28 : decode cX10_dropOn 28 = .ok (.bipush 17, 2) := by decide +kernel
theorem dX10_dropOn_30 : decode cX10_dropOn 30 = .ok (.iload_n 1, 1) := by decide +kernel
theorem dX10_dropOn_31 : decode cX10_dropOn 31 = .ok (.imul, 1) := by decide +kernel
theorem dX10_dropOn_32 : decode cX10_dropOn 32 = .ok (.iconst 1, 1) := by decide +kernel
theorem dX10_dropOn_33 : decode cX10_dropOn 33 = .ok (.iadd, 1) := by decide +kernel
theorem dX10_dropOn_34 : decode cX10_dropOn 34 = .ok (.iload_n 3, 1) := by decide +kernel
theorem dX10_dropOn_35 : decode cX10_dropOn 35 = .ok (.iadd, 1) := by decide +kernel
theorem dX10_dropOn_36 : decode cX10_dropOn 36 = .ok (.aload_n 0, 1) := by decide +kernel
theorem dX10_dropOn_37 : decode cX10_dropOn 37 = .ok (.getfield 23, 3) := by decide +kernel
theorem dX10_dropOn_40 : decode cX10_dropOn 40 = .ok (.bipush 17, 2) := by decide +kernel
theorem dX10_dropOn_42 : decode cX10_dropOn 42 = .ok (.iload_n 1, 1) := by decide +kernel
theorem dX10_dropOn_43 : decode cX10_dropOn 43 = .ok (.imul, 1) := by decide +kernel
theorem dX10_dropOn_44 : decode cX10_dropOn 44 = .ok (.iconst 2, 1) := by decide +kernel
theorem dX10_dropOn_45 : decode cX10_dropOn 45 = .ok (.iadd, 1) := by decide +kernel
theorem dX10_dropOn_46 : decode cX10_dropOn 46 = .ok (.iload_n 3, 1) := by decide +kernel
theorem dX10_dropOn_47 : decode cX10_dropOn 47 = .ok (.iadd, 1) := by decide +kernel
theorem dX10_dropOn_48 : decode cX10_dropOn 48 = .ok (.iaload, 1) := by decide +kernel
theorem dX10_dropOn_49 : decode cX10_dropOn 49 = .ok (.iastore, 1) := by decide +kernel
theorem dX10_dropOn_50 : decode cX10_dropOn 50 = .ok (.iinc 3 1, 3) := by decide +kernel
theorem dX10_dropOn_53 : decode cX10_dropOn 53 = .ok (.goto (-38), 3) := by decide +kernel
theorem dX10_dropOn_56 : decode cX10_dropOn 56 = .ok (.return_, 1) := by decide +kernel
theorem dX10_allOf_0 : decode cX10_allOf 0 = .ok (.iconst 1, 1) := by decide +kernel
theorem dX10_allOf_1 : decode cX10_allOf 1 = .ok (.aload_n 0, 1) := by decide +kernel
theorem dX10_allOf_2 : decode cX10_allOf 2 = .ok (.iload_n 1, 1) := by decide +kernel
theorem dX10_allOf_3 : decode cX10_allOf 3 = .ok (.invokevirtual 127, 3) := by decide +kernel
theorem dX10_allOf_6 : decode cX10_allOf 6 = .ok (.ishl, 1) := by decide +kernel
theorem dX10_allOf_7 : decode cX10_allOf 7 = .ok (.iconst 1, 1) := by decide +kernel
theorem dX10_allOf_8 : decode cX10_allOf 8 = .ok (.isub, 1) := by decide +kernel
theorem dX10_allOf_9 : decode cX10_allOf 9 = .ok (.ireturn, 1) := by decide +kernel
theorem dX10_twinsOf_0 : decode cX10_twinsOf 0 = .ok (.iconst 0, 1) := by decide +kernel
theorem dX10_twinsOf_1 : decode cX10_twinsOf 1 = .ok (.istore_n 3, 1) := by decide +kernel
theorem dX10_twinsOf_2 : decode cX10_twinsOf 2 = .ok (.iconst 0, 1) := by decide +kernel
theorem dX10_twinsOf_3 : decode cX10_twinsOf 3 = .ok (.istore 4, 2) := by decide +kernel
theorem dX10_twinsOf_5 : decode cX10_twinsOf 5 = .ok (.iload 4, 2) := by decide +kernel
theorem dX10_twinsOf_7 : decode cX10_twinsOf 7 = .ok (.aload_n 0, 1) := by decide +kernel
theorem dX10_twinsOf_8 : decode cX10_twinsOf 8 = .ok (.iload_n 1, 1) := by decide +kernel
theorem dX10_twinsOf_9 : decode cX10_twinsOf 9 = .ok (.invokevirtual 127, 3) := by decide +kernel
theorem dX10_twinsOf_12 : decode cX10_twinsOf 12 = .ok (.if_icmp .ge 71, 3) := by decide +kernel
theorem dX10_twinsOf_15 : decode cX10_twinsOf 15 = .ok (.iconst 0, 1) := by decide +kernel
theorem dX10_twinsOf_16 : decode cX10_twinsOf 16 = .ok (.istore 5, 2) := by decide +kernel
theorem dX10_twinsOf_18 : decode cX10_twinsOf 18 = .ok (.iload 5, 2) := by decide +kernel
theorem dX10_twinsOf_20 : decode cX10_twinsOf 20 = .ok (.iload 4, 2) := by decide +kernel
theorem dX10_twinsOf_22 : decode cX10_twinsOf 22 = .ok (.if_icmp .ge 55, 3) := by decide +kernel
theorem dX10_twinsOf_25 : decode cX10_twinsOf 25 = .ok (.iload_n 3, 1) := by decide +kernel
theorem dX10_twinsOf_26 : decode cX10_twinsOf 26 = .ok (.iload_n 2, 1) := by decide +kernel
theorem dX10_twinsOf_27 : decode cX10_twinsOf 27 = .ok (.iload 4, 2) := by decide +kernel
theorem dX10_twinsOf_29 : decode cX10_twinsOf 29 = .ok (.invokestatic 130, 3) := by decide +kernel
theorem dX10_twinsOf_32 : decode cX10_twinsOf 32 = .ok (.ifCond .eq 36, 3) := by decide +kernel
theorem dX10_twinsOf_35 : decode cX10_twinsOf 35 = .ok (.iload_n 2, 1) := by decide +kernel
theorem dX10_twinsOf_36 : decode cX10_twinsOf 36 = .ok (.iload 5, 2) := by decide +kernel
theorem dX10_twinsOf_38 : decode cX10_twinsOf 38 = .ok (.invokestatic 130, 3) := by decide +kernel
theorem dX10_twinsOf_41 : decode cX10_twinsOf 41 = .ok (.ifCond .eq 27, 3) := by decide +kernel
theorem dX10_twinsOf_44 : decode cX10_twinsOf 44 = .ok (.aload_n 0, 1) := by decide +kernel
theorem dX10_twinsOf_45 : decode cX10_twinsOf 45 = .ok (.iload_n 1, 1) := by decide +kernel
theorem dX10_twinsOf_46 : decode cX10_twinsOf 46 = .ok (.iload 4, 2) := by decide +kernel
theorem dX10_twinsOf_48 : decode cX10_twinsOf 48 = .ok (.invokevirtual 134, 3) := by decide +kernel
theorem dX10_twinsOf_51 : decode cX10_twinsOf 51 = .ok (.aload_n 0, 1) := by decide +kernel
theorem dX10_twinsOf_52 : decode cX10_twinsOf 52 = .ok (.iload_n 1, 1) := by decide +kernel
theorem dX10_twinsOf_53 : decode cX10_twinsOf 53 = .ok (.iload 5, 2) := by decide +kernel
theorem dX10_twinsOf_55 : decode cX10_twinsOf 55 = .ok (.invokevirtual 134, 3) := by decide +kernel
theorem dX10_twinsOf_58 : decode cX10_twinsOf 58 = .ok (.if_icmp .ne 10, 3) := by decide +kernel
theorem dX10_twinsOf_61 : decode cX10_twinsOf 61 = .ok (.iconst 1, 1) := by decide +kernel
theorem dX10_twinsOf_62 : decode cX10_twinsOf 62 = .ok (.iload 4, 2) := by decide +kernel
theorem dX10_twinsOf_64 : decode cX10_twinsOf 64 = .ok (.ishl, 1) := by decide +kernel
theorem dX10_twinsOf_65 : decode cX10_twinsOf 65 = .ok (.goto 4, 3) := by decide +kernel
theorem dX10_twinsOf_68 : decode cX10_twinsOf 68 = .ok (.iconst 0, 1) := by decide +kernel
theorem dX10_twinsOf_69 : decode cX10_twinsOf 69 = .ok (.ior, 1) := by decide +kernel
theorem dX10_twinsOf_70 : decode cX10_twinsOf 70 = .ok (.istore_n 3, 1) := by decide +kernel
theorem dX10_twinsOf_71 : decode cX10_twinsOf 71 = .ok (.iinc 5 1, 3) := by decide +kernel
theorem dX10_twinsOf_74 : decode cX10_twinsOf 74 = .ok (.goto (-56), 3) := by decide +kernel
theorem dX10_twinsOf_77 : decode cX10_twinsOf 77 = .ok (.iinc 4 1, 3) := by decide +kernel
theorem dX10_twinsOf_80 : decode cX10_twinsOf 80 = .ok (.goto (-75), 3) := by decide +kernel
theorem dX10_twinsOf_83 : decode cX10_twinsOf 83 = .ok (.iload_n 3, 1) := by decide +kernel
theorem dX10_twinsOf_84 : decode cX10_twinsOf 84 = .ok (.ireturn, 1) := by decide +kernel
theorem dX10_measureOf_0 : decode cX10_measureOf 0 = .ok (.iload_n 2, 1) := by decide +kernel
theorem dX10_measureOf_1 : decode cX10_measureOf 1 = .ok (.ifCond .ne 6, 3) := by decide +kernel
theorem dX10_measureOf_4 : decode cX10_measureOf 4 = .ok (.bipush (-9), 2) := by decide +kernel
theorem dX10_measureOf_6 : decode cX10_measureOf 6 = .ok (.ireturn, 1) := by decide +kernel
theorem dX10_measureOf_7 : decode cX10_measureOf 7 = .ok (.iconst 0, 1) := by decide +kernel
theorem dX10_measureOf_8 : decode cX10_measureOf 8 = .ok (.istore_n 3, 1) := by decide +kernel
theorem dX10_measureOf_9 : decode cX10_measureOf 9 = .ok (.iconst 0, 1) := by decide +kernel
theorem dX10_measureOf_10 : decode cX10_measureOf 10 = .ok (.istore 4, 2) := by decide +kernel
theorem dX10_measureOf_12 : decode cX10_measureOf 12 = .ok (.bipush (-9), 2) := by decide +kernel
theorem dX10_measureOf_14 : decode cX10_measureOf 14 = .ok (.istore 5, 2) := by decide +kernel
theorem dX10_measureOf_16 : decode cX10_measureOf 16 = .ok (.bipush (-9), 2) := by decide +kernel
theorem dX10_measureOf_18 : decode cX10_measureOf 18 = .ok (.istore 6, 2) := by decide +kernel
theorem dX10_measureOf_20 : decode cX10_measureOf 20 = .ok (.iconst 0, 1) := by decide +kernel
theorem dX10_measureOf_21 : decode cX10_measureOf 21 = .ok (.istore 7, 2) := by decide +kernel
theorem dX10_measureOf_23 : decode cX10_measureOf 23 = .ok (.aload_n 0, 1) := by decide +kernel
theorem dX10_measureOf_24 : decode cX10_measureOf 24 = .ok (.iload_n 1, 1) := by decide +kernel
theorem dX10_measureOf_25 : decode cX10_measureOf 25 = .ok (.iload_n 2, 1) := by decide +kernel
theorem dX10_measureOf_26 : decode cX10_measureOf 26 = .ok (.invokevirtual 137, 3) := by decide +kernel
theorem dX10_measureOf_29 : decode cX10_measureOf 29 = .ok (.istore 8, 2) := by decide +kernel
theorem dX10_measureOf_31 : decode cX10_measureOf 31 = .ok (.iconst 0, 1) := by decide +kernel
theorem dX10_measureOf_32 : decode cX10_measureOf 32 = .ok (.istore 9, 2) := by decide +kernel
theorem dX10_measureOf_34 : decode cX10_measureOf 34 = .ok (.iload 9, 2) := by decide +kernel
theorem dX10_measureOf_36 : decode cX10_measureOf 36 = .ok (.aload_n 0, 1) := by decide +kernel
theorem dX10_measureOf_37 : decode cX10_measureOf 37 = .ok (.iload_n 1, 1) := by decide +kernel
theorem dX10_measureOf_38 : decode cX10_measureOf 38 = .ok (.invokevirtual 127, 3) := by decide +kernel
theorem dX10_measureOf_41 : decode cX10_measureOf 41 = .ok (.if_icmp .ge 112, 3) := by decide +kernel
theorem dX10_measureOf_44 : decode cX10_measureOf 44 = .ok (.aload_n 0, 1) := by decide +kernel
theorem dX10_measureOf_45 : decode cX10_measureOf 45 = .ok (.iload_n 1, 1) := by decide +kernel
theorem dX10_measureOf_46 : decode cX10_measureOf 46 = .ok (.iload 9, 2) := by decide +kernel
theorem dX10_measureOf_48 : decode cX10_measureOf 48 = .ok (.invokevirtual 134, 3) := by decide +kernel
theorem dX10_measureOf_51 : decode cX10_measureOf 51 = .ok (.istore 10, 2) := by decide +kernel
theorem dX10_measureOf_53 : decode cX10_measureOf 53 = .ok (.iload_n 2, 1) := by decide +kernel
theorem dX10_measureOf_54 : decode cX10_measureOf 54 = .ok (.iload 9, 2) := by decide +kernel
theorem dX10_measureOf_56 : decode cX10_measureOf 56 = .ok (.invokestatic 130, 3) := by decide +kernel
theorem dX10_measureOf_59 : decode cX10_measureOf 59 = .ok (.ifCond .eq 6, 3) := by decide +kernel
theorem dX10_measureOf_62 : decode cX10_measureOf 62 = .ok (.iinc 3 1, 3) := by decide +kernel
theorem dX10_measureOf_65 : decode cX10_measureOf 65 = .ok (.iload_n 2, 1) := by decide +kernel
theorem dX10_measureOf_66 : decode cX10_measureOf 66 = .ok (.iload 9, 2) := by decide +kernel
theorem dX10_measureOf_68 : decode cX10_measureOf 68 = .ok (.invokestatic 130, 3) := by decide +kernel
theorem dX10_measureOf_71 : decode cX10_measureOf 71 = .ok (.ifCond .eq 76, 3) := by decide +kernel
theorem dX10_measureOf_74 : decode cX10_measureOf 74 = .ok (.iload 10, 2) := by decide +kernel
theorem dX10_measureOf_76 : decode cX10_measureOf 76 = .ok (.bipush 100, 2) := by decide +kernel
theorem dX10_measureOf_78 : decode cX10_measureOf 78 = .ok (.if_icmp .eq 69, 3) := by decide +kernel
theorem dX10_measureOf_81 : decode cX10_measureOf 81 = .ok (.iload 4, 2) := by decide +kernel
theorem dX10_measureOf_83 : decode cX10_measureOf 83 = .ok (.iload 10, 2) := by decide +kernel
theorem dX10_measureOf_85 : decode cX10_measureOf 85 = .ok (.iadd, 1) := by decide +kernel
theorem dX10_measureOf_86 : decode cX10_measureOf 86 = .ok (.istore 4, 2) := by decide +kernel
theorem dX10_measureOf_88 : decode cX10_measureOf 88 = .ok (.iload 10, 2) := by decide +kernel
theorem dX10_measureOf_90 : decode cX10_measureOf 90 = .ok (.iload 5, 2) := by decide +kernel
theorem dX10_measureOf_92 : decode cX10_measureOf 92 = .ok (.if_icmp .le 8, 3) := by decide +kernel
theorem dX10_measureOf_95 : decode cX10_measureOf 95 = .ok (.iload 10, 2) := by decide +kernel
theorem dX10_measureOf_97 : decode cX10_measureOf 97 = .ok (.goto 5, 3) := by decide +kernel
theorem dX10_measureOf_100 : decode cX10_measureOf 100 = .ok (.iload 5, 2) := by decide +kernel
theorem dX10_measureOf_102 : decode cX10_measureOf 102 = .ok (.istore 5, 2) := by decide +kernel
theorem dX10_measureOf_104 : decode cX10_measureOf 104 = .ok (.iload 6, 2) := by decide +kernel
theorem dX10_measureOf_106 : decode cX10_measureOf 106 = .ok (.bipush (-9), 2) := by decide +kernel
theorem dX10_measureOf_108 : decode cX10_measureOf 108 = .ok (.if_icmp .eq 10, 3) := by decide +kernel
theorem dX10_measureOf_111 : decode cX10_measureOf 111 = .ok (.iload 10, 2) := by decide +kernel
theorem dX10_measureOf_113 : decode cX10_measureOf 113 = .ok (.iload 6, 2) := by decide +kernel
theorem dX10_measureOf_115 : decode cX10_measureOf 115 = .ok (.if_icmp .ge 8, 3) := by decide +kernel
theorem dX10_measureOf_118 : decode cX10_measureOf 118 = .ok (.iload 10, 2) := by decide +kernel
theorem dX10_measureOf_120 : decode cX10_measureOf 120 = .ok (.goto 5, 3) := by decide +kernel
theorem dX10_measureOf_123 : decode cX10_measureOf 123 = .ok (.iload 6, 2) := by decide +kernel
theorem dX10_measureOf_125 : decode cX10_measureOf 125 = .ok (.istore 6, 2) := by decide +kernel
theorem dX10_measureOf_127 : decode cX10_measureOf 127 = .ok (.iload 7, 2) := by decide +kernel
theorem dX10_measureOf_129 : decode cX10_measureOf 129 = .ok (.iload 8, 2) := by decide +kernel
theorem dX10_measureOf_131 : decode cX10_measureOf 131 = .ok (.iload 9, 2) := by decide +kernel
theorem dX10_measureOf_133 : decode cX10_measureOf 133 = .ok (.invokestatic 130, 3) := by decide +kernel
theorem dX10_measureOf_136 : decode cX10_measureOf 136 = .ok (.ifCond .eq 7, 3) := by decide +kernel
theorem dX10_measureOf_139 : decode cX10_measureOf 139 = .ok (.iconst 0, 1) := by decide +kernel
theorem dX10_measureOf_140 : decode cX10_measureOf 140 = .ok (.goto 4, 3) := by decide +kernel
theorem dX10_measureOf_143 : decode cX10_measureOf 143 = .ok (.iconst 1, 1) := by decide +kernel
theorem dX10_measureOf_144 : decode cX10_measureOf 144 = .ok (.iadd, 1) := by decide +kernel
theorem dX10_measureOf_145 : decode cX10_measureOf 145 = .ok (.istore 7, 2) := by decide +kernel
theorem dX10_measureOf_147 : decode cX10_measureOf 147 = .ok (.iinc 9 1, 3) := by decide +kernel
theorem dX10_measureOf_150 : decode cX10_measureOf 150 = .ok (.goto (-116), 3) := by decide +kernel
theorem dX10_measureOf_153 : decode cX10_measureOf 153 = .ok (.aload_n 0, 1) := by decide +kernel
theorem dX10_measureOf_154 : decode cX10_measureOf 154 = .ok (.getfield 109, 3) := by decide +kernel
theorem dX10_measureOf_157 : decode cX10_measureOf 157 = .ok (.ifCond .ne 7, 3) := by decide +kernel
theorem dX10_measureOf_160 : decode cX10_measureOf 160 = .ok (.iload_n 3, 1) := by decide +kernel
theorem dX10_measureOf_161 : decode cX10_measureOf 161 = .ok (.goto 44, 3) := by decide +kernel
theorem dX10_measureOf_164 : decode cX10_measureOf 164 = .ok (.aload_n 0, 1) := by decide +kernel
theorem dX10_measureOf_165 : decode cX10_measureOf 165 = .ok (.getfield 109, 3) := by decide +kernel
theorem dX10_measureOf_168 : decode cX10_measureOf 168 = .ok (.iconst 1, 1) := by decide +kernel
theorem dX10_measureOf_169 : decode cX10_measureOf 169 = .ok (.if_icmp .ne 8, 3) := by decide +kernel
theorem dX10_measureOf_172 : decode cX10_measureOf 172 = .ok (.iload 4, 2) := by decide +kernel
theorem dX10_measureOf_174 : decode cX10_measureOf 174 = .ok (.goto 31, 3) := by decide +kernel
theorem dX10_measureOf_177 : decode cX10_measureOf 177 = .ok (.aload_n 0, 1) := by decide +kernel
theorem dX10_measureOf_178 : decode cX10_measureOf 178 = .ok (.getfield 109, 3) := by decide +kernel
theorem dX10_measureOf_181 : decode cX10_measureOf 181 = .ok (.iconst 2, 1) := by decide +kernel
theorem dX10_measureOf_182 : decode cX10_measureOf 182 = .ok (.if_icmp .ne 8, 3) := by decide +kernel
theorem dX10_measureOf_185 : decode cX10_measureOf 185 = .ok (.iload 5, 2) := by decide +kernel
theorem dX10_measureOf_187 : decode cX10_measureOf 187 = .ok (.goto 18, 3) := by decide +kernel
theorem dX10_measureOf_190 : decode cX10_measureOf 190 = .ok (.aload_n 0, 1) := by decide +kernel
theorem dX10_measureOf_191 : decode cX10_measureOf 191 = .ok (.getfield 109, 3) := by decide +kernel
theorem dX10_measureOf_194 : decode cX10_measureOf 194 = .ok (.iconst 3, 1) := by decide +kernel
theorem dX10_measureOf_195 : decode cX10_measureOf 195 = .ok (.if_icmp .ne 8, 3) := by decide +kernel
theorem dX10_measureOf_198 : decode cX10_measureOf 198 = .ok (.iload 6, 2) := by decide +kernel
theorem dX10_measureOf_200 : decode cX10_measureOf 200 = .ok (.goto 5, 3) := by decide +kernel
theorem dX10_measureOf_203 : decode cX10_measureOf 203 = .ok (.iload 7, 2) := by decide +kernel
theorem dX10_measureOf_205 : decode cX10_measureOf 205 = .ok (.ireturn, 1) := by decide +kernel
theorem dX10_groupOf_0 : decode cX10_groupOf 0 = .ok (.iconst 0, 1) := by decide +kernel
theorem dX10_groupOf_1 : decode cX10_groupOf 1 = .ok (.istore 4, 2) := by decide +kernel
theorem dX10_groupOf_3 : decode cX10_groupOf 3 = .ok (.iconst 0, 1) := by decide +kernel
theorem dX10_groupOf_4 : decode cX10_groupOf 4 = .ok (.istore 5, 2) := by decide +kernel
theorem dX10_groupOf_6 : decode cX10_groupOf 6 = .ok (.iload 5, 2) := by decide +kernel
theorem dX10_groupOf_8 : decode cX10_groupOf 8 = .ok (.aload_n 0, 1) := by decide +kernel
theorem dX10_groupOf_9 : decode cX10_groupOf 9 = .ok (.iload_n 1, 1) := by decide +kernel
theorem dX10_groupOf_10 : decode cX10_groupOf 10 = .ok (.invokevirtual 127, 3) := by decide +kernel
theorem dX10_groupOf_13 : decode cX10_groupOf 13 = .ok (.if_icmp .ge 34, 3) := by decide +kernel
theorem dX10_groupOf_16 : decode cX10_groupOf 16 = .ok (.iload 4, 2) := by decide +kernel
theorem dX10_groupOf_18 : decode cX10_groupOf 18 = .ok (.aload_n 0, 1) := by decide +kernel
theorem dX10_groupOf_19 : decode cX10_groupOf 19 = .ok (.iload_n 1, 1) := by decide +kernel
theorem dX10_groupOf_20 : decode cX10_groupOf 20 = .ok (.iload 5, 2) := by decide +kernel
theorem dX10_groupOf_22 : decode cX10_groupOf 22 = .ok (.iload_n 2, 1) := by decide +kernel
theorem dX10_groupOf_23 : decode cX10_groupOf 23 = .ok (.invokevirtual 140, 3) := by decide +kernel
theorem dX10_groupOf_26 : decode cX10_groupOf 26 = .ok (.iload_n 3, 1) := by decide +kernel
theorem dX10_groupOf_27 : decode cX10_groupOf 27 = .ok (.if_icmp .ne 10, 3) := by decide +kernel
theorem dX10_groupOf_30 : decode cX10_groupOf 30 = .ok (.iconst 1, 1) := by decide +kernel
theorem dX10_groupOf_31 : decode cX10_groupOf 31 = .ok (.iload 5, 2) := by decide +kernel
theorem dX10_groupOf_33 : decode cX10_groupOf 33 = .ok (.ishl, 1) := by decide +kernel
theorem dX10_groupOf_34 : decode cX10_groupOf 34 = .ok (.goto 4, 3) := by decide +kernel
theorem dX10_groupOf_37 : decode cX10_groupOf 37 = .ok (.iconst 0, 1) := by decide +kernel
theorem dX10_groupOf_38 : decode cX10_groupOf 38 = .ok (.ior, 1) := by decide +kernel
theorem dX10_groupOf_39 : decode cX10_groupOf 39 = .ok (.istore 4, 2) := by decide +kernel
theorem dX10_groupOf_41 : decode cX10_groupOf 41 = .ok (.iinc 5 1, 3) := by decide +kernel
theorem dX10_groupOf_44 : decode cX10_groupOf 44 = .ok (.goto (-38), 3) := by decide +kernel
theorem dX10_groupOf_47 : decode cX10_groupOf 47 = .ok (.iload 4, 2) := by decide +kernel
theorem dX10_groupOf_49 : decode cX10_groupOf 49 = .ok (.ireturn, 1) := by decide +kernel
theorem dX10_pick_0 : decode cX10_pick 0 = .ok (.iconst 0, 1) := by decide +kernel
theorem dX10_pick_1 : decode cX10_pick 1 = .ok (.istore_n 3, 1) := by decide +kernel
theorem dX10_pick_2 : decode cX10_pick 2 = .ok (.iload_n 3, 1) := by decide +kernel
theorem dX10_pick_3 : decode cX10_pick 3 = .ok (.bipush 20, 2) := by decide +kernel
theorem dX10_pick_5 : decode cX10_pick 5 = .ok (.if_icmp .gt 16, 3) := by decide +kernel
theorem dX10_pick_8 : decode cX10_pick 8 = .ok (.aload_n 0, 1) := by decide +kernel
theorem dX10_pick_9 : decode cX10_pick 9 = .ok (.getfield 38, 3) := by decide +kernel
theorem dX10_pick_12 : decode cX10_pick 12 = .ok (.iload_n 3, 1) := by decide +kernel
theorem dX10_pick_13 : decode cX10_pick 13 = .ok (.iconst 0, 1) := by decide +kernel
theorem dX10_pick_14 : decode cX10_pick 14 = .ok (.iastore, 1) := by decide +kernel
theorem dX10_pick_15 : decode cX10_pick 15 = .ok (.iinc 3 1, 3) := by decide +kernel
theorem dX10_pick_18 : decode cX10_pick 18 = .ok (.goto (-16), 3) := by decide +kernel
theorem dX10_pick_21 : decode cX10_pick 21 = .ok (.iconst 0, 1) := by decide +kernel
theorem dX10_pick_22 : decode cX10_pick 22 = .ok (.istore_n 3, 1) := by decide +kernel
theorem dX10_pick_23 : decode cX10_pick 23 = .ok (.iload_n 3, 1) := by decide +kernel
theorem dX10_pick_24 : decode cX10_pick 24 = .ok (.iload_n 2, 1) := by decide +kernel
theorem dX10_pick_25 : decode cX10_pick 25 = .ok (.if_icmp .ge 119, 3) := by decide +kernel
theorem dX10_pick_28 : decode cX10_pick 28 = .ok (.bipush (-9), 2) := by decide +kernel
theorem dX10_pick_30 : decode cX10_pick 30 = .ok (.istore 4, 2) := by decide +kernel
theorem dX10_pick_32 : decode cX10_pick 32 = .ok (.iconst 0, 1) := by decide +kernel
theorem dX10_pick_33 : decode cX10_pick 33 = .ok (.istore 5, 2) := by decide +kernel
theorem dX10_pick_35 : decode cX10_pick 35 = .ok (.iload 5, 2) := by decide +kernel
theorem dX10_pick_37 : decode cX10_pick 37 = .ok (.bipush 20, 2) := by decide +kernel
theorem dX10_pick_39 : decode cX10_pick 39 = .ok (.if_icmp .gt 91, 3) := by decide +kernel
theorem dX10_pick_42 : decode cX10_pick 42 = .ok (.aload_n 0, 1) := by decide +kernel
theorem dX10_pick_43 : decode cX10_pick 43 = .ok (.iload_n 1, 1) := by decide +kernel
theorem dX10_pick_44 : decode cX10_pick 44 = .ok (.aload_n 0, 1) := by decide +kernel
theorem dX10_pick_45 : decode cX10_pick 45 = .ok (.getfield 9, 3) := by decide +kernel
theorem dX10_pick_48 : decode cX10_pick 48 = .ok (.iload 5, 2) := by decide +kernel
theorem dX10_pick_50 : decode cX10_pick 50 = .ok (.invokevirtual 144, 3) := by decide +kernel
theorem dX10_pick_53 : decode cX10_pick 53 = .ok (.istore 6, 2) := by decide +kernel
theorem dX10_pick_55 : decode cX10_pick 55 = .ok (.iload 6, 2) := by decide +kernel
theorem dX10_pick_57 : decode cX10_pick 57 = .ok (.ifCond .eq 17, 3) := by decide +kernel
theorem dX10_pick_60 : decode cX10_pick 60 = .ok (.aload_n 0, 1) := by decide +kernel
theorem dX10_pick_61 : decode cX10_pick 61 = .ok (.getfield 38, 3) := by decide +kernel
theorem dX10_pick_64 : decode cX10_pick 64 = .ok (.iload 5, 2) := by decide +kernel
theorem dX10_pick_66 : decode cX10_pick 66 = .ok (.iaload, 1) := by decide +kernel
theorem dX10_pick_67 : decode cX10_pick 67 = .ok (.ifCond .ne 7, 3) := by decide +kernel
theorem dX10_pick_70 : decode cX10_pick 70 = .ok (.iconst 1, 1) := by decide +kernel
theorem dX10_pick_71 : decode cX10_pick 71 = .ok (.goto 4, 3) := by decide +kernel
theorem dX10_pick_74 : decode cX10_pick 74 = .ok (.iconst 0, 1) := by decide +kernel
theorem dX10_pick_75 : decode cX10_pick 75 = .ok (.istore 7, 2) := by decide +kernel
theorem dX10_pick_77 : decode cX10_pick 77 = .ok (.iload 7, 2) := by decide +kernel
theorem dX10_pick_79 : decode cX10_pick 79 = .ok (.ifCond .eq 41, 3) := by decide +kernel
theorem dX10_pick_82 : decode cX10_pick 82 = .ok (.iload 4, 2) := by decide +kernel
theorem dX10_pick_84 : decode cX10_pick 84 = .ok (.bipush (-9), 2) := by decide +kernel
theorem dX10_pick_86 : decode cX10_pick 86 = .ok (.if_icmp .eq 29, 3) := by decide +kernel
theorem dX10_pick_89 : decode cX10_pick 89 = .ok (.aload_n 0, 1) := by decide +kernel
theorem dX10_pick_90 : decode cX10_pick 90 = .ok (.iload_n 1, 1) := by decide +kernel
theorem dX10_pick_91 : decode cX10_pick 91 = .ok (.iload 6, 2) := by decide +kernel
theorem dX10_pick_93 : decode cX10_pick 93 = .ok (.invokevirtual 147, 3) := by decide +kernel
theorem dX10_pick_96 : decode cX10_pick 96 = .ok (.aload_n 0, 1) := by decide +kernel
theorem dX10_pick_97 : decode cX10_pick 97 = .ok (.iload_n 1, 1) := by decide +kernel
theorem dX10_pick_98 : decode cX10_pick 98 = .ok (.aload_n 0, 1) := by decide +kernel
theorem dX10_pick_99 : decode cX10_pick 99 = .ok (.iload_n 1, 1) := by decide +kernel
theorem dX10_pick_100 : decode cX10_pick 100 = .ok (.aload_n 0, 1) := by decide +kernel
theorem dX10_pick_101 : decode cX10_pick 101 = .ok (.getfield 9, 3) := by decide +kernel
theorem dX10_pick_104 : decode cX10_pick 104 = .ok (.iload 4, 2) := by decide +kernel
theorem dX10_pick_106 : decode cX10_pick 106 = .ok (.invokevirtual 144, 3) := by decide +kernel
theorem dX10_pick_109 : decode cX10_pick 109 = .ok (.invokevirtual 147, 3) := by decide +kernel
theorem dX10_pick_112 : decode cX10_pick 112 = .ok (.if_icmp .le 8, 3) := by decide +kernel
theorem dX10_pick_115 : decode cX10_pick 115 = .ok (.iload 5, 2) := by decide +kernel
theorem dX10_pick_117 : decode cX10_pick 117 = .ok (.goto 5, 3) := by decide +kernel
theorem dX10_pick_120 : decode cX10_pick 120 = .ok (.iload 4, 2) := by decide +kernel
theorem dX10_pick_122 : decode cX10_pick 122 = .ok (.istore 4, 2) := by decide +kernel
theorem dX10_pick_124 : decode cX10_pick 124 = .ok (.iinc 5 1, 3) := by decide +kernel
theorem dX10_pick_127 : decode cX10_pick 127 = .ok (.goto (-92), 3) := by decide +kernel
theorem dX10_pick_130 : decode cX10_pick 130 = .ok (.aload_n 0, 1) := by decide +kernel
theorem dX10_pick_131 : decode cX10_pick 131 = .ok (.getfield 38, 3) := by decide +kernel
theorem dX10_pick_134 : decode cX10_pick 134 = .ok (.iload 4, 2) := by decide +kernel
theorem dX10_pick_136 : decode cX10_pick 136 = .ok (.iconst 1, 1) := by decide +kernel
theorem dX10_pick_137 : decode cX10_pick 137 = .ok (.iastore, 1) := by decide +kernel
theorem dX10_pick_138 : decode cX10_pick 138 = .ok (.iinc 3 1, 3) := by decide +kernel
theorem dX10_pick_141 : decode cX10_pick 141 = .ok (.goto (-118), 3) := by decide +kernel
theorem dX10_pick_144 : decode cX10_pick 144 = .ok (.return_, 1) := by decide +kernel
theorem dX10_findRows_0 : decode cX10_findRows 0 = .ok (.iconst 0, 1) := by decide +kernel
theorem dX10_findRows_1 : decode cX10_findRows 1 = .ok (.istore_n 2, 1) := by decide +kernel
theorem dX10_findRows_2 : decode cX10_findRows 2 = .ok (.iconst 0, 1) := by decide +kernel
theorem dX10_findRows_3 : decode cX10_findRows 3 = .ok (.istore_n 3, 1) := by decide +kernel
theorem dX10_findRows_4 : decode cX10_findRows 4 = .ok (.iload_n 3, 1) := by decide +kernel
theorem dX10_findRows_5 : decode cX10_findRows 5 = .ok (.bipush 20, 2) := by decide +kernel
theorem dX10_findRows_7 : decode cX10_findRows 7 = .ok (.if_icmp .gt 30, 3) := by decide +kernel
theorem dX10_findRows_10 : decode cX10_findRows 10 = .ok (.iload_n 2, 1) := by decide +kernel
theorem dX10_findRows_11 : decode cX10_findRows 11 = .ok (.aload_n 0, 1) := by decide +kernel
theorem dX10_findRows_12 : decode cX10_findRows 12 = .ok (.iload_n 1, 1) := by decide +kernel
theorem dX10_findRows_13 : decode cX10_findRows 13 = .ok (.aload_n 0, 1) := by decide +kernel
theorem dX10_findRows_14 : decode cX10_findRows 14 = .ok (.getfield 9, 3) := by decide +kernel
theorem dX10_findRows_17 : decode cX10_findRows 17 = .ok (.iload_n 3, 1) := by decide +kernel
theorem dX10_findRows_18 : decode cX10_findRows 18 = .ok (.invokevirtual 144, 3) := by decide +kernel
theorem dX10_findRows_21 : decode cX10_findRows 21 = .ok (.ifCond .ne 7, 3) := by decide +kernel
theorem dX10_findRows_24 : decode cX10_findRows 24 = .ok (.iconst 0, 1) := by decide +kernel
theorem dX10_findRows_25 : decode cX10_findRows 25 = .ok (.goto 4, 3) := by decide +kernel
theorem dX10_findRows_28 : decode cX10_findRows 28 = .ok (.iconst 1, 1) := by decide +kernel
theorem dX10_findRows_29 : decode cX10_findRows 29 = .ok (.iadd, 1) := by decide +kernel
theorem dX10_findRows_30 : decode cX10_findRows 30 = .ok (.istore_n 2, 1) := by decide +kernel
theorem dX10_findRows_31 : decode cX10_findRows 31 = .ok (.iinc 3 1, 3) := by decide +kernel
theorem dX10_findRows_34 : decode cX10_findRows 34 = .ok (.goto (-30), 3) := by decide +kernel
theorem dX10_findRows_37 : decode cX10_findRows 37 = .ok (.aload_n 0, 1) := by decide +kernel
theorem dX10_findRows_38 : decode cX10_findRows 38 = .ok (.getfield 112, 3) := by decide +kernel
theorem dX10_findRows_41 : decode cX10_findRows 41 = .ok (.ifCond .eq 11, 3) := by decide +kernel
theorem dX10_findRows_44 : decode cX10_findRows 44 = .ok (.iload_n 2, 1) := by decide +kernel
theorem dX10_findRows_45 : decode cX10_findRows 45 = .ok (.aload_n 0, 1) := by decide +kernel
theorem dX10_findRows_46 : decode cX10_findRows 46 = .ok (.getfield 112, 3) := by decide +kernel
theorem dX10_findRows_49 : decode cX10_findRows 49 = .ok (.if_icmp .gt 7, 3) := by decide +kernel
theorem dX10_findRows_52 : decode cX10_findRows 52 = .ok (.iconst 1, 1) := by decide +kernel
theorem dX10_findRows_53 : decode cX10_findRows 53 = .ok (.goto 4, 3) := by decide +kernel
theorem dX10_findRows_56 : decode cX10_findRows 56 = .ok (.iconst 0, 1) := by decide +kernel
theorem dX10_findRows_57 : decode cX10_findRows 57 = .ok (.istore_n 3, 1) := by decide +kernel
theorem dX10_findRows_58 : decode cX10_findRows 58 = .ok (.aload_n 0, 1) := by decide +kernel
theorem dX10_findRows_59 : decode cX10_findRows 59 = .ok (.iload_n 1, 1) := by decide +kernel
theorem dX10_findRows_60 : decode cX10_findRows 60 = .ok (.iload_n 3, 1) := by decide +kernel
theorem dX10_findRows_61 : decode cX10_findRows 61 = .ok (.ifCond .eq 7, 3) := by decide +kernel
theorem dX10_findRows_64 : decode cX10_findRows 64 = .ok (.iconst 0, 1) := by decide +kernel
theorem dX10_findRows_65 : decode cX10_findRows 65 = .ok (.goto 7, 3) := by decide +kernel
theorem dX10_findRows_68 : decode cX10_findRows 68 = .ok (.aload_n 0, 1) := by decide +kernel
theorem dX10_findRows_69 : decode cX10_findRows 69 = .ok (.getfield 112, 3) := by decide +kernel
theorem dX10_findRows_72 : decode cX10_findRows 72 = .ok (.invokevirtual 150, 3) := by decide +kernel
theorem dX10_findRows_75 : decode cX10_findRows 75 = .ok (.aload_n 0, 1) := by decide +kernel
theorem dX10_findRows_76 : decode cX10_findRows 76 = .ok (.iconst 0, 1) := by decide +kernel
theorem dX10_findRows_77 : decode cX10_findRows 77 = .ok (.putfield 119, 3) := by decide +kernel
theorem dX10_findRows_80 : decode cX10_findRows 80 = .ok (.iconst 0, 1) := by decide +kernel
theorem dX10_findRows_81 : decode cX10_findRows 81 = .ok (.istore 4, 2) := by decide +kernel
theorem dX10_findRows_83 : decode cX10_findRows 83 = .ok (.iconst 0, 1) := by decide +kernel
theorem dX10_findRows_84 : decode cX10_findRows 84 = .ok (.istore 5, 2) := by decide +kernel
theorem dX10_findRows_86 : decode cX10_findRows 86 = .ok (.iload 5, 2) := by decide +kernel
theorem dX10_findRows_88 : decode cX10_findRows 88 = .ok (.bipush 20, 2) := by decide +kernel
theorem dX10_findRows_90 : decode cX10_findRows 90 = .ok (.if_icmp .gt 84, 3) := by decide +kernel
theorem dX10_findRows_93 : decode cX10_findRows 93 = .ok (.aload_n 0, 1) := by decide +kernel
theorem dX10_findRows_94 : decode cX10_findRows 94 = .ok (.iload_n 1, 1) := by decide +kernel
theorem dX10_findRows_95 : decode cX10_findRows 95 = .ok (.aload_n 0, 1) := by decide +kernel
theorem dX10_findRows_96 : decode cX10_findRows 96 = .ok (.getfield 9, 3) := by decide +kernel
theorem dX10_findRows_99 : decode cX10_findRows 99 = .ok (.iload 5, 2) := by decide +kernel
theorem dX10_findRows_101 : decode cX10_findRows 101 = .ok (.invokevirtual 144, 3) := by decide +kernel
theorem dX10_findRows_104 : decode cX10_findRows 104 = .ok (.istore 6, 2) := by decide +kernel
theorem dX10_findRows_106 : decode cX10_findRows 106 = .ok (.iload 6, 2) := by decide +kernel
theorem dX10_findRows_108 : decode cX10_findRows 108 = .ok (.ifCond .eq 53, 3) := by decide +kernel
theorem dX10_findRows_111 : decode cX10_findRows 111 = .ok (.iload_n 3, 1) := by decide +kernel
theorem dX10_findRows_112 : decode cX10_findRows 112 = .ok (.ifCond .ne 14, 3) := by decide +kernel
theorem dX10_findRows_115 : decode cX10_findRows 115 = .ok (.aload_n 0, 1) := by decide +kernel
theorem dX10_findRows_116 : decode cX10_findRows 116 = .ok (.getfield 38, 3) := by decide +kernel
theorem dX10_findRows_119 : decode cX10_findRows 119 = .ok (.iload 5, 2) := by decide +kernel
theorem dX10_findRows_121 : decode cX10_findRows 121 = .ok (.iaload, 1) := by decide +kernel
theorem dX10_findRows_122 : decode cX10_findRows 122 = .ok (.iconst 1, 1) := by decide +kernel
theorem dX10_findRows_123 : decode cX10_findRows 123 = .ok (.if_icmp .ne 38, 3) := by decide +kernel
theorem dX10_findRows_126 : decode cX10_findRows 126 = .ok (.aload_n 0, 1) := by decide +kernel
theorem dX10_findRows_127 : decode cX10_findRows 127 = .ok (.getfield 26, 3) := by decide +kernel
theorem dX10_findRows_130 : decode cX10_findRows 130 = .ok (.aload_n 0, 1) := by decide +kernel
theorem dX10_findRows_131 : decode cX10_findRows 131 = .ok (.getfield 119, 3) := by decide +kernel
theorem dX10_findRows_134 : decode cX10_findRows 134 = .ok (.iload 5, 2) := by decide +kernel
theorem dX10_findRows_136 : decode cX10_findRows 136 = .ok (.iastore, 1) := by decide +kernel
theorem dX10_findRows_137 : decode cX10_findRows 137 = .ok (.aload_n 0, 1) := by decide +kernel
theorem dX10_findRows_138 : decode cX10_findRows 138 = .ok (.getfield 29, 3) := by decide +kernel
theorem dX10_findRows_141 : decode cX10_findRows 141 = .ok (.aload_n 0, 1) := by decide +kernel
theorem dX10_findRows_142 : decode cX10_findRows 142 = .ok (.getfield 119, 3) := by decide +kernel
theorem dX10_findRows_145 : decode cX10_findRows 145 = .ok (.iload 6, 2) := by decide +kernel
theorem dX10_findRows_147 : decode cX10_findRows 147 = .ok (.iastore, 1) := by decide +kernel
theorem dX10_findRows_148 : decode cX10_findRows 148 = .ok (.aload_n 0, 1) := by decide +kernel
theorem dX10_findRows_149 : decode cX10_findRows 149 = .ok (.dup, 1) := by decide +kernel
theorem dX10_findRows_150 : decode cX10_findRows 150 = .ok (.getfield 119, 3) := by decide +kernel
theorem dX10_findRows_153 : decode cX10_findRows 153 = .ok (.iconst 1, 1) := by decide +kernel
theorem dX10_findRows_154 : decode cX10_findRows 154 = .ok (.iadd, 1) := by decide +kernel
theorem dX10_findRows_155 : decode cX10_findRows 155 = .ok (.putfield 119, 3) := by decide +kernel
theorem dX10_findRows_158 : decode cX10_findRows 158 = .ok (.goto 10, 3) := by decide +kernel
theorem dX10_findRows_161 : decode cX10_findRows 161 = .ok (.iload 4, 2) := by decide +kernel
theorem dX10_findRows_163 : decode cX10_findRows 163 = .ok (.iload 6, 2) := by decide +kernel
theorem dX10_findRows_165 : decode cX10_findRows 165 = .ok (.ior, 1) := by decide +kernel
theorem dX10_findRows_166 : decode cX10_findRows 166 = .ok (.istore 4, 2) := by decide +kernel
theorem dX10_findRows_168 : decode cX10_findRows 168 = .ok (.iinc 5 1, 3) := by decide +kernel
theorem dX10_findRows_171 : decode cX10_findRows 171 = .ok (.goto (-85), 3) := by decide +kernel
theorem dX10_findRows_174 : decode cX10_findRows 174 = .ok (.iload 4, 2) := by decide +kernel
theorem dX10_findRows_176 : decode cX10_findRows 176 = .ok (.ifCond .eq 35, 3) := by decide +kernel
theorem dX10_findRows_179 : decode cX10_findRows 179 = .ok (.aload_n 0, 1) := by decide +kernel
theorem dX10_findRows_180 : decode cX10_findRows 180 = .ok (.getfield 26, 3) := by decide +kernel
theorem dX10_findRows_183 : decode cX10_findRows 183 = .ok (.aload_n 0, 1) := by decide +kernel
theorem dX10_findRows_184 : decode cX10_findRows 184 = .ok (.getfield 119, 3) := by decide +kernel
theorem dX10_findRows_187 : decode cX10_findRows 187 = .ok (.bipush 99, 2) := by decide +kernel
theorem dX10_findRows_189 : decode cX10_findRows 189 = .ok (.iastore, 1) := by decide +kernel
theorem dX10_findRows_190 : decode cX10_findRows 190 = .ok (.aload_n 0, 1) := by decide +kernel
theorem dX10_findRows_191 : decode cX10_findRows 191 = .ok (.getfield 29, 3) := by decide +kernel
theorem dX10_findRows_194 : decode cX10_findRows 194 = .ok (.aload_n 0, 1) := by decide +kernel
theorem dX10_findRows_195 : decode cX10_findRows 195 = .ok (.getfield 119, 3) := by decide +kernel
theorem dX10_findRows_198 : decode cX10_findRows 198 = .ok (.iload 4, 2) := by decide +kernel
theorem dX10_findRows_200 : decode cX10_findRows 200 = .ok (.iastore, 1) := by decide +kernel
theorem dX10_findRows_201 : decode cX10_findRows 201 = .ok (.aload_n 0, 1) := by decide +kernel
theorem dX10_findRows_202 : decode cX10_findRows 202 = .ok (.dup, 1) := by decide +kernel
theorem dX10_findRows_203 : decode cX10_findRows 203 = .ok (.getfield 119, 3) := by decide +kernel
theorem dX10_findRows_206 : decode cX10_findRows 206 = .ok (.iconst 1, 1) := by decide +kernel
theorem dX10_findRows_207 : decode cX10_findRows 207 = .ok (.iadd, 1) := by decide +kernel
theorem dX10_findRows_208 : decode cX10_findRows 208 = .ok (.putfield 119, 3) := by decide +kernel
theorem dX10_findRows_211 : decode cX10_findRows 211 = .ok (.return_, 1) := by decide +kernel
theorem dX10_findColumns_0 : decode cX10_findColumns 0 = .ok (.aload_n 0, 1) := by decide +kernel
theorem dX10_findColumns_1 : decode cX10_findColumns 1 = .ok (.iconst 0, 1) := by decide +kernel
theorem dX10_findColumns_2 : decode cX10_findColumns 2 = .ok (.putfield 154, 3) := by decide +kernel
theorem dX10_findColumns_5 : decode cX10_findColumns 5 = .ok (.iconst 0, 1) := by decide +kernel
theorem dX10_findColumns_6 : decode cX10_findColumns 6 = .ok (.istore_n 2, 1) := by decide +kernel
theorem dX10_findColumns_7 : decode cX10_findColumns 7 = .ok (.iload_n 2, 1) := by decide +kernel
theorem dX10_findColumns_8 : decode cX10_findColumns 8 = .ok (.bipush 20, 2) := by decide +kernel
theorem dX10_findColumns_10 : decode cX10_findColumns 10 = .ok (.if_icmp .gt 54, 3) := by decide +kernel
theorem dX10_findColumns_13 : decode cX10_findColumns 13 = .ok (.aload_n 0, 1) := by decide +kernel
theorem dX10_findColumns_14 : decode cX10_findColumns 14 = .ok (.iload_n 1, 1) := by decide +kernel
theorem dX10_findColumns_15 : decode cX10_findColumns 15 = .ok (.aload_n 0, 1) := by decide +kernel
theorem dX10_findColumns_16 : decode cX10_findColumns 16 = .ok (.getfield 13, 3) := by decide +kernel
theorem dX10_findColumns_19 : decode cX10_findColumns 19 = .ok (.iload_n 2, 1) := by decide +kernel
theorem dX10_findColumns_20 : decode cX10_findColumns 20 = .ok (.invokevirtual 144, 3) := by decide +kernel
theorem dX10_findColumns_23 : decode cX10_findColumns 23 = .ok (.istore_n 3, 1) := by decide +kernel
theorem dX10_findColumns_24 : decode cX10_findColumns 24 = .ok (.iload_n 3, 1) := by decide +kernel
theorem dX10_findColumns_25 : decode cX10_findColumns 25 = .ok (.ifCond .eq 33, 3) := by decide +kernel
theorem dX10_findColumns_28 : decode cX10_findColumns 28 = .ok (.aload_n 0, 1) := by decide +kernel
theorem dX10_findColumns_29 : decode cX10_findColumns 29 = .ok (.getfield 32, 3) := by decide +kernel
theorem dX10_findColumns_32 : decode cX10_findColumns 32 = .ok (.aload_n 0, 1) := by decide +kernel
theorem dX10_findColumns_33 : decode cX10_findColumns 33 = .ok (.getfield 154, 3) := by decide +kernel
theorem dX10_findColumns_36 : decode cX10_findColumns 36 = .ok (.iload_n 2, 1) := by decide +kernel
theorem dX10_findColumns_37 : decode cX10_findColumns 37 = .ok (.iastore, 1) := by decide +kernel
theorem dX10_findColumns_38 : decode cX10_findColumns 38 = .ok (.aload_n 0, 1) := by decide +kernel
theorem dX10_findColumns_39 : decode cX10_findColumns 39 = .ok (.getfield 35, 3) := by decide +kernel
theorem dX10_findColumns_42 : decode cX10_findColumns 42 = .ok (.aload_n 0, 1) := by decide +kernel
theorem dX10_findColumns_43 : decode cX10_findColumns 43 = .ok (.getfield 154, 3) := by decide +kernel
theorem dX10_findColumns_46 : decode cX10_findColumns 46 = .ok (.iload_n 3, 1) := by decide +kernel
theorem dX10_findColumns_47 : decode cX10_findColumns 47 = .ok (.iastore, 1) := by decide +kernel
theorem dX10_findColumns_48 : decode cX10_findColumns 48 = .ok (.aload_n 0, 1) := by decide +kernel
theorem dX10_findColumns_49 : decode cX10_findColumns 49 = .ok (.dup, 1) := by decide +kernel
theorem dX10_findColumns_50 : decode cX10_findColumns 50 = .ok (.getfield 154, 3) := by decide +kernel
theorem dX10_findColumns_53 : decode cX10_findColumns 53 = .ok (.iconst 1, 1) := by decide +kernel
theorem dX10_findColumns_54 : decode cX10_findColumns 54 = .ok (.iadd, 1) := by decide +kernel
theorem dX10_findColumns_55 : decode cX10_findColumns 55 = .ok (.putfield 154, 3) := by decide +kernel
theorem dX10_findColumns_58 : decode cX10_findColumns 58 = .ok (.iinc 2 1, 3) := by decide +kernel
theorem dX10_findColumns_61 : decode cX10_findColumns 61 = .ok (.goto (-54), 3) := by decide +kernel
theorem dX10_findColumns_64 : decode cX10_findColumns 64 = .ok (.return_, 1) := by decide +kernel
theorem dX10_rowOf_0 : decode cX10_rowOf 0 = .ok (.iconst 0, 1) := by decide +kernel
theorem dX10_rowOf_1 : decode cX10_rowOf 1 = .ok (.istore_n 2, 1) := by decide +kernel
theorem dX10_rowOf_2 : decode cX10_rowOf 2 = .ok (.iconst 0, 1) := by decide +kernel
theorem dX10_rowOf_3 : decode cX10_rowOf 3 = .ok (.istore_n 3, 1) := by decide +kernel
theorem dX10_rowOf_4 : decode cX10_rowOf 4 = .ok (.iload_n 3, 1) := by decide +kernel
theorem dX10_rowOf_5 : decode cX10_rowOf 5 = .ok (.aload_n 0, 1) := by decide +kernel
theorem dX10_rowOf_6 : decode cX10_rowOf 6 = .ok (.getfield 119, 3) := by decide +kernel
theorem dX10_rowOf_9 : decode cX10_rowOf 9 = .ok (.if_icmp .ge 32, 3) := by decide +kernel
theorem dX10_rowOf_12 : decode cX10_rowOf 12 = .ok (.iload_n 2, 1) := by decide +kernel
theorem dX10_rowOf_13 : decode cX10_rowOf 13 = .ok (.aload_n 0, 1) := by decide +kernel
theorem dX10_rowOf_14 : decode cX10_rowOf 14 = .ok (.getfield 26, 3) := by decide +kernel
theorem dX10_rowOf_17 : decode cX10_rowOf 17 = .ok (.iload_n 3, 1) := by decide +kernel
theorem dX10_rowOf_18 : decode cX10_rowOf 18 = .ok (.iaload, 1) := by decide +kernel
theorem dX10_rowOf_19 : decode cX10_rowOf 19 = .ok (.iload_n 1, 1) := by decide +kernel
theorem dX10_rowOf_20 : decode cX10_rowOf 20 = .ok (.if_icmp .ne 12, 3) := by decide +kernel
theorem dX10_rowOf_23 : decode cX10_rowOf 23 = .ok (.aload_n 0, 1) := by decide +kernel
theorem dX10_rowOf_24 : decode cX10_rowOf 24 = .ok (.getfield 29, 3) := by decide +kernel
theorem dX10_rowOf_27 : decode cX10_rowOf 27 = .ok (.iload_n 3, 1) := by decide +kernel
theorem dX10_rowOf_28 : decode cX10_rowOf 28 = .ok (.iaload, 1) := by decide +kernel
theorem dX10_rowOf_29 : decode cX10_rowOf 29 = .ok (.goto 4, 3) := by decide +kernel
theorem dX10_rowOf_32 : decode cX10_rowOf 32 = .ok (.iconst 0, 1) := by decide +kernel
theorem dX10_rowOf_33 : decode cX10_rowOf 33 = .ok (.ior, 1) := by decide +kernel
theorem dX10_rowOf_34 : decode cX10_rowOf 34 = .ok (.istore_n 2, 1) := by decide +kernel
theorem dX10_rowOf_35 : decode cX10_rowOf 35 = .ok (.iinc 3 1, 3) := by decide +kernel
theorem dX10_rowOf_38 : decode cX10_rowOf 38 = .ok (.goto (-34), 3) := by decide +kernel
theorem dX10_rowOf_41 : decode cX10_rowOf 41 = .ok (.iload_n 2, 1) := by decide +kernel
theorem dX10_rowOf_42 : decode cX10_rowOf 42 = .ok (.ireturn, 1) := by decide +kernel
theorem dX10_columnOf_0 : decode cX10_columnOf 0 = .ok (.iconst 0, 1) := by decide +kernel
theorem dX10_columnOf_1 : decode cX10_columnOf 1 = .ok (.istore_n 2, 1) := by decide +kernel
theorem dX10_columnOf_2 : decode cX10_columnOf 2 = .ok (.iconst 0, 1) := by decide +kernel
theorem dX10_columnOf_3 : decode cX10_columnOf 3 = .ok (.istore_n 3, 1) := by decide +kernel
theorem dX10_columnOf_4 : decode cX10_columnOf 4 = .ok (.iload_n 3, 1) := by decide +kernel
theorem dX10_columnOf_5 : decode cX10_columnOf 5 = .ok (.aload_n 0, 1) := by decide +kernel
theorem dX10_columnOf_6 : decode cX10_columnOf 6 = .ok (.getfield 154, 3) := by decide +kernel
theorem dX10_columnOf_9 : decode cX10_columnOf 9 = .ok (.if_icmp .ge 32, 3) := by decide +kernel
theorem dX10_columnOf_12 : decode cX10_columnOf 12 = .ok (.iload_n 2, 1) := by decide +kernel
theorem dX10_columnOf_13 : decode cX10_columnOf 13 = .ok (.aload_n 0, 1) := by decide +kernel
theorem dX10_columnOf_14 : decode cX10_columnOf 14 = .ok (.getfield 32, 3) := by decide +kernel
theorem dX10_columnOf_17 : decode cX10_columnOf 17 = .ok (.iload_n 3, 1) := by decide +kernel
theorem dX10_columnOf_18 : decode cX10_columnOf 18 = .ok (.iaload, 1) := by decide +kernel
theorem dX10_columnOf_19 : decode cX10_columnOf 19 = .ok (.iload_n 1, 1) := by decide +kernel
theorem dX10_columnOf_20 : decode cX10_columnOf 20 = .ok (.if_icmp .ne 12, 3) := by decide +kernel
theorem dX10_columnOf_23 : decode cX10_columnOf 23 = .ok (.aload_n 0, 1) := by decide +kernel
theorem dX10_columnOf_24 : decode cX10_columnOf 24 = .ok (.getfield 35, 3) := by decide +kernel
theorem dX10_columnOf_27 : decode cX10_columnOf 27 = .ok (.iload_n 3, 1) := by decide +kernel
theorem dX10_columnOf_28 : decode cX10_columnOf 28 = .ok (.iaload, 1) := by decide +kernel
theorem dX10_columnOf_29 : decode cX10_columnOf 29 = .ok (.goto 4, 3) := by decide +kernel
theorem dX10_columnOf_32 : decode cX10_columnOf 32 = .ok (.iconst 0, 1) := by decide +kernel
theorem dX10_columnOf_33 : decode cX10_columnOf 33 = .ok (.ior, 1) := by decide +kernel
theorem dX10_columnOf_34 : decode cX10_columnOf 34 = .ok (.istore_n 2, 1) := by decide +kernel
theorem dX10_columnOf_35 : decode cX10_columnOf 35 = .ok (.iinc 3 1, 3) := by decide +kernel
theorem dX10_columnOf_38 : decode cX10_columnOf 38 = .ok (.goto (-34), 3) := by decide +kernel
theorem dX10_columnOf_41 : decode cX10_columnOf 41 = .ok (.iload_n 2, 1) := by decide +kernel
theorem dX10_columnOf_42 : decode cX10_columnOf 42 = .ok (.ireturn, 1) := by decide +kernel
theorem dX10_keepAct_0 : decode cX10_keepAct 0 = .ok (.iconst 0, 1) := by decide +kernel
theorem dX10_keepAct_1 : decode cX10_keepAct 1 = .ok (.istore_n 1, 1) := by decide +kernel
theorem dX10_keepAct_2 : decode cX10_keepAct 2 = .ok (.iload_n 1, 1) := by decide +kernel
theorem dX10_keepAct_3 : decode cX10_keepAct 3 = .ok (.bipush 17, 2) := by decide +kernel
theorem dX10_keepAct_5 : decode cX10_keepAct 5 = .ok (.if_icmp .ge 29, 3) := by decide +kernel
theorem dX10_keepAct_8 : decode cX10_keepAct 8 = .ok (.aload_n 0, 1) := by decide +kernel
theorem dX10_keepAct_9 : decode cX10_keepAct 9 = .ok (.getfield 41, 3) := by decide +kernel
theorem dX10_keepAct_12 : decode cX10_keepAct 12 = .ok (.bipush 17, 2) := by decide +kernel
theorem dX10_keepAct_14 : decode cX10_keepAct 14 = .ok (.aload_n 0, 1) := by decide +kernel
theorem dX10_keepAct_15 : decode cX10_keepAct 15 = .ok (.getfield 157, 3) := by decide +kernel
theorem dX10_keepAct_18 : decode cX10_keepAct 18 = .ok (.imul, 1) := by decide +kernel
theorem dX10_keepAct_19 : decode cX10_keepAct 19 = .ok (.iload_n 1, 1) := by decide +kernel
theorem dX10_keepAct_20 : decode cX10_keepAct 20 = .ok (.iadd, 1) := by decide +kernel
theorem dX10_keepAct_21 : decode cX10_keepAct 21 = .ok (.aload_n 0, 1) := by decide +kernel
theorem dX10_keepAct_22 : decode cX10_keepAct 22 = .ok (.getfield 23, 3) := by decide +kernel
theorem dX10_keepAct_25 : decode cX10_keepAct 25 = .ok (.iload_n 1, 1) := by decide +kernel
theorem dX10_keepAct_26 : decode cX10_keepAct 26 = .ok (.iaload, 1) := by decide +kernel
theorem dX10_keepAct_27 : decode cX10_keepAct 27 = .ok (.iastore, 1) := by decide +kernel
theorem dX10_keepAct_28 : decode cX10_keepAct 28 = .ok (.iinc 1 1, 3) := by decide +kernel
theorem dX10_keepAct_31 : decode cX10_keepAct 31 = .ok (.goto (-29), 3) := by decide +kernel
theorem dX10_keepAct_34 : decode cX10_keepAct 34 = .ok (.aload_n 0, 1) := by decide +kernel
theorem dX10_keepAct_35 : decode cX10_keepAct 35 = .ok (.aload_n 0, 1) := by decide +kernel
theorem dX10_keepAct_36 : decode cX10_keepAct 36 = .ok (.getfield 157, 3) := by decide +kernel
theorem dX10_keepAct_39 : decode cX10_keepAct 39 = .ok (.iconst 1, 1) := by decide +kernel
theorem dX10_keepAct_40 : decode cX10_keepAct 40 = .ok (.iadd, 1) := by decide +kernel
theorem dX10_keepAct_41 : decode cX10_keepAct 41 = .ok (.bipush 14, 2) := by decide +kernel
theorem dX10_keepAct_43 : decode cX10_keepAct 43 = .ok (.irem, 1) := by decide +kernel
theorem dX10_keepAct_44 : decode cX10_keepAct 44 = .ok (.putfield 157, 3) := by decide +kernel
theorem dX10_keepAct_47 : decode cX10_keepAct 47 = .ok (.aload_n 0, 1) := by decide +kernel
theorem dX10_keepAct_48 : decode cX10_keepAct 48 = .ok (.aload_n 0, 1) := by decide +kernel
theorem dX10_keepAct_49 : decode cX10_keepAct 49 = .ok (.getfield 160, 3) := by decide +kernel
theorem dX10_keepAct_52 : decode cX10_keepAct 52 = .ok (.bipush 14, 2) := by decide +kernel
theorem dX10_keepAct_54 : decode cX10_keepAct 54 = .ok (.if_icmp .ge 12, 3) := by decide +kernel
theorem dX10_keepAct_57 : decode cX10_keepAct 57 = .ok (.aload_n 0, 1) := by decide +kernel
theorem dX10_keepAct_58 : decode cX10_keepAct 58 = .ok (.getfield 160, 3) := by decide +kernel
theorem dX10_keepAct_61 : decode cX10_keepAct 61 = .ok (.iconst 1, 1) := by decide +kernel
theorem dX10_keepAct_62 : decode cX10_keepAct 62 = .ok (.iadd, 1) := by decide +kernel
theorem dX10_keepAct_63 : decode cX10_keepAct 63 = .ok (.goto 5, 3) := by decide +kernel
theorem dX10_keepAct_66 : decode cX10_keepAct 66 = .ok (.bipush 14, 2) := by decide +kernel
theorem dX10_keepAct_68 : decode cX10_keepAct 68 = .ok (.putfield 160, 3) := by decide +kernel
theorem dX10_keepAct_71 : decode cX10_keepAct 71 = .ok (.return_, 1) := by decide +kernel
theorem dX10_isEntry_0 : decode cX10_isEntry 0 = .ok (.iload_n 0, 1) := by decide +kernel
theorem dX10_isEntry_1 : decode cX10_isEntry 1 = .ok (.i2l, 1) := by decide +kernel
theorem dX10_isEntry_2 : decode cX10_isEntry 2 = .ok (.lconst 0, 1) := by decide +kernel
theorem dX10_isEntry_3 : decode cX10_isEntry 3 = .ok (.ldc2_w 163, 3) := by decide +kernel
theorem dX10_isEntry_6 : decode cX10_isEntry 6 = .ok (.invokestatic 62, 3) := by decide +kernel
theorem dX10_isEntry_9 : decode cX10_isEntry 9 = .ok (.ifCond .eq 31, 3) := by decide +kernel
theorem dX10_isEntry_12 : decode cX10_isEntry 12 = .ok (.iload_n 1, 1) := by decide +kernel
theorem dX10_isEntry_13 : decode cX10_isEntry 13 = .ok (.i2l, 1) := by decide +kernel
theorem dX10_isEntry_14 : decode cX10_isEntry 14 = .ok (.lconst 0, 1) := by decide +kernel
theorem dX10_isEntry_15 : decode cX10_isEntry 15 = .ok (.ldc2_w 165, 3) := by decide +kernel
theorem dX10_isEntry_18 : decode cX10_isEntry 18 = .ok (.invokestatic 62, 3) := by decide +kernel
theorem dX10_isEntry_21 : decode cX10_isEntry 21 = .ok (.ifCond .eq 19, 3) := by decide +kernel
theorem dX10_isEntry_24 : decode cX10_isEntry 24 = .ok (.iload_n 2, 1) := by decide +kernel
theorem dX10_isEntry_25 : decode cX10_isEntry 25 = .ok (.i2l, 1) := by decide +kernel
theorem dX10_isEntry_26 : decode cX10_isEntry 26 = .ok (.lconst 0, 1) := by decide +kernel
theorem dX10_isEntry_27 : decode cX10_isEntry 27 = .ok (.ldc2_w 167, 3) := by decide +kernel
theorem dX10_isEntry_30 : decode cX10_isEntry 30 = .ok (.invokestatic 62, 3) := by decide +kernel
theorem dX10_isEntry_33 : decode cX10_isEntry 33 = .ok (.ifCond .eq 7, 3) := by decide +kernel
theorem dX10_isEntry_36 : decode cX10_isEntry 36 = .ok (.iconst 1, 1) := by decide +kernel
theorem dX10_isEntry_37 : decode cX10_isEntry 37 = .ok (.goto 4, 3) := by decide +kernel
theorem dX10_isEntry_40 : decode cX10_isEntry 40 = .ok (.iconst 0, 1) := by decide +kernel
theorem dX10_isEntry_41 : decode cX10_isEntry 41 = .ok (.ireturn, 1) := by decide +kernel
theorem dX10_asOne_0 : decode cX10_asOne 0 = .ok (.sipush 10000, 3) := by decide +kernel
theorem dX10_asOne_3 : decode cX10_asOne 3 = .ok (.iload_n 0, 1) := by decide +kernel
theorem dX10_asOne_4 : decode cX10_asOne 4 = .ok (.imul, 1) := by decide +kernel
theorem dX10_asOne_5 : decode cX10_asOne 5 = .ok (.sipush 1000, 3) := by decide +kernel
theorem dX10_asOne_8 : decode cX10_asOne 8 = .ok (.iload_n 1, 1) := by decide +kernel
theorem dX10_asOne_9 : decode cX10_asOne 9 = .ok (.imul, 1) := by decide +kernel
theorem dX10_asOne_10 : decode cX10_asOne 10 = .ok (.iadd, 1) := by decide +kernel
theorem dX10_asOne_11 : decode cX10_asOne 11 = .ok (.iload_n 2, 1) := by decide +kernel
theorem dX10_asOne_12 : decode cX10_asOne 12 = .ok (.iadd, 1) := by decide +kernel
theorem dX10_asOne_13 : decode cX10_asOne 13 = .ok (.ireturn, 1) := by decide +kernel
theorem dX10_add_0 : decode cX10_add 0 = .ok (.iload_n 1, 1) := by decide +kernel
theorem dX10_add_1 : decode cX10_add 1 = .ok (.iload_n 2, 1) := by decide +kernel
theorem dX10_add_2 : decode cX10_add 2 = .ok (.iload_n 3, 1) := by decide +kernel
theorem dX10_add_3 : decode cX10_add 3 = .ok (.invokestatic 169, 3) := by decide +kernel
theorem dX10_add_6 : decode cX10_add 6 = .ok (.ifCond .ne 6, 3) := by decide +kernel
theorem dX10_add_9 : decode cX10_add 9 = .ok (.bipush (-2), 2) := by decide +kernel
theorem dX10_add_11 : decode cX10_add 11 = .ok (.ireturn, 1) := by decide +kernel
theorem dX10_add_12 : decode cX10_add 12 = .ok (.aload_n 0, 1) := by decide +kernel
theorem dX10_add_13 : decode cX10_add 13 = .ok (.iconst 0, 1) := by decide +kernel
theorem dX10_add_14 : decode cX10_add 14 = .ok (.invokevirtual 127, 3) := by decide +kernel
theorem dX10_add_17 : decode cX10_add 17 = .ok (.bipush 16, 2) := by decide +kernel
theorem dX10_add_19 : decode cX10_add 19 = .ok (.if_icmp .ne 6, 3) := by decide +kernel
theorem dX10_add_22 : decode cX10_add 22 = .ok (.bipush (-4), 2) := by decide +kernel
theorem dX10_add_24 : decode cX10_add 24 = .ok (.ireturn, 1) := by decide +kernel
theorem dX10_add_25 : decode cX10_add 25 = .ok (.aload_n 0, 1) := by decide +kernel
theorem dX10_add_26 : decode cX10_add 26 = .ok (.invokevirtual 173, 3) := by decide +kernel
theorem dX10_add_29 : decode cX10_add 29 = .ok (.aload_n 0, 1) := by decide +kernel
theorem dX10_add_30 : decode cX10_add 30 = .ok (.iconst 0, 1) := by decide +kernel
theorem dX10_add_31 : decode cX10_add 31 = .ok (.iload_n 1, 1) := by decide +kernel
theorem dX10_add_32 : decode cX10_add 32 = .ok (.iload_n 2, 1) := by decide +kernel
theorem dX10_add_33 : decode cX10_add 33 = .ok (.iload_n 3, 1) := by decide +kernel
theorem dX10_add_34 : decode cX10_add 34 = .ok (.invokestatic 176, 3) := by decide +kernel
theorem dX10_add_37 : decode cX10_add 37 = .ok (.invokevirtual 179, 3) := by decide +kernel
theorem dX10_add_40 : decode cX10_add 40 = .ok (.aload_n 0, 1) := by decide +kernel
theorem dX10_add_41 : decode cX10_add 41 = .ok (.iconst 0, 1) := by decide +kernel
theorem dX10_add_42 : decode cX10_add 42 = .ok (.invokevirtual 127, 3) := by decide +kernel
theorem dX10_add_45 : decode cX10_add 45 = .ok (.ireturn, 1) := by decide +kernel
theorem dX10_isThere_0 : decode cX10_isThere 0 = .ok (.iload_n 1, 1) := by decide +kernel
theorem dX10_isThere_1 : decode cX10_isThere 1 = .ok (.i2l, 1) := by decide +kernel
theorem dX10_isThere_2 : decode cX10_isThere 2 = .ok (.lconst 0, 1) := by decide +kernel
theorem dX10_isThere_3 : decode cX10_isThere 3 = .ok (.aload_n 0, 1) := by decide +kernel
theorem dX10_isThere_4 : decode cX10_isThere 4 = .ok (.iconst 0, 1) := by decide +kernel
theorem dX10_isThere_5 : decode cX10_isThere 5 = .ok (.invokevirtual 127, 3) := by decide +kernel
theorem dX10_isThere_8 : decode cX10_isThere 8 = .ok (.iconst 1, 1) := by decide +kernel
theorem dX10_isThere_9 : decode cX10_isThere 9 = .ok (.isub, 1) := by decide +kernel
theorem dX10_isThere_10 : decode cX10_isThere 10 = .ok (.i2l, 1) := by decide +kernel
theorem dX10_isThere_11 : decode cX10_isThere 11 = .ok (.invokestatic 62, 3) := by decide +kernel
theorem dX10_isThere_14 : decode cX10_isThere 14 = .ok (.ireturn, 1) := by decide +kernel
theorem dX10_drop_0 : decode cX10_drop 0 = .ok (.aload_n 0, 1) := by decide +kernel
theorem dX10_drop_1 : decode cX10_drop 1 = .ok (.iload_n 1, 1) := by decide +kernel
theorem dX10_drop_2 : decode cX10_drop 2 = .ok (.invokevirtual 182, 3) := by decide +kernel
theorem dX10_drop_5 : decode cX10_drop 5 = .ok (.ifCond .ne 5, 3) := by decide +kernel
theorem dX10_drop_8 : decode cX10_drop 8 = .ok (.iconst (-1), 1) := by decide +kernel
theorem dX10_drop_9 : decode cX10_drop 9 = .ok (.ireturn, 1) := by decide +kernel
theorem dX10_drop_10 : decode cX10_drop 10 = .ok (.aload_n 0, 1) := by decide +kernel
theorem dX10_drop_11 : decode cX10_drop 11 = .ok (.invokevirtual 173, 3) := by decide +kernel
theorem dX10_drop_14 : decode cX10_drop 14 = .ok (.aload_n 0, 1) := by decide +kernel
theorem dX10_drop_15 : decode cX10_drop 15 = .ok (.iconst 0, 1) := by decide +kernel
theorem dX10_drop_16 : decode cX10_drop 16 = .ok (.iload_n 1, 1) := by decide +kernel
theorem dX10_drop_17 : decode cX10_drop 17 = .ok (.invokevirtual 134, 3) := by decide +kernel
theorem dX10_drop_20 : decode cX10_drop 20 = .ok (.istore_n 2, 1) := by decide +kernel
theorem dX10_drop_21 : decode cX10_drop 21 = .ok (.aload_n 0, 1) := by decide +kernel
theorem dX10_drop_22 : decode cX10_drop 22 = .ok (.iconst 0, 1) := by decide +kernel
theorem dX10_drop_23 : decode cX10_drop 23 = .ok (.iload_n 1, 1) := by decide +kernel
theorem dX10_drop_24 : decode cX10_drop 24 = .ok (.invokevirtual 186, 3) := by decide +kernel
theorem dX10_drop_27 : decode cX10_drop 27 = .ok (.iload_n 2, 1) := by decide +kernel
theorem dX10_drop_28 : decode cX10_drop 28 = .ok (.ireturn, 1) := by decide +kernel
theorem dX10_change_0 : decode cX10_change 0 = .ok (.aload_n 0, 1) := by decide +kernel
theorem dX10_change_1 : decode cX10_change 1 = .ok (.iload_n 1, 1) := by decide +kernel
theorem dX10_change_2 : decode cX10_change 2 = .ok (.invokevirtual 182, 3) := by decide +kernel
theorem dX10_change_5 : decode cX10_change 5 = .ok (.ifCond .ne 5, 3) := by decide +kernel
theorem dX10_change_8 : decode cX10_change 8 = .ok (.iconst (-1), 1) := by decide +kernel
theorem dX10_change_9 : decode cX10_change 9 = .ok (.ireturn, 1) := by decide +kernel
theorem dX10_change_10 : decode cX10_change 10 = .ok (.iload_n 2, 1) := by decide +kernel
theorem dX10_change_11 : decode cX10_change 11 = .ok (.i2l, 1) := by decide +kernel
theorem dX10_change_12 : decode cX10_change 12 = .ok (.lconst 0, 1) := by decide +kernel
theorem dX10_change_13 : decode cX10_change 13 = .ok (.ldc2_w 167, 3) := by decide +kernel
theorem dX10_change_16 : decode cX10_change 16 = .ok (.invokestatic 62, 3) := by decide +kernel
theorem dX10_change_19 : decode cX10_change 19 = .ok (.ifCond .ne 6, 3) := by decide +kernel
theorem dX10_change_22 : decode cX10_change 22 = .ok (.bipush (-2), 2) := by decide +kernel
theorem dX10_change_24 : decode cX10_change 24 = .ok (.ireturn, 1) := by decide +kernel
theorem dX10_change_25 : decode cX10_change 25 = .ok (.aload_n 0, 1) := by decide +kernel
theorem dX10_change_26 : decode cX10_change 26 = .ok (.invokevirtual 173, 3) := by decide +kernel
theorem dX10_change_29 : decode cX10_change 29 = .ok (.aload_n 0, 1) := by decide +kernel
theorem dX10_change_30 : decode cX10_change 30 = .ok (.iconst 0, 1) := by decide +kernel
theorem dX10_change_31 : decode cX10_change 31 = .ok (.iload_n 1, 1) := by decide +kernel
theorem dX10_change_32 : decode cX10_change 32 = .ok (.invokevirtual 134, 3) := by decide +kernel
theorem dX10_change_35 : decode cX10_change 35 = .ok (.istore_n 3, 1) := by decide +kernel
theorem dX10_change_36 : decode cX10_change 36 = .ok (.aload_n 0, 1) := by decide +kernel
theorem dX10_change_37 : decode cX10_change 37 = .ok (.getfield 23, 3) := by decide +kernel
theorem dX10_change_40 : decode cX10_change 40 = .ok (.iconst 1, 1) := by decide +kernel
theorem dX10_change_41 : decode cX10_change 41 = .ok (.iload_n 1, 1) := by decide +kernel
theorem dX10_change_42 : decode cX10_change 42 = .ok (.iadd, 1) := by decide +kernel
theorem dX10_change_43 : decode cX10_change 43 = .ok (.dup2, 1) := by decide +kernel
theorem dX10_change_44 : decode cX10_change 44 = .ok (.iaload, 1) := by decide +kernel
theorem dX10_change_45 : decode cX10_change 45 = .ok (.iload_n 2, 1) := by decide +kernel
theorem dX10_change_46 : decode cX10_change 46 = .ok (.iload_n 3, 1) := by decide +kernel
theorem dX10_change_47 : decode cX10_change 47 = .ok (.isub, 1) := by decide +kernel
theorem dX10_change_48 : decode cX10_change 48 = .ok (.iadd, 1) := by decide +kernel
theorem dX10_change_49 : decode cX10_change 49 = .ok (.iastore, 1) := by decide +kernel
theorem dX10_change_50 : decode cX10_change 50 = .ok (.iload_n 3, 1) := by decide +kernel
theorem dX10_change_51 : decode cX10_change 51 = .ok (.ireturn, 1) := by decide +kernel
theorem dX10_undo_0 : decode cX10_undo 0 = .ok (.aload_n 0, 1) := by decide +kernel
theorem dX10_undo_1 : decode cX10_undo 1 = .ok (.getfield 160, 3) := by decide +kernel
theorem dX10_undo_4 : decode cX10_undo 4 = .ok (.ifCond .ne 6, 3) := by decide +kernel
theorem dX10_undo_7 : decode cX10_undo 7 = .ok (.bipush (-3), 2) := by decide +kernel
theorem dX10_undo_9 : decode cX10_undo 9 = .ok (.ireturn, 1) := by decide +kernel
theorem dX10_undo_10 : decode cX10_undo 10 = .ok (.aload_n 0, 1) := by decide +kernel
theorem dX10_undo_11 : decode cX10_undo 11 = .ok (.dup, 1) := by decide +kernel
theorem dX10_undo_12 : decode cX10_undo 12 = .ok (.getfield 160, 3) := by decide +kernel
theorem dX10_undo_15 : decode cX10_undo 15 = .ok (.iconst 1, 1) := by decide +kernel
theorem dX10_undo_16 : decode cX10_undo 16 = .ok (.isub, 1) := by decide +kernel
theorem dX10_undo_17 : decode cX10_undo 17 = .ok (.putfield 160, 3) := by decide +kernel
theorem dX10_undo_20 : decode cX10_undo 20 = .ok (.aload_n 0, 1) := by decide +kernel
theorem dX10_undo_21 : decode cX10_undo 21 = .ok (.aload_n 0, 1) := by decide +kernel
theorem dX10_undo_22 : decode cX10_undo 22 = .ok (.getfield 157, 3) := by decide +kernel
theorem dX10_undo_25 : decode cX10_undo 25 = .ok (.bipush 13, 2) := by decide +kernel
theorem dX10_undo_27 : decode cX10_undo 27 = .ok (.iadd, 1) := by decide +kernel
theorem dX10_undo_28 : decode cX10_undo 28 = .ok (.bipush 14, 2) := by decide +kernel
theorem dX10_undo_30 : decode cX10_undo 30 = .ok (.irem, 1) := by decide +kernel
theorem dX10_undo_31 : decode cX10_undo 31 = .ok (.putfield 157, 3) := by decide +kernel
theorem dX10_undo_34 : decode cX10_undo 34 = .ok (.iconst 0, 1) := by decide +kernel
theorem dX10_undo_35 : decode cX10_undo 35 = .ok (.istore_n 1, 1) := by decide +kernel
theorem dX10_undo_36 : decode cX10_undo 36 = .ok (.iload_n 1, 1) := by decide +kernel
theorem dX10_undo_37 : decode cX10_undo 37 = .ok (.bipush 17, 2) := by decide +kernel
theorem dX10_undo_39 : decode cX10_undo 39 = .ok (.if_icmp .ge 29, 3) := by decide +kernel
theorem dX10_undo_42 : decode cX10_undo 42 = .ok (.aload_n 0, 1) := by decide +kernel
theorem dX10_undo_43 : decode cX10_undo 43 = .ok (.getfield 23, 3) := by decide +kernel
theorem dX10_undo_46 : decode cX10_undo 46 = .ok (.iload_n 1, 1) := by decide +kernel
theorem dX10_undo_47 : decode cX10_undo 47 = .ok (.aload_n 0, 1) := by decide +kernel
theorem dX10_undo_48 : decode cX10_undo 48 = .ok (.getfield 41, 3) := by decide +kernel
theorem dX10_undo_51 : decode cX10_undo 51 = .ok (.bipush 17, 2) := by decide +kernel
theorem dX10_undo_53 : decode cX10_undo 53 = .ok (.aload_n 0, 1) := by decide +kernel
theorem dX10_undo_54 : decode cX10_undo 54 = .ok (.getfield 157, 3) := by decide +kernel
theorem dX10_undo_57 : decode cX10_undo 57 = .ok (.imul, 1) := by decide +kernel
theorem dX10_undo_58 : decode cX10_undo 58 = .ok (.iload_n 1, 1) := by decide +kernel
theorem dX10_undo_59 : decode cX10_undo 59 = .ok (.iadd, 1) := by decide +kernel
theorem dX10_undo_60 : decode cX10_undo 60 = .ok (.iaload, 1) := by decide +kernel
theorem dX10_undo_61 : decode cX10_undo 61 = .ok (.iastore, 1) := by decide +kernel
theorem dX10_undo_62 : decode cX10_undo 62 = .ok (.iinc 1 1, 3) := by decide +kernel
theorem dX10_undo_65 : decode cX10_undo 65 = .ok (.goto (-29), 3) := by decide +kernel
theorem dX10_undo_68 : decode cX10_undo 68 = .ok (.aload_n 0, 1) := by decide +kernel
theorem dX10_undo_69 : decode cX10_undo 69 = .ok (.getfield 160, 3) := by decide +kernel
theorem dX10_undo_72 : decode cX10_undo 72 = .ok (.ireturn, 1) := by decide +kernel
theorem dX10_rowKeyOf_0 : decode cX10_rowKeyOf 0 = .ok (.bipush (-9), 2) := by decide +kernel
theorem dX10_rowKeyOf_2 : decode cX10_rowKeyOf 2 = .ok (.istore_n 2, 1) := by decide +kernel
theorem dX10_rowKeyOf_3 : decode cX10_rowKeyOf 3 = .ok (.iconst 0, 1) := by decide +kernel
theorem dX10_rowKeyOf_4 : decode cX10_rowKeyOf 4 = .ok (.istore_n 3, 1) := by decide +kernel
theorem dX10_rowKeyOf_5 : decode cX10_rowKeyOf 5 = .ok (.iload_n 3, 1) := by decide +kernel
theorem dX10_rowKeyOf_6 : decode cX10_rowKeyOf 6 = .ok (.aload_n 0, 1) := by decide +kernel
theorem dX10_rowKeyOf_7 : decode cX10_rowKeyOf 7 = .ok (.getfield 119, 3) := by decide +kernel
theorem dX10_rowKeyOf_10 : decode cX10_rowKeyOf 10 = .ok (.if_icmp .ge 33, 3) := by decide +kernel
theorem dX10_rowKeyOf_13 : decode cX10_rowKeyOf 13 = .ok (.aload_n 0, 1) := by decide +kernel
theorem dX10_rowKeyOf_14 : decode cX10_rowKeyOf 14 = .ok (.getfield 29, 3) := by decide +kernel
theorem dX10_rowKeyOf_17 : decode cX10_rowKeyOf 17 = .ok (.iload_n 3, 1) := by decide +kernel
theorem dX10_rowKeyOf_18 : decode cX10_rowKeyOf 18 = .ok (.iaload, 1) := by decide +kernel
theorem dX10_rowKeyOf_19 : decode cX10_rowKeyOf 19 = .ok (.iload_n 1, 1) := by decide +kernel
theorem dX10_rowKeyOf_20 : decode cX10_rowKeyOf 20 = .ok (.invokestatic 130, 3) := by decide +kernel
theorem dX10_rowKeyOf_23 : decode cX10_rowKeyOf 23 = .ok (.ifCond .eq 12, 3) := by decide +kernel
theorem dX10_rowKeyOf_26 : decode cX10_rowKeyOf 26 = .ok (.aload_n 0, 1) := by decide +kernel
theorem dX10_rowKeyOf_27 : decode cX10_rowKeyOf 27 = .ok (.getfield 26, 3) := by decide +kernel
theorem dX10_rowKeyOf_30 : decode cX10_rowKeyOf 30 = .ok (.iload_n 3, 1) := by decide +kernel
theorem dX10_rowKeyOf_31 : decode cX10_rowKeyOf 31 = .ok (.iaload, 1) := by decide +kernel
theorem dX10_rowKeyOf_32 : decode cX10_rowKeyOf 32 = .ok (.goto 4, 3) := by decide +kernel
theorem dX10_rowKeyOf_35 : decode cX10_rowKeyOf 35 = .ok (.iload_n 2, 1) := by decide +kernel
theorem dX10_rowKeyOf_36 : decode cX10_rowKeyOf 36 = .ok (.istore_n 2, 1) := by decide +kernel
theorem dX10_rowKeyOf_37 : decode cX10_rowKeyOf 37 = .ok (.iinc 3 1, 3) := by decide +kernel
theorem dX10_rowKeyOf_40 : decode cX10_rowKeyOf 40 = .ok (.goto (-35), 3) := by decide +kernel
theorem dX10_rowKeyOf_43 : decode cX10_rowKeyOf 43 = .ok (.iload_n 2, 1) := by decide +kernel
theorem dX10_rowKeyOf_44 : decode cX10_rowKeyOf 44 = .ok (.ireturn, 1) := by decide +kernel
theorem dX10_entry_0 : decode cX10_entry 0 = .ok (.aload_n 0, 1) := by decide +kernel
theorem dX10_entry_1 : decode cX10_entry 1 = .ok (.iload_n 1, 1) := by decide +kernel
theorem dX10_entry_2 : decode cX10_entry 2 = .ok (.invokevirtual 182, 3) := by decide +kernel
theorem dX10_entry_5 : decode cX10_entry 5 = .ok (.ifCond .ne 5, 3) := by decide +kernel
theorem dX10_entry_8 : decode cX10_entry 8 = .ok (.iconst (-1), 1) := by decide +kernel
theorem dX10_entry_9 : decode cX10_entry 9 = .ok (.ireturn, 1) := by decide +kernel
theorem dX10_entry_10 : decode cX10_entry 10 = .ok (.aload_n 0, 1) := by decide +kernel
theorem dX10_entry_11 : decode cX10_entry 11 = .ok (.iconst 0, 1) := by decide +kernel
theorem dX10_entry_12 : decode cX10_entry 12 = .ok (.invokevirtual 115, 3) := by decide +kernel
theorem dX10_entry_15 : decode cX10_entry 15 = .ok (.iload_n 2, 1) := by decide +kernel
theorem dX10_entry_16 : decode cX10_entry 16 = .ok (.tableswitch 76 0 4 #[36, 44, 52, 59, 65], 36) := by decide +kernel
theorem dX10_entry_52 : decode cX10_entry 52 = .ok (.aload_n 0, 1) := by decide +kernel
theorem dX10_entry_53 : decode cX10_entry 53 = .ok (.iconst 0, 1) := by decide +kernel
theorem dX10_entry_54 : decode cX10_entry 54 = .ok (.iload_n 1, 1) := by decide +kernel
theorem dX10_entry_55 : decode cX10_entry 55 = .ok (.iconst 0, 1) := by decide +kernel
theorem dX10_entry_56 : decode cX10_entry 56 = .ok (.invokevirtual 140, 3) := by decide +kernel
theorem dX10_entry_59 : decode cX10_entry 59 = .ok (.ireturn, 1) := by decide +kernel
theorem dX10_entry_60 : decode cX10_entry 60 = .ok (.aload_n 0, 1) := by decide +kernel
theorem dX10_entry_61 : decode cX10_entry 61 = .ok (.iconst 0, 1) := by decide +kernel
theorem dX10_entry_62 : decode cX10_entry 62 = .ok (.iload_n 1, 1) := by decide +kernel
theorem dX10_entry_63 : decode cX10_entry 63 = .ok (.iconst 1, 1) := by decide +kernel
theorem dX10_entry_64 : decode cX10_entry 64 = .ok (.invokevirtual 140, 3) := by decide +kernel
theorem dX10_entry_67 : decode cX10_entry 67 = .ok (.ireturn, 1) := by decide +kernel
theorem dX10_entry_68 : decode cX10_entry 68 = .ok (.aload_n 0, 1) := by decide +kernel
theorem dX10_entry_69 : decode cX10_entry 69 = .ok (.iconst 0, 1) := by decide +kernel
theorem dX10_entry_70 : decode cX10_entry 70 = .ok (.iload_n 1, 1) := by decide +kernel
theorem dX10_entry_71 : decode cX10_entry 71 = .ok (.invokevirtual 134, 3) := by decide +kernel
theorem dX10_entry_74 : decode cX10_entry 74 = .ok (.ireturn, 1) := by decide +kernel
theorem dX10_entry_75 : decode cX10_entry 75 = .ok (.aload_n 0, 1) := by decide +kernel
theorem dX10_entry_76 : decode cX10_entry 76 = .ok (.iload_n 1, 1) := by decide +kernel
theorem dX10_entry_77 : decode cX10_entry 77 = .ok (.invokevirtual 189, 3) := by decide +kernel
theorem dX10_entry_80 : decode cX10_entry 80 = .ok (.ireturn, 1) := by decide +kernel
theorem dX10_entry_81 : decode cX10_entry 81 = .ok (.aload_n 0, 1) := by decide +kernel
theorem dX10_entry_82 : decode cX10_entry 82 = .ok (.iconst 0, 1) := by decide +kernel
theorem dX10_entry_83 : decode cX10_entry 83 = .ok (.iload_n 1, 1) := by decide +kernel
theorem dX10_entry_84 : decode cX10_entry 84 = .ok (.aload_n 0, 1) := by decide +kernel
theorem dX10_entry_85 : decode cX10_entry 85 = .ok (.getfield 13, 3) := by decide +kernel
theorem dX10_entry_88 : decode cX10_entry 88 = .ok (.invokevirtual 140, 3) := by decide +kernel
theorem dX10_entry_91 : decode cX10_entry 91 = .ok (.ireturn, 1) := by decide +kernel
theorem dX10_entry_92 : decode cX10_entry 92 = .ok (.bipush (-2), 2) := by decide +kernel
theorem dX10_entry_94 : decode cX10_entry 94 = .ok (.ireturn, 1) := by decide +kernel
theorem dX10_key_0 : decode cX10_key 0 = .ok (.iload_n 1, 1) := by decide +kernel
theorem dX10_key_1 : decode cX10_key 1 = .ok (.i2l, 1) := by decide +kernel
theorem dX10_key_2 : decode cX10_key 2 = .ok (.lconst 0, 1) := by decide +kernel
theorem dX10_key_3 : decode cX10_key 3 = .ok (.lconst 1, 1) := by decide +kernel
theorem dX10_key_4 : decode cX10_key 4 = .ok (.invokestatic 62, 3) := by decide +kernel
theorem dX10_key_7 : decode cX10_key 7 = .ok (.ifCond .ne 6, 3) := by decide +kernel
theorem dX10_key_10 : decode cX10_key 10 = .ok (.bipush (-2), 2) := by decide +kernel
theorem dX10_key_12 : decode cX10_key 12 = .ok (.ireturn, 1) := by decide +kernel
theorem dX10_key_13 : decode cX10_key 13 = .ok (.aload_n 0, 1) := by decide +kernel
theorem dX10_key_14 : decode cX10_key 14 = .ok (.iconst 0, 1) := by decide +kernel
theorem dX10_key_15 : decode cX10_key 15 = .ok (.invokevirtual 115, 3) := by decide +kernel
theorem dX10_key_18 : decode cX10_key 18 = .ok (.aload_n 0, 1) := by decide +kernel
theorem dX10_key_19 : decode cX10_key 19 = .ok (.iconst 0, 1) := by decide +kernel
theorem dX10_key_20 : decode cX10_key 20 = .ok (.invokevirtual 192, 3) := by decide +kernel
theorem dX10_key_23 : decode cX10_key 23 = .ok (.iload_n 1, 1) := by decide +kernel
theorem dX10_key_24 : decode cX10_key 24 = .ok (.ifCond .ne 31, 3) := by decide +kernel
theorem dX10_key_27 : decode cX10_key 27 = .ok (.iload_n 2, 1) := by decide +kernel
theorem dX10_key_28 : decode cX10_key 28 = .ok (.i2l, 1) := by decide +kernel
theorem dX10_key_29 : decode cX10_key 29 = .ok (.lconst 0, 1) := by decide +kernel
theorem dX10_key_30 : decode cX10_key 30 = .ok (.aload_n 0, 1) := by decide +kernel
theorem dX10_key_31 : decode cX10_key 31 = .ok (.getfield 119, 3) := by decide +kernel
theorem dX10_key_34 : decode cX10_key 34 = .ok (.iconst 1, 1) := by decide +kernel
theorem dX10_key_35 : decode cX10_key 35 = .ok (.isub, 1) := by decide +kernel
theorem dX10_key_36 : decode cX10_key 36 = .ok (.i2l, 1) := by decide +kernel
theorem dX10_key_37 : decode cX10_key 37 = .ok (.invokestatic 62, 3) := by decide +kernel
theorem dX10_key_40 : decode cX10_key 40 = .ok (.ifCond .eq 12, 3) := by decide +kernel
theorem dX10_key_43 : decode cX10_key 43 = .ok (.aload_n 0, 1) := by decide +kernel
theorem dX10_key_44 : decode cX10_key 44 = .ok (.getfield 26, 3) := by decide +kernel
theorem dX10_key_47 : decode cX10_key 47 = .ok (.iload_n 2, 1) := by decide +kernel
theorem dX10_key_48 : decode cX10_key 48 = .ok (.iaload, 1) := by decide +kernel
theorem dX10_key_49 : decode cX10_key 49 = .ok (.goto 5, 3) := by decide +kernel
theorem dX10_key_52 : decode cX10_key 52 = .ok (.bipush (-9), 2) := by decide +kernel
theorem dX10_key_54 : decode cX10_key 54 = .ok (.ireturn, 1) := by decide +kernel
theorem dX10_key_55 : decode cX10_key 55 = .ok (.iload_n 2, 1) := by decide +kernel
theorem dX10_key_56 : decode cX10_key 56 = .ok (.i2l, 1) := by decide +kernel
theorem dX10_key_57 : decode cX10_key 57 = .ok (.lconst 0, 1) := by decide +kernel
theorem dX10_key_58 : decode cX10_key 58 = .ok (.aload_n 0, 1) := by decide +kernel
theorem dX10_key_59 : decode cX10_key 59 = .ok (.getfield 154, 3) := by decide +kernel
theorem dX10_key_62 : decode cX10_key 62 = .ok (.iconst 1, 1) := by decide +kernel
theorem dX10_key_63 : decode cX10_key 63 = .ok (.isub, 1) := by decide +kernel
theorem dX10_key_64 : decode cX10_key 64 = .ok (.i2l, 1) := by decide +kernel
theorem dX10_key_65 : decode cX10_key 65 = .ok (.invokestatic 62, 3) := by decide +kernel
theorem dX10_key_68 : decode cX10_key 68 = .ok (.ifCond .eq 12, 3) := by decide +kernel
theorem dX10_key_71 : decode cX10_key 71 = .ok (.aload_n 0, 1) := by decide +kernel
theorem dX10_key_72 : decode cX10_key 72 = .ok (.getfield 32, 3) := by decide +kernel
theorem dX10_key_75 : decode cX10_key 75 = .ok (.iload_n 2, 1) := by decide +kernel
theorem dX10_key_76 : decode cX10_key 76 = .ok (.iaload, 1) := by decide +kernel
theorem dX10_key_77 : decode cX10_key 77 = .ok (.goto 5, 3) := by decide +kernel
theorem dX10_key_80 : decode cX10_key 80 = .ok (.bipush (-9), 2) := by decide +kernel
theorem dX10_key_82 : decode cX10_key 82 = .ok (.ireturn, 1) := by decide +kernel
theorem dX10_cell_0 : decode cX10_cell 0 = .ok (.aload_n 0, 1) := by decide +kernel
theorem dX10_cell_1 : decode cX10_cell 1 = .ok (.iconst 0, 1) := by decide +kernel
theorem dX10_cell_2 : decode cX10_cell 2 = .ok (.invokevirtual 115, 3) := by decide +kernel
theorem dX10_cell_5 : decode cX10_cell 5 = .ok (.aload_n 0, 1) := by decide +kernel
theorem dX10_cell_6 : decode cX10_cell 6 = .ok (.iconst 0, 1) := by decide +kernel
theorem dX10_cell_7 : decode cX10_cell 7 = .ok (.invokevirtual 192, 3) := by decide +kernel
theorem dX10_cell_10 : decode cX10_cell 10 = .ok (.aload_n 0, 1) := by decide +kernel
theorem dX10_cell_11 : decode cX10_cell 11 = .ok (.iconst 0, 1) := by decide +kernel
theorem dX10_cell_12 : decode cX10_cell 12 = .ok (.aload_n 0, 1) := by decide +kernel
theorem dX10_cell_13 : decode cX10_cell 13 = .ok (.iload_n 1, 1) := by decide +kernel
theorem dX10_cell_14 : decode cX10_cell 14 = .ok (.invokevirtual 195, 3) := by decide +kernel
theorem dX10_cell_17 : decode cX10_cell 17 = .ok (.aload_n 0, 1) := by decide +kernel
theorem dX10_cell_18 : decode cX10_cell 18 = .ok (.iload_n 2, 1) := by decide +kernel
theorem dX10_cell_19 : decode cX10_cell 19 = .ok (.invokevirtual 198, 3) := by decide +kernel
theorem dX10_cell_22 : decode cX10_cell 22 = .ok (.iand, 1) := by decide +kernel
theorem dX10_cell_23 : decode cX10_cell 23 = .ok (.invokevirtual 147, 3) := by decide +kernel
theorem dX10_cell_26 : decode cX10_cell 26 = .ok (.ireturn, 1) := by decide +kernel
theorem dX10_drill_0 : decode cX10_drill 0 = .ok (.aload_n 0, 1) := by decide +kernel
theorem dX10_drill_1 : decode cX10_drill 1 = .ok (.iconst 0, 1) := by decide +kernel
theorem dX10_drill_2 : decode cX10_drill 2 = .ok (.invokevirtual 115, 3) := by decide +kernel
theorem dX10_drill_5 : decode cX10_drill 5 = .ok (.aload_n 0, 1) := by decide +kernel
theorem dX10_drill_6 : decode cX10_drill 6 = .ok (.iconst 0, 1) := by decide +kernel
theorem dX10_drill_7 : decode cX10_drill 7 = .ok (.invokevirtual 192, 3) := by decide +kernel
theorem dX10_drill_10 : decode cX10_drill 10 = .ok (.aload_n 0, 1) := by decide +kernel
theorem dX10_drill_11 : decode cX10_drill 11 = .ok (.iload_n 1, 1) := by decide +kernel
theorem dX10_drill_12 : decode cX10_drill 12 = .ok (.invokevirtual 195, 3) := by decide +kernel
theorem dX10_drill_15 : decode cX10_drill 15 = .ok (.aload_n 0, 1) := by decide +kernel
theorem dX10_drill_16 : decode cX10_drill 16 = .ok (.iload_n 2, 1) := by decide +kernel
theorem dX10_drill_17 : decode cX10_drill 17 = .ok (.invokevirtual 198, 3) := by decide +kernel
theorem dX10_drill_20 : decode cX10_drill 20 = .ok (.iand, 1) := by decide +kernel
theorem dX10_drill_21 : decode cX10_drill 21 = .ok (.ireturn, 1) := by decide +kernel
theorem dX10_along_0 : decode cX10_along 0 = .ok (.iload_n 1, 1) := by decide +kernel
theorem dX10_along_1 : decode cX10_along 1 = .ok (.i2l, 1) := by decide +kernel
theorem dX10_along_2 : decode cX10_along 2 = .ok (.lconst 0, 1) := by decide +kernel
theorem dX10_along_3 : decode cX10_along 3 = .ok (.lconst 1, 1) := by decide +kernel
theorem dX10_along_4 : decode cX10_along 4 = .ok (.invokestatic 62, 3) := by decide +kernel
theorem dX10_along_7 : decode cX10_along 7 = .ok (.ifCond .ne 6, 3) := by decide +kernel
theorem dX10_along_10 : decode cX10_along 10 = .ok (.bipush (-2), 2) := by decide +kernel
theorem dX10_along_12 : decode cX10_along 12 = .ok (.ireturn, 1) := by decide +kernel
theorem dX10_along_13 : decode cX10_along 13 = .ok (.aload_n 0, 1) := by decide +kernel
theorem dX10_along_14 : decode cX10_along 14 = .ok (.iconst 0, 1) := by decide +kernel
theorem dX10_along_15 : decode cX10_along 15 = .ok (.invokevirtual 115, 3) := by decide +kernel
theorem dX10_along_18 : decode cX10_along 18 = .ok (.aload_n 0, 1) := by decide +kernel
theorem dX10_along_19 : decode cX10_along 19 = .ok (.iconst 0, 1) := by decide +kernel
theorem dX10_along_20 : decode cX10_along 20 = .ok (.invokevirtual 192, 3) := by decide +kernel
theorem dX10_along_23 : decode cX10_along 23 = .ok (.aload_n 0, 1) := by decide +kernel
theorem dX10_along_24 : decode cX10_along 24 = .ok (.iconst 0, 1) := by decide +kernel
theorem dX10_along_25 : decode cX10_along 25 = .ok (.iload_n 1, 1) := by decide +kernel
theorem dX10_along_26 : decode cX10_along 26 = .ok (.ifCond .ne 11, 3) := by decide +kernel
theorem dX10_along_29 : decode cX10_along 29 = .ok (.aload_n 0, 1) := by decide +kernel
theorem dX10_along_30 : decode cX10_along 30 = .ok (.iload_n 2, 1) := by decide +kernel
theorem dX10_along_31 : decode cX10_along 31 = .ok (.invokevirtual 195, 3) := by decide +kernel
theorem dX10_along_34 : decode cX10_along 34 = .ok (.goto 8, 3) := by decide +kernel
theorem dX10_along_37 : decode cX10_along 37 = .ok (.aload_n 0, 1) := by decide +kernel
theorem dX10_along_38 : decode cX10_along 38 = .ok (.iload_n 2, 1) := by decide +kernel
theorem dX10_along_39 : decode cX10_along 39 = .ok (.invokevirtual 198, 3) := by decide +kernel
theorem dX10_along_42 : decode cX10_along 42 = .ok (.invokevirtual 147, 3) := by decide +kernel
theorem dX10_along_45 : decode cX10_along 45 = .ok (.ireturn, 1) := by decide +kernel
theorem dX10_total_0 : decode cX10_total 0 = .ok (.aload_n 0, 1) := by decide +kernel
theorem dX10_total_1 : decode cX10_total 1 = .ok (.iconst 0, 1) := by decide +kernel
theorem dX10_total_2 : decode cX10_total 2 = .ok (.aload_n 0, 1) := by decide +kernel
theorem dX10_total_3 : decode cX10_total 3 = .ok (.iconst 0, 1) := by decide +kernel
theorem dX10_total_4 : decode cX10_total 4 = .ok (.invokevirtual 201, 3) := by decide +kernel
theorem dX10_total_7 : decode cX10_total 7 = .ok (.invokevirtual 147, 3) := by decide +kernel
theorem dX10_total_10 : decode cX10_total 10 = .ok (.ireturn, 1) := by decide +kernel
theorem dX10_layTrial_0 : decode cX10_layTrial 0 = .ok (.iconst 0, 1) := by decide +kernel
theorem dX10_layTrial_1 : decode cX10_layTrial 1 = .ok (.istore_n 1, 1) := by decide +kernel
theorem dX10_layTrial_2 : decode cX10_layTrial 2 = .ok (.iload_n 1, 1) := by decide +kernel
theorem dX10_layTrial_3 : decode cX10_layTrial 3 = .ok (.bipush 17, 2) := by decide +kernel
theorem dX10_layTrial_5 : decode cX10_layTrial 5 = .ok (.if_icmp .ge 24, 3) := by decide +kernel
theorem dX10_layTrial_8 : decode cX10_layTrial 8 = .ok (.aload_n 0, 1) := by decide +kernel
theorem dX10_layTrial_9 : decode cX10_layTrial 9 = .ok (.getfield 23, 3) := by decide +kernel
theorem dX10_layTrial_12 : decode cX10_layTrial 12 = .ok (.bipush 17, 2) := by decide +kernel
theorem dX10_layTrial_14 : decode cX10_layTrial 14 = .ok (.iload_n 1, 1) := by decide +kernel
theorem dX10_layTrial_15 : decode cX10_layTrial 15 = .ok (.iadd, 1) := by decide +kernel
theorem dX10_layTrial_16 : decode cX10_layTrial 16 = .ok (.aload_n 0, 1) := by decide +kernel
theorem dX10_layTrial_17 : decode cX10_layTrial 17 = .ok (.getfield 23, 3) := by decide +kernel
theorem dX10_layTrial_20 : decode cX10_layTrial 20 = .ok (.iload_n 1, 1) := by decide +kernel
theorem dX10_layTrial_21 : decode cX10_layTrial 21 = .ok (.iaload, 1) := by decide +kernel
theorem dX10_layTrial_22 : decode cX10_layTrial 22 = .ok (.iastore, 1) := by decide +kernel
theorem dX10_layTrial_23 : decode cX10_layTrial 23 = .ok (.iinc 1 1, 3) := by decide +kernel
theorem dX10_layTrial_26 : decode cX10_layTrial 26 = .ok (.goto (-24), 3) := by decide +kernel
theorem dX10_layTrial_29 : decode cX10_layTrial 29 = .ok (.return_, 1) := by decide +kernel
theorem dX10_would_0 : decode cX10_would 0 = .ok (.iload_n 1, 1) := by decide +kernel
theorem dX10_would_1 : decode cX10_would 1 = .ok (.iload_n 2, 1) := by decide +kernel
theorem dX10_would_2 : decode cX10_would 2 = .ok (.iload_n 3, 1) := by decide +kernel
theorem dX10_would_3 : decode cX10_would 3 = .ok (.invokestatic 169, 3) := by decide +kernel
theorem dX10_would_6 : decode cX10_would 6 = .ok (.ifCond .eq 14, 3) := by decide +kernel
theorem dX10_would_9 : decode cX10_would 9 = .ok (.iload 4, 2) := by decide +kernel
theorem dX10_would_11 : decode cX10_would 11 = .ok (.i2l, 1) := by decide +kernel
theorem dX10_would_12 : decode cX10_would 12 = .ok (.lconst 0, 1) := by decide +kernel
theorem dX10_would_13 : decode cX10_would 13 = .ok (.lconst 1, 1) := by decide +kernel
theorem dX10_would_14 : decode cX10_would 14 = .ok (.invokestatic 62, 3) := by decide +kernel
theorem dX10_would_17 : decode cX10_would 17 = .ok (.ifCond .ne 6, 3) := by decide +kernel
theorem dX10_would_20 : decode cX10_would 20 = .ok (.bipush (-2), 2) := by decide +kernel
theorem dX10_would_22 : decode cX10_would 22 = .ok (.ireturn, 1) := by decide +kernel
theorem dX10_would_23 : decode cX10_would 23 = .ok (.aload_n 0, 1) := by decide +kernel
theorem dX10_would_24 : decode cX10_would 24 = .ok (.iconst 0, 1) := by decide +kernel
theorem dX10_would_25 : decode cX10_would 25 = .ok (.invokevirtual 127, 3) := by decide +kernel
theorem dX10_would_28 : decode cX10_would 28 = .ok (.bipush 16, 2) := by decide +kernel
theorem dX10_would_30 : decode cX10_would 30 = .ok (.if_icmp .ne 6, 3) := by decide +kernel
theorem dX10_would_33 : decode cX10_would 33 = .ok (.bipush (-4), 2) := by decide +kernel
theorem dX10_would_35 : decode cX10_would 35 = .ok (.ireturn, 1) := by decide +kernel
theorem dX10_would_36 : decode cX10_would 36 = .ok (.aload_n 0, 1) := by decide +kernel
theorem dX10_would_37 : decode cX10_would 37 = .ok (.invokevirtual 204, 3) := by decide +kernel
theorem dX10_would_40 : decode cX10_would 40 = .ok (.aload_n 0, 1) := by decide +kernel
theorem dX10_would_41 : decode cX10_would 41 = .ok (.iconst 1, 1) := by decide +kernel
theorem dX10_would_42 : decode cX10_would 42 = .ok (.iload_n 1, 1) := by decide +kernel
theorem dX10_would_43 : decode cX10_would 43 = .ok (.iload_n 2, 1) := by decide +kernel
theorem dX10_would_44 : decode cX10_would 44 = .ok (.iload_n 3, 1) := by decide +kernel
theorem dX10_would_45 : decode cX10_would 45 = .ok (.invokestatic 176, 3) := by decide +kernel
theorem dX10_would_48 : decode cX10_would 48 = .ok (.invokevirtual 179, 3) := by decide +kernel
theorem dX10_would_51 : decode cX10_would 51 = .ok (.aload_n 0, 1) := by decide +kernel
theorem dX10_would_52 : decode cX10_would 52 = .ok (.iconst 1, 1) := by decide +kernel
theorem dX10_would_53 : decode cX10_would 53 = .ok (.invokevirtual 115, 3) := by decide +kernel
theorem dX10_would_56 : decode cX10_would 56 = .ok (.iload 4, 2) := by decide +kernel
theorem dX10_would_58 : decode cX10_would 58 = .ok (.ifCond .ne 16, 3) := by decide +kernel
theorem dX10_would_61 : decode cX10_would 61 = .ok (.aload_n 0, 1) := by decide +kernel
theorem dX10_would_62 : decode cX10_would 62 = .ok (.iconst 1, 1) := by decide +kernel
theorem dX10_would_63 : decode cX10_would 63 = .ok (.aload_n 0, 1) := by decide +kernel
theorem dX10_would_64 : decode cX10_would 64 = .ok (.iconst 1, 1) := by decide +kernel
theorem dX10_would_65 : decode cX10_would 65 = .ok (.invokevirtual 201, 3) := by decide +kernel
theorem dX10_would_68 : decode cX10_would 68 = .ok (.invokevirtual 147, 3) := by decide +kernel
theorem dX10_would_71 : decode cX10_would 71 = .ok (.goto 7, 3) := by decide +kernel
theorem dX10_would_74 : decode cX10_would 74 = .ok (.aload_n 0, 1) := by decide +kernel
theorem dX10_would_75 : decode cX10_would 75 = .ok (.getfield 119, 3) := by decide +kernel
theorem dX10_would_78 : decode cX10_would 78 = .ok (.ireturn, 1) := by decide +kernel
theorem dX10_best_0 : decode cX10_best 0 = .ok (.iload_n 1, 1) := by decide +kernel
theorem dX10_best_1 : decode cX10_best 1 = .ok (.i2l, 1) := by decide +kernel
theorem dX10_best_2 : decode cX10_best 2 = .ok (.lconst 0, 1) := by decide +kernel
theorem dX10_best_3 : decode cX10_best 3 = .ok (.lconst 1, 1) := by decide +kernel
theorem dX10_best_4 : decode cX10_best 4 = .ok (.invokestatic 62, 3) := by decide +kernel
theorem dX10_best_7 : decode cX10_best 7 = .ok (.ifCond .ne 6, 3) := by decide +kernel
theorem dX10_best_10 : decode cX10_best 10 = .ok (.bipush (-2), 2) := by decide +kernel
theorem dX10_best_12 : decode cX10_best 12 = .ok (.ireturn, 1) := by decide +kernel
theorem dX10_best_13 : decode cX10_best 13 = .ok (.bipush (-9), 2) := by decide +kernel
theorem dX10_best_15 : decode cX10_best 15 = .ok (.istore_n 2, 1) := by decide +kernel
theorem dX10_best_16 : decode cX10_best 16 = .ok (.bipush (-9), 2) := by decide +kernel
theorem dX10_best_18 : decode cX10_best 18 = .ok (.istore_n 3, 1) := by decide +kernel
theorem dX10_best_19 : decode cX10_best 19 = .ok (.iconst 0, 1) := by decide +kernel
theorem dX10_best_20 : decode cX10_best 20 = .ok (.istore 4, 2) := by decide +kernel
theorem dX10_best_22 : decode cX10_best 22 = .ok (.iload 4, 2) := by decide +kernel
theorem dX10_best_24 : decode cX10_best 24 = .ok (.aload_n 0, 1) := by decide +kernel
theorem dX10_best_25 : decode cX10_best 25 = .ok (.iconst 0, 1) := by decide +kernel
theorem dX10_best_26 : decode cX10_best 26 = .ok (.invokevirtual 127, 3) := by decide +kernel
theorem dX10_best_29 : decode cX10_best 29 = .ok (.if_icmp .ge 75, 3) := by decide +kernel
theorem dX10_best_32 : decode cX10_best 32 = .ok (.aload_n 0, 1) := by decide +kernel
theorem dX10_best_33 : decode cX10_best 33 = .ok (.invokevirtual 204, 3) := by decide +kernel
theorem dX10_best_36 : decode cX10_best 36 = .ok (.aload_n 0, 1) := by decide +kernel
theorem dX10_best_37 : decode cX10_best 37 = .ok (.iconst 1, 1) := by decide +kernel
theorem dX10_best_38 : decode cX10_best 38 = .ok (.iload 4, 2) := by decide +kernel
theorem dX10_best_40 : decode cX10_best 40 = .ok (.invokevirtual 186, 3) := by decide +kernel
theorem dX10_best_43 : decode cX10_best 43 = .ok (.aload_n 0, 1) := by decide +kernel
theorem dX10_best_44 : decode cX10_best 44 = .ok (.iconst 1, 1) := by decide +kernel
theorem dX10_best_45 : decode cX10_best 45 = .ok (.aload_n 0, 1) := by decide +kernel
theorem dX10_best_46 : decode cX10_best 46 = .ok (.iconst 1, 1) := by decide +kernel
theorem dX10_best_47 : decode cX10_best 47 = .ok (.invokevirtual 201, 3) := by decide +kernel
theorem dX10_best_50 : decode cX10_best 50 = .ok (.invokevirtual 147, 3) := by decide +kernel
theorem dX10_best_53 : decode cX10_best 53 = .ok (.istore 5, 2) := by decide +kernel
theorem dX10_best_55 : decode cX10_best 55 = .ok (.iload_n 2, 1) := by decide +kernel
theorem dX10_best_56 : decode cX10_best 56 = .ok (.bipush (-9), 2) := by decide +kernel
theorem dX10_best_58 : decode cX10_best 58 = .ok (.if_icmp .eq 9, 3) := by decide +kernel
theorem dX10_best_61 : decode cX10_best 61 = .ok (.iload 5, 2) := by decide +kernel
theorem dX10_best_63 : decode cX10_best 63 = .ok (.iload_n 3, 1) := by decide +kernel
theorem dX10_best_64 : decode cX10_best 64 = .ok (.if_icmp .le 7, 3) := by decide +kernel
theorem dX10_best_67 : decode cX10_best 67 = .ok (.iconst 1, 1) := by decide +kernel
theorem dX10_best_68 : decode cX10_best 68 = .ok (.goto 4, 3) := by decide +kernel
theorem dX10_best_71 : decode cX10_best 71 = .ok (.iconst 0, 1) := by decide +kernel
theorem dX10_best_72 : decode cX10_best 72 = .ok (.istore 6, 2) := by decide +kernel
theorem dX10_best_74 : decode cX10_best 74 = .ok (.iload 6, 2) := by decide +kernel
theorem dX10_best_76 : decode cX10_best 76 = .ok (.ifCond .eq 8, 3) := by decide +kernel
theorem dX10_best_79 : decode cX10_best 79 = .ok (.iload 4, 2) := by decide +kernel
theorem dX10_best_81 : decode cX10_best 81 = .ok (.goto 4, 3) := by decide +kernel
theorem dX10_best_84 : decode cX10_best 84 = .ok (.iload_n 2, 1) := by decide +kernel
theorem dX10_best_85 : decode cX10_best 85 = .ok (.istore_n 2, 1) := by decide +kernel
theorem dX10_best_86 : decode cX10_best 86 = .ok (.iload 6, 2) := by decide +kernel
theorem dX10_best_88 : decode cX10_best 88 = .ok (.ifCond .eq 8, 3) := by decide +kernel
theorem dX10_best_91 : decode cX10_best 91 = .ok (.iload 5, 2) := by decide +kernel
theorem dX10_best_93 : decode cX10_best 93 = .ok (.goto 4, 3) := by decide +kernel
theorem dX10_best_96 : decode cX10_best 96 = .ok (.iload_n 3, 1) := by decide +kernel
theorem dX10_best_97 : decode cX10_best 97 = .ok (.istore_n 3, 1) := by decide +kernel
theorem dX10_best_98 : decode cX10_best 98 = .ok (.iinc 4 1, 3) := by decide +kernel
theorem dX10_best_101 : decode cX10_best 101 = .ok (.goto (-79), 3) := by decide +kernel
theorem dX10_best_104 : decode cX10_best 104 = .ok (.iload_n 1, 1) := by decide +kernel
theorem dX10_best_105 : decode cX10_best 105 = .ok (.ifCond .ne 7, 3) := by decide +kernel
theorem dX10_best_108 : decode cX10_best 108 = .ok (.iload_n 2, 1) := by decide +kernel
theorem dX10_best_109 : decode cX10_best 109 = .ok (.goto 4, 3) := by decide +kernel
theorem dX10_best_112 : decode cX10_best 112 = .ok (.iload_n 3, 1) := by decide +kernel
theorem dX10_best_113 : decode cX10_best 113 = .ok (.ireturn, 1) := by decide +kernel
theorem dX10_tryThing_0 : decode cX10_tryThing 0 = .ok (.iload_n 1, 1) := by decide +kernel
theorem dX10_tryThing_1 : decode cX10_tryThing 1 = .ok (.tableswitch 272 1 6 #[39, 96, 130, 177, 206, 248], 39) := by decide +kernel
theorem dX10_tryThing_40 : decode cX10_tryThing 40 = .ok (.iload_n 2, 1) := by decide +kernel
theorem dX10_tryThing_41 : decode cX10_tryThing 41 = .ok (.iload_n 3, 1) := by decide +kernel
theorem dX10_tryThing_42 : decode cX10_tryThing 42 = .ok (.bipush 10, 2) := by decide +kernel
theorem dX10_tryThing_44 : decode cX10_tryThing 44 = .ok (.idiv, 1) := by decide +kernel
theorem dX10_tryThing_45 : decode cX10_tryThing 45 = .ok (.iconst 0, 1) := by decide +kernel
theorem dX10_tryThing_46 : decode cX10_tryThing 46 = .ok (.invokestatic 169, 3) := by decide +kernel
theorem dX10_tryThing_49 : decode cX10_tryThing 49 = .ok (.ifCond .eq 17, 3) := by decide +kernel
theorem dX10_tryThing_52 : decode cX10_tryThing 52 = .ok (.aload_n 0, 1) := by decide +kernel
theorem dX10_tryThing_53 : decode cX10_tryThing 53 = .ok (.iconst 1, 1) := by decide +kernel
theorem dX10_tryThing_54 : decode cX10_tryThing 54 = .ok (.invokevirtual 127, 3) := by decide +kernel
theorem dX10_tryThing_57 : decode cX10_tryThing 57 = .ok (.bipush 16, 2) := by decide +kernel
theorem dX10_tryThing_59 : decode cX10_tryThing 59 = .ok (.if_icmp .ge 7, 3) := by decide +kernel
theorem dX10_tryThing_62 : decode cX10_tryThing 62 = .ok (.iconst 1, 1) := by decide +kernel
theorem dX10_tryThing_63 : decode cX10_tryThing 63 = .ok (.goto 4, 3) := by decide +kernel
theorem dX10_tryThing_66 : decode cX10_tryThing 66 = .ok (.iconst 0, 1) := by decide +kernel
theorem dX10_tryThing_67 : decode cX10_tryThing 67 = .ok (.istore 4, 2) := by decide +kernel
theorem dX10_tryThing_69 : decode cX10_tryThing 69 = .ok (.iload 4, 2) := by decide +kernel
theorem dX10_tryThing_71 : decode cX10_tryThing 71 = .ok (.ifCond .eq 23, 3) := by decide +kernel
theorem dX10_tryThing_74 : decode cX10_tryThing 74 = .ok (.aload_n 0, 1) := by decide +kernel
theorem dX10_tryThing_75 : decode cX10_tryThing 75 = .ok (.iconst 1, 1) := by decide +kernel
theorem dX10_tryThing_76 : decode cX10_tryThing 76 = .ok (.iload_n 2, 1) := by decide +kernel
theorem dX10_tryThing_77 : decode cX10_tryThing 77 = .ok (.iload_n 3, 1) := by decide +kernel
theorem dX10_tryThing_78 : decode cX10_tryThing 78 = .ok (.bipush 10, 2) := by decide +kernel
theorem dX10_tryThing_80 : decode cX10_tryThing 80 = .ok (.idiv, 1) := by decide +kernel
theorem dX10_tryThing_81 : decode cX10_tryThing 81 = .ok (.bipush 11, 2) := by decide +kernel
theorem dX10_tryThing_83 : decode cX10_tryThing 83 = .ok (.iload_n 3, 1) := by decide +kernel
theorem dX10_tryThing_84 : decode cX10_tryThing 84 = .ok (.bipush 10, 2) := by decide +kernel
theorem dX10_tryThing_86 : decode cX10_tryThing 86 = .ok (.irem, 1) := by decide +kernel
theorem dX10_tryThing_87 : decode cX10_tryThing 87 = .ok (.imul, 1) := by decide +kernel
theorem dX10_tryThing_88 : decode cX10_tryThing 88 = .ok (.invokestatic 176, 3) := by decide +kernel
theorem dX10_tryThing_91 : decode cX10_tryThing 91 = .ok (.invokevirtual 179, 3) := by decide +kernel
theorem dX10_tryThing_94 : decode cX10_tryThing 94 = .ok (.iload 4, 2) := by decide +kernel
theorem dX10_tryThing_96 : decode cX10_tryThing 96 = .ok (.ireturn, 1) := by decide +kernel
theorem dX10_tryThing_97 : decode cX10_tryThing 97 = .ok (.iload_n 2, 1) := by decide +kernel
theorem dX10_tryThing_98 : decode cX10_tryThing 98 = .ok (.ifCond .ne 16, 3) := by decide +kernel
theorem dX10_tryThing_101 : decode cX10_tryThing 101 = .ok (.iload_n 3, 1) := by decide +kernel
theorem dX10_tryThing_102 : decode cX10_tryThing 102 = .ok (.aload_n 0, 1) := by decide +kernel
theorem dX10_tryThing_103 : decode cX10_tryThing 103 = .ok (.iconst 1, 1) := by decide +kernel
theorem dX10_tryThing_104 : decode cX10_tryThing 104 = .ok (.invokevirtual 127, 3) := by decide +kernel
theorem dX10_tryThing_107 : decode cX10_tryThing 107 = .ok (.if_icmp .ge 7, 3) := by decide +kernel
theorem dX10_tryThing_110 : decode cX10_tryThing 110 = .ok (.iconst 1, 1) := by decide +kernel
theorem dX10_tryThing_111 : decode cX10_tryThing 111 = .ok (.goto 4, 3) := by decide +kernel
theorem dX10_tryThing_114 : decode cX10_tryThing 114 = .ok (.iconst 0, 1) := by decide +kernel
theorem dX10_tryThing_115 : decode cX10_tryThing 115 = .ok (.istore 5, 2) := by decide +kernel
theorem dX10_tryThing_117 : decode cX10_tryThing 117 = .ok (.iload 5, 2) := by decide +kernel
theorem dX10_tryThing_119 : decode cX10_tryThing 119 = .ok (.ifCond .eq 9, 3) := by decide +kernel
theorem dX10_tryThing_122 : decode cX10_tryThing 122 = .ok (.aload_n 0, 1) := by decide +kernel
theorem dX10_tryThing_123 : decode cX10_tryThing 123 = .ok (.iconst 1, 1) := by decide +kernel
theorem dX10_tryThing_124 : decode cX10_tryThing 124 = .ok (.iload_n 3, 1) := by decide +kernel
theorem dX10_tryThing_125 : decode cX10_tryThing 125 = .ok (.invokevirtual 186, 3) := by decide +kernel
theorem dX10_tryThing_128 : decode cX10_tryThing 128 = .ok (.iload 5, 2) := by decide +kernel
theorem dX10_tryThing_130 : decode cX10_tryThing 130 = .ok (.ireturn, 1) := by decide +kernel
theorem dX10_tryThing_131 : decode cX10_tryThing 131 = .ok (.iload_n 3, 1) := by decide +kernel
theorem dX10_tryThing_132 : decode cX10_tryThing 132 = .ok (.aload_n 0, 1) := by decide +kernel
theorem dX10_tryThing_133 : decode cX10_tryThing 133 = .ok (.iconst 1, 1) := by decide +kernel
theorem dX10_tryThing_134 : decode cX10_tryThing 134 = .ok (.invokevirtual 127, 3) := by decide +kernel
theorem dX10_tryThing_137 : decode cX10_tryThing 137 = .ok (.if_icmp .ge 7, 3) := by decide +kernel
theorem dX10_tryThing_140 : decode cX10_tryThing 140 = .ok (.iconst 1, 1) := by decide +kernel
theorem dX10_tryThing_141 : decode cX10_tryThing 141 = .ok (.goto 4, 3) := by decide +kernel
theorem dX10_tryThing_144 : decode cX10_tryThing 144 = .ok (.iconst 0, 1) := by decide +kernel
theorem dX10_tryThing_145 : decode cX10_tryThing 145 = .ok (.istore 6, 2) := by decide +kernel
theorem dX10_tryThing_147 : decode cX10_tryThing 147 = .ok (.iload 6, 2) := by decide +kernel
theorem dX10_tryThing_149 : decode cX10_tryThing 149 = .ok (.ifCond .eq 26, 3) := by decide +kernel
theorem dX10_tryThing_152 : decode cX10_tryThing 152 = .ok (.aload_n 0, 1) := by decide +kernel
theorem dX10_tryThing_153 : decode cX10_tryThing 153 = .ok (.getfield 23, 3) := by decide +kernel
theorem dX10_tryThing_156 : decode cX10_tryThing 156 = .ok (.bipush 18, 2) := by decide +kernel
theorem dX10_tryThing_158 : decode cX10_tryThing 158 = .ok (.iload_n 3, 1) := by decide +kernel
theorem dX10_tryThing_159 : decode cX10_tryThing 159 = .ok (.iadd, 1) := by decide +kernel
theorem dX10_tryThing_160 : decode cX10_tryThing 160 = .ok (.dup2, 1) := by decide +kernel
theorem dX10_tryThing_161 : decode cX10_tryThing 161 = .ok (.iaload, 1) := by decide +kernel
theorem dX10_tryThing_162 : decode cX10_tryThing 162 = .ok (.bipush 11, 2) := by decide +kernel
theorem dX10_tryThing_164 : decode cX10_tryThing 164 = .ok (.iload_n 2, 1) := by decide +kernel
theorem dX10_tryThing_165 : decode cX10_tryThing 165 = .ok (.imul, 1) := by decide +kernel
theorem dX10_tryThing_166 : decode cX10_tryThing 166 = .ok (.aload_n 0, 1) := by decide +kernel
theorem dX10_tryThing_167 : decode cX10_tryThing 167 = .ok (.iconst 1, 1) := by decide +kernel
theorem dX10_tryThing_168 : decode cX10_tryThing 168 = .ok (.iload_n 3, 1) := by decide +kernel
theorem dX10_tryThing_169 : decode cX10_tryThing 169 = .ok (.invokevirtual 134, 3) := by decide +kernel
theorem dX10_tryThing_172 : decode cX10_tryThing 172 = .ok (.isub, 1) := by decide +kernel
theorem dX10_tryThing_173 : decode cX10_tryThing 173 = .ok (.iadd, 1) := by decide +kernel
theorem dX10_tryThing_174 : decode cX10_tryThing 174 = .ok (.iastore, 1) := by decide +kernel
theorem dX10_tryThing_175 : decode cX10_tryThing 175 = .ok (.iload 6, 2) := by decide +kernel
theorem dX10_tryThing_177 : decode cX10_tryThing 177 = .ok (.ireturn, 1) := by decide +kernel
theorem dX10_tryThing_178 : decode cX10_tryThing 178 = .ok (.aload_n 0, 1) := by decide +kernel
theorem dX10_tryThing_179 : decode cX10_tryThing 179 = .ok (.iconst 1, 1) := by decide +kernel
theorem dX10_tryThing_180 : decode cX10_tryThing 180 = .ok (.invokevirtual 115, 3) := by decide +kernel
theorem dX10_tryThing_183 : decode cX10_tryThing 183 = .ok (.iload_n 2, 1) := by decide +kernel
theorem dX10_tryThing_184 : decode cX10_tryThing 184 = .ok (.ifCond .ne 21, 3) := by decide +kernel
theorem dX10_tryThing_187 : decode cX10_tryThing 187 = .ok (.iload_n 3, 1) := by decide +kernel
theorem dX10_tryThing_188 : decode cX10_tryThing 188 = .ok (.bipush 10, 2) := by decide +kernel
theorem dX10_tryThing_190 : decode cX10_tryThing 190 = .ok (.if_icmp .ge 15, 3) := by decide +kernel
theorem dX10_tryThing_193 : decode cX10_tryThing 193 = .ok (.aload_n 0, 1) := by decide +kernel
theorem dX10_tryThing_194 : decode cX10_tryThing 194 = .ok (.getfield 119, 3) := by decide +kernel
theorem dX10_tryThing_197 : decode cX10_tryThing 197 = .ok (.iload_n 3, 1) := by decide +kernel
theorem dX10_tryThing_198 : decode cX10_tryThing 198 = .ok (.if_icmp .lt 7, 3) := by decide +kernel
theorem dX10_tryThing_201 : decode cX10_tryThing 201 = .ok (.iconst 1, 1) := by decide +kernel
theorem dX10_tryThing_202 : decode cX10_tryThing 202 = .ok (.goto 4, 3) := by decide +kernel
theorem dX10_tryThing_205 : decode cX10_tryThing 205 = .ok (.iconst 0, 1) := by decide +kernel
theorem dX10_tryThing_206 : decode cX10_tryThing 206 = .ok (.ireturn, 1) := by decide +kernel
theorem dX10_tryThing_207 : decode cX10_tryThing 207 = .ok (.aload_n 0, 1) := by decide +kernel
theorem dX10_tryThing_208 : decode cX10_tryThing 208 = .ok (.iconst 1, 1) := by decide +kernel
theorem dX10_tryThing_209 : decode cX10_tryThing 209 = .ok (.invokevirtual 115, 3) := by decide +kernel
theorem dX10_tryThing_212 : decode cX10_tryThing 212 = .ok (.aload_n 0, 1) := by decide +kernel
theorem dX10_tryThing_213 : decode cX10_tryThing 213 = .ok (.iconst 1, 1) := by decide +kernel
theorem dX10_tryThing_214 : decode cX10_tryThing 214 = .ok (.invokevirtual 192, 3) := by decide +kernel
theorem dX10_tryThing_217 : decode cX10_tryThing 217 = .ok (.aload_n 0, 1) := by decide +kernel
theorem dX10_tryThing_218 : decode cX10_tryThing 218 = .ok (.iconst 1, 1) := by decide +kernel
theorem dX10_tryThing_219 : decode cX10_tryThing 219 = .ok (.aload_n 0, 1) := by decide +kernel
theorem dX10_tryThing_220 : decode cX10_tryThing 220 = .ok (.iload_n 2, 1) := by decide +kernel
theorem dX10_tryThing_221 : decode cX10_tryThing 221 = .ok (.invokevirtual 195, 3) := by decide +kernel
theorem dX10_tryThing_224 : decode cX10_tryThing 224 = .ok (.aload_n 0, 1) := by decide +kernel
theorem dX10_tryThing_225 : decode cX10_tryThing 225 = .ok (.iload_n 3, 1) := by decide +kernel
theorem dX10_tryThing_226 : decode cX10_tryThing 226 = .ok (.bipush 10, 2) := by decide +kernel
theorem dX10_tryThing_228 : decode cX10_tryThing 228 = .ok (.idiv, 1) := by decide +kernel
theorem dX10_tryThing_229 : decode cX10_tryThing 229 = .ok (.invokevirtual 198, 3) := by decide +kernel
theorem dX10_tryThing_232 : decode cX10_tryThing 232 = .ok (.iand, 1) := by decide +kernel
theorem dX10_tryThing_233 : decode cX10_tryThing 233 = .ok (.invokevirtual 147, 3) := by decide +kernel
theorem dX10_tryThing_236 : decode cX10_tryThing 236 = .ok (.iload_n 3, 1) := by decide +kernel
theorem dX10_tryThing_237 : decode cX10_tryThing 237 = .ok (.bipush 10, 2) := by decide +kernel
theorem dX10_tryThing_239 : decode cX10_tryThing 239 = .ok (.irem, 1) := by decide +kernel
theorem dX10_tryThing_240 : decode cX10_tryThing 240 = .ok (.if_icmp .lt 7, 3) := by decide +kernel
theorem dX10_tryThing_243 : decode cX10_tryThing 243 = .ok (.iconst 1, 1) := by decide +kernel
theorem dX10_tryThing_244 : decode cX10_tryThing 244 = .ok (.goto 4, 3) := by decide +kernel
theorem dX10_tryThing_247 : decode cX10_tryThing 247 = .ok (.iconst 0, 1) := by decide +kernel
theorem dX10_tryThing_248 : decode cX10_tryThing 248 = .ok (.ireturn, 1) := by decide +kernel
theorem dX10_tryThing_249 : decode cX10_tryThing 249 = .ok (.iload_n 2, 1) := by decide +kernel
theorem dX10_tryThing_250 : decode cX10_tryThing 250 = .ok (.ifCond .ne 21, 3) := by decide +kernel
theorem dX10_tryThing_253 : decode cX10_tryThing 253 = .ok (.aload_n 0, 1) := by decide +kernel
theorem dX10_tryThing_254 : decode cX10_tryThing 254 = .ok (.iconst 1, 1) := by decide +kernel
theorem dX10_tryThing_255 : decode cX10_tryThing 255 = .ok (.aload_n 0, 1) := by decide +kernel
theorem dX10_tryThing_256 : decode cX10_tryThing 256 = .ok (.iconst 1, 1) := by decide +kernel
theorem dX10_tryThing_257 : decode cX10_tryThing 257 = .ok (.invokevirtual 201, 3) := by decide +kernel
theorem dX10_tryThing_260 : decode cX10_tryThing 260 = .ok (.invokevirtual 147, 3) := by decide +kernel
theorem dX10_tryThing_263 : decode cX10_tryThing 263 = .ok (.iload_n 3, 1) := by decide +kernel
theorem dX10_tryThing_264 : decode cX10_tryThing 264 = .ok (.if_icmp .lt 7, 3) := by decide +kernel
theorem dX10_tryThing_267 : decode cX10_tryThing 267 = .ok (.iconst 1, 1) := by decide +kernel
theorem dX10_tryThing_268 : decode cX10_tryThing 268 = .ok (.goto 4, 3) := by decide +kernel
theorem dX10_tryThing_271 : decode cX10_tryThing 271 = .ok (.iconst 0, 1) := by decide +kernel
theorem dX10_tryThing_272 : decode cX10_tryThing 272 = .ok (.ireturn, 1) := by decide +kernel
theorem dX10_tryThing_273 : decode cX10_tryThing 273 = .ok (.iconst 0, 1) := by decide +kernel
theorem dX10_tryThing_274 : decode cX10_tryThing 274 = .ok (.ireturn, 1) := by decide +kernel
theorem dX10_tenThousandTo_0 : decode cX10_tenThousandTo 0 = .ok (.lconst 1, 1) := by decide +kernel
theorem dX10_tenThousandTo_1 : decode cX10_tenThousandTo 1 = .ok (.lstore_n 1, 1) := by decide +kernel
theorem dX10_tenThousandTo_2 : decode cX10_tenThousandTo 2 = .ok (.iconst 0, 1) := by decide +kernel
theorem dX10_tenThousandTo_3 : decode cX10_tenThousandTo 3 = .ok (.istore_n 3, 1) := by decide +kernel
theorem dX10_tenThousandTo_4 : decode cX10_tenThousandTo 4 = .ok (.iload_n 3, 1) := by decide +kernel
theorem dX10_tenThousandTo_5 : decode cX10_tenThousandTo 5 = .ok (.iload_n 0, 1) := by decide +kernel
theorem dX10_tenThousandTo_6 : decode cX10_tenThousandTo 6 = .ok (.if_icmp .ge 15, 3) := by decide +kernel
theorem dX10_tenThousandTo_9 : decode cX10_tenThousandTo 9 = .ok (.lload_n 1, 1) := by decide +kernel
theorem dX10_tenThousandTo_10 : decode cX10_tenThousandTo 10 = .ok (.ldc2_w 207, 3) := by decide +kernel
theorem dX10_tenThousandTo_13 : decode cX10_tenThousandTo 13 = .ok (.lmul, 1) := by decide +kernel
theorem dX10_tenThousandTo_14 : decode cX10_tenThousandTo 14 = .ok (.lstore_n 1, 1) := by decide +kernel
theorem dX10_tenThousandTo_15 : decode cX10_tenThousandTo 15 = .ok (.iinc 3 1, 3) := by decide +kernel
theorem dX10_tenThousandTo_18 : decode cX10_tenThousandTo 18 = .ok (.goto (-14), 3) := by decide +kernel
theorem dX10_tenThousandTo_21 : decode cX10_tenThousandTo 21 = .ok (.lload_n 1, 1) := by decide +kernel
theorem dX10_tenThousandTo_22 : decode cX10_tenThousandTo 22 = .ok (.lreturn, 1) := by decide +kernel
theorem dX10_judge_0 : decode cX10_judge 0 = .ok (.iload_n 1, 1) := by decide +kernel
theorem dX10_judge_1 : decode cX10_judge 1 = .ok (.i2l, 1) := by decide +kernel
theorem dX10_judge_2 : decode cX10_judge 2 = .ok (.lconst 1, 1) := by decide +kernel
theorem dX10_judge_3 : decode cX10_judge 3 = .ok (.ldc2_w 165, 3) := by decide +kernel
theorem dX10_judge_6 : decode cX10_judge 6 = .ok (.invokestatic 62, 3) := by decide +kernel
theorem dX10_judge_9 : decode cX10_judge 9 = .ok (.ifCond .eq 17, 3) := by decide +kernel
theorem dX10_judge_12 : decode cX10_judge 12 = .ok (.lload_n 2, 1) := by decide +kernel
theorem dX10_judge_13 : decode cX10_judge 13 = .ok (.lconst 0, 1) := by decide +kernel
theorem dX10_judge_14 : decode cX10_judge 14 = .ok (.iload_n 1, 1) := by decide +kernel
theorem dX10_judge_15 : decode cX10_judge 15 = .ok (.invokestatic 209, 3) := by decide +kernel
theorem dX10_judge_18 : decode cX10_judge 18 = .ok (.lconst 1, 1) := by decide +kernel
theorem dX10_judge_19 : decode cX10_judge 19 = .ok (.lsub, 1) := by decide +kernel
theorem dX10_judge_20 : decode cX10_judge 20 = .ok (.invokestatic 62, 3) := by decide +kernel
theorem dX10_judge_23 : decode cX10_judge 23 = .ok (.ifCond .ne 6, 3) := by decide +kernel
theorem dX10_judge_26 : decode cX10_judge 26 = .ok (.bipush (-2), 2) := by decide +kernel
theorem dX10_judge_28 : decode cX10_judge 28 = .ok (.ireturn, 1) := by decide +kernel
theorem dX10_judge_29 : decode cX10_judge 29 = .ok (.aload_n 0, 1) := by decide +kernel
theorem dX10_judge_30 : decode cX10_judge 30 = .ok (.invokevirtual 204, 3) := by decide +kernel
theorem dX10_judge_33 : decode cX10_judge 33 = .ok (.iconst 0, 1) := by decide +kernel
theorem dX10_judge_34 : decode cX10_judge 34 = .ok (.istore 4, 2) := by decide +kernel
theorem dX10_judge_36 : decode cX10_judge 36 = .ok (.iload 4, 2) := by decide +kernel
theorem dX10_judge_38 : decode cX10_judge 38 = .ok (.iload_n 1, 1) := by decide +kernel
theorem dX10_judge_39 : decode cX10_judge 39 = .ok (.if_icmp .ge 56, 3) := by decide +kernel
theorem dX10_judge_42 : decode cX10_judge 42 = .ok (.lload_n 2, 1) := by decide +kernel
theorem dX10_judge_43 : decode cX10_judge 43 = .ok (.iload_n 1, 1) := by decide +kernel
theorem dX10_judge_44 : decode cX10_judge 44 = .ok (.iconst 1, 1) := by decide +kernel
theorem dX10_judge_45 : decode cX10_judge 45 = .ok (.isub, 1) := by decide +kernel
theorem dX10_judge_46 : decode cX10_judge 46 = .ok (.iload 4, 2) := by decide +kernel
theorem dX10_judge_48 : decode cX10_judge 48 = .ok (.isub, 1) := by decide +kernel
theorem dX10_judge_49 : decode cX10_judge 49 = .ok (.invokestatic 209, 3) := by decide +kernel
theorem dX10_judge_52 : decode cX10_judge 52 = .ok (.ldiv, 1) := by decide +kernel
theorem dX10_judge_53 : decode cX10_judge 53 = .ok (.ldc2_w 207, 3) := by decide +kernel
theorem dX10_judge_56 : decode cX10_judge 56 = .ok (.lrem, 1) := by decide +kernel
theorem dX10_judge_57 : decode cX10_judge 57 = .ok (.l2i, 1) := by decide +kernel
theorem dX10_judge_58 : decode cX10_judge 58 = .ok (.istore 5, 2) := by decide +kernel
theorem dX10_judge_60 : decode cX10_judge 60 = .ok (.aload_n 0, 1) := by decide +kernel
theorem dX10_judge_61 : decode cX10_judge 61 = .ok (.iload 5, 2) := by decide +kernel
theorem dX10_judge_63 : decode cX10_judge 63 = .ok (.sipush 1000, 3) := by decide +kernel
theorem dX10_judge_66 : decode cX10_judge 66 = .ok (.idiv, 1) := by decide +kernel
theorem dX10_judge_67 : decode cX10_judge 67 = .ok (.iload 5, 2) := by decide +kernel
theorem dX10_judge_69 : decode cX10_judge 69 = .ok (.bipush 100, 2) := by decide +kernel
theorem dX10_judge_71 : decode cX10_judge 71 = .ok (.idiv, 1) := by decide +kernel
theorem dX10_judge_72 : decode cX10_judge 72 = .ok (.bipush 10, 2) := by decide +kernel
theorem dX10_judge_74 : decode cX10_judge 74 = .ok (.irem, 1) := by decide +kernel
theorem dX10_judge_75 : decode cX10_judge 75 = .ok (.iload 5, 2) := by decide +kernel
theorem dX10_judge_77 : decode cX10_judge 77 = .ok (.bipush 100, 2) := by decide +kernel
theorem dX10_judge_79 : decode cX10_judge 79 = .ok (.irem, 1) := by decide +kernel
theorem dX10_judge_80 : decode cX10_judge 80 = .ok (.invokevirtual 213, 3) := by decide +kernel
theorem dX10_judge_83 : decode cX10_judge 83 = .ok (.ifCond .ne 6, 3) := by decide +kernel
theorem dX10_judge_86 : decode cX10_judge 86 = .ok (.iload 4, 2) := by decide +kernel
theorem dX10_judge_88 : decode cX10_judge 88 = .ok (.ireturn, 1) := by decide +kernel
theorem dX10_judge_89 : decode cX10_judge 89 = .ok (.iinc 4 1, 3) := by decide +kernel
theorem dX10_judge_92 : decode cX10_judge 92 = .ok (.goto (-56), 3) := by decide +kernel
theorem dX10_judge_95 : decode cX10_judge 95 = .ok (.bipush (-9), 2) := by decide +kernel
theorem dX10_judge_97 : decode cX10_judge 97 = .ok (.ireturn, 1) := by decide +kernel
theorem dX10_see_0 : decode cX10_see 0 = .ok (.iload_n 1, 1) := by decide +kernel
theorem dX10_see_1 : decode cX10_see 1 = .ok (.i2l, 1) := by decide +kernel
theorem dX10_see_2 : decode cX10_see 2 = .ok (.lconst 0, 1) := by decide +kernel
theorem dX10_see_3 : decode cX10_see 3 = .ok (.ldc2_w 216, 3) := by decide +kernel
theorem dX10_see_6 : decode cX10_see 6 = .ok (.invokestatic 62, 3) := by decide +kernel
theorem dX10_see_9 : decode cX10_see 9 = .ok (.ifCond .ne 9, 3) := by decide +kernel
theorem dX10_see_12 : decode cX10_see 12 = .ok (.iload_n 1, 1) := by decide +kernel
theorem dX10_see_13 : decode cX10_see 13 = .ok (.bipush 99, 2) := by decide +kernel
theorem dX10_see_15 : decode cX10_see 15 = .ok (.if_icmp .ne 35, 3) := by decide +kernel
theorem dX10_see_18 : decode cX10_see 18 = .ok (.iload_n 2, 1) := by decide +kernel
theorem dX10_see_19 : decode cX10_see 19 = .ok (.bipush (-9), 2) := by decide +kernel
theorem dX10_see_21 : decode cX10_see 21 = .ok (.if_icmp .eq 15, 3) := by decide +kernel
theorem dX10_see_24 : decode cX10_see 24 = .ok (.iload_n 2, 1) := by decide +kernel
theorem dX10_see_25 : decode cX10_see 25 = .ok (.i2l, 1) := by decide +kernel
theorem dX10_see_26 : decode cX10_see 26 = .ok (.lconst 0, 1) := by decide +kernel
theorem dX10_see_27 : decode cX10_see 27 = .ok (.ldc2_w 218, 3) := by decide +kernel
theorem dX10_see_30 : decode cX10_see 30 = .ok (.invokestatic 62, 3) := by decide +kernel
theorem dX10_see_33 : decode cX10_see 33 = .ok (.ifCond .eq 17, 3) := by decide +kernel
theorem dX10_see_36 : decode cX10_see 36 = .ok (.iload_n 3, 1) := by decide +kernel
theorem dX10_see_37 : decode cX10_see 37 = .ok (.i2l, 1) := by decide +kernel
theorem dX10_see_38 : decode cX10_see 38 = .ok (.lconst 0, 1) := by decide +kernel
theorem dX10_see_39 : decode cX10_see 39 = .ok (.lconst 1, 1) := by decide +kernel
theorem dX10_see_40 : decode cX10_see 40 = .ok (.invokestatic 62, 3) := by decide +kernel
theorem dX10_see_43 : decode cX10_see 43 = .ok (.ifCond .eq 7, 3) := by decide +kernel
theorem dX10_see_46 : decode cX10_see 46 = .ok (.iconst 1, 1) := by decide +kernel
theorem dX10_see_47 : decode cX10_see 47 = .ok (.goto 4, 3) := by decide +kernel
theorem dX10_see_50 : decode cX10_see 50 = .ok (.iconst 0, 1) := by decide +kernel
theorem dX10_see_51 : decode cX10_see 51 = .ok (.istore 4, 2) := by decide +kernel
theorem dX10_see_53 : decode cX10_see 53 = .ok (.iload 4, 2) := by decide +kernel
theorem dX10_see_55 : decode cX10_see 55 = .ok (.ifCond .ne 6, 3) := by decide +kernel
theorem dX10_see_58 : decode cX10_see 58 = .ok (.bipush (-2), 2) := by decide +kernel
theorem dX10_see_60 : decode cX10_see 60 = .ok (.ireturn, 1) := by decide +kernel
theorem dX10_see_61 : decode cX10_see 61 = .ok (.aload_n 0, 1) := by decide +kernel
theorem dX10_see_62 : decode cX10_see 62 = .ok (.getfield 220, 3) := by decide +kernel
theorem dX10_see_65 : decode cX10_see 65 = .ok (.bipush 6, 2) := by decide +kernel
theorem dX10_see_67 : decode cX10_see 67 = .ok (.if_icmp .ne 6, 3) := by decide +kernel
theorem dX10_see_70 : decode cX10_see 70 = .ok (.bipush (-4), 2) := by decide +kernel
theorem dX10_see_72 : decode cX10_see 72 = .ok (.ireturn, 1) := by decide +kernel
theorem dX10_see_73 : decode cX10_see 73 = .ok (.aload_n 0, 1) := by decide +kernel
theorem dX10_see_74 : decode cX10_see 74 = .ok (.getfield 44, 3) := by decide +kernel
theorem dX10_see_77 : decode cX10_see 77 = .ok (.aload_n 0, 1) := by decide +kernel
theorem dX10_see_78 : decode cX10_see 78 = .ok (.getfield 220, 3) := by decide +kernel
theorem dX10_see_81 : decode cX10_see 81 = .ok (.iload_n 1, 1) := by decide +kernel
theorem dX10_see_82 : decode cX10_see 82 = .ok (.iastore, 1) := by decide +kernel
theorem dX10_see_83 : decode cX10_see 83 = .ok (.aload_n 0, 1) := by decide +kernel
theorem dX10_see_84 : decode cX10_see 84 = .ok (.getfield 47, 3) := by decide +kernel
theorem dX10_see_87 : decode cX10_see 87 = .ok (.aload_n 0, 1) := by decide +kernel
theorem dX10_see_88 : decode cX10_see 88 = .ok (.getfield 220, 3) := by decide +kernel
theorem dX10_see_91 : decode cX10_see 91 = .ok (.iload_n 2, 1) := by decide +kernel
theorem dX10_see_92 : decode cX10_see 92 = .ok (.iastore, 1) := by decide +kernel
theorem dX10_see_93 : decode cX10_see 93 = .ok (.aload_n 0, 1) := by decide +kernel
theorem dX10_see_94 : decode cX10_see 94 = .ok (.getfield 50, 3) := by decide +kernel
theorem dX10_see_97 : decode cX10_see 97 = .ok (.aload_n 0, 1) := by decide +kernel
theorem dX10_see_98 : decode cX10_see 98 = .ok (.getfield 220, 3) := by decide +kernel
theorem dX10_see_101 : decode cX10_see 101 = .ok (.iload_n 3, 1) := by decide +kernel
theorem dX10_see_102 : decode cX10_see 102 = .ok (.iastore, 1) := by decide +kernel
theorem dX10_see_103 : decode cX10_see 103 = .ok (.aload_n 0, 1) := by decide +kernel
theorem dX10_see_104 : decode cX10_see 104 = .ok (.dup, 1) := by decide +kernel
theorem dX10_see_105 : decode cX10_see 105 = .ok (.getfield 220, 3) := by decide +kernel
theorem dX10_see_108 : decode cX10_see 108 = .ok (.iconst 1, 1) := by decide +kernel
theorem dX10_see_109 : decode cX10_see 109 = .ok (.iadd, 1) := by decide +kernel
theorem dX10_see_110 : decode cX10_see 110 = .ok (.putfield 220, 3) := by decide +kernel
theorem dX10_see_113 : decode cX10_see 113 = .ok (.aload_n 0, 1) := by decide +kernel
theorem dX10_see_114 : decode cX10_see 114 = .ok (.getfield 220, 3) := by decide +kernel
theorem dX10_see_117 : decode cX10_see 117 = .ok (.ireturn, 1) := by decide +kernel
theorem dX10_unsee_0 : decode cX10_unsee 0 = .ok (.aload_n 0, 1) := by decide +kernel
theorem dX10_unsee_1 : decode cX10_unsee 1 = .ok (.getfield 220, 3) := by decide +kernel
theorem dX10_unsee_4 : decode cX10_unsee 4 = .ok (.istore_n 1, 1) := by decide +kernel
theorem dX10_unsee_5 : decode cX10_unsee 5 = .ok (.aload_n 0, 1) := by decide +kernel
theorem dX10_unsee_6 : decode cX10_unsee 6 = .ok (.iconst 0, 1) := by decide +kernel
theorem dX10_unsee_7 : decode cX10_unsee 7 = .ok (.putfield 220, 3) := by decide +kernel
theorem dX10_unsee_10 : decode cX10_unsee 10 = .ok (.iload_n 1, 1) := by decide +kernel
theorem dX10_unsee_11 : decode cX10_unsee 11 = .ok (.ireturn, 1) := by decide +kernel
theorem dX10_mayBe_0 : decode cX10_mayBe 0 = .ok (.aload_n 0, 1) := by decide +kernel
theorem dX10_mayBe_1 : decode cX10_mayBe 1 = .ok (.getfield 220, 3) := by decide +kernel
theorem dX10_mayBe_4 : decode cX10_mayBe 4 = .ok (.ifCond .ne 5, 3) := by decide +kernel
theorem dX10_mayBe_7 : decode cX10_mayBe 7 = .ok (.iconst 1, 1) := by decide +kernel
theorem dX10_mayBe_8 : decode cX10_mayBe 8 = .ok (.ireturn, 1) := by decide +kernel
theorem dX10_mayBe_9 : decode cX10_mayBe 9 = .ok (.aload_n 0, 1) := by decide +kernel
theorem dX10_mayBe_10 : decode cX10_mayBe 10 = .ok (.invokevirtual 204, 3) := by decide +kernel
theorem dX10_mayBe_13 : decode cX10_mayBe 13 = .ok (.aload_n 0, 1) := by decide +kernel
theorem dX10_mayBe_14 : decode cX10_mayBe 14 = .ok (.iconst 1, 1) := by decide +kernel
theorem dX10_mayBe_15 : decode cX10_mayBe 15 = .ok (.iload_n 1, 1) := by decide +kernel
theorem dX10_mayBe_16 : decode cX10_mayBe 16 = .ok (.invokevirtual 179, 3) := by decide +kernel
theorem dX10_mayBe_19 : decode cX10_mayBe 19 = .ok (.aload_n 0, 1) := by decide +kernel
theorem dX10_mayBe_20 : decode cX10_mayBe 20 = .ok (.iconst 1, 1) := by decide +kernel
theorem dX10_mayBe_21 : decode cX10_mayBe 21 = .ok (.invokevirtual 115, 3) := by decide +kernel
theorem dX10_mayBe_24 : decode cX10_mayBe 24 = .ok (.iconst 1, 1) := by decide +kernel
theorem dX10_mayBe_25 : decode cX10_mayBe 25 = .ok (.istore_n 2, 1) := by decide +kernel
theorem dX10_mayBe_26 : decode cX10_mayBe 26 = .ok (.iconst 0, 1) := by decide +kernel
theorem dX10_mayBe_27 : decode cX10_mayBe 27 = .ok (.istore_n 3, 1) := by decide +kernel
theorem dX10_mayBe_28 : decode cX10_mayBe 28 = .ok (.iload_n 3, 1) := by decide +kernel
theorem dX10_mayBe_29 : decode cX10_mayBe 29 = .ok (.aload_n 0, 1) := by decide +kernel
theorem dX10_mayBe_30 : decode cX10_mayBe 30 = .ok (.getfield 220, 3) := by decide +kernel
theorem dX10_mayBe_33 : decode cX10_mayBe 33 = .ok (.if_icmp .ge 66, 3) := by decide +kernel
theorem dX10_mayBe_36 : decode cX10_mayBe 36 = .ok (.iload_n 2, 1) := by decide +kernel
theorem dX10_mayBe_37 : decode cX10_mayBe 37 = .ok (.ifCond .eq 54, 3) := by decide +kernel
theorem dX10_mayBe_40 : decode cX10_mayBe 40 = .ok (.aload_n 0, 1) := by decide +kernel
theorem dX10_mayBe_41 : decode cX10_mayBe 41 = .ok (.iconst 1, 1) := by decide +kernel
theorem dX10_mayBe_42 : decode cX10_mayBe 42 = .ok (.aload_n 0, 1) := by decide +kernel
theorem dX10_mayBe_43 : decode cX10_mayBe 43 = .ok (.aload_n 0, 1) := by decide +kernel
theorem dX10_mayBe_44 : decode cX10_mayBe 44 = .ok (.getfield 44, 3) := by decide +kernel
theorem dX10_mayBe_47 : decode cX10_mayBe 47 = .ok (.iload_n 3, 1) := by decide +kernel
theorem dX10_mayBe_48 : decode cX10_mayBe 48 = .ok (.iaload, 1) := by decide +kernel
theorem dX10_mayBe_49 : decode cX10_mayBe 49 = .ok (.invokevirtual 195, 3) := by decide +kernel
theorem dX10_mayBe_52 : decode cX10_mayBe 52 = .ok (.invokevirtual 147, 3) := by decide +kernel
theorem dX10_mayBe_55 : decode cX10_mayBe 55 = .ok (.aload_n 0, 1) := by decide +kernel
theorem dX10_mayBe_56 : decode cX10_mayBe 56 = .ok (.getfield 47, 3) := by decide +kernel
theorem dX10_mayBe_59 : decode cX10_mayBe 59 = .ok (.iload_n 3, 1) := by decide +kernel
theorem dX10_mayBe_60 : decode cX10_mayBe 60 = .ok (.iaload, 1) := by decide +kernel
theorem dX10_mayBe_61 : decode cX10_mayBe 61 = .ok (.if_icmp .ne 7, 3) := by decide +kernel
theorem dX10_mayBe_64 : decode cX10_mayBe 64 = .ok (.iconst 1, 1) := by decide +kernel
theorem dX10_mayBe_65 : decode cX10_mayBe 65 = .ok (.goto 4, 3) := by decide +kernel
theorem dX10_mayBe_68 : decode cX10_mayBe 68 = .ok (.iconst 0, 1) := by decide +kernel
theorem dX10_mayBe_69 : decode cX10_mayBe 69 = .ok (.aload_n 0, 1) := by decide +kernel
theorem dX10_mayBe_70 : decode cX10_mayBe 70 = .ok (.getfield 50, 3) := by decide +kernel
theorem dX10_mayBe_73 : decode cX10_mayBe 73 = .ok (.iload_n 3, 1) := by decide +kernel
theorem dX10_mayBe_74 : decode cX10_mayBe 74 = .ok (.iaload, 1) := by decide +kernel
theorem dX10_mayBe_75 : decode cX10_mayBe 75 = .ok (.iconst 1, 1) := by decide +kernel
theorem dX10_mayBe_76 : decode cX10_mayBe 76 = .ok (.if_icmp .ne 7, 3) := by decide +kernel
theorem dX10_mayBe_79 : decode cX10_mayBe 79 = .ok (.iconst 1, 1) := by decide +kernel
theorem dX10_mayBe_80 : decode cX10_mayBe 80 = .ok (.goto 4, 3) := by decide +kernel
theorem dX10_mayBe_83 : decode cX10_mayBe 83 = .ok (.iconst 0, 1) := by decide +kernel
theorem dX10_mayBe_84 : decode cX10_mayBe 84 = .ok (.if_icmp .ne 7, 3) := by decide +kernel
theorem dX10_mayBe_87 : decode cX10_mayBe 87 = .ok (.iconst 1, 1) := by decide +kernel
theorem dX10_mayBe_88 : decode cX10_mayBe 88 = .ok (.goto 4, 3) := by decide +kernel
theorem dX10_mayBe_91 : decode cX10_mayBe 91 = .ok (.iconst 0, 1) := by decide +kernel
theorem dX10_mayBe_92 : decode cX10_mayBe 92 = .ok (.istore_n 2, 1) := by decide +kernel
theorem dX10_mayBe_93 : decode cX10_mayBe 93 = .ok (.iinc 3 1, 3) := by decide +kernel
theorem dX10_mayBe_96 : decode cX10_mayBe 96 = .ok (.goto (-68), 3) := by decide +kernel
theorem dX10_mayBe_99 : decode cX10_mayBe 99 = .ok (.iload_n 2, 1) := by decide +kernel
theorem dX10_mayBe_100 : decode cX10_mayBe 100 = .ok (.ireturn, 1) := by decide +kernel
theorem dX10_hidden_0 : decode cX10_hidden 0 = .ok (.iload_n 1, 1) := by decide +kernel
theorem dX10_hidden_1 : decode cX10_hidden 1 = .ok (.i2l, 1) := by decide +kernel
theorem dX10_hidden_2 : decode cX10_hidden 2 = .ok (.lconst 0, 1) := by decide +kernel
theorem dX10_hidden_3 : decode cX10_hidden 3 = .ok (.lconst 1, 1) := by decide +kernel
theorem dX10_hidden_4 : decode cX10_hidden 4 = .ok (.invokestatic 62, 3) := by decide +kernel
theorem dX10_hidden_7 : decode cX10_hidden 7 = .ok (.ifCond .ne 6, 3) := by decide +kernel
theorem dX10_hidden_10 : decode cX10_hidden 10 = .ok (.bipush (-2), 2) := by decide +kernel
theorem dX10_hidden_12 : decode cX10_hidden 12 = .ok (.ireturn, 1) := by decide +kernel
theorem dX10_hidden_13 : decode cX10_hidden 13 = .ok (.aload_n 0, 1) := by decide +kernel
theorem dX10_hidden_14 : decode cX10_hidden 14 = .ok (.iconst 0, 1) := by decide +kernel
theorem dX10_hidden_15 : decode cX10_hidden 15 = .ok (.invokevirtual 127, 3) := by decide +kernel
theorem dX10_hidden_18 : decode cX10_hidden 18 = .ok (.bipush 16, 2) := by decide +kernel
theorem dX10_hidden_20 : decode cX10_hidden 20 = .ok (.if_icmp .ne 6, 3) := by decide +kernel
theorem dX10_hidden_23 : decode cX10_hidden 23 = .ok (.bipush (-4), 2) := by decide +kernel
theorem dX10_hidden_25 : decode cX10_hidden 25 = .ok (.ireturn, 1) := by decide +kernel
theorem dX10_hidden_26 : decode cX10_hidden 26 = .ok (.iconst 0, 1) := by decide +kernel
theorem dX10_hidden_27 : decode cX10_hidden 27 = .ok (.istore_n 2, 1) := by decide +kernel
theorem dX10_hidden_28 : decode cX10_hidden 28 = .ok (.bipush (-9), 2) := by decide +kernel
theorem dX10_hidden_30 : decode cX10_hidden 30 = .ok (.istore_n 3, 1) := by decide +kernel
theorem dX10_hidden_31 : decode cX10_hidden 31 = .ok (.iconst 0, 1) := by decide +kernel
theorem dX10_hidden_32 : decode cX10_hidden 32 = .ok (.istore 4, 2) := by decide +kernel
theorem dX10_hidden_34 : decode cX10_hidden 34 = .ok (.iload 4, 2) := by decide +kernel
theorem dX10_hidden_36 : decode cX10_hidden 36 = .ok (.sipush 2020, 3) := by decide +kernel
theorem dX10_hidden_39 : decode cX10_hidden 39 = .ok (.if_icmp .ge 55, 3) := by decide +kernel
theorem dX10_hidden_42 : decode cX10_hidden 42 = .ok (.iload 4, 2) := by decide +kernel
theorem dX10_hidden_44 : decode cX10_hidden 44 = .ok (.sipush 505, 3) := by decide +kernel
theorem dX10_hidden_47 : decode cX10_hidden 47 = .ok (.idiv, 1) := by decide +kernel
theorem dX10_hidden_48 : decode cX10_hidden 48 = .ok (.iload 4, 2) := by decide +kernel
theorem dX10_hidden_50 : decode cX10_hidden 50 = .ok (.bipush 101, 2) := by decide +kernel
theorem dX10_hidden_52 : decode cX10_hidden 52 = .ok (.idiv, 1) := by decide +kernel
theorem dX10_hidden_53 : decode cX10_hidden 53 = .ok (.iconst 5, 1) := by decide +kernel
theorem dX10_hidden_54 : decode cX10_hidden 54 = .ok (.irem, 1) := by decide +kernel
theorem dX10_hidden_55 : decode cX10_hidden 55 = .ok (.iload 4, 2) := by decide +kernel
theorem dX10_hidden_57 : decode cX10_hidden 57 = .ok (.bipush 101, 2) := by decide +kernel
theorem dX10_hidden_59 : decode cX10_hidden 59 = .ok (.irem, 1) := by decide +kernel
theorem dX10_hidden_60 : decode cX10_hidden 60 = .ok (.invokestatic 176, 3) := by decide +kernel
theorem dX10_hidden_63 : decode cX10_hidden 63 = .ok (.istore 5, 2) := by decide +kernel
theorem dX10_hidden_65 : decode cX10_hidden 65 = .ok (.aload_n 0, 1) := by decide +kernel
theorem dX10_hidden_66 : decode cX10_hidden 66 = .ok (.iload 5, 2) := by decide +kernel
theorem dX10_hidden_68 : decode cX10_hidden 68 = .ok (.invokevirtual 223, 3) := by decide +kernel
theorem dX10_hidden_71 : decode cX10_hidden 71 = .ok (.ifCond .eq 17, 3) := by decide +kernel
theorem dX10_hidden_74 : decode cX10_hidden 74 = .ok (.iload_n 2, 1) := by decide +kernel
theorem dX10_hidden_75 : decode cX10_hidden 75 = .ok (.ifCond .ne 8, 3) := by decide +kernel
theorem dX10_hidden_78 : decode cX10_hidden 78 = .ok (.iload 5, 2) := by decide +kernel
theorem dX10_hidden_80 : decode cX10_hidden 80 = .ok (.goto 4, 3) := by decide +kernel
theorem dX10_hidden_83 : decode cX10_hidden 83 = .ok (.iload_n 3, 1) := by decide +kernel
theorem dX10_hidden_84 : decode cX10_hidden 84 = .ok (.istore_n 3, 1) := by decide +kernel
theorem dX10_hidden_85 : decode cX10_hidden 85 = .ok (.iinc 2 1, 3) := by decide +kernel
theorem dX10_hidden_88 : decode cX10_hidden 88 = .ok (.iinc 4 1, 3) := by decide +kernel
theorem dX10_hidden_91 : decode cX10_hidden 91 = .ok (.goto (-57), 3) := by decide +kernel
theorem dX10_hidden_94 : decode cX10_hidden 94 = .ok (.iload_n 1, 1) := by decide +kernel
theorem dX10_hidden_95 : decode cX10_hidden 95 = .ok (.ifCond .ne 7, 3) := by decide +kernel
theorem dX10_hidden_98 : decode cX10_hidden 98 = .ok (.iload_n 2, 1) := by decide +kernel
theorem dX10_hidden_99 : decode cX10_hidden 99 = .ok (.goto 4, 3) := by decide +kernel
theorem dX10_hidden_102 : decode cX10_hidden 102 = .ok (.iload_n 3, 1) := by decide +kernel
theorem dX10_hidden_103 : decode cX10_hidden 103 = .ok (.ireturn, 1) := by decide +kernel
theorem dX10_factorial_0 : decode cX10_factorial 0 = .ok (.iconst 1, 1) := by decide +kernel
theorem dX10_factorial_1 : decode cX10_factorial 1 = .ok (.istore_n 1, 1) := by decide +kernel
theorem dX10_factorial_2 : decode cX10_factorial 2 = .ok (.iconst 2, 1) := by decide +kernel
theorem dX10_factorial_3 : decode cX10_factorial 3 = .ok (.istore_n 2, 1) := by decide +kernel
theorem dX10_factorial_4 : decode cX10_factorial 4 = .ok (.iload_n 2, 1) := by decide +kernel
theorem dX10_factorial_5 : decode cX10_factorial 5 = .ok (.iload_n 0, 1) := by decide +kernel
theorem dX10_factorial_6 : decode cX10_factorial 6 = .ok (.if_icmp .gt 13, 3) := by decide +kernel
theorem dX10_factorial_9 : decode cX10_factorial 9 = .ok (.iload_n 1, 1) := by decide +kernel
theorem dX10_factorial_10 : decode cX10_factorial 10 = .ok (.iload_n 2, 1) := by decide +kernel
theorem dX10_factorial_11 : decode cX10_factorial 11 = .ok (.imul, 1) := by decide +kernel
theorem dX10_factorial_12 : decode cX10_factorial 12 = .ok (.istore_n 1, 1) := by decide +kernel
theorem dX10_factorial_13 : decode cX10_factorial 13 = .ok (.iinc 2 1, 3) := by decide +kernel
theorem dX10_factorial_16 : decode cX10_factorial 16 = .ok (.goto (-12), 3) := by decide +kernel
theorem dX10_factorial_19 : decode cX10_factorial 19 = .ok (.iload_n 1, 1) := by decide +kernel
theorem dX10_factorial_20 : decode cX10_factorial 20 = .ok (.ireturn, 1) := by decide +kernel
theorem dX10_common_0 : decode cX10_common 0 = .ok (.iload_n 0, 1) := by decide +kernel
theorem dX10_common_1 : decode cX10_common 1 = .ok (.ifCond .ge 8, 3) := by decide +kernel
theorem dX10_common_4 : decode cX10_common 4 = .ok (.iload_n 0, 1) := by decide +kernel
theorem dX10_common_5 : decode cX10_common 5 = .ok (.ineg, 1) := by decide +kernel
theorem dX10_common_6 : decode cX10_common 6 = .ok (.goto 4, 3) := by decide +kernel
theorem dX10_common_9 : decode cX10_common 9 = .ok (.iload_n 0, 1) := by decide +kernel
theorem dX10_common_10 : decode cX10_common 10 = .ok (.istore_n 2, 1) := by decide +kernel
theorem dX10_common_11 : decode cX10_common 11 = .ok (.iload_n 1, 1) := by decide +kernel
theorem dX10_common_12 : decode cX10_common 12 = .ok (.istore_n 3, 1) := by decide +kernel
theorem dX10_common_13 : decode cX10_common 13 = .ok (.iload_n 3, 1) := by decide +kernel
theorem dX10_common_14 : decode cX10_common 14 = .ok (.ifCond .eq 16, 3) := by decide +kernel
theorem dX10_common_17 : decode cX10_common 17 = .ok (.iload_n 2, 1) := by decide +kernel
theorem dX10_common_18 : decode cX10_common 18 = .ok (.iload_n 3, 1) := by decide +kernel
theorem dX10_common_19 : decode cX10_common 19 = .ok (.irem, 1) := by decide +kernel
theorem dX10_common_20 : decode cX10_common 20 = .ok (.istore 4, 2) := by decide +kernel
theorem dX10_common_22 : decode cX10_common 22 = .ok (.iload_n 3, 1) := by decide +kernel
theorem dX10_common_23 : decode cX10_common 23 = .ok (.istore_n 2, 1) := by decide +kernel
theorem dX10_common_24 : decode cX10_common 24 = .ok (.iload 4, 2) := by decide +kernel
theorem dX10_common_26 : decode cX10_common 26 = .ok (.istore_n 3, 1) := by decide +kernel
theorem dX10_common_27 : decode cX10_common 27 = .ok (.goto (-14), 3) := by decide +kernel
theorem dX10_common_30 : decode cX10_common 30 = .ok (.iload_n 2, 1) := by decide +kernel
theorem dX10_common_31 : decode cX10_common 31 = .ok (.ireturn, 1) := by decide +kernel
theorem dX10_measureBy_0 : decode cX10_measureBy 0 = .ok (.iconst 0, 1) := by decide +kernel
theorem dX10_measureBy_1 : decode cX10_measureBy 1 = .ok (.istore_n 2, 1) := by decide +kernel
theorem dX10_measureBy_2 : decode cX10_measureBy 2 = .ok (.iconst 0, 1) := by decide +kernel
theorem dX10_measureBy_3 : decode cX10_measureBy 3 = .ok (.istore_n 3, 1) := by decide +kernel
theorem dX10_measureBy_4 : decode cX10_measureBy 4 = .ok (.iload_n 3, 1) := by decide +kernel
theorem dX10_measureBy_5 : decode cX10_measureBy 5 = .ok (.aload_n 0, 1) := by decide +kernel
theorem dX10_measureBy_6 : decode cX10_measureBy 6 = .ok (.getfield 119, 3) := by decide +kernel
theorem dX10_measureBy_9 : decode cX10_measureBy 9 = .ok (.if_icmp .ge 30, 3) := by decide +kernel
theorem dX10_measureBy_12 : decode cX10_measureBy 12 = .ok (.iload_n 2, 1) := by decide +kernel
theorem dX10_measureBy_13 : decode cX10_measureBy 13 = .ok (.iload_n 1, 1) := by decide +kernel
theorem dX10_measureBy_14 : decode cX10_measureBy 14 = .ok (.iload_n 3, 1) := by decide +kernel
theorem dX10_measureBy_15 : decode cX10_measureBy 15 = .ok (.invokestatic 130, 3) := by decide +kernel
theorem dX10_measureBy_18 : decode cX10_measureBy 18 = .ok (.ifCond .eq 12, 3) := by decide +kernel
theorem dX10_measureBy_21 : decode cX10_measureBy 21 = .ok (.aload_n 0, 1) := by decide +kernel
theorem dX10_measureBy_22 : decode cX10_measureBy 22 = .ok (.getfield 29, 3) := by decide +kernel
theorem dX10_measureBy_25 : decode cX10_measureBy 25 = .ok (.iload_n 3, 1) := by decide +kernel
theorem dX10_measureBy_26 : decode cX10_measureBy 26 = .ok (.iaload, 1) := by decide +kernel
theorem dX10_measureBy_27 : decode cX10_measureBy 27 = .ok (.goto 4, 3) := by decide +kernel
theorem dX10_measureBy_30 : decode cX10_measureBy 30 = .ok (.iconst 0, 1) := by decide +kernel
theorem dX10_measureBy_31 : decode cX10_measureBy 31 = .ok (.ior, 1) := by decide +kernel
theorem dX10_measureBy_32 : decode cX10_measureBy 32 = .ok (.istore_n 2, 1) := by decide +kernel
theorem dX10_measureBy_33 : decode cX10_measureBy 33 = .ok (.iinc 3 1, 3) := by decide +kernel
theorem dX10_measureBy_36 : decode cX10_measureBy 36 = .ok (.goto (-32), 3) := by decide +kernel
theorem dX10_measureBy_39 : decode cX10_measureBy 39 = .ok (.aload_n 0, 1) := by decide +kernel
theorem dX10_measureBy_40 : decode cX10_measureBy 40 = .ok (.iconst 0, 1) := by decide +kernel
theorem dX10_measureBy_41 : decode cX10_measureBy 41 = .ok (.iload_n 2, 1) := by decide +kernel
theorem dX10_measureBy_42 : decode cX10_measureBy 42 = .ok (.invokevirtual 147, 3) := by decide +kernel
theorem dX10_measureBy_45 : decode cX10_measureBy 45 = .ok (.ireturn, 1) := by decide +kernel
theorem dX10_worthBy_0 : decode cX10_worthBy 0 = .ok (.aload_n 0, 1) := by decide +kernel
theorem dX10_worthBy_1 : decode cX10_worthBy 1 = .ok (.iload_n 1, 1) := by decide +kernel
theorem dX10_worthBy_2 : decode cX10_worthBy 2 = .ok (.invokevirtual 226, 3) := by decide +kernel
theorem dX10_worthBy_5 : decode cX10_worthBy 5 = .ok (.istore_n 2, 1) := by decide +kernel
theorem dX10_worthBy_6 : decode cX10_worthBy 6 = .ok (.iload_n 2, 1) := by decide +kernel
theorem dX10_worthBy_7 : decode cX10_worthBy 7 = .ok (.bipush (-9), 2) := by decide +kernel
theorem dX10_worthBy_9 : decode cX10_worthBy 9 = .ok (.if_icmp .ne 7, 3) := by decide +kernel
theorem dX10_worthBy_12 : decode cX10_worthBy 12 = .ok (.iconst 0, 1) := by decide +kernel
theorem dX10_worthBy_13 : decode cX10_worthBy 13 = .ok (.goto 4, 3) := by decide +kernel
theorem dX10_worthBy_16 : decode cX10_worthBy 16 = .ok (.iload_n 2, 1) := by decide +kernel
theorem dX10_worthBy_17 : decode cX10_worthBy 17 = .ok (.ireturn, 1) := by decide +kernel
theorem dX10_share_0 : decode cX10_share 0 = .ok (.aload_n 0, 1) := by decide +kernel
theorem dX10_share_1 : decode cX10_share 1 = .ok (.iconst 0, 1) := by decide +kernel
theorem dX10_share_2 : decode cX10_share 2 = .ok (.invokevirtual 115, 3) := by decide +kernel
theorem dX10_share_5 : decode cX10_share 5 = .ok (.iload_n 1, 1) := by decide +kernel
theorem dX10_share_6 : decode cX10_share 6 = .ok (.i2l, 1) := by decide +kernel
theorem dX10_share_7 : decode cX10_share 7 = .ok (.lconst 0, 1) := by decide +kernel
theorem dX10_share_8 : decode cX10_share 8 = .ok (.aload_n 0, 1) := by decide +kernel
theorem dX10_share_9 : decode cX10_share 9 = .ok (.getfield 119, 3) := by decide +kernel
theorem dX10_share_12 : decode cX10_share 12 = .ok (.iconst 1, 1) := by decide +kernel
theorem dX10_share_13 : decode cX10_share 13 = .ok (.isub, 1) := by decide +kernel
theorem dX10_share_14 : decode cX10_share 14 = .ok (.i2l, 1) := by decide +kernel
theorem dX10_share_15 : decode cX10_share 15 = .ok (.invokestatic 62, 3) := by decide +kernel
theorem dX10_share_18 : decode cX10_share 18 = .ok (.ifCond .ne 5, 3) := by decide +kernel
theorem dX10_share_21 : decode cX10_share 21 = .ok (.iconst (-1), 1) := by decide +kernel
theorem dX10_share_22 : decode cX10_share 22 = .ok (.ireturn, 1) := by decide +kernel
theorem dX10_share_23 : decode cX10_share 23 = .ok (.aload_n 0, 1) := by decide +kernel
theorem dX10_share_24 : decode cX10_share 24 = .ok (.getfield 119, 3) := by decide +kernel
theorem dX10_share_27 : decode cX10_share 27 = .ok (.bipush 6, 2) := by decide +kernel
theorem dX10_share_29 : decode cX10_share 29 = .ok (.if_icmp .le 6, 3) := by decide +kernel
theorem dX10_share_32 : decode cX10_share 32 = .ok (.bipush (-4), 2) := by decide +kernel
theorem dX10_share_34 : decode cX10_share 34 = .ok (.ireturn, 1) := by decide +kernel
theorem dX10_share_35 : decode cX10_share 35 = .ok (.iconst 0, 1) := by decide +kernel
theorem dX10_share_36 : decode cX10_share 36 = .ok (.istore_n 3, 1) := by decide +kernel
theorem dX10_share_37 : decode cX10_share 37 = .ok (.iconst 0, 1) := by decide +kernel
theorem dX10_share_38 : decode cX10_share 38 = .ok (.istore 4, 2) := by decide +kernel
theorem dX10_share_40 : decode cX10_share 40 = .ok (.iload 4, 2) := by decide +kernel
theorem dX10_share_42 : decode cX10_share 42 = .ok (.iconst 1, 1) := by decide +kernel
theorem dX10_share_43 : decode cX10_share 43 = .ok (.aload_n 0, 1) := by decide +kernel
theorem dX10_share_44 : decode cX10_share 44 = .ok (.getfield 119, 3) := by decide +kernel
theorem dX10_share_47 : decode cX10_share 47 = .ok (.ishl, 1) := by decide +kernel
theorem dX10_share_48 : decode cX10_share 48 = .ok (.if_icmp .ge 67, 3) := by decide +kernel
theorem dX10_share_51 : decode cX10_share 51 = .ok (.iload 4, 2) := by decide +kernel
theorem dX10_share_53 : decode cX10_share 53 = .ok (.iload_n 1, 1) := by decide +kernel
theorem dX10_share_54 : decode cX10_share 54 = .ok (.invokestatic 130, 3) := by decide +kernel
theorem dX10_share_57 : decode cX10_share 57 = .ok (.ifCond .ne 52, 3) := by decide +kernel
theorem dX10_share_60 : decode cX10_share 60 = .ok (.iload 4, 2) := by decide +kernel
theorem dX10_share_62 : decode cX10_share 62 = .ok (.invokestatic 229, 3) := by decide +kernel
theorem dX10_share_65 : decode cX10_share 65 = .ok (.invokestatic 232, 3) := by decide +kernel
theorem dX10_share_68 : decode cX10_share 68 = .ok (.aload_n 0, 1) := by decide +kernel
theorem dX10_share_69 : decode cX10_share 69 = .ok (.getfield 119, 3) := by decide +kernel
theorem dX10_share_72 : decode cX10_share 72 = .ok (.iconst 1, 1) := by decide +kernel
theorem dX10_share_73 : decode cX10_share 73 = .ok (.isub, 1) := by decide +kernel
theorem dX10_share_74 : decode cX10_share 74 = .ok (.iload 4, 2) := by decide +kernel
theorem dX10_share_76 : decode cX10_share 76 = .ok (.invokestatic 229, 3) := by decide +kernel
theorem dX10_share_79 : decode cX10_share 79 = .ok (.isub, 1) := by decide +kernel
theorem dX10_share_80 : decode cX10_share 80 = .ok (.invokestatic 232, 3) := by decide +kernel
theorem dX10_share_83 : decode cX10_share 83 = .ok (.imul, 1) := by decide +kernel
theorem dX10_share_84 : decode cX10_share 84 = .ok (.istore 5, 2) := by decide +kernel
theorem dX10_share_86 : decode cX10_share 86 = .ok (.iload_n 3, 1) := by decide +kernel
theorem dX10_share_87 : decode cX10_share 87 = .ok (.iload 5, 2) := by decide +kernel
theorem dX10_share_89 : decode cX10_share 89 = .ok (.aload_n 0, 1) := by decide +kernel
theorem dX10_share_90 : decode cX10_share 90 = .ok (.iload 4, 2) := by decide +kernel
theorem dX10_share_92 : decode cX10_share 92 = .ok (.iconst 1, 1) := by decide +kernel
theorem dX10_share_93 : decode cX10_share 93 = .ok (.iload_n 1, 1) := by decide +kernel
theorem dX10_share_94 : decode cX10_share 94 = .ok (.ishl, 1) := by decide +kernel
theorem dX10_share_95 : decode cX10_share 95 = .ok (.ior, 1) := by decide +kernel
theorem dX10_share_96 : decode cX10_share 96 = .ok (.invokevirtual 235, 3) := by decide +kernel
theorem dX10_share_99 : decode cX10_share 99 = .ok (.aload_n 0, 1) := by decide +kernel
theorem dX10_share_100 : decode cX10_share 100 = .ok (.iload 4, 2) := by decide +kernel
theorem dX10_share_102 : decode cX10_share 102 = .ok (.invokevirtual 235, 3) := by decide +kernel
theorem dX10_share_105 : decode cX10_share 105 = .ok (.isub, 1) := by decide +kernel
theorem dX10_share_106 : decode cX10_share 106 = .ok (.imul, 1) := by decide +kernel
theorem dX10_share_107 : decode cX10_share 107 = .ok (.iadd, 1) := by decide +kernel
theorem dX10_share_108 : decode cX10_share 108 = .ok (.istore_n 3, 1) := by decide +kernel
theorem dX10_share_109 : decode cX10_share 109 = .ok (.iinc 4 1, 3) := by decide +kernel
theorem dX10_share_112 : decode cX10_share 112 = .ok (.goto (-72), 3) := by decide +kernel
theorem dX10_share_115 : decode cX10_share 115 = .ok (.iload_n 3, 1) := by decide +kernel
theorem dX10_share_116 : decode cX10_share 116 = .ok (.aload_n 0, 1) := by decide +kernel
theorem dX10_share_117 : decode cX10_share 117 = .ok (.getfield 119, 3) := by decide +kernel
theorem dX10_share_120 : decode cX10_share 120 = .ok (.invokestatic 232, 3) := by decide +kernel
theorem dX10_share_123 : decode cX10_share 123 = .ok (.invokestatic 238, 3) := by decide +kernel
theorem dX10_share_126 : decode cX10_share 126 = .ok (.istore 4, 2) := by decide +kernel
theorem dX10_share_128 : decode cX10_share 128 = .ok (.iload_n 2, 1) := by decide +kernel
theorem dX10_share_129 : decode cX10_share 129 = .ok (.ifCond .eq 10, 3) := by decide +kernel
theorem dX10_share_132 : decode cX10_share 132 = .ok (.iload_n 3, 1) := by decide +kernel
theorem dX10_share_133 : decode cX10_share 133 = .ok (.iload 4, 2) := by decide +kernel
theorem dX10_share_135 : decode cX10_share 135 = .ok (.idiv, 1) := by decide +kernel
theorem dX10_share_136 : decode cX10_share 136 = .ok (.goto 13, 3) := by decide +kernel
theorem dX10_share_139 : decode cX10_share 139 = .ok (.aload_n 0, 1) := by decide +kernel
theorem dX10_share_140 : decode cX10_share 140 = .ok (.getfield 119, 3) := by decide +kernel
theorem dX10_share_143 : decode cX10_share 143 = .ok (.invokestatic 232, 3) := by decide +kernel
theorem dX10_share_146 : decode cX10_share 146 = .ok (.iload 4, 2) := by decide +kernel
theorem dX10_share_148 : decode cX10_share 148 = .ok (.idiv, 1) := by decide +kernel
theorem dX10_share_149 : decode cX10_share 149 = .ok (.ireturn, 1) := by decide +kernel
theorem dX10_lost_0 : decode cX10_lost 0 = .ok (.iload_n 1, 1) := by decide +kernel
theorem dX10_lost_1 : decode cX10_lost 1 = .ok (.i2l, 1) := by decide +kernel
theorem dX10_lost_2 : decode cX10_lost 2 = .ok (.lconst 0, 1) := by decide +kernel
theorem dX10_lost_3 : decode cX10_lost 3 = .ok (.ldc2_w 241, 3) := by decide +kernel
theorem dX10_lost_6 : decode cX10_lost 6 = .ok (.invokestatic 62, 3) := by decide +kernel
theorem dX10_lost_9 : decode cX10_lost 9 = .ok (.ifCond .eq 15, 3) := by decide +kernel
theorem dX10_lost_12 : decode cX10_lost 12 = .ok (.iload_n 2, 1) := by decide +kernel
theorem dX10_lost_13 : decode cX10_lost 13 = .ok (.i2l, 1) := by decide +kernel
theorem dX10_lost_14 : decode cX10_lost 14 = .ok (.lconst 0, 1) := by decide +kernel
theorem dX10_lost_15 : decode cX10_lost 15 = .ok (.ldc2_w 243, 3) := by decide +kernel
theorem dX10_lost_18 : decode cX10_lost 18 = .ok (.invokestatic 62, 3) := by decide +kernel
theorem dX10_lost_21 : decode cX10_lost 21 = .ok (.ifCond .ne 6, 3) := by decide +kernel
theorem dX10_lost_24 : decode cX10_lost 24 = .ok (.bipush (-2), 2) := by decide +kernel
theorem dX10_lost_26 : decode cX10_lost 26 = .ok (.ireturn, 1) := by decide +kernel
theorem dX10_lost_27 : decode cX10_lost 27 = .ok (.aload_n 0, 1) := by decide +kernel
theorem dX10_lost_28 : decode cX10_lost 28 = .ok (.iconst 0, 1) := by decide +kernel
theorem dX10_lost_29 : decode cX10_lost 29 = .ok (.invokevirtual 115, 3) := by decide +kernel
theorem dX10_lost_32 : decode cX10_lost 32 = .ok (.aload_n 0, 1) := by decide +kernel
theorem dX10_lost_33 : decode cX10_lost 33 = .ok (.getfield 119, 3) := by decide +kernel
theorem dX10_lost_36 : decode cX10_lost 36 = .ok (.bipush 6, 2) := by decide +kernel
theorem dX10_lost_38 : decode cX10_lost 38 = .ok (.if_icmp .le 6, 3) := by decide +kernel
theorem dX10_lost_41 : decode cX10_lost 41 = .ok (.bipush (-4), 2) := by decide +kernel
theorem dX10_lost_43 : decode cX10_lost 43 = .ok (.ireturn, 1) := by decide +kernel
theorem dX10_lost_44 : decode cX10_lost 44 = .ok (.iconst 0, 1) := by decide +kernel
theorem dX10_lost_45 : decode cX10_lost 45 = .ok (.istore 4, 2) := by decide +kernel
theorem dX10_lost_47 : decode cX10_lost 47 = .ok (.iconst 0, 1) := by decide +kernel
theorem dX10_lost_48 : decode cX10_lost 48 = .ok (.istore 5, 2) := by decide +kernel
theorem dX10_lost_50 : decode cX10_lost 50 = .ok (.iconst 0, 1) := by decide +kernel
theorem dX10_lost_51 : decode cX10_lost 51 = .ok (.istore 6, 2) := by decide +kernel
theorem dX10_lost_53 : decode cX10_lost 53 = .ok (.iload 6, 2) := by decide +kernel
theorem dX10_lost_55 : decode cX10_lost 55 = .ok (.iconst 1, 1) := by decide +kernel
theorem dX10_lost_56 : decode cX10_lost 56 = .ok (.aload_n 0, 1) := by decide +kernel
theorem dX10_lost_57 : decode cX10_lost 57 = .ok (.getfield 119, 3) := by decide +kernel
theorem dX10_lost_60 : decode cX10_lost 60 = .ok (.ishl, 1) := by decide +kernel
theorem dX10_lost_61 : decode cX10_lost 61 = .ok (.if_icmp .ge 81, 3) := by decide +kernel
theorem dX10_lost_64 : decode cX10_lost 64 = .ok (.iconst 1, 1) := by decide +kernel
theorem dX10_lost_65 : decode cX10_lost 65 = .ok (.istore 7, 2) := by decide +kernel
theorem dX10_lost_67 : decode cX10_lost 67 = .ok (.iconst 0, 1) := by decide +kernel
theorem dX10_lost_68 : decode cX10_lost 68 = .ok (.istore 8, 2) := by decide +kernel
theorem dX10_lost_70 : decode cX10_lost 70 = .ok (.iload 8, 2) := by decide +kernel
theorem dX10_lost_72 : decode cX10_lost 72 = .ok (.aload_n 0, 1) := by decide +kernel
theorem dX10_lost_73 : decode cX10_lost 73 = .ok (.getfield 119, 3) := by decide +kernel
theorem dX10_lost_76 : decode cX10_lost 76 = .ok (.if_icmp .ge 32, 3) := by decide +kernel
theorem dX10_lost_79 : decode cX10_lost 79 = .ok (.iload 7, 2) := by decide +kernel
theorem dX10_lost_81 : decode cX10_lost 81 = .ok (.iload 6, 2) := by decide +kernel
theorem dX10_lost_83 : decode cX10_lost 83 = .ok (.iload 8, 2) := by decide +kernel
theorem dX10_lost_85 : decode cX10_lost 85 = .ok (.invokestatic 130, 3) := by decide +kernel
theorem dX10_lost_88 : decode cX10_lost 88 = .ok (.ifCond .eq 10, 3) := by decide +kernel
theorem dX10_lost_91 : decode cX10_lost 91 = .ok (.bipush 10, 2) := by decide +kernel
theorem dX10_lost_93 : decode cX10_lost 93 = .ok (.iload_n 2, 1) := by decide +kernel
theorem dX10_lost_94 : decode cX10_lost 94 = .ok (.isub, 1) := by decide +kernel
theorem dX10_lost_95 : decode cX10_lost 95 = .ok (.goto 4, 3) := by decide +kernel
theorem dX10_lost_98 : decode cX10_lost 98 = .ok (.iload_n 2, 1) := by decide +kernel
theorem dX10_lost_99 : decode cX10_lost 99 = .ok (.imul, 1) := by decide +kernel
theorem dX10_lost_100 : decode cX10_lost 100 = .ok (.istore 7, 2) := by decide +kernel
theorem dX10_lost_102 : decode cX10_lost 102 = .ok (.iinc 8 1, 3) := by decide +kernel
theorem dX10_lost_105 : decode cX10_lost 105 = .ok (.goto (-35), 3) := by decide +kernel
theorem dX10_lost_108 : decode cX10_lost 108 = .ok (.iload 5, 2) := by decide +kernel
theorem dX10_lost_110 : decode cX10_lost 110 = .ok (.iload 7, 2) := by decide +kernel
theorem dX10_lost_112 : decode cX10_lost 112 = .ok (.iadd, 1) := by decide +kernel
theorem dX10_lost_113 : decode cX10_lost 113 = .ok (.istore 5, 2) := by decide +kernel
theorem dX10_lost_115 : decode cX10_lost 115 = .ok (.iload 4, 2) := by decide +kernel
theorem dX10_lost_117 : decode cX10_lost 117 = .ok (.aload_n 0, 1) := by decide +kernel
theorem dX10_lost_118 : decode cX10_lost 118 = .ok (.iload 6, 2) := by decide +kernel
theorem dX10_lost_120 : decode cX10_lost 120 = .ok (.invokevirtual 226, 3) := by decide +kernel
theorem dX10_lost_123 : decode cX10_lost 123 = .ok (.iload_n 1, 1) := by decide +kernel
theorem dX10_lost_124 : decode cX10_lost 124 = .ok (.if_icmp .lt 8, 3) := by decide +kernel
theorem dX10_lost_127 : decode cX10_lost 127 = .ok (.iload 7, 2) := by decide +kernel
theorem dX10_lost_129 : decode cX10_lost 129 = .ok (.goto 4, 3) := by decide +kernel
theorem dX10_lost_132 : decode cX10_lost 132 = .ok (.iconst 0, 1) := by decide +kernel
theorem dX10_lost_133 : decode cX10_lost 133 = .ok (.iadd, 1) := by decide +kernel
theorem dX10_lost_134 : decode cX10_lost 134 = .ok (.istore 4, 2) := by decide +kernel
theorem dX10_lost_136 : decode cX10_lost 136 = .ok (.iinc 6 1, 3) := by decide +kernel
theorem dX10_lost_139 : decode cX10_lost 139 = .ok (.goto (-86), 3) := by decide +kernel
theorem dX10_lost_142 : decode cX10_lost 142 = .ok (.iload 4, 2) := by decide +kernel
theorem dX10_lost_144 : decode cX10_lost 144 = .ok (.iload 5, 2) := by decide +kernel
theorem dX10_lost_146 : decode cX10_lost 146 = .ok (.invokestatic 238, 3) := by decide +kernel
theorem dX10_lost_149 : decode cX10_lost 149 = .ok (.istore 6, 2) := by decide +kernel
theorem dX10_lost_151 : decode cX10_lost 151 = .ok (.iload_n 3, 1) := by decide +kernel
theorem dX10_lost_152 : decode cX10_lost 152 = .ok (.ifCond .eq 11, 3) := by decide +kernel
theorem dX10_lost_155 : decode cX10_lost 155 = .ok (.iload 4, 2) := by decide +kernel
theorem dX10_lost_157 : decode cX10_lost 157 = .ok (.iload 6, 2) := by decide +kernel
theorem dX10_lost_159 : decode cX10_lost 159 = .ok (.idiv, 1) := by decide +kernel
theorem dX10_lost_160 : decode cX10_lost 160 = .ok (.goto 8, 3) := by decide +kernel
theorem dX10_lost_163 : decode cX10_lost 163 = .ok (.iload 5, 2) := by decide +kernel
theorem dX10_lost_165 : decode cX10_lost 165 = .ok (.iload 6, 2) := by decide +kernel
theorem dX10_lost_167 : decode cX10_lost 167 = .ok (.idiv, 1) := by decide +kernel
theorem dX10_lost_168 : decode cX10_lost 168 = .ok (.ireturn, 1) := by decide +kernel
theorem dX10_seed_0 : decode cX10_seed 0 = .ok (.aload_n 0, 1) := by decide +kernel
theorem dX10_seed_1 : decode cX10_seed 1 = .ok (.getfield 245, 3) := by decide +kernel
theorem dX10_seed_4 : decode cX10_seed 4 = .ok (.lstore_n 3, 1) := by decide +kernel
theorem dX10_seed_5 : decode cX10_seed 5 = .ok (.aload_n 0, 1) := by decide +kernel
theorem dX10_seed_6 : decode cX10_seed 6 = .ok (.lload_n 1, 1) := by decide +kernel
theorem dX10_seed_7 : decode cX10_seed 7 = .ok (.putfield 245, 3) := by decide +kernel
theorem dX10_seed_10 : decode cX10_seed 10 = .ok (.lload_n 3, 1) := by decide +kernel
theorem dX10_seed_11 : decode cX10_seed 11 = .ok (.lreturn, 1) := by decide +kernel
theorem dX10_drawn_0 : decode cX10_drawn 0 = .ok (.iload_n 1, 1) := by decide +kernel
theorem dX10_drawn_1 : decode cX10_drawn 1 = .ok (.i2l, 1) := by decide +kernel
theorem dX10_drawn_2 : decode cX10_drawn 2 = .ok (.lconst 1, 1) := by decide +kernel
theorem dX10_drawn_3 : decode cX10_drawn 3 = .ok (.ldc2_w 216, 3) := by decide +kernel
theorem dX10_drawn_6 : decode cX10_drawn 6 = .ok (.invokestatic 62, 3) := by decide +kernel
theorem dX10_drawn_9 : decode cX10_drawn 9 = .ok (.ifCond .ne 6, 3) := by decide +kernel
theorem dX10_drawn_12 : decode cX10_drawn 12 = .ok (.bipush (-2), 2) := by decide +kernel
theorem dX10_drawn_14 : decode cX10_drawn 14 = .ok (.ireturn, 1) := by decide +kernel
theorem dX10_drawn_15 : decode cX10_drawn 15 = .ok (.aload_n 0, 1) := by decide +kernel
theorem dX10_drawn_16 : decode cX10_drawn 16 = .ok (.invokevirtual 204, 3) := by decide +kernel
theorem dX10_drawn_19 : decode cX10_drawn 19 = .ok (.iconst 0, 1) := by decide +kernel
theorem dX10_drawn_20 : decode cX10_drawn 20 = .ok (.istore_n 2, 1) := by decide +kernel
theorem dX10_drawn_21 : decode cX10_drawn 21 = .ok (.iconst 0, 1) := by decide +kernel
theorem dX10_drawn_22 : decode cX10_drawn 22 = .ok (.istore_n 3, 1) := by decide +kernel
theorem dX10_drawn_23 : decode cX10_drawn 23 = .ok (.iload_n 3, 1) := by decide +kernel
theorem dX10_drawn_24 : decode cX10_drawn 24 = .ok (.iload_n 1, 1) := by decide +kernel
theorem dX10_drawn_25 : decode cX10_drawn 25 = .ok (.if_icmp .ge 108, 3) := by decide +kernel
theorem dX10_drawn_28 : decode cX10_drawn 28 = .ok (.aload_n 0, 1) := by decide +kernel
theorem dX10_drawn_29 : decode cX10_drawn 29 = .ok (.aload_n 0, 1) := by decide +kernel
theorem dX10_drawn_30 : decode cX10_drawn 30 = .ok (.getfield 245, 3) := by decide +kernel
theorem dX10_drawn_33 : decode cX10_drawn 33 = .ok (.ldc2_w 249, 3) := by decide +kernel
theorem dX10_drawn_36 : decode cX10_drawn 36 = .ok (.lmul, 1) := by decide +kernel
theorem dX10_drawn_37 : decode cX10_drawn 37 = .ok (.ldc2_w 251, 3) := by decide +kernel
theorem dX10_drawn_40 : decode cX10_drawn 40 = .ok (.ladd, 1) := by decide +kernel
theorem dX10_drawn_41 : decode cX10_drawn 41 = .ok (.putfield 245, 3) := by decide +kernel
theorem dX10_drawn_44 : decode cX10_drawn 44 = .ok (.aload_n 0, 1) := by decide +kernel
theorem dX10_drawn_45 : decode cX10_drawn 45 = .ok (.getfield 245, 3) := by decide +kernel
theorem dX10_drawn_48 : decode cX10_drawn 48 = .ok (.bipush 33, 2) := by decide +kernel
theorem dX10_drawn_50 : decode cX10_drawn 50 = .ok (.lushr, 1) := by decide +kernel
theorem dX10_drawn_51 : decode cX10_drawn 51 = .ok (.l2i, 1) := by decide +kernel
theorem dX10_drawn_52 : decode cX10_drawn 52 = .ok (.istore 4, 2) := by decide +kernel
theorem dX10_drawn_54 : decode cX10_drawn 54 = .ok (.aload_n 0, 1) := by decide +kernel
theorem dX10_drawn_55 : decode cX10_drawn 55 = .ok (.iconst 1, 1) := by decide +kernel
theorem dX10_drawn_56 : decode cX10_drawn 56 = .ok (.invokevirtual 127, 3) := by decide +kernel
theorem dX10_drawn_59 : decode cX10_drawn 59 = .ok (.bipush 16, 2) := by decide +kernel
theorem dX10_drawn_61 : decode cX10_drawn 61 = .ok (.if_icmp .ge 32, 3) := by decide +kernel
theorem dX10_drawn_64 : decode cX10_drawn 64 = .ok (.aload_n 0, 1) := by decide +kernel
theorem dX10_drawn_65 : decode cX10_drawn 65 = .ok (.iconst 1, 1) := by decide +kernel
theorem dX10_drawn_66 : decode cX10_drawn 66 = .ok (.iload 4, 2) := by decide +kernel
theorem dX10_drawn_68 : decode cX10_drawn 68 = .ok (.iconst 4, 1) := by decide +kernel
theorem dX10_drawn_69 : decode cX10_drawn 69 = .ok (.irem, 1) := by decide +kernel
theorem dX10_drawn_70 : decode cX10_drawn 70 = .ok (.iload 4, 2) := by decide +kernel
theorem dX10_drawn_72 : decode cX10_drawn 72 = .ok (.iconst 4, 1) := by decide +kernel
theorem dX10_drawn_73 : decode cX10_drawn 73 = .ok (.idiv, 1) := by decide +kernel
theorem dX10_drawn_74 : decode cX10_drawn 74 = .ok (.iconst 5, 1) := by decide +kernel
theorem dX10_drawn_75 : decode cX10_drawn 75 = .ok (.irem, 1) := by decide +kernel
theorem dX10_drawn_76 : decode cX10_drawn 76 = .ok (.iload 4, 2) := by decide +kernel
theorem dX10_drawn_78 : decode cX10_drawn 78 = .ok (.bipush 32, 2) := by decide +kernel
theorem dX10_drawn_80 : decode cX10_drawn 80 = .ok (.idiv, 1) := by decide +kernel
theorem dX10_drawn_81 : decode cX10_drawn 81 = .ok (.bipush 101, 2) := by decide +kernel
theorem dX10_drawn_83 : decode cX10_drawn 83 = .ok (.irem, 1) := by decide +kernel
theorem dX10_drawn_84 : decode cX10_drawn 84 = .ok (.invokestatic 176, 3) := by decide +kernel
theorem dX10_drawn_87 : decode cX10_drawn 87 = .ok (.invokevirtual 179, 3) := by decide +kernel
theorem dX10_drawn_90 : decode cX10_drawn 90 = .ok (.goto 9, 3) := by decide +kernel
theorem dX10_drawn_93 : decode cX10_drawn 93 = .ok (.aload_n 0, 1) := by decide +kernel
theorem dX10_drawn_94 : decode cX10_drawn 94 = .ok (.iconst 1, 1) := by decide +kernel
theorem dX10_drawn_95 : decode cX10_drawn 95 = .ok (.iconst 0, 1) := by decide +kernel
theorem dX10_drawn_96 : decode cX10_drawn 96 = .ok (.invokevirtual 186, 3) := by decide +kernel
theorem dX10_drawn_99 : decode cX10_drawn 99 = .ok (.aload_n 0, 1) := by decide +kernel
theorem dX10_drawn_100 : decode cX10_drawn 100 = .ok (.iconst 1, 1) := by decide +kernel
theorem dX10_drawn_101 : decode cX10_drawn 101 = .ok (.aload_n 0, 1) := by decide +kernel
theorem dX10_drawn_102 : decode cX10_drawn 102 = .ok (.iconst 1, 1) := by decide +kernel
theorem dX10_drawn_103 : decode cX10_drawn 103 = .ok (.invokevirtual 201, 3) := by decide +kernel
theorem dX10_drawn_106 : decode cX10_drawn 106 = .ok (.invokevirtual 147, 3) := by decide +kernel
theorem dX10_drawn_109 : decode cX10_drawn 109 = .ok (.istore 5, 2) := by decide +kernel
theorem dX10_drawn_111 : decode cX10_drawn 111 = .ok (.iload_n 2, 1) := by decide +kernel
theorem dX10_drawn_112 : decode cX10_drawn 112 = .ok (.iload 5, 2) := by decide +kernel
theorem dX10_drawn_114 : decode cX10_drawn 114 = .ok (.bipush (-9), 2) := by decide +kernel
theorem dX10_drawn_116 : decode cX10_drawn 116 = .ok (.if_icmp .ne 7, 3) := by decide +kernel
theorem dX10_drawn_119 : decode cX10_drawn 119 = .ok (.iconst 0, 1) := by decide +kernel
theorem dX10_drawn_120 : decode cX10_drawn 120 = .ok (.goto 5, 3) := by decide +kernel
theorem dX10_drawn_123 : decode cX10_drawn 123 = .ok (.iload 5, 2) := by decide +kernel
theorem dX10_drawn_125 : decode cX10_drawn 125 = .ok (.iadd, 1) := by decide +kernel
theorem dX10_drawn_126 : decode cX10_drawn 126 = .ok (.istore_n 2, 1) := by decide +kernel
theorem dX10_drawn_127 : decode cX10_drawn 127 = .ok (.iinc 3 1, 3) := by decide +kernel
theorem dX10_drawn_130 : decode cX10_drawn 130 = .ok (.goto (-107), 3) := by decide +kernel
theorem dX10_drawn_133 : decode cX10_drawn 133 = .ok (.iload_n 2, 1) := by decide +kernel
theorem dX10_drawn_134 : decode cX10_drawn 134 = .ok (.ireturn, 1) := by decide +kernel
theorem dX10_keep_0 : decode cX10_keep 0 = .ok (.iload_n 1, 1) := by decide +kernel
theorem dX10_keep_1 : decode cX10_keep 1 = .ok (.i2l, 1) := by decide +kernel
theorem dX10_keep_2 : decode cX10_keep 2 = .ok (.lconst 0, 1) := by decide +kernel
theorem dX10_keep_3 : decode cX10_keep 3 = .ok (.lconst 1, 1) := by decide +kernel
theorem dX10_keep_4 : decode cX10_keep 4 = .ok (.invokestatic 62, 3) := by decide +kernel
theorem dX10_keep_7 : decode cX10_keep 7 = .ok (.ifCond .ne 5, 3) := by decide +kernel
theorem dX10_keep_10 : decode cX10_keep 10 = .ok (.iconst (-1), 1) := by decide +kernel
theorem dX10_keep_11 : decode cX10_keep 11 = .ok (.ireturn, 1) := by decide +kernel
theorem dX10_keep_12 : decode cX10_keep 12 = .ok (.aload_n 0, 1) := by decide +kernel
theorem dX10_keep_13 : decode cX10_keep 13 = .ok (.getfield 53, 3) := by decide +kernel
theorem dX10_keep_16 : decode cX10_keep 16 = .ok (.iload_n 1, 1) := by decide +kernel
theorem dX10_keep_17 : decode cX10_keep 17 = .ok (.iconst 1, 1) := by decide +kernel
theorem dX10_keep_18 : decode cX10_keep 18 = .ok (.bastore, 1) := by decide +kernel
theorem dX10_keep_19 : decode cX10_keep 19 = .ok (.iconst 0, 1) := by decide +kernel
theorem dX10_keep_20 : decode cX10_keep 20 = .ok (.istore_n 2, 1) := by decide +kernel
theorem dX10_keep_21 : decode cX10_keep 21 = .ok (.iload_n 2, 1) := by decide +kernel
theorem dX10_keep_22 : decode cX10_keep 22 = .ok (.bipush 17, 2) := by decide +kernel
theorem dX10_keep_24 : decode cX10_keep 24 = .ok (.if_icmp .ge 26, 3) := by decide +kernel
theorem dX10_keep_27 : decode cX10_keep 27 = .ok (.aload_n 0, 1) := by decide +kernel
theorem dX10_keep_28 : decode cX10_keep 28 = .ok (.getfield 57, 3) := by decide +kernel
theorem dX10_keep_31 : decode cX10_keep 31 = .ok (.bipush 17, 2) := by decide +kernel
theorem dX10_keep_33 : decode cX10_keep 33 = .ok (.iload_n 1, 1) := by decide +kernel
theorem dX10_keep_34 : decode cX10_keep 34 = .ok (.imul, 1) := by decide +kernel
theorem dX10_keep_35 : decode cX10_keep 35 = .ok (.iload_n 2, 1) := by decide +kernel
theorem dX10_keep_36 : decode cX10_keep 36 = .ok (.iadd, 1) := by decide +kernel
theorem dX10_keep_37 : decode cX10_keep 37 = .ok (.aload_n 0, 1) := by decide +kernel
theorem dX10_keep_38 : decode cX10_keep 38 = .ok (.getfield 23, 3) := by decide +kernel
theorem dX10_keep_41 : decode cX10_keep 41 = .ok (.iload_n 2, 1) := by decide +kernel
theorem dX10_keep_42 : decode cX10_keep 42 = .ok (.iaload, 1) := by decide +kernel
theorem dX10_keep_43 : decode cX10_keep 43 = .ok (.iastore, 1) := by decide +kernel
theorem dX10_keep_44 : decode cX10_keep 44 = .ok (.iinc 2 1, 3) := by decide +kernel
theorem dX10_keep_47 : decode cX10_keep 47 = .ok (.goto (-26), 3) := by decide +kernel
theorem dX10_keep_50 : decode cX10_keep 50 = .ok (.aload_n 0, 1) := by decide +kernel
theorem dX10_keep_51 : decode cX10_keep 51 = .ok (.iconst 0, 1) := by decide +kernel
theorem dX10_keep_52 : decode cX10_keep 52 = .ok (.invokevirtual 127, 3) := by decide +kernel
theorem dX10_keep_55 : decode cX10_keep 55 = .ok (.ireturn, 1) := by decide +kernel
theorem dX10_again_0 : decode cX10_again 0 = .ok (.iload_n 1, 1) := by decide +kernel
theorem dX10_again_1 : decode cX10_again 1 = .ok (.i2l, 1) := by decide +kernel
theorem dX10_again_2 : decode cX10_again 2 = .ok (.lconst 0, 1) := by decide +kernel
theorem dX10_again_3 : decode cX10_again 3 = .ok (.lconst 1, 1) := by decide +kernel
theorem dX10_again_4 : decode cX10_again 4 = .ok (.invokestatic 62, 3) := by decide +kernel
theorem dX10_again_7 : decode cX10_again 7 = .ok (.ifCond .ne 5, 3) := by decide +kernel
theorem dX10_again_10 : decode cX10_again 10 = .ok (.iconst (-1), 1) := by decide +kernel
theorem dX10_again_11 : decode cX10_again 11 = .ok (.ireturn, 1) := by decide +kernel
theorem dX10_again_12 : decode cX10_again 12 = .ok (.aload_n 0, 1) := by decide +kernel
theorem dX10_again_13 : decode cX10_again 13 = .ok (.getfield 53, 3) := by decide +kernel
theorem dX10_again_16 : decode cX10_again 16 = .ok (.iload_n 1, 1) := by decide +kernel
theorem dX10_again_17 : decode cX10_again 17 = .ok (.baload, 1) := by decide +kernel
theorem dX10_again_18 : decode cX10_again 18 = .ok (.ifCond .ne 6, 3) := by decide +kernel
theorem dX10_again_21 : decode cX10_again 21 = .ok (.bipush (-3), 2) := by decide +kernel
theorem dX10_again_23 : decode cX10_again 23 = .ok (.ireturn, 1) := by decide +kernel
theorem dX10_again_24 : decode cX10_again 24 = .ok (.iconst 0, 1) := by decide +kernel
theorem dX10_again_25 : decode cX10_again 25 = .ok (.istore_n 2, 1) := by decide +kernel
theorem dX10_again_26 : decode cX10_again 26 = .ok (.iload_n 2, 1) := by decide +kernel
theorem dX10_again_27 : decode cX10_again 27 = .ok (.bipush 17, 2) := by decide +kernel
theorem dX10_again_29 : decode cX10_again 29 = .ok (.if_icmp .ge 26, 3) := by decide +kernel
theorem dX10_again_32 : decode cX10_again 32 = .ok (.aload_n 0, 1) := by decide +kernel
theorem dX10_again_33 : decode cX10_again 33 = .ok (.getfield 23, 3) := by decide +kernel
theorem dX10_again_36 : decode cX10_again 36 = .ok (.iload_n 2, 1) := by decide +kernel
theorem dX10_again_37 : decode cX10_again 37 = .ok (.aload_n 0, 1) := by decide +kernel
theorem dX10_again_38 : decode cX10_again 38 = .ok (.getfield 57, 3) := by decide +kernel
theorem dX10_again_41 : decode cX10_again 41 = .ok (.bipush 17, 2) := by decide +kernel
theorem dX10_again_43 : decode cX10_again 43 = .ok (.iload_n 1, 1) := by decide +kernel
theorem dX10_again_44 : decode cX10_again 44 = .ok (.imul, 1) := by decide +kernel
theorem dX10_again_45 : decode cX10_again 45 = .ok (.iload_n 2, 1) := by decide +kernel
theorem dX10_again_46 : decode cX10_again 46 = .ok (.iadd, 1) := by decide +kernel
theorem dX10_again_47 : decode cX10_again 47 = .ok (.iaload, 1) := by decide +kernel
theorem dX10_again_48 : decode cX10_again 48 = .ok (.iastore, 1) := by decide +kernel
theorem dX10_again_49 : decode cX10_again 49 = .ok (.iinc 2 1, 3) := by decide +kernel
theorem dX10_again_52 : decode cX10_again 52 = .ok (.goto (-26), 3) := by decide +kernel
theorem dX10_again_55 : decode cX10_again 55 = .ok (.aload_n 0, 1) := by decide +kernel
theorem dX10_again_56 : decode cX10_again 56 = .ok (.iconst 0, 1) := by decide +kernel
theorem dX10_again_57 : decode cX10_again 57 = .ok (.putfield 160, 3) := by decide +kernel
theorem dX10_again_60 : decode cX10_again 60 = .ok (.aload_n 0, 1) := by decide +kernel
theorem dX10_again_61 : decode cX10_again 61 = .ok (.iconst 0, 1) := by decide +kernel
theorem dX10_again_62 : decode cX10_again 62 = .ok (.invokevirtual 127, 3) := by decide +kernel
theorem dX10_again_65 : decode cX10_again 65 = .ok (.ireturn, 1) := by decide +kernel
theorem dX10_filledCells_0 : decode cX10_filledCells 0 = .ok (.iconst 0, 1) := by decide +kernel
theorem dX10_filledCells_1 : decode cX10_filledCells 1 = .ok (.istore_n 1, 1) := by decide +kernel
theorem dX10_filledCells_2 : decode cX10_filledCells 2 = .ok (.iconst 0, 1) := by decide +kernel
theorem dX10_filledCells_3 : decode cX10_filledCells 3 = .ok (.istore_n 2, 1) := by decide +kernel
theorem dX10_filledCells_4 : decode cX10_filledCells 4 = .ok (.iload_n 2, 1) := by decide +kernel
theorem dX10_filledCells_5 : decode cX10_filledCells 5 = .ok (.aload_n 0, 1) := by decide +kernel
theorem dX10_filledCells_6 : decode cX10_filledCells 6 = .ok (.getfield 119, 3) := by decide +kernel
theorem dX10_filledCells_9 : decode cX10_filledCells 9 = .ok (.if_icmp .ge 49, 3) := by decide +kernel
theorem dX10_filledCells_12 : decode cX10_filledCells 12 = .ok (.iconst 0, 1) := by decide +kernel
theorem dX10_filledCells_13 : decode cX10_filledCells 13 = .ok (.istore_n 3, 1) := by decide +kernel
theorem dX10_filledCells_14 : decode cX10_filledCells 14 = .ok (.iload_n 3, 1) := by decide +kernel
theorem dX10_filledCells_15 : decode cX10_filledCells 15 = .ok (.aload_n 0, 1) := by decide +kernel
theorem dX10_filledCells_16 : decode cX10_filledCells 16 = .ok (.getfield 154, 3) := by decide +kernel
theorem dX10_filledCells_19 : decode cX10_filledCells 19 = .ok (.if_icmp .ge 33, 3) := by decide +kernel
theorem dX10_filledCells_22 : decode cX10_filledCells 22 = .ok (.iload_n 1, 1) := by decide +kernel
theorem dX10_filledCells_23 : decode cX10_filledCells 23 = .ok (.aload_n 0, 1) := by decide +kernel
theorem dX10_filledCells_24 : decode cX10_filledCells 24 = .ok (.getfield 29, 3) := by decide +kernel
theorem dX10_filledCells_27 : decode cX10_filledCells 27 = .ok (.iload_n 2, 1) := by decide +kernel
theorem dX10_filledCells_28 : decode cX10_filledCells 28 = .ok (.iaload, 1) := by decide +kernel
theorem dX10_filledCells_29 : decode cX10_filledCells 29 = .ok (.aload_n 0, 1) := by decide +kernel
theorem dX10_filledCells_30 : decode cX10_filledCells 30 = .ok (.getfield 35, 3) := by decide +kernel
theorem dX10_filledCells_33 : decode cX10_filledCells 33 = .ok (.iload_n 3, 1) := by decide +kernel
theorem dX10_filledCells_34 : decode cX10_filledCells 34 = .ok (.iaload, 1) := by decide +kernel
theorem dX10_filledCells_35 : decode cX10_filledCells 35 = .ok (.iand, 1) := by decide +kernel
theorem dX10_filledCells_36 : decode cX10_filledCells 36 = .ok (.ifCond .ne 7, 3) := by decide +kernel
theorem dX10_filledCells_39 : decode cX10_filledCells 39 = .ok (.iconst 0, 1) := by decide +kernel
theorem dX10_filledCells_40 : decode cX10_filledCells 40 = .ok (.goto 4, 3) := by decide +kernel
theorem dX10_filledCells_43 : decode cX10_filledCells 43 = .ok (.iconst 1, 1) := by decide +kernel
theorem dX10_filledCells_44 : decode cX10_filledCells 44 = .ok (.iadd, 1) := by decide +kernel
theorem dX10_filledCells_45 : decode cX10_filledCells 45 = .ok (.istore_n 1, 1) := by decide +kernel
theorem dX10_filledCells_46 : decode cX10_filledCells 46 = .ok (.iinc 3 1, 3) := by decide +kernel
theorem dX10_filledCells_49 : decode cX10_filledCells 49 = .ok (.goto (-35), 3) := by decide +kernel
theorem dX10_filledCells_52 : decode cX10_filledCells 52 = .ok (.iinc 2 1, 3) := by decide +kernel
theorem dX10_filledCells_55 : decode cX10_filledCells 55 = .ok (.goto (-51), 3) := by decide +kernel
theorem dX10_filledCells_58 : decode cX10_filledCells 58 = .ok (.iload_n 1, 1) := by decide +kernel
theorem dX10_filledCells_59 : decode cX10_filledCells 59 = .ok (.ireturn, 1) := by decide +kernel
theorem dX10_missingAmounts_0 : decode cX10_missingAmounts 0 = .ok (.iconst 0, 1) := by decide +kernel
theorem dX10_missingAmounts_1 : decode cX10_missingAmounts 1 = .ok (.istore_n 1, 1) := by decide +kernel
theorem dX10_missingAmounts_2 : decode cX10_missingAmounts 2 = .ok (.iconst 0, 1) := by decide +kernel
theorem dX10_missingAmounts_3 : decode cX10_missingAmounts 3 = .ok (.istore_n 2, 1) := by decide +kernel
theorem dX10_missingAmounts_4 : decode cX10_missingAmounts 4 = .ok (.iload_n 2, 1) := by decide +kernel
theorem dX10_missingAmounts_5 : decode cX10_missingAmounts 5 = .ok (.aload_n 0, 1) := by decide +kernel
theorem dX10_missingAmounts_6 : decode cX10_missingAmounts 6 = .ok (.iconst 0, 1) := by decide +kernel
theorem dX10_missingAmounts_7 : decode cX10_missingAmounts 7 = .ok (.invokevirtual 127, 3) := by decide +kernel
theorem dX10_missingAmounts_10 : decode cX10_missingAmounts 10 = .ok (.if_icmp .ge 28, 3) := by decide +kernel
theorem dX10_missingAmounts_13 : decode cX10_missingAmounts 13 = .ok (.iload_n 1, 1) := by decide +kernel
theorem dX10_missingAmounts_14 : decode cX10_missingAmounts 14 = .ok (.aload_n 0, 1) := by decide +kernel
theorem dX10_missingAmounts_15 : decode cX10_missingAmounts 15 = .ok (.iconst 0, 1) := by decide +kernel
theorem dX10_missingAmounts_16 : decode cX10_missingAmounts 16 = .ok (.iload_n 2, 1) := by decide +kernel
theorem dX10_missingAmounts_17 : decode cX10_missingAmounts 17 = .ok (.invokevirtual 134, 3) := by decide +kernel
theorem dX10_missingAmounts_20 : decode cX10_missingAmounts 20 = .ok (.bipush 100, 2) := by decide +kernel
theorem dX10_missingAmounts_22 : decode cX10_missingAmounts 22 = .ok (.if_icmp .ne 7, 3) := by decide +kernel
theorem dX10_missingAmounts_25 : decode cX10_missingAmounts 25 = .ok (.iconst 1, 1) := by decide +kernel
theorem dX10_missingAmounts_26 : decode cX10_missingAmounts 26 = .ok (.goto 4, 3) := by decide +kernel
theorem dX10_missingAmounts_29 : decode cX10_missingAmounts 29 = .ok (.iconst 0, 1) := by decide +kernel
theorem dX10_missingAmounts_30 : decode cX10_missingAmounts 30 = .ok (.iadd, 1) := by decide +kernel
theorem dX10_missingAmounts_31 : decode cX10_missingAmounts 31 = .ok (.istore_n 1, 1) := by decide +kernel
theorem dX10_missingAmounts_32 : decode cX10_missingAmounts 32 = .ok (.iinc 2 1, 3) := by decide +kernel
theorem dX10_missingAmounts_35 : decode cX10_missingAmounts 35 = .ok (.goto (-31), 3) := by decide +kernel
theorem dX10_missingAmounts_38 : decode cX10_missingAmounts 38 = .ok (.iload_n 1, 1) := by decide +kernel
theorem dX10_missingAmounts_39 : decode cX10_missingAmounts 39 = .ok (.ireturn, 1) := by decide +kernel
theorem dX10_count_0 : decode cX10_count 0 = .ok (.aload_n 0, 1) := by decide +kernel
theorem dX10_count_1 : decode cX10_count 1 = .ok (.iconst 0, 1) := by decide +kernel
theorem dX10_count_2 : decode cX10_count 2 = .ok (.invokevirtual 115, 3) := by decide +kernel
theorem dX10_count_5 : decode cX10_count 5 = .ok (.aload_n 0, 1) := by decide +kernel
theorem dX10_count_6 : decode cX10_count 6 = .ok (.iconst 0, 1) := by decide +kernel
theorem dX10_count_7 : decode cX10_count 7 = .ok (.invokevirtual 192, 3) := by decide +kernel
theorem dX10_count_10 : decode cX10_count 10 = .ok (.iload_n 1, 1) := by decide +kernel
theorem dX10_count_11 : decode cX10_count 11 = .ok (.tableswitch 86 0 7 #[45, 50, 56, 61, 66, 71, 76, 81], 45) := by decide +kernel
theorem dX10_count_56 : decode cX10_count 56 = .ok (.aload_n 0, 1) := by decide +kernel
theorem dX10_count_57 : decode cX10_count 57 = .ok (.getfield 66, 3) := by decide +kernel
theorem dX10_count_60 : decode cX10_count 60 = .ok (.ireturn, 1) := by decide +kernel
theorem dX10_count_61 : decode cX10_count 61 = .ok (.aload_n 0, 1) := by decide +kernel
theorem dX10_count_62 : decode cX10_count 62 = .ok (.iconst 0, 1) := by decide +kernel
theorem dX10_count_63 : decode cX10_count 63 = .ok (.invokevirtual 127, 3) := by decide +kernel
theorem dX10_count_66 : decode cX10_count 66 = .ok (.ireturn, 1) := by decide +kernel
theorem dX10_count_67 : decode cX10_count 67 = .ok (.aload_n 0, 1) := by decide +kernel
theorem dX10_count_68 : decode cX10_count 68 = .ok (.getfield 119, 3) := by decide +kernel
theorem dX10_count_71 : decode cX10_count 71 = .ok (.ireturn, 1) := by decide +kernel
theorem dX10_count_72 : decode cX10_count 72 = .ok (.aload_n 0, 1) := by decide +kernel
theorem dX10_count_73 : decode cX10_count 73 = .ok (.getfield 154, 3) := by decide +kernel
theorem dX10_count_76 : decode cX10_count 76 = .ok (.ireturn, 1) := by decide +kernel
theorem dX10_count_77 : decode cX10_count 77 = .ok (.aload_n 0, 1) := by decide +kernel
theorem dX10_count_78 : decode cX10_count 78 = .ok (.invokevirtual 253, 3) := by decide +kernel
theorem dX10_count_81 : decode cX10_count 81 = .ok (.ireturn, 1) := by decide +kernel
theorem dX10_count_82 : decode cX10_count 82 = .ok (.aload_n 0, 1) := by decide +kernel
theorem dX10_count_83 : decode cX10_count 83 = .ok (.invokevirtual 256, 3) := by decide +kernel
theorem dX10_count_86 : decode cX10_count 86 = .ok (.ireturn, 1) := by decide +kernel
theorem dX10_count_87 : decode cX10_count 87 = .ok (.aload_n 0, 1) := by decide +kernel
theorem dX10_count_88 : decode cX10_count 88 = .ok (.getfield 160, 3) := by decide +kernel
theorem dX10_count_91 : decode cX10_count 91 = .ok (.ireturn, 1) := by decide +kernel
theorem dX10_count_92 : decode cX10_count 92 = .ok (.aload_n 0, 1) := by decide +kernel
theorem dX10_count_93 : decode cX10_count 93 = .ok (.getfield 220, 3) := by decide +kernel
theorem dX10_count_96 : decode cX10_count 96 = .ok (.ireturn, 1) := by decide +kernel
theorem dX10_count_97 : decode cX10_count 97 = .ok (.bipush (-2), 2) := by decide +kernel
theorem dX10_count_99 : decode cX10_count 99 = .ok (.ireturn, 1) := by decide +kernel
end
section
theorem dL_law_0 : decode cL_law 0 = .ok (.new 7, 3) := by decide +kernel
theorem dL_law_3 : decode cL_law 3 = .ok (.dup, 1) := by decide +kernel
theorem dL_law_4 : decode cL_law 4 = .ok (.invokespecial 9, 3) := by decide +kernel
theorem dL_law_7 : decode cL_law 7 = .ok (.astore_n 1, 1) := by decide +kernel
theorem dL_law_8 : decode cL_law 8 = .ok (.new 10, 3) := by decide +kernel
theorem dL_law_11 : decode cL_law 11 = .ok (.dup, 1) := by decide +kernel
theorem dL_law_12 : decode cL_law 12 = .ok (.invokespecial 12, 3) := by decide +kernel
theorem dL_law_15 : decode cL_law 15 = .ok (.astore_n 2, 1) := by decide +kernel
theorem dL_law_16 : decode cL_law 16 = .ok (.iconst 0, 1) := by decide +kernel
theorem dL_law_17 : decode cL_law 17 = .ok (.istore_n 3, 1) := by decide +kernel
theorem dL_law_18 : decode cL_law 18 = .ok (.iload_n 3, 1) := by decide +kernel
theorem dL_law_19 : decode cL_law 19 = .ok (.aload_n 0, 1) := by decide +kernel
theorem dL_law_20 : decode cL_law 20 = .ok (.arraylength, 1) := by decide +kernel
theorem dL_law_21 : decode cL_law 21 = .ok (.iconst 5, 1) := by decide +kernel
theorem dL_law_22 : decode cL_law 22 = .ok (.isub, 1) := by decide +kernel
theorem dL_law_23 : decode cL_law 23 = .ok (.if_icmp .gt 990, 3) := by decide +kernel
theorem dL_law_26 : decode cL_law 26 = .ok (.aload_n 0, 1) := by decide +kernel
theorem dL_law_27 : decode cL_law 27 = .ok (.iload_n 3, 1) := by decide +kernel
theorem dL_law_28 : decode cL_law 28 = .ok (.iaload, 1) := by decide +kernel
theorem dL_law_29 : decode cL_law 29 = .ok (.bipush 31, 2) := by decide +kernel
theorem dL_law_31 : decode cL_law 31 = .ok (.iand, 1) := by decide +kernel
theorem dL_law_32 : decode cL_law 32 = .ok (.tableswitch 975 0 27 #[128, 151, 164, 177, 190, 213, 256, 279, 312, 325, 358, 391, 424, 457, 490, 503, 556, 579, 642, 685, 698, 721, 770, 829, 883, 906, 929, 952], 128) := by decide +kernel
theorem dL_law_160 : decode cL_law 160 = .ok (.aload_n 1, 1) := by decide +kernel
theorem dL_law_161 : decode cL_law 161 = .ok (.aload_n 0, 1) := by decide +kernel
theorem dL_law_162 : decode cL_law 162 = .ok (.iload_n 3, 1) := by decide +kernel
theorem dL_law_163 : decode cL_law 163 = .ok (.iconst 1, 1) := by decide +kernel
theorem dL_law_164 : decode cL_law 164 = .ok (.iadd, 1) := by decide +kernel
theorem dL_law_165 : decode cL_law 165 = .ok (.iaload, 1) := by decide +kernel
theorem dL_law_166 : decode cL_law 166 = .ok (.invokevirtual 13, 3) := by decide +kernel
theorem dL_law_169 : decode cL_law 169 = .ok (.aload_n 2, 1) := by decide +kernel
theorem dL_law_170 : decode cL_law 170 = .ok (.aload_n 0, 1) := by decide +kernel
theorem dL_law_171 : decode cL_law 171 = .ok (.iload_n 3, 1) := by decide +kernel
theorem dL_law_172 : decode cL_law 172 = .ok (.iconst 1, 1) := by decide +kernel
theorem dL_law_173 : decode cL_law 173 = .ok (.iadd, 1) := by decide +kernel
theorem dL_law_174 : decode cL_law 174 = .ok (.iaload, 1) := by decide +kernel
theorem dL_law_175 : decode cL_law 175 = .ok (.invokevirtual 17, 3) := by decide +kernel
theorem dL_law_178 : decode cL_law 178 = .ok (.if_icmp .eq 829, 3) := by decide +kernel
theorem dL_law_181 : decode cL_law 181 = .ok (.iconst 0, 1) := by decide +kernel
theorem dL_law_182 : decode cL_law 182 = .ok (.ireturn, 1) := by decide +kernel
theorem dL_law_183 : decode cL_law 183 = .ok (.aload_n 1, 1) := by decide +kernel
theorem dL_law_184 : decode cL_law 184 = .ok (.invokevirtual 18, 3) := by decide +kernel
theorem dL_law_187 : decode cL_law 187 = .ok (.aload_n 2, 1) := by decide +kernel
theorem dL_law_188 : decode cL_law 188 = .ok (.invokevirtual 22, 3) := by decide +kernel
theorem dL_law_191 : decode cL_law 191 = .ok (.if_icmp .eq 816, 3) := by decide +kernel
theorem dL_law_194 : decode cL_law 194 = .ok (.iconst 0, 1) := by decide +kernel
theorem dL_law_195 : decode cL_law 195 = .ok (.ireturn, 1) := by decide +kernel
theorem dL_law_196 : decode cL_law 196 = .ok (.aload_n 1, 1) := by decide +kernel
theorem dL_law_197 : decode cL_law 197 = .ok (.invokevirtual 23, 3) := by decide +kernel
theorem dL_law_200 : decode cL_law 200 = .ok (.aload_n 2, 1) := by decide +kernel
theorem dL_law_201 : decode cL_law 201 = .ok (.invokevirtual 26, 3) := by decide +kernel
theorem dL_law_204 : decode cL_law 204 = .ok (.if_icmp .eq 803, 3) := by decide +kernel
theorem dL_law_207 : decode cL_law 207 = .ok (.iconst 0, 1) := by decide +kernel
theorem dL_law_208 : decode cL_law 208 = .ok (.ireturn, 1) := by decide +kernel
theorem dL_law_209 : decode cL_law 209 = .ok (.aload_n 1, 1) := by decide +kernel
theorem dL_law_210 : decode cL_law 210 = .ok (.invokevirtual 27, 3) := by decide +kernel
theorem dL_law_213 : decode cL_law 213 = .ok (.aload_n 2, 1) := by decide +kernel
theorem dL_law_214 : decode cL_law 214 = .ok (.invokevirtual 30, 3) := by decide +kernel
theorem dL_law_217 : decode cL_law 217 = .ok (.if_icmp .eq 790, 3) := by decide +kernel
theorem dL_law_220 : decode cL_law 220 = .ok (.iconst 0, 1) := by decide +kernel
theorem dL_law_221 : decode cL_law 221 = .ok (.ireturn, 1) := by decide +kernel
theorem dL_law_222 : decode cL_law 222 = .ok (.aload_n 1, 1) := by decide +kernel
theorem dL_law_223 : decode cL_law 223 = .ok (.aload_n 0, 1) := by decide +kernel
theorem dL_law_224 : decode cL_law 224 = .ok (.iload_n 3, 1) := by decide +kernel
theorem dL_law_225 : decode cL_law 225 = .ok (.iconst 1, 1) := by decide +kernel
theorem dL_law_226 : decode cL_law 226 = .ok (.iadd, 1) := by decide +kernel
theorem dL_law_227 : decode cL_law 227 = .ok (.iaload, 1) := by decide +kernel
theorem dL_law_228 : decode cL_law 228 = .ok (.invokevirtual 31, 3) := by decide +kernel
theorem dL_law_231 : decode cL_law 231 = .ok (.aload_n 2, 1) := by decide +kernel
theorem dL_law_232 : decode cL_law 232 = .ok (.aload_n 0, 1) := by decide +kernel
theorem dL_law_233 : decode cL_law 233 = .ok (.iload_n 3, 1) := by decide +kernel
theorem dL_law_234 : decode cL_law 234 = .ok (.iconst 1, 1) := by decide +kernel
theorem dL_law_235 : decode cL_law 235 = .ok (.iadd, 1) := by decide +kernel
theorem dL_law_236 : decode cL_law 236 = .ok (.iaload, 1) := by decide +kernel
theorem dL_law_237 : decode cL_law 237 = .ok (.invokevirtual 34, 3) := by decide +kernel
theorem dL_law_240 : decode cL_law 240 = .ok (.if_icmp .eq 767, 3) := by decide +kernel
theorem dL_law_243 : decode cL_law 243 = .ok (.iconst 0, 1) := by decide +kernel
theorem dL_law_244 : decode cL_law 244 = .ok (.ireturn, 1) := by decide +kernel
theorem dL_law_245 : decode cL_law 245 = .ok (.aload_n 1, 1) := by decide +kernel
theorem dL_law_246 : decode cL_law 246 = .ok (.aload_n 0, 1) := by decide +kernel
theorem dL_law_247 : decode cL_law 247 = .ok (.iload_n 3, 1) := by decide +kernel
theorem dL_law_248 : decode cL_law 248 = .ok (.iconst 1, 1) := by decide +kernel
theorem dL_law_249 : decode cL_law 249 = .ok (.iadd, 1) := by decide +kernel
theorem dL_law_250 : decode cL_law 250 = .ok (.iaload, 1) := by decide +kernel
theorem dL_law_251 : decode cL_law 251 = .ok (.aload_n 0, 1) := by decide +kernel
theorem dL_law_252 : decode cL_law 252 = .ok (.iload_n 3, 1) := by decide +kernel
theorem dL_law_253 : decode cL_law 253 = .ok (.iconst 2, 1) := by decide +kernel
theorem dL_law_254 : decode cL_law 254 = .ok (.iadd, 1) := by decide +kernel
theorem dL_law_255 : decode cL_law 255 = .ok (.iaload, 1) := by decide +kernel
theorem dL_law_256 : decode cL_law 256 = .ok (.aload_n 0, 1) := by decide +kernel
theorem dL_law_257 : decode cL_law 257 = .ok (.iload_n 3, 1) := by decide +kernel
theorem dL_law_258 : decode cL_law 258 = .ok (.iconst 3, 1) := by decide +kernel
theorem dL_law_259 : decode cL_law 259 = .ok (.iadd, 1) := by decide +kernel
theorem dL_law_260 : decode cL_law 260 = .ok (.iaload, 1) := by decide +kernel
theorem dL_law_261 : decode cL_law 261 = .ok (.invokevirtual 35, 3) := by decide +kernel
theorem dL_law_264 : decode cL_law 264 = .ok (.aload_n 2, 1) := by decide +kernel
theorem dL_law_265 : decode cL_law 265 = .ok (.aload_n 0, 1) := by decide +kernel
theorem dL_law_266 : decode cL_law 266 = .ok (.iload_n 3, 1) := by decide +kernel
theorem dL_law_267 : decode cL_law 267 = .ok (.iconst 1, 1) := by decide +kernel
theorem dL_law_268 : decode cL_law 268 = .ok (.iadd, 1) := by decide +kernel
theorem dL_law_269 : decode cL_law 269 = .ok (.iaload, 1) := by decide +kernel
theorem dL_law_270 : decode cL_law 270 = .ok (.aload_n 0, 1) := by decide +kernel
theorem dL_law_271 : decode cL_law 271 = .ok (.iload_n 3, 1) := by decide +kernel
theorem dL_law_272 : decode cL_law 272 = .ok (.iconst 2, 1) := by decide +kernel
theorem dL_law_273 : decode cL_law 273 = .ok (.iadd, 1) := by decide +kernel
theorem dL_law_274 : decode cL_law 274 = .ok (.iaload, 1) := by decide +kernel
theorem dL_law_275 : decode cL_law 275 = .ok (.aload_n 0, 1) := by decide +kernel
theorem dL_law_276 : decode cL_law 276 = .ok (.iload_n 3, 1) := by decide +kernel
theorem dL_law_277 : decode cL_law 277 = .ok (.iconst 3, 1) := by decide +kernel
theorem dL_law_278 : decode cL_law 278 = .ok (.iadd, 1) := by decide +kernel
theorem dL_law_279 : decode cL_law 279 = .ok (.iaload, 1) := by decide +kernel
theorem dL_law_280 : decode cL_law 280 = .ok (.invokevirtual 39, 3) := by decide +kernel
theorem dL_law_283 : decode cL_law 283 = .ok (.if_icmp .eq 724, 3) := by decide +kernel
theorem dL_law_286 : decode cL_law 286 = .ok (.iconst 0, 1) := by decide +kernel
theorem dL_law_287 : decode cL_law 287 = .ok (.ireturn, 1) := by decide +kernel
theorem dL_law_288 : decode cL_law 288 = .ok (.aload_n 1, 1) := by decide +kernel
theorem dL_law_289 : decode cL_law 289 = .ok (.aload_n 0, 1) := by decide +kernel
theorem dL_law_290 : decode cL_law 290 = .ok (.iload_n 3, 1) := by decide +kernel
theorem dL_law_291 : decode cL_law 291 = .ok (.iconst 1, 1) := by decide +kernel
theorem dL_law_292 : decode cL_law 292 = .ok (.iadd, 1) := by decide +kernel
theorem dL_law_293 : decode cL_law 293 = .ok (.iaload, 1) := by decide +kernel
theorem dL_law_294 : decode cL_law 294 = .ok (.invokevirtual 40, 3) := by decide +kernel
theorem dL_law_297 : decode cL_law 297 = .ok (.aload_n 2, 1) := by decide +kernel
theorem dL_law_298 : decode cL_law 298 = .ok (.aload_n 0, 1) := by decide +kernel
theorem dL_law_299 : decode cL_law 299 = .ok (.iload_n 3, 1) := by decide +kernel
theorem dL_law_300 : decode cL_law 300 = .ok (.iconst 1, 1) := by decide +kernel
theorem dL_law_301 : decode cL_law 301 = .ok (.iadd, 1) := by decide +kernel
theorem dL_law_302 : decode cL_law 302 = .ok (.iaload, 1) := by decide +kernel
theorem dL_law_303 : decode cL_law 303 = .ok (.invokevirtual 43, 3) := by decide +kernel
theorem dL_law_306 : decode cL_law 306 = .ok (.if_icmp .eq 701, 3) := by decide +kernel
theorem dL_law_309 : decode cL_law 309 = .ok (.iconst 0, 1) := by decide +kernel
theorem dL_law_310 : decode cL_law 310 = .ok (.ireturn, 1) := by decide +kernel
theorem dL_law_311 : decode cL_law 311 = .ok (.aload_n 1, 1) := by decide +kernel
theorem dL_law_312 : decode cL_law 312 = .ok (.aload_n 0, 1) := by decide +kernel
theorem dL_law_313 : decode cL_law 313 = .ok (.iload_n 3, 1) := by decide +kernel
theorem dL_law_314 : decode cL_law 314 = .ok (.iconst 1, 1) := by decide +kernel
theorem dL_law_315 : decode cL_law 315 = .ok (.iadd, 1) := by decide +kernel
theorem dL_law_316 : decode cL_law 316 = .ok (.iaload, 1) := by decide +kernel
theorem dL_law_317 : decode cL_law 317 = .ok (.aload_n 0, 1) := by decide +kernel
theorem dL_law_318 : decode cL_law 318 = .ok (.iload_n 3, 1) := by decide +kernel
theorem dL_law_319 : decode cL_law 319 = .ok (.iconst 2, 1) := by decide +kernel
theorem dL_law_320 : decode cL_law 320 = .ok (.iadd, 1) := by decide +kernel
theorem dL_law_321 : decode cL_law 321 = .ok (.iaload, 1) := by decide +kernel
theorem dL_law_322 : decode cL_law 322 = .ok (.invokevirtual 44, 3) := by decide +kernel
theorem dL_law_325 : decode cL_law 325 = .ok (.aload_n 2, 1) := by decide +kernel
theorem dL_law_326 : decode cL_law 326 = .ok (.aload_n 0, 1) := by decide +kernel
theorem dL_law_327 : decode cL_law 327 = .ok (.iload_n 3, 1) := by decide +kernel
theorem dL_law_328 : decode cL_law 328 = .ok (.iconst 1, 1) := by decide +kernel
theorem dL_law_329 : decode cL_law 329 = .ok (.iadd, 1) := by decide +kernel
theorem dL_law_330 : decode cL_law 330 = .ok (.iaload, 1) := by decide +kernel
theorem dL_law_331 : decode cL_law 331 = .ok (.aload_n 0, 1) := by decide +kernel
theorem dL_law_332 : decode cL_law 332 = .ok (.iload_n 3, 1) := by decide +kernel
theorem dL_law_333 : decode cL_law 333 = .ok (.iconst 2, 1) := by decide +kernel
theorem dL_law_334 : decode cL_law 334 = .ok (.iadd, 1) := by decide +kernel
theorem dL_law_335 : decode cL_law 335 = .ok (.iaload, 1) := by decide +kernel
theorem dL_law_336 : decode cL_law 336 = .ok (.invokevirtual 48, 3) := by decide +kernel
theorem dL_law_339 : decode cL_law 339 = .ok (.if_icmp .eq 668, 3) := by decide +kernel
theorem dL_law_342 : decode cL_law 342 = .ok (.iconst 0, 1) := by decide +kernel
theorem dL_law_343 : decode cL_law 343 = .ok (.ireturn, 1) := by decide +kernel
theorem dL_law_344 : decode cL_law 344 = .ok (.aload_n 1, 1) := by decide +kernel
theorem dL_law_345 : decode cL_law 345 = .ok (.invokevirtual 49, 3) := by decide +kernel
theorem dL_law_348 : decode cL_law 348 = .ok (.aload_n 2, 1) := by decide +kernel
theorem dL_law_349 : decode cL_law 349 = .ok (.invokevirtual 52, 3) := by decide +kernel
theorem dL_law_352 : decode cL_law 352 = .ok (.if_icmp .eq 655, 3) := by decide +kernel
theorem dL_law_355 : decode cL_law 355 = .ok (.iconst 0, 1) := by decide +kernel
theorem dL_law_356 : decode cL_law 356 = .ok (.ireturn, 1) := by decide +kernel
theorem dL_law_357 : decode cL_law 357 = .ok (.aload_n 1, 1) := by decide +kernel
theorem dL_law_358 : decode cL_law 358 = .ok (.aload_n 0, 1) := by decide +kernel
theorem dL_law_359 : decode cL_law 359 = .ok (.iload_n 3, 1) := by decide +kernel
theorem dL_law_360 : decode cL_law 360 = .ok (.iconst 1, 1) := by decide +kernel
theorem dL_law_361 : decode cL_law 361 = .ok (.iadd, 1) := by decide +kernel
theorem dL_law_362 : decode cL_law 362 = .ok (.iaload, 1) := by decide +kernel
theorem dL_law_363 : decode cL_law 363 = .ok (.aload_n 0, 1) := by decide +kernel
theorem dL_law_364 : decode cL_law 364 = .ok (.iload_n 3, 1) := by decide +kernel
theorem dL_law_365 : decode cL_law 365 = .ok (.iconst 2, 1) := by decide +kernel
theorem dL_law_366 : decode cL_law 366 = .ok (.iadd, 1) := by decide +kernel
theorem dL_law_367 : decode cL_law 367 = .ok (.iaload, 1) := by decide +kernel
theorem dL_law_368 : decode cL_law 368 = .ok (.invokevirtual 53, 3) := by decide +kernel
theorem dL_law_371 : decode cL_law 371 = .ok (.aload_n 2, 1) := by decide +kernel
theorem dL_law_372 : decode cL_law 372 = .ok (.aload_n 0, 1) := by decide +kernel
theorem dL_law_373 : decode cL_law 373 = .ok (.iload_n 3, 1) := by decide +kernel
theorem dL_law_374 : decode cL_law 374 = .ok (.iconst 1, 1) := by decide +kernel
theorem dL_law_375 : decode cL_law 375 = .ok (.iadd, 1) := by decide +kernel
theorem dL_law_376 : decode cL_law 376 = .ok (.iaload, 1) := by decide +kernel
theorem dL_law_377 : decode cL_law 377 = .ok (.aload_n 0, 1) := by decide +kernel
theorem dL_law_378 : decode cL_law 378 = .ok (.iload_n 3, 1) := by decide +kernel
theorem dL_law_379 : decode cL_law 379 = .ok (.iconst 2, 1) := by decide +kernel
theorem dL_law_380 : decode cL_law 380 = .ok (.iadd, 1) := by decide +kernel
theorem dL_law_381 : decode cL_law 381 = .ok (.iaload, 1) := by decide +kernel
theorem dL_law_382 : decode cL_law 382 = .ok (.invokevirtual 56, 3) := by decide +kernel
theorem dL_law_385 : decode cL_law 385 = .ok (.if_icmp .eq 622, 3) := by decide +kernel
theorem dL_law_388 : decode cL_law 388 = .ok (.iconst 0, 1) := by decide +kernel
theorem dL_law_389 : decode cL_law 389 = .ok (.ireturn, 1) := by decide +kernel
theorem dL_law_390 : decode cL_law 390 = .ok (.aload_n 1, 1) := by decide +kernel
theorem dL_law_391 : decode cL_law 391 = .ok (.aload_n 0, 1) := by decide +kernel
theorem dL_law_392 : decode cL_law 392 = .ok (.iload_n 3, 1) := by decide +kernel
theorem dL_law_393 : decode cL_law 393 = .ok (.iconst 1, 1) := by decide +kernel
theorem dL_law_394 : decode cL_law 394 = .ok (.iadd, 1) := by decide +kernel
theorem dL_law_395 : decode cL_law 395 = .ok (.iaload, 1) := by decide +kernel
theorem dL_law_396 : decode cL_law 396 = .ok (.aload_n 0, 1) := by decide +kernel
theorem dL_law_397 : decode cL_law 397 = .ok (.iload_n 3, 1) := by decide +kernel
theorem dL_law_398 : decode cL_law 398 = .ok (.iconst 2, 1) := by decide +kernel
theorem dL_law_399 : decode cL_law 399 = .ok (.iadd, 1) := by decide +kernel
theorem dL_law_400 : decode cL_law 400 = .ok (.iaload, 1) := by decide +kernel
theorem dL_law_401 : decode cL_law 401 = .ok (.invokevirtual 57, 3) := by decide +kernel
theorem dL_law_404 : decode cL_law 404 = .ok (.aload_n 2, 1) := by decide +kernel
theorem dL_law_405 : decode cL_law 405 = .ok (.aload_n 0, 1) := by decide +kernel
theorem dL_law_406 : decode cL_law 406 = .ok (.iload_n 3, 1) := by decide +kernel
theorem dL_law_407 : decode cL_law 407 = .ok (.iconst 1, 1) := by decide +kernel
theorem dL_law_408 : decode cL_law 408 = .ok (.iadd, 1) := by decide +kernel
theorem dL_law_409 : decode cL_law 409 = .ok (.iaload, 1) := by decide +kernel
theorem dL_law_410 : decode cL_law 410 = .ok (.aload_n 0, 1) := by decide +kernel
theorem dL_law_411 : decode cL_law 411 = .ok (.iload_n 3, 1) := by decide +kernel
theorem dL_law_412 : decode cL_law 412 = .ok (.iconst 2, 1) := by decide +kernel
theorem dL_law_413 : decode cL_law 413 = .ok (.iadd, 1) := by decide +kernel
theorem dL_law_414 : decode cL_law 414 = .ok (.iaload, 1) := by decide +kernel
theorem dL_law_415 : decode cL_law 415 = .ok (.invokevirtual 60, 3) := by decide +kernel
theorem dL_law_418 : decode cL_law 418 = .ok (.if_icmp .eq 589, 3) := by decide +kernel
theorem dL_law_421 : decode cL_law 421 = .ok (.iconst 0, 1) := by decide +kernel
theorem dL_law_422 : decode cL_law 422 = .ok (.ireturn, 1) := by decide +kernel
theorem dL_law_423 : decode cL_law 423 = .ok (.aload_n 1, 1) := by decide +kernel
theorem dL_law_424 : decode cL_law 424 = .ok (.aload_n 0, 1) := by decide +kernel
theorem dL_law_425 : decode cL_law 425 = .ok (.iload_n 3, 1) := by decide +kernel
theorem dL_law_426 : decode cL_law 426 = .ok (.iconst 1, 1) := by decide +kernel
theorem dL_law_427 : decode cL_law 427 = .ok (.iadd, 1) := by decide +kernel
theorem dL_law_428 : decode cL_law 428 = .ok (.iaload, 1) := by decide +kernel
theorem dL_law_429 : decode cL_law 429 = .ok (.aload_n 0, 1) := by decide +kernel
theorem dL_law_430 : decode cL_law 430 = .ok (.iload_n 3, 1) := by decide +kernel
theorem dL_law_431 : decode cL_law 431 = .ok (.iconst 2, 1) := by decide +kernel
theorem dL_law_432 : decode cL_law 432 = .ok (.iadd, 1) := by decide +kernel
theorem dL_law_433 : decode cL_law 433 = .ok (.iaload, 1) := by decide +kernel
theorem dL_law_434 : decode cL_law 434 = .ok (.invokevirtual 61, 3) := by decide +kernel
theorem dL_law_437 : decode cL_law 437 = .ok (.aload_n 2, 1) := by decide +kernel
theorem dL_law_438 : decode cL_law 438 = .ok (.aload_n 0, 1) := by decide +kernel
theorem dL_law_439 : decode cL_law 439 = .ok (.iload_n 3, 1) := by decide +kernel
theorem dL_law_440 : decode cL_law 440 = .ok (.iconst 1, 1) := by decide +kernel
theorem dL_law_441 : decode cL_law 441 = .ok (.iadd, 1) := by decide +kernel
theorem dL_law_442 : decode cL_law 442 = .ok (.iaload, 1) := by decide +kernel
theorem dL_law_443 : decode cL_law 443 = .ok (.aload_n 0, 1) := by decide +kernel
theorem dL_law_444 : decode cL_law 444 = .ok (.iload_n 3, 1) := by decide +kernel
theorem dL_law_445 : decode cL_law 445 = .ok (.iconst 2, 1) := by decide +kernel
theorem dL_law_446 : decode cL_law 446 = .ok (.iadd, 1) := by decide +kernel
theorem dL_law_447 : decode cL_law 447 = .ok (.iaload, 1) := by decide +kernel
theorem dL_law_448 : decode cL_law 448 = .ok (.invokevirtual 64, 3) := by decide +kernel
theorem dL_law_451 : decode cL_law 451 = .ok (.if_icmp .eq 556, 3) := by decide +kernel
theorem dL_law_454 : decode cL_law 454 = .ok (.iconst 0, 1) := by decide +kernel
theorem dL_law_455 : decode cL_law 455 = .ok (.ireturn, 1) := by decide +kernel
theorem dL_law_456 : decode cL_law 456 = .ok (.aload_n 1, 1) := by decide +kernel
theorem dL_law_457 : decode cL_law 457 = .ok (.aload_n 0, 1) := by decide +kernel
theorem dL_law_458 : decode cL_law 458 = .ok (.iload_n 3, 1) := by decide +kernel
theorem dL_law_459 : decode cL_law 459 = .ok (.iconst 1, 1) := by decide +kernel
theorem dL_law_460 : decode cL_law 460 = .ok (.iadd, 1) := by decide +kernel
theorem dL_law_461 : decode cL_law 461 = .ok (.iaload, 1) := by decide +kernel
theorem dL_law_462 : decode cL_law 462 = .ok (.aload_n 0, 1) := by decide +kernel
theorem dL_law_463 : decode cL_law 463 = .ok (.iload_n 3, 1) := by decide +kernel
theorem dL_law_464 : decode cL_law 464 = .ok (.iconst 2, 1) := by decide +kernel
theorem dL_law_465 : decode cL_law 465 = .ok (.iadd, 1) := by decide +kernel
theorem dL_law_466 : decode cL_law 466 = .ok (.iaload, 1) := by decide +kernel
theorem dL_law_467 : decode cL_law 467 = .ok (.invokevirtual 65, 3) := by decide +kernel
theorem dL_law_470 : decode cL_law 470 = .ok (.aload_n 2, 1) := by decide +kernel
theorem dL_law_471 : decode cL_law 471 = .ok (.aload_n 0, 1) := by decide +kernel
theorem dL_law_472 : decode cL_law 472 = .ok (.iload_n 3, 1) := by decide +kernel
theorem dL_law_473 : decode cL_law 473 = .ok (.iconst 1, 1) := by decide +kernel
theorem dL_law_474 : decode cL_law 474 = .ok (.iadd, 1) := by decide +kernel
theorem dL_law_475 : decode cL_law 475 = .ok (.iaload, 1) := by decide +kernel
theorem dL_law_476 : decode cL_law 476 = .ok (.aload_n 0, 1) := by decide +kernel
theorem dL_law_477 : decode cL_law 477 = .ok (.iload_n 3, 1) := by decide +kernel
theorem dL_law_478 : decode cL_law 478 = .ok (.iconst 2, 1) := by decide +kernel
theorem dL_law_479 : decode cL_law 479 = .ok (.iadd, 1) := by decide +kernel
theorem dL_law_480 : decode cL_law 480 = .ok (.iaload, 1) := by decide +kernel
theorem dL_law_481 : decode cL_law 481 = .ok (.invokevirtual 68, 3) := by decide +kernel
theorem dL_law_484 : decode cL_law 484 = .ok (.if_icmp .eq 523, 3) := by decide +kernel
theorem dL_law_487 : decode cL_law 487 = .ok (.iconst 0, 1) := by decide +kernel
theorem dL_law_488 : decode cL_law 488 = .ok (.ireturn, 1) := by decide +kernel
theorem dL_law_489 : decode cL_law 489 = .ok (.aload_n 1, 1) := by decide +kernel
theorem dL_law_490 : decode cL_law 490 = .ok (.aload_n 0, 1) := by decide +kernel
theorem dL_law_491 : decode cL_law 491 = .ok (.iload_n 3, 1) := by decide +kernel
theorem dL_law_492 : decode cL_law 492 = .ok (.iconst 1, 1) := by decide +kernel
theorem dL_law_493 : decode cL_law 493 = .ok (.iadd, 1) := by decide +kernel
theorem dL_law_494 : decode cL_law 494 = .ok (.iaload, 1) := by decide +kernel
theorem dL_law_495 : decode cL_law 495 = .ok (.aload_n 0, 1) := by decide +kernel
theorem dL_law_496 : decode cL_law 496 = .ok (.iload_n 3, 1) := by decide +kernel
theorem dL_law_497 : decode cL_law 497 = .ok (.iconst 2, 1) := by decide +kernel
theorem dL_law_498 : decode cL_law 498 = .ok (.iadd, 1) := by decide +kernel
theorem dL_law_499 : decode cL_law 499 = .ok (.iaload, 1) := by decide +kernel
theorem dL_law_500 : decode cL_law 500 = .ok (.invokevirtual 69, 3) := by decide +kernel
theorem dL_law_503 : decode cL_law 503 = .ok (.aload_n 2, 1) := by decide +kernel
theorem dL_law_504 : decode cL_law 504 = .ok (.aload_n 0, 1) := by decide +kernel
theorem dL_law_505 : decode cL_law 505 = .ok (.iload_n 3, 1) := by decide +kernel
theorem dL_law_506 : decode cL_law 506 = .ok (.iconst 1, 1) := by decide +kernel
theorem dL_law_507 : decode cL_law 507 = .ok (.iadd, 1) := by decide +kernel
theorem dL_law_508 : decode cL_law 508 = .ok (.iaload, 1) := by decide +kernel
theorem dL_law_509 : decode cL_law 509 = .ok (.aload_n 0, 1) := by decide +kernel
theorem dL_law_510 : decode cL_law 510 = .ok (.iload_n 3, 1) := by decide +kernel
theorem dL_law_511 : decode cL_law 511 = .ok (.iconst 2, 1) := by decide +kernel
theorem dL_law_512 : decode cL_law 512 = .ok (.iadd, 1) := by decide +kernel
theorem dL_law_513 : decode cL_law 513 = .ok (.iaload, 1) := by decide +kernel
theorem dL_law_514 : decode cL_law 514 = .ok (.invokevirtual 72, 3) := by decide +kernel
theorem dL_law_517 : decode cL_law 517 = .ok (.if_icmp .eq 490, 3) := by decide +kernel
theorem dL_law_520 : decode cL_law 520 = .ok (.iconst 0, 1) := by decide +kernel
theorem dL_law_521 : decode cL_law 521 = .ok (.ireturn, 1) := by decide +kernel
theorem dL_law_522 : decode cL_law 522 = .ok (.aload_n 1, 1) := by decide +kernel
theorem dL_law_523 : decode cL_law 523 = .ok (.invokevirtual 73, 3) := by decide +kernel
theorem dL_law_526 : decode cL_law 526 = .ok (.aload_n 2, 1) := by decide +kernel
theorem dL_law_527 : decode cL_law 527 = .ok (.invokevirtual 76, 3) := by decide +kernel
theorem dL_law_530 : decode cL_law 530 = .ok (.if_icmp .eq 477, 3) := by decide +kernel
theorem dL_law_533 : decode cL_law 533 = .ok (.iconst 0, 1) := by decide +kernel
theorem dL_law_534 : decode cL_law 534 = .ok (.ireturn, 1) := by decide +kernel
theorem dL_law_535 : decode cL_law 535 = .ok (.aload_n 1, 1) := by decide +kernel
theorem dL_law_536 : decode cL_law 536 = .ok (.aload_n 0, 1) := by decide +kernel
theorem dL_law_537 : decode cL_law 537 = .ok (.iload_n 3, 1) := by decide +kernel
theorem dL_law_538 : decode cL_law 538 = .ok (.iconst 1, 1) := by decide +kernel
theorem dL_law_539 : decode cL_law 539 = .ok (.iadd, 1) := by decide +kernel
theorem dL_law_540 : decode cL_law 540 = .ok (.iaload, 1) := by decide +kernel
theorem dL_law_541 : decode cL_law 541 = .ok (.aload_n 0, 1) := by decide +kernel
theorem dL_law_542 : decode cL_law 542 = .ok (.iload_n 3, 1) := by decide +kernel
theorem dL_law_543 : decode cL_law 543 = .ok (.iconst 2, 1) := by decide +kernel
theorem dL_law_544 : decode cL_law 544 = .ok (.iadd, 1) := by decide +kernel
theorem dL_law_545 : decode cL_law 545 = .ok (.iaload, 1) := by decide +kernel
theorem dL_law_546 : decode cL_law 546 = .ok (.aload_n 0, 1) := by decide +kernel
theorem dL_law_547 : decode cL_law 547 = .ok (.iload_n 3, 1) := by decide +kernel
theorem dL_law_548 : decode cL_law 548 = .ok (.iconst 3, 1) := by decide +kernel
theorem dL_law_549 : decode cL_law 549 = .ok (.iadd, 1) := by decide +kernel
theorem dL_law_550 : decode cL_law 550 = .ok (.iaload, 1) := by decide +kernel
theorem dL_law_551 : decode cL_law 551 = .ok (.aload_n 0, 1) := by decide +kernel
theorem dL_law_552 : decode cL_law 552 = .ok (.iload_n 3, 1) := by decide +kernel
theorem dL_law_553 : decode cL_law 553 = .ok (.iconst 4, 1) := by decide +kernel
theorem dL_law_554 : decode cL_law 554 = .ok (.iadd, 1) := by decide +kernel
theorem dL_law_555 : decode cL_law 555 = .ok (.iaload, 1) := by decide +kernel
theorem dL_law_556 : decode cL_law 556 = .ok (.invokevirtual 77, 3) := by decide +kernel
theorem dL_law_559 : decode cL_law 559 = .ok (.aload_n 2, 1) := by decide +kernel
theorem dL_law_560 : decode cL_law 560 = .ok (.aload_n 0, 1) := by decide +kernel
theorem dL_law_561 : decode cL_law 561 = .ok (.iload_n 3, 1) := by decide +kernel
theorem dL_law_562 : decode cL_law 562 = .ok (.iconst 1, 1) := by decide +kernel
theorem dL_law_563 : decode cL_law 563 = .ok (.iadd, 1) := by decide +kernel
theorem dL_law_564 : decode cL_law 564 = .ok (.iaload, 1) := by decide +kernel
theorem dL_law_565 : decode cL_law 565 = .ok (.aload_n 0, 1) := by decide +kernel
theorem dL_law_566 : decode cL_law 566 = .ok (.iload_n 3, 1) := by decide +kernel
theorem dL_law_567 : decode cL_law 567 = .ok (.iconst 2, 1) := by decide +kernel
theorem dL_law_568 : decode cL_law 568 = .ok (.iadd, 1) := by decide +kernel
theorem dL_law_569 : decode cL_law 569 = .ok (.iaload, 1) := by decide +kernel
theorem dL_law_570 : decode cL_law 570 = .ok (.aload_n 0, 1) := by decide +kernel
theorem dL_law_571 : decode cL_law 571 = .ok (.iload_n 3, 1) := by decide +kernel
theorem dL_law_572 : decode cL_law 572 = .ok (.iconst 3, 1) := by decide +kernel
theorem dL_law_573 : decode cL_law 573 = .ok (.iadd, 1) := by decide +kernel
theorem dL_law_574 : decode cL_law 574 = .ok (.iaload, 1) := by decide +kernel
theorem dL_law_575 : decode cL_law 575 = .ok (.aload_n 0, 1) := by decide +kernel
theorem dL_law_576 : decode cL_law 576 = .ok (.iload_n 3, 1) := by decide +kernel
theorem dL_law_577 : decode cL_law 577 = .ok (.iconst 4, 1) := by decide +kernel
theorem dL_law_578 : decode cL_law 578 = .ok (.iadd, 1) := by decide +kernel
theorem dL_law_579 : decode cL_law 579 = .ok (.iaload, 1) := by decide +kernel
theorem dL_law_580 : decode cL_law 580 = .ok (.invokevirtual 81, 3) := by decide +kernel
theorem dL_law_583 : decode cL_law 583 = .ok (.if_icmp .eq 424, 3) := by decide +kernel
theorem dL_law_586 : decode cL_law 586 = .ok (.iconst 0, 1) := by decide +kernel
theorem dL_law_587 : decode cL_law 587 = .ok (.ireturn, 1) := by decide +kernel
theorem dL_law_588 : decode cL_law 588 = .ok (.aload_n 1, 1) := by decide +kernel
theorem dL_law_589 : decode cL_law 589 = .ok (.aload_n 0, 1) := by decide +kernel
theorem dL_law_590 : decode cL_law 590 = .ok (.iload_n 3, 1) := by decide +kernel
theorem dL_law_591 : decode cL_law 591 = .ok (.iconst 1, 1) := by decide +kernel
theorem dL_law_592 : decode cL_law 592 = .ok (.iadd, 1) := by decide +kernel
theorem dL_law_593 : decode cL_law 593 = .ok (.iaload, 1) := by decide +kernel
theorem dL_law_594 : decode cL_law 594 = .ok (.invokevirtual 82, 3) := by decide +kernel
theorem dL_law_597 : decode cL_law 597 = .ok (.aload_n 2, 1) := by decide +kernel
theorem dL_law_598 : decode cL_law 598 = .ok (.aload_n 0, 1) := by decide +kernel
theorem dL_law_599 : decode cL_law 599 = .ok (.iload_n 3, 1) := by decide +kernel
theorem dL_law_600 : decode cL_law 600 = .ok (.iconst 1, 1) := by decide +kernel
theorem dL_law_601 : decode cL_law 601 = .ok (.iadd, 1) := by decide +kernel
theorem dL_law_602 : decode cL_law 602 = .ok (.iaload, 1) := by decide +kernel
theorem dL_law_603 : decode cL_law 603 = .ok (.invokevirtual 85, 3) := by decide +kernel
theorem dL_law_606 : decode cL_law 606 = .ok (.if_icmp .eq 401, 3) := by decide +kernel
theorem dL_law_609 : decode cL_law 609 = .ok (.iconst 0, 1) := by decide +kernel
theorem dL_law_610 : decode cL_law 610 = .ok (.ireturn, 1) := by decide +kernel
theorem dL_law_611 : decode cL_law 611 = .ok (.aload_n 1, 1) := by decide +kernel
theorem dL_law_612 : decode cL_law 612 = .ok (.aload_n 0, 1) := by decide +kernel
theorem dL_law_613 : decode cL_law 613 = .ok (.iload_n 3, 1) := by decide +kernel
theorem dL_law_614 : decode cL_law 614 = .ok (.iconst 1, 1) := by decide +kernel
theorem dL_law_615 : decode cL_law 615 = .ok (.iadd, 1) := by decide +kernel
theorem dL_law_616 : decode cL_law 616 = .ok (.iaload, 1) := by decide +kernel
theorem dL_law_617 : decode cL_law 617 = .ok (.aload_n 0, 1) := by decide +kernel
theorem dL_law_618 : decode cL_law 618 = .ok (.iload_n 3, 1) := by decide +kernel
theorem dL_law_619 : decode cL_law 619 = .ok (.iconst 2, 1) := by decide +kernel
theorem dL_law_620 : decode cL_law 620 = .ok (.iadd, 1) := by decide +kernel
theorem dL_law_621 : decode cL_law 621 = .ok (.iaload, 1) := by decide +kernel
theorem dL_law_622 : decode cL_law 622 = .ok (.i2l, 1) := by decide +kernel
theorem dL_law_623 : decode cL_law 623 = .ok (.bipush 32, 2) := by decide +kernel
theorem dL_law_625 : decode cL_law 625 = .ok (.lshl, 1) := by decide +kernel
theorem dL_law_626 : decode cL_law 626 = .ok (.aload_n 0, 1) := by decide +kernel
theorem dL_law_627 : decode cL_law 627 = .ok (.iload_n 3, 1) := by decide +kernel
theorem dL_law_628 : decode cL_law 628 = .ok (.iconst 3, 1) := by decide +kernel
theorem dL_law_629 : decode cL_law 629 = .ok (.iadd, 1) := by decide +kernel
theorem dL_law_630 : decode cL_law 630 = .ok (.iaload, 1) := by decide +kernel
theorem dL_law_631 : decode cL_law 631 = .ok (.i2l, 1) := by decide +kernel
theorem dL_law_632 : decode cL_law 632 = .ok (.ldc2_w 86, 3) := by decide +kernel
theorem dL_law_635 : decode cL_law 635 = .ok (.land, 1) := by decide +kernel
theorem dL_law_636 : decode cL_law 636 = .ok (.lor, 1) := by decide +kernel
theorem dL_law_637 : decode cL_law 637 = .ok (.invokevirtual 88, 3) := by decide +kernel
theorem dL_law_640 : decode cL_law 640 = .ok (.aload_n 2, 1) := by decide +kernel
theorem dL_law_641 : decode cL_law 641 = .ok (.aload_n 0, 1) := by decide +kernel
theorem dL_law_642 : decode cL_law 642 = .ok (.iload_n 3, 1) := by decide +kernel
theorem dL_law_643 : decode cL_law 643 = .ok (.iconst 1, 1) := by decide +kernel
theorem dL_law_644 : decode cL_law 644 = .ok (.iadd, 1) := by decide +kernel
theorem dL_law_645 : decode cL_law 645 = .ok (.iaload, 1) := by decide +kernel
theorem dL_law_646 : decode cL_law 646 = .ok (.aload_n 0, 1) := by decide +kernel
theorem dL_law_647 : decode cL_law 647 = .ok (.iload_n 3, 1) := by decide +kernel
theorem dL_law_648 : decode cL_law 648 = .ok (.iconst 2, 1) := by decide +kernel
theorem dL_law_649 : decode cL_law 649 = .ok (.iadd, 1) := by decide +kernel
theorem dL_law_650 : decode cL_law 650 = .ok (.iaload, 1) := by decide +kernel
theorem dL_law_651 : decode cL_law 651 = .ok (.i2l, 1) := by decide +kernel
theorem dL_law_652 : decode cL_law 652 = .ok (.bipush 32, 2) := by decide +kernel
theorem dL_law_654 : decode cL_law 654 = .ok (.lshl, 1) := by decide +kernel
theorem dL_law_655 : decode cL_law 655 = .ok (.aload_n 0, 1) := by decide +kernel
theorem dL_law_656 : decode cL_law 656 = .ok (.iload_n 3, 1) := by decide +kernel
theorem dL_law_657 : decode cL_law 657 = .ok (.iconst 3, 1) := by decide +kernel
theorem dL_law_658 : decode cL_law 658 = .ok (.iadd, 1) := by decide +kernel
theorem dL_law_659 : decode cL_law 659 = .ok (.iaload, 1) := by decide +kernel
theorem dL_law_660 : decode cL_law 660 = .ok (.i2l, 1) := by decide +kernel
theorem dL_law_661 : decode cL_law 661 = .ok (.ldc2_w 86, 3) := by decide +kernel
theorem dL_law_664 : decode cL_law 664 = .ok (.land, 1) := by decide +kernel
theorem dL_law_665 : decode cL_law 665 = .ok (.lor, 1) := by decide +kernel
theorem dL_law_666 : decode cL_law 666 = .ok (.invokevirtual 92, 3) := by decide +kernel
theorem dL_law_669 : decode cL_law 669 = .ok (.if_icmp .eq 338, 3) := by decide +kernel
theorem dL_law_672 : decode cL_law 672 = .ok (.iconst 0, 1) := by decide +kernel
theorem dL_law_673 : decode cL_law 673 = .ok (.ireturn, 1) := by decide +kernel
theorem dL_law_674 : decode cL_law 674 = .ok (.aload_n 1, 1) := by decide +kernel
theorem dL_law_675 : decode cL_law 675 = .ok (.aload_n 0, 1) := by decide +kernel
theorem dL_law_676 : decode cL_law 676 = .ok (.iload_n 3, 1) := by decide +kernel
theorem dL_law_677 : decode cL_law 677 = .ok (.iconst 1, 1) := by decide +kernel
theorem dL_law_678 : decode cL_law 678 = .ok (.iadd, 1) := by decide +kernel
theorem dL_law_679 : decode cL_law 679 = .ok (.iaload, 1) := by decide +kernel
theorem dL_law_680 : decode cL_law 680 = .ok (.aload_n 0, 1) := by decide +kernel
theorem dL_law_681 : decode cL_law 681 = .ok (.iload_n 3, 1) := by decide +kernel
theorem dL_law_682 : decode cL_law 682 = .ok (.iconst 2, 1) := by decide +kernel
theorem dL_law_683 : decode cL_law 683 = .ok (.iadd, 1) := by decide +kernel
theorem dL_law_684 : decode cL_law 684 = .ok (.iaload, 1) := by decide +kernel
theorem dL_law_685 : decode cL_law 685 = .ok (.aload_n 0, 1) := by decide +kernel
theorem dL_law_686 : decode cL_law 686 = .ok (.iload_n 3, 1) := by decide +kernel
theorem dL_law_687 : decode cL_law 687 = .ok (.iconst 3, 1) := by decide +kernel
theorem dL_law_688 : decode cL_law 688 = .ok (.iadd, 1) := by decide +kernel
theorem dL_law_689 : decode cL_law 689 = .ok (.iaload, 1) := by decide +kernel
theorem dL_law_690 : decode cL_law 690 = .ok (.invokevirtual 93, 3) := by decide +kernel
theorem dL_law_693 : decode cL_law 693 = .ok (.aload_n 2, 1) := by decide +kernel
theorem dL_law_694 : decode cL_law 694 = .ok (.aload_n 0, 1) := by decide +kernel
theorem dL_law_695 : decode cL_law 695 = .ok (.iload_n 3, 1) := by decide +kernel
theorem dL_law_696 : decode cL_law 696 = .ok (.iconst 1, 1) := by decide +kernel
theorem dL_law_697 : decode cL_law 697 = .ok (.iadd, 1) := by decide +kernel
theorem dL_law_698 : decode cL_law 698 = .ok (.iaload, 1) := by decide +kernel
theorem dL_law_699 : decode cL_law 699 = .ok (.aload_n 0, 1) := by decide +kernel
theorem dL_law_700 : decode cL_law 700 = .ok (.iload_n 3, 1) := by decide +kernel
theorem dL_law_701 : decode cL_law 701 = .ok (.iconst 2, 1) := by decide +kernel
theorem dL_law_702 : decode cL_law 702 = .ok (.iadd, 1) := by decide +kernel
theorem dL_law_703 : decode cL_law 703 = .ok (.iaload, 1) := by decide +kernel
theorem dL_law_704 : decode cL_law 704 = .ok (.aload_n 0, 1) := by decide +kernel
theorem dL_law_705 : decode cL_law 705 = .ok (.iload_n 3, 1) := by decide +kernel
theorem dL_law_706 : decode cL_law 706 = .ok (.iconst 3, 1) := by decide +kernel
theorem dL_law_707 : decode cL_law 707 = .ok (.iadd, 1) := by decide +kernel
theorem dL_law_708 : decode cL_law 708 = .ok (.iaload, 1) := by decide +kernel
theorem dL_law_709 : decode cL_law 709 = .ok (.invokevirtual 96, 3) := by decide +kernel
theorem dL_law_712 : decode cL_law 712 = .ok (.if_icmp .eq 295, 3) := by decide +kernel
theorem dL_law_715 : decode cL_law 715 = .ok (.iconst 0, 1) := by decide +kernel
theorem dL_law_716 : decode cL_law 716 = .ok (.ireturn, 1) := by decide +kernel
theorem dL_law_717 : decode cL_law 717 = .ok (.aload_n 1, 1) := by decide +kernel
theorem dL_law_718 : decode cL_law 718 = .ok (.invokevirtual 97, 3) := by decide +kernel
theorem dL_law_721 : decode cL_law 721 = .ok (.aload_n 2, 1) := by decide +kernel
theorem dL_law_722 : decode cL_law 722 = .ok (.invokevirtual 100, 3) := by decide +kernel
theorem dL_law_725 : decode cL_law 725 = .ok (.if_icmp .eq 282, 3) := by decide +kernel
theorem dL_law_728 : decode cL_law 728 = .ok (.iconst 0, 1) := by decide +kernel
theorem dL_law_729 : decode cL_law 729 = .ok (.ireturn, 1) := by decide +kernel
theorem dL_law_730 : decode cL_law 730 = .ok (.aload_n 1, 1) := by decide +kernel
theorem dL_law_731 : decode cL_law 731 = .ok (.aload_n 0, 1) := by decide +kernel
theorem dL_law_732 : decode cL_law 732 = .ok (.iload_n 3, 1) := by decide +kernel
theorem dL_law_733 : decode cL_law 733 = .ok (.iconst 1, 1) := by decide +kernel
theorem dL_law_734 : decode cL_law 734 = .ok (.iadd, 1) := by decide +kernel
theorem dL_law_735 : decode cL_law 735 = .ok (.iaload, 1) := by decide +kernel
theorem dL_law_736 : decode cL_law 736 = .ok (.invokevirtual 101, 3) := by decide +kernel
theorem dL_law_739 : decode cL_law 739 = .ok (.aload_n 2, 1) := by decide +kernel
theorem dL_law_740 : decode cL_law 740 = .ok (.aload_n 0, 1) := by decide +kernel
theorem dL_law_741 : decode cL_law 741 = .ok (.iload_n 3, 1) := by decide +kernel
theorem dL_law_742 : decode cL_law 742 = .ok (.iconst 1, 1) := by decide +kernel
theorem dL_law_743 : decode cL_law 743 = .ok (.iadd, 1) := by decide +kernel
theorem dL_law_744 : decode cL_law 744 = .ok (.iaload, 1) := by decide +kernel
theorem dL_law_745 : decode cL_law 745 = .ok (.invokevirtual 104, 3) := by decide +kernel
theorem dL_law_748 : decode cL_law 748 = .ok (.if_icmp .eq 259, 3) := by decide +kernel
theorem dL_law_751 : decode cL_law 751 = .ok (.iconst 0, 1) := by decide +kernel
theorem dL_law_752 : decode cL_law 752 = .ok (.ireturn, 1) := by decide +kernel
theorem dL_law_753 : decode cL_law 753 = .ok (.aload_n 1, 1) := by decide +kernel
theorem dL_law_754 : decode cL_law 754 = .ok (.aload_n 0, 1) := by decide +kernel
theorem dL_law_755 : decode cL_law 755 = .ok (.iload_n 3, 1) := by decide +kernel
theorem dL_law_756 : decode cL_law 756 = .ok (.iconst 1, 1) := by decide +kernel
theorem dL_law_757 : decode cL_law 757 = .ok (.iadd, 1) := by decide +kernel
theorem dL_law_758 : decode cL_law 758 = .ok (.iaload, 1) := by decide +kernel
theorem dL_law_759 : decode cL_law 759 = .ok (.aload_n 0, 1) := by decide +kernel
theorem dL_law_760 : decode cL_law 760 = .ok (.iload_n 3, 1) := by decide +kernel
theorem dL_law_761 : decode cL_law 761 = .ok (.iconst 2, 1) := by decide +kernel
theorem dL_law_762 : decode cL_law 762 = .ok (.iadd, 1) := by decide +kernel
theorem dL_law_763 : decode cL_law 763 = .ok (.iaload, 1) := by decide +kernel
theorem dL_law_764 : decode cL_law 764 = .ok (.ifCond .eq 7, 3) := by decide +kernel
theorem dL_law_767 : decode cL_law 767 = .ok (.iconst 1, 1) := by decide +kernel
theorem dL_law_768 : decode cL_law 768 = .ok (.goto 4, 3) := by decide +kernel
theorem dL_law_771 : decode cL_law 771 = .ok (.iconst 0, 1) := by decide +kernel
theorem dL_law_772 : decode cL_law 772 = .ok (.invokevirtual 105, 3) := by decide +kernel
theorem dL_law_775 : decode cL_law 775 = .ok (.aload_n 2, 1) := by decide +kernel
theorem dL_law_776 : decode cL_law 776 = .ok (.aload_n 0, 1) := by decide +kernel
theorem dL_law_777 : decode cL_law 777 = .ok (.iload_n 3, 1) := by decide +kernel
theorem dL_law_778 : decode cL_law 778 = .ok (.iconst 1, 1) := by decide +kernel
theorem dL_law_779 : decode cL_law 779 = .ok (.iadd, 1) := by decide +kernel
theorem dL_law_780 : decode cL_law 780 = .ok (.iaload, 1) := by decide +kernel
theorem dL_law_781 : decode cL_law 781 = .ok (.aload_n 0, 1) := by decide +kernel
theorem dL_law_782 : decode cL_law 782 = .ok (.iload_n 3, 1) := by decide +kernel
theorem dL_law_783 : decode cL_law 783 = .ok (.iconst 2, 1) := by decide +kernel
theorem dL_law_784 : decode cL_law 784 = .ok (.iadd, 1) := by decide +kernel
theorem dL_law_785 : decode cL_law 785 = .ok (.iaload, 1) := by decide +kernel
theorem dL_law_786 : decode cL_law 786 = .ok (.ifCond .eq 7, 3) := by decide +kernel
theorem dL_law_789 : decode cL_law 789 = .ok (.iconst 1, 1) := by decide +kernel
theorem dL_law_790 : decode cL_law 790 = .ok (.goto 4, 3) := by decide +kernel
theorem dL_law_793 : decode cL_law 793 = .ok (.iconst 0, 1) := by decide +kernel
theorem dL_law_794 : decode cL_law 794 = .ok (.invokevirtual 109, 3) := by decide +kernel
theorem dL_law_797 : decode cL_law 797 = .ok (.if_icmp .eq 210, 3) := by decide +kernel
theorem dL_law_800 : decode cL_law 800 = .ok (.iconst 0, 1) := by decide +kernel
theorem dL_law_801 : decode cL_law 801 = .ok (.ireturn, 1) := by decide +kernel
theorem dL_law_802 : decode cL_law 802 = .ok (.aload_n 1, 1) := by decide +kernel
theorem dL_law_803 : decode cL_law 803 = .ok (.aload_n 0, 1) := by decide +kernel
theorem dL_law_804 : decode cL_law 804 = .ok (.iload_n 3, 1) := by decide +kernel
theorem dL_law_805 : decode cL_law 805 = .ok (.iconst 1, 1) := by decide +kernel
theorem dL_law_806 : decode cL_law 806 = .ok (.iadd, 1) := by decide +kernel
theorem dL_law_807 : decode cL_law 807 = .ok (.iaload, 1) := by decide +kernel
theorem dL_law_808 : decode cL_law 808 = .ok (.aload_n 0, 1) := by decide +kernel
theorem dL_law_809 : decode cL_law 809 = .ok (.iload_n 3, 1) := by decide +kernel
theorem dL_law_810 : decode cL_law 810 = .ok (.iconst 2, 1) := by decide +kernel
theorem dL_law_811 : decode cL_law 811 = .ok (.iadd, 1) := by decide +kernel
theorem dL_law_812 : decode cL_law 812 = .ok (.iaload, 1) := by decide +kernel
theorem dL_law_813 : decode cL_law 813 = .ok (.aload_n 0, 1) := by decide +kernel
theorem dL_law_814 : decode cL_law 814 = .ok (.iload_n 3, 1) := by decide +kernel
theorem dL_law_815 : decode cL_law 815 = .ok (.iconst 3, 1) := by decide +kernel
theorem dL_law_816 : decode cL_law 816 = .ok (.iadd, 1) := by decide +kernel
theorem dL_law_817 : decode cL_law 817 = .ok (.iaload, 1) := by decide +kernel
theorem dL_law_818 : decode cL_law 818 = .ok (.ifCond .eq 7, 3) := by decide +kernel
theorem dL_law_821 : decode cL_law 821 = .ok (.iconst 1, 1) := by decide +kernel
theorem dL_law_822 : decode cL_law 822 = .ok (.goto 4, 3) := by decide +kernel
theorem dL_law_825 : decode cL_law 825 = .ok (.iconst 0, 1) := by decide +kernel
theorem dL_law_826 : decode cL_law 826 = .ok (.invokevirtual 110, 3) := by decide +kernel
theorem dL_law_829 : decode cL_law 829 = .ok (.aload_n 2, 1) := by decide +kernel
theorem dL_law_830 : decode cL_law 830 = .ok (.aload_n 0, 1) := by decide +kernel
theorem dL_law_831 : decode cL_law 831 = .ok (.iload_n 3, 1) := by decide +kernel
theorem dL_law_832 : decode cL_law 832 = .ok (.iconst 1, 1) := by decide +kernel
theorem dL_law_833 : decode cL_law 833 = .ok (.iadd, 1) := by decide +kernel
theorem dL_law_834 : decode cL_law 834 = .ok (.iaload, 1) := by decide +kernel
theorem dL_law_835 : decode cL_law 835 = .ok (.aload_n 0, 1) := by decide +kernel
theorem dL_law_836 : decode cL_law 836 = .ok (.iload_n 3, 1) := by decide +kernel
theorem dL_law_837 : decode cL_law 837 = .ok (.iconst 2, 1) := by decide +kernel
theorem dL_law_838 : decode cL_law 838 = .ok (.iadd, 1) := by decide +kernel
theorem dL_law_839 : decode cL_law 839 = .ok (.iaload, 1) := by decide +kernel
theorem dL_law_840 : decode cL_law 840 = .ok (.aload_n 0, 1) := by decide +kernel
theorem dL_law_841 : decode cL_law 841 = .ok (.iload_n 3, 1) := by decide +kernel
theorem dL_law_842 : decode cL_law 842 = .ok (.iconst 3, 1) := by decide +kernel
theorem dL_law_843 : decode cL_law 843 = .ok (.iadd, 1) := by decide +kernel
theorem dL_law_844 : decode cL_law 844 = .ok (.iaload, 1) := by decide +kernel
theorem dL_law_845 : decode cL_law 845 = .ok (.ifCond .eq 7, 3) := by decide +kernel
theorem dL_law_848 : decode cL_law 848 = .ok (.iconst 1, 1) := by decide +kernel
theorem dL_law_849 : decode cL_law 849 = .ok (.goto 4, 3) := by decide +kernel
theorem dL_law_852 : decode cL_law 852 = .ok (.iconst 0, 1) := by decide +kernel
theorem dL_law_853 : decode cL_law 853 = .ok (.invokevirtual 114, 3) := by decide +kernel
theorem dL_law_856 : decode cL_law 856 = .ok (.if_icmp .eq 151, 3) := by decide +kernel
theorem dL_law_859 : decode cL_law 859 = .ok (.iconst 0, 1) := by decide +kernel
theorem dL_law_860 : decode cL_law 860 = .ok (.ireturn, 1) := by decide +kernel
theorem dL_law_861 : decode cL_law 861 = .ok (.aload_n 1, 1) := by decide +kernel
theorem dL_law_862 : decode cL_law 862 = .ok (.aload_n 0, 1) := by decide +kernel
theorem dL_law_863 : decode cL_law 863 = .ok (.iload_n 3, 1) := by decide +kernel
theorem dL_law_864 : decode cL_law 864 = .ok (.iconst 1, 1) := by decide +kernel
theorem dL_law_865 : decode cL_law 865 = .ok (.iadd, 1) := by decide +kernel
theorem dL_law_866 : decode cL_law 866 = .ok (.iaload, 1) := by decide +kernel
theorem dL_law_867 : decode cL_law 867 = .ok (.i2l, 1) := by decide +kernel
theorem dL_law_868 : decode cL_law 868 = .ok (.bipush 32, 2) := by decide +kernel
theorem dL_law_870 : decode cL_law 870 = .ok (.lshl, 1) := by decide +kernel
theorem dL_law_871 : decode cL_law 871 = .ok (.aload_n 0, 1) := by decide +kernel
theorem dL_law_872 : decode cL_law 872 = .ok (.iload_n 3, 1) := by decide +kernel
theorem dL_law_873 : decode cL_law 873 = .ok (.iconst 2, 1) := by decide +kernel
theorem dL_law_874 : decode cL_law 874 = .ok (.iadd, 1) := by decide +kernel
theorem dL_law_875 : decode cL_law 875 = .ok (.iaload, 1) := by decide +kernel
theorem dL_law_876 : decode cL_law 876 = .ok (.i2l, 1) := by decide +kernel
theorem dL_law_877 : decode cL_law 877 = .ok (.ldc2_w 86, 3) := by decide +kernel
theorem dL_law_880 : decode cL_law 880 = .ok (.land, 1) := by decide +kernel
theorem dL_law_881 : decode cL_law 881 = .ok (.lor, 1) := by decide +kernel
theorem dL_law_882 : decode cL_law 882 = .ok (.invokevirtual 115, 3) := by decide +kernel
theorem dL_law_885 : decode cL_law 885 = .ok (.aload_n 2, 1) := by decide +kernel
theorem dL_law_886 : decode cL_law 886 = .ok (.aload_n 0, 1) := by decide +kernel
theorem dL_law_887 : decode cL_law 887 = .ok (.iload_n 3, 1) := by decide +kernel
theorem dL_law_888 : decode cL_law 888 = .ok (.iconst 1, 1) := by decide +kernel
theorem dL_law_889 : decode cL_law 889 = .ok (.iadd, 1) := by decide +kernel
theorem dL_law_890 : decode cL_law 890 = .ok (.iaload, 1) := by decide +kernel
theorem dL_law_891 : decode cL_law 891 = .ok (.i2l, 1) := by decide +kernel
theorem dL_law_892 : decode cL_law 892 = .ok (.bipush 32, 2) := by decide +kernel
theorem dL_law_894 : decode cL_law 894 = .ok (.lshl, 1) := by decide +kernel
theorem dL_law_895 : decode cL_law 895 = .ok (.aload_n 0, 1) := by decide +kernel
theorem dL_law_896 : decode cL_law 896 = .ok (.iload_n 3, 1) := by decide +kernel
theorem dL_law_897 : decode cL_law 897 = .ok (.iconst 2, 1) := by decide +kernel
theorem dL_law_898 : decode cL_law 898 = .ok (.iadd, 1) := by decide +kernel
theorem dL_law_899 : decode cL_law 899 = .ok (.iaload, 1) := by decide +kernel
theorem dL_law_900 : decode cL_law 900 = .ok (.i2l, 1) := by decide +kernel
theorem dL_law_901 : decode cL_law 901 = .ok (.ldc2_w 86, 3) := by decide +kernel
theorem dL_law_904 : decode cL_law 904 = .ok (.land, 1) := by decide +kernel
theorem dL_law_905 : decode cL_law 905 = .ok (.lor, 1) := by decide +kernel
theorem dL_law_906 : decode cL_law 906 = .ok (.invokevirtual 119, 3) := by decide +kernel
theorem dL_law_909 : decode cL_law 909 = .ok (.lcmp, 1) := by decide +kernel
theorem dL_law_910 : decode cL_law 910 = .ok (.ifCond .eq 97, 3) := by decide +kernel
theorem dL_law_913 : decode cL_law 913 = .ok (.iconst 0, 1) := by decide +kernel
theorem dL_law_914 : decode cL_law 914 = .ok (.ireturn, 1) := by decide +kernel
theorem dL_law_915 : decode cL_law 915 = .ok (.aload_n 1, 1) := by decide +kernel
theorem dL_law_916 : decode cL_law 916 = .ok (.aload_n 0, 1) := by decide +kernel
theorem dL_law_917 : decode cL_law 917 = .ok (.iload_n 3, 1) := by decide +kernel
theorem dL_law_918 : decode cL_law 918 = .ok (.iconst 1, 1) := by decide +kernel
theorem dL_law_919 : decode cL_law 919 = .ok (.iadd, 1) := by decide +kernel
theorem dL_law_920 : decode cL_law 920 = .ok (.iaload, 1) := by decide +kernel
theorem dL_law_921 : decode cL_law 921 = .ok (.invokevirtual 120, 3) := by decide +kernel
theorem dL_law_924 : decode cL_law 924 = .ok (.aload_n 2, 1) := by decide +kernel
theorem dL_law_925 : decode cL_law 925 = .ok (.aload_n 0, 1) := by decide +kernel
theorem dL_law_926 : decode cL_law 926 = .ok (.iload_n 3, 1) := by decide +kernel
theorem dL_law_927 : decode cL_law 927 = .ok (.iconst 1, 1) := by decide +kernel
theorem dL_law_928 : decode cL_law 928 = .ok (.iadd, 1) := by decide +kernel
theorem dL_law_929 : decode cL_law 929 = .ok (.iaload, 1) := by decide +kernel
theorem dL_law_930 : decode cL_law 930 = .ok (.invokevirtual 123, 3) := by decide +kernel
theorem dL_law_933 : decode cL_law 933 = .ok (.if_icmp .eq 74, 3) := by decide +kernel
theorem dL_law_936 : decode cL_law 936 = .ok (.iconst 0, 1) := by decide +kernel
theorem dL_law_937 : decode cL_law 937 = .ok (.ireturn, 1) := by decide +kernel
theorem dL_law_938 : decode cL_law 938 = .ok (.aload_n 1, 1) := by decide +kernel
theorem dL_law_939 : decode cL_law 939 = .ok (.aload_n 0, 1) := by decide +kernel
theorem dL_law_940 : decode cL_law 940 = .ok (.iload_n 3, 1) := by decide +kernel
theorem dL_law_941 : decode cL_law 941 = .ok (.iconst 1, 1) := by decide +kernel
theorem dL_law_942 : decode cL_law 942 = .ok (.iadd, 1) := by decide +kernel
theorem dL_law_943 : decode cL_law 943 = .ok (.iaload, 1) := by decide +kernel
theorem dL_law_944 : decode cL_law 944 = .ok (.invokevirtual 124, 3) := by decide +kernel
theorem dL_law_947 : decode cL_law 947 = .ok (.aload_n 2, 1) := by decide +kernel
theorem dL_law_948 : decode cL_law 948 = .ok (.aload_n 0, 1) := by decide +kernel
theorem dL_law_949 : decode cL_law 949 = .ok (.iload_n 3, 1) := by decide +kernel
theorem dL_law_950 : decode cL_law 950 = .ok (.iconst 1, 1) := by decide +kernel
theorem dL_law_951 : decode cL_law 951 = .ok (.iadd, 1) := by decide +kernel
theorem dL_law_952 : decode cL_law 952 = .ok (.iaload, 1) := by decide +kernel
theorem dL_law_953 : decode cL_law 953 = .ok (.invokevirtual 127, 3) := by decide +kernel
theorem dL_law_956 : decode cL_law 956 = .ok (.if_icmp .eq 51, 3) := by decide +kernel
theorem dL_law_959 : decode cL_law 959 = .ok (.iconst 0, 1) := by decide +kernel
theorem dL_law_960 : decode cL_law 960 = .ok (.ireturn, 1) := by decide +kernel
theorem dL_law_961 : decode cL_law 961 = .ok (.aload_n 1, 1) := by decide +kernel
theorem dL_law_962 : decode cL_law 962 = .ok (.aload_n 0, 1) := by decide +kernel
theorem dL_law_963 : decode cL_law 963 = .ok (.iload_n 3, 1) := by decide +kernel
theorem dL_law_964 : decode cL_law 964 = .ok (.iconst 1, 1) := by decide +kernel
theorem dL_law_965 : decode cL_law 965 = .ok (.iadd, 1) := by decide +kernel
theorem dL_law_966 : decode cL_law 966 = .ok (.iaload, 1) := by decide +kernel
theorem dL_law_967 : decode cL_law 967 = .ok (.invokevirtual 128, 3) := by decide +kernel
theorem dL_law_970 : decode cL_law 970 = .ok (.aload_n 2, 1) := by decide +kernel
theorem dL_law_971 : decode cL_law 971 = .ok (.aload_n 0, 1) := by decide +kernel
theorem dL_law_972 : decode cL_law 972 = .ok (.iload_n 3, 1) := by decide +kernel
theorem dL_law_973 : decode cL_law 973 = .ok (.iconst 1, 1) := by decide +kernel
theorem dL_law_974 : decode cL_law 974 = .ok (.iadd, 1) := by decide +kernel
theorem dL_law_975 : decode cL_law 975 = .ok (.iaload, 1) := by decide +kernel
theorem dL_law_976 : decode cL_law 976 = .ok (.invokevirtual 131, 3) := by decide +kernel
theorem dL_law_979 : decode cL_law 979 = .ok (.if_icmp .eq 28, 3) := by decide +kernel
theorem dL_law_982 : decode cL_law 982 = .ok (.iconst 0, 1) := by decide +kernel
theorem dL_law_983 : decode cL_law 983 = .ok (.ireturn, 1) := by decide +kernel
theorem dL_law_984 : decode cL_law 984 = .ok (.aload_n 1, 1) := by decide +kernel
theorem dL_law_985 : decode cL_law 985 = .ok (.aload_n 0, 1) := by decide +kernel
theorem dL_law_986 : decode cL_law 986 = .ok (.iload_n 3, 1) := by decide +kernel
theorem dL_law_987 : decode cL_law 987 = .ok (.iconst 1, 1) := by decide +kernel
theorem dL_law_988 : decode cL_law 988 = .ok (.iadd, 1) := by decide +kernel
theorem dL_law_989 : decode cL_law 989 = .ok (.iaload, 1) := by decide +kernel
theorem dL_law_990 : decode cL_law 990 = .ok (.invokevirtual 132, 3) := by decide +kernel
theorem dL_law_993 : decode cL_law 993 = .ok (.aload_n 2, 1) := by decide +kernel
theorem dL_law_994 : decode cL_law 994 = .ok (.aload_n 0, 1) := by decide +kernel
theorem dL_law_995 : decode cL_law 995 = .ok (.iload_n 3, 1) := by decide +kernel
theorem dL_law_996 : decode cL_law 996 = .ok (.iconst 1, 1) := by decide +kernel
theorem dL_law_997 : decode cL_law 997 = .ok (.iadd, 1) := by decide +kernel
theorem dL_law_998 : decode cL_law 998 = .ok (.iaload, 1) := by decide +kernel
theorem dL_law_999 : decode cL_law 999 = .ok (.invokevirtual 135, 3) := by decide +kernel
theorem dL_law_1002 : decode cL_law 1002 = .ok (.if_icmp .eq 5, 3) := by decide +kernel
theorem dL_law_1005 : decode cL_law 1005 = .ok (.iconst 0, 1) := by decide +kernel
theorem dL_law_1006 : decode cL_law 1006 = .ok (.ireturn, 1) := by decide +kernel
theorem dL_law_1007 : decode cL_law 1007 = .ok (.iinc 3 5, 3) := by decide +kernel
theorem dL_law_1010 : decode cL_law 1010 = .ok (.goto (-992), 3) := by decide +kernel
theorem dL_law_1013 : decode cL_law 1013 = .ok (.iconst 1, 1) := by decide +kernel
theorem dL_law_1014 : decode cL_law 1014 = .ok (.ireturn, 1) := by decide +kernel
end
section
/-! BASE: an abstract heap (ints, longs, references by name and place), its picture in the machine's heap, the judgement over it. Names below 1000 are cells that the law has made (name n stands at z + n); 1000.. the constants of Field, 1010.. of Measure, 1020.. their words, 1040.. the words' bytes, 1030, 1031 the class's static arrays, 2000 the script. -/
abbrev GG : Type := Nat × (Nat → Nat) × va_G × (Nat → ClassId) × Nat × (Nat → Int32)
def gz (g : GG) : Nat := g.1
def ga (g : GG) : Nat → Nat := g.2.1
def gD (g : GG) : va_G := g.2.2.1
def gC (g : GG) : Nat → ClassId := g.2.2.2.1
def gL (g : GG) : Nat := g.2.2.2.2.1
def gX (g : GG) : Nat → Int32 := g.2.2.2.2.2
def gA (g : GG) : Nat → Prop := fun q => gz g ≤ q
abbrev HS : Type := (Nat → Nat → Int32) × (Nat → Nat → Int64) × (Nat → Nat → Option Nat) × Nat
def hI (h : HS) : Nat → Nat → Int32 := h.1
def hJ (h : HS) : Nat → Nat → Int64 := h.2.1
def hP (h : HS) : Nat → Nat → Option Nat := h.2.2.1
def hN (h : HS) : Nat := h.2.2.2
def up2 {α : Type} (f : Nat → Nat → α) (n k : Nat) (x : α) : Nat → Nat → α := fun m j => if m = n ∧ j = k then x else f m j
def sI (h : HS) (n k : Nat) (x : Int32) : HS := (up2 h.1 n k x, h.2.1, h.2.2.1, h.2.2.2)
def sJ (h : HS) (n k : Nat) (x : Int64) : HS := (h.1, up2 h.2.1 n k x, h.2.2.1, h.2.2.2)
def sP (h : HS) (n k : Nat) (x : Option Nat) : HS := (h.1, h.2.1, up2 h.2.2.1 n k x, h.2.2.2)
def sR (h : HS) (n : Nat) (f : Nat → Int32) : HS := (fun m => if m = n then f else h.1 m, h.2.1, h.2.2.1, h.2.2.2)
def nw (h : HS) : HS := (fun m => if m = hN h then fun _ => 0 else h.1 m, fun m => if m = hN h then fun _ => 0 else h.2.1 m, fun m => if m = hN h then fun _ => none else h.2.2.1 m, hN h + 1)
/-- the kind of a name: 0 to 8 an object of that class of vwCl, 9 int[], 10 boolean[], 11 Act[], 12 Entries[] -/
def kd (n : Nat) : Nat := [7, 5, 9, 4, 4, 3, 9, 9, 9, 3, 9, 9, 9, 1, 11, 0, 0, 0, 0, 0, 0, 0, 0, 0, 0, 0, 0, 0, 0, 2, 9, 9, 9, 2, 9, 9, 9, 6, 9, 9, 10, 12, 8, 9, 9, 9, 9, 9, 9, 9, 9, 9, 9, 9, 10, 9, 3, 9, 9, 9, 3, 9, 9, 9].getD n 99
/-- the length of an array's name -/
def al (n : Nat) : Nat := [0, 0, 32, 0, 0, 0, 16, 16, 16, 0, 16, 16, 16, 0, 14, 0, 0, 0, 0, 0, 0, 0, 0, 0, 0, 0, 0, 0, 0, 0, 21, 21, 21, 0, 21, 21, 21, 0, 6, 6, 6, 2, 0, 32, 34, 17, 17, 21, 21, 21, 238, 6, 6, 6, 2, 34, 0, 16, 16, 16, 0, 16, 16, 16].getD n 0
def nf (ci : Nat) : Nat := [5, 2, 4, 4, 5, 2, 4, 11, 30].getD ci 0
def fty (ci : Nat) : Nat → FieldType := match ci with
  | 0 => tyX0
  | 1 => tyX1
  | 2 => tyX2
  | 3 => tyX3
  | 4 => tyX6
  | 5 => tyX7
  | 6 => tyX8
  | 7 => tyX9
  | _ => tyX10
def fv (g : GG) (h : HS) (n k : Nat) (ty : FieldType) : Value := match ty with
  | .long => .long (hJ h n k)
  | .object _ => va_rf ((hP h n k).map (ga g))
  | .array _ => va_rf ((hP h n k).map (ga g))
  | _ => .int (hI h n k)
def fl (g : GG) (h : HS) (n ci : Nat) : List Value := (List.range (nf ci)).map (fun k => fv g h n k (fty ci k))
def aq (g : GG) (h : HS) (n : Nat) : Nat → Option Nat := fun j => (hP h n j).map (ga g)
def ce (g : GG) (h : HS) (n : Nat) : va_E :=
  if kd n < 9 then .inr (kd n, fl g h n (kd n))
  else if kd n = 9 then .inl (gC g 0, al n, .inl (hI h n))
  else if kd n = 10 then .inl (gC g 1, al n, .inl (hI h n))
  else if kd n = 11 then .inl (gC g 2, al n, .inr (.inr (.inr (.inr (aq g h n)))))
  else .inl (gC g 3, al n, .inr (.inr (.inr (.inr (aq g h n)))))
def wl (g : GG) (h : HS) : va_W := (List.range (hN h)).map (fun n => (gz g + n, ce g h n))
def Rl (g : GG) (h : HS) (H : Heap) : Prop := H.size = gz g + hN h ∧ hN h ≤ 1000 ∧ va_P (gD g) vwCl (wl g h) H
theorem wl_get {g : GG} {h : HS} {n : Nat} (hn : n < hN h) : (wl g h)[n]? = some (gz g + n, ce g h n) := by
  simp [wl, hn]
theorem wl_len {g : GG} {h : HS} : (wl g h).length = hN h := by simp [wl]
theorem wl_D (g : GG) (h : HS) : va_D (gA g) (wl g h) := by
  have key : ∀ (k : Nat) (q : Nat × va_E), (wl g h)[k]? = some q → q.1 = gz g + k := by
    intro k q hk
    have hl : k < hN h := by rw [← wl_len (g := g)]; exact (List.getElem?_eq_some_iff.mp hk).1
    rw [wl_get hl] at hk
    cases hk
    rfl
  refine ⟨fun i j x y hi hj e => ?_, fun k q hk => ?_⟩
  · have h1 := key i x hi
    have h2 := key j y hj
    omega
  · have h1 := key k q hk
    show gz g ≤ q.1
    omega
theorem wl_set {g : GG} {h h' : HS} {n : Nat} {e : va_E} (hn : n < hN h) (hN' : hN h' = hN h) (he : ce g h' n = e) (ho : ∀ m, m ≠ n → ce g h' m = ce g h m) : (wl g h).set n (gz g + n, e) = wl g h' := by
  refine List.ext_getElem? (fun i => ?_)
  by_cases hi : i < hN h
  · rw [wl_get (h := h') (by omega)]
    by_cases hin : i = n
    · subst hin
      rw [List.getElem?_set_self (by rw [wl_len]; exact hi), he]
    · rw [List.getElem?_set_ne (Ne.symm hin), wl_get hi, ho i hin]
  · rw [List.getElem?_eq_none (by rw [List.length_set, wl_len]; omega), List.getElem?_eq_none (by rw [wl_len]; omega)]
theorem ce_obj {g : GG} {h : HS} {n ci : Nat} (hc : ci < 9) (hk : kd n = ci) : ce g h n = .inr (ci, fl g h n ci) := by
  subst hk
  simp [ce, hc]
theorem ce_int {g : GG} {h : HS} {n : Nat} (hk : kd n = 9) : ce g h n = .inl (gC g 0, al n, .inl (hI h n)) := by simp [ce, hk]
theorem ce_boo {g : GG} {h : HS} {n : Nat} (hk : kd n = 10) : ce g h n = .inl (gC g 1, al n, .inl (hI h n)) := by simp [ce, hk]
theorem ce_act {g : GG} {h : HS} {n : Nat} (hk : kd n = 11) : ce g h n = .inl (gC g 2, al n, .inr (.inr (.inr (.inr (aq g h n))))) := by simp [ce, hk]
theorem ce_ent {g : GG} {h : HS} {n : Nat} (hk : kd n = 12) : ce g h n = .inl (gC g 3, al n, .inr (.inr (.inr (.inr (aq g h n))))) := by simp [ce, hk]
/-- two heaps that hold the same of a name have the same cell there -/
theorem ce_congr {g : GG} {h h' : HS} {n : Nat} (h1 : hI h' n = hI h n) (h2 : hJ h' n = hJ h n) (h3 : hP h' n = hP h n) : ce g h' n = ce g h n := by
  have e : aq g h' n = aq g h n := by
    funext j
    simp only [aq, h3]
  simp only [ce, fl, fv, e, h1, h2, h3]
theorem up2_ne {α : Type} {f : Nat → Nat → α} {n k m : Nat} {x : α} (hm : m ≠ n) : up2 f n k x m = f m := by
  funext j
  simp [up2, hm]
theorem up2_eq {α : Type} {f : Nat → Nat → α} {n k : Nat} {x : α} : up2 f n k x n = fun j => if j = k then x else f n j := by
  funext j
  simp [up2]
def tv (g : GG) (v : Value) : Value := match v with
  | .ref n => .ref (ga g n)
  | v => v
theorem tv_rf (g : GG) (r : Option Nat) : tv g (va_rf r) = va_rf (r.map (ga g)) := by cases r <;> rfl
theorem tv_cat (g : GG) (v : Value) : (tv g v).category = v.category := by cases v <;> rfl
/-! locals, by their places; none: not known -/
def cat2 (o : Option Value) : Option Value := match o with
  | some (.long _) => none
  | some (.double _) => none
  | o => o
def kill1 (l : List (Option Value)) : List (Option Value) := match l with
  | [] => []
  | _ :: t => none :: t
def setL : List (Option Value) → Nat → Value → List (Option Value)
  | [], _, _ => []
  | _ :: t, 0, v => some v :: (match v with
    | .long _ => kill1 t
    | .double _ => kill1 t
    | _ => t)
  | a :: t, 1, v => cat2 a :: setL t 0 v
  | a :: t, i + 2, v => a :: setL t (i + 1) v
def LV (g : GG) (ls : Array Slot) (n : Nat) (lv : List (Option Value)) : Prop := ls.size = n ∧ lv_wf ls ∧ ∀ (i : Nat) (v : Value), lv[i]? = some (some v) → ls[i]? = some (.val (tv g v))
def asL (g : GG) (lv : List (Option Value)) : List (Nat × Value) := (List.range lv.length).filterMap (fun i => match lv[i]? with
  | some (some v) => some (i, tv g v)
  | _ => none)
theorem asL_mem {g : GG} {lv : List (Option Value)} {i : Nat} {v : Value} (h : lv[i]? = some (some v)) : (i, tv g v) ∈ asL g lv := by
  refine List.mem_filterMap.mpr ⟨i, List.mem_range.mpr (List.getElem?_eq_some_iff.mp h).1, ?_⟩
  rw [h]
theorem asL_of {g : GG} {lv : List (Option Value)} {q : Nat × Value} (h : q ∈ asL g lv) : ∃ v, lv[q.1]? = some (some v) ∧ q.2 = tv g v := by
  obtain ⟨i, -, hi⟩ := List.mem_filterMap.mp h
  split at hi
  · next v hv =>
    cases hi
    exact ⟨v, hv, rfl⟩
  · cases hi
theorem LV.has {g : GG} {ls : Array Slot} {n : Nat} {lv : List (Option Value)} (h : LV g ls n lv) : lv_has ls n (asL g lv) := by
  refine ⟨h.1, h.2.1, fun q hq => ?_⟩
  obtain ⟨v, h1, h2⟩ := asL_of hq
  rw [h2]
  exact h.2.2 q.1 v h1
theorem kill1_get {t : List (Option Value)} {j : Nat} {w : Value} (h : (kill1 t)[j]? = some (some w)) : j ≠ 0 ∧ t[j]? = some (some w) := by
  cases t with
  | nil => simp [kill1] at h
  | cons a t =>
    cases j with
    | zero => simp [kill1] at h
    | succ j => exact ⟨by omega, by simpa [kill1] using h⟩
theorem setL_get : ∀ (lv : List (Option Value)) (i : Nat) (v : Value) (j : Nat) (w : Value), (setL lv i v)[j]? = some (some w) → (j = i ∧ w = v) ∨ (j ≠ i ∧ lv[j]? = some (some w) ∧ ¬ (j + 1 = i ∧ w.category = 2) ∧ ¬ (v.category = 2 ∧ j = i + 1))
  | [], i, v, j, w, h => by simp [setL] at h
  | a :: t, 0, v, 0, w, h => by
    left
    simp [setL] at h
    exact ⟨rfl, h.symm⟩
  | a :: t, 0, v, j + 1, w, h => by
    right
    cases v with
    | long x =>
      have h1 := kill1_get (t := t) (j := j) (w := w) (by simpa [setL] using h)
      exact ⟨by omega, by simpa using h1.2, by omega, by omega⟩
    | double x =>
      have h1 := kill1_get (t := t) (j := j) (w := w) (by simpa [setL] using h)
      exact ⟨by omega, by simpa using h1.2, by omega, by omega⟩
    | _ => exact ⟨by omega, by simpa [setL] using h, by omega, fun q => by simp [Value.category] at q⟩
  | a :: t, 1, v, 0, w, h => by
    right
    have h1 : cat2 a = some w := by simpa [setL] using h
    cases a with
    | none => simp [cat2] at h1
    | some x =>
      cases x with
      | long y => simp [cat2] at h1
      | double y => simp [cat2] at h1
      | int y => simp [cat2] at h1; subst h1; exact ⟨by omega, by simp, fun q => by simp [Value.category] at q, by omega⟩
      | float y => simp [cat2] at h1; subst h1; exact ⟨by omega, by simp, fun q => by simp [Value.category] at q, by omega⟩
      | null => simp [cat2] at h1; subst h1; exact ⟨by omega, by simp, fun q => by simp [Value.category] at q, by omega⟩
      | ref y => simp [cat2] at h1; subst h1; exact ⟨by omega, by simp, fun q => by simp [Value.category] at q, by omega⟩
      | retAddr y => simp [cat2] at h1; subst h1; exact ⟨by omega, by simp, fun q => by simp [Value.category] at q, by omega⟩
  | a :: t, 1, v, j + 1, w, h => by
    rcases setL_get t 0 v j w (by simpa [setL] using h) with ⟨h1, h2⟩ | ⟨h1, h2, h3, h4⟩
    · left; exact ⟨by omega, h2⟩
    · right; exact ⟨by omega, by simpa using h2, by omega, fun q => h4 ⟨q.1, by omega⟩⟩
  | a :: t, i + 2, v, 0, w, h => by
    right
    exact ⟨by omega, by simpa [setL] using h, by omega, by omega⟩
  | a :: t, i + 2, v, j + 1, w, h => by
    rcases setL_get t (i + 1) v j w (by simpa [setL] using h) with ⟨h1, h2⟩ | ⟨h1, h2, h3, h4⟩
    · left; exact ⟨by omega, h2⟩
    · right; exact ⟨by omega, by simpa using h2, fun q => h3 ⟨by omega, q.2⟩, fun q => h4 ⟨q.1, by omega⟩⟩
theorem LV.set1 {g : GG} {ls : Array Slot} {n i : Nat} {lv : List (Option Value)} {v : Value} (hc : v.category = 1) (h : lv_has ls n ((i, tv g v) :: (asL g lv).filter (fun q => !(q.1 == i) && !(q.1 + 1 == i && q.2.category == 2)))) : LV g ls n (setL lv i v) := by
  refine ⟨h.1, h.2.1, fun j w hw => ?_⟩
  rcases setL_get lv i v j w hw with ⟨h1, h2⟩ | ⟨h1, h2, h3, -⟩
  · subst h1; subst h2
    exact h.2.2 _ List.mem_cons_self
  · refine h.2.2 (j, tv g w) (List.mem_cons_of_mem _ (List.mem_filter.mpr ⟨asL_mem h2, ?_⟩))
    simp only [tv_cat, Bool.and_eq_true, Bool.not_eq_true', beq_eq_false_iff_ne, Bool.and_eq_false_iff]
    refine ⟨h1, ?_⟩
    by_cases q : j + 1 = i
    · exact Or.inr (fun z => h3 ⟨q, z⟩)
    · exact Or.inl q
theorem LV.set2 {g : GG} {ls : Array Slot} {n i : Nat} {lv : List (Option Value)} {v : Value} (hc : v.category = 2) (h : lv_has ls n ((i, tv g v) :: (asL g lv).filter (fun q => !(q.1 == i) && (!(q.1 == i + 1) && !(q.1 + 1 == i && q.2.category == 2))))) : LV g ls n (setL lv i v) := by
  refine ⟨h.1, h.2.1, fun j w hw => ?_⟩
  rcases setL_get lv i v j w hw with ⟨h1, h2⟩ | ⟨h1, h2, h3, h4⟩
  · subst h1; subst h2
    exact h.2.2 _ List.mem_cons_self
  · refine h.2.2 (j, tv g w) (List.mem_cons_of_mem _ (List.mem_filter.mpr ⟨asL_mem h2, ?_⟩))
    simp only [tv_cat, Bool.and_eq_true, Bool.not_eq_true', beq_eq_false_iff_ne, Bool.and_eq_false_iff]
    refine ⟨h1, fun z => h4 ⟨hc, z⟩, ?_⟩
    by_cases q : j + 1 = i
    · exact Or.inr (fun z => h3 ⟨q, z⟩)
    · exact Or.inl q
/-- of the locals only those that a mask names -/
def lmask : List (Option Value) → List Bool → List (Option Value)
  | a :: t, true :: m => a :: lmask t m
  | _ :: t, false :: m => none :: lmask t m
  | _, _ => []
theorem lmask_get : ∀ (lv : List (Option Value)) (m : List Bool) (i : Nat) (v : Value), (lmask lv m)[i]? = some (some v) → lv[i]? = some (some v)
  | [], _, i, v, h => by cases i <;> simp [lmask] at h
  | _ :: _, [], i, v, h => by cases i <;> simp [lmask] at h
  | a :: t, true :: m, 0, v, h => by simpa [lmask] using h
  | a :: t, true :: m, i + 1, v, h => by simpa using lmask_get t m i v (by simpa [lmask] using h)
  | a :: t, false :: m, 0, v, h => by simp [lmask] at h
  | a :: t, false :: m, i + 1, v, h => by simpa using lmask_get t m i v (by simpa [lmask] using h)
theorem LV.mask {g : GG} {ls : Array Slot} {n : Nat} {lv : List (Option Value)} (m : List Bool) (h : LV g ls n lv) : LV g ls n (lmask lv m) := ⟨h.1, h.2.1, fun i v hv => h.2.2 i v (lmask_get lv m i v hv)⟩
/-- the locals at a method's entry -/
def entL : Nat → List Value → List (Option Value)
  | n, [] => List.replicate n none
  | n, v :: t => match v with
    | .long _ => some v :: none :: entL (n - 2) t
    | .double _ => some v :: none :: entL (n - 2) t
    | _ => some v :: entL (n - 1) t
theorem entL_get (g : GG) : ∀ (vs : List Value) (n k i : Nat) (v : Value), (entL n vs)[i]? = some (some v) → (k + i, tv g v) ∈ lv_args k (vs.map (tv g))
  | [], n, k, i, v, h => by
    simp only [entL, List.getElem?_replicate] at h
    split at h <;> simp at h
  | x :: t, n, k, i, v, h => by
    have step2 : ∀ (y : Value), x.category = 2 → (some x :: none :: entL (n - 2) t)[i]? = some (some v) → (k + i, tv g v) ∈ lv_args k ((x :: t).map (tv g)) := by
      intro y hx hh
      match i, hh with
      | 0, hh => simp at hh; subst hh; simp [lv_args]
      | 1, hh => simp at hh
      | i + 2, hh =>
        have h1 := entL_get g t (n - 2) (k + 2) i v (by simpa using hh)
        simp only [List.map_cons, lv_args, tv_cat, hx]
        refine List.mem_cons_of_mem _ ?_
        have e : k + (i + 2) = k + 2 + i := by omega
        rw [e]
        exact h1
    have step1 : x.category = 1 → (some x :: entL (n - 1) t)[i]? = some (some v) → (k + i, tv g v) ∈ lv_args k ((x :: t).map (tv g)) := by
      intro hx hh
      match i, hh with
      | 0, hh => simp at hh; subst hh; simp [lv_args]
      | i + 1, hh =>
        have h1 := entL_get g t (n - 1) (k + 1) i v (by simpa using hh)
        simp only [List.map_cons, lv_args, tv_cat, hx]
        refine List.mem_cons_of_mem _ ?_
        have e : k + (i + 1) = k + 1 + i := by omega
        rw [e]
        exact h1
    cases x with
    | long y => exact step2 .null rfl (by simpa [entL] using h)
    | double y => exact step2 .null rfl (by simpa [entL] using h)
    | int y => exact step1 rfl (by simpa [entL] using h)
    | float y => exact step1 rfl (by simpa [entL] using h)
    | null => exact step1 rfl (by simpa [entL] using h)
    | ref y => exact step1 rfl (by simpa [entL] using h)
    | retAddr y => exact step1 rfl (by simpa [entL] using h)
end
section
/-! ROWS: the constants, the context, the judgement Wq over the abstract heap, a row an instruction -/
def wLen : List Nat := [5, 3, 4, 5, 5]
def wByt : List (List Int32) := [[99, 111, 117, 110, 116], [115, 117, 109], [109, 111, 115, 116], [108, 101, 97, 115, 116], [107, 105, 110, 100, 115]]
def ordV (j : Nat) : Int32 := [1, 1, 2, 6, 24, 120, 720].getD j 0
def untV (j : Nat) : Int64 := [1, 10000, 100000000, 1000000000000, 10000000000000000].getD j 0
def tyL (g : GG) : List (ClassId × FieldType) := [(gC g 0, .int), (gC g 1, .boolean), (gC g 2, .object RX0), (gC g 3, .object RX3)]
def nestW : List Cond := [.methodLinkNest RX9 9 yX7_init RX9, .methodLinkNest RX9 18 yX6_init RX9, .methodLinkNest RX9 28 yX3_init RX9, .methodLinkNest RX1 21 yX0_init RX9, .methodLinkNest RX9 45 yX2_init RX9, .methodLinkNest RX9 55 yX8_init RX9]
def gtbl : List Cond := lw_tbl.filter goodWord
theorem gtbl_of {w : Cond} (i : Nat) (h : lw_tbl[i]? = some w) (hg : goodWord w = true) : w ∈ gtbl := List.mem_filter.mpr ⟨List.mem_of_getElem? h, hg⟩
theorem gtbl_good {w : Cond} (h : w ∈ gtbl) : goodWord w = true := (List.mem_filter.mp h).2
def Kc (g : GG) (U : State) (H : Heap) : Prop :=
  va_En RX4 "LCrossTable$Field;" ["TOWN", "WARE", "AMOUNT", "ALL"] [] (fun i => ga g (1000 + i)) (gA g) U H ∧
  va_En RX5 "LCrossTable$Measure;" ["COUNT", "SUM", "MOST", "LEAST", "KINDS"] [] (fun i => ga g (1010 + i)) (gA g) U H ∧
  va_Ef 5 RX5 "word" "Ljava/lang/String;" (fun i => .ref (ga g (1020 + i))) (fun i => ga g (1010 + i)) (gA g) U H ∧
  vk_S 5 wLen wByt (fun i => ga g (1020 + i)) (fun i => ga g (1040 + i)) (gA g) U H ∧
  va_Z RX9 "ORDERS" "[I" (.ref (ga g 1030)) (gA g) U H ∧ va_T .int (ga g 1030) 7 (fun j => .int (ordV j)) (gA g) U H ∧
  va_Z RX9 "DOING_UNITS" "[J" (.ref (ga g 1031)) (gA g) U H ∧ va_T .long (ga g 1031) 5 (fun j => .long (untV j)) (gA g) U H ∧
  va_Z "java/lang/String" "COMPACT_STRINGS" "Z" (.int 1) (gA g) U H ∧ va_X (ga g 2000) (gL g) (gX g) U H
def Kst (g : GG) (U : State) (H : Heap) : Prop := (∀ n, n < 1000 → ga g n = gz g + n) ∧ va_K (gD g) vwCl (tyL g) U ∧ Kc g U H ∧ ga g 2000 < gz g ∧ (∀ w ∈ nestW, va_Nw w U) ∧ va_AO RX0 U ∧ va_AO RX3 U
theorem Kc.moved {g : GG} {u U : State} {H : Heap} (hvm : u.vm.Alike U.vm) (h : Kc g u H) : Kc g U H := by
  obtain ⟨a1, a2, a3, a4, a5, a6, a7, a8, a9, a10⟩ := h
  exact ⟨a1.moved hvm, a2.moved hvm, a3.moved hvm, a4.moved hvm, a5.moved hvm, a6.moved hvm, a7.moved hvm, a8.moved hvm, a9.moved hvm, a10.moved hvm⟩
theorem Kc.kept {g : GG} {U : State} {H H1 : Heap} (hb : ga g 2000 < gz g) (h : Kc g U H) (hq : ∀ a : Nat, a < H.size → ¬ gA g a → H1[a]? = H[a]?) : Kc g U H1 := by
  obtain ⟨a1, a2, a3, a4, a5, a6, a7, a8, a9, a10⟩ := h
  refine ⟨a1.kept hq, a2.kept hq, a3.kept hq, a4.kept hq, a5.kept hq, a6.kept hq, a7.kept hq, a8.kept hq, a9.kept hq, a10.kept (hq _ ?_ (Nat.not_le.mpr hb))⟩
  obtain ⟨scr, h1, -⟩ := a10
  exact (Array.getElem?_eq_some_iff.mp h1).1
theorem nest_warm {s U : State} (hW : s.WarmedH U.vm) : ∀ w ∈ nestW, va_Nw w s → va_Nw w U := by
  intro w hw hn
  simp only [nestW, List.mem_cons, List.not_mem_nil, or_false] at hw
  rcases hw with rfl | rfl | rfl | rfl | rfl | rfl <;> exact va_Nw.warmM hW hn
theorem Kst.to {g : GG} {s U : State} {H : Heap} {locs : List Loc} (h : Kst g s s.heap) (hS : va_S (gA g) s.heap H locs) (hW : s.WarmedH U.vm) (hU : U.heap = H) : Kst g U U.heap := by
  obtain ⟨a1, a2, a3, a4, a5, a6, a7⟩ := h
  rw [hU]
  exact ⟨a1, a2.moved hW.alike, (a3.kept a4 hS.2.1).moved hW.alike, a4, fun w hw => nest_warm hW w hw (a5 w hw), a6.moved hW.alike, a7.moved hW.alike⟩
theorem Kst.same {g : GG} {u U : State} {H : Heap} (h : Kst g u H) (hv : U.vm = u.vm) : Kst g U H := by
  obtain ⟨a1, a2, a3, a4, a5, a6, a7⟩ := h
  have hvm : u.vm.Alike U.vm := by rw [hv]; exact Vm.Alike.refl _
  have hn : ∀ w ∈ nestW, va_Nw w U := by
    intro w hw
    have h1 := a5 w hw
    simp only [nestW, List.mem_cons, List.not_mem_nil, or_false] at hw
    rcases hw with rfl | rfl | rfl | rfl | rfl | rfl <;> exact va_Nw.same rfl hv.symm h1
  exact ⟨a1, a2.moved hvm, a3.moved hvm, a4, hn, a6.moved hvm, a7.moved hvm⟩
/-- a method: its name, code, locals, what it returns, its room -/
abbrev MD : Type := MethodName × ByteArray × Nat × Option FieldType × Room
def CX (g : GG) (M : MD) (p : Program) (s : State) (m : MethodId) (args : Array Value) (meth : Method) (c : Code) : Prop :=
  p.tables.exec = Jvm.exec ∧ c.code = M.2.1 ∧ c.maxLocals = M.2.2.1 ∧ meth.sig.returnType = M.2.2.2.1 ∧ s.vm.findClass M.1.cls = some m.cls ∧ meth.locks = false ∧ meth.name = M.1.name ∧ (∀ w ∈ gtbl, w.before args s = true) ∧ Kst g s s.heap ∧ gz g ≤ s.heap.size
def QQ (g : GG) (Q : Option Value → HS → Prop) : Array Value → State → Outcome → State → Prop := fun _ st oc t => (∃ (v : Option Value) (u : HS), oc = .returned (v.map (tv g)) ∧ Q v u ∧ Rl g u t.heap) ∧ va_F (gA g) st t
def Wq (g : GG) (l : Launch) (M : MD) (k w pc : Nat) (lv : List (Option Value)) (st : List Value) (h : HS) (Q : Option Value → HS → Prop) : Prop :=
  ∀ (p : Program) (e : Env) (s : State) (m : MethodId) (args : Array Value) (below : List Frame) (meth : Method) (c : Code), CX g M p s m args meth c → ∀ (H : Heap) (ls : Array Slot) (locs : List Loc), Rl g h H → va_S (gA g) s.heap H locs → LV g ls M.2.2.1 lv → W p l e M.2.2.2.2 s m args below meth c H locs k w (MQ below (QQ g Q) args s M.2.2.2.2.cells M.2.2.2.2.slots (gA g)) (F0 m pc ls (st.map (tv g)))
def Pq (g : GG) (args : List Value) (h : HS) : Array Value → State → Prop := va_Pc (args.map (tv g)) (fun U => Rl g h U.heap ∧ Kst g U U.heap ∧ gz g ≤ U.heap.size)
/-- a method's contract at these arguments and this heap -/
def Ct (g : GG) (l : Launch) (M : MD) (args : List Value) (h : HS) (Q : Option Value → HS → Prop) : Prop := Met l M.1 (.code M.1 M.2.1 M.2.2.1 M.2.2.2.1 :: gtbl) M.2.2.2.2 (Pq g args h) (QQ g Q) M.2.2.2.2.cells M.2.2.2.2.slots (gA g)
/-! the words of f: a guard, a reference that isn't null, what another method answers -/
def gd {α : Type} (b : Bool) (x : Option α) : Option α := match b with
  | true => x
  | false => none
def nn {α : Type} (r : Option Nat) (k : Nat → Option α) : Option α := match r with
  | none => none
  | some n => k n
def bd {α β : Type} (x : Option α) (k : α → Option β) : Option β := match x with
  | none => none
  | some a => k a
theorem gd_some {α : Type} {b : Bool} {x : Option α} {o : α} (h : gd b x = some o) : b = true ∧ x = some o := by
  cases b with
  | true => exact ⟨rfl, h⟩
  | false => cases h
theorem nn_some {α : Type} {r : Option Nat} {k : Nat → Option α} {o : α} (h : nn r k = some o) : ∃ n, r = some n ∧ k n = some o := by
  cases r with
  | none => cases h
  | some n => exact ⟨n, rfl, h⟩
theorem bd_some {α β : Type} {x : Option α} {k : α → Option β} {o : β} (h : bd x k = some o) : ∃ a, x = some a ∧ k a = some o := by
  cases x with
  | none => cases h
  | some a => exact ⟨a, rfl, h⟩
def inb (i : Int32) (n : Nat) : Bool := decide (0 ≤ i.toInt ∧ i.toInt < (n : Int))
/-- a name is there and of that kind -/
def ck (h : HS) (n ci : Nat) : Bool := decide (n < hN h) && kd n == ci
/-- an array's name, and an index within -/
def ca (h : HS) (n ci : Nat) (i : Int32) : Bool := ck h n ci && inb i (al n)
theorem inb_in {i : Int32} {n : Nat} (h : inb i n = true) : vp_in i n := vp_in_iff.mpr (of_decide_eq_true h)
theorem ck_spec {h : HS} {n ci : Nat} (hc : ck h n ci = true) : n < hN h ∧ kd n = ci := by
  simp only [ck, Bool.and_eq_true, decide_eq_true_eq, beq_iff_eq] at hc
  exact hc
theorem ca_spec {h : HS} {n ci : Nat} {i : Int32} (hc : ca h n ci i = true) : n < hN h ∧ kd n = ci ∧ vp_in i (al n) := by
  simp only [ca, Bool.and_eq_true] at hc
  exact ⟨(ck_spec hc.1).1, (ck_spec hc.1).2, inb_in hc.2⟩
theorem Rl.ad {g : GG} {h : HS} {H : Heap} {s : State} (hR : Rl g h H) (hK : Kst g s s.heap) {n : Nat} (hn : n < hN h) : ga g n = gz g + n := hK.1 n (Nat.lt_of_lt_of_le hn hR.2.1)
section RW
variable {g : GG} {l : Launch} {M : MD} {k w pc : Nat} {lv : List (Option Value)} {st : List Value} {h : HS} {Q : Option Value → HS → Prop}
theorem Wq.mask (ms : List Bool) {lv' : List (Option Value)} (he : lmask lv ms = lv') (kk : Wq g l M k w pc lv' st h Q) : Wq g l M k w pc lv st h Q := by
  intro p e s m args below meth c C H ls locs hR hS hL
  subst he
  exact kk p e s m args below meth c C H ls locs hR hS (hL.mask ms)
theorem Wq.at {pc' : Nat} (he : pc' = pc) (kk : Wq g l M k w pc' lv st h Q) : Wq g l M k w pc lv st h Q := he ▸ kk

theorem q_iconst {n : Int} {v : Int32} (hd : decode M.2.1 pc = .ok (.iconst n, 1)) (hv : Int32.ofInt n = v) (kk : Wq g l M k w (pc + 1) lv (.int v :: st) h Q) : Wq g l M k w pc lv (st) h Q := by
  intro p e s m args below meth c C H ls locs hR hS hL
  exact lv_iconst C.1 C.2.1 hd hv (kk p e s m args below meth c C H ls locs hR hS hL)
theorem q_bipush {n : Int} {v : Int32} (hd : decode M.2.1 pc = .ok (.bipush n, 2)) (hv : (Int8.ofInt n).toInt32 = v) (kk : Wq g l M k w (pc + 2) lv (.int v :: st) h Q) : Wq g l M k w pc lv (st) h Q := by
  intro p e s m args below meth c C H ls locs hR hS hL
  exact lv_bipush C.1 C.2.1 hd hv (kk p e s m args below meth c C H ls locs hR hS hL)
theorem q_sipush {n : Int} {v : Int32} (hd : decode M.2.1 pc = .ok (.sipush n, 3)) (hv : (Int16.ofInt n).toInt32 = v) (kk : Wq g l M k w (pc + 3) lv (.int v :: st) h Q) : Wq g l M k w pc lv (st) h Q := by
  intro p e s m args below meth c C H ls locs hR hS hL
  exact lv_sipush C.1 C.2.1 hd hv (kk p e s m args below meth c C H ls locs hR hS hL)
theorem q_lconst {n : Fin 2} {v : Int64} (hd : decode M.2.1 pc = .ok (.lconst n, 1)) (hv : Int64.ofNat (n : Nat) = v) (kk : Wq g l M k w (pc + 1) lv (.long v :: st) h Q) : Wq g l M k w pc lv (st) h Q := by
  intro p e s m args below meth c C H ls locs hR hS hL
  exact lv_lconst C.1 C.2.1 hd hv (kk p e s m args below meth c C H ls locs hR hS hL)
theorem q_null (hd : decode M.2.1 pc = .ok (.aconst_null, 1)) (kk : Wq g l M k w (pc + 1) lv (va_rf none :: st) h Q) : Wq g l M k w pc lv (st) h Q := by
  intro p e s m args below meth c C H ls locs hR hS hL
  exact lv_null C.1 C.2.1 hd (kk p e s m args below meth c C H ls locs hR hS hL)
theorem q_iload_n {j : Fin 4} {i : Nat} {x : Int32} (hd : decode M.2.1 pc = .ok (.iload_n j, 1)) (hi : (j : Nat) = i) (hv : lv[i]? = some (some (.int x))) (kk : Wq g l M k w (pc + 1) lv (.int x :: st) h Q) : Wq g l M k w pc lv (st) h Q := by
  intro p e s m args below meth c C H ls locs hR hS hL
  exact lv_iload_n C.1 C.2.1 hd hi (hL.2.2 _ _ hv) (kk p e s m args below meth c C H ls locs hR hS hL)
theorem q_iload {i : Nat} {x : Int32} (hd : decode M.2.1 pc = .ok (.iload i, 2)) (hv : lv[i]? = some (some (.int x))) (kk : Wq g l M k w (pc + 2) lv (.int x :: st) h Q) : Wq g l M k w pc lv (st) h Q := by
  intro p e s m args below meth c C H ls locs hR hS hL
  exact lv_iload C.1 C.2.1 hd (hL.2.2 _ _ hv) (kk p e s m args below meth c C H ls locs hR hS hL)
theorem q_lload_n {j : Fin 4} {i : Nat} {x : Int64} (hd : decode M.2.1 pc = .ok (.lload_n j, 1)) (hi : (j : Nat) = i) (hv : lv[i]? = some (some (.long x))) (kk : Wq g l M k w (pc + 1) lv (.long x :: st) h Q) : Wq g l M k w pc lv (st) h Q := by
  intro p e s m args below meth c C H ls locs hR hS hL
  exact lv_lload_n C.1 C.2.1 hd hi (hL.2.2 _ _ hv) (kk p e s m args below meth c C H ls locs hR hS hL)
theorem q_lload {i : Nat} {x : Int64} (hd : decode M.2.1 pc = .ok (.lload i, 2)) (hv : lv[i]? = some (some (.long x))) (kk : Wq g l M k w (pc + 2) lv (.long x :: st) h Q) : Wq g l M k w pc lv (st) h Q := by
  intro p e s m args below meth c C H ls locs hR hS hL
  exact lv_lload C.1 C.2.1 hd (hL.2.2 _ _ hv) (kk p e s m args below meth c C H ls locs hR hS hL)
theorem q_aload_n {j : Fin 4} {i : Nat} {r : Option Nat} (hd : decode M.2.1 pc = .ok (.aload_n j, 1)) (hi : (j : Nat) = i) (hv : lv[i]? = some (some (va_rf r))) (kk : Wq g l M k w (pc + 1) lv (va_rf r :: st) h Q) : Wq g l M k w pc lv st h Q := by
  intro p e s m args below meth c C H ls locs hR hS hL
  have hl := hL.2.2 _ _ hv
  cases r with
  | none => exact lv_aload_nN C.1 C.2.1 hd hi hl (kk p e s m args below meth c C H ls locs hR hS hL)
  | some n => exact lv_aload_n C.1 C.2.1 hd hi hl (kk p e s m args below meth c C H ls locs hR hS hL)
theorem q_aload {i : Nat} {r : Option Nat} (hd : decode M.2.1 pc = .ok (.aload i, 2)) (hv : lv[i]? = some (some (va_rf r))) (kk : Wq g l M k w (pc + 2) lv (va_rf r :: st) h Q) : Wq g l M k w pc lv st h Q := by
  intro p e s m args below meth c C H ls locs hR hS hL
  have hl := hL.2.2 _ _ hv
  cases r with
  | none => exact lv_aloadN C.1 C.2.1 hd hl (kk p e s m args below meth c C H ls locs hR hS hL)
  | some n => exact lv_aload C.1 C.2.1 hd hl (kk p e s m args below meth c C H ls locs hR hS hL)
theorem q_istore_n {j : Fin 4} {i : Nat} {x : Int32} (hd : decode M.2.1 pc = .ok (.istore_n j, 1)) (hi : (j : Nat) = i) (hn : i < M.2.2.1) (kk : Wq g l M k w (pc + 1) (setL lv i (.int x)) st h Q) : Wq g l M k w pc lv (.int x :: st) h Q := by
  intro p e s m args below meth c C H ls locs hR hS hL
  exact lv_istore_n C.1 C.2.1 hd hi hL.has hn rfl (fun ls2 hl2 => kk p e s m args below meth c C H ls2 locs hR hS (LV.set1 rfl hl2))
theorem q_istore {i : Nat} {x : Int32} (hd : decode M.2.1 pc = .ok (.istore i, 2)) (hn : i < M.2.2.1) (kk : Wq g l M k w (pc + 2) (setL lv i (.int x)) st h Q) : Wq g l M k w pc lv (.int x :: st) h Q := by
  intro p e s m args below meth c C H ls locs hR hS hL
  exact lv_istore C.1 C.2.1 hd hL.has hn rfl (fun ls2 hl2 => kk p e s m args below meth c C H ls2 locs hR hS (LV.set1 rfl hl2))
theorem q_lstore_n {j : Fin 4} {i : Nat} {x : Int64} (hd : decode M.2.1 pc = .ok (.lstore_n j, 1)) (hi : (j : Nat) = i) (hn : i + 1 < M.2.2.1) (kk : Wq g l M k w (pc + 1) (setL lv i (.long x)) st h Q) : Wq g l M k w pc lv (.long x :: st) h Q := by
  intro p e s m args below meth c C H ls locs hR hS hL
  exact lv_lstore_n C.1 C.2.1 hd hi hL.has hn rfl (fun ls2 hl2 => kk p e s m args below meth c C H ls2 locs hR hS (LV.set2 rfl hl2))
theorem q_lstore {i : Nat} {x : Int64} (hd : decode M.2.1 pc = .ok (.lstore i, 2)) (hn : i + 1 < M.2.2.1) (kk : Wq g l M k w (pc + 2) (setL lv i (.long x)) st h Q) : Wq g l M k w pc lv (.long x :: st) h Q := by
  intro p e s m args below meth c C H ls locs hR hS hL
  exact lv_lstore C.1 C.2.1 hd hL.has hn rfl (fun ls2 hl2 => kk p e s m args below meth c C H ls2 locs hR hS (LV.set2 rfl hl2))
theorem q_astore_n {j : Fin 4} {i : Nat} {r : Option Nat} (hd : decode M.2.1 pc = .ok (.astore_n j, 1)) (hi : (j : Nat) = i) (hn : i < M.2.2.1) (kk : Wq g l M k w (pc + 1) (setL lv i (va_rf r)) st h Q) : Wq g l M k w pc lv (va_rf r :: st) h Q := by
  intro p e s m args below meth c C H ls locs hR hS hL
  cases r with
  | none => exact lv_astore_nN C.1 C.2.1 hd hi hL.has hn rfl (fun ls2 hl2 => kk p e s m args below meth c C H ls2 locs hR hS (LV.set1 (v := va_rf none) rfl hl2))
  | some n => exact lv_astore_n C.1 C.2.1 hd hi hL.has hn rfl (fun ls2 hl2 => kk p e s m args below meth c C H ls2 locs hR hS (LV.set1 (v := va_rf (some n)) rfl hl2))
theorem q_astore {i : Nat} {r : Option Nat} (hd : decode M.2.1 pc = .ok (.astore i, 2)) (hn : i < M.2.2.1) (kk : Wq g l M k w (pc + 2) (setL lv i (va_rf r)) st h Q) : Wq g l M k w pc lv (va_rf r :: st) h Q := by
  intro p e s m args below meth c C H ls locs hR hS hL
  cases r with
  | none => exact lv_astoreN C.1 C.2.1 hd hL.has hn rfl (fun ls2 hl2 => kk p e s m args below meth c C H ls2 locs hR hS (LV.set1 (v := va_rf none) rfl hl2))
  | some n => exact lv_astore C.1 C.2.1 hd hL.has hn rfl (fun ls2 hl2 => kk p e s m args below meth c C H ls2 locs hR hS (LV.set1 (v := va_rf (some n)) rfl hl2))
theorem q_iinc {i : Nat} {n : Int} {x v : Int32} (hd : decode M.2.1 pc = .ok (.iinc i n, 3)) (hv : lv[i]? = some (some (.int x))) (he : x + Int32.ofInt n = v) (hn : i < M.2.2.1) (kk : Wq g l M k w (pc + 3) (setL lv i (.int v)) st h Q) : Wq g l M k w pc lv st h Q := by
  intro p e s m args below meth c C H ls locs hR hS hL
  obtain ⟨j, hj⟩ := List.getElem?_of_mem (asL_mem (g := g) hv)
  exact lv_iinc C.1 C.2.1 hd hL.has hj he hn rfl (fun ls2 hl2 => kk p e s m args below meth c C H ls2 locs hR hS (LV.set1 rfl hl2))
theorem q_iadd {x y : Int32} (hd : decode M.2.1 pc = .ok (.iadd, 1)) (kk : Wq g l M k w (pc + 1) lv (.int (x + y) :: st) h Q) : Wq g l M k w pc lv (.int y :: .int x :: st) h Q := by
  intro p e s m args below meth c C H ls locs hR hS hL
  exact lv_iadd C.1 C.2.1 hd (kk p e s m args below meth c C H ls locs hR hS hL)
theorem q_isub {x y : Int32} (hd : decode M.2.1 pc = .ok (.isub, 1)) (kk : Wq g l M k w (pc + 1) lv (.int (x - y) :: st) h Q) : Wq g l M k w pc lv (.int y :: .int x :: st) h Q := by
  intro p e s m args below meth c C H ls locs hR hS hL
  exact lv_isub C.1 C.2.1 hd (kk p e s m args below meth c C H ls locs hR hS hL)
theorem q_imul {x y : Int32} (hd : decode M.2.1 pc = .ok (.imul, 1)) (kk : Wq g l M k w (pc + 1) lv (.int (x * y) :: st) h Q) : Wq g l M k w pc lv (.int y :: .int x :: st) h Q := by
  intro p e s m args below meth c C H ls locs hR hS hL
  exact lv_imul C.1 C.2.1 hd (kk p e s m args below meth c C H ls locs hR hS hL)
theorem q_iand {x y : Int32} (hd : decode M.2.1 pc = .ok (.iand, 1)) (kk : Wq g l M k w (pc + 1) lv (.int (x &&& y) :: st) h Q) : Wq g l M k w pc lv (.int y :: .int x :: st) h Q := by
  intro p e s m args below meth c C H ls locs hR hS hL
  exact lv_iand C.1 C.2.1 hd (kk p e s m args below meth c C H ls locs hR hS hL)
theorem q_ior {x y : Int32} (hd : decode M.2.1 pc = .ok (.ior, 1)) (kk : Wq g l M k w (pc + 1) lv (.int (x ||| y) :: st) h Q) : Wq g l M k w pc lv (.int y :: .int x :: st) h Q := by
  intro p e s m args below meth c C H ls locs hR hS hL
  exact lv_ior C.1 C.2.1 hd (kk p e s m args below meth c C H ls locs hR hS hL)
theorem q_ixor {x y : Int32} (hd : decode M.2.1 pc = .ok (.ixor, 1)) (kk : Wq g l M k w (pc + 1) lv (.int (x ^^^ y) :: st) h Q) : Wq g l M k w pc lv (.int y :: .int x :: st) h Q := by
  intro p e s m args below meth c C H ls locs hR hS hL
  exact lv_ixor C.1 C.2.1 hd (kk p e s m args below meth c C H ls locs hR hS hL)
theorem q_ishl {x y : Int32} (hd : decode M.2.1 pc = .ok (.ishl, 1)) (kk : Wq g l M k w (pc + 1) lv (.int (x <<< (y &&& 31)) :: st) h Q) : Wq g l M k w pc lv (.int y :: .int x :: st) h Q := by
  intro p e s m args below meth c C H ls locs hR hS hL
  exact lv_ishl C.1 C.2.1 hd (kk p e s m args below meth c C H ls locs hR hS hL)
theorem q_ishr {x y : Int32} (hd : decode M.2.1 pc = .ok (.ishr, 1)) (kk : Wq g l M k w (pc + 1) lv (.int (x >>> (y &&& 31)) :: st) h Q) : Wq g l M k w pc lv (.int y :: .int x :: st) h Q := by
  intro p e s m args below meth c C H ls locs hR hS hL
  exact lv_ishr C.1 C.2.1 hd (kk p e s m args below meth c C H ls locs hR hS hL)
theorem q_ineg {x : Int32} (hd : decode M.2.1 pc = .ok (.ineg, 1)) (kk : Wq g l M k w (pc + 1) lv (.int (-x) :: st) h Q) : Wq g l M k w pc lv (.int x :: st) h Q := by
  intro p e s m args below meth c C H ls locs hR hS hL
  exact lv_ineg C.1 C.2.1 hd (kk p e s m args below meth c C H ls locs hR hS hL)
theorem q_ladd {x y : Int64} (hd : decode M.2.1 pc = .ok (.ladd, 1)) (kk : Wq g l M k w (pc + 1) lv (.long (x + y) :: st) h Q) : Wq g l M k w pc lv (.long y :: .long x :: st) h Q := by
  intro p e s m args below meth c C H ls locs hR hS hL
  exact lv_ladd C.1 C.2.1 hd (kk p e s m args below meth c C H ls locs hR hS hL)
theorem q_lsub {x y : Int64} (hd : decode M.2.1 pc = .ok (.lsub, 1)) (kk : Wq g l M k w (pc + 1) lv (.long (x - y) :: st) h Q) : Wq g l M k w pc lv (.long y :: .long x :: st) h Q := by
  intro p e s m args below meth c C H ls locs hR hS hL
  exact lv_lsub C.1 C.2.1 hd (kk p e s m args below meth c C H ls locs hR hS hL)
theorem q_lmul {x y : Int64} (hd : decode M.2.1 pc = .ok (.lmul, 1)) (kk : Wq g l M k w (pc + 1) lv (.long (x * y) :: st) h Q) : Wq g l M k w pc lv (.long y :: .long x :: st) h Q := by
  intro p e s m args below meth c C H ls locs hR hS hL
  exact lv_lmul C.1 C.2.1 hd (kk p e s m args below meth c C H ls locs hR hS hL)
theorem q_land {x y : Int64} (hd : decode M.2.1 pc = .ok (.land, 1)) (kk : Wq g l M k w (pc + 1) lv (.long (x &&& y) :: st) h Q) : Wq g l M k w pc lv (.long y :: .long x :: st) h Q := by
  intro p e s m args below meth c C H ls locs hR hS hL
  exact lv_land C.1 C.2.1 hd (kk p e s m args below meth c C H ls locs hR hS hL)
theorem q_lor {x y : Int64} (hd : decode M.2.1 pc = .ok (.lor, 1)) (kk : Wq g l M k w (pc + 1) lv (.long (x ||| y) :: st) h Q) : Wq g l M k w pc lv (.long y :: .long x :: st) h Q := by
  intro p e s m args below meth c C H ls locs hR hS hL
  exact lv_lor C.1 C.2.1 hd (kk p e s m args below meth c C H ls locs hR hS hL)
theorem q_iushr {x y : Int32} (hd : decode M.2.1 pc = .ok (.iushr, 1)) (kk : Wq g l M k w (pc + 1) lv (.int (x.toUInt32 >>> (y.toUInt32 &&& Int32.toUInt32 31)).toInt32 :: st) h Q) : Wq g l M k w pc lv (.int y :: .int x :: st) h Q := by
  intro p e s m args below meth c C H ls locs hR hS hL
  exact lv_iushr C.1 C.2.1 hd rfl (kk p e s m args below meth c C H ls locs hR hS hL)
theorem q_lushr {x : Int64} {y : Int32} (hd : decode M.2.1 pc = .ok (.lushr, 1)) (kk : Wq g l M k w (pc + 1) lv (.long (x.toUInt64 >>> (y.toInt64.toUInt64 &&& Int64.toUInt64 63)).toInt64 :: st) h Q) : Wq g l M k w pc lv (.int y :: .long x :: st) h Q := by
  intro p e s m args below meth c C H ls locs hR hS hL
  exact lv_lushr C.1 C.2.1 hd rfl (kk p e s m args below meth c C H ls locs hR hS hL)
theorem q_lshl {x : Int64} {y : Int32} (hd : decode M.2.1 pc = .ok (.lshl, 1)) (kk : Wq g l M k w (pc + 1) lv (.long (x <<< (y.toInt64 &&& 63)) :: st) h Q) : Wq g l M k w pc lv (.int y :: .long x :: st) h Q := by
  intro p e s m args below meth c C H ls locs hR hS hL
  exact lv_lshl C.1 C.2.1 hd rfl (kk p e s m args below meth c C H ls locs hR hS hL)
theorem q_i2l {x : Int32} (hd : decode M.2.1 pc = .ok (.i2l, 1)) (kk : Wq g l M k w (pc + 1) lv (.long x.toInt64 :: st) h Q) : Wq g l M k w pc lv (.int x :: st) h Q := by
  intro p e s m args below meth c C H ls locs hR hS hL
  exact lv_i2l C.1 C.2.1 hd rfl (kk p e s m args below meth c C H ls locs hR hS hL)
theorem q_l2i {x : Int64} (hd : decode M.2.1 pc = .ok (.l2i, 1)) (kk : Wq g l M k w (pc + 1) lv (.int x.toInt32 :: st) h Q) : Wq g l M k w pc lv (.long x :: st) h Q := by
  intro p e s m args below meth c C H ls locs hR hS hL
  exact lv_l2i C.1 C.2.1 hd rfl (kk p e s m args below meth c C H ls locs hR hS hL)
theorem q_i2c {x : Int32} (hd : decode M.2.1 pc = .ok (.i2c, 1)) (kk : Wq g l M k w (pc + 1) lv (.int (x.toUInt32 % 65536).toInt32 :: st) h Q) : Wq g l M k w pc lv (.int x :: st) h Q := by
  intro p e s m args below meth c C H ls locs hR hS hL
  exact lv_i2c C.1 C.2.1 hd rfl (kk p e s m args below meth c C H ls locs hR hS hL)
theorem q_lcmp {x y : Int64} (hd : decode M.2.1 pc = .ok (.lcmp, 1)) (kk : Wq g l M k w (pc + 1) lv (.int (lg_cmp x y) :: st) h Q) : Wq g l M k w pc lv (.long y :: .long x :: st) h Q := by
  intro p e s m args below meth c C H ls locs hR hS hL
  exact W.lcmp C.1 C.2.1 hd (kk p e s m args below meth c C H ls locs hR hS hL)
theorem q_idiv {α : Type} {x y : Int32} {X : Option α} {o : α} (hB : gd (decide (¬ y = 0)) X = some o) (hd : decode M.2.1 pc = .ok (.idiv, 1)) (kk : X = some o → Wq g l M k w (pc + 1) lv (.int (x / y) :: st) h Q) : Wq g l M k w pc lv (.int y :: .int x :: st) h Q := by
  intro p e s m args below meth c C H ls locs hR hS hL
  obtain ⟨h1, h2⟩ := gd_some hB
  exact lv_idiv C.1 C.2.1 hd (of_decide_eq_true h1) (kk h2 p e s m args below meth c C H ls locs hR hS hL)
theorem q_irem {α : Type} {x y : Int32} {X : Option α} {o : α} (hB : gd (decide (¬ y = 0)) X = some o) (hd : decode M.2.1 pc = .ok (.irem, 1)) (kk : X = some o → Wq g l M k w (pc + 1) lv (.int (x - x / y * y) :: st) h Q) : Wq g l M k w pc lv (.int y :: .int x :: st) h Q := by
  intro p e s m args below meth c C H ls locs hR hS hL
  obtain ⟨h1, h2⟩ := gd_some hB
  exact lv_irem C.1 C.2.1 hd (of_decide_eq_true h1) (kk h2 p e s m args below meth c C H ls locs hR hS hL)
theorem q_ldiv {α : Type} {x y : Int64} {X : Option α} {o : α} (hB : gd (decide (¬ y = 0)) X = some o) (hd : decode M.2.1 pc = .ok (.ldiv, 1)) (kk : X = some o → Wq g l M k w (pc + 1) lv (.long (x / y) :: st) h Q) : Wq g l M k w pc lv (.long y :: .long x :: st) h Q := by
  intro p e s m args below meth c C H ls locs hR hS hL
  obtain ⟨h1, h2⟩ := gd_some hB
  exact lv_ldiv C.1 C.2.1 hd (of_decide_eq_true h1) (kk h2 p e s m args below meth c C H ls locs hR hS hL)
theorem q_lrem {α : Type} {x y : Int64} {X : Option α} {o : α} (hB : gd (decide (¬ y = 0)) X = some o) (hd : decode M.2.1 pc = .ok (.lrem, 1)) (kk : X = some o → Wq g l M k w (pc + 1) lv (.long (x - x / y * y) :: st) h Q) : Wq g l M k w pc lv (.long y :: .long x :: st) h Q := by
  intro p e s m args below meth c C H ls locs hR hS hL
  obtain ⟨h1, h2⟩ := gd_some hB
  exact lv_lrem C.1 C.2.1 hd (of_decide_eq_true h1) (kk h2 p e s m args below meth c C H ls locs hR hS hL)
theorem q_dup {v : Value} (hd : decode M.2.1 pc = .ok (.dup, 1)) (hc : v.category = 1) (kk : Wq g l M k w (pc + 1) lv (v :: v :: st) h Q) : Wq g l M k w pc lv (v :: st) h Q := by
  intro p e s m args below meth c C H ls locs hR hS hL
  exact lv_dup C.1 C.2.1 hd (by rw [tv_cat]; exact hc) (kk p e s m args below meth c C H ls locs hR hS hL)
theorem q_dup2 {v u : Value} (hd : decode M.2.1 pc = .ok (.dup2, 1)) (hc : v.category = 1) (hc2 : u.category = 1) (kk : Wq g l M k w (pc + 1) lv (v :: u :: v :: u :: st) h Q) : Wq g l M k w pc lv (v :: u :: st) h Q := by
  intro p e s m args below meth c C H ls locs hR hS hL
  exact lv_dup2_11 C.1 C.2.1 hd (by rw [tv_cat]; exact hc) (by rw [tv_cat]; exact hc2) (kk p e s m args below meth c C H ls locs hR hS hL)
theorem q_pop {v : Value} (hd : decode M.2.1 pc = .ok (.pop, 1)) (hc : v.category = 1) (kk : Wq g l M k w (pc + 1) lv st h Q) : Wq g l M k w pc lv (v :: st) h Q := by
  intro p e s m args below meth c C H ls locs hR hS hL
  exact lv_pop C.1 C.2.1 hd (by rw [tv_cat]; exact hc) (kk p e s m args below meth c C H ls locs hR hS hL)
theorem q_goto {off : Int} {tgt : Nat} (hd : decode M.2.1 pc = .ok (.goto off, 3)) (ht : (pc : Int) + off = (tgt : Int)) (kk : Wq g l M k w tgt lv st h Q) : Wq g l M k w pc lv st h Q := by
  intro p e s m args below meth c C H ls locs hR hS hL
  exact lv_goto C.1 C.2.1 hd ht (kk p e s m args below meth c C H ls locs hR hS hL)
theorem q_if_eq {α : Type} {x : Int32} {off : Int} {tgt : Nat} {A B : Option α} {o : α} (hB : (if x = 0 then A else B) = some o) (hd : decode M.2.1 pc = .ok (.ifCond .eq off, 3)) (ht : (pc : Int) + off = (tgt : Int)) (kt : A = some o → Wq g l M k w tgt lv st h Q) (kf : B = some o → Wq g l M k w (pc + 3) lv st h Q) : Wq g l M k w pc lv (.int x :: st) h Q := by
  intro p e s m args below meth c C H ls locs hR hS hL
  exact lv_if_eq C.1 C.2.1 hd ht (fun cc => kt (by rw [if_pos cc] at hB; exact hB) p e s m args below meth c C H ls locs hR hS hL) (fun cc => kf (by rw [if_neg cc] at hB; exact hB) p e s m args below meth c C H ls locs hR hS hL)
theorem q_icmp_eq {α : Type} {x y : Int32} {off : Int} {tgt : Nat} {A B : Option α} {o : α} (hB : (if x = y then A else B) = some o) (hd : decode M.2.1 pc = .ok (.if_icmp .eq off, 3)) (ht : (pc : Int) + off = (tgt : Int)) (kt : A = some o → Wq g l M k w tgt lv st h Q) (kf : B = some o → Wq g l M k w (pc + 3) lv st h Q) : Wq g l M k w pc lv (.int y :: .int x :: st) h Q := by
  intro p e s m args below meth c C H ls locs hR hS hL
  exact lv_icmp_eq C.1 C.2.1 hd ht (fun cc => kt (by rw [if_pos cc] at hB; exact hB) p e s m args below meth c C H ls locs hR hS hL) (fun cc => kf (by rw [if_neg cc] at hB; exact hB) p e s m args below meth c C H ls locs hR hS hL)
theorem q_if_lt {α : Type} {x : Int32} {off : Int} {tgt : Nat} {A B : Option α} {o : α} (hB : (if x < 0 then A else B) = some o) (hd : decode M.2.1 pc = .ok (.ifCond .lt off, 3)) (ht : (pc : Int) + off = (tgt : Int)) (kt : A = some o → Wq g l M k w tgt lv st h Q) (kf : B = some o → Wq g l M k w (pc + 3) lv st h Q) : Wq g l M k w pc lv (.int x :: st) h Q := by
  intro p e s m args below meth c C H ls locs hR hS hL
  exact lv_if_lt C.1 C.2.1 hd ht (fun cc => kt (by rw [if_pos cc] at hB; exact hB) p e s m args below meth c C H ls locs hR hS hL) (fun cc => kf (by rw [if_neg cc] at hB; exact hB) p e s m args below meth c C H ls locs hR hS hL)
theorem q_icmp_lt {α : Type} {x y : Int32} {off : Int} {tgt : Nat} {A B : Option α} {o : α} (hB : (if x < y then A else B) = some o) (hd : decode M.2.1 pc = .ok (.if_icmp .lt off, 3)) (ht : (pc : Int) + off = (tgt : Int)) (kt : A = some o → Wq g l M k w tgt lv st h Q) (kf : B = some o → Wq g l M k w (pc + 3) lv st h Q) : Wq g l M k w pc lv (.int y :: .int x :: st) h Q := by
  intro p e s m args below meth c C H ls locs hR hS hL
  exact lv_icmp_lt C.1 C.2.1 hd ht (fun cc => kt (by rw [if_pos cc] at hB; exact hB) p e s m args below meth c C H ls locs hR hS hL) (fun cc => kf (by rw [if_neg cc] at hB; exact hB) p e s m args below meth c C H ls locs hR hS hL)
theorem q_if_ge {α : Type} {x : Int32} {off : Int} {tgt : Nat} {A B : Option α} {o : α} (hB : (if 0 ≤ x then A else B) = some o) (hd : decode M.2.1 pc = .ok (.ifCond .ge off, 3)) (ht : (pc : Int) + off = (tgt : Int)) (kt : A = some o → Wq g l M k w tgt lv st h Q) (kf : B = some o → Wq g l M k w (pc + 3) lv st h Q) : Wq g l M k w pc lv (.int x :: st) h Q := by
  intro p e s m args below meth c C H ls locs hR hS hL
  exact lv_if_ge C.1 C.2.1 hd ht (fun cc => kt (by rw [if_pos cc] at hB; exact hB) p e s m args below meth c C H ls locs hR hS hL) (fun cc => kf (by rw [if_neg cc] at hB; exact hB) p e s m args below meth c C H ls locs hR hS hL)
theorem q_icmp_ge {α : Type} {x y : Int32} {off : Int} {tgt : Nat} {A B : Option α} {o : α} (hB : (if y ≤ x then A else B) = some o) (hd : decode M.2.1 pc = .ok (.if_icmp .ge off, 3)) (ht : (pc : Int) + off = (tgt : Int)) (kt : A = some o → Wq g l M k w tgt lv st h Q) (kf : B = some o → Wq g l M k w (pc + 3) lv st h Q) : Wq g l M k w pc lv (.int y :: .int x :: st) h Q := by
  intro p e s m args below meth c C H ls locs hR hS hL
  exact lv_icmp_ge C.1 C.2.1 hd ht (fun cc => kt (by rw [if_pos cc] at hB; exact hB) p e s m args below meth c C H ls locs hR hS hL) (fun cc => kf (by rw [if_neg cc] at hB; exact hB) p e s m args below meth c C H ls locs hR hS hL)
theorem q_if_gt {α : Type} {x : Int32} {off : Int} {tgt : Nat} {A B : Option α} {o : α} (hB : (if 0 < x then A else B) = some o) (hd : decode M.2.1 pc = .ok (.ifCond .gt off, 3)) (ht : (pc : Int) + off = (tgt : Int)) (kt : A = some o → Wq g l M k w tgt lv st h Q) (kf : B = some o → Wq g l M k w (pc + 3) lv st h Q) : Wq g l M k w pc lv (.int x :: st) h Q := by
  intro p e s m args below meth c C H ls locs hR hS hL
  exact lv_if_gt C.1 C.2.1 hd ht (fun cc => kt (by rw [if_pos cc] at hB; exact hB) p e s m args below meth c C H ls locs hR hS hL) (fun cc => kf (by rw [if_neg cc] at hB; exact hB) p e s m args below meth c C H ls locs hR hS hL)
theorem q_icmp_gt {α : Type} {x y : Int32} {off : Int} {tgt : Nat} {A B : Option α} {o : α} (hB : (if y < x then A else B) = some o) (hd : decode M.2.1 pc = .ok (.if_icmp .gt off, 3)) (ht : (pc : Int) + off = (tgt : Int)) (kt : A = some o → Wq g l M k w tgt lv st h Q) (kf : B = some o → Wq g l M k w (pc + 3) lv st h Q) : Wq g l M k w pc lv (.int y :: .int x :: st) h Q := by
  intro p e s m args below meth c C H ls locs hR hS hL
  exact lv_icmp_gt C.1 C.2.1 hd ht (fun cc => kt (by rw [if_pos cc] at hB; exact hB) p e s m args below meth c C H ls locs hR hS hL) (fun cc => kf (by rw [if_neg cc] at hB; exact hB) p e s m args below meth c C H ls locs hR hS hL)
theorem q_if_le {α : Type} {x : Int32} {off : Int} {tgt : Nat} {A B : Option α} {o : α} (hB : (if x ≤ 0 then A else B) = some o) (hd : decode M.2.1 pc = .ok (.ifCond .le off, 3)) (ht : (pc : Int) + off = (tgt : Int)) (kt : A = some o → Wq g l M k w tgt lv st h Q) (kf : B = some o → Wq g l M k w (pc + 3) lv st h Q) : Wq g l M k w pc lv (.int x :: st) h Q := by
  intro p e s m args below meth c C H ls locs hR hS hL
  exact lv_if_le C.1 C.2.1 hd ht (fun cc => kt (by rw [if_pos cc] at hB; exact hB) p e s m args below meth c C H ls locs hR hS hL) (fun cc => kf (by rw [if_neg cc] at hB; exact hB) p e s m args below meth c C H ls locs hR hS hL)
theorem q_icmp_le {α : Type} {x y : Int32} {off : Int} {tgt : Nat} {A B : Option α} {o : α} (hB : (if x ≤ y then A else B) = some o) (hd : decode M.2.1 pc = .ok (.if_icmp .le off, 3)) (ht : (pc : Int) + off = (tgt : Int)) (kt : A = some o → Wq g l M k w tgt lv st h Q) (kf : B = some o → Wq g l M k w (pc + 3) lv st h Q) : Wq g l M k w pc lv (.int y :: .int x :: st) h Q := by
  intro p e s m args below meth c C H ls locs hR hS hL
  exact lv_icmp_le C.1 C.2.1 hd ht (fun cc => kt (by rw [if_pos cc] at hB; exact hB) p e s m args below meth c C H ls locs hR hS hL) (fun cc => kf (by rw [if_neg cc] at hB; exact hB) p e s m args below meth c C H ls locs hR hS hL)
theorem q_if_ne {α : Type} {x : Int32} {off : Int} {tgt : Nat} {A B : Option α} {o : α} (hB : (if x = 0 then B else A) = some o) (hd : decode M.2.1 pc = .ok (.ifCond .ne off, 3)) (ht : (pc : Int) + off = (tgt : Int)) (kt : A = some o → Wq g l M k w tgt lv st h Q) (kf : B = some o → Wq g l M k w (pc + 3) lv st h Q) : Wq g l M k w pc lv (.int x :: st) h Q := by
  intro p e s m args below meth c C H ls locs hR hS hL
  exact lv_if_ne C.1 C.2.1 hd ht (fun cc => kt (by rw [if_neg cc] at hB; exact hB) p e s m args below meth c C H ls locs hR hS hL) (fun cc => kf (by rw [if_pos cc] at hB; exact hB) p e s m args below meth c C H ls locs hR hS hL)
theorem q_icmp_ne {α : Type} {x y : Int32} {off : Int} {tgt : Nat} {A B : Option α} {o : α} (hB : (if x = y then B else A) = some o) (hd : decode M.2.1 pc = .ok (.if_icmp .ne off, 3)) (ht : (pc : Int) + off = (tgt : Int)) (kt : A = some o → Wq g l M k w tgt lv st h Q) (kf : B = some o → Wq g l M k w (pc + 3) lv st h Q) : Wq g l M k w pc lv (.int y :: .int x :: st) h Q := by
  intro p e s m args below meth c C H ls locs hR hS hL
  exact lv_icmp_ne C.1 C.2.1 hd ht (fun cc => kt (by rw [if_neg cc] at hB; exact hB) p e s m args below meth c C H ls locs hR hS hL) (fun cc => kf (by rw [if_pos cc] at hB; exact hB) p e s m args below meth c C H ls locs hR hS hL)
end RW
end
section
/-! ROWS on the heap: fields, arrays, new cells, constants, calls, returns -/
/-- what the tables say of a class of vwCl -/
def FC (ci : Nat) (C : String) (T : u_T) (N : Nat) : Prop := ci < 9 ∧ nf ci = N ∧ vwCl[ci]? = some (C, T, N) ∧ (∀ w ∈ u_ws C T N, w ∈ gtbl) ∧ (∀ k, k < N → parseFieldDescriptor (T k).2.2.1 = some (fty ci k)) ∧ (∀ a, a < N → ∀ b, b < N → a ≠ b → (T a).2.1 ≠ (T b).2.1)
def isR (ty : FieldType) : Bool := match ty with
  | .object _ => true
  | .array _ => true
  | _ => false
theorem fl_get {g : GG} {h : HS} {n ci k : Nat} (hk : k < nf ci) : (fl g h n ci)[k]? = some (fv g h n k (fty ci k)) := by simp [fl, hk]
theorem fl_len {g : GG} {h : HS} {n ci : Nat} : (fl g h n ci).length = nf ci := by simp [fl]
theorem fv_congr {g : GG} {h h' : HS} {n k : Nat} {ty : FieldType} (h1 : hI h' n k = hI h n k) (h2 : hJ h' n k = hJ h n k) (h3 : hP h' n k = hP h n k) : fv g h' n k ty = fv g h n k ty := by
  unfold fv
  rw [h1, h2, h3]
theorem fl_set {g : GG} {h h' : HS} {n ci k : Nat} {v : Value} (hk : k < nf ci) (e1 : fv g h' n k (fty ci k) = v) (e2 : ∀ j, j ≠ k → fv g h' n j (fty ci j) = fv g h n j (fty ci j)) : fl g h' n ci = (fl g h n ci).set k v := by
  refine List.ext_getElem? (fun i => ?_)
  by_cases hi : i < nf ci
  · rw [fl_get hi]
    by_cases hik : i = k
    · subst hik
      rw [List.getElem?_set_self (by rw [fl_len]; exact hi), e1]
    · rw [List.getElem?_set_ne (Ne.symm hik), fl_get hi, e2 i hik]
  · rw [List.getElem?_eq_none (by rw [fl_len]; omega), List.getElem?_eq_none (by rw [List.length_set, fl_len]; omega)]
theorem fv_R {g : GG} {h : HS} {n k : Nat} {ty : FieldType} (ht : isR ty = true) : fv g h n k ty = va_rf ((hP h n k).map (ga g)) := by
  cases ty <;> first | rfl | cases ht
theorem fv_I {g : GG} {h : HS} {n k : Nat} {ty : FieldType} (ht : ty = .int) : fv g h n k ty = .int (hI h n k) := by subst ht; rfl
theorem fv_J {g : GG} {h : HS} {n k : Nat} {ty : FieldType} (ht : ty = .long) : fv g h n k ty = .long (hJ h n k) := by subst ht; rfl
theorem sI_at {h : HS} {n k : Nat} {x : Int32} : hI (sI h n k x) n k = x := by simp [hI, sI, up2]
theorem sJ_at {h : HS} {n k : Nat} {x : Int64} : hJ (sJ h n k x) n k = x := by simp [hJ, sJ, up2]
theorem sP_at {h : HS} {n k : Nat} {x : Option Nat} : hP (sP h n k x) n k = x := by simp [hP, sP, up2]
theorem sI_ne {h : HS} {n k j : Nat} {x : Int32} (hj : j ≠ k) : hI (sI h n k x) n j = hI h n j := by simp [hI, sI, up2, hj]
theorem sJ_ne {h : HS} {n k j : Nat} {x : Int64} (hj : j ≠ k) : hJ (sJ h n k x) n j = hJ h n j := by simp [hJ, sJ, up2, hj]
theorem sP_ne {h : HS} {n k j : Nat} {x : Option Nat} (hj : j ≠ k) : hP (sP h n k x) n j = hP h n j := by simp [hP, sP, up2, hj]
theorem ce_sI {g : GG} {h : HS} {n k m : Nat} {x : Int32} (hm : m ≠ n) : ce g (sI h n k x) m = ce g h m := ce_congr (up2_ne hm) rfl rfl
theorem ce_sJ {g : GG} {h : HS} {n k m : Nat} {x : Int64} (hm : m ≠ n) : ce g (sJ h n k x) m = ce g h m := ce_congr rfl (up2_ne hm) rfl
theorem ce_sP {g : GG} {h : HS} {n k m : Nat} {x : Option Nat} (hm : m ≠ n) : ce g (sP h n k x) m = ce g h m := ce_congr rfl rfl (up2_ne hm)
theorem ce_sR {g : GG} {h : HS} {n m : Nat} {f : Nat → Int32} (hm : m ≠ n) : ce g (sR h n f) m = ce g h m := ce_congr (by simp [hI, sR, hm]) rfl rfl
/-- the picture behind a write to one cell -/
theorem Rl.upd {g : GG} {h h' : HS} {H H1 : Heap} {n : Nat} (hR : Rl g h H) (hn : n < hN h) (hN' : hN h' = hN h) (he : va_at (gD g) vwCl (gz g + n, ce g h' n) H1) (ho : ∀ m, m ≠ n → ce g h' m = ce g h m) (hz : H1.size = H.size) (hq : ∀ q, q ≠ gz g + n → H1[q]? = H[q]?) : Rl g h' H1 := by
  refine ⟨by rw [hz, hR.1, hN'], by rw [hN']; exact hR.2.1, ?_⟩
  rw [← wl_set (h := h) hn hN' rfl ho]
  exact hR.2.2.set (wl_D g h) (wl_get hn) he hq
section RH
variable {g : GG} {l : Launch} {M : MD} {k w pc : Nat} {lv : List (Option Value)} {st : List Value} {h : HS} {Q : Option Value → HS → Prop}

theorem q_getI {α : Type} {ci j N ix : Nat} {Cn : String} {T : u_T} {r : Option Nat} {X : Nat → Option α} {o : α} (hB : nn r (fun n => gd (ck h n ci) (X n)) = some o) (hd : decode M.2.1 pc = .ok (.getfield ix, 3)) (fc : FC ci Cn T N) (hj : j < N) (hty : fty ci j = .int) (hl : Cond.fieldLink M.1.cls ix (T j).1 (T j).2.1 (T j).2.2.1 ∈ gtbl) (kk : ∀ n, X n = some o → Wq g l M k w (pc + 3) lv (.int (hI h n j) :: st) h Q) : Wq g l M k w pc lv (va_rf r :: st) h Q := by
  intro p e s m args below meth c C H ls locs hR hS hL
  obtain ⟨n, rfl, hb⟩ := nn_some hB
  obtain ⟨hc, hX⟩ := gd_some hb
  obtain ⟨hn, hk⟩ := ck_spec hc
  have hK := C.2.2.2.2.2.2.2.2.1
  show W _ _ _ _ _ _ _ _ _ _ _ _ _ _ _ (F0 m pc ls (.ref (ga g n) :: st.map (tv g)))
  rw [hR.ad hK hn]
  exact va_get C.1 C.2.1 C.2.2.2.2.2.2.2.1 fc.2.2.2.1 C.2.2.2.2.1 hK.2.1 hR.2.2 n (by rw [wl_get hn, ce_obj fc.1 hk]) fc.2.2.1 j hj (C.2.2.2.2.2.2.2.1 _ hl) (fun _ hx => hx) (by rw [fl_get (by rw [fc.2.1]; exact hj), fv_I hty]; rfl) hd (kk n hX p e s m args below meth c C H ls locs hR hS hL)
theorem q_getJ {α : Type} {ci j N ix : Nat} {Cn : String} {T : u_T} {r : Option Nat} {X : Nat → Option α} {o : α} (hB : nn r (fun n => gd (ck h n ci) (X n)) = some o) (hd : decode M.2.1 pc = .ok (.getfield ix, 3)) (fc : FC ci Cn T N) (hj : j < N) (hty : fty ci j = .long) (hl : Cond.fieldLink M.1.cls ix (T j).1 (T j).2.1 (T j).2.2.1 ∈ gtbl) (kk : ∀ n, X n = some o → Wq g l M k w (pc + 3) lv (.long (hJ h n j) :: st) h Q) : Wq g l M k w pc lv (va_rf r :: st) h Q := by
  intro p e s m args below meth c C H ls locs hR hS hL
  obtain ⟨n, rfl, hb⟩ := nn_some hB
  obtain ⟨hc, hX⟩ := gd_some hb
  obtain ⟨hn, hk⟩ := ck_spec hc
  have hK := C.2.2.2.2.2.2.2.2.1
  show W _ _ _ _ _ _ _ _ _ _ _ _ _ _ _ (F0 m pc ls (.ref (ga g n) :: st.map (tv g)))
  rw [hR.ad hK hn]
  exact va_get C.1 C.2.1 C.2.2.2.2.2.2.2.1 fc.2.2.2.1 C.2.2.2.2.1 hK.2.1 hR.2.2 n (by rw [wl_get hn, ce_obj fc.1 hk]) fc.2.2.1 j hj (C.2.2.2.2.2.2.2.1 _ hl) (fun _ hx => hx) (by rw [fl_get (by rw [fc.2.1]; exact hj), fv_J hty]; rfl) hd (kk n hX p e s m args below meth c C H ls locs hR hS hL)
theorem q_getP {α : Type} {ci j N ix : Nat} {Cn : String} {T : u_T} {r : Option Nat} {X : Nat → Option α} {o : α} (hB : nn r (fun n => gd (ck h n ci) (X n)) = some o) (hd : decode M.2.1 pc = .ok (.getfield ix, 3)) (fc : FC ci Cn T N) (hj : j < N) (hty : isR (fty ci j) = true) (hl : Cond.fieldLink M.1.cls ix (T j).1 (T j).2.1 (T j).2.2.1 ∈ gtbl) (kk : ∀ n, X n = some o → Wq g l M k w (pc + 3) lv (va_rf (hP h n j) :: st) h Q) : Wq g l M k w pc lv (va_rf r :: st) h Q := by
  intro p e s m args below meth c C H ls locs hR hS hL
  obtain ⟨n, rfl, hb⟩ := nn_some hB
  obtain ⟨hc, hX⟩ := gd_some hb
  obtain ⟨hn, hk⟩ := ck_spec hc
  have hK := C.2.2.2.2.2.2.2.2.1
  show W _ _ _ _ _ _ _ _ _ _ _ _ _ _ _ (F0 m pc ls (.ref (ga g n) :: st.map (tv g)))
  rw [hR.ad hK hn]
  exact va_get C.1 C.2.1 C.2.2.2.2.2.2.2.1 fc.2.2.2.1 C.2.2.2.2.1 hK.2.1 hR.2.2 n (by rw [wl_get hn, ce_obj fc.1 hk]) fc.2.2.1 j hj (C.2.2.2.2.2.2.2.1 _ hl) (fun _ hx => hx) (by rw [fl_get (by rw [fc.2.1]; exact hj), fv_R hty]) hd (by have h9 := kk n hX p e s m args below meth c C H ls locs hR hS hL; rw [List.map_cons, tv_rf] at h9; exact h9)
theorem q_putI {α : Type} {ci j N ix : Nat} {Cn : String} {T : u_T} {r : Option Nat} {X : Nat → Option α} {o : α} {x : Int32} (hB : nn r (fun n => gd (ck h n ci) (X n)) = some o) (hd : decode M.2.1 pc = .ok (.putfield ix, 3)) (fc : FC ci Cn T N) (hj : j < N) (hty : fty ci j = .int) (hl : Cond.fieldLink M.1.cls ix (T j).1 (T j).2.1 (T j).2.2.1 ∈ gtbl) (hfin : (T j).2.2.2 = false) (kk : ∀ n, X n = some o → Wq g l M k w (pc + 3) lv st (sI h n j x) Q) : Wq g l M k w pc lv (.int x :: va_rf r :: st) h Q := by
  intro p e s m args below meth c C H ls locs hR hS hL
  obtain ⟨n, rfl, hb⟩ := nn_some hB
  obtain ⟨hc, hX⟩ := gd_some hb
  obtain ⟨hn, hk⟩ := ck_spec hc
  have hK := C.2.2.2.2.2.2.2.2.1
  have hts := C.2.2.2.2.2.2.2.1
  have hj9 : j < nf ci := by rw [fc.2.1]; exact hj
  have hd9 := fc.2.2.2.2.1 j hj
  have hap := va_apart (own := M.1.cls) hts fc.2.2.2.1 (fty ci) fc.2.2.2.2.1 fc.2.2.2.2.2 hK.2.1 fc.2.2.1
  obtain ⟨r', h1, cell, q1, q2, q3, q4⟩ := hR.2.2 n _ (by rw [wl_get hn, ce_obj fc.1 hk])
  have hr : r' = (Cn, T, N) := Option.some.inj (h1.symm.trans fc.2.2.1)
  subst hr
  obtain ⟨hSl, hfc, kC, hkC, hkind⟩ := hK.2.1.1 ci _ fc.2.2.1
  obtain ⟨cf, kf, fi, f, hi, hsl⟩ := hSl j hj
  have hlay := hts _ (fc.2.2.2.1 _ (u_in_lay hj))
  unfold u_lay at hlay
  have hst := (u_facts hfc hkC (u_lays hts fc.2.2.2.1 hj) hi).1
  show W _ _ _ _ _ _ _ _ _ _ _ _ _ _ _ (F0 m pc ls (.int x :: .ref (ga g n) :: st.map (tv g)))
  rw [hR.ad hK hn]
  rw [if_neg (by rw [hfin]; decide)] at hlay
  refine W.putK C.1 C.2.1 (f := f) ⟨C.2.2.2.2.1, hts _ hl, ⟨_, _, _, hi⟩, hst⟩ (by rw [q2]; exact u_store hfc hkC hkind hlay hi hd9 (by rw [hty]; rfl) (by rw [hty]; rfl)) q1 q3 (by rw [hsl]; exact k2_hasslot (q4 j hj)) rfl rfl hd fun H1 e1 e2 e3 => ?_
  rw [hsl] at e1 ⊢
  refine kk n hX p e s m args below meth c C H1 ls _ (hR.upd (h' := sI h n j x) hn rfl ?_ (fun i hi => ce_sI hi) e2 e3) (hS.put e2 e3 (Nat.le_add_right _ _)) hL
  rw [ce_obj fc.1 hk, fl_set (h := h) (h' := sI h n j x) (v := .int x) hj9 (by rw [fv_I hty, sI_at]) (fun i hi => fv_congr (sI_ne hi) rfl rfl)]
  exact ⟨_, fc.2.2.1, t_OB.to (V := updV (vp_V (fl g h n ci)) j (.int x)) ⟨_, e1, q2, q3, t_set q4 hap hj _⟩ (fun i _ => vp_updV_set (by rw [fl_len]; exact hj9) _ i)⟩
theorem q_putJ {α : Type} {ci j N ix : Nat} {Cn : String} {T : u_T} {r : Option Nat} {X : Nat → Option α} {o : α} {x : Int64} (hB : nn r (fun n => gd (ck h n ci) (X n)) = some o) (hd : decode M.2.1 pc = .ok (.putfield ix, 3)) (fc : FC ci Cn T N) (hj : j < N) (hty : fty ci j = .long) (hl : Cond.fieldLink M.1.cls ix (T j).1 (T j).2.1 (T j).2.2.1 ∈ gtbl) (hfin : (T j).2.2.2 = false) (kk : ∀ n, X n = some o → Wq g l M k w (pc + 3) lv st (sJ h n j x) Q) : Wq g l M k w pc lv (.long x :: va_rf r :: st) h Q := by
  intro p e s m args below meth c C H ls locs hR hS hL
  obtain ⟨n, rfl, hb⟩ := nn_some hB
  obtain ⟨hc, hX⟩ := gd_some hb
  obtain ⟨hn, hk⟩ := ck_spec hc
  have hK := C.2.2.2.2.2.2.2.2.1
  have hts := C.2.2.2.2.2.2.2.1
  have hj9 : j < nf ci := by rw [fc.2.1]; exact hj
  have hd9 := fc.2.2.2.2.1 j hj
  have hap := va_apart (own := M.1.cls) hts fc.2.2.2.1 (fty ci) fc.2.2.2.2.1 fc.2.2.2.2.2 hK.2.1 fc.2.2.1
  obtain ⟨r', h1, cell, q1, q2, q3, q4⟩ := hR.2.2 n _ (by rw [wl_get hn, ce_obj fc.1 hk])
  have hr : r' = (Cn, T, N) := Option.some.inj (h1.symm.trans fc.2.2.1)
  subst hr
  obtain ⟨hSl, hfc, kC, hkC, hkind⟩ := hK.2.1.1 ci _ fc.2.2.1
  obtain ⟨cf, kf, fi, f, hi, hsl⟩ := hSl j hj
  have hlay := hts _ (fc.2.2.2.1 _ (u_in_lay hj))
  unfold u_lay at hlay
  have hst := (u_facts hfc hkC (u_lays hts fc.2.2.2.1 hj) hi).1
  show W _ _ _ _ _ _ _ _ _ _ _ _ _ _ _ (F0 m pc ls (.long x :: .ref (ga g n) :: st.map (tv g)))
  rw [hR.ad hK hn]
  rw [if_neg (by rw [hfin]; decide)] at hlay
  refine W.putK C.1 C.2.1 (f := f) ⟨C.2.2.2.2.1, hts _ hl, ⟨_, _, _, hi⟩, hst⟩ (by rw [q2]; exact u_store hfc hkC hkind hlay hi hd9 (by rw [hty]; rfl) (by rw [hty]; rfl)) q1 q3 (by rw [hsl]; exact k2_hasslot (q4 j hj)) rfl rfl hd fun H1 e1 e2 e3 => ?_
  rw [hsl] at e1 ⊢
  refine kk n hX p e s m args below meth c C H1 ls _ (hR.upd (h' := sJ h n j x) hn rfl ?_ (fun i hi => ce_sJ hi) e2 e3) (hS.put e2 e3 (Nat.le_add_right _ _)) hL
  rw [ce_obj fc.1 hk, fl_set (h := h) (h' := sJ h n j x) (v := .long x) hj9 (by rw [fv_J hty, sJ_at]) (fun i hi => fv_congr rfl (sJ_ne hi) rfl)]
  exact ⟨_, fc.2.2.1, t_OB.to (V := updV (vp_V (fl g h n ci)) j (.long x)) ⟨_, e1, q2, q3, t_set q4 hap hj _⟩ (fun i _ => vp_updV_set (by rw [fl_len]; exact hj9) _ i)⟩
theorem q_putP {α : Type} {ci j N ix : Nat} {Cn : String} {T : u_T} {r : Option Nat} {X : Nat → Option α} {o : α} {x : Option Nat} (hB : nn r (fun n => gd (ck h n ci) (X n)) = some o) (hd : decode M.2.1 pc = .ok (.putfield ix, 3)) (fc : FC ci Cn T N) (hj : j < N) (hty : isR (fty ci j) = true) (hl : Cond.fieldLink M.1.cls ix (T j).1 (T j).2.1 (T j).2.2.1 ∈ gtbl) (hfin : (T j).2.2.2 = false) (kk : ∀ n, X n = some o → Wq g l M k w (pc + 3) lv st (sP h n j x) Q) : Wq g l M k w pc lv (va_rf x :: va_rf r :: st) h Q := by
  intro p e s m args below meth c C H ls locs hR hS hL
  obtain ⟨n, rfl, hb⟩ := nn_some hB
  obtain ⟨hc, hX⟩ := gd_some hb
  obtain ⟨hn, hk⟩ := ck_spec hc
  have hK := C.2.2.2.2.2.2.2.2.1
  have hts := C.2.2.2.2.2.2.2.1
  have hj9 : j < nf ci := by rw [fc.2.1]; exact hj
  have hd9 := fc.2.2.2.2.1 j hj
  have hap := va_apart (own := M.1.cls) hts fc.2.2.2.1 (fty ci) fc.2.2.2.2.1 fc.2.2.2.2.2 hK.2.1 fc.2.2.1
  obtain ⟨r', h1, cell, q1, q2, q3, q4⟩ := hR.2.2 n _ (by rw [wl_get hn, ce_obj fc.1 hk])
  have hr : r' = (Cn, T, N) := Option.some.inj (h1.symm.trans fc.2.2.1)
  subst hr
  obtain ⟨hSl, hfc, kC, hkC, hkind⟩ := hK.2.1.1 ci _ fc.2.2.1
  obtain ⟨cf, kf, fi, f, hi, hsl⟩ := hSl j hj
  have hlay := hts _ (fc.2.2.2.1 _ (u_in_lay hj))
  unfold u_lay at hlay
  have hst := (u_facts hfc hkC (u_lays hts fc.2.2.2.1 hj) hi).1
  show W _ _ _ _ _ _ _ _ _ _ _ _ _ _ _ (F0 m pc ls (tv g (va_rf x) :: .ref (ga g n) :: st.map (tv g)))
  rw [hR.ad hK hn, tv_rf]
  rw [if_neg (by rw [hfin]; decide)] at hlay
  refine W.putK C.1 C.2.1 (f := f) ⟨C.2.2.2.2.1, hts _ hl, ⟨_, _, _, hi⟩, hst⟩ (by rw [q2]; exact u_store hfc hkC hkind hlay hi hd9 (by cases hty9 : fty ci j <;> rw [hty9] at hty <;> first | (cases hty; done) | rfl) (by cases hty9 : fty ci j <;> rw [hty9] at hty <;> first | (cases hty; done) | (cases x <;> rfl))) q1 q3 (by rw [hsl]; exact k2_hasslot (q4 j hj)) rfl rfl hd fun H1 e1 e2 e3 => ?_
  rw [hsl] at e1 ⊢
  refine kk n hX p e s m args below meth c C H1 ls _ (hR.upd (h' := sP h n j x) hn rfl ?_ (fun i hi => ce_sP hi) e2 e3) (hS.put e2 e3 (Nat.le_add_right _ _)) hL
  rw [ce_obj fc.1 hk, fl_set (h := h) (h' := sP h n j x) (v := va_rf (x.map (ga g))) hj9 (by rw [fv_R hty, sP_at]) (fun i hi => fv_congr rfl rfl (sP_ne hi))]
  exact ⟨_, fc.2.2.1, t_OB.to (V := updV (vp_V (fl g h n ci)) j (va_rf (x.map (ga g)))) ⟨_, e1, q2, q3, t_set q4 hap hj _⟩ (fun i _ => vp_updV_set (by rw [fl_len]; exact hj9) _ i)⟩
theorem q_putPF {α : Type} {ci j N ix : Nat} {Cn : String} {T : u_T} {r : Option Nat} {X : Nat → Option α} {o : α} {x : Option Nat} (hB : nn r (fun n => gd (ck h n ci) (X n)) = some o) (hd : decode M.2.1 pc = .ok (.putfield ix, 3)) (fc : FC ci Cn T N) (hj : j < N) (hty : isR (fty ci j) = true) (hl : Cond.fieldLink M.1.cls ix (T j).1 (T j).2.1 (T j).2.2.1 ∈ gtbl) (hfin : (T j).2.2.2 = true) (hini : M.1.name = "<init>") (hown : (T j).1 = M.1.cls) (kk : ∀ n, X n = some o → Wq g l M k w (pc + 3) lv st (sP h n j x) Q) : Wq g l M k w pc lv (va_rf x :: va_rf r :: st) h Q := by
  intro p e s m args below meth c C H ls locs hR hS hL
  obtain ⟨n, rfl, hb⟩ := nn_some hB
  obtain ⟨hc, hX⟩ := gd_some hb
  obtain ⟨hn, hk⟩ := ck_spec hc
  have hK := C.2.2.2.2.2.2.2.2.1
  have hts := C.2.2.2.2.2.2.2.1
  have hj9 : j < nf ci := by rw [fc.2.1]; exact hj
  have hd9 := fc.2.2.2.2.1 j hj
  have hap := va_apart (own := M.1.cls) hts fc.2.2.2.1 (fty ci) fc.2.2.2.2.1 fc.2.2.2.2.2 hK.2.1 fc.2.2.1
  obtain ⟨r', h1, cell, q1, q2, q3, q4⟩ := hR.2.2 n _ (by rw [wl_get hn, ce_obj fc.1 hk])
  have hr : r' = (Cn, T, N) := Option.some.inj (h1.symm.trans fc.2.2.1)
  subst hr
  obtain ⟨hSl, hfc, kC, hkC, hkind⟩ := hK.2.1.1 ci _ fc.2.2.1
  obtain ⟨cf, kf, fi, f, hi, hsl⟩ := hSl j hj
  have hlay := hts _ (fc.2.2.2.1 _ (u_in_lay hj))
  unfold u_lay at hlay
  have hst := (u_facts hfc hkC (u_lays hts fc.2.2.2.1 hj) hi).1
  show W _ _ _ _ _ _ _ _ _ _ _ _ _ _ _ (F0 m pc ls (tv g (va_rf x) :: .ref (ga g n) :: st.map (tv g)))
  rw [hR.ad hK hn, tv_rf]
  rw [if_pos hfin] at hlay
  have hcf : m.cls = cf := by
    obtain ⟨_, _, c', _, _, _, -, -, hf', -, -, -, hown2, -⟩ := Cond.laysFinal_spec hlay
    have e1 : c' = cf := by have := hi.symm.trans hf'; simp at this; exact this.1.symm
    rw [hown] at hown2
    rw [← e1]; exact Option.some.inj (C.2.2.2.2.1.symm.trans hown2)
  refine W.putFinK C.1 C.2.1 C.2.2.2.2.1 (hts _ hl) hi hst hcf (by rw [C.2.2.2.2.2.2.1]; exact hini) (by rw [q2]; exact u_fits hfc hkC hkind (Or.inr hlay) hi hd9 (by cases hty9 : fty ci j <;> rw [hty9] at hty <;> first | (cases hty; done) | rfl) (by cases hty9 : fty ci j <;> rw [hty9] at hty <;> first | (cases hty; done) | (cases x <;> rfl))) q1 q3 (by rw [hsl]; exact k2_hasslot (q4 j hj)) rfl rfl hd fun H1 e1 e2 e3 => ?_
  rw [hsl] at e1 ⊢
  refine kk n hX p e s m args below meth c C H1 ls _ (hR.upd (h' := sP h n j x) hn rfl ?_ (fun i hi => ce_sP hi) e2 e3) (hS.put e2 e3 (Nat.le_add_right _ _)) hL
  rw [ce_obj fc.1 hk, fl_set (h := h) (h' := sP h n j x) (v := va_rf (x.map (ga g))) hj9 (by rw [fv_R hty, sP_at]) (fun i hi => fv_congr rfl rfl (sP_ne hi))]
  exact ⟨_, fc.2.2.1, t_OB.to (V := updV (vp_V (fl g h n ci)) j (va_rf (x.map (ga g)))) ⟨_, e1, q2, q3, t_set q4 hap hj _⟩ (fun i _ => vp_updV_set (by rw [fl_len]; exact hj9) _ i)⟩
theorem q_iald {α : Type} {i : Int32} {r : Option Nat} {X : Nat → Option α} {o : α} (hB : nn r (fun n => gd (ca h n 9 i) (X n)) = some o) (hd : decode M.2.1 pc = .ok (.iaload, 1)) (kk : ∀ n, X n = some o → Wq g l M k w (pc + 1) lv (.int (hI h n i.toNatClampNeg) :: st) h Q) : Wq g l M k w pc lv (.int i :: va_rf r :: st) h Q := by
  intro p e s m args below meth c C H ls locs hR hS hL
  obtain ⟨n, rfl, hb⟩ := nn_some hB
  obtain ⟨hc, hX⟩ := gd_some hb
  obtain ⟨hn, hk, hin⟩ := ca_spec hc
  have hK := C.2.2.2.2.2.2.2.2.1
  show W _ _ _ _ _ _ _ _ _ _ _ _ _ _ _ (F0 m pc ls (.int i :: .ref (ga g n) :: st.map (tv g)))
  rw [hR.ad hK hn]
  exact va_iald C.1 C.2.1 hK.2.1 hR.2.2 n 0 (by rw [wl_get hn, ce_int hk]) rfl hin hd (kk n hX p e s m args below meth c C H ls locs hR hS hL)
theorem q_zald {α : Type} {i : Int32} {r : Option Nat} {X : Nat → Option α} {o : α} (hB : nn r (fun n => gd (ca h n 10 i) (X n)) = some o) (hd : decode M.2.1 pc = .ok (.baload, 1)) (kk : ∀ n, X n = some o → Wq g l M k w (pc + 1) lv (.int (hI h n i.toNatClampNeg) :: st) h Q) : Wq g l M k w pc lv (.int i :: va_rf r :: st) h Q := by
  intro p e s m args below meth c C H ls locs hR hS hL
  obtain ⟨n, rfl, hb⟩ := nn_some hB
  obtain ⟨hc, hX⟩ := gd_some hb
  obtain ⟨hn, hk, hin⟩ := ca_spec hc
  have hK := C.2.2.2.2.2.2.2.2.1
  show W _ _ _ _ _ _ _ _ _ _ _ _ _ _ _ (F0 m pc ls (.int i :: .ref (ga g n) :: st.map (tv g)))
  rw [hR.ad hK hn]
  exact va_zald C.1 C.2.1 hK.2.1 hR.2.2 n 1 (by rw [wl_get hn, ce_boo hk]) rfl hin hd (kk n hX p e s m args below meth c C H ls locs hR hS hL)
theorem q_aaldA {α : Type} {i : Int32} {r : Option Nat} {X : Nat → Option α} {o : α} (hB : nn r (fun n => gd (ca h n 11 i) (X n)) = some o) (hd : decode M.2.1 pc = .ok (.aaload, 1)) (kk : ∀ n, X n = some o → Wq g l M k w (pc + 1) lv (va_rf (hP h n i.toNatClampNeg) :: st) h Q) : Wq g l M k w pc lv (.int i :: va_rf r :: st) h Q := by
  intro p e s m args below meth c C H ls locs hR hS hL
  obtain ⟨n, rfl, hb⟩ := nn_some hB
  obtain ⟨hc, hX⟩ := gd_some hb
  obtain ⟨hn, hk, hin⟩ := ca_spec hc
  have hK := C.2.2.2.2.2.2.2.2.1
  show W _ _ _ _ _ _ _ _ _ _ _ _ _ _ _ (F0 m pc ls (.int i :: .ref (ga g n) :: st.map (tv g)))
  rw [hR.ad hK hn]
  have h9 := kk n hX p e s m args below meth c C H ls locs hR hS hL
  rw [List.map_cons, tv_rf] at h9
  exact va_aldq (C := RX0) C.1 C.2.1 hK.2.1 hR.2.2 n 2 (by rw [wl_get hn, ce_act hk]) rfl hin hd h9
theorem q_aaldE {α : Type} {i : Int32} {r : Option Nat} {X : Nat → Option α} {o : α} (hB : nn r (fun n => gd (ca h n 12 i) (X n)) = some o) (hd : decode M.2.1 pc = .ok (.aaload, 1)) (kk : ∀ n, X n = some o → Wq g l M k w (pc + 1) lv (va_rf (hP h n i.toNatClampNeg) :: st) h Q) : Wq g l M k w pc lv (.int i :: va_rf r :: st) h Q := by
  intro p e s m args below meth c C H ls locs hR hS hL
  obtain ⟨n, rfl, hb⟩ := nn_some hB
  obtain ⟨hc, hX⟩ := gd_some hb
  obtain ⟨hn, hk, hin⟩ := ca_spec hc
  have hK := C.2.2.2.2.2.2.2.2.1
  show W _ _ _ _ _ _ _ _ _ _ _ _ _ _ _ (F0 m pc ls (.int i :: .ref (ga g n) :: st.map (tv g)))
  rw [hR.ad hK hn]
  have h9 := kk n hX p e s m args below meth c C H ls locs hR hS hL
  rw [List.map_cons, tv_rf] at h9
  exact va_aldq (C := RX3) C.1 C.2.1 hK.2.1 hR.2.2 n 3 (by rw [wl_get hn, ce_ent hk]) rfl hin hd h9
theorem hI_sI_row {h : HS} {n j : Nat} {x : Int32} : hI (sI h n j x) n = upd (hI h n) j x := by
  funext q
  simp [hI, sI, up2, upd]
theorem q_iast {α : Type} {i x : Int32} {r : Option Nat} {X : Nat → Option α} {o : α} (hB : nn r (fun n => gd (ca h n 9 i) (X n)) = some o) (hd : decode M.2.1 pc = .ok (.iastore, 1)) (kk : ∀ n, X n = some o → Wq g l M k w (pc + 1) lv st (sI h n i.toNatClampNeg x) Q) : Wq g l M k w pc lv (.int x :: .int i :: va_rf r :: st) h Q := by
  intro p e s m args below meth c C H ls locs hR hS hL
  obtain ⟨n, rfl, hb⟩ := nn_some hB
  obtain ⟨hc, hX⟩ := gd_some hb
  obtain ⟨hn, hk, hin⟩ := ca_spec hc
  have hK := C.2.2.2.2.2.2.2.2.1
  show W _ _ _ _ _ _ _ _ _ _ _ _ _ _ _ (F0 m pc ls (.int x :: .int i :: .ref (ga g n) :: st.map (tv g)))
  rw [hR.ad hK hn]
  have hcell : H[gz g + n]? = some (vp_cell (gC g 0) (al n, .inl (hI h n))) := hR.2.2 n (gz g + n, .inl (gC g 0, al n, .inl (hI h n))) (by rw [wl_get hn, ce_int hk])
  refine W.iast C.1 C.2.1 hcell ((hK.2.1.2 0 _ rfl).1 (al n) (fun j => .int (hI h n j))) (fun q => by cases q) (by show ¬ (i < 0 ∨ (arrV _ _ _).slots.size ≤ _); rw [arrV_size]; exact hin) rfl rfl hd fun H1 e z oq => ?_
  refine kk n hX p _ s m args below meth c C H1 ls _ (hR.upd (h' := sI h n i.toNatClampNeg x) hn rfl ?_ (fun q hq => ce_sI hq) z oq) (hS.put z oq (Nat.le_add_right _ _)) hL
  rw [ce_int hk, hI_sI_row]
  show H1[gz g + n]? = some (vp_cell _ _)
  rw [e, vp_cell_i, vp_cell_i, arrV_store]
  congr 2
  funext q
  by_cases hq : q = i.toNatClampNeg
  · subst hq
    simp [updV, upd]
  · simp [updV, upd, hq]
theorem q_zast {α : Type} {i x : Int32} {r : Option Nat} {X : Nat → Option α} {o : α} (hB : nn r (fun n => gd (ca h n 10 i) (X n)) = some o) (hd : decode M.2.1 pc = .ok (.bastore, 1)) (kk : ∀ n, X n = some o → Wq g l M k w (pc + 1) lv st (sI h n i.toNatClampNeg (x &&& 1)) Q) : Wq g l M k w pc lv (.int x :: .int i :: va_rf r :: st) h Q := by
  intro p e s m args below meth c C H ls locs hR hS hL
  obtain ⟨n, rfl, hb⟩ := nn_some hB
  obtain ⟨hc, hX⟩ := gd_some hb
  obtain ⟨hn, hk, hin⟩ := ca_spec hc
  have hK := C.2.2.2.2.2.2.2.2.1
  show W _ _ _ _ _ _ _ _ _ _ _ _ _ _ _ (F0 m pc ls (.int x :: .int i :: .ref (ga g n) :: st.map (tv g)))
  rw [hR.ad hK hn]
  have hcell : H[gz g + n]? = some (vp_cell (gC g 1) (al n, .inl (hI h n))) := hR.2.2 n (gz g + n, .inl (gC g 1, al n, .inl (hI h n))) (by rw [wl_get hn, ce_boo hk])
  refine W.zast C.1 C.2.1 hcell ((hK.2.1.2 1 _ rfl).1 (al n) (fun j => .int (hI h n j))) (fun q => by cases q) (by show ¬ (i < 0 ∨ (arrV _ _ _).slots.size ≤ _); rw [arrV_size]; exact hin) rfl rfl hd fun H1 e z oq => ?_
  refine kk n hX p _ s m args below meth c C H1 ls _ (hR.upd (h' := sI h n i.toNatClampNeg (x &&& 1)) hn rfl ?_ (fun q hq => ce_sI hq) z oq) (hS.put z oq (Nat.le_add_right _ _)) hL
  rw [ce_boo hk, hI_sI_row]
  show H1[gz g + n]? = some (vp_cell _ _)
  rw [e, vp_cell_i, vp_cell_i, arrV_store]
  congr 2
  funext q
  by_cases hq : q = i.toNatClampNeg
  · subst hq
    simp [updV, upd, narrow]
  · simp [updV, upd, hq]
theorem aq_sP {g : GG} {h : HS} {n j : Nat} {x : Option Nat} : aq g (sP h n j x) n = va_up (aq g h n) j (x.map (ga g)) := by
  funext q
  by_cases hq : q = j
  · subst hq; simp [aq, hP, sP, up2, va_up]
  · simp [aq, hP, sP, up2, va_up, hq]
theorem q_aastA {α : Type} {i : Int32} {r rv : Option Nat} {X : Nat → Nat → Option α} {o : α} {T : u_T} {N : Nat} (hB : nn r (fun n => nn rv (fun v => gd (ca h n 11 i && ck h v 0) (X n v))) = some o) (hd : decode M.2.1 pc = .ok (.aastore, 1)) (fc : FC 0 RX0 T N) (kk : ∀ n v, X n v = some o → Wq g l M k w (pc + 1) lv st (sP h n i.toNatClampNeg (some v)) Q) : Wq g l M k w pc lv (va_rf rv :: .int i :: va_rf r :: st) h Q := by
  intro p e s m args below meth c C H ls locs hR hS hL
  obtain ⟨n, rfl, hb⟩ := nn_some hB
  obtain ⟨v, rfl, hb⟩ := nn_some hb
  obtain ⟨hc, hX⟩ := gd_some hb
  rw [Bool.and_eq_true] at hc
  obtain ⟨hn, hk, hin⟩ := ca_spec hc.1
  obtain ⟨hv, hkv⟩ := ck_spec hc.2
  have hK := C.2.2.2.2.2.2.2.2.1
  show W _ _ _ _ _ _ _ _ _ _ _ _ _ _ _ (F0 m pc ls (.ref (ga g v) :: .int i :: .ref (ga g n) :: st.map (tv g)))
  rw [hR.ad hK hn, hR.ad hK hv]
  have hlt : i.toNatClampNeg < al n := Nat.not_le.mp fun q => hin (Or.inr q)
  have h0 : ¬ i < 0 := fun q => hin (Or.inl q)
  obtain ⟨r', hr', cellV, g1, g2, g3, -⟩ := hR.2.2 v _ (by rw [wl_get hv, ce_obj fc.1 hkv])
  have hcls := (hK.2.1.1 0 _ fc.2.2.1).2
  obtain ⟨kA, comp, k1, k2, k3, -⟩ := (hK.2.1.2 2 _ rfl).2
  have hcomp : comp = (gD g).1 0 := Option.some.inj (k3.symm.trans hcls.1)
  subst hcomp
  obtain ⟨kC, hkC, -⟩ := hcls.2
  have hcell : H[gz g + n]? = some (vp_cell (gC g 2) (al n, .inr (.inr (.inr (.inr (aq g h n)))))) := hR.2.2 n (gz g + n, .inl (gC g 2, al n, .inr (.inr (.inr (.inr (aq g h n)))))) (by rw [wl_get hn, ce_act hk])
  refine W.aast C.1 C.2.1 hcell (fun q h => by cases h) (fun h => by cases h) k1 k2 rfl hkC ⟨h0, by show _ < (arrV _ _ _).slots.size; rw [arrV_size]; exact hlt⟩ g1 (fun q h => by rw [g3] at h; cases h) (by rw [g2]; exact hkC) (by rw [g2]; exact va_assign hcls) rfl rfl hd fun H1 e z oq => ?_
  refine kk n v hX p _ s m args below meth c C H1 ls _ (hR.upd (h' := sP h n i.toNatClampNeg (some v)) hn rfl ?_ (fun q hq => ce_sP hq) z oq) (hS.put z oq (Nat.le_add_right _ _)) hL
  rw [ce_act hk, aq_sP]
  show H1[gz g + n]? = some (vp_cell _ _)
  rw [e, vp_cell_q, vp_cell_q, arrV_store]
  congr 2
  funext q
  by_cases hq : q = i.toNatClampNeg
  · subst hq
    simp [updV, va_up, va_rf, hR.ad hK hv]
  · simp [updV, va_up, hq]
theorem q_aastE {α : Type} {i : Int32} {r rv : Option Nat} {X : Nat → Nat → Option α} {o : α} {T : u_T} {N : Nat} (hB : nn r (fun n => nn rv (fun v => gd (ca h n 12 i && ck h v 3) (X n v))) = some o) (hd : decode M.2.1 pc = .ok (.aastore, 1)) (fc : FC 3 RX3 T N) (kk : ∀ n v, X n v = some o → Wq g l M k w (pc + 1) lv st (sP h n i.toNatClampNeg (some v)) Q) : Wq g l M k w pc lv (va_rf rv :: .int i :: va_rf r :: st) h Q := by
  intro p e s m args below meth c C H ls locs hR hS hL
  obtain ⟨n, rfl, hb⟩ := nn_some hB
  obtain ⟨v, rfl, hb⟩ := nn_some hb
  obtain ⟨hc, hX⟩ := gd_some hb
  rw [Bool.and_eq_true] at hc
  obtain ⟨hn, hk, hin⟩ := ca_spec hc.1
  obtain ⟨hv, hkv⟩ := ck_spec hc.2
  have hK := C.2.2.2.2.2.2.2.2.1
  show W _ _ _ _ _ _ _ _ _ _ _ _ _ _ _ (F0 m pc ls (.ref (ga g v) :: .int i :: .ref (ga g n) :: st.map (tv g)))
  rw [hR.ad hK hn, hR.ad hK hv]
  have hlt : i.toNatClampNeg < al n := Nat.not_le.mp fun q => hin (Or.inr q)
  have h0 : ¬ i < 0 := fun q => hin (Or.inl q)
  obtain ⟨r', hr', cellV, g1, g2, g3, -⟩ := hR.2.2 v _ (by rw [wl_get hv, ce_obj fc.1 hkv])
  have hcls := (hK.2.1.1 3 _ fc.2.2.1).2
  obtain ⟨kA, comp, k1, k2, k3, -⟩ := (hK.2.1.2 3 _ rfl).2
  have hcomp : comp = (gD g).1 3 := Option.some.inj (k3.symm.trans hcls.1)
  subst hcomp
  obtain ⟨kC, hkC, -⟩ := hcls.2
  have hcell : H[gz g + n]? = some (vp_cell (gC g 3) (al n, .inr (.inr (.inr (.inr (aq g h n)))))) := hR.2.2 n (gz g + n, .inl (gC g 3, al n, .inr (.inr (.inr (.inr (aq g h n)))))) (by rw [wl_get hn, ce_ent hk])
  refine W.aast C.1 C.2.1 hcell (fun q h => by cases h) (fun h => by cases h) k1 k2 rfl hkC ⟨h0, by show _ < (arrV _ _ _).slots.size; rw [arrV_size]; exact hlt⟩ g1 (fun q h => by rw [g3] at h; cases h) (by rw [g2]; exact hkC) (by rw [g2]; exact va_assign hcls) rfl rfl hd fun H1 e z oq => ?_
  refine kk n v hX p _ s m args below meth c C H1 ls _ (hR.upd (h' := sP h n i.toNatClampNeg (some v)) hn rfl ?_ (fun q hq => ce_sP hq) z oq) (hS.put z oq (Nat.le_add_right _ _)) hL
  rw [ce_ent hk, aq_sP]
  show H1[gz g + n]? = some (vp_cell _ _)
  rw [e, vp_cell_q, vp_cell_q, arrV_store]
  congr 2
  funext q
  by_cases hq : q = i.toNatClampNeg
  · subst hq
    simp [updV, va_up, va_rf, hR.ad hK hv]
  · simp [updV, va_up, hq]
end RH
end
section
/-! ROWS: new cells, copies, constants, switches, returns, calls -/
theorem hN_nw {h : HS} : hN (nw h) = hN h + 1 := rfl
theorem ce_nw {g : GG} {h : HS} {n : Nat} (hn : n ≠ hN h) : ce g (nw h) n = ce g h n := ce_congr (by simp [hI, nw, hn]) (by simp [hJ, nw, hn]) (by simp [hP, nw, hn])
theorem wl_nw {g : GG} {h : HS} : wl g (nw h) = wl g h ++ [(gz g + hN h, ce g (nw h) (hN h))] := by
  unfold wl
  rw [hN_nw, List.range_succ, List.map_append]
  congr 1
  refine List.map_congr_left (fun n hn => ?_)
  rw [ce_nw (Nat.ne_of_lt (List.mem_range.mp hn))]
/-- the picture behind a new cell -/
theorem Rl.new {g : GG} {h : HS} {H H1 : Heap} (hR : Rl g h H) (hn : hN h < 1000) (he : va_at (gD g) vwCl (gz g + hN h, ce g (nw h) (hN h)) H1) (hz : H1.size = H.size + 1) (hq : ∀ q, q < H.size → H1[q]? = H[q]?) : Rl g (nw h) H1 := by
  refine ⟨by rw [hz, hR.1, hN_nw]; omega, by rw [hN_nw]; omega, ?_⟩
  rw [wl_nw]
  refine (hR.2.2.kept (fun k x hx => hq x.1 ((hR.2.2 k x hx).lt))).app (fun k x hx => ?_)
  have hk : k < 1 := (List.getElem?_eq_some_iff.mp hx).1
  rw [show k = 0 by omega] at hx
  cases hx
  exact he
theorem va_S.new {A : Nat → Prop} {H0 H H1 : Heap} {locs : List Loc} (h : va_S A H0 H locs) (hz : H1.size = H.size + 1) (hq : ∀ q, q < H.size → H1[q]? = H[q]?) : va_S A H0 H1 locs := ⟨Nat.le_trans h.1 (by omega), fun x h1 h2 => (hq x (Nat.lt_of_lt_of_le h1 h.1)).trans (h.2.1 x h1 h2), h.2.2⟩
def okT (ty : FieldType) : Bool := match ty with
  | .float => false
  | .double => false
  | _ => true
theorem fv_nw {g : GG} {h : HS} {k : Nat} {ty : FieldType} (hty : okT ty = true) : defaultValue ty = fv g (nw h) (hN h) k ty := by
  cases ty <;> first | (cases hty; done) | simp [fv, nw, hI, hJ, hP, defaultValue, va_rf]
/-- the place of a new cell -/
def cn (h : HS) (ci : Nat) : Bool := decide (hN h < 1000) && kd (hN h) == ci
theorem cn_spec {h : HS} {ci : Nat} (hc : cn h ci = true) : hN h < 1000 ∧ kd (hN h) = ci := by
  simp only [cn, Bool.and_eq_true, decide_eq_true_eq, beq_iff_eq] at hc
  exact hc
section RN
variable {g : GG} {l : Launch} {M : MD} {k w pc : Nat} {lv : List (Option Value)} {st : List Value} {h : HS} {Q : Option Value → HS → Prop}
theorem q_new {α : Type} {ci N ix : Nat} {Cn : String} {T : u_T} {X : Option α} {o : α} (hB : gd (cn h ci) X = some o) (hd : decode M.2.1 pc = .ok (.new ix, 3)) (fc : FC ci Cn T N) (hok : ∀ j, j < N → okT (fty ci j) = true) (hl : Cond.classLink M.1.cls ix Cn ∈ gtbl) (hin : Cond.instantiable Cn N ∈ gtbl) (hi : Cond.initialized Cn ∈ gtbl) (hk : k + 1 ≤ M.2.2.2.2.cells) (hw : w + N ≤ M.2.2.2.2.slots) (kk : X = some o → Wq g l M (k + 1) (w + N) (pc + 3) lv (va_rf (some (hN h)) :: st) (nw h) Q) : Wq g l M k w pc lv st h Q := by
  intro p e s m args below meth c C H ls locs hR hS hL
  obtain ⟨hc, hX⟩ := gd_some hB
  obtain ⟨hn, hkd⟩ := cn_spec hc
  have hK := C.2.2.2.2.2.2.2.2.1
  have hts := C.2.2.2.2.2.2.2.1
  have hKn := hK.2.1.1 ci _ fc.2.2.1
  refine W.newcK C.1 C.2.1 C.2.2.2.2.1 (hts _ hl) (hts _ hin) (hts _ hi) rfl hd hk hw hKn.2.1 rfl fun H1 kC hkC e1 z1 o1 => ?_
  have h9 := kk hX p e s m args below meth c C H1 ls locs (hR.new hn ?_ z1 o1) (hS.new z1 o1) hL
  · rw [List.map_cons, tv_rf] at h9
    show W _ _ _ _ _ _ _ _ _ _ _ _ _ _ _ (F0 m (pc + 3) ls (.ref (Array.size H) :: st.map (tv g)))
    rw [hR.1, ← hK.1 _ hn]
    exact h9
  · rw [ce_obj fc.1 hkd]
    rw [hR.1] at e1
    refine ⟨_, fc.2.2.1, (u_born (fty ci) hts fc.2.2.2.1 hKn hkC e1 fc.2.2.2.2.1).to (fun j hj => ?_)⟩
    have hj9 : j < nf ci := by rw [fc.2.1]; exact hj
    rw [vp_V, List.getD_eq_getElem?_getD, fl_get hj9]
    exact fv_nw (hok j hj)

theorem q_newaI {α : Type} {n : Int32} {X : Option α} {o : α} {N : Nat} (hB : gd (cn h 9 && decide (al (hN h) = N)) X = some o) (hd : decode M.2.1 pc = .ok (.newarray .int, 2)) (hl : Cond.arrayClass .int ∈ gtbl) (hn : ¬ n < 0) (hN9 : n.toNatClampNeg = N) (hb : N ≤ 1000) (hk : k + 1 ≤ M.2.2.2.2.cells) (hw : w + N ≤ M.2.2.2.2.slots) (kk : X = some o → Wq g l M (k + 1) (w + N) (pc + 2) lv (va_rf (some (hN h)) :: st) (nw h) Q) : Wq g l M k w pc lv (.int n :: st) h Q := by
  intro p e s m args below meth c C H ls locs hR hS hL
  obtain ⟨hc, hX⟩ := gd_some hB
  rw [Bool.and_eq_true, decide_eq_true_eq] at hc
  obtain ⟨hn9, hkd⟩ := cn_spec hc.1
  have hK := C.2.2.2.2.2.2.2.2.1
  have hts := C.2.2.2.2.2.2.2.1
  refine va_newaK (atype := .int) C.1 C.2.1 (hts _ hl) rfl hd rfl hn hN9 (by show N * componentBytes .int ≤ _; simp only [componentBytes]; omega) hk hw rfl fun H1 cA e1 z1 o1 _ hf => ?_
  have hcA : cA = gC g 0 := by
    have h8 := (hK.2.1.2 0 _ rfl).2
    exact Option.some.inj (hf.symm.trans h8)
  have h9 := kk hX p e s m args below meth c C H1 ls locs (hR.new hn9 ?_ z1 o1) (hS.new z1 o1) hL
  · rw [List.map_cons, tv_rf] at h9
    show W _ _ _ _ _ _ _ _ _ _ _ _ _ _ _ (F0 m (pc + 2) ls (.ref (Array.size H) :: st.map (tv g)))
    rw [hR.1, ← hK.1 _ hn9]
    exact h9
  · rw [ce_int hkd]
    show H1[gz g + hN h]? = some (vp_cell _ _)
    rw [← hR.1, e1, vp_cell_i, hcA, hc.2]
    congr 2
    funext j
    simp [hI, nw, defaultValue, newarray.typeOf]
theorem q_newaZ {α : Type} {n : Int32} {X : Option α} {o : α} {N : Nat} (hB : gd (cn h 10 && decide (al (hN h) = N)) X = some o) (hd : decode M.2.1 pc = .ok (.newarray .boolean, 2)) (hl : Cond.arrayClass .boolean ∈ gtbl) (hn : ¬ n < 0) (hN9 : n.toNatClampNeg = N) (hb : N ≤ 1000) (hk : k + 1 ≤ M.2.2.2.2.cells) (hw : w + N ≤ M.2.2.2.2.slots) (kk : X = some o → Wq g l M (k + 1) (w + N) (pc + 2) lv (va_rf (some (hN h)) :: st) (nw h) Q) : Wq g l M k w pc lv (.int n :: st) h Q := by
  intro p e s m args below meth c C H ls locs hR hS hL
  obtain ⟨hc, hX⟩ := gd_some hB
  rw [Bool.and_eq_true, decide_eq_true_eq] at hc
  obtain ⟨hn9, hkd⟩ := cn_spec hc.1
  have hK := C.2.2.2.2.2.2.2.2.1
  have hts := C.2.2.2.2.2.2.2.1
  refine va_newaK (atype := .boolean) C.1 C.2.1 (hts _ hl) rfl hd rfl hn hN9 (by show N * componentBytes .boolean ≤ _; simp only [componentBytes]; omega) hk hw rfl fun H1 cA e1 z1 o1 _ hf => ?_
  have hcA : cA = gC g 1 := by
    have h8 := (hK.2.1.2 1 _ rfl).2
    exact Option.some.inj (hf.symm.trans h8)
  have h9 := kk hX p e s m args below meth c C H1 ls locs (hR.new hn9 ?_ z1 o1) (hS.new z1 o1) hL
  · rw [List.map_cons, tv_rf] at h9
    show W _ _ _ _ _ _ _ _ _ _ _ _ _ _ _ (F0 m (pc + 2) ls (.ref (Array.size H) :: st.map (tv g)))
    rw [hR.1, ← hK.1 _ hn9]
    exact h9
  · rw [ce_boo hkd]
    show H1[gz g + hN h]? = some (vp_cell _ _)
    rw [← hR.1, e1, vp_cell_i, hcA, hc.2]
    congr 2
    funext j
    simp [hI, nw, defaultValue, newarray.typeOf]
theorem q_newqA {α : Type} {n : Int32} {ix : Nat} {X : Option α} {o : α} {N : Nat} (hB : gd (cn h 11 && decide (al (hN h) = N)) X = some o) (hd : decode M.2.1 pc = .ok (.anewarray ix, 3)) (hl : Cond.classLink M.1.cls ix RX0 ∈ gtbl) (hn : ¬ n < 0) (hN9 : n.toNatClampNeg = N) (hb : N ≤ 1000) (hk : k + 1 ≤ M.2.2.2.2.cells) (hw : w + N ≤ M.2.2.2.2.slots) (kk : X = some o → Wq g l M (k + 1) (w + N) (pc + 3) lv (va_rf (some (hN h)) :: st) (nw h) Q) : Wq g l M k w pc lv (.int n :: st) h Q := by
  intro p e s m args below meth c C H ls locs hR hS hL
  obtain ⟨hc, hX⟩ := gd_some hB
  rw [Bool.and_eq_true, decide_eq_true_eq] at hc
  obtain ⟨hn9, hkd⟩ := cn_spec hc.1
  have hK := C.2.2.2.2.2.2.2.2.1
  have hts := C.2.2.2.2.2.2.2.1
  subst hN9
  refine W.anew C.1 C.2.1 C.2.2.2.2.1 (hts _ hl) (va_AO.use C.2.2.2.2.2.2.2.2.1.2.2.2.2.2.1) rfl hd rfl hn (by omega) hk hw fun cA kA comp f1 f2 f3 f4 => ?_
  generalize hH1 : H.push ({ cls := cA, slots := Array.replicate n.toNatClampNeg .null, vm := .none } : Cell) = H1
  have z1 : H1.size = H.size + 1 := by rw [← hH1, Array.size_push]
  have e1 : H1[H.size]? = some (arrV cA n.toNatClampNeg (fun _ => .null)) := by rw [← hH1, Array.getElem?_push_size, ← arrV_new]
  have o1 : ∀ q : Nat, q < H.size → H1[q]? = H[q]? := fun q hq => by rw [← hH1, Array.getElem?_push, if_neg (Nat.ne_of_lt hq)]
  have hcA : cA = gC g 2 := by
    obtain ⟨_, _, _, _, _, h8⟩ := (hK.2.1.2 2 _ rfl).2
    exact Option.some.inj (f1.symm.trans h8)
  have h9 := kk hX p e s m args below meth c C H1 ls locs (hR.new hn9 ?_ z1 o1) (hS.new z1 o1) hL
  · rw [List.map_cons, tv_rf] at h9
    show W _ _ _ _ _ _ _ _ _ _ _ _ _ _ _ (F0 m (pc + 3) ls (.ref (Array.size H) :: st.map (tv g)))
    rw [hR.1, ← hK.1 _ hn9]
    exact h9
  · rw [ce_act hkd]
    show H1[gz g + hN h]? = some (vp_cell _ _)
    rw [← hR.1, e1, vp_cell_q, hcA, hc.2]
    congr 2
    funext j
    simp [aq, hP, nw, va_rf]
theorem q_newqE {α : Type} {n : Int32} {ix : Nat} {X : Option α} {o : α} {N : Nat} (hB : gd (cn h 12 && decide (al (hN h) = N)) X = some o) (hd : decode M.2.1 pc = .ok (.anewarray ix, 3)) (hl : Cond.classLink M.1.cls ix RX3 ∈ gtbl) (hn : ¬ n < 0) (hN9 : n.toNatClampNeg = N) (hb : N ≤ 1000) (hk : k + 1 ≤ M.2.2.2.2.cells) (hw : w + N ≤ M.2.2.2.2.slots) (kk : X = some o → Wq g l M (k + 1) (w + N) (pc + 3) lv (va_rf (some (hN h)) :: st) (nw h) Q) : Wq g l M k w pc lv (.int n :: st) h Q := by
  intro p e s m args below meth c C H ls locs hR hS hL
  obtain ⟨hc, hX⟩ := gd_some hB
  rw [Bool.and_eq_true, decide_eq_true_eq] at hc
  obtain ⟨hn9, hkd⟩ := cn_spec hc.1
  have hK := C.2.2.2.2.2.2.2.2.1
  have hts := C.2.2.2.2.2.2.2.1
  subst hN9
  refine W.anew C.1 C.2.1 C.2.2.2.2.1 (hts _ hl) (va_AO.use C.2.2.2.2.2.2.2.2.1.2.2.2.2.2.2) rfl hd rfl hn (by omega) hk hw fun cA kA comp f1 f2 f3 f4 => ?_
  generalize hH1 : H.push ({ cls := cA, slots := Array.replicate n.toNatClampNeg .null, vm := .none } : Cell) = H1
  have z1 : H1.size = H.size + 1 := by rw [← hH1, Array.size_push]
  have e1 : H1[H.size]? = some (arrV cA n.toNatClampNeg (fun _ => .null)) := by rw [← hH1, Array.getElem?_push_size, ← arrV_new]
  have o1 : ∀ q : Nat, q < H.size → H1[q]? = H[q]? := fun q hq => by rw [← hH1, Array.getElem?_push, if_neg (Nat.ne_of_lt hq)]
  have hcA : cA = gC g 3 := by
    obtain ⟨_, _, _, _, _, h8⟩ := (hK.2.1.2 3 _ rfl).2
    exact Option.some.inj (f1.symm.trans h8)
  have h9 := kk hX p e s m args below meth c C H1 ls locs (hR.new hn9 ?_ z1 o1) (hS.new z1 o1) hL
  · rw [List.map_cons, tv_rf] at h9
    show W _ _ _ _ _ _ _ _ _ _ _ _ _ _ _ (F0 m (pc + 3) ls (.ref (Array.size H) :: st.map (tv g)))
    rw [hR.1, ← hK.1 _ hn9]
    exact h9
  · rw [ce_ent hkd]
    show H1[gz g + hN h]? = some (vp_cell _ _)
    rw [← hR.1, e1, vp_cell_q, hcA, hc.2]
    congr 2
    funext j
    simp [aq, hP, nw, va_rf]
theorem q_alenI {α : Type} {r : Option Nat} {X : Nat → Option α} {o : α} (hB : nn r (fun n => gd (ck h n 9) (X n)) = some o) (hd : decode M.2.1 pc = .ok (.arraylength, 1)) (kk : ∀ n, X n = some o → Wq g l M k w (pc + 1) lv (.int (Int32.ofNat (al n)) :: st) h Q) : Wq g l M k w pc lv (va_rf r :: st) h Q := by
  intro p e s m args below meth c C H ls locs hR hS hL
  obtain ⟨n, rfl, hb⟩ := nn_some hB
  obtain ⟨hc, hX⟩ := gd_some hb
  obtain ⟨hn, hk⟩ := ck_spec hc
  have hK := C.2.2.2.2.2.2.2.2.1
  show W _ _ _ _ _ _ _ _ _ _ _ _ _ _ _ (F0 m pc ls (.ref (ga g n) :: st.map (tv g)))
  rw [hR.ad hK hn]
  exact va_alen C.1 C.2.1 hK.2.1 hR.2.2 n 0 (by rw [wl_get hn, ce_int hk]) rfl (v := Int32.ofNat (al n)) rfl hd (kk n hX p e s m args below meth c C H ls locs hR hS hL)
theorem q_alenA {α : Type} {r : Option Nat} {X : Nat → Option α} {o : α} (hB : nn r (fun n => gd (ck h n 11) (X n)) = some o) (hd : decode M.2.1 pc = .ok (.arraylength, 1)) (kk : ∀ n, X n = some o → Wq g l M k w (pc + 1) lv (.int (Int32.ofNat (al n)) :: st) h Q) : Wq g l M k w pc lv (va_rf r :: st) h Q := by
  intro p e s m args below meth c C H ls locs hR hS hL
  obtain ⟨n, rfl, hb⟩ := nn_some hB
  obtain ⟨hc, hX⟩ := gd_some hb
  obtain ⟨hn, hk⟩ := ck_spec hc
  have hK := C.2.2.2.2.2.2.2.2.1
  show W _ _ _ _ _ _ _ _ _ _ _ _ _ _ _ (F0 m pc ls (.ref (ga g n) :: st.map (tv g)))
  rw [hR.ad hK hn]
  exact va_alen C.1 C.2.1 hK.2.1 hR.2.2 n 2 (by rw [wl_get hn, ce_act hk]) rfl (v := Int32.ofNat (al n)) rfl hd (kk n hX p e s m args below meth c C H ls locs hR hS hL)
theorem q_alenE {α : Type} {r : Option Nat} {X : Nat → Option α} {o : α} (hB : nn r (fun n => gd (ck h n 12) (X n)) = some o) (hd : decode M.2.1 pc = .ok (.arraylength, 1)) (kk : ∀ n, X n = some o → Wq g l M k w (pc + 1) lv (.int (Int32.ofNat (al n)) :: st) h Q) : Wq g l M k w pc lv (va_rf r :: st) h Q := by
  intro p e s m args below meth c C H ls locs hR hS hL
  obtain ⟨n, rfl, hb⟩ := nn_some hB
  obtain ⟨hc, hX⟩ := gd_some hb
  obtain ⟨hn, hk⟩ := ck_spec hc
  have hK := C.2.2.2.2.2.2.2.2.1
  show W _ _ _ _ _ _ _ _ _ _ _ _ _ _ _ (F0 m pc ls (.ref (ga g n) :: st.map (tv g)))
  rw [hR.ad hK hn]
  exact va_alen C.1 C.2.1 hK.2.1 hR.2.2 n 3 (by rw [wl_get hn, ce_ent hk]) rfl (v := Int32.ofNat (al n)) rfl hd (kk n hX p e s m args below meth c C H ls locs hR hS hL)
/-- the bounds of a copy -/
def cb (h : HS) (a b : Nat) (sp dp n : Int32) : Bool := ck h a 9 && ck h b 9 && decide (0 ≤ sp.toInt ∧ 0 ≤ dp.toInt ∧ 0 ≤ n.toInt ∧ sp.toInt + n.toInt ≤ (al a : Int) ∧ dp.toInt + n.toInt ≤ (al b : Int))
theorem i_nn {z : Int32} (h : 0 ≤ z.toInt) : ¬ z < 0 ∧ z.toInt = (z.toNatClampNeg : Int) := by
  refine ⟨fun q => ?_, ?_⟩
  · have h1 := Int32.lt_iff_toInt_lt.mp q
    simp at h1
    omega
  · show z.toInt = ((z.toInt.toNat : Nat) : Int)
    omega
theorem q_copy {α : Type} {ix : Nat} {sp dp n : Int32} {rs rd : Option Nat} {X : Nat → Nat → Option α} {o : α} (hB : nn rs (fun a => nn rd (fun b => gd (cb h a b sp dp n) (X a b))) = some o) (hd : decode M.2.1 pc = .ok (.invokestatic ix, 3)) (hl : Cond.methodLink M.1.cls ix arraycopyName ∈ gtbl) (hna : Cond.native arraycopyName ∈ gtbl) (hst : Cond.static arraycopyName ∈ gtbl) (hin : Cond.initialized "java/lang/System" ∈ gtbl) (hf : 1 ≤ M.2.2.2.2.frames) (hlo : (st.map fun v => v.category).sum + (nativeFrameWords "java/lang/System" "arraycopy" 5 + 11) ≤ M.2.2.2.2.locals) (kk : ∀ a b, X a b = some o → Wq g l M 0 0 (pc + 3) lv st (sR h b (va_cpy (hI h a) (hI h b) sp.toNatClampNeg dp.toNatClampNeg n.toNatClampNeg)) Q) : Wq g l M 0 0 pc lv (.int n :: .int dp :: va_rf rd :: .int sp :: va_rf rs :: st) h Q := by
  intro p e s m args below meth c C H ls locs hR hS hL
  obtain ⟨a, rfl, hb⟩ := nn_some hB
  obtain ⟨b, rfl, hb⟩ := nn_some hb
  obtain ⟨hc, hX⟩ := gd_some hb
  simp only [cb, Bool.and_eq_true, decide_eq_true_eq] at hc
  obtain ⟨⟨hca, hcb⟩, c1, c2, c3, c4, c5⟩ := hc
  obtain ⟨hna9, hka⟩ := ck_spec hca
  obtain ⟨hnb9, hkb⟩ := ck_spec hcb
  obtain ⟨d1, e1⟩ := i_nn c1
  obtain ⟨d2, e2⟩ := i_nn c2
  obtain ⟨d3, e3⟩ := i_nn c3
  have hK := C.2.2.2.2.2.2.2.2.1
  have hts := C.2.2.2.2.2.2.2.1
  show W _ _ _ _ _ _ _ _ _ _ _ _ _ _ _ (F0 m pc ls (.int n :: .int dp :: .ref (ga g b) :: .int sp :: .ref (ga g a) :: st.map (tv g)))
  rw [hR.ad hK hna9, hR.ad hK hnb9]
  have hcat : ((st.map (tv g)).map fun v => v.category).sum = (st.map fun v => v.category).sum := by
    rw [List.map_map]
    congr 1
    exact List.map_congr_left (fun v _ => tv_cat g v)
  intro T0 hT0 X0
  have hz0 := X0.heapSize
  rw [hT0] at hz0
  refine va_copyi C.1 C.2.1 (by rw [C.2.2.1, hL.1]) C.2.2.2.2.1 (hts _ hl) (hts _ hna) (hts _ hst) (hts _ hin) hK.2.1 hR.2.2 (wl_D g h) hS a b 0 0 (by rw [wl_get hna9, ce_int hka]) (by rw [wl_get hnb9, ce_int hkb]) rfl rfl rfl d1 d2 d3 (by omega) (by omega) (fun _ _ => rfl) hf (by rw [hcat]; exact hlo) hd (fun H1 locs1 hP1 _ hS1 => ?_) T0 hT0 X0
  intro T1 hT1 X1
  have hz1 := X1.heapSize
  rw [hT1] at hz1
  have hz : H1.size = H.size := by
    have := hS.1
    have := hS1.1
    omega
  refine kk a b hX p _ s m args below meth c C H1 ls locs1 ⟨by rw [hz]; exact hR.1, hR.2.1, ?_⟩ hS1 hL T1 hT1 X1
  rw [wl_set (h' := sR h b (va_cpy (hI h a) (hI h b) sp.toNatClampNeg dp.toNatClampNeg n.toNatClampNeg)) hnb9 rfl (by rw [ce_int hkb]; simp [hI, sR]) (fun q hq => ce_sR hq)] at hP1
  exact hP1
theorem q_static {C0 nm d : String} {v : Value} {ix : Nat} (hZ : ∀ (s : State), Kst g s s.heap → va_Z C0 nm d (tv g v) (gA g) s s.heap) (hd : decode M.2.1 pc = .ok (.getstatic ix, 3)) (hl : Cond.fieldLink M.1.cls ix C0 nm d ∈ gtbl) (kk : Wq g l M k w (pc + 3) lv (v :: st) h Q) : Wq g l M k w pc lv st h Q := by
  intro p e s m args below meth c C H ls locs hR hS hL
  exact va_gets C.1 C.2.1 (hZ s C.2.2.2.2.2.2.2.2.1) hS C.2.2.2.2.1 (C.2.2.2.2.2.2.2.1 _ hl) (fun _ hx => hx) hd (kk p e s m args below meth c C H ls locs hR hS hL)
theorem z_F {s : State} (i : Nat) (hi : i < 4) (hK : Kst g s s.heap) : va_Z RX4 (["TOWN", "WARE", "AMOUNT", "ALL"].getD i "") "LCrossTable$Field;" (tv g (va_rf (some (1000 + i)))) (gA g) s s.heap := (hK.2.2.1.1.1 i hi).1
theorem z_M {s : State} (i : Nat) (hi : i < 5) (hK : Kst g s s.heap) : va_Z RX5 (["COUNT", "SUM", "MOST", "LEAST", "KINDS"].getD i "") "LCrossTable$Measure;" (tv g (va_rf (some (1010 + i)))) (gA g) s s.heap := (hK.2.2.1.2.1.1 i hi).1
theorem z_O {s : State} (hK : Kst g s s.heap) : va_Z RX9 "ORDERS" "[I" (tv g (va_rf (some 1030))) (gA g) s s.heap := hK.2.2.1.2.2.2.2.1
theorem z_U {s : State} (hK : Kst g s s.heap) : va_Z RX9 "DOING_UNITS" "[J" (tv g (va_rf (some 1031))) (gA g) s s.heap := hK.2.2.1.2.2.2.2.2.2.1
theorem z_C {s : State} (hK : Kst g s s.heap) : va_Z "java/lang/String" "COMPACT_STRINGS" "Z" (tv g (.int 1)) (gA g) s s.heap := hK.2.2.1.2.2.2.2.2.2.2.2.1
theorem q_ldO {α : Type} {i : Int32} {X : Option α} {o : α} (hB : gd (inb i 7) X = some o) (hd : decode M.2.1 pc = .ok (.iaload, 1)) (kk : X = some o → Wq g l M k w (pc + 1) lv (.int (ordV i.toNatClampNeg) :: st) h Q) : Wq g l M k w pc lv (.int i :: va_rf (some 1030) :: st) h Q := by
  intro p e s m args below meth c C H ls locs hR hS hL
  obtain ⟨hc, hX⟩ := gd_some hB
  exact va_ti C.1 C.2.1 C.2.2.2.2.2.2.2.2.1.2.2.1.2.2.2.2.2.1 hS (inb_in hc) rfl hd (kk hX p e s m args below meth c C H ls locs hR hS hL)
theorem q_ldU {α : Type} {i : Int32} {X : Option α} {o : α} (hB : gd (inb i 5) X = some o) (hd : decode M.2.1 pc = .ok (.laload, 1)) (kk : X = some o → Wq g l M k w (pc + 1) lv (.long (untV i.toNatClampNeg) :: st) h Q) : Wq g l M k w pc lv (.int i :: va_rf (some 1031) :: st) h Q := by
  intro p e s m args below meth c C H ls locs hR hS hL
  obtain ⟨hc, hX⟩ := gd_some hB
  exact va_tl C.1 C.2.1 C.2.2.2.2.2.2.2.2.1.2.2.1.2.2.2.2.2.2.2.1 hS (inb_in hc) rfl hd (kk hX p e s m args below meth c C H ls locs hR hS hL)
theorem q_lenX (hd : decode M.2.1 pc = .ok (.arraylength, 1)) (kk : Wq g l M k w (pc + 1) lv (.int (Int32.ofNat (gL g)) :: st) h Q) : Wq g l M k w pc lv (va_rf (some 2000) :: st) h Q := by
  intro p e s m args below meth c C H ls locs hR hS hL
  have hK := C.2.2.2.2.2.2.2.2.1
  exact va_slen C.1 C.2.1 hK.2.2.1.2.2.2.2.2.2.2.2.2 (Nat.lt_of_lt_of_le hK.2.2.2.1 C.2.2.2.2.2.2.2.2.2) (Nat.not_le.mpr hK.2.2.2.1) hS hd (kk p e s m args below meth c C H ls locs hR hS hL)
theorem q_ldX {α : Type} {i : Int32} {X : Option α} {o : α} (hB : gd (inb i (gL g)) X = some o) (hd : decode M.2.1 pc = .ok (.iaload, 1)) (kk : X = some o → Wq g l M k w (pc + 1) lv (.int (gX g i.toNatClampNeg) :: st) h Q) : Wq g l M k w pc lv (.int i :: va_rf (some 2000) :: st) h Q := by
  intro p e s m args below meth c C H ls locs hR hS hL
  obtain ⟨hc, hX⟩ := gd_some hB
  have hK := C.2.2.2.2.2.2.2.2.1
  exact va_sld C.1 C.2.1 hK.2.2.1.2.2.2.2.2.2.2.2.2 (Nat.lt_of_lt_of_le hK.2.2.2.1 C.2.2.2.2.2.2.2.2.2) (Nat.not_le.mpr hK.2.2.2.1) hS (inb_in hc) hd (kk hX p e s m args below meth c C H ls locs hR hS hL)
/-- a name of a constant of Measure, of a word -/
def isM (n : Nat) : Bool := decide (1010 ≤ n ∧ n < 1015)
def isS (n : Nat) : Bool := decide (1020 ≤ n ∧ n < 1025)
def isB (n : Nat) : Bool := decide (1040 ≤ n ∧ n < 1045)
theorem q_getW {α : Type} {ix : Nat} {r : Option Nat} {X : Nat → Option α} {o : α} (hB : nn r (fun n => gd (isM n) (X n)) = some o) (hd : decode M.2.1 pc = .ok (.getfield ix, 3)) (hl : Cond.fieldLink M.1.cls ix RX5 "word" "Ljava/lang/String;" ∈ gtbl) (kk : ∀ n, X n = some o → Wq g l M k w (pc + 3) lv (va_rf (some (n + 10)) :: st) h Q) : Wq g l M k w pc lv (va_rf r :: st) h Q := by
  intro p e s m args below meth c C H ls locs hR hS hL
  obtain ⟨n, rfl, hb⟩ := nn_some hB
  obtain ⟨hc, hX⟩ := gd_some hb
  have hc := of_decide_eq_true hc
  obtain ⟨i, rfl⟩ : ∃ i, n = 1010 + i := ⟨n - 1010, by omega⟩
  have hK := C.2.2.2.2.2.2.2.2.1
  have hE := hK.2.2.1.2.2.1 i (by omega)
  have h9 := kk _ hX p e s m args below meth c C H ls locs hR hS hL
  rw [show 1010 + i + 10 = 1020 + i by omega] at h9
  exact vk_getf C.1 C.2.1 hE hS C.2.2.2.2.1 (C.2.2.2.2.2.2.2.1 _ hl) (fun _ hx => hx) hd h9
theorem q_getSc {α : Type} {ix : Nat} {r : Option Nat} {X : Nat → Option α} {o : α} (hB : nn r (fun n => gd (isS n) (X n)) = some o) (hd : decode M.2.1 pc = .ok (.getfield ix, 3)) (hl : Cond.fieldLink M.1.cls ix "java/lang/String" "coder" "B" ∈ gtbl) (kk : ∀ n, X n = some o → Wq g l M k w (pc + 3) lv (.int 0 :: st) h Q) : Wq g l M k w pc lv (va_rf r :: st) h Q := by
  intro p e s m args below meth c C H ls locs hR hS hL
  obtain ⟨n, rfl, hb⟩ := nn_some hB
  obtain ⟨hc, hX⟩ := gd_some hb
  have hc := of_decide_eq_true hc
  obtain ⟨i, rfl⟩ : ∃ i, n = 1020 + i := ⟨n - 1020, by omega⟩
  have hK := C.2.2.2.2.2.2.2.2.1
  have hE := (hK.2.2.1.2.2.2.1.1 i (by omega)).2.1
  exact vk_getf C.1 C.2.1 hE hS C.2.2.2.2.1 (C.2.2.2.2.2.2.2.1 _ hl) (fun _ hx => hx) hd (kk _ hX p e s m args below meth c C H ls locs hR hS hL)
theorem q_getSv {α : Type} {ix : Nat} {r : Option Nat} {X : Nat → Option α} {o : α} (hB : nn r (fun n => gd (isS n) (X n)) = some o) (hd : decode M.2.1 pc = .ok (.getfield ix, 3)) (hl : Cond.fieldLink M.1.cls ix "java/lang/String" "value" "[B" ∈ gtbl) (kk : ∀ n, X n = some o → Wq g l M k w (pc + 3) lv (va_rf (some (n + 20)) :: st) h Q) : Wq g l M k w pc lv (va_rf r :: st) h Q := by
  intro p e s m args below meth c C H ls locs hR hS hL
  obtain ⟨n, rfl, hb⟩ := nn_some hB
  obtain ⟨hc, hX⟩ := gd_some hb
  have hc := of_decide_eq_true hc
  obtain ⟨i, rfl⟩ : ∃ i, n = 1020 + i := ⟨n - 1020, by omega⟩
  have hK := C.2.2.2.2.2.2.2.2.1
  have hE := (hK.2.2.1.2.2.2.1.1 i (by omega)).2.2.1
  have h9 := kk _ hX p e s m args below meth c C H ls locs hR hS hL
  rw [show 1020 + i + 20 = 1040 + i by omega] at h9
  exact vk_getf C.1 C.2.1 hE hS C.2.2.2.2.1 (C.2.2.2.2.2.2.2.1 _ hl) (fun _ hx => hx) hd h9
/-- the bytes of a word, by the byte array's name -/
def byV (n j : Nat) : Int32 := (wByt.getD (n - 1040) []).getD j 0
def byL (n : Nat) : Nat := wLen.getD (n - 1040) 0
theorem q_bald {α : Type} {i : Int32} {r : Option Nat} {X : Nat → Option α} {o : α} (hB : nn r (fun n => gd (isB n && inb i (byL n)) (X n)) = some o) (hd : decode M.2.1 pc = .ok (.baload, 1)) (kk : ∀ n, X n = some o → Wq g l M k w (pc + 1) lv (.int (byV n i.toNatClampNeg) :: st) h Q) : Wq g l M k w pc lv (.int i :: va_rf r :: st) h Q := by
  intro p e s m args below meth c C H ls locs hR hS hL
  obtain ⟨n, rfl, hb⟩ := nn_some hB
  obtain ⟨hc, hX⟩ := gd_some hb
  rw [Bool.and_eq_true] at hc
  have hc1 := of_decide_eq_true hc.1
  obtain ⟨i9, rfl⟩ : ∃ i, n = 1040 + i := ⟨n - 1040, by omega⟩
  have hK := C.2.2.2.2.2.2.2.2.1
  have hT := (hK.2.2.1.2.2.2.1.1 i9 (by omega)).2.2.2
  have hin := inb_in hc.2
  rw [byL, show 1040 + i9 - 1040 = i9 by omega] at hin
  have h9 := kk _ hX p e s m args below meth c C H ls locs hR hS hL
  rw [byV, show 1040 + i9 - 1040 = i9 by omega] at h9
  exact va_tb C.1 C.2.1 hT hS hin rfl hd h9
theorem q_alenB {α : Type} {r : Option Nat} {X : Nat → Option α} {o : α} (hB : nn r (fun n => gd (isB n) (X n)) = some o) (hd : decode M.2.1 pc = .ok (.arraylength, 1)) (kk : ∀ n, X n = some o → Wq g l M k w (pc + 1) lv (.int (Int32.ofNat (byL n)) :: st) h Q) : Wq g l M k w pc lv (va_rf r :: st) h Q := by
  intro p e s m args below meth c C H ls locs hR hS hL
  obtain ⟨n, rfl, hb⟩ := nn_some hB
  obtain ⟨hc, hX⟩ := gd_some hb
  have hc1 := of_decide_eq_true hc
  obtain ⟨i9, rfl⟩ : ∃ i, n = 1040 + i := ⟨n - 1040, by omega⟩
  have hK := C.2.2.2.2.2.2.2.2.1
  have hT := (hK.2.2.1.2.2.2.1.1 i9 (by omega)).2.2.2
  have h9 := kk _ hX p e s m args below meth c C H ls locs hR hS hL
  rw [byL, show 1040 + i9 - 1040 = i9 by omega] at h9
  exact va_tlen C.1 C.2.1 hT hS rfl hd h9
/-- one of the constants of Field, of Measure, or null -/
def en1 (r : Option Nat) : Bool := match r with
  | none => true
  | some n => decide (1000 ≤ n ∧ n < 1004)
def en2 (r : Option Nat) : Bool := match r with
  | none => true
  | some n => decide (1010 ≤ n ∧ n < 1015)
theorem en_inj {g : GG} {s : State} (hK : Kst g s s.heap) {a b : Option Nat} (hh : (en1 a && en1 b || en2 a && en2 b) = true) (e : a.map (ga g) = b.map (ga g)) : a = b := by
  cases a with
  | none => cases b with
    | none => rfl
    | some y => simp at e
  | some x => cases b with
    | none => simp at e
    | some y =>
      have e9 : ga g x = ga g y := by simpa using e
      simp only [en1, en2, Bool.or_eq_true, Bool.and_eq_true, decide_eq_true_eq] at hh
      rcases hh with ⟨h1, h2⟩ | ⟨h1, h2⟩
      · have := hK.2.2.1.1.2 (x - 1000) (y - 1000) (by show _ < 4; omega) (by show _ < 4; omega) (by show ga g (1000 + (x - 1000)) = ga g (1000 + (y - 1000)); rw [show 1000 + (x - 1000) = x by omega, show 1000 + (y - 1000) = y by omega]; exact e9)
        have hxy : x = y := by omega
        rw [hxy]
      · have := hK.2.2.1.2.1.2 (x - 1010) (y - 1010) (by show _ < 5; omega) (by show _ < 5; omega) (by show ga g (1010 + (x - 1010)) = ga g (1010 + (y - 1010)); rw [show 1010 + (x - 1010) = x by omega, show 1010 + (y - 1010) = y by omega]; exact e9)
        have hxy : x = y := by omega
        rw [hxy]
theorem q_acmp_ne {α : Type} {a b : Option Nat} {off : Int} {tgt : Nat} {A B : Option α} {o : α} (hB : gd (en1 a && en1 b || en2 a && en2 b) (if a = b then B else A) = some o) (hd : decode M.2.1 pc = .ok (.if_acmp .ne off, 3)) (ht : (pc : Int) + off = (tgt : Int)) (kt : A = some o → Wq g l M k w tgt lv st h Q) (kf : B = some o → Wq g l M k w (pc + 3) lv st h Q) : Wq g l M k w pc lv (va_rf b :: va_rf a :: st) h Q := by
  intro p e s m args below meth c C H ls locs hR hS hL
  obtain ⟨hc, hX⟩ := gd_some hB
  have hK := C.2.2.2.2.2.2.2.2.1
  show W _ _ _ _ _ _ _ _ _ _ _ _ _ _ _ (F0 m pc ls (tv g (va_rf b) :: tv g (va_rf a) :: st.map (tv g)))
  rw [tv_rf, tv_rf]
  refine lv_acmp_ne C.1 C.2.1 hd ht (fun cc => kt ?_ p e s m args below meth c C H ls locs hR hS hL) (fun cc => kf ?_ p e s m args below meth c C H ls locs hR hS hL)
  · rw [if_neg (fun q => cc (by rw [q]))] at hX
    exact hX
  · rw [if_pos (en_inj hK hc cc)] at hX
    exact hX
theorem q_acmp_eq {α : Type} {a b : Option Nat} {off : Int} {tgt : Nat} {A B : Option α} {o : α} (hB : gd (en1 a && en1 b || en2 a && en2 b) (if a = b then A else B) = some o) (hd : decode M.2.1 pc = .ok (.if_acmp .eq off, 3)) (ht : (pc : Int) + off = (tgt : Int)) (kt : A = some o → Wq g l M k w tgt lv st h Q) (kf : B = some o → Wq g l M k w (pc + 3) lv st h Q) : Wq g l M k w pc lv (va_rf b :: va_rf a :: st) h Q := by
  intro p e s m args below meth c C H ls locs hR hS hL
  obtain ⟨hc, hX⟩ := gd_some hB
  have hK := C.2.2.2.2.2.2.2.2.1
  show W _ _ _ _ _ _ _ _ _ _ _ _ _ _ _ (F0 m pc ls (tv g (va_rf b) :: tv g (va_rf a) :: st.map (tv g)))
  rw [tv_rf, tv_rf]
  refine lv_acmp_eq C.1 C.2.1 hd ht (fun cc => kt ?_ p e s m args below meth c C H ls locs hR hS hL) (fun cc => kf ?_ p e s m args below meth c C H ls locs hR hS hL)
  · rw [if_pos (en_inj hK hc cc)] at hX
    exact hX
  · rw [if_neg (fun q => cc (by rw [q]))] at hX
    exact hX
theorem q_ifnull {α : Type} {r : Option Nat} {off : Int} {tgt : Nat} {A B : Option α} {o : α} (hB : (if r = none then A else B) = some o) (hd : decode M.2.1 pc = .ok (.ifnull off, 3)) (ht : (pc : Int) + off = (tgt : Int)) (kt : A = some o → Wq g l M k w tgt lv st h Q) (kf : B = some o → Wq g l M k w (pc + 3) lv st h Q) : Wq g l M k w pc lv (va_rf r :: st) h Q := by
  intro p e s m args below meth c C H ls locs hR hS hL
  cases r with
  | none => exact lv_ifnullN C.1 C.2.1 hd ht (kt (by simpa using hB) p e s m args below meth c C H ls locs hR hS hL)
  | some n => exact lv_ifnull C.1 C.2.1 hd (kf (by simpa using hB) p e s m args below meth c C H ls locs hR hS hL)
theorem q_ifnonnull {α : Type} {r : Option Nat} {off : Int} {tgt : Nat} {A B : Option α} {o : α} (hB : (if r = none then B else A) = some o) (hd : decode M.2.1 pc = .ok (.ifnonnull off, 3)) (ht : (pc : Int) + off = (tgt : Int)) (kt : A = some o → Wq g l M k w tgt lv st h Q) (kf : B = some o → Wq g l M k w (pc + 3) lv st h Q) : Wq g l M k w pc lv (va_rf r :: st) h Q := by
  intro p e s m args below meth c C H ls locs hR hS hL
  cases r with
  | none => exact lv_ifnonnullN C.1 C.2.1 hd (kf (by simpa using hB) p e s m args below meth c C H ls locs hR hS hL)
  | some n => exact lv_ifnonnull C.1 C.2.1 hd ht (kt (by simpa using hB) p e s m args below meth c C H ls locs hR hS hL)
theorem q_ldc {ix : Nat} {v : Int32} (hd : decode M.2.1 pc = .ok (.ldc ix, 2)) (hl : Cond.constant M.1.cls ix v ∈ gtbl) (kk : Wq g l M k w (pc + 2) lv (.int v :: st) h Q) : Wq g l M k w pc lv st h Q := by
  intro p e s m args below meth c C H ls locs hR hS hL
  exact lv_ldc C.1 C.2.1 C.2.2.2.2.1 (C.2.2.2.2.2.2.2.1 _ hl) hd (kk p e s m args below meth c C H ls locs hR hS hL)
theorem q_ldc2 {ix : Nat} {v : Int64} (hd : decode M.2.1 pc = .ok (.ldc2_w ix, 3)) (hl : Cond.constantLong M.1.cls ix v ∈ gtbl) (kk : Wq g l M k w (pc + 3) lv (.long v :: st) h Q) : Wq g l M k w pc lv st h Q := by
  intro p e s m args below meth c C H ls locs hR hS hL
  exact lv_ldc2 C.1 C.2.1 C.2.2.2.2.1 (C.2.2.2.2.2.2.2.1 _ hl) hd (kk p e s m args below meth c C H ls locs hR hS hL)
end RN
end
section
/-! ROWS: switches, returns, calls, a method's entry -/
def swT {α : Type} (x : Int32) (lo : Int) (ts : List (Option α)) (d : Option α) : Option α := if lo ≤ x.toInt ∧ x.toInt < lo + (ts.length : Int) then ts.getD (x.toInt - lo).toNat d else d
def sw {α : Type} (x : Int32) : List (Int32 × Option α) → Option α → Option α
  | [], d => d
  | (c, t) :: r, d => if x = c then t else sw x r d
theorem sw_some {α : Type} {x : Int32} {d : Option α} {o : α} : ∀ {cs : List (Int32 × Option α)}, sw x cs d = some o → (∃ i, i < cs.length ∧ x = (cs.map Prod.fst).getD i 0 ∧ (cs.map Prod.snd).getD i d = some o ∧ ∀ j, j < i → x ≠ (cs.map Prod.fst).getD j 0) ∨ ((∀ i, i < cs.length → x ≠ (cs.map Prod.fst).getD i 0) ∧ d = some o)
  | [], h => Or.inr ⟨fun i hi => by simp at hi, h⟩
  | (c, t) :: r, h => by
    by_cases hx : x = c
    · refine Or.inl ⟨0, by simp, by simpa using hx, ?_, fun j hj => by omega⟩
      simp only [sw, if_pos hx] at h
      simpa using h
    · simp only [sw, if_neg hx] at h
      rcases sw_some h with ⟨i, h1, h2, h3, h4⟩ | ⟨h1, h2⟩
      · refine Or.inl ⟨i + 1, by simpa using h1, by simpa using h2, by simpa using h3, fun j hj => ?_⟩
        cases j with
        | zero => simpa using hx
        | succ j => simpa using h4 j (by omega)
      · refine Or.inr ⟨fun i hi => ?_, h2⟩
        cases i with
        | zero => simpa using hx
        | succ j => simpa using h1 j (by simpa using hi)
theorem lk_off {x : Int32} {d : Int} : ∀ (ps : List (Int × Int)) (cs : List Int32), ps.map Prod.fst = cs.map Int32.toInt → ((∀ i, i < cs.length → x = cs.getD i 0 → (∀ j, j < i → x ≠ cs.getD j 0) → Op.lookupswitch.offset ps d x.toInt = (ps.map Prod.snd).getD i d) ∧ ((∀ i, i < cs.length → x ≠ cs.getD i 0) → Op.lookupswitch.offset ps d x.toInt = d))
  | [], [], _ => ⟨fun i hi => by simp at hi, fun _ => rfl⟩
  | [], _ :: _, h => by simp at h
  | _ :: _, [], h => by simp at h
  | (a, o) :: ps, c :: cs, h => by
    simp only [List.map_cons, List.cons.injEq] at h
    obtain ⟨h1, h2⟩ := lk_off (x := x) (d := d) ps cs h.2
    refine ⟨fun i hi hx hj => ?_, fun hx => ?_⟩
    · cases i with
      | zero =>
        have hx : x = c := by simpa using hx
        rw [Op.lookupswitch.offset_cons, if_pos (by rw [hx]; exact h.1)]
        simp
      | succ i =>
        have hne : x ≠ c := by simpa using hj 0 (by omega)
        rw [lv_osw hne h.1.symm]
        simpa using h1 i (by simpa using hi) (by simpa using hx) (fun j hj9 => by simpa using hj (j + 1) (by omega))
    · have hne : x ≠ c := by simpa using hx 0 (by simp)
      rw [lv_osw hne h.1.symm]
      exact h2 (fun i hi => by simpa using hx (i + 1) (by simpa using hi))
def QI (o : Int32 × HS) : Option Value → HS → Prop := fun v u => v = some (.int o.1) ∧ u = o.2
def QJ (o : Int64 × HS) : Option Value → HS → Prop := fun v u => v = some (.long o.1) ∧ u = o.2
def QP (o : Option Nat × HS) : Option Value → HS → Prop := fun v u => v = some (va_rf o.1) ∧ u = o.2
def QV (o : Unit × HS) : Option Value → HS → Prop := fun v u => v = none ∧ u = o.2
section RS
variable {g : GG} {l : Launch} {M : MD} {k w pc : Nat} {lv : List (Option Value)} {st : List Value} {h : HS} {Q : Option Value → HS → Prop}
theorem q_tab {α : Type} {x : Int32} {lo hi dflt : Int} {offs : Array Int} {len dt : Nat} {ts : List (Option α)} {d : Option α} {o : α} (tgs : List Nat) (hB : swT x lo ts d = some o) (hd : decode M.2.1 pc = .ok (.tableswitch dflt lo hi offs, len)) (h1 : offs.toList.length = ts.length) (h2 : hi = lo + (ts.length : Int) - 1) (hdt : (pc : Int) + dflt = (dt : Int)) (ht : offs.toList.map (fun off => (pc : Int) + off) = tgs.map (fun n : Nat => (n : Int))) (kdf : d = some o → Wq g l M k w dt lv st h Q) (ks : ∀ i, i < ts.length → ts.getD i d = some o → Wq g l M k w (tgs.getD i 0) lv st h Q) : Wq g l M k w pc lv (.int x :: st) h Q := by
  intro p e s m args below meth c C H ls locs hR hS hL
  unfold swT at hB
  by_cases hx : lo ≤ x.toInt ∧ x.toInt < lo + (ts.length : Int)
  · rw [if_pos hx] at hB
    have hi9 : (x.toInt - lo).toNat < ts.length := by omega
    have hlt : (x.toInt - lo).toNat < offs.toList.length := by omega
    have hlen : tgs.length = offs.toList.length := by
      have := congrArg List.length ht
      simpa using this.symm
    have ho : offs[(x.toInt - lo).toNat]? = some (offs.toList[(x.toInt - lo).toNat]'hlt) := by
      rw [← Array.getElem?_toList]
      exact List.getElem?_eq_getElem hlt
    have htg : (pc : Int) + offs.toList[(x.toInt - lo).toNat]'hlt = ((tgs.getD (x.toInt - lo).toNat 0 : Nat) : Int) := by
      have h9 := congrArg (fun l => l[(x.toInt - lo).toNat]?) ht
      simp only [List.getElem?_map, List.getElem?_eq_getElem hlt, Option.map_some] at h9
      rw [List.getElem?_eq_getElem (by omega)] at h9
      simp only [Option.map_some, Option.some.injEq] at h9
      rw [h9, List.getD_eq_getElem?_getD, List.getElem?_eq_getElem (by omega)]
      rfl
    exact lv_tableIn C.1 C.2.1 hd (by omega) (by omega) ho htg (ks _ hi9 hB p e s m args below meth c C H ls locs hR hS hL)
  · rw [if_neg hx] at hB
    exact lv_tableOut C.1 C.2.1 hd (by omega) hdt (kdf hB p e s m args below meth c C H ls locs hR hS hL)
theorem q_look {α : Type} {x : Int32} {dflt : Int} {ps : Array (Int × Int)} {len dt : Nat} {cs : List (Int32 × Option α)} {d : Option α} {o : α} (tgs : List Nat) (hB : sw x cs d = some o) (hd : decode M.2.1 pc = .ok (.lookupswitch dflt ps, len)) (hp : (ps.toList.zip (ps.toList.drop 1)).all (fun (a, next) => a.1 < next.1) = true) (h1 : ps.toList.map Prod.fst = (cs.map Prod.fst).map Int32.toInt) (hdt : (pc : Int) + dflt = (dt : Int)) (ht : ps.toList.map (fun q => (pc : Int) + q.2) = tgs.map (fun n : Nat => (n : Int))) (kdf : d = some o → Wq g l M k w dt lv st h Q) (ks : ∀ i, i < cs.length → (cs.map Prod.snd).getD i d = some o → Wq g l M k w (tgs.getD i 0) lv st h Q) : Wq g l M k w pc lv (.int x :: st) h Q := by
  intro p e s m args below meth c C H ls locs hR hS hL
  obtain ⟨k1, k2⟩ := lk_off (x := x) (d := dflt) ps.toList (cs.map Prod.fst) h1
  have hlen : ps.toList.length = cs.length := by
    have := congrArg List.length h1
    simpa using this
  have hlen2 : tgs.length = ps.toList.length := by
    have := congrArg List.length ht
    simpa using this.symm
  rcases sw_some hB with ⟨i, hi, hx, hb, hj⟩ | ⟨hx, hb⟩
  · have ho := k1 i (by simpa using hi) hx hj
    have hlt : i < ps.toList.length := by omega
    have htg : (pc : Int) + (ps.toList.map Prod.snd).getD i dflt = ((tgs.getD i 0 : Nat) : Int) := by
      have h9 := congrArg (fun l => l[i]?) ht
      simp only [List.getElem?_map, List.getElem?_eq_getElem hlt, Option.map_some] at h9
      rw [List.getElem?_eq_getElem (by omega)] at h9
      simp only [Option.map_some, Option.some.injEq] at h9
      rw [List.getD_eq_getElem?_getD, List.getElem?_map, List.getElem?_eq_getElem hlt, List.getD_eq_getElem?_getD, List.getElem?_eq_getElem (by omega)]
      exact h9
    exact lv_lookup C.1 C.2.1 hd hp ho htg (ks i hi hb p e s m args below meth c C H ls locs hR hS hL)
  · exact lv_lookup C.1 C.2.1 hd hp (k2 (fun i hi => hx i (by simpa using hi))) hdt (kdf hb p e s m args below meth c C H ls locs hR hS hL)
theorem q_iret {x : Int32} {o : Int32 × HS} (hB : some (x, h) = some o) (hd : decode M.2.1 pc = .ok (.ireturn, 1)) (hr : M.2.2.2.1 = some .int) (hk : k ≤ M.2.2.2.2.cells) (hw : w ≤ M.2.2.2.2.slots) : Wq g l M k w pc lv [.int x] h (QI o) := by
  intro p e s m args below meth c C H ls locs hR hS hL
  cases hB
  refine W.widen hk hw ?_
  exact W.iret C.1 C.2.1 (by rw [C.2.2.2.1]; exact hr) (fun t ht _ => ⟨⟨_, _, rfl, ⟨rfl, rfl⟩, by rw [ht]; exact hR⟩, hS.F ht⟩) hS.2.2 hd C.2.2.2.2.2.1
theorem q_zret {x : Int32} {ty : FieldType} {o : Int32 × HS} (hB : gd (decide (narrow ty (.int x) = .int x)) (some (x, h)) = some o) (hd : decode M.2.1 pc = .ok (.ireturn, 1)) (hr : M.2.2.2.1 = some ty) (hk : k ≤ M.2.2.2.2.cells) (hw : w ≤ M.2.2.2.2.slots) : Wq g l M k w pc lv [.int x] h (QI o) := by
  intro p e s m args below meth c C H ls locs hR hS hL
  obtain ⟨hn, hB⟩ := gd_some hB
  cases hB
  refine W.widen hk hw ?_
  exact W.zret C.1 C.2.1 (by rw [C.2.2.2.1]; exact hr) (of_decide_eq_true hn) (fun t ht _ => ⟨⟨_, _, rfl, ⟨rfl, rfl⟩, by rw [ht]; exact hR⟩, hS.F ht⟩) hS.2.2 hd C.2.2.2.2.2.1
theorem q_lret {x : Int64} {o : Int64 × HS} (hB : some (x, h) = some o) (hd : decode M.2.1 pc = .ok (.lreturn, 1)) (hr : M.2.2.2.1 = some .long) (hk : k ≤ M.2.2.2.2.cells) (hw : w ≤ M.2.2.2.2.slots) : Wq g l M k w pc lv [.long x] h (QJ o) := by
  intro p e s m args below meth c C H ls locs hR hS hL
  cases hB
  refine W.widen hk hw ?_
  exact W.lret C.1 C.2.1 (by rw [C.2.2.2.1]; exact hr) (fun t ht _ => ⟨⟨_, _, rfl, ⟨rfl, rfl⟩, by rw [ht]; exact hR⟩, hS.F ht⟩) hS.2.2 hd C.2.2.2.2.2.1
theorem q_vret {o : Unit × HS} (hB : some ((), h) = some o) (hd : decode M.2.1 pc = .ok (.return_, 1)) (hr : M.2.2.2.1 = none) (hk : k ≤ M.2.2.2.2.cells) (hw : w ≤ M.2.2.2.2.slots) : Wq g l M k w pc lv [] h (QV o) := by
  intro p e s m args below meth c C H ls locs hR hS hL
  cases hB
  refine W.widen hk hw ?_
  exact W.vret C.1 C.2.1 (by rw [C.2.2.2.1]; exact hr) (fun t ht _ => ⟨⟨none, _, rfl, ⟨rfl, rfl⟩, by rw [ht]; exact hR⟩, hS.F ht⟩) hS.2.2 hd C.2.2.2.2.2.1
theorem q_aret {r : Option Nat} {Cn : String} {o : Option Nat × HS} (hB : some (r, h) = some o) (hd : decode M.2.1 pc = .ok (.areturn, 1)) (hr : M.2.2.2.1 = some (.object Cn)) (hk : k ≤ M.2.2.2.2.cells) (hw : w ≤ M.2.2.2.2.slots) : Wq g l M k w pc lv [va_rf r] h (QP o) := by
  intro p e s m args below meth c C H ls locs hR hS hL
  cases hB
  refine W.widen hk hw ?_
  show W _ _ _ _ _ _ _ _ _ _ _ _ _ _ _ (F0 m pc ls [tv g (va_rf r)])
  exact W.aret C.1 C.2.1 (by rw [C.2.2.2.1]; exact hr) (Or.inl ⟨_, rfl⟩) (by rw [tv_rf]; exact va_rf_or _) (fun t ht _ => ⟨⟨some (va_rf r), _, rfl, ⟨rfl, rfl⟩, by rw [ht]; exact hR⟩, hS.F ht⟩) hS.2.2 hd C.2.2.2.2.2.1
theorem q_objInit {r : Option Nat} {α : Type} {X : Option α} {o : α} {ix : Nat} (hB : nn r (fun _ => X) = some o) (hd : decode M.2.1 pc = .ok (.invokespecial ix, 3)) (hl : Cond.methodLink M.1.cls ix Lib.objectInit ∈ gtbl) (h1 : Cond.instanceMethod Lib.objectInit ∈ gtbl) (h2 : Cond.code Lib.objectInit ⟨#[0xb1]⟩ 1 none ∈ gtbl) (hf : 1 ≤ M.2.2.2.2.frames) (hlo : (st.map fun v => v.category).sum + 12 ≤ M.2.2.2.2.locals) (kk : X = some o → Wq g l M k w (pc + 3) lv st h Q) : Wq g l M k w pc lv (va_rf r :: st) h Q := by
  intro p e s m args below meth c C H ls locs hR hS hL
  obtain ⟨n, rfl, hX⟩ := nn_some hB
  have hts := C.2.2.2.2.2.2.2.1
  have hcat : ((st.map (tv g)).map fun v => v.category).sum = (st.map fun v => v.category).sum := by
    rw [List.map_map]
    congr 1
    exact List.map_congr_left (fun v _ => tv_cat g v)
  exact W.objInit C.1 C.2.1 C.2.2.2.2.1 (hts _ hl) (hts _ h1) (hts _ h2) rfl (by rw [C.2.2.1]; exact hL.1) rfl hd hf (by show 2 * 0 + _ + 12 ≤ _; rw [hcat]; omega) (kk hX p e s m args below meth c C H ls locs hR hS hL)
/-! calls -/
theorem Pq.blind {as : List Value} : FrameBlind (Pq g as h) := by
  intro a U f mk hq
  obtain ⟨h1, h2, h3, h4⟩ := hq
  exact ⟨h1, h2, Kst.same (u := U) h3 rfl, h4⟩
theorem run_W {p : Program} {e : Env} {R : Room} {s : State} {m : MethodId} {args : Array Value} {below : List Frame} {meth : Method} {c : Code} {H : Heap} {locs : List Loc} {cells slots mc ms : Nat} {Z : State → Prop} {ls : Array Slot} {st0 rest : List Value} {a : Array Value} {Q' : Option Value → HS → Prop}
    (hr : va_Run p l e R s m args below meth c H locs cells slots mc ms (F0 m pc ls st0) rest (QQ g Q' a) (gA g)) (hS : va_S (gA g) s.heap H locs)
    (kk : ∀ (v : Option Value) (u : HS) (H1 : Heap) (locs1 : List Loc), Q' v u → Rl g u H1 → va_S (gA g) s.heap H1 locs1 → W p l e R s m args below meth c H1 locs1 (cells + mc) (slots + ms) Z (F0 m (pc + 3) ls ((v.map (tv g)).toList ++ rest))) : W p l e R s m args below meth c H locs cells slots Z (F0 m pc ls st0) := by
  intro T hT X
  obtain ⟨v, st₀, t, T', L, h0, X', hL, e1, e2, ⟨⟨v9, u, hv, hp, hb⟩, hz, hk⟩, stp⟩ := hr T hT X
  cases hv
  rw [h0] at hz hk
  obtain ⟨t2, a1, b1⟩ := kk v9 u T'.heap (locs ++ L) hp (by rw [e1]; exact hb)
    ⟨Nat.le_trans hS.1 (by rw [e1]; exact hz), fun q h1 h2 => by rw [e1, hk q (Nat.lt_of_lt_of_le h1 hS.1) h2]; exact hS.2.1 q h1 h2, fun q hq => by
      rcases List.mem_append.mp hq with h | h
      · exact hS.2.2 q h
      · exact hL q h⟩ T' rfl X'
  exact ⟨t2, stp t2 a1, b1⟩
/-- the words of a callee -/
def CS (N : MD) (n : Nat) : Prop := Cond.code N.1 N.2.1 N.2.2.1 N.2.2.2.1 ∈ gtbl ∧ Cond.initialized N.1.cls ∈ gtbl ∧ N.1.cls ≠ "java/lang/invoke/MethodHandle" ∧ N.1.cls ≠ "java/lang/invoke/VarHandle" ∧ (parseMethodDescriptor N.1.desc).map (fun d => d.parameters.length) = some n
theorem gt_good : ∀ (N : MD), Cond.code N.1 N.2.1 N.2.2.1 N.2.2.2.1 ∈ gtbl → GoodIn gtbl (.code N.1 N.2.1 N.2.2.1 N.2.2.2.1 :: gtbl) := by
  intro N hc w hw
  rcases List.mem_cons.mp hw with rfl | hw
  · exact ⟨hc, good_of_word (gtbl_good hc)⟩
  · exact ⟨hw, good_of_word (gtbl_good hw)⟩
/-- the room of a call: frames, words, cells, slots, what lies on the stack below the arguments -/
def RO (M N : MD) (k w : Nat) (st : List Value) : Prop := (N.2.2.2.2.frames + 1 ≤ M.2.2.2.2.frames ∧ 8 + (N.2.2.1 + 11) + N.2.2.2.2.locals ≤ M.2.2.2.2.locals) ∧ (k + N.2.2.2.2.cells ≤ M.2.2.2.2.cells ∧ w + N.2.2.2.2.slots ≤ M.2.2.2.2.slots) ∧ (st.map fun v => v.category).sum ≤ 8
theorem Pq.of {as : List Value} {s U : State} {H : Heap} {locs : List Loc} (hR : Rl g h H) (hS : va_S (gA g) s.heap H locs) (hK : Kst g s s.heap) (hz : gz g ≤ s.heap.size) (hU : U.heap = H) (hW : s.WarmedH U.vm) : Pq g as h (as.map (tv g)).toArray U := ⟨rfl, by rw [hU]; exact hR, hK.to hS hW hU, by rw [hU]; exact Nat.le_trans hz hS.1⟩
theorem cat_sum {st : List Value} : ((st.map (tv g)).map fun v => v.category).sum = (st.map fun v => v.category).sum := by
  rw [List.map_map]
  congr 1
  exact List.map_congr_left (fun v _ => tv_cat g v)
theorem q_callS {N : MD} {as : List Value} {n ix : Nat} {Q' : Option Value → HS → Prop} {stk : List Value} (hC : Ct g l N as h Q') (he : stk = as.reverse ++ st) (hd : decode M.2.1 pc = .ok (.invokestatic ix, 3)) (hl : Cond.methodLink M.1.cls ix N.1 ∈ gtbl) (cs : CS N n) (hs : Cond.static N.1 ∈ gtbl) (hn : as.length = n) (ro : RO M N k w st) (kk : ∀ (v : Option Value) (u : HS), Q' v u → Wq g l M (k + N.2.2.2.2.cells) (w + N.2.2.2.2.slots) (pc + 3) lv (v.toList ++ st) u Q) : Wq g l M k w pc lv stk h Q := by
  intro p e s m args below meth c C H ls locs hR hS hL
  subst he
  have hts := C.2.2.2.2.2.2.2.1
  have hK := C.2.2.2.2.2.2.2.2.1
  refine run_W (va_runS (As := as.map (tv g)) (rest := st.map (tv g)) ⟨C.1, C.2.1, C.2.2.1, C.2.2.2.2.1, hts⟩ hC ⟨callB_of n hts (gt_good N cs.1) rfl rfl rfl (hts _ cs.2.1) (hts _ hl) cs.2.2 ro.1, hts _ hs⟩ ⟨Pq.blind, fun U hU hW => Pq.of hR hS hK C.2.2.2.2.2.2.2.2.2 hU hW⟩ rfl (by rw [List.length_map]; exact hn) hL.1 (by show (as.reverse ++ st).map (tv g) = _; rw [List.map_append, List.map_reverse]) (by show 2 * 0 + _ ≤ 8; rw [cat_sum]; have := ro.2.2; omega) hd ro.2.1) hS (fun v u H1 locs1 hq hR1 hS1 => ?_)
  have h9 := kk v u hq p e s m args below meth c C H1 ls locs1 hR1 hS1 hL
  have e9 : (v.toList ++ st).map (tv g) = (v.map (tv g)).toList ++ st.map (tv g) := by cases v <;> simp
  rw [e9] at h9
  exact h9
/-- whether a name stands for a receiver of that class: 0 to 8 a made object, 20 a constant of Field, 21 of Measure, 22 a word -/
def rk (h : HS) (n ci : Nat) : Bool := if ci < 9 then ck h n ci else if ci = 20 then decide (1000 ≤ n ∧ n < 1004) else if ci = 21 then isM n else if ci = 22 then isS n else false
def rcl (ci : Nat) : String := if ci = 20 then RX4 else if ci = 21 then RX5 else if ci = 22 then "java/lang/String" else (vwCl.getD ci (RX0, TX0, 0)).1
theorem rk_cell {s : State} {H : Heap} {locs : List Loc} {n ci : Nat} (hR : Rl g h H) (hS : va_S (gA g) s.heap H locs) (hK : Kst g s s.heap) (hr : rk h n ci = true) : ∃ cell : Cell, H[ga g n]? = some cell ∧ cell.vm.isStatics = false ∧ s.vm.findClass (rcl ci) = some cell.cls := by
  unfold rk at hr
  by_cases h1 : ci < 9
  · rw [if_pos h1] at hr
    obtain ⟨hn, hk⟩ := ck_spec hr
    rw [hR.ad hK hn]
    have hc : vwCl[ci]? = some (vwCl.getD ci (RX0, TX0, 0)) := by
      rw [List.getD_eq_getElem?_getD, List.getElem?_eq_getElem (by simpa using h1)]
      rfl
    have h9 := va_recv hK.2.1 hR.2.2 hc (q0 := n) (a := gz g + n) (fs := fl g h n ci) (by rw [wl_get hn, ce_obj h1 hk])
    have e9 : rcl ci = (vwCl.getD ci (RX0, TX0, 0)).1 := by
      unfold rcl
      rw [if_neg (by omega), if_neg (by omega), if_neg (by omega)]
    rw [e9]
    exact h9
  · rw [if_neg h1] at hr
    by_cases h2 : ci = 20
    · rw [if_pos h2] at hr
      have hr := of_decide_eq_true hr
      have h9 := va_recvE (i := n - 1000) hK.2.2.1.1 (by show n - 1000 < 4; omega) hS
      rw [show 1000 + (n - 1000) = n by omega] at h9
      subst h2
      exact h9
    · rw [if_neg h2] at hr
      by_cases h3 : ci = 21
      · rw [if_pos h3] at hr
        have hr := of_decide_eq_true hr
        have h9 := va_recvE (i := n - 1010) hK.2.2.1.2.1 (by show n - 1010 < 5; omega) hS
        rw [show 1010 + (n - 1010) = n by omega] at h9
        subst h3
        exact h9
      · rw [if_neg h3] at hr
        by_cases h4 : ci = 22
        · rw [if_pos h4] at hr
          have hr := of_decide_eq_true hr
          have h9 := vk_recv (i := n - 1020) hK.2.2.1.2.2.2.1 (by omega) hS
          rw [show 1020 + (n - 1020) = n by omega] at h9
          subst h4
          exact h9
        · rw [if_neg h4] at hr
          cases hr
theorem q_callV {N : MD} {as : List Value} {b n ix ci : Nat} {Q' : Option Value → HS → Prop} {stk : List Value} (hC : Ct g l N (va_rf (some b) :: as) h Q') (he : stk = as.reverse ++ va_rf (some b) :: st) (hr : rk h b ci = true) (hcl : rcl ci = N.1.cls) (hd : decode M.2.1 pc = .ok (.invokevirtual ix, 3)) (hl : Cond.methodLink M.1.cls ix N.1 ∈ gtbl) (cs : CS N n) (hi : Cond.instanceMethod N.1 ∈ gtbl) (hs : Cond.selects N.1.cls N.1 N.1 ∈ gtbl) (hn : as.length = n) (ro : RO M N k w st) (kk : ∀ (v : Option Value) (u : HS), Q' v u → Wq g l M (k + N.2.2.2.2.cells) (w + N.2.2.2.2.slots) (pc + 3) lv (v.toList ++ st) u Q) : Wq g l M k w pc lv stk h Q := by
  intro p e s m args below meth c C H ls locs hR hS hL
  subst he
  have hts := C.2.2.2.2.2.2.2.1
  have hK := C.2.2.2.2.2.2.2.2.1
  have hcell := rk_cell hR hS hK hr
  rw [hcl] at hcell
  refine run_W (va_runV (b := ga g b) (As := as.map (tv g)) (rest := st.map (tv g)) ⟨C.1, C.2.1, C.2.2.1, C.2.2.2.2.1, hts⟩ hC ⟨callB_of n hts (gt_good N cs.1) rfl rfl rfl (hts _ cs.2.1) (hts _ hl) cs.2.2 ro.1, hts _ hi, hts _ hs⟩ ⟨Pq.blind, hcell, fun U hU hW => Pq.of (as := va_rf (some b) :: as) hR hS hK C.2.2.2.2.2.2.2.2.2 hU hW⟩ rfl (by rw [List.length_map]; exact hn) hL.1 (by show (as.reverse ++ va_rf (some b) :: st).map (tv g) = _; rw [List.map_append, List.map_reverse]; rfl) (by show 2 * 0 + _ ≤ 8; rw [cat_sum]; have := ro.2.2; omega) hd ro.2.1) hS (fun v u H1 locs1 hq hR1 hS1 => ?_)
  have h9 := kk v u hq p e s m args below meth c C H1 ls locs1 hR1 hS1 hL
  have e9 : (v.toList ++ st).map (tv g) = (v.map (tv g)).toList ++ st.map (tv g) := by cases v <;> simp
  rw [e9] at h9
  exact h9
theorem q_callI {N : MD} {as : List Value} {b n ix : Nat} {Q' : Option Value → HS → Prop} {stk : List Value} (hC : Ct g l N (va_rf (some b) :: as) h Q') (he : stk = as.reverse ++ va_rf (some b) :: st) (hd : decode M.2.1 pc = .ok (.invokespecial ix, 3)) (hl : Cond.methodLink M.1.cls ix N.1 ∈ gtbl) (cs : CS N n) (hi : Cond.instanceMethod N.1 ∈ gtbl) (hy : N.1.name = "<init>") (hv : N.2.2.2.1 = none) (hn : as.length = n) (ro : RO M N k w st) (kk : ∀ (v : Option Value) (u : HS), Q' v u → Wq g l M (k + N.2.2.2.2.cells) (w + N.2.2.2.2.slots) (pc + 3) lv (v.toList ++ st) u Q) : Wq g l M k w pc lv stk h Q := by
  intro p e s m args below meth c C H ls locs hR hS hL
  subst he
  have hts := C.2.2.2.2.2.2.2.1
  have hK := C.2.2.2.2.2.2.2.2.1
  obtain ⟨N1, N2, N3, N4, N5⟩ := N
  cases hv
  refine run_W (va_runI (b := ga g b) (As := as.map (tv g)) (rest := st.map (tv g)) ⟨C.1, C.2.1, C.2.2.1, C.2.2.2.2.1, hts⟩ hC ⟨callB_of n hts (gt_good (N1, N2, N3, none, N5) cs.1) rfl rfl rfl (hts _ cs.2.1) (hts _ hl) cs.2.2 ro.1, hy, hts _ hi⟩ ⟨Pq.blind, fun U hU hW => Pq.of (as := va_rf (some b) :: as) hR hS hK C.2.2.2.2.2.2.2.2.2 hU hW⟩ rfl (by rw [List.length_map]; exact hn) hL.1 (by show (as.reverse ++ va_rf (some b) :: st).map (tv g) = _; rw [List.map_append, List.map_reverse]; rfl) (by show 2 * 0 + _ ≤ 8; rw [cat_sum]; have := ro.2.2; omega) hd ro.2.1) hS (fun v u H1 locs1 hq hR1 hS1 => ?_)
  have h9 := kk v u hq p e s m args below meth c C H1 ls locs1 hR1 hS1 hL
  have e9 : (v.toList ++ st).map (tv g) = (v.map (tv g)).toList ++ st.map (tv g) := by cases v <;> simp
  rw [e9] at h9
  exact h9
theorem q_callIN {N : MD} {as : List Value} {b n ix : Nat} {host : String} {Q' : Option Value → HS → Prop} {stk : List Value} (hC : Ct g l N (va_rf (some b) :: as) h Q') (he : stk = as.reverse ++ va_rf (some b) :: st) (hd : decode M.2.1 pc = .ok (.invokespecial ix, 3)) (hl : Cond.methodLinkNest M.1.cls ix N.1 host ∈ nestW) (cs : CS N n) (hi : Cond.instanceMethod N.1 ∈ gtbl) (hy : N.1.name = "<init>") (hv : N.2.2.2.1 = none) (hn : as.length = n) (ro : RO M N k w st) (kk : ∀ (v : Option Value) (u : HS), Q' v u → Wq g l M (k + N.2.2.2.2.cells) (w + N.2.2.2.2.slots) (pc + 3) lv (v.toList ++ st) u Q) : Wq g l M k w pc lv stk h Q := by
  intro p e s m args below meth c C H ls locs hR hS hL
  subst he
  have hts := C.2.2.2.2.2.2.2.1
  have hK := C.2.2.2.2.2.2.2.2.1
  obtain ⟨N1, N2, N3, N4, N5⟩ := N
  cases hv
  refine run_W (va_runIN (b := ga g b) (As := as.map (tv g)) (rest := st.map (tv g)) ⟨C.1, C.2.1, C.2.2.1, C.2.2.2.2.1, hts⟩ hC ⟨va_cnB n hts (gt_good (N1, N2, N3, none, N5) cs.1) rfl rfl rfl (hK.2.2.2.2.1 _ hl) (hts _ cs.2.1) cs.2.2 ro.1, hy, hts _ hi⟩ ⟨Pq.blind, fun U hU hW => Pq.of (as := va_rf (some b) :: as) hR hS hK C.2.2.2.2.2.2.2.2.2 hU hW⟩ rfl (by rw [List.length_map]; exact hn) hL.1 (by show (as.reverse ++ va_rf (some b) :: st).map (tv g) = _; rw [List.map_append, List.map_reverse]; rfl) (by show 2 * 0 + _ ≤ 8; rw [cat_sum]; have := ro.2.2; omega) hd ro.2.1) hS (fun v u H1 locs1 hq hR1 hS1 => ?_)
  have h9 := kk v u hq p e s m args below meth c C H1 ls locs1 hR1 hS1 hL
  have e9 : (v.toList ++ st).map (tv g) = (v.map (tv g)).toList ++ st.map (tv g) := by cases v <;> simp
  rw [e9] at h9
  exact h9
/-- a method's contract out of the walk of its body -/
theorem Ct.of {as : List Value} (hp : plainName M.1.cls = true) (hlen : (lg_sl as).length ≤ M.2.2.1) (h0 : Wq g l M 0 0 0 (entL M.2.2.1 as) [] h Q) : Ct g l M as h Q := by
  refine Met.ofW (cc := M.2.1) (maxL := M.2.2.1) (ret := M.2.2.2.1) hp rfl ?_
  intro p e s m args below meth c s₁ B hml hv
  obtain ⟨rfl, hR, hK, hz⟩ := hv
  have hlen9 : (lg_sl (as.map (tv g))).length ≤ M.2.2.1 := by
    have e9 : ∀ l : List Value, (lg_sl (l.map (tv g))).length = (lg_sl l).length := by
      intro l
      induction l with
      | nil => rfl
      | cons v t ih =>
        simp only [lg_sl, List.map_cons, List.flatMap_cons, List.length_append, tv_cat] at ih ⊢
        rw [ih]
        congr 1
        split <;> rfl
    rw [e9]
    exact hlen
  have hl := lv_entry (as.map (tv g)) (n := M.2.2.1) hlen9
  rw [lg_entry_eq]
  have hts := atoms_spec (ws := .code M.1 M.2.1 M.2.2.1 M.2.2.2.1 :: gtbl) B.pre
  exact h0 p e s m _ below meth c ⟨B.exec, B.bytes, hml, B.returns, findClass_of_methodNamed B.named, B.notSynchronized, (name_of_methodNamed B.named B.method).1, fun w hw => hts w (List.mem_cons_of_mem _ hw), hK, hz⟩ s.heap _ [] hR va_S.rf ⟨hl.1, hl.2.1, fun i v hv => hl.2.2 (i, tv g v) (by
    have h9 := entL_get g as M.2.2.1 0 i v hv
    rw [Nat.zero_add] at h9
    exact h9)⟩
end RS
end
