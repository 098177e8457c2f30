-- ===== PART A: goes FIRST, ahead of the names: the tables' words, and 'selects' of the private methods out of them =====
/-- a private method of a class that the tables say can be made, by its rows of tables_1 -/
def lw_okq (q : MethodName × Nat) : Prop := (q.1.cls ≠ "java/lang/invoke/MethodHandle" ∧ q.1.cls ≠ "java/lang/invoke/VarHandle") ∧ Cond.instantiable q.1.cls q.2 ∈ tables_1 ∧ Cond.privateMethod q.1 ∈ tables_1 ∧ Cond.instanceMethod q.1 ∈ tables_1
theorem lw_p0 : lw_okq (⟨"CrossTable$PlanText", "letterAt", "(I)I"⟩, 2) := ⟨⟨by decide +kernel, by decide +kernel⟩, List.mem_of_getElem? (i := 31) (by decide +kernel), List.mem_of_getElem? (i := 249) (by decide +kernel), List.mem_of_getElem? (i := 250) (by decide +kernel)⟩
theorem lw_p1 : lw_okq (⟨"CrossTable$PlanText", "spelt", "(Ljava/lang/String;)I"⟩, 2) := ⟨⟨by decide +kernel, by decide +kernel⟩, List.mem_of_getElem? (i := 31) (by decide +kernel), List.mem_of_getElem? (i := 275) (by decide +kernel), List.mem_of_getElem? (i := 276) (by decide +kernel)⟩
theorem lw_p2 : lw_okq (⟨"CrossTable$PlanText", "figureAt", "(I)I"⟩, 2) := ⟨⟨by decide +kernel, by decide +kernel⟩, List.mem_of_getElem? (i := 31) (by decide +kernel), List.mem_of_getElem? (i := 327) (by decide +kernel), List.mem_of_getElem? (i := 328) (by decide +kernel)⟩
theorem lw_p3 : lw_okq (⟨"CrossTable", "rowsOf", "(LCrossTable$Entries;)LCrossTable$Axis;"⟩, 11) := ⟨⟨by decide +kernel, by decide +kernel⟩, List.mem_of_getElem? (i := 23) (by decide +kernel), List.mem_of_getElem? (i := 335) (by decide +kernel), List.mem_of_getElem? (i := 336) (by decide +kernel)⟩
theorem lw_p4 : lw_okq (⟨"CrossTable$Axis", "greatestBut", "(I)I"⟩, 4) := ⟨⟨by decide +kernel, by decide +kernel⟩, List.mem_of_getElem? (i := 149) (by decide +kernel), List.mem_of_getElem? (i := 396) (by decide +kernel), List.mem_of_getElem? (i := 397) (by decide +kernel)⟩
theorem lw_p5 : lw_okq (⟨"CrossTable$Axis", "closeUp", "(I)V"⟩, 4) := ⟨⟨by decide +kernel, by decide +kernel⟩, List.mem_of_getElem? (i := 149) (by decide +kernel), List.mem_of_getElem? (i := 400) (by decide +kernel), List.mem_of_getElem? (i := 401) (by decide +kernel)⟩
theorem lw_p6 : lw_okq (⟨"CrossTable$Entries", "shift", "(III)V"⟩, 4) := ⟨⟨by decide +kernel, by decide +kernel⟩, List.mem_of_getElem? (i := 84) (by decide +kernel), List.mem_of_getElem? (i := 441) (by decide +kernel), List.mem_of_getElem? (i := 442) (by decide +kernel)⟩
theorem lw_p7 : lw_okq (⟨"CrossTable", "columnsOf", "(LCrossTable$Entries;)LCrossTable$Axis;"⟩, 11) := ⟨⟨by decide +kernel, by decide +kernel⟩, List.mem_of_getElem? (i := 23) (by decide +kernel), List.mem_of_getElem? (i := 488) (by decide +kernel), List.mem_of_getElem? (i := 489) (by decide +kernel)⟩
theorem lw_p8 : lw_okq (⟨"CrossTable", "axisOf", "(I)LCrossTable$Axis;"⟩, 11) := ⟨⟨by decide +kernel, by decide +kernel⟩, List.mem_of_getElem? (i := 23) (by decide +kernel), List.mem_of_getElem? (i := 502) (by decide +kernel), List.mem_of_getElem? (i := 503) (by decide +kernel)⟩
theorem lw_p9 : lw_okq (⟨"CrossTable", "cellOf", "(LCrossTable$Entries;II)I"⟩, 11) := ⟨⟨by decide +kernel, by decide +kernel⟩, List.mem_of_getElem? (i := 23) (by decide +kernel), List.mem_of_getElem? (i := 514) (by decide +kernel), List.mem_of_getElem? (i := 515) (by decide +kernel)⟩
theorem lw_p10 : lw_okq (⟨"CrossTable", "measureOf", "(LCrossTable$Entries;I)I"⟩, 11) := ⟨⟨by decide +kernel, by decide +kernel⟩, List.mem_of_getElem? (i := 23) (by decide +kernel), List.mem_of_getElem? (i := 522) (by decide +kernel), List.mem_of_getElem? (i := 523) (by decide +kernel)⟩
theorem lw_p11 : lw_okq (⟨"CrossTable", "totalOf", "(LCrossTable$Entries;)I"⟩, 11) := ⟨⟨by decide +kernel, by decide +kernel⟩, List.mem_of_getElem? (i := 23) (by decide +kernel), List.mem_of_getElem? (i := 539) (by decide +kernel), List.mem_of_getElem? (i := 540) (by decide +kernel)⟩
theorem lw_p12 : lw_okq (⟨"CrossTable", "stands", "(I)Z"⟩, 11) := ⟨⟨by decide +kernel, by decide +kernel⟩, List.mem_of_getElem? (i := 23) (by decide +kernel), List.mem_of_getElem? (i := 565) (by decide +kernel), List.mem_of_getElem? (i := 566) (by decide +kernel)⟩
theorem lw_p13 : lw_okq (⟨"CrossTable", "addToTrial", "(III)Z"⟩, 11) := ⟨⟨by decide +kernel, by decide +kernel⟩, List.mem_of_getElem? (i := 23) (by decide +kernel), List.mem_of_getElem? (i := 569) (by decide +kernel), List.mem_of_getElem? (i := 570) (by decide +kernel)⟩
theorem lw_p14 : lw_okq (⟨"CrossTable", "dropFromTrial", "(I)Z"⟩, 11) := ⟨⟨by decide +kernel, by decide +kernel⟩, List.mem_of_getElem? (i := 23) (by decide +kernel), List.mem_of_getElem? (i := 573) (by decide +kernel), List.mem_of_getElem? (i := 574) (by decide +kernel)⟩
theorem lw_p15 : lw_okq (⟨"CrossTable", "changeInTrial", "(II)Z"⟩, 11) := ⟨⟨by decide +kernel, by decide +kernel⟩, List.mem_of_getElem? (i := 23) (by decide +kernel), List.mem_of_getElem? (i := 577) (by decide +kernel), List.mem_of_getElem? (i := 578) (by decide +kernel)⟩
def lw_privs_1 : List (MethodName × Nat) := [(⟨"CrossTable$PlanText", "letterAt", "(I)I"⟩, 2), (⟨"CrossTable$PlanText", "spelt", "(Ljava/lang/String;)I"⟩, 2), (⟨"CrossTable$PlanText", "figureAt", "(I)I"⟩, 2), (⟨"CrossTable", "rowsOf", "(LCrossTable$Entries;)LCrossTable$Axis;"⟩, 11), (⟨"CrossTable$Axis", "greatestBut", "(I)I"⟩, 4), (⟨"CrossTable$Axis", "closeUp", "(I)V"⟩, 4), (⟨"CrossTable$Entries", "shift", "(III)V"⟩, 4), (⟨"CrossTable", "columnsOf", "(LCrossTable$Entries;)LCrossTable$Axis;"⟩, 11), (⟨"CrossTable", "axisOf", "(I)LCrossTable$Axis;"⟩, 11), (⟨"CrossTable", "cellOf", "(LCrossTable$Entries;II)I"⟩, 11), (⟨"CrossTable", "measureOf", "(LCrossTable$Entries;I)I"⟩, 11), (⟨"CrossTable", "totalOf", "(LCrossTable$Entries;)I"⟩, 11), (⟨"CrossTable", "stands", "(I)Z"⟩, 11), (⟨"CrossTable", "addToTrial", "(III)Z"⟩, 11), (⟨"CrossTable", "dropFromTrial", "(I)Z"⟩, 11), (⟨"CrossTable", "changeInTrial", "(II)Z"⟩, 11)]
theorem lw_r1 : ∀ q ∈ lw_privs_1, lw_okq q := List.forall_mem_cons.mpr ⟨lw_p0, List.forall_mem_cons.mpr ⟨lw_p1, List.forall_mem_cons.mpr ⟨lw_p2, List.forall_mem_cons.mpr ⟨lw_p3, List.forall_mem_cons.mpr ⟨lw_p4, List.forall_mem_cons.mpr ⟨lw_p5, List.forall_mem_cons.mpr ⟨lw_p6, List.forall_mem_cons.mpr ⟨lw_p7, List.forall_mem_cons.mpr ⟨lw_p8, List.forall_mem_cons.mpr ⟨lw_p9, List.forall_mem_cons.mpr ⟨lw_p10, List.forall_mem_cons.mpr ⟨lw_p11, List.forall_mem_cons.mpr ⟨lw_p12, List.forall_mem_cons.mpr ⟨lw_p13, List.forall_mem_cons.mpr ⟨lw_p14, List.forall_mem_cons.mpr ⟨lw_p15, fun _ h => absurd h List.not_mem_nil⟩⟩⟩⟩⟩⟩⟩⟩⟩⟩⟩⟩⟩⟩⟩⟩
theorem lw_p16 : lw_okq (⟨"CrossTable", "isAllSeenSo", "(III)Z"⟩, 11) := ⟨⟨by decide +kernel, by decide +kernel⟩, List.mem_of_getElem? (i := 23) (by decide +kernel), List.mem_of_getElem? (i := 605) (by decide +kernel), List.mem_of_getElem? (i := 606) (by decide +kernel)⟩
theorem lw_p17 : lw_okq (⟨"CrossTable", "worthOf", "(I)I"⟩, 11) := ⟨⟨by decide +kernel, by decide +kernel⟩, List.mem_of_getElem? (i := 23) (by decide +kernel), List.mem_of_getElem? (i := 620) (by decide +kernel), List.mem_of_getElem? (i := 621) (by decide +kernel)⟩
theorem lw_p18 : lw_okq (⟨"CrossTable", "drawIntoTrial", "(I)V"⟩, 11) := ⟨⟨by decide +kernel, by decide +kernel⟩, List.mem_of_getElem? (i := 23) (by decide +kernel), List.mem_of_getElem? (i := 654) (by decide +kernel), List.mem_of_getElem? (i := 655) (by decide +kernel)⟩
theorem lw_p19 : lw_okq (⟨"CrossTableModel", "readText", "()I"⟩, 30) := ⟨⟨by decide +kernel, by decide +kernel⟩, List.mem_of_getElem? (i := 678) (by decide +kernel), List.mem_of_getElem? (i := 791) (by decide +kernel), List.mem_of_getElem? (i := 792) (by decide +kernel)⟩
theorem lw_p20 : lw_okq (⟨"CrossTableModel", "readEnd", "(I)I"⟩, 30) := ⟨⟨by decide +kernel, by decide +kernel⟩, List.mem_of_getElem? (i := 678) (by decide +kernel), List.mem_of_getElem? (i := 802) (by decide +kernel), List.mem_of_getElem? (i := 803) (by decide +kernel)⟩
theorem lw_p21 : lw_okq (⟨"CrossTableModel", "findRows", "(I)V"⟩, 30) := ⟨⟨by decide +kernel, by decide +kernel⟩, List.mem_of_getElem? (i := 678) (by decide +kernel), List.mem_of_getElem? (i := 814) (by decide +kernel), List.mem_of_getElem? (i := 815) (by decide +kernel)⟩
theorem lw_p22 : lw_okq (⟨"CrossTableModel", "groupOf", "(III)I"⟩, 30) := ⟨⟨by decide +kernel, by decide +kernel⟩, List.mem_of_getElem? (i := 678) (by decide +kernel), List.mem_of_getElem? (i := 818) (by decide +kernel), List.mem_of_getElem? (i := 819) (by decide +kernel)⟩
theorem lw_p23 : lw_okq (⟨"CrossTableModel", "many", "(I)I"⟩, 30) := ⟨⟨by decide +kernel, by decide +kernel⟩, List.mem_of_getElem? (i := 678) (by decide +kernel), List.mem_of_getElem? (i := 822) (by decide +kernel), List.mem_of_getElem? (i := 823) (by decide +kernel)⟩
theorem lw_p24 : lw_okq (⟨"CrossTableModel", "keyOf", "(III)I"⟩, 30) := ⟨⟨by decide +kernel, by decide +kernel⟩, List.mem_of_getElem? (i := 678) (by decide +kernel), List.mem_of_getElem? (i := 826) (by decide +kernel), List.mem_of_getElem? (i := 827) (by decide +kernel)⟩
theorem lw_p25 : lw_okq (⟨"CrossTableModel", "at", "(II)I"⟩, 30) := ⟨⟨by decide +kernel, by decide +kernel⟩, List.mem_of_getElem? (i := 678) (by decide +kernel), List.mem_of_getElem? (i := 830) (by decide +kernel), List.mem_of_getElem? (i := 831) (by decide +kernel)⟩
theorem lw_p26 : lw_okq (⟨"CrossTableModel", "pick", "(II)V"⟩, 30) := ⟨⟨by decide +kernel, by decide +kernel⟩, List.mem_of_getElem? (i := 678) (by decide +kernel), List.mem_of_getElem? (i := 834) (by decide +kernel), List.mem_of_getElem? (i := 835) (by decide +kernel)⟩
theorem lw_p27 : lw_okq (⟨"CrossTableModel", "measureOf", "(II)I"⟩, 30) := ⟨⟨by decide +kernel, by decide +kernel⟩, List.mem_of_getElem? (i := 678) (by decide +kernel), List.mem_of_getElem? (i := 838) (by decide +kernel), List.mem_of_getElem? (i := 839) (by decide +kernel)⟩
theorem lw_p28 : lw_okq (⟨"CrossTableModel", "twinsOf", "(II)I"⟩, 30) := ⟨⟨by decide +kernel, by decide +kernel⟩, List.mem_of_getElem? (i := 678) (by decide +kernel), List.mem_of_getElem? (i := 842) (by decide +kernel), List.mem_of_getElem? (i := 843) (by decide +kernel)⟩
theorem lw_p29 : lw_okq (⟨"CrossTableModel", "amountOf", "(II)I"⟩, 30) := ⟨⟨by decide +kernel, by decide +kernel⟩, List.mem_of_getElem? (i := 678) (by decide +kernel), List.mem_of_getElem? (i := 849) (by decide +kernel), List.mem_of_getElem? (i := 850) (by decide +kernel)⟩
theorem lw_p30 : lw_okq (⟨"CrossTableModel", "keepAct", "()V"⟩, 30) := ⟨⟨by decide +kernel, by decide +kernel⟩, List.mem_of_getElem? (i := 678) (by decide +kernel), List.mem_of_getElem? (i := 868) (by decide +kernel), List.mem_of_getElem? (i := 869) (by decide +kernel)⟩
theorem lw_p31 : lw_okq (⟨"CrossTableModel", "addOn", "(II)V"⟩, 30) := ⟨⟨by decide +kernel, by decide +kernel⟩, List.mem_of_getElem? (i := 678) (by decide +kernel), List.mem_of_getElem? (i := 875) (by decide +kernel), List.mem_of_getElem? (i := 876) (by decide +kernel)⟩
def lw_privs_2 : List (MethodName × Nat) := [(⟨"CrossTable", "isAllSeenSo", "(III)Z"⟩, 11), (⟨"CrossTable", "worthOf", "(I)I"⟩, 11), (⟨"CrossTable", "drawIntoTrial", "(I)V"⟩, 11), (⟨"CrossTableModel", "readText", "()I"⟩, 30), (⟨"CrossTableModel", "readEnd", "(I)I"⟩, 30), (⟨"CrossTableModel", "findRows", "(I)V"⟩, 30), (⟨"CrossTableModel", "groupOf", "(III)I"⟩, 30), (⟨"CrossTableModel", "many", "(I)I"⟩, 30), (⟨"CrossTableModel", "keyOf", "(III)I"⟩, 30), (⟨"CrossTableModel", "at", "(II)I"⟩, 30), (⟨"CrossTableModel", "pick", "(II)V"⟩, 30), (⟨"CrossTableModel", "measureOf", "(II)I"⟩, 30), (⟨"CrossTableModel", "twinsOf", "(II)I"⟩, 30), (⟨"CrossTableModel", "amountOf", "(II)I"⟩, 30), (⟨"CrossTableModel", "keepAct", "()V"⟩, 30), (⟨"CrossTableModel", "addOn", "(II)V"⟩, 30)]
theorem lw_r2 : ∀ q ∈ lw_privs_2, lw_okq q := List.forall_mem_cons.mpr ⟨lw_p16, List.forall_mem_cons.mpr ⟨lw_p17, List.forall_mem_cons.mpr ⟨lw_p18, List.forall_mem_cons.mpr ⟨lw_p19, List.forall_mem_cons.mpr ⟨lw_p20, List.forall_mem_cons.mpr ⟨lw_p21, List.forall_mem_cons.mpr ⟨lw_p22, List.forall_mem_cons.mpr ⟨lw_p23, List.forall_mem_cons.mpr ⟨lw_p24, List.forall_mem_cons.mpr ⟨lw_p25, List.forall_mem_cons.mpr ⟨lw_p26, List.forall_mem_cons.mpr ⟨lw_p27, List.forall_mem_cons.mpr ⟨lw_p28, List.forall_mem_cons.mpr ⟨lw_p29, List.forall_mem_cons.mpr ⟨lw_p30, List.forall_mem_cons.mpr ⟨lw_p31, fun _ h => absurd h List.not_mem_nil⟩⟩⟩⟩⟩⟩⟩⟩⟩⟩⟩⟩⟩⟩⟩⟩
theorem lw_p32 : lw_okq (⟨"CrossTableModel", "isThere", "(I)Z"⟩, 30) := ⟨⟨by decide +kernel, by decide +kernel⟩, List.mem_of_getElem? (i := 678) (by decide +kernel), List.mem_of_getElem? (i := 883) (by decide +kernel), List.mem_of_getElem? (i := 884) (by decide +kernel)⟩
theorem lw_p33 : lw_okq (⟨"CrossTableModel", "dropOn", "(II)V"⟩, 30) := ⟨⟨by decide +kernel, by decide +kernel⟩, List.mem_of_getElem? (i := 678) (by decide +kernel), List.mem_of_getElem? (i := 887) (by decide +kernel), List.mem_of_getElem? (i := 888) (by decide +kernel)⟩
theorem lw_p34 : lw_okq (⟨"CrossTableModel", "rowKeyOf", "(I)I"⟩, 30) := ⟨⟨by decide +kernel, by decide +kernel⟩, List.mem_of_getElem? (i := 678) (by decide +kernel), List.mem_of_getElem? (i := 903) (by decide +kernel), List.mem_of_getElem? (i := 904) (by decide +kernel)⟩
theorem lw_p35 : lw_okq (⟨"CrossTableModel", "findColumns", "(I)V"⟩, 30) := ⟨⟨by decide +kernel, by decide +kernel⟩, List.mem_of_getElem? (i := 678) (by decide +kernel), List.mem_of_getElem? (i := 911) (by decide +kernel), List.mem_of_getElem? (i := 912) (by decide +kernel)⟩
theorem lw_p36 : lw_okq (⟨"CrossTableModel", "rowOf", "(I)I"⟩, 30) := ⟨⟨by decide +kernel, by decide +kernel⟩, List.mem_of_getElem? (i := 678) (by decide +kernel), List.mem_of_getElem? (i := 919) (by decide +kernel), List.mem_of_getElem? (i := 920) (by decide +kernel)⟩
theorem lw_p37 : lw_okq (⟨"CrossTableModel", "columnOf", "(I)I"⟩, 30) := ⟨⟨by decide +kernel, by decide +kernel⟩, List.mem_of_getElem? (i := 678) (by decide +kernel), List.mem_of_getElem? (i := 923) (by decide +kernel), List.mem_of_getElem? (i := 924) (by decide +kernel)⟩
theorem lw_p38 : lw_okq (⟨"CrossTableModel", "allOf", "(I)I"⟩, 30) := ⟨⟨by decide +kernel, by decide +kernel⟩, List.mem_of_getElem? (i := 678) (by decide +kernel), List.mem_of_getElem? (i := 939) (by decide +kernel), List.mem_of_getElem? (i := 940) (by decide +kernel)⟩
theorem lw_p39 : lw_okq (⟨"CrossTableModel", "layTrial", "()V"⟩, 30) := ⟨⟨by decide +kernel, by decide +kernel⟩, List.mem_of_getElem? (i := 678) (by decide +kernel), List.mem_of_getElem? (i := 947) (by decide +kernel), List.mem_of_getElem? (i := 948) (by decide +kernel)⟩
theorem lw_p40 : lw_okq (⟨"CrossTableModel", "tryThing", "(III)Z"⟩, 30) := ⟨⟨by decide +kernel, by decide +kernel⟩, List.mem_of_getElem? (i := 678) (by decide +kernel), List.mem_of_getElem? (i := 963) (by decide +kernel), List.mem_of_getElem? (i := 964) (by decide +kernel)⟩
theorem lw_p41 : lw_okq (⟨"CrossTableModel", "mayBe", "(I)Z"⟩, 30) := ⟨⟨by decide +kernel, by decide +kernel⟩, List.mem_of_getElem? (i := 678) (by decide +kernel), List.mem_of_getElem? (i := 981) (by decide +kernel), List.mem_of_getElem? (i := 982) (by decide +kernel)⟩
theorem lw_p42 : lw_okq (⟨"CrossTableModel", "worthBy", "(I)I"⟩, 30) := ⟨⟨by decide +kernel, by decide +kernel⟩, List.mem_of_getElem? (i := 678) (by decide +kernel), List.mem_of_getElem? (i := 995) (by decide +kernel), List.mem_of_getElem? (i := 996) (by decide +kernel)⟩
theorem lw_p43 : lw_okq (⟨"CrossTableModel", "measureBy", "(I)I"⟩, 30) := ⟨⟨by decide +kernel, by decide +kernel⟩, List.mem_of_getElem? (i := 678) (by decide +kernel), List.mem_of_getElem? (i := 999) (by decide +kernel), List.mem_of_getElem? (i := 1000) (by decide +kernel)⟩
theorem lw_p44 : lw_okq (⟨"CrossTableModel", "filledCells", "()I"⟩, 30) := ⟨⟨by decide +kernel, by decide +kernel⟩, List.mem_of_getElem? (i := 678) (by decide +kernel), List.mem_of_getElem? (i := 1034) (by decide +kernel), List.mem_of_getElem? (i := 1035) (by decide +kernel)⟩
theorem lw_p45 : lw_okq (⟨"CrossTableModel", "missingAmounts", "()I"⟩, 30) := ⟨⟨by decide +kernel, by decide +kernel⟩, List.mem_of_getElem? (i := 678) (by decide +kernel), List.mem_of_getElem? (i := 1038) (by decide +kernel), List.mem_of_getElem? (i := 1039) (by decide +kernel)⟩
def lw_privs_3 : List (MethodName × Nat) := [(⟨"CrossTableModel", "isThere", "(I)Z"⟩, 30), (⟨"CrossTableModel", "dropOn", "(II)V"⟩, 30), (⟨"CrossTableModel", "rowKeyOf", "(I)I"⟩, 30), (⟨"CrossTableModel", "findColumns", "(I)V"⟩, 30), (⟨"CrossTableModel", "rowOf", "(I)I"⟩, 30), (⟨"CrossTableModel", "columnOf", "(I)I"⟩, 30), (⟨"CrossTableModel", "allOf", "(I)I"⟩, 30), (⟨"CrossTableModel", "layTrial", "()V"⟩, 30), (⟨"CrossTableModel", "tryThing", "(III)Z"⟩, 30), (⟨"CrossTableModel", "mayBe", "(I)Z"⟩, 30), (⟨"CrossTableModel", "worthBy", "(I)I"⟩, 30), (⟨"CrossTableModel", "measureBy", "(I)I"⟩, 30), (⟨"CrossTableModel", "filledCells", "()I"⟩, 30), (⟨"CrossTableModel", "missingAmounts", "()I"⟩, 30)]
theorem lw_r3 : ∀ q ∈ lw_privs_3, lw_okq q := List.forall_mem_cons.mpr ⟨lw_p32, List.forall_mem_cons.mpr ⟨lw_p33, List.forall_mem_cons.mpr ⟨lw_p34, List.forall_mem_cons.mpr ⟨lw_p35, List.forall_mem_cons.mpr ⟨lw_p36, List.forall_mem_cons.mpr ⟨lw_p37, List.forall_mem_cons.mpr ⟨lw_p38, List.forall_mem_cons.mpr ⟨lw_p39, List.forall_mem_cons.mpr ⟨lw_p40, List.forall_mem_cons.mpr ⟨lw_p41, List.forall_mem_cons.mpr ⟨lw_p42, List.forall_mem_cons.mpr ⟨lw_p43, List.forall_mem_cons.mpr ⟨lw_p44, List.forall_mem_cons.mpr ⟨lw_p45, fun _ h => absurd h List.not_mem_nil⟩⟩⟩⟩⟩⟩⟩⟩⟩⟩⟩⟩⟩⟩
def lw_privs : List (MethodName × Nat) := lw_privs_1 ++ (lw_privs_2 ++ (lw_privs_3))
def lw_tbl : List Cond := k2_sels lw_privs ++ tables_1
theorem lw_privs_ok : ∀ q ∈ lw_privs, lw_okq q := by
  show ∀ q ∈ lw_privs_1 ++ (lw_privs_2 ++ (lw_privs_3)), lw_okq q
  exact List.forall_mem_append.mpr ⟨lw_r1, List.forall_mem_append.mpr ⟨lw_r2, lw_r3⟩⟩

/-! ===== BEGIN printed: names, fields, word lists, decode rows ===== -/
def RX0 : String := "CrossTable$Act"
def TX0 : u_T := fun k => match k with
  | 0 => ("CrossTable$Act", "kind", "I", false)
  | 1 => ("CrossTable$Act", "place", "I", false)
  | 2 => ("CrossTable$Act", "town", "I", false)
  | 3 => ("CrossTable$Act", "ware", "I", false)
  | _ => ("CrossTable$Act", "amount", "I", false)
def tyX0 : Nat → FieldType := fun k => match k with
  | 0 => .int
  | 1 => .int
  | 2 => .int
  | 3 => .int
  | _ => .int
abbrev wsX00 : List Cond := u_ws RX0 TX0 5
theorem nmX0 : ∀ a, a < 5 → ∀ b, b < 5 → a ≠ b → (TX0 a).2.1 ≠ (TX0 b).2.1 := by decide +kernel
theorem tyX0_ok : ∀ k, k < 5 → parseFieldDescriptor (TX0 k).2.2.1 = some (tyX0 k) := by decide +kernel
abbrev cX0_init : ByteArray := prog_2_method_1_code
def yX0_init : MethodName := ⟨RX0, "<init>", "()V"⟩
abbrev cX0_tell : ByteArray := prog_2_method_2_code
def yX0_tell : MethodName := ⟨RX0, "tell", "(IIIII)V"⟩
abbrev cX0_takeBack : ByteArray := prog_2_method_3_code
def yX0_takeBack : MethodName := ⟨RX0, "takeBack", "(LCrossTable$Entries;)V"⟩
def RX1 : String := "CrossTable$ActRow"
def TX1 : u_T := fun k => match k with
  | 0 => ("CrossTable$ActRow", "acts", "[LCrossTable$Act;", true)
  | _ => ("CrossTable$ActRow", "size", "I", false)
def tyX1 : Nat → FieldType := fun k => match k with
  | 0 => .array (.object "CrossTable$Act")
  | _ => .int
abbrev wsX10 : List Cond := u_ws RX1 TX1 2
theorem nmX1 : ∀ a, a < 2 → ∀ b, b < 2 → a ≠ b → (TX1 a).2.1 ≠ (TX1 b).2.1 := by decide +kernel
theorem tyX1_ok : ∀ k, k < 2 → parseFieldDescriptor (TX1 k).2.2.1 = some (tyX1 k) := by decide +kernel
abbrev cX1_init : ByteArray := prog_3_method_1_code
def yX1_init : MethodName := ⟨RX1, "<init>", "()V"⟩
abbrev cX1_next : ByteArray := prog_3_method_2_code
def yX1_next : MethodName := ⟨RX1, "next", "()LCrossTable$Act;"⟩
abbrev cX1_takeLast : ByteArray := prog_3_method_3_code
def yX1_takeLast : MethodName := ⟨RX1, "takeLast", "()LCrossTable$Act;"⟩
def RX2 : String := "CrossTable$Axis"
def TX2 : u_T := fun k => match k with
  | 0 => ("CrossTable$Axis", "keys", "[I", true)
  | 1 => ("CrossTable$Axis", "sets", "[I", true)
  | 2 => ("CrossTable$Axis", "measures", "[I", true)
  | _ => ("CrossTable$Axis", "size", "I", false)
def tyX2 : Nat → FieldType := fun k => match k with
  | 0 => .array .int
  | 1 => .array .int
  | 2 => .array .int
  | _ => .int
abbrev wsX20 : List Cond := u_ws RX2 TX2 4
theorem nmX2 : ∀ a, a < 4 → ∀ b, b < 4 → a ≠ b → (TX2 a).2.1 ≠ (TX2 b).2.1 := by decide +kernel
theorem tyX2_ok : ∀ k, k < 4 → parseFieldDescriptor (TX2 k).2.2.1 = some (tyX2 k) := by decide +kernel
abbrev cX2_init : ByteArray := prog_4_method_1_code
def yX2_init : MethodName := ⟨RX2, "<init>", "()V"⟩
abbrev cX2_has : ByteArray := prog_4_method_2_code
def yX2_has : MethodName := ⟨RX2, "has", "(I)Z"⟩
abbrev cX2_gather : ByteArray := prog_4_method_3_code
def yX2_gather : MethodName := ⟨RX2, "gather", "(LCrossTable$Entries;LCrossTable$Field;I)V"⟩
abbrev cX2_foldRest : ByteArray := prog_4_method_4_code
def yX2_foldRest : MethodName := ⟨RX2, "foldRest", "(LCrossTable$Entries;LCrossTable$Measure;I)V"⟩
abbrev cX2_greatestBut : ByteArray := prog_4_method_5_code
def yX2_greatestBut : MethodName := ⟨RX2, "greatestBut", "(I)I"⟩
abbrev cX2_closeUp : ByteArray := prog_4_method_6_code
def yX2_closeUp : MethodName := ⟨RX2, "closeUp", "(I)V"⟩
abbrev cX2_setOf : ByteArray := prog_4_method_7_code
def yX2_setOf : MethodName := ⟨RX2, "setOf", "(I)I"⟩
abbrev cX2_keyOfEntry : ByteArray := prog_4_method_8_code
def yX2_keyOfEntry : MethodName := ⟨RX2, "keyOfEntry", "(I)I"⟩
abbrev cX2_union : ByteArray := prog_4_method_9_code
def yX2_union : MethodName := ⟨RX2, "union", "(I)I"⟩
abbrev cX2_meetings : ByteArray := prog_4_method_10_code
def yX2_meetings : MethodName := ⟨RX2, "meetings", "(LCrossTable$Axis;)I"⟩
def RX3 : String := "CrossTable$Entries"
def TX3 : u_T := fun k => match k with
  | 0 => ("CrossTable$Entries", "towns", "[I", true)
  | 1 => ("CrossTable$Entries", "wares", "[I", true)
  | 2 => ("CrossTable$Entries", "amounts", "[I", true)
  | _ => ("CrossTable$Entries", "size", "I", false)
def tyX3 : Nat → FieldType := fun k => match k with
  | 0 => .array .int
  | 1 => .array .int
  | 2 => .array .int
  | _ => .int
abbrev wsX30 : List Cond := u_ws RX3 TX3 4
theorem nmX3 : ∀ a, a < 4 → ∀ b, b < 4 → a ≠ b → (TX3 a).2.1 ≠ (TX3 b).2.1 := by decide +kernel
theorem tyX3_ok : ∀ k, k < 4 → parseFieldDescriptor (TX3 k).2.2.1 = some (tyX3 k) := by decide +kernel
abbrev cX3_init : ByteArray := prog_5_method_1_code
def yX3_init : MethodName := ⟨RX3, "<init>", "()V"⟩
abbrev cX3_has : ByteArray := prog_5_method_2_code
def yX3_has : MethodName := ⟨RX3, "has", "(I)Z"⟩
abbrev cX3_hasRoom : ByteArray := prog_5_method_3_code
def yX3_hasRoom : MethodName := ⟨RX3, "hasRoom", "()Z"⟩
abbrev cX3_all : ByteArray := prog_5_method_4_code
def yX3_all : MethodName := ⟨RX3, "all", "()I"⟩
abbrev cX3_append : ByteArray := prog_5_method_5_code
def yX3_append : MethodName := ⟨RX3, "append", "(III)V"⟩
abbrev cX3_insert : ByteArray := prog_5_method_6_code
def yX3_insert : MethodName := ⟨RX3, "insert", "(IIII)V"⟩
abbrev cX3_remove : ByteArray := prog_5_method_7_code
def yX3_remove : MethodName := ⟨RX3, "remove", "(I)V"⟩
abbrev cX3_shift : ByteArray := prog_5_method_8_code
def yX3_shift : MethodName := ⟨RX3, "shift", "(III)V"⟩
abbrev cX3_copyFrom : ByteArray := prog_5_method_9_code
def yX3_copyFrom : MethodName := ⟨RX3, "copyFrom", "(LCrossTable$Entries;)V"⟩
abbrev cX3_missing : ByteArray := prog_5_method_10_code
def yX3_missing : MethodName := ⟨RX3, "missing", "()I"⟩
abbrev cX3_sumOf : ByteArray := prog_5_method_11_code
def yX3_sumOf : MethodName := ⟨RX3, "sumOf", "(I)I"⟩
abbrev cX3_mostOf : ByteArray := prog_5_method_12_code
def yX3_mostOf : MethodName := ⟨RX3, "mostOf", "(I)I"⟩
abbrev cX3_leastOf : ByteArray := prog_5_method_13_code
def yX3_leastOf : MethodName := ⟨RX3, "leastOf", "(I)I"⟩
abbrev cX3_kindsOf : ByteArray := prog_5_method_14_code
def yX3_kindsOf : MethodName := ⟨RX3, "kindsOf", "(I)I"⟩
def RX4 : String := "CrossTable$Field"
def TX4 : u_T := fun k => match k with
  | _ => ("", "", "", false)
def tyX4 : Nat → FieldType := fun k => match k with
  | _ => .int
abbrev wsX40 : List Cond := u_ws RX4 TX4 0
theorem nmX4 : ∀ a, a < 0 → ∀ b, b < 0 → a ≠ b → (TX4 a).2.1 ≠ (TX4 b).2.1 := by decide +kernel
theorem tyX4_ok : ∀ k, k < 0 → parseFieldDescriptor (TX4 k).2.2.1 = some (tyX4 k) := by decide +kernel
abbrev cX4_named : ByteArray := prog_6_method_4_code
def yX4_named : MethodName := ⟨RX4, "named", "(I)LCrossTable$Field;"⟩
abbrev cX4_keyOf : ByteArray := prog_6_method_5_code
def yX4_keyOf : MethodName := ⟨RX4, "keyOf", "(LCrossTable$Entries;II)I"⟩
abbrev cX4_binOf : ByteArray := prog_6_method_6_code
def yX4_binOf : MethodName := ⟨RX4, "binOf", "(II)I"⟩
def RX5 : String := "CrossTable$Measure"
def TX5 : u_T := fun k => match k with
  | _ => ("", "", "", false)
def tyX5 : Nat → FieldType := fun k => match k with
  | _ => .int
abbrev wsX50 : List Cond := u_ws RX5 TX5 0
theorem nmX5 : ∀ a, a < 0 → ∀ b, b < 0 → a ≠ b → (TX5 a).2.1 ≠ (TX5 b).2.1 := by decide +kernel
theorem tyX5_ok : ∀ k, k < 0 → parseFieldDescriptor (TX5 k).2.2.1 = some (tyX5 k) := by decide +kernel
abbrev cX5_startingWith : ByteArray := prog_7_method_4_code
def yX5_startingWith : MethodName := ⟨RX5, "startingWith", "(I)LCrossTable$Measure;"⟩
abbrev cX5_of : ByteArray := prog_7_method_5_code
def yX5_of : MethodName := ⟨RX5, "of", "(LCrossTable$Entries;I)I"⟩
def RX6 : String := "CrossTable$Plan"
def TX6 : u_T := fun k => match k with
  | 0 => ("CrossTable$Plan", "rowField", "LCrossTable$Field;", false)
  | 1 => ("CrossTable$Plan", "columnField", "LCrossTable$Field;", false)
  | 2 => ("CrossTable$Plan", "measure", "LCrossTable$Measure;", false)
  | 3 => ("CrossTable$Plan", "top", "I", false)
  | _ => ("CrossTable$Plan", "width", "I", false)
def tyX6 : Nat → FieldType := fun k => match k with
  | 0 => .object "CrossTable$Field"
  | 1 => .object "CrossTable$Field"
  | 2 => .object "CrossTable$Measure"
  | 3 => .int
  | _ => .int
abbrev wsX60 : List Cond := u_ws RX6 TX6 5
theorem nmX6 : ∀ a, a < 5 → ∀ b, b < 5 → a ≠ b → (TX6 a).2.1 ≠ (TX6 b).2.1 := by decide +kernel
theorem tyX6_ok : ∀ k, k < 5 → parseFieldDescriptor (TX6 k).2.2.1 = some (tyX6 k) := by decide +kernel
abbrev cX6_init : ByteArray := prog_8_method_1_code
def yX6_init : MethodName := ⟨RX6, "<init>", "()V"⟩
def RX7 : String := "CrossTable$PlanText"
def TX7 : u_T := fun k => match k with
  | 0 => ("CrossTable$PlanText", "letters", "[I", true)
  | _ => ("CrossTable$PlanText", "length", "I", false)
def tyX7 : Nat → FieldType := fun k => match k with
  | 0 => .array .int
  | _ => .int
abbrev wsX70 : List Cond := u_ws RX7 TX7 2
theorem nmX7 : ∀ a, a < 2 → ∀ b, b < 2 → a ≠ b → (TX7 a).2.1 ≠ (TX7 b).2.1 := by decide +kernel
theorem tyX7_ok : ∀ k, k < 2 → parseFieldDescriptor (TX7 k).2.2.1 = some (tyX7 k) := by decide +kernel
abbrev cX7_init : ByteArray := prog_9_method_1_code
def yX7_init : MethodName := ⟨RX7, "<init>", "()V"⟩
abbrev cX7_put : ByteArray := prog_9_method_2_code
def yX7_put : MethodName := ⟨RX7, "put", "(I)Z"⟩
abbrev cX7_readInto : ByteArray := prog_9_method_3_code
def yX7_readInto : MethodName := ⟨RX7, "readInto", "(LCrossTable$Plan;)I"⟩
abbrev cX7_spelt : ByteArray := prog_9_method_4_code
def yX7_spelt : MethodName := ⟨RX7, "spelt", "(Ljava/lang/String;)I"⟩
abbrev cX7_letterAt : ByteArray := prog_9_method_5_code
def yX7_letterAt : MethodName := ⟨RX7, "letterAt", "(I)I"⟩
abbrev cX7_figureAt : ByteArray := prog_9_method_6_code
def yX7_figureAt : MethodName := ⟨RX7, "figureAt", "(I)I"⟩
def RX8 : String := "CrossTable$Seen"
def TX8 : u_T := fun k => match k with
  | 0 => ("CrossTable$Seen", "keys", "[I", true)
  | 1 => ("CrossTable$Seen", "measures", "[I", true)
  | 2 => ("CrossTable$Seen", "was", "[Z", true)
  | _ => ("CrossTable$Seen", "size", "I", false)
def tyX8 : Nat → FieldType := fun k => match k with
  | 0 => .array .int
  | 1 => .array .int
  | 2 => .array .boolean
  | _ => .int
abbrev wsX80 : List Cond := u_ws RX8 TX8 4
theorem nmX8 : ∀ a, a < 4 → ∀ b, b < 4 → a ≠ b → (TX8 a).2.1 ≠ (TX8 b).2.1 := by decide +kernel
theorem tyX8_ok : ∀ k, k < 4 → parseFieldDescriptor (TX8 k).2.2.1 = some (tyX8 k) := by decide +kernel
abbrev cX8_init : ByteArray := prog_10_method_1_code
def yX8_init : MethodName := ⟨RX8, "<init>", "()V"⟩
abbrev cX8_put : ByteArray := prog_10_method_2_code
def yX8_put : MethodName := ⟨RX8, "put", "(IIZ)Z"⟩
def RX9 : String := "CrossTable"
def TX9 : u_T := fun k => match k with
  | 0 => ("CrossTable", "text", "LCrossTable$PlanText;", true)
  | 1 => ("CrossTable", "plan", "LCrossTable$Plan;", false)
  | 2 => ("CrossTable", "draft", "LCrossTable$Plan;", false)
  | 3 => ("CrossTable", "entries", "LCrossTable$Entries;", true)
  | 4 => ("CrossTable", "trial", "LCrossTable$Entries;", true)
  | 5 => ("CrossTable", "acts", "LCrossTable$ActRow;", true)
  | 6 => ("CrossTable", "rows", "LCrossTable$Axis;", true)
  | 7 => ("CrossTable", "columns", "LCrossTable$Axis;", true)
  | 8 => ("CrossTable", "seen", "LCrossTable$Seen;", true)
  | 9 => ("CrossTable", "slots", "[LCrossTable$Entries;", true)
  | _ => ("CrossTable", "drawSeed", "J", false)
def tyX9 : Nat → FieldType := fun k => match k with
  | 0 => .object "CrossTable$PlanText"
  | 1 => .object "CrossTable$Plan"
  | 2 => .object "CrossTable$Plan"
  | 3 => .object "CrossTable$Entries"
  | 4 => .object "CrossTable$Entries"
  | 5 => .object "CrossTable$ActRow"
  | 6 => .object "CrossTable$Axis"
  | 7 => .object "CrossTable$Axis"
  | 8 => .object "CrossTable$Seen"
  | 9 => .array (.object "CrossTable$Entries")
  | _ => .long
abbrev wsX90 : List Cond := u_ws RX9 TX9 11
theorem nmX9 : ∀ a, a < 11 → ∀ b, b < 11 → a ≠ b → (TX9 a).2.1 ≠ (TX9 b).2.1 := by decide +kernel
theorem tyX9_ok : ∀ k, k < 11 → parseFieldDescriptor (TX9 k).2.2.1 = some (tyX9 k) := by decide +kernel
abbrev cX9_init : ByteArray := prog_1_method_1_code
def yX9_init : MethodName := ⟨RX9, "<init>", "()V"⟩
abbrev cX9_write : ByteArray := prog_1_method_2_code
def yX9_write : MethodName := ⟨RX9, "write", "(I)I"⟩
abbrev cX9_wipe : ByteArray := prog_1_method_3_code
def yX9_wipe : MethodName := ⟨RX9, "wipe", "()I"⟩
abbrev cX9_fault : ByteArray := prog_1_method_4_code
def yX9_fault : MethodName := ⟨RX9, "fault", "()I"⟩
abbrev cX9_plan : ByteArray := prog_1_method_5_code
def yX9_plan : MethodName := ⟨RX9, "plan", "()I"⟩
abbrev cX9_word : ByteArray := prog_1_method_6_code
def yX9_word : MethodName := ⟨RX9, "word", "(I)I"⟩
abbrev cX9_add : ByteArray := prog_1_method_7_code
def yX9_add : MethodName := ⟨RX9, "add", "(III)I"⟩
abbrev cX9_drop : ByteArray := prog_1_method_8_code
def yX9_drop : MethodName := ⟨RX9, "drop", "(I)I"⟩
abbrev cX9_change : ByteArray := prog_1_method_9_code
def yX9_change : MethodName := ⟨RX9, "change", "(II)I"⟩
abbrev cX9_undo : ByteArray := prog_1_method_10_code
def yX9_undo : MethodName := ⟨RX9, "undo", "()I"⟩
abbrev cX9_entry : ByteArray := prog_1_method_11_code
def yX9_entry : MethodName := ⟨RX9, "entry", "(II)I"⟩
abbrev cX9_key : ByteArray := prog_1_method_12_code
def yX9_key : MethodName := ⟨RX9, "key", "(II)I"⟩
abbrev cX9_cell : ByteArray := prog_1_method_13_code
def yX9_cell : MethodName := ⟨RX9, "cell", "(II)I"⟩
abbrev cX9_drill : ByteArray := prog_1_method_14_code
def yX9_drill : MethodName := ⟨RX9, "drill", "(II)I"⟩
abbrev cX9_along : ByteArray := prog_1_method_15_code
def yX9_along : MethodName := ⟨RX9, "along", "(II)I"⟩
abbrev cX9_total : ByteArray := prog_1_method_16_code
def yX9_total : MethodName := ⟨RX9, "total", "()I"⟩
abbrev cX9_would : ByteArray := prog_1_method_17_code
def yX9_would : MethodName := ⟨RX9, "would", "(IIII)I"⟩
abbrev cX9_best : ByteArray := prog_1_method_18_code
def yX9_best : MethodName := ⟨RX9, "best", "(I)I"⟩
abbrev cX9_judge : ByteArray := prog_1_method_19_code
def yX9_judge : MethodName := ⟨RX9, "judge", "(IJ)I"⟩
abbrev cX9_see : ByteArray := prog_1_method_20_code
def yX9_see : MethodName := ⟨RX9, "see", "(III)I"⟩
abbrev cX9_unsee : ByteArray := prog_1_method_21_code
def yX9_unsee : MethodName := ⟨RX9, "unsee", "()I"⟩
abbrev cX9_hidden : ByteArray := prog_1_method_22_code
def yX9_hidden : MethodName := ⟨RX9, "hidden", "(I)I"⟩
abbrev cX9_share : ByteArray := prog_1_method_23_code
def yX9_share : MethodName := ⟨RX9, "share", "(IZ)I"⟩
abbrev cX9_lost : ByteArray := prog_1_method_24_code
def yX9_lost : MethodName := ⟨RX9, "lost", "(IIZ)I"⟩
abbrev cX9_seed : ByteArray := prog_1_method_25_code
def yX9_seed : MethodName := ⟨RX9, "seed", "(J)J"⟩
abbrev cX9_drawn : ByteArray := prog_1_method_26_code
def yX9_drawn : MethodName := ⟨RX9, "drawn", "(I)I"⟩
abbrev cX9_keep : ByteArray := prog_1_method_27_code
def yX9_keep : MethodName := ⟨RX9, "keep", "(I)I"⟩
abbrev cX9_again : ByteArray := prog_1_method_28_code
def yX9_again : MethodName := ⟨RX9, "again", "(I)I"⟩
abbrev cX9_count : ByteArray := prog_1_method_29_code
def yX9_count : MethodName := ⟨RX9, "count", "(I)I"⟩
abbrev cX9_isAmount : ByteArray := prog_1_method_30_code
def yX9_isAmount : MethodName := ⟨RX9, "isAmount", "(I)Z"⟩
abbrev cX9_isEntry : ByteArray := prog_1_method_31_code
def yX9_isEntry : MethodName := ⟨RX9, "isEntry", "(III)Z"⟩
abbrev cX9_isAxis : ByteArray := prog_1_method_32_code
def yX9_isAxis : MethodName := ⟨RX9, "isAxis", "(I)Z"⟩
abbrev cX9_isOneOfTwo : ByteArray := prog_1_method_33_code
def yX9_isOneOfTwo : MethodName := ⟨RX9, "isOneOfTwo", "(I)Z"⟩
abbrev cX9_isRowKey : ByteArray := prog_1_method_34_code
def yX9_isRowKey : MethodName := ⟨RX9, "isRowKey", "(I)Z"⟩
abbrev cX9_isSeenMeasure : ByteArray := prog_1_method_35_code
def yX9_isSeenMeasure : MethodName := ⟨RX9, "isSeenMeasure", "(I)Z"⟩
abbrev cX9_isSlot : ByteArray := prog_1_method_36_code
def yX9_isSlot : MethodName := ⟨RX9, "isSlot", "(I)Z"⟩
abbrev cX9_rowsOf : ByteArray := prog_1_method_37_code
def yX9_rowsOf : MethodName := ⟨RX9, "rowsOf", "(LCrossTable$Entries;)LCrossTable$Axis;"⟩
abbrev cX9_columnsOf : ByteArray := prog_1_method_38_code
def yX9_columnsOf : MethodName := ⟨RX9, "columnsOf", "(LCrossTable$Entries;)LCrossTable$Axis;"⟩
abbrev cX9_axisOf : ByteArray := prog_1_method_39_code
def yX9_axisOf : MethodName := ⟨RX9, "axisOf", "(I)LCrossTable$Axis;"⟩
abbrev cX9_cellOf : ByteArray := prog_1_method_40_code
def yX9_cellOf : MethodName := ⟨RX9, "cellOf", "(LCrossTable$Entries;II)I"⟩
abbrev cX9_measureOf : ByteArray := prog_1_method_41_code
def yX9_measureOf : MethodName := ⟨RX9, "measureOf", "(LCrossTable$Entries;I)I"⟩
abbrev cX9_totalOf : ByteArray := prog_1_method_42_code
def yX9_totalOf : MethodName := ⟨RX9, "totalOf", "(LCrossTable$Entries;)I"⟩
abbrev cX9_worthOf : ByteArray := prog_1_method_43_code
def yX9_worthOf : MethodName := ⟨RX9, "worthOf", "(I)I"⟩
abbrev cX9_noneAsZero : ByteArray := prog_1_method_44_code
def yX9_noneAsZero : MethodName := ⟨RX9, "noneAsZero", "(I)I"⟩
abbrev cX9_stands : ByteArray := prog_1_method_45_code
def yX9_stands : MethodName := ⟨RX9, "stands", "(I)Z"⟩
abbrev cX9_addToTrial : ByteArray := prog_1_method_46_code
def yX9_addToTrial : MethodName := ⟨RX9, "addToTrial", "(III)Z"⟩
abbrev cX9_dropFromTrial : ByteArray := prog_1_method_47_code
def yX9_dropFromTrial : MethodName := ⟨RX9, "dropFromTrial", "(I)Z"⟩
abbrev cX9_changeInTrial : ByteArray := prog_1_method_48_code
def yX9_changeInTrial : MethodName := ⟨RX9, "changeInTrial", "(II)Z"⟩
abbrev cX9_isAllSeenSo : ByteArray := prog_1_method_49_code
def yX9_isAllSeenSo : MethodName := ⟨RX9, "isAllSeenSo", "(III)Z"⟩
abbrev cX9_drawIntoTrial : ByteArray := prog_1_method_50_code
def yX9_drawIntoTrial : MethodName := ⟨RX9, "drawIntoTrial", "(I)V"⟩
abbrev cX9_fraction : ByteArray := prog_1_method_51_code
def yX9_fraction : MethodName := ⟨RX9, "fraction", "(IIZ)I"⟩
abbrev cX9_commonDivisor : ByteArray := prog_1_method_52_code
def yX9_commonDivisor : MethodName := ⟨RX9, "commonDivisor", "(II)I"⟩
abbrev cX9_power : ByteArray := prog_1_method_53_code
def yX9_power : MethodName := ⟨RX9, "power", "(II)I"⟩
def RX10 : String := "CrossTableModel"
def TX10 : u_T := fun k => match k with
  | 0 => ("CrossTableModel", "rowField", "I", false)
  | 1 => ("CrossTableModel", "columnField", "I", false)
  | 2 => ("CrossTableModel", "measure", "I", false)
  | 3 => ("CrossTableModel", "top", "I", false)
  | 4 => ("CrossTableModel", "wide", "I", false)
  | 5 => ("CrossTableModel", "readRow", "I", false)
  | 6 => ("CrossTableModel", "readColumn", "I", false)
  | 7 => ("CrossTableModel", "readMeasure", "I", false)
  | 8 => ("CrossTableModel", "readTop", "I", false)
  | 9 => ("CrossTableModel", "readWide", "I", false)
  | 10 => ("CrossTableModel", "text", "[I", true)
  | 11 => ("CrossTableModel", "length", "I", false)
  | 12 => ("CrossTableModel", "now", "[I", true)
  | 13 => ("CrossTableModel", "rows", "I", false)
  | 14 => ("CrossTableModel", "columns", "I", false)
  | 15 => ("CrossTableModel", "rowKey", "[I", true)
  | 16 => ("CrossTableModel", "rowSet", "[I", true)
  | 17 => ("CrossTableModel", "columnKey", "[I", true)
  | 18 => ("CrossTableModel", "columnSet", "[I", true)
  | 19 => ("CrossTableModel", "isPicked", "[I", true)
  | 20 => ("CrossTableModel", "acts", "I", false)
  | 21 => ("CrossTableModel", "next", "I", false)
  | 22 => ("CrossTableModel", "row", "[I", true)
  | 23 => ("CrossTableModel", "seen", "I", false)
  | 24 => ("CrossTableModel", "seenKey", "[I", true)
  | 25 => ("CrossTableModel", "seenValue", "[I", true)
  | 26 => ("CrossTableModel", "seenWas", "[I", true)
  | 27 => ("CrossTableModel", "seed", "J", false)
  | 28 => ("CrossTableModel", "isKept", "[Z", true)
  | _ => ("CrossTableModel", "kept", "[I", true)
def tyX10 : Nat → FieldType := fun k => match k with
  | 0 => .int
  | 1 => .int
  | 2 => .int
  | 3 => .int
  | 4 => .int
  | 5 => .int
  | 6 => .int
  | 7 => .int
  | 8 => .int
  | 9 => .int
  | 10 => .array .int
  | 11 => .int
  | 12 => .array .int
  | 13 => .int
  | 14 => .int
  | 15 => .array .int
  | 16 => .array .int
  | 17 => .array .int
  | 18 => .array .int
  | 19 => .array .int
  | 20 => .int
  | 21 => .int
  | 22 => .array .int
  | 23 => .int
  | 24 => .array .int
  | 25 => .array .int
  | 26 => .array .int
  | 27 => .long
  | 28 => .array .boolean
  | _ => .array .int
abbrev wsX100 : List Cond := u_ws RX10 TX10 30
theorem nmX10 : ∀ a, a < 30 → ∀ b, b < 30 → a ≠ b → (TX10 a).2.1 ≠ (TX10 b).2.1 := by decide +kernel
theorem tyX10_ok : ∀ k, k < 30 → parseFieldDescriptor (TX10 k).2.2.1 = some (tyX10 k) := by decide +kernel
abbrev cX10_init : ByteArray := prog_12_method_1_code
def yX10_init : MethodName := ⟨RX10, "<init>", "()V"⟩
abbrev cX10_in : ByteArray := prog_12_method_3_code
def yX10_in : MethodName := ⟨RX10, "in", "(JJJ)Z"⟩
abbrev cX10_has : ByteArray := prog_12_method_4_code
def yX10_has : MethodName := ⟨RX10, "has", "(II)Z"⟩
abbrev cX10_ones : ByteArray := prog_12_method_5_code
def yX10_ones : MethodName := ⟨RX10, "ones", "(I)I"⟩
abbrev cX10_write : ByteArray := prog_12_method_6_code
def yX10_write : MethodName := ⟨RX10, "write", "(I)I"⟩
abbrev cX10_wipe : ByteArray := prog_12_method_7_code
def yX10_wipe : MethodName := ⟨RX10, "wipe", "()I"⟩
abbrev cX10_fieldOf : ByteArray := prog_12_method_8_code
def yX10_fieldOf : MethodName := ⟨RX10, "fieldOf", "(I)I"⟩
abbrev cX10_letterOf : ByteArray := prog_12_method_9_code
def yX10_letterOf : MethodName := ⟨RX10, "letterOf", "(II)I"⟩
abbrev cX10_readText : ByteArray := prog_12_method_10_code
def yX10_readText : MethodName := ⟨RX10, "readText", "()I"⟩
abbrev cX10_readEnd : ByteArray := prog_12_method_11_code
def yX10_readEnd : MethodName := ⟨RX10, "readEnd", "(I)I"⟩
abbrev cX10_fault : ByteArray := prog_12_method_12_code
def yX10_fault : MethodName := ⟨RX10, "fault", "()I"⟩
abbrev cX10_plan : ByteArray := prog_12_method_13_code
def yX10_plan : MethodName := ⟨RX10, "plan", "()I"⟩
abbrev cX10_word : ByteArray := prog_12_method_14_code
def yX10_word : MethodName := ⟨RX10, "word", "(I)I"⟩
abbrev cX10_many : ByteArray := prog_12_method_15_code
def yX10_many : MethodName := ⟨RX10, "many", "(I)I"⟩
abbrev cX10_at : ByteArray := prog_12_method_16_code
def yX10_at : MethodName := ⟨RX10, "at", "(II)I"⟩
abbrev cX10_amountOf : ByteArray := prog_12_method_17_code
def yX10_amountOf : MethodName := ⟨RX10, "amountOf", "(II)I"⟩
abbrev cX10_keyOf : ByteArray := prog_12_method_18_code
def yX10_keyOf : MethodName := ⟨RX10, "keyOf", "(III)I"⟩
abbrev cX10_addOn : ByteArray := prog_12_method_19_code
def yX10_addOn : MethodName := ⟨RX10, "addOn", "(II)V"⟩
abbrev cX10_dropOn : ByteArray := prog_12_method_20_code
def yX10_dropOn : MethodName := ⟨RX10, "dropOn", "(II)V"⟩
abbrev cX10_allOf : ByteArray := prog_12_method_21_code
def yX10_allOf : MethodName := ⟨RX10, "allOf", "(I)I"⟩
abbrev cX10_twinsOf : ByteArray := prog_12_method_22_code
def yX10_twinsOf : MethodName := ⟨RX10, "twinsOf", "(II)I"⟩
abbrev cX10_measureOf : ByteArray := prog_12_method_23_code
def yX10_measureOf : MethodName := ⟨RX10, "measureOf", "(II)I"⟩
abbrev cX10_groupOf : ByteArray := prog_12_method_24_code
def yX10_groupOf : MethodName := ⟨RX10, "groupOf", "(III)I"⟩
abbrev cX10_pick : ByteArray := prog_12_method_25_code
def yX10_pick : MethodName := ⟨RX10, "pick", "(II)V"⟩
abbrev cX10_findRows : ByteArray := prog_12_method_26_code
def yX10_findRows : MethodName := ⟨RX10, "findRows", "(I)V"⟩
abbrev cX10_findColumns : ByteArray := prog_12_method_27_code
def yX10_findColumns : MethodName := ⟨RX10, "findColumns", "(I)V"⟩
abbrev cX10_rowOf : ByteArray := prog_12_method_28_code
def yX10_rowOf : MethodName := ⟨RX10, "rowOf", "(I)I"⟩
abbrev cX10_columnOf : ByteArray := prog_12_method_29_code
def yX10_columnOf : MethodName := ⟨RX10, "columnOf", "(I)I"⟩
abbrev cX10_keepAct : ByteArray := prog_12_method_30_code
def yX10_keepAct : MethodName := ⟨RX10, "keepAct", "()V"⟩
abbrev cX10_isEntry : ByteArray := prog_12_method_31_code
def yX10_isEntry : MethodName := ⟨RX10, "isEntry", "(III)Z"⟩
abbrev cX10_asOne : ByteArray := prog_12_method_32_code
def yX10_asOne : MethodName := ⟨RX10, "asOne", "(III)I"⟩
abbrev cX10_add : ByteArray := prog_12_method_33_code
def yX10_add : MethodName := ⟨RX10, "add", "(III)I"⟩
abbrev cX10_isThere : ByteArray := prog_12_method_34_code
def yX10_isThere : MethodName := ⟨RX10, "isThere", "(I)Z"⟩
abbrev cX10_drop : ByteArray := prog_12_method_35_code
def yX10_drop : MethodName := ⟨RX10, "drop", "(I)I"⟩
abbrev cX10_change : ByteArray := prog_12_method_36_code
def yX10_change : MethodName := ⟨RX10, "change", "(II)I"⟩
abbrev cX10_undo : ByteArray := prog_12_method_37_code
def yX10_undo : MethodName := ⟨RX10, "undo", "()I"⟩
abbrev cX10_rowKeyOf : ByteArray := prog_12_method_38_code
def yX10_rowKeyOf : MethodName := ⟨RX10, "rowKeyOf", "(I)I"⟩
abbrev cX10_entry : ByteArray := prog_12_method_39_code
def yX10_entry : MethodName := ⟨RX10, "entry", "(II)I"⟩
abbrev cX10_key : ByteArray := prog_12_method_40_code
def yX10_key : MethodName := ⟨RX10, "key", "(II)I"⟩
abbrev cX10_cell : ByteArray := prog_12_method_41_code
def yX10_cell : MethodName := ⟨RX10, "cell", "(II)I"⟩
abbrev cX10_drill : ByteArray := prog_12_method_42_code
def yX10_drill : MethodName := ⟨RX10, "drill", "(II)I"⟩
abbrev cX10_along : ByteArray := prog_12_method_43_code
def yX10_along : MethodName := ⟨RX10, "along", "(II)I"⟩
abbrev cX10_total : ByteArray := prog_12_method_44_code
def yX10_total : MethodName := ⟨RX10, "total", "()I"⟩
abbrev cX10_layTrial : ByteArray := prog_12_method_45_code
def yX10_layTrial : MethodName := ⟨RX10, "layTrial", "()V"⟩
abbrev cX10_would : ByteArray := prog_12_method_46_code
def yX10_would : MethodName := ⟨RX10, "would", "(IIII)I"⟩
abbrev cX10_best : ByteArray := prog_12_method_47_code
def yX10_best : MethodName := ⟨RX10, "best", "(I)I"⟩
abbrev cX10_tryThing : ByteArray := prog_12_method_48_code
def yX10_tryThing : MethodName := ⟨RX10, "tryThing", "(III)Z"⟩
abbrev cX10_tenThousandTo : ByteArray := prog_12_method_49_code
def yX10_tenThousandTo : MethodName := ⟨RX10, "tenThousandTo", "(I)J"⟩
abbrev cX10_judge : ByteArray := prog_12_method_50_code
def yX10_judge : MethodName := ⟨RX10, "judge", "(IJ)I"⟩
abbrev cX10_see : ByteArray := prog_12_method_51_code
def yX10_see : MethodName := ⟨RX10, "see", "(III)I"⟩
abbrev cX10_unsee : ByteArray := prog_12_method_52_code
def yX10_unsee : MethodName := ⟨RX10, "unsee", "()I"⟩
abbrev cX10_mayBe : ByteArray := prog_12_method_53_code
def yX10_mayBe : MethodName := ⟨RX10, "mayBe", "(I)Z"⟩
abbrev cX10_hidden : ByteArray := prog_12_method_54_code
def yX10_hidden : MethodName := ⟨RX10, "hidden", "(I)I"⟩
abbrev cX10_factorial : ByteArray := prog_12_method_55_code
def yX10_factorial : MethodName := ⟨RX10, "factorial", "(I)I"⟩
abbrev cX10_common : ByteArray := prog_12_method_56_code
def yX10_common : MethodName := ⟨RX10, "common", "(II)I"⟩
abbrev cX10_measureBy : ByteArray := prog_12_method_57_code
def yX10_measureBy : MethodName := ⟨RX10, "measureBy", "(I)I"⟩
abbrev cX10_worthBy : ByteArray := prog_12_method_58_code
def yX10_worthBy : MethodName := ⟨RX10, "worthBy", "(I)I"⟩
abbrev cX10_share : ByteArray := prog_12_method_59_code
def yX10_share : MethodName := ⟨RX10, "share", "(IZ)I"⟩
abbrev cX10_lost : ByteArray := prog_12_method_60_code
def yX10_lost : MethodName := ⟨RX10, "lost", "(IIZ)I"⟩
abbrev cX10_seed : ByteArray := prog_12_method_61_code
def yX10_seed : MethodName := ⟨RX10, "seed", "(J)J"⟩
abbrev cX10_drawn : ByteArray := prog_12_method_62_code
def yX10_drawn : MethodName := ⟨RX10, "drawn", "(I)I"⟩
abbrev cX10_keep : ByteArray := prog_12_method_63_code
def yX10_keep : MethodName := ⟨RX10, "keep", "(I)I"⟩
abbrev cX10_again : ByteArray := prog_12_method_64_code
def yX10_again : MethodName := ⟨RX10, "again", "(I)I"⟩
abbrev cX10_filledCells : ByteArray := prog_12_method_65_code
def yX10_filledCells : MethodName := ⟨RX10, "filledCells", "()I"⟩
abbrev cX10_missingAmounts : ByteArray := prog_12_method_66_code
def yX10_missingAmounts : MethodName := ⟨RX10, "missingAmounts", "()I"⟩
abbrev cX10_count : ByteArray := prog_12_method_67_code
def yX10_count : MethodName := ⟨RX10, "count", "(I)I"⟩
def RJx145de : String := "java/io/Serializable"
def TJx145de : u_T := fun k => match k with
  | _ => ("", "", "", false)
def tyJx145de : Nat → FieldType := fun k => match k with
  | _ => .int
abbrev wsJx145de0 : List Cond := u_ws RJx145de TJx145de 0
theorem nmJx145de : ∀ a, a < 0 → ∀ b, b < 0 → a ≠ b → (TJx145de a).2.1 ≠ (TJx145de b).2.1 := by decide +kernel
theorem tyJx145de_ok : ∀ k, k < 0 → parseFieldDescriptor (TJx145de k).2.2.1 = some (tyJx145de k) := by decide +kernel
def RJx9f9b0 : String := "java/lang/CharSequence"
def TJx9f9b0 : u_T := fun k => match k with
  | _ => ("", "", "", false)
def tyJx9f9b0 : Nat → FieldType := fun k => match k with
  | _ => .int
abbrev wsJx9f9b00 : List Cond := u_ws RJx9f9b0 TJx9f9b0 0
theorem nmJx9f9b0 : ∀ a, a < 0 → ∀ b, b < 0 → a ≠ b → (TJx9f9b0 a).2.1 ≠ (TJx9f9b0 b).2.1 := by decide +kernel
theorem tyJx9f9b0_ok : ∀ k, k < 0 → parseFieldDescriptor (TJx9f9b0 k).2.2.1 = some (tyJx9f9b0 k) := by decide +kernel
def RJxb160c : String := "java/lang/Comparable"
def TJxb160c : u_T := fun k => match k with
  | _ => ("", "", "", false)
def tyJxb160c : Nat → FieldType := fun k => match k with
  | _ => .int
abbrev wsJxb160c0 : List Cond := u_ws RJxb160c TJxb160c 0
theorem nmJxb160c : ∀ a, a < 0 → ∀ b, b < 0 → a ≠ b → (TJxb160c a).2.1 ≠ (TJxb160c b).2.1 := by decide +kernel
theorem tyJxb160c_ok : ∀ k, k < 0 → parseFieldDescriptor (TJxb160c k).2.2.1 = some (tyJxb160c k) := by decide +kernel
def RJx29ce0 : String := "java/lang/Enum"
def TJx29ce0 : u_T := fun k => match k with
  | _ => ("", "", "", false)
def tyJx29ce0 : Nat → FieldType := fun k => match k with
  | _ => .int
abbrev wsJx29ce00 : List Cond := u_ws RJx29ce0 TJx29ce0 0
theorem nmJx29ce0 : ∀ a, a < 0 → ∀ b, b < 0 → a ≠ b → (TJx29ce0 a).2.1 ≠ (TJx29ce0 b).2.1 := by decide +kernel
theorem tyJx29ce0_ok : ∀ k, k < 0 → parseFieldDescriptor (TJx29ce0 k).2.2.1 = some (tyJx29ce0 k) := by decide +kernel
def RJ6 : String := "java/lang/Integer"
def TJ6 : u_T := fun k => match k with
  | _ => ("", "", "", false)
def tyJ6 : Nat → FieldType := fun k => match k with
  | _ => .int
abbrev wsJ60 : List Cond := u_ws RJ6 TJ6 0
theorem nmJ6 : ∀ a, a < 0 → ∀ b, b < 0 → a ≠ b → (TJ6 a).2.1 ≠ (TJ6 b).2.1 := by decide +kernel
theorem tyJ6_ok : ∀ k, k < 0 → parseFieldDescriptor (TJ6 k).2.2.1 = some (tyJ6 k) := by decide +kernel
abbrev cJ6_bitCount_0f7a4 : ByteArray := prog_14_method_49_code
def yJ6_bitCount_0f7a4 : MethodName := ⟨RJ6, "bitCount", "(I)I"⟩
def RJ13 : String := "java/lang/Long"
def TJ13 : u_T := fun k => match k with
  | _ => ("", "", "", false)
def tyJ13 : Nat → FieldType := fun k => match k with
  | _ => .int
abbrev wsJ130 : List Cond := u_ws RJ13 TJ13 0
theorem nmJ13 : ∀ a, a < 0 → ∀ b, b < 0 → a ≠ b → (TJ13 a).2.1 ≠ (TJ13 b).2.1 := by decide +kernel
theorem tyJ13_ok : ∀ k, k < 0 → parseFieldDescriptor (TJ13 k).2.2.1 = some (tyJ13 k) := by decide +kernel
abbrev cJ13_bitCount_95d88 : ByteArray := prog_15_method_50_code
def yJ13_bitCount_95d88 : MethodName := ⟨RJ13, "bitCount", "(J)I"⟩
def RJ9 : String := "java/lang/Math"
def TJ9 : u_T := fun k => match k with
  | _ => ("", "", "", false)
def tyJ9 : Nat → FieldType := fun k => match k with
  | _ => .int
abbrev wsJ90 : List Cond := u_ws RJ9 TJ9 0
theorem nmJ9 : ∀ a, a < 0 → ∀ b, b < 0 → a ≠ b → (TJ9 a).2.1 ≠ (TJ9 b).2.1 := by decide +kernel
theorem tyJ9_ok : ∀ k, k < 0 → parseFieldDescriptor (TJ9 k).2.2.1 = some (tyJ9 k) := by decide +kernel
abbrev cJ9_abs_0f7a4 : ByteArray := prog_16_method_59_code
def yJ9_abs_0f7a4 : MethodName := ⟨RJ9, "abs", "(I)I"⟩
abbrev cJ9_max_7cf53 : ByteArray := prog_16_method_65_code
def yJ9_max_7cf53 : MethodName := ⟨RJ9, "max", "(II)I"⟩
def RJ0 : String := "java/lang/String"
def TJ0 : u_T := fun k => match k with
  | _ => ("", "", "", false)
def tyJ0 : Nat → FieldType := fun k => match k with
  | _ => .int
abbrev wsJ00 : List Cond := u_ws RJ0 TJ0 0
theorem nmJ0 : ∀ a, a < 0 → ∀ b, b < 0 → a ≠ b → (TJ0 a).2.1 ≠ (TJ0 b).2.1 := by decide +kernel
theorem tyJ0_ok : ∀ k, k < 0 → parseFieldDescriptor (TJ0 k).2.2.1 = some (tyJ0 k) := by decide +kernel
abbrev cJ0_length_8abf5 : ByteArray := prog_17_method_54_code
def yJ0_length_8abf5 : MethodName := ⟨RJ0, "length", "()I"⟩
abbrev cJ0_charAt_5068e : ByteArray := prog_17_method_56_code
def yJ0_charAt_5068e : MethodName := ⟨RJ0, "charAt", "(I)C"⟩
abbrev cJ0_coder_7d493 : ByteArray := prog_17_method_152_code
def yJ0_coder_7d493 : MethodName := ⟨RJ0, "coder", "()B"⟩
abbrev cJ0_isLatin1_aae02 : ByteArray := prog_17_method_154_code
def yJ0_isLatin1_aae02 : MethodName := ⟨RJ0, "isLatin1", "()Z"⟩
abbrev cJ0_checkIndex_df160 : ByteArray := prog_17_method_155_code
def yJ0_checkIndex_df160 : MethodName := ⟨RJ0, "checkIndex", "(II)V"⟩
def RJ1 : String := "java/lang/StringLatin1"
def TJ1 : u_T := fun k => match k with
  | _ => ("", "", "", false)
def tyJ1 : Nat → FieldType := fun k => match k with
  | _ => .int
abbrev wsJ10 : List Cond := u_ws RJ1 TJ1 0
theorem nmJ1 : ∀ a, a < 0 → ∀ b, b < 0 → a ≠ b → (TJ1 a).2.1 ≠ (TJ1 b).2.1 := by decide +kernel
theorem tyJ1_ok : ∀ k, k < 0 → parseFieldDescriptor (TJ1 k).2.2.1 = some (tyJ1 k) := by decide +kernel
abbrev cJ1_charAt_3b067 : ByteArray := prog_18_method_2_code
def yJ1_charAt_3b067 : MethodName := ⟨RJ1, "charAt", "([BI)C"⟩
def RJ2 : String := "java/lang/StringUTF16"
def TJ2 : u_T := fun k => match k with
  | _ => ("", "", "", false)
def tyJ2 : Nat → FieldType := fun k => match k with
  | _ => .int
abbrev wsJ20 : List Cond := u_ws RJ2 TJ2 0
theorem nmJ2 : ∀ a, a < 0 → ∀ b, b < 0 → a ≠ b → (TJ2 a).2.1 ≠ (TJ2 b).2.1 := by decide +kernel
theorem tyJ2_ok : ∀ k, k < 0 → parseFieldDescriptor (TJ2 k).2.2.1 = some (tyJ2 k) := by decide +kernel
abbrev cJ2_getChar_3b067 : ByteArray := prog_19_method_5_code
def yJ2_getChar_3b067 : MethodName := ⟨RJ2, "getChar", "([BI)C"⟩
abbrev cJ2_length_9d52b : ByteArray := prog_19_method_6_code
def yJ2_length_9d52b : MethodName := ⟨RJ2, "length", "([B)I"⟩
abbrev cJ2_charAt_3b067 : ByteArray := prog_19_method_83_code
def yJ2_charAt_3b067 : MethodName := ⟨RJ2, "charAt", "([BI)C"⟩
abbrev cJ2_checkIndex_2214a : ByteArray := prog_19_method_91_code
def yJ2_checkIndex_2214a : MethodName := ⟨RJ2, "checkIndex", "(I[B)V"⟩
def RJ10 : String := "java/lang/System"
def TJ10 : u_T := fun k => match k with
  | _ => ("", "", "", false)
def tyJ10 : Nat → FieldType := fun k => match k with
  | _ => .int
abbrev wsJ100 : List Cond := u_ws RJ10 TJ10 0
theorem nmJ10 : ∀ a, a < 0 → ∀ b, b < 0 → a ≠ b → (TJ10 a).2.1 ≠ (TJ10 b).2.1 := by decide +kernel
theorem tyJ10_ok : ∀ k, k < 0 → parseFieldDescriptor (TJ10 k).2.2.1 = some (tyJ10 k) := by decide +kernel
def RJxfd54e : String := "java/lang/constant/Constable"
def TJxfd54e : u_T := fun k => match k with
  | _ => ("", "", "", false)
def tyJxfd54e : Nat → FieldType := fun k => match k with
  | _ => .int
abbrev wsJxfd54e0 : List Cond := u_ws RJxfd54e TJxfd54e 0
theorem nmJxfd54e : ∀ a, a < 0 → ∀ b, b < 0 → a ≠ b → (TJxfd54e a).2.1 ≠ (TJxfd54e b).2.1 := by decide +kernel
theorem tyJxfd54e_ok : ∀ k, k < 0 → parseFieldDescriptor (TJxfd54e k).2.2.1 = some (tyJxfd54e k) := by decide +kernel
def RJx3cf43 : String := "java/lang/constant/ConstantDesc"
def TJx3cf43 : u_T := fun k => match k with
  | _ => ("", "", "", false)
def tyJx3cf43 : Nat → FieldType := fun k => match k with
  | _ => .int
abbrev wsJx3cf430 : List Cond := u_ws RJx3cf43 TJx3cf43 0
theorem nmJx3cf43 : ∀ a, a < 0 → ∀ b, b < 0 → a ≠ b → (TJx3cf43 a).2.1 ≠ (TJx3cf43 b).2.1 := by decide +kernel
theorem tyJx3cf43_ok : ∀ k, k < 0 → parseFieldDescriptor (TJx3cf43 k).2.2.1 = some (tyJx3cf43 k) := by decide +kernel
def RJ7 : String := "java/util/Arrays"
def TJ7 : u_T := fun k => match k with
  | _ => ("", "", "", false)
def tyJ7 : Nat → FieldType := fun k => match k with
  | _ => .int
abbrev wsJ70 : List Cond := u_ws RJ7 TJ7 0
theorem nmJ7 : ∀ a, a < 0 → ∀ b, b < 0 → a ≠ b → (TJ7 a).2.1 ≠ (TJ7 b).2.1 := by decide +kernel
theorem tyJ7_ok : ∀ k, k < 0 → parseFieldDescriptor (TJ7 k).2.2.1 = some (tyJ7 k) := by decide +kernel
abbrev cJ7_fill_53178 : ByteArray := prog_21_method_103_code
def yJ7_fill_53178 : MethodName := ⟨RJ7, "fill", "([II)V"⟩
def RJ3 : String := "jdk/internal/util/Preconditions"
def TJ3 : u_T := fun k => match k with
  | _ => ("", "", "", false)
def tyJ3 : Nat → FieldType := fun k => match k with
  | _ => .int
abbrev wsJ30 : List Cond := u_ws RJ3 TJ3 0
theorem nmJ3 : ∀ a, a < 0 → ∀ b, b < 0 → a ≠ b → (TJ3 a).2.1 ≠ (TJ3 b).2.1 := by decide +kernel
theorem tyJ3_ok : ∀ k, k < 0 → parseFieldDescriptor (TJ3 k).2.2.1 = some (tyJ3 k) := by decide +kernel
abbrev cJ3_checkIndex_8e157 : ByteArray := prog_22_method_11_code
def yJ3_checkIndex_8e157 : MethodName := ⟨RJ3, "checkIndex", "(IILjava/util/function/BiFunction;)I"⟩
def RL : String := "CrossTableLaw"
abbrev cL_law : ByteArray := code
def yL_law : MethodName := ⟨RL, "law", "([I)Z"⟩
abbrev vwCl : List vw_C := [(RX0, TX0, 5), (RX1, TX1, 2), (RX2, TX2, 4), (RX3, TX3, 4), (RX6, TX6, 5), (RX7, TX7, 2), (RX8, TX8, 4), (RX9, TX9, 11), (RX10, TX10, 30)]
