section
-- ===== PART A: goes FIRST, ahead of the names: the tables' words, and 'selects' of the private methods out of them =====
/-- a private method of a class that the tables say can be made, by its rows of tables_1 -/
def lw_okq (q : MethodName × Nat) : Prop := (q.1.cls ≠ "java/lang/invoke/MethodHandle" ∧ q.1.cls ≠ "java/lang/invoke/VarHandle") ∧ Cond.instantiable q.1.cls q.2 ∈ tables_1 ∧ Cond.privateMethod q.1 ∈ tables_1 ∧ Cond.instanceMethod q.1 ∈ tables_1
theorem lw_p0 : lw_okq (⟨"CardDrawer$History", "dropOldest", "()V"⟩, 3) := ⟨⟨by decide +kernel, by decide +kernel⟩, List.mem_of_getElem? (i := 219) (by decide +kernel), List.mem_of_getElem? (i := 487) (by decide +kernel), List.mem_of_getElem? (i := 488) (by decide +kernel)⟩
theorem lw_p1 : lw_okq (⟨"CardDrawer$Law", "run", "(II)I"⟩, 9) := ⟨⟨by decide +kernel, by decide +kernel⟩, List.mem_of_getElem? (i := 87) (by decide +kernel), List.mem_of_getElem? (i := 516) (by decide +kernel), List.mem_of_getElem? (i := 517) (by decide +kernel)⟩
theorem lw_p2 : lw_okq (⟨"CardDrawer$Keeper", "reaches", "(I)Z"⟩, 5) := ⟨⟨by decide +kernel, by decide +kernel⟩, List.mem_of_getElem? (i := 197) (by decide +kernel), List.mem_of_getElem? (i := 532) (by decide +kernel), List.mem_of_getElem? (i := 533) (by decide +kernel)⟩
theorem lw_p3 : lw_okq (⟨"CardDrawer$Keeper", "enter", "(III)V"⟩, 5) := ⟨⟨by decide +kernel, by decide +kernel⟩, List.mem_of_getElem? (i := 197) (by decide +kernel), List.mem_of_getElem? (i := 544) (by decide +kernel), List.mem_of_getElem? (i := 545) (by decide +kernel)⟩
theorem lw_p4 : lw_okq (⟨"CardDrawer$Keeper", "throwLeast", "()Z"⟩, 5) := ⟨⟨by decide +kernel, by decide +kernel⟩, List.mem_of_getElem? (i := 197) (by decide +kernel), List.mem_of_getElem? (i := 565) (by decide +kernel), List.mem_of_getElem? (i := 566) (by decide +kernel)⟩
theorem lw_p5 : lw_okq (⟨"CardDrawer$Keeper", "carryOut", "(II)V"⟩, 5) := ⟨⟨by decide +kernel, by decide +kernel⟩, List.mem_of_getElem? (i := 197) (by decide +kernel), List.mem_of_getElem? (i := 600) (by decide +kernel), List.mem_of_getElem? (i := 601) (by decide +kernel)⟩
theorem lw_p6 : lw_okq (⟨"CardDrawer$Keeper", "wantTrade", "()V"⟩, 5) := ⟨⟨by decide +kernel, by decide +kernel⟩, List.mem_of_getElem? (i := 197) (by decide +kernel), List.mem_of_getElem? (i := 609) (by decide +kernel), List.mem_of_getElem? (i := 610) (by decide +kernel)⟩
theorem lw_p7 : lw_okq (⟨"CardDrawer$Keeper", "wearCard", "(I)V"⟩, 5) := ⟨⟨by decide +kernel, by decide +kernel⟩, List.mem_of_getElem? (i := 197) (by decide +kernel), List.mem_of_getElem? (i := 613) (by decide +kernel), List.mem_of_getElem? (i := 614) (by decide +kernel)⟩
theorem lw_p8 : lw_okq (⟨"CardDrawer$Tape", "pastLetters", "(I)I"⟩, 5) := ⟨⟨by decide +kernel, by decide +kernel⟩, List.mem_of_getElem? (i := 239) (by decide +kernel), List.mem_of_getElem? (i := 657) (by decide +kernel), List.mem_of_getElem? (i := 658) (by decide +kernel)⟩
theorem lw_p9 : lw_okq (⟨"CardDrawer$Tape", "wordAt", "(II)I"⟩, 5) := ⟨⟨by decide +kernel, by decide +kernel⟩, List.mem_of_getElem? (i := 239) (by decide +kernel), List.mem_of_getElem? (i := 661) (by decide +kernel), List.mem_of_getElem? (i := 662) (by decide +kernel)⟩
theorem lw_p10 : lw_okq (⟨"CardDrawer$Tape", "isWord", "(III)Z"⟩, 5) := ⟨⟨by decide +kernel, by decide +kernel⟩, List.mem_of_getElem? (i := 239) (by decide +kernel), List.mem_of_getElem? (i := 665) (by decide +kernel), List.mem_of_getElem? (i := 666) (by decide +kernel)⟩
theorem lw_p11 : lw_okq (⟨"CardDrawer$Tape", "put", "(II)V"⟩, 5) := ⟨⟨by decide +kernel, by decide +kernel⟩, List.mem_of_getElem? (i := 239) (by decide +kernel), List.mem_of_getElem? (i := 710) (by decide +kernel), List.mem_of_getElem? (i := 711) (by decide +kernel)⟩
theorem lw_p12 : lw_okq (⟨"CardDrawer$Tape", "pastDigits", "(I)I"⟩, 5) := ⟨⟨by decide +kernel, by decide +kernel⟩, List.mem_of_getElem? (i := 239) (by decide +kernel), List.mem_of_getElem? (i := 717) (by decide +kernel), List.mem_of_getElem? (i := 718) (by decide +kernel)⟩
theorem lw_p13 : lw_okq (⟨"CardDrawer$Tape", "numberAt", "(II)I"⟩, 5) := ⟨⟨by decide +kernel, by decide +kernel⟩, List.mem_of_getElem? (i := 239) (by decide +kernel), List.mem_of_getElem? (i := 721) (by decide +kernel), List.mem_of_getElem? (i := 722) (by decide +kernel)⟩
theorem lw_p14 : lw_okq (⟨"CardDrawer$Reader", "lawLine", "()Z"⟩, 9) := ⟨⟨by decide +kernel, by decide +kernel⟩, List.mem_of_getElem? (i := 264) (by decide +kernel), List.mem_of_getElem? (i := 788) (by decide +kernel), List.mem_of_getElem? (i := 789) (by decide +kernel)⟩
theorem lw_p15 : lw_okq (⟨"CardDrawer$Reader", "opens", "(II)Z"⟩, 9) := ⟨⟨by decide +kernel, by decide +kernel⟩, List.mem_of_getElem? (i := 264) (by decide +kernel), List.mem_of_getElem? (i := 792) (by decide +kernel), List.mem_of_getElem? (i := 793) (by decide +kernel)⟩
def lw_privs_1 : List (MethodName × Nat) := [(⟨"CardDrawer$History", "dropOldest", "()V"⟩, 3), (⟨"CardDrawer$Law", "run", "(II)I"⟩, 9), (⟨"CardDrawer$Keeper", "reaches", "(I)Z"⟩, 5), (⟨"CardDrawer$Keeper", "enter", "(III)V"⟩, 5), (⟨"CardDrawer$Keeper", "throwLeast", "()Z"⟩, 5), (⟨"CardDrawer$Keeper", "carryOut", "(II)V"⟩, 5), (⟨"CardDrawer$Keeper", "wantTrade", "()V"⟩, 5), (⟨"CardDrawer$Keeper", "wearCard", "(I)V"⟩, 5), (⟨"CardDrawer$Tape", "pastLetters", "(I)I"⟩, 5), (⟨"CardDrawer$Tape", "wordAt", "(II)I"⟩, 5), (⟨"CardDrawer$Tape", "isWord", "(III)Z"⟩, 5), (⟨"CardDrawer$Tape", "put", "(II)V"⟩, 5), (⟨"CardDrawer$Tape", "pastDigits", "(I)I"⟩, 5), (⟨"CardDrawer$Tape", "numberAt", "(II)I"⟩, 5), (⟨"CardDrawer$Reader", "lawLine", "()Z"⟩, 9), (⟨"CardDrawer$Reader", "opens", "(II)Z"⟩, 9)]
theorem lw_r1 : ∀ q ∈ lw_privs_1, lw_okq q := List.forall_mem_cons.mpr ⟨lw_p0, List.forall_mem_cons.mpr ⟨lw_p1, List.forall_mem_cons.mpr ⟨lw_p2, List.forall_mem_cons.mpr ⟨lw_p3, List.forall_mem_cons.mpr ⟨lw_p4, List.forall_mem_cons.mpr ⟨lw_p5, List.forall_mem_cons.mpr ⟨lw_p6, List.forall_mem_cons.mpr ⟨lw_p7, List.forall_mem_cons.mpr ⟨lw_p8, List.forall_mem_cons.mpr ⟨lw_p9, List.forall_mem_cons.mpr ⟨lw_p10, List.forall_mem_cons.mpr ⟨lw_p11, List.forall_mem_cons.mpr ⟨lw_p12, List.forall_mem_cons.mpr ⟨lw_p13, List.forall_mem_cons.mpr ⟨lw_p14, List.forall_mem_cons.mpr ⟨lw_p15, fun _ h => absurd h List.not_mem_nil⟩⟩⟩⟩⟩⟩⟩⟩⟩⟩⟩⟩⟩⟩⟩⟩
theorem lw_p16 : lw_okq (⟨"CardDrawer$Reader", "fails", "(I)Z"⟩, 9) := ⟨⟨by decide +kernel, by decide +kernel⟩, List.mem_of_getElem? (i := 264) (by decide +kernel), List.mem_of_getElem? (i := 796) (by decide +kernel), List.mem_of_getElem? (i := 797) (by decide +kernel)⟩
theorem lw_p17 : lw_okq (⟨"CardDrawer$Reader", "advance", "()V"⟩, 9) := ⟨⟨by decide +kernel, by decide +kernel⟩, List.mem_of_getElem? (i := 264) (by decide +kernel), List.mem_of_getElem? (i := 800) (by decide +kernel), List.mem_of_getElem? (i := 801) (by decide +kernel)⟩
theorem lw_p18 : lw_okq (⟨"CardDrawer$Reader", "sum", "()Z"⟩, 9) := ⟨⟨by decide +kernel, by decide +kernel⟩, List.mem_of_getElem? (i := 264) (by decide +kernel), List.mem_of_getElem? (i := 804) (by decide +kernel), List.mem_of_getElem? (i := 805) (by decide +kernel)⟩
theorem lw_p19 : lw_okq (⟨"CardDrawer$Reader", "unit", "(Z)Z"⟩, 9) := ⟨⟨by decide +kernel, by decide +kernel⟩, List.mem_of_getElem? (i := 264) (by decide +kernel), List.mem_of_getElem? (i := 808) (by decide +kernel), List.mem_of_getElem? (i := 809) (by decide +kernel)⟩
theorem lw_p20 : lw_okq (⟨"CardDrawer$Reader", "addIfSign", "(I)V"⟩, 9) := ⟨⟨by decide +kernel, by decide +kernel⟩, List.mem_of_getElem? (i := 264) (by decide +kernel), List.mem_of_getElem? (i := 819) (by decide +kernel), List.mem_of_getElem? (i := 820) (by decide +kernel)⟩
theorem lw_p21 : lw_okq (⟨"CardDrawer$Reader", "either", "(I)Z"⟩, 9) := ⟨⟨by decide +kernel, by decide +kernel⟩, List.mem_of_getElem? (i := 264) (by decide +kernel), List.mem_of_getElem? (i := 823) (by decide +kernel), List.mem_of_getElem? (i := 824) (by decide +kernel)⟩
theorem lw_p22 : lw_okq (⟨"CardDrawer$Reader", "condition", "(I)Z"⟩, 9) := ⟨⟨by decide +kernel, by decide +kernel⟩, List.mem_of_getElem? (i := 264) (by decide +kernel), List.mem_of_getElem? (i := 827) (by decide +kernel), List.mem_of_getElem? (i := 828) (by decide +kernel)⟩
theorem lw_p23 : lw_okq (⟨"CardDrawer$Reader", "passes", "(I)Z"⟩, 9) := ⟨⟨by decide +kernel, by decide +kernel⟩, List.mem_of_getElem? (i := 264) (by decide +kernel), List.mem_of_getElem? (i := 831) (by decide +kernel), List.mem_of_getElem? (i := 832) (by decide +kernel)⟩
theorem lw_p24 : lw_okq (⟨"CardDrawer$Reader", "metLine", "()Z"⟩, 9) := ⟨⟨by decide +kernel, by decide +kernel⟩, List.mem_of_getElem? (i := 264) (by decide +kernel), List.mem_of_getElem? (i := 839) (by decide +kernel), List.mem_of_getElem? (i := 840) (by decide +kernel)⟩
theorem lw_p25 : lw_okq (⟨"CardDrawer$Reader", "passesNumber", "(II)Z"⟩, 9) := ⟨⟨by decide +kernel, by decide +kernel⟩, List.mem_of_getElem? (i := 264) (by decide +kernel), List.mem_of_getElem? (i := 843) (by decide +kernel), List.mem_of_getElem? (i := 844) (by decide +kernel)⟩
theorem lw_p26 : lw_okq (⟨"CardDrawer$Reader", "calledLine", "()Z"⟩, 9) := ⟨⟨by decide +kernel, by decide +kernel⟩, List.mem_of_getElem? (i := 264) (by decide +kernel), List.mem_of_getElem? (i := 848) (by decide +kernel), List.mem_of_getElem? (i := 849) (by decide +kernel)⟩
theorem lw_p27 : lw_okq (⟨"CardDrawer$Reader", "planLine", "(I)Z"⟩, 9) := ⟨⟨by decide +kernel, by decide +kernel⟩, List.mem_of_getElem? (i := 264) (by decide +kernel), List.mem_of_getElem? (i := 852) (by decide +kernel), List.mem_of_getElem? (i := 853) (by decide +kernel)⟩
theorem lw_p28 : lw_okq (⟨"CardDrawer$Told", "takeMet", "(LCardDrawer$Rows;)V"⟩, 10) := ⟨⟨by decide +kernel, by decide +kernel⟩, List.mem_of_getElem? (i := 81) (by decide +kernel), List.mem_of_getElem? (i := 865) (by decide +kernel), List.mem_of_getElem? (i := 866) (by decide +kernel)⟩
theorem lw_p29 : lw_okq (⟨"CardDrawer$Told", "takeCalled", "(LCardDrawer$Rows;)V"⟩, 10) := ⟨⟨by decide +kernel, by decide +kernel⟩, List.mem_of_getElem? (i := 81) (by decide +kernel), List.mem_of_getElem? (i := 871) (by decide +kernel), List.mem_of_getElem? (i := 872) (by decide +kernel)⟩
theorem lw_p30 : lw_okq (⟨"CardDrawer$Dating", "order", "(II)V"⟩, 4) := ⟨⟨by decide +kernel, by decide +kernel⟩, List.mem_of_getElem? (i := 307) (by decide +kernel), List.mem_of_getElem? (i := 932) (by decide +kernel), List.mem_of_getElem? (i := 933) (by decide +kernel)⟩
theorem lw_p31 : lw_okq (⟨"CardDrawer$Circle", "learn", "()I"⟩, 7) := ⟨⟨by decide +kernel, by decide +kernel⟩, List.mem_of_getElem? (i := 328) (by decide +kernel), List.mem_of_getElem? (i := 947) (by decide +kernel), List.mem_of_getElem? (i := 948) (by decide +kernel)⟩
def lw_privs_2 : List (MethodName × Nat) := [(⟨"CardDrawer$Reader", "fails", "(I)Z"⟩, 9), (⟨"CardDrawer$Reader", "advance", "()V"⟩, 9), (⟨"CardDrawer$Reader", "sum", "()Z"⟩, 9), (⟨"CardDrawer$Reader", "unit", "(Z)Z"⟩, 9), (⟨"CardDrawer$Reader", "addIfSign", "(I)V"⟩, 9), (⟨"CardDrawer$Reader", "either", "(I)Z"⟩, 9), (⟨"CardDrawer$Reader", "condition", "(I)Z"⟩, 9), (⟨"CardDrawer$Reader", "passes", "(I)Z"⟩, 9), (⟨"CardDrawer$Reader", "metLine", "()Z"⟩, 9), (⟨"CardDrawer$Reader", "passesNumber", "(II)Z"⟩, 9), (⟨"CardDrawer$Reader", "calledLine", "()Z"⟩, 9), (⟨"CardDrawer$Reader", "planLine", "(I)Z"⟩, 9), (⟨"CardDrawer$Told", "takeMet", "(LCardDrawer$Rows;)V"⟩, 10), (⟨"CardDrawer$Told", "takeCalled", "(LCardDrawer$Rows;)V"⟩, 10), (⟨"CardDrawer$Dating", "order", "(II)V"⟩, 4), (⟨"CardDrawer$Circle", "learn", "()I"⟩, 7)]
theorem lw_r2 : ∀ q ∈ lw_privs_2, lw_okq q := List.forall_mem_cons.mpr ⟨lw_p16, List.forall_mem_cons.mpr ⟨lw_p17, List.forall_mem_cons.mpr ⟨lw_p18, List.forall_mem_cons.mpr ⟨lw_p19, List.forall_mem_cons.mpr ⟨lw_p20, List.forall_mem_cons.mpr ⟨lw_p21, List.forall_mem_cons.mpr ⟨lw_p22, List.forall_mem_cons.mpr ⟨lw_p23, List.forall_mem_cons.mpr ⟨lw_p24, List.forall_mem_cons.mpr ⟨lw_p25, List.forall_mem_cons.mpr ⟨lw_p26, List.forall_mem_cons.mpr ⟨lw_p27, List.forall_mem_cons.mpr ⟨lw_p28, List.forall_mem_cons.mpr ⟨lw_p29, List.forall_mem_cons.mpr ⟨lw_p30, List.forall_mem_cons.mpr ⟨lw_p31, fun _ h => absurd h List.not_mem_nil⟩⟩⟩⟩⟩⟩⟩⟩⟩⟩⟩⟩⟩⟩⟩⟩
theorem lw_p32 : lw_okq (⟨"CardDrawer$Circle", "measure", "(I)V"⟩, 7) := ⟨⟨by decide +kernel, by decide +kernel⟩, List.mem_of_getElem? (i := 328) (by decide +kernel), List.mem_of_getElem? (i := 952) (by decide +kernel), List.mem_of_getElem? (i := 953) (by decide +kernel)⟩
theorem lw_p33 : lw_okq (⟨"CardDrawer$Circle", "besideSome", "(I)I"⟩, 7) := ⟨⟨by decide +kernel, by decide +kernel⟩, List.mem_of_getElem? (i := 328) (by decide +kernel), List.mem_of_getElem? (i := 957) (by decide +kernel), List.mem_of_getElem? (i := 958) (by decide +kernel)⟩
theorem lw_p34 : lw_okq (⟨"CardDrawer$Circle", "firstOnTheWay", "()I"⟩, 7) := ⟨⟨by decide +kernel, by decide +kernel⟩, List.mem_of_getElem? (i := 328) (by decide +kernel), List.mem_of_getElem? (i := 966) (by decide +kernel), List.mem_of_getElem? (i := 967) (by decide +kernel)⟩
theorem lw_p35 : lw_okq (⟨"CardDrawer$Circle", "isHeardByAll", "(II)Z"⟩, 7) := ⟨⟨by decide +kernel, by decide +kernel⟩, List.mem_of_getElem? (i := 328) (by decide +kernel), List.mem_of_getElem? (i := 995) (by decide +kernel), List.mem_of_getElem? (i := 996) (by decide +kernel)⟩
theorem lw_p36 : lw_okq (⟨"CardDrawer$Chooser", "tryCard", "(II)V"⟩, 5) := ⟨⟨by decide +kernel, by decide +kernel⟩, List.mem_of_getElem? (i := 359) (by decide +kernel), List.mem_of_getElem? (i := 1025) (by decide +kernel), List.mem_of_getElem? (i := 1026) (by decide +kernel)⟩
theorem lw_p37 : lw_okq (⟨"CardDrawer$Chooser", "questionsFor", "(I)I"⟩, 5) := ⟨⟨by decide +kernel, by decide +kernel⟩, List.mem_of_getElem? (i := 359) (by decide +kernel), List.mem_of_getElem? (i := 1029) (by decide +kernel), List.mem_of_getElem? (i := 1030) (by decide +kernel)⟩
theorem lw_p38 : lw_okq (⟨"CardDrawer$Chooser", "takeIfBetter", "(II)V"⟩, 5) := ⟨⟨by decide +kernel, by decide +kernel⟩, List.mem_of_getElem? (i := 359) (by decide +kernel), List.mem_of_getElem? (i := 1039) (by decide +kernel), List.mem_of_getElem? (i := 1040) (by decide +kernel)⟩
theorem lw_p39 : lw_okq (⟨"CardDrawer$Chooser", "tellsApart", "(I)Z"⟩, 5) := ⟨⟨by decide +kernel, by decide +kernel⟩, List.mem_of_getElem? (i := 359) (by decide +kernel), List.mem_of_getElem? (i := 1065) (by decide +kernel), List.mem_of_getElem? (i := 1066) (by decide +kernel)⟩
theorem lw_p40 : lw_okq (⟨"CardDrawer$Chooser", "isAlike", "(III)Z"⟩, 5) := ⟨⟨by decide +kernel, by decide +kernel⟩, List.mem_of_getElem? (i := 359) (by decide +kernel), List.mem_of_getElem? (i := 1069) (by decide +kernel), List.mem_of_getElem? (i := 1070) (by decide +kernel)⟩
theorem lw_p41 : lw_okq (⟨"CardDrawer$Chooser", "hasSooner", "(I)Z"⟩, 5) := ⟨⟨by decide +kernel, by decide +kernel⟩, List.mem_of_getElem? (i := 359) (by decide +kernel), List.mem_of_getElem? (i := 1082) (by decide +kernel), List.mem_of_getElem? (i := 1083) (by decide +kernel)⟩
theorem lw_p42 : lw_okq (⟨"CardDrawer$Circle", "peopleFor", "(II)I"⟩, 7) := ⟨⟨by decide +kernel, by decide +kernel⟩, List.mem_of_getElem? (i := 328) (by decide +kernel), List.mem_of_getElem? (i := 1115) (by decide +kernel), List.mem_of_getElem? (i := 1116) (by decide +kernel)⟩
theorem lw_p43 : lw_okq (⟨"CardDrawer$Chooser", "pile", "(I)I"⟩, 5) := ⟨⟨by decide +kernel, by decide +kernel⟩, List.mem_of_getElem? (i := 359) (by decide +kernel), List.mem_of_getElem? (i := 1146) (by decide +kernel), List.mem_of_getElem? (i := 1147) (by decide +kernel)⟩
theorem lw_p44 : lw_okq (⟨"CardDrawer$Chooser", "leftToLose", "(I)I"⟩, 5) := ⟨⟨by decide +kernel, by decide +kernel⟩, List.mem_of_getElem? (i := 359) (by decide +kernel), List.mem_of_getElem? (i := 1150) (by decide +kernel), List.mem_of_getElem? (i := 1151) (by decide +kernel)⟩
theorem lw_p45 : lw_okq (⟨"CardDrawerModel", "isPerson", "(I)Z"⟩, 60) := ⟨⟨by decide +kernel, by decide +kernel⟩, List.mem_of_getElem? (i := 1177) (by decide +kernel), List.mem_of_getElem? (i := 1376) (by decide +kernel), List.mem_of_getElem? (i := 1377) (by decide +kernel)⟩
theorem lw_p46 : lw_okq (⟨"CardDrawerModel", "isIn", "(III)Z"⟩, 60) := ⟨⟨by decide +kernel, by decide +kernel⟩, List.mem_of_getElem? (i := 1177) (by decide +kernel), List.mem_of_getElem? (i := 1380) (by decide +kernel), List.mem_of_getElem? (i := 1381) (by decide +kernel)⟩
theorem lw_p47 : lw_okq (⟨"CardDrawerModel", "isCard", "(I)Z"⟩, 60) := ⟨⟨by decide +kernel, by decide +kernel⟩, List.mem_of_getElem? (i := 1177) (by decide +kernel), List.mem_of_getElem? (i := 1388) (by decide +kernel), List.mem_of_getElem? (i := 1389) (by decide +kernel)⟩
def lw_privs_3 : List (MethodName × Nat) := [(⟨"CardDrawer$Circle", "measure", "(I)V"⟩, 7), (⟨"CardDrawer$Circle", "besideSome", "(I)I"⟩, 7), (⟨"CardDrawer$Circle", "firstOnTheWay", "()I"⟩, 7), (⟨"CardDrawer$Circle", "isHeardByAll", "(II)Z"⟩, 7), (⟨"CardDrawer$Chooser", "tryCard", "(II)V"⟩, 5), (⟨"CardDrawer$Chooser", "questionsFor", "(I)I"⟩, 5), (⟨"CardDrawer$Chooser", "takeIfBetter", "(II)V"⟩, 5), (⟨"CardDrawer$Chooser", "tellsApart", "(I)Z"⟩, 5), (⟨"CardDrawer$Chooser", "isAlike", "(III)Z"⟩, 5), (⟨"CardDrawer$Chooser", "hasSooner", "(I)Z"⟩, 5), (⟨"CardDrawer$Circle", "peopleFor", "(II)I"⟩, 7), (⟨"CardDrawer$Chooser", "pile", "(I)I"⟩, 5), (⟨"CardDrawer$Chooser", "leftToLose", "(I)I"⟩, 5), (⟨"CardDrawerModel", "isPerson", "(I)Z"⟩, 60), (⟨"CardDrawerModel", "isIn", "(III)Z"⟩, 60), (⟨"CardDrawerModel", "isCard", "(I)Z"⟩, 60)]
theorem lw_r3 : ∀ q ∈ lw_privs_3, lw_okq q := List.forall_mem_cons.mpr ⟨lw_p32, List.forall_mem_cons.mpr ⟨lw_p33, List.forall_mem_cons.mpr ⟨lw_p34, List.forall_mem_cons.mpr ⟨lw_p35, List.forall_mem_cons.mpr ⟨lw_p36, List.forall_mem_cons.mpr ⟨lw_p37, List.forall_mem_cons.mpr ⟨lw_p38, List.forall_mem_cons.mpr ⟨lw_p39, List.forall_mem_cons.mpr ⟨lw_p40, List.forall_mem_cons.mpr ⟨lw_p41, List.forall_mem_cons.mpr ⟨lw_p42, List.forall_mem_cons.mpr ⟨lw_p43, List.forall_mem_cons.mpr ⟨lw_p44, List.forall_mem_cons.mpr ⟨lw_p45, List.forall_mem_cons.mpr ⟨lw_p46, List.forall_mem_cons.mpr ⟨lw_p47, fun _ h => absurd h List.not_mem_nil⟩⟩⟩⟩⟩⟩⟩⟩⟩⟩⟩⟩⟩⟩⟩⟩
theorem lw_p48 : lw_okq (⟨"CardDrawerModel", "types", "(I)V"⟩, 60) := ⟨⟨by decide +kernel, by decide +kernel⟩, List.mem_of_getElem? (i := 1177) (by decide +kernel), List.mem_of_getElem? (i := 1396) (by decide +kernel), List.mem_of_getElem? (i := 1397) (by decide +kernel)⟩
theorem lw_p49 : lw_okq (⟨"CardDrawerModel", "readsText", "(I)I"⟩, 60) := ⟨⟨by decide +kernel, by decide +kernel⟩, List.mem_of_getElem? (i := 1177) (by decide +kernel), List.mem_of_getElem? (i := 1408) (by decide +kernel), List.mem_of_getElem? (i := 1409) (by decide +kernel)⟩
theorem lw_p50 : lw_okq (⟨"CardDrawerModel", "reads", "()V"⟩, 60) := ⟨⟨by decide +kernel, by decide +kernel⟩, List.mem_of_getElem? (i := 1177) (by decide +kernel), List.mem_of_getElem? (i := 1412) (by decide +kernel), List.mem_of_getElem? (i := 1413) (by decide +kernel)⟩
theorem lw_p51 : lw_okq (⟨"CardDrawerModel", "raw", "(I)I"⟩, 60) := ⟨⟨by decide +kernel, by decide +kernel⟩, List.mem_of_getElem? (i := 1177) (by decide +kernel), List.mem_of_getElem? (i := 1416) (by decide +kernel), List.mem_of_getElem? (i := 1417) (by decide +kernel)⟩
theorem lw_p52 : lw_okq (⟨"CardDrawerModel", "isLetter", "(I)Z"⟩, 60) := ⟨⟨by decide +kernel, by decide +kernel⟩, List.mem_of_getElem? (i := 1177) (by decide +kernel), List.mem_of_getElem? (i := 1420) (by decide +kernel), List.mem_of_getElem? (i := 1421) (by decide +kernel)⟩
theorem lw_p53 : lw_okq (⟨"CardDrawerModel", "wordAt", "(II)I"⟩, 60) := ⟨⟨by decide +kernel, by decide +kernel⟩, List.mem_of_getElem? (i := 1177) (by decide +kernel), List.mem_of_getElem? (i := 1424) (by decide +kernel), List.mem_of_getElem? (i := 1425) (by decide +kernel)⟩
theorem lw_p54 : lw_okq (⟨"CardDrawerModel", "isDigit", "(I)Z"⟩, 60) := ⟨⟨by decide +kernel, by decide +kernel⟩, List.mem_of_getElem? (i := 1177) (by decide +kernel), List.mem_of_getElem? (i := 1428) (by decide +kernel), List.mem_of_getElem? (i := 1429) (by decide +kernel)⟩
theorem lw_p55 : lw_okq (⟨"CardDrawerModel", "isMarkSign", "(I)Z"⟩, 60) := ⟨⟨by decide +kernel, by decide +kernel⟩, List.mem_of_getElem? (i := 1177) (by decide +kernel), List.mem_of_getElem? (i := 1432) (by decide +kernel), List.mem_of_getElem? (i := 1433) (by decide +kernel)⟩
theorem lw_p56 : lw_okq (⟨"CardDrawerModel", "readMet", "()I"⟩, 60) := ⟨⟨by decide +kernel, by decide +kernel⟩, List.mem_of_getElem? (i := 1177) (by decide +kernel), List.mem_of_getElem? (i := 1436) (by decide +kernel), List.mem_of_getElem? (i := 1437) (by decide +kernel)⟩
theorem lw_p57 : lw_okq (⟨"CardDrawerModel", "isWord", "(I)Z"⟩, 60) := ⟨⟨by decide +kernel, by decide +kernel⟩, List.mem_of_getElem? (i := 1177) (by decide +kernel), List.mem_of_getElem? (i := 1440) (by decide +kernel), List.mem_of_getElem? (i := 1441) (by decide +kernel)⟩
theorem lw_p58 : lw_okq (⟨"CardDrawerModel", "errs", "(I)I"⟩, 60) := ⟨⟨by decide +kernel, by decide +kernel⟩, List.mem_of_getElem? (i := 1177) (by decide +kernel), List.mem_of_getElem? (i := 1444) (by decide +kernel), List.mem_of_getElem? (i := 1445) (by decide +kernel)⟩
theorem lw_p59 : lw_okq (⟨"CardDrawerModel", "readMetLine", "()I"⟩, 60) := ⟨⟨by decide +kernel, by decide +kernel⟩, List.mem_of_getElem? (i := 1177) (by decide +kernel), List.mem_of_getElem? (i := 1448) (by decide +kernel), List.mem_of_getElem? (i := 1449) (by decide +kernel)⟩
theorem lw_p60 : lw_okq (⟨"CardDrawerModel", "readTold", "(III)I"⟩, 60) := ⟨⟨by decide +kernel, by decide +kernel⟩, List.mem_of_getElem? (i := 1177) (by decide +kernel), List.mem_of_getElem? (i := 1452) (by decide +kernel), List.mem_of_getElem? (i := 1453) (by decide +kernel)⟩
theorem lw_p61 : lw_okq (⟨"CardDrawerModel", "readNumber", "(II)I"⟩, 60) := ⟨⟨by decide +kernel, by decide +kernel⟩, List.mem_of_getElem? (i := 1177) (by decide +kernel), List.mem_of_getElem? (i := 1456) (by decide +kernel), List.mem_of_getElem? (i := 1457) (by decide +kernel)⟩
theorem lw_p62 : lw_okq (⟨"CardDrawerModel", "readMark", "(I)I"⟩, 60) := ⟨⟨by decide +kernel, by decide +kernel⟩, List.mem_of_getElem? (i := 1177) (by decide +kernel), List.mem_of_getElem? (i := 1460) (by decide +kernel), List.mem_of_getElem? (i := 1461) (by decide +kernel)⟩
theorem lw_p63 : lw_okq (⟨"CardDrawerModel", "isSign", "(I)Z"⟩, 60) := ⟨⟨by decide +kernel, by decide +kernel⟩, List.mem_of_getElem? (i := 1177) (by decide +kernel), List.mem_of_getElem? (i := 1464) (by decide +kernel), List.mem_of_getElem? (i := 1465) (by decide +kernel)⟩
def lw_privs_4 : List (MethodName × Nat) := [(⟨"CardDrawerModel", "types", "(I)V"⟩, 60), (⟨"CardDrawerModel", "readsText", "(I)I"⟩, 60), (⟨"CardDrawerModel", "reads", "()V"⟩, 60), (⟨"CardDrawerModel", "raw", "(I)I"⟩, 60), (⟨"CardDrawerModel", "isLetter", "(I)Z"⟩, 60), (⟨"CardDrawerModel", "wordAt", "(II)I"⟩, 60), (⟨"CardDrawerModel", "isDigit", "(I)Z"⟩, 60), (⟨"CardDrawerModel", "isMarkSign", "(I)Z"⟩, 60), (⟨"CardDrawerModel", "readMet", "()I"⟩, 60), (⟨"CardDrawerModel", "isWord", "(I)Z"⟩, 60), (⟨"CardDrawerModel", "errs", "(I)I"⟩, 60), (⟨"CardDrawerModel", "readMetLine", "()I"⟩, 60), (⟨"CardDrawerModel", "readTold", "(III)I"⟩, 60), (⟨"CardDrawerModel", "readNumber", "(II)I"⟩, 60), (⟨"CardDrawerModel", "readMark", "(I)I"⟩, 60), (⟨"CardDrawerModel", "isSign", "(I)Z"⟩, 60)]
theorem lw_r4 : ∀ q ∈ lw_privs_4, lw_okq q := List.forall_mem_cons.mpr ⟨lw_p48, List.forall_mem_cons.mpr ⟨lw_p49, List.forall_mem_cons.mpr ⟨lw_p50, List.forall_mem_cons.mpr ⟨lw_p51, List.forall_mem_cons.mpr ⟨lw_p52, List.forall_mem_cons.mpr ⟨lw_p53, List.forall_mem_cons.mpr ⟨lw_p54, List.forall_mem_cons.mpr ⟨lw_p55, List.forall_mem_cons.mpr ⟨lw_p56, List.forall_mem_cons.mpr ⟨lw_p57, List.forall_mem_cons.mpr ⟨lw_p58, List.forall_mem_cons.mpr ⟨lw_p59, List.forall_mem_cons.mpr ⟨lw_p60, List.forall_mem_cons.mpr ⟨lw_p61, List.forall_mem_cons.mpr ⟨lw_p62, List.forall_mem_cons.mpr ⟨lw_p63, fun _ h => absurd h List.not_mem_nil⟩⟩⟩⟩⟩⟩⟩⟩⟩⟩⟩⟩⟩⟩⟩⟩
theorem lw_p64 : lw_okq (⟨"CardDrawerModel", "readCalled", "()I"⟩, 60) := ⟨⟨by decide +kernel, by decide +kernel⟩, List.mem_of_getElem? (i := 1177) (by decide +kernel), List.mem_of_getElem? (i := 1468) (by decide +kernel), List.mem_of_getElem? (i := 1469) (by decide +kernel)⟩
theorem lw_p65 : lw_okq (⟨"CardDrawerModel", "readCalledLine", "()I"⟩, 60) := ⟨⟨by decide +kernel, by decide +kernel⟩, List.mem_of_getElem? (i := 1177) (by decide +kernel), List.mem_of_getElem? (i := 1472) (by decide +kernel), List.mem_of_getElem? (i := 1473) (by decide +kernel)⟩
theorem lw_p66 : lw_okq (⟨"CardDrawerModel", "readPlan", "()I"⟩, 60) := ⟨⟨by decide +kernel, by decide +kernel⟩, List.mem_of_getElem? (i := 1177) (by decide +kernel), List.mem_of_getElem? (i := 1476) (by decide +kernel), List.mem_of_getElem? (i := 1477) (by decide +kernel)⟩
theorem lw_p67 : lw_okq (⟨"CardDrawerModel", "readDeed", "(I)I"⟩, 60) := ⟨⟨by decide +kernel, by decide +kernel⟩, List.mem_of_getElem? (i := 1177) (by decide +kernel), List.mem_of_getElem? (i := 1480) (by decide +kernel), List.mem_of_getElem? (i := 1481) (by decide +kernel)⟩
theorem lw_p68 : lw_okq (⟨"CardDrawerModel", "readLaw", "()I"⟩, 60) := ⟨⟨by decide +kernel, by decide +kernel⟩, List.mem_of_getElem? (i := 1177) (by decide +kernel), List.mem_of_getElem? (i := 1484) (by decide +kernel), List.mem_of_getElem? (i := 1485) (by decide +kernel)⟩
theorem lw_p69 : lw_okq (⟨"CardDrawerModel", "isLineWord", "()Z"⟩, 60) := ⟨⟨by decide +kernel, by decide +kernel⟩, List.mem_of_getElem? (i := 1177) (by decide +kernel), List.mem_of_getElem? (i := 1488) (by decide +kernel), List.mem_of_getElem? (i := 1489) (by decide +kernel)⟩
theorem lw_p70 : lw_okq (⟨"CardDrawerModel", "readSum", "()I"⟩, 60) := ⟨⟨by decide +kernel, by decide +kernel⟩, List.mem_of_getElem? (i := 1177) (by decide +kernel), List.mem_of_getElem? (i := 1492) (by decide +kernel), List.mem_of_getElem? (i := 1493) (by decide +kernel)⟩
theorem lw_p71 : lw_okq (⟨"CardDrawerModel", "readProduct", "()I"⟩, 60) := ⟨⟨by decide +kernel, by decide +kernel⟩, List.mem_of_getElem? (i := 1177) (by decide +kernel), List.mem_of_getElem? (i := 1496) (by decide +kernel), List.mem_of_getElem? (i := 1497) (by decide +kernel)⟩
theorem lw_p72 : lw_okq (⟨"CardDrawerModel", "readUnit", "()I"⟩, 60) := ⟨⟨by decide +kernel, by decide +kernel⟩, List.mem_of_getElem? (i := 1177) (by decide +kernel), List.mem_of_getElem? (i := 1500) (by decide +kernel), List.mem_of_getElem? (i := 1501) (by decide +kernel)⟩
theorem lw_p73 : lw_okq (⟨"CardDrawerModel", "canAsk", "(I)Z"⟩, 60) := ⟨⟨by decide +kernel, by decide +kernel⟩, List.mem_of_getElem? (i := 1177) (by decide +kernel), List.mem_of_getElem? (i := 1504) (by decide +kernel), List.mem_of_getElem? (i := 1505) (by decide +kernel)⟩
theorem lw_p74 : lw_okq (⟨"CardDrawerModel", "emits", "(II)V"⟩, 60) := ⟨⟨by decide +kernel, by decide +kernel⟩, List.mem_of_getElem? (i := 1177) (by decide +kernel), List.mem_of_getElem? (i := 1508) (by decide +kernel), List.mem_of_getElem? (i := 1509) (by decide +kernel)⟩
theorem lw_p75 : lw_okq (⟨"CardDrawerModel", "readAny", "()I"⟩, 60) := ⟨⟨by decide +kernel, by decide +kernel⟩, List.mem_of_getElem? (i := 1177) (by decide +kernel), List.mem_of_getElem? (i := 1512) (by decide +kernel), List.mem_of_getElem? (i := 1513) (by decide +kernel)⟩
theorem lw_p76 : lw_okq (⟨"CardDrawerModel", "waits", "(I)V"⟩, 60) := ⟨⟨by decide +kernel, by decide +kernel⟩, List.mem_of_getElem? (i := 1177) (by decide +kernel), List.mem_of_getElem? (i := 1516) (by decide +kernel), List.mem_of_getElem? (i := 1517) (by decide +kernel)⟩
theorem lw_p77 : lw_okq (⟨"CardDrawerModel", "readCompared", "()I"⟩, 60) := ⟨⟨by decide +kernel, by decide +kernel⟩, List.mem_of_getElem? (i := 1177) (by decide +kernel), List.mem_of_getElem? (i := 1520) (by decide +kernel), List.mem_of_getElem? (i := 1521) (by decide +kernel)⟩
theorem lw_p78 : lw_okq (⟨"CardDrawerModel", "settles", "(I)V"⟩, 60) := ⟨⟨by decide +kernel, by decide +kernel⟩, List.mem_of_getElem? (i := 1177) (by decide +kernel), List.mem_of_getElem? (i := 1524) (by decide +kernel), List.mem_of_getElem? (i := 1525) (by decide +kernel)⟩
theorem lw_p79 : lw_okq (⟨"CardDrawerModel", "takesLaw", "(I)V"⟩, 60) := ⟨⟨by decide +kernel, by decide +kernel⟩, List.mem_of_getElem? (i := 1177) (by decide +kernel), List.mem_of_getElem? (i := 1528) (by decide +kernel), List.mem_of_getElem? (i := 1529) (by decide +kernel)⟩
def lw_privs_5 : List (MethodName × Nat) := [(⟨"CardDrawerModel", "readCalled", "()I"⟩, 60), (⟨"CardDrawerModel", "readCalledLine", "()I"⟩, 60), (⟨"CardDrawerModel", "readPlan", "()I"⟩, 60), (⟨"CardDrawerModel", "readDeed", "(I)I"⟩, 60), (⟨"CardDrawerModel", "readLaw", "()I"⟩, 60), (⟨"CardDrawerModel", "isLineWord", "()Z"⟩, 60), (⟨"CardDrawerModel", "readSum", "()I"⟩, 60), (⟨"CardDrawerModel", "readProduct", "()I"⟩, 60), (⟨"CardDrawerModel", "readUnit", "()I"⟩, 60), (⟨"CardDrawerModel", "canAsk", "(I)Z"⟩, 60), (⟨"CardDrawerModel", "emits", "(II)V"⟩, 60), (⟨"CardDrawerModel", "readAny", "()I"⟩, 60), (⟨"CardDrawerModel", "waits", "(I)V"⟩, 60), (⟨"CardDrawerModel", "readCompared", "()I"⟩, 60), (⟨"CardDrawerModel", "settles", "(I)V"⟩, 60), (⟨"CardDrawerModel", "takesLaw", "(I)V"⟩, 60)]
theorem lw_r5 : ∀ q ∈ lw_privs_5, lw_okq q := List.forall_mem_cons.mpr ⟨lw_p64, List.forall_mem_cons.mpr ⟨lw_p65, List.forall_mem_cons.mpr ⟨lw_p66, List.forall_mem_cons.mpr ⟨lw_p67, List.forall_mem_cons.mpr ⟨lw_p68, List.forall_mem_cons.mpr ⟨lw_p69, List.forall_mem_cons.mpr ⟨lw_p70, List.forall_mem_cons.mpr ⟨lw_p71, List.forall_mem_cons.mpr ⟨lw_p72, List.forall_mem_cons.mpr ⟨lw_p73, List.forall_mem_cons.mpr ⟨lw_p74, List.forall_mem_cons.mpr ⟨lw_p75, List.forall_mem_cons.mpr ⟨lw_p76, List.forall_mem_cons.mpr ⟨lw_p77, List.forall_mem_cons.mpr ⟨lw_p78, List.forall_mem_cons.mpr ⟨lw_p79, fun _ h => absurd h List.not_mem_nil⟩⟩⟩⟩⟩⟩⟩⟩⟩⟩⟩⟩⟩⟩⟩⟩
theorem lw_p80 : lw_okq (⟨"CardDrawerModel", "takesOther", "(II)V"⟩, 60) := ⟨⟨by decide +kernel, by decide +kernel⟩, List.mem_of_getElem? (i := 1177) (by decide +kernel), List.mem_of_getElem? (i := 1532) (by decide +kernel), List.mem_of_getElem? (i := 1533) (by decide +kernel)⟩
theorem lw_p81 : lw_okq (⟨"CardDrawerModel", "bestCard", "(II)I"⟩, 60) := ⟨⟨by decide +kernel, by decide +kernel⟩, List.mem_of_getElem? (i := 1177) (by decide +kernel), List.mem_of_getElem? (i := 1544) (by decide +kernel), List.mem_of_getElem? (i := 1545) (by decide +kernel)⟩
theorem lw_p82 : lw_okq (⟨"CardDrawerModel", "isKept", "(I)Z"⟩, 60) := ⟨⟨by decide +kernel, by decide +kernel⟩, List.mem_of_getElem? (i := 1177) (by decide +kernel), List.mem_of_getElem? (i := 1548) (by decide +kernel), List.mem_of_getElem? (i := 1549) (by decide +kernel)⟩
theorem lw_p83 : lw_okq (⟨"CardDrawerModel", "holdsOf", "(I)I"⟩, 60) := ⟨⟨by decide +kernel, by decide +kernel⟩, List.mem_of_getElem? (i := 1177) (by decide +kernel), List.mem_of_getElem? (i := 1552) (by decide +kernel), List.mem_of_getElem? (i := 1553) (by decide +kernel)⟩
theorem lw_p84 : lw_okq (⟨"CardDrawerModel", "ageOf", "(I)I"⟩, 60) := ⟨⟨by decide +kernel, by decide +kernel⟩, List.mem_of_getElem? (i := 1177) (by decide +kernel), List.mem_of_getElem? (i := 1556) (by decide +kernel), List.mem_of_getElem? (i := 1557) (by decide +kernel)⟩
theorem lw_p85 : lw_okq (⟨"CardDrawerModel", "greater", "(II)I"⟩, 60) := ⟨⟨by decide +kernel, by decide +kernel⟩, List.mem_of_getElem? (i := 1177) (by decide +kernel), List.mem_of_getElem? (i := 1560) (by decide +kernel), List.mem_of_getElem? (i := 1561) (by decide +kernel)⟩
theorem lw_p86 : lw_okq (⟨"CardDrawerModel", "lawTells", "(IIII)I"⟩, 60) := ⟨⟨by decide +kernel, by decide +kernel⟩, List.mem_of_getElem? (i := 1177) (by decide +kernel), List.mem_of_getElem? (i := 1564) (by decide +kernel), List.mem_of_getElem? (i := 1565) (by decide +kernel)⟩
theorem lw_p87 : lw_okq (⟨"CardDrawerModel", "lineOf", "(I)I"⟩, 60) := ⟨⟨by decide +kernel, by decide +kernel⟩, List.mem_of_getElem? (i := 1177) (by decide +kernel), List.mem_of_getElem? (i := 1568) (by decide +kernel), List.mem_of_getElem? (i := 1569) (by decide +kernel)⟩
theorem lw_p88 : lw_okq (⟨"CardDrawerModel", "runs", "(III)I"⟩, 60) := ⟨⟨by decide +kernel, by decide +kernel⟩, List.mem_of_getElem? (i := 1177) (by decide +kernel), List.mem_of_getElem? (i := 1572) (by decide +kernel), List.mem_of_getElem? (i := 1573) (by decide +kernel)⟩
theorem lw_p89 : lw_okq (⟨"CardDrawerModel", "twoOf", "(III)I"⟩, 60) := ⟨⟨by decide +kernel, by decide +kernel⟩, List.mem_of_getElem? (i := 1177) (by decide +kernel), List.mem_of_getElem? (i := 1576) (by decide +kernel), List.mem_of_getElem? (i := 1577) (by decide +kernel)⟩
theorem lw_p90 : lw_okq (⟨"CardDrawerModel", "held", "(III)I"⟩, 60) := ⟨⟨by decide +kernel, by decide +kernel⟩, List.mem_of_getElem? (i := 1177) (by decide +kernel), List.mem_of_getElem? (i := 1580) (by decide +kernel), List.mem_of_getElem? (i := 1581) (by decide +kernel)⟩
theorem lw_p91 : lw_okq (⟨"CardDrawerModel", "keepsAhead", "()V"⟩, 60) := ⟨⟨by decide +kernel, by decide +kernel⟩, List.mem_of_getElem? (i := 1177) (by decide +kernel), List.mem_of_getElem? (i := 1584) (by decide +kernel), List.mem_of_getElem? (i := 1585) (by decide +kernel)⟩
theorem lw_p92 : lw_okq (⟨"CardDrawerModel", "rings", "(I)I"⟩, 60) := ⟨⟨by decide +kernel, by decide +kernel⟩, List.mem_of_getElem? (i := 1177) (by decide +kernel), List.mem_of_getElem? (i := 1588) (by decide +kernel), List.mem_of_getElem? (i := 1589) (by decide +kernel)⟩
theorem lw_p93 : lw_okq (⟨"CardDrawerModel", "doesHold", "(II)Z"⟩, 60) := ⟨⟨by decide +kernel, by decide +kernel⟩, List.mem_of_getElem? (i := 1177) (by decide +kernel), List.mem_of_getElem? (i := 1592) (by decide +kernel), List.mem_of_getElem? (i := 1593) (by decide +kernel)⟩
theorem lw_p94 : lw_okq (⟨"CardDrawerModel", "draw", "(I)I"⟩, 60) := ⟨⟨by decide +kernel, by decide +kernel⟩, List.mem_of_getElem? (i := 1177) (by decide +kernel), List.mem_of_getElem? (i := 1596) (by decide +kernel), List.mem_of_getElem? (i := 1597) (by decide +kernel)⟩
theorem lw_p95 : lw_okq (⟨"CardDrawerModel", "lesser", "(II)I"⟩, 60) := ⟨⟨by decide +kernel, by decide +kernel⟩, List.mem_of_getElem? (i := 1177) (by decide +kernel), List.mem_of_getElem? (i := 1602) (by decide +kernel), List.mem_of_getElem? (i := 1603) (by decide +kernel)⟩
def lw_privs_6 : List (MethodName × Nat) := [(⟨"CardDrawerModel", "takesOther", "(II)V"⟩, 60), (⟨"CardDrawerModel", "bestCard", "(II)I"⟩, 60), (⟨"CardDrawerModel", "isKept", "(I)Z"⟩, 60), (⟨"CardDrawerModel", "holdsOf", "(I)I"⟩, 60), (⟨"CardDrawerModel", "ageOf", "(I)I"⟩, 60), (⟨"CardDrawerModel", "greater", "(II)I"⟩, 60), (⟨"CardDrawerModel", "lawTells", "(IIII)I"⟩, 60), (⟨"CardDrawerModel", "lineOf", "(I)I"⟩, 60), (⟨"CardDrawerModel", "runs", "(III)I"⟩, 60), (⟨"CardDrawerModel", "twoOf", "(III)I"⟩, 60), (⟨"CardDrawerModel", "held", "(III)I"⟩, 60), (⟨"CardDrawerModel", "keepsAhead", "()V"⟩, 60), (⟨"CardDrawerModel", "rings", "(I)I"⟩, 60), (⟨"CardDrawerModel", "doesHold", "(II)Z"⟩, 60), (⟨"CardDrawerModel", "draw", "(I)I"⟩, 60), (⟨"CardDrawerModel", "lesser", "(II)I"⟩, 60)]
theorem lw_r6 : ∀ q ∈ lw_privs_6, lw_okq q := List.forall_mem_cons.mpr ⟨lw_p80, List.forall_mem_cons.mpr ⟨lw_p81, List.forall_mem_cons.mpr ⟨lw_p82, List.forall_mem_cons.mpr ⟨lw_p83, List.forall_mem_cons.mpr ⟨lw_p84, List.forall_mem_cons.mpr ⟨lw_p85, List.forall_mem_cons.mpr ⟨lw_p86, List.forall_mem_cons.mpr ⟨lw_p87, List.forall_mem_cons.mpr ⟨lw_p88, List.forall_mem_cons.mpr ⟨lw_p89, List.forall_mem_cons.mpr ⟨lw_p90, List.forall_mem_cons.mpr ⟨lw_p91, List.forall_mem_cons.mpr ⟨lw_p92, List.forall_mem_cons.mpr ⟨lw_p93, List.forall_mem_cons.mpr ⟨lw_p94, List.forall_mem_cons.mpr ⟨lw_p95, fun _ h => absurd h List.not_mem_nil⟩⟩⟩⟩⟩⟩⟩⟩⟩⟩⟩⟩⟩⟩⟩⟩
theorem lw_p96 : lw_okq (⟨"CardDrawerModel", "notes", "(III)V"⟩, 60) := ⟨⟨by decide +kernel, by decide +kernel⟩, List.mem_of_getElem? (i := 1177) (by decide +kernel), List.mem_of_getElem? (i := 1606) (by decide +kernel), List.mem_of_getElem? (i := 1607) (by decide +kernel)⟩
theorem lw_p97 : lw_okq (⟨"CardDrawerModel", "throwsSome", "(I)I"⟩, 60) := ⟨⟨by decide +kernel, by decide +kernel⟩, List.mem_of_getElem? (i := 1177) (by decide +kernel), List.mem_of_getElem? (i := 1614) (by decide +kernel), List.mem_of_getElem? (i := 1615) (by decide +kernel)⟩
theorem lw_p98 : lw_okq (⟨"CardDrawerModel", "leastWorth", "()I"⟩, 60) := ⟨⟨by decide +kernel, by decide +kernel⟩, List.mem_of_getElem? (i := 1177) (by decide +kernel), List.mem_of_getElem? (i := 1618) (by decide +kernel), List.mem_of_getElem? (i := 1619) (by decide +kernel)⟩
theorem lw_p99 : lw_okq (⟨"CardDrawerModel", "worthOf", "(I)I"⟩, 60) := ⟨⟨by decide +kernel, by decide +kernel⟩, List.mem_of_getElem? (i := 1177) (by decide +kernel), List.mem_of_getElem? (i := 1622) (by decide +kernel), List.mem_of_getElem? (i := 1623) (by decide +kernel)⟩
theorem lw_p100 : lw_okq (⟨"CardDrawerModel", "finds", "(I)V"⟩, 60) := ⟨⟨by decide +kernel, by decide +kernel⟩, List.mem_of_getElem? (i := 1177) (by decide +kernel), List.mem_of_getElem? (i := 1630) (by decide +kernel), List.mem_of_getElem? (i := 1631) (by decide +kernel)⟩
theorem lw_p101 : lw_okq (⟨"CardDrawerModel", "bends", "(I)V"⟩, 60) := ⟨⟨by decide +kernel, by decide +kernel⟩, List.mem_of_getElem? (i := 1177) (by decide +kernel), List.mem_of_getElem? (i := 1634) (by decide +kernel), List.mem_of_getElem? (i := 1635) (by decide +kernel)⟩
theorem lw_p102 : lw_okq (⟨"CardDrawerModel", "goesBy", "()I"⟩, 60) := ⟨⟨by decide +kernel, by decide +kernel⟩, List.mem_of_getElem? (i := 1177) (by decide +kernel), List.mem_of_getElem? (i := 1642) (by decide +kernel), List.mem_of_getElem? (i := 1643) (by decide +kernel)⟩
theorem lw_p103 : lw_okq (⟨"CardDrawerModel", "doesDeed", "(I)V"⟩, 60) := ⟨⟨by decide +kernel, by decide +kernel⟩, List.mem_of_getElem? (i := 1177) (by decide +kernel), List.mem_of_getElem? (i := 1646) (by decide +kernel), List.mem_of_getElem? (i := 1647) (by decide +kernel)⟩
theorem lw_p104 : lw_okq (⟨"CardDrawerModel", "isServed", "()Z"⟩, 60) := ⟨⟨by decide +kernel, by decide +kernel⟩, List.mem_of_getElem? (i := 1177) (by decide +kernel), List.mem_of_getElem? (i := 1650) (by decide +kernel), List.mem_of_getElem? (i := 1651) (by decide +kernel)⟩
theorem lw_p105 : lw_okq (⟨"CardDrawerModel", "wears", "(I)V"⟩, 60) := ⟨⟨by decide +kernel, by decide +kernel⟩, List.mem_of_getElem? (i := 1177) (by decide +kernel), List.mem_of_getElem? (i := 1654) (by decide +kernel), List.mem_of_getElem? (i := 1655) (by decide +kernel)⟩
theorem lw_p106 : lw_okq (⟨"CardDrawerModel", "dustOf", "(I)I"⟩, 60) := ⟨⟨by decide +kernel, by decide +kernel⟩, List.mem_of_getElem? (i := 1177) (by decide +kernel), List.mem_of_getElem? (i := 1658) (by decide +kernel), List.mem_of_getElem? (i := 1659) (by decide +kernel)⟩
theorem lw_p107 : lw_okq (⟨"CardDrawerModel", "introducer", "(I)I"⟩, 60) := ⟨⟨by decide +kernel, by decide +kernel⟩, List.mem_of_getElem? (i := 1177) (by decide +kernel), List.mem_of_getElem? (i := 1670) (by decide +kernel), List.mem_of_getElem? (i := 1671) (by decide +kernel)⟩
theorem lw_p108 : lw_okq (⟨"CardDrawerModel", "thinks", "()V"⟩, 60) := ⟨⟨by decide +kernel, by decide +kernel⟩, List.mem_of_getElem? (i := 1177) (by decide +kernel), List.mem_of_getElem? (i := 1686) (by decide +kernel), List.mem_of_getElem? (i := 1687) (by decide +kernel)⟩
theorem lw_p109 : lw_okq (⟨"CardDrawerModel", "keptSet", "()I"⟩, 60) := ⟨⟨by decide +kernel, by decide +kernel⟩, List.mem_of_getElem? (i := 1177) (by decide +kernel), List.mem_of_getElem? (i := 1690) (by decide +kernel), List.mem_of_getElem? (i := 1691) (by decide +kernel)⟩
theorem lw_p110 : lw_okq (⟨"CardDrawerModel", "onesOf", "(I)I"⟩, 60) := ⟨⟨by decide +kernel, by decide +kernel⟩, List.mem_of_getElem? (i := 1177) (by decide +kernel), List.mem_of_getElem? (i := 1694) (by decide +kernel), List.mem_of_getElem? (i := 1695) (by decide +kernel)⟩
theorem lw_p111 : lw_okq (⟨"CardDrawerModel", "endsThought", "()V"⟩, 60) := ⟨⟨by decide +kernel, by decide +kernel⟩, List.mem_of_getElem? (i := 1177) (by decide +kernel), List.mem_of_getElem? (i := 1698) (by decide +kernel), List.mem_of_getElem? (i := 1699) (by decide +kernel)⟩
def lw_privs_7 : List (MethodName × Nat) := [(⟨"CardDrawerModel", "notes", "(III)V"⟩, 60), (⟨"CardDrawerModel", "throwsSome", "(I)I"⟩, 60), (⟨"CardDrawerModel", "leastWorth", "()I"⟩, 60), (⟨"CardDrawerModel", "worthOf", "(I)I"⟩, 60), (⟨"CardDrawerModel", "finds", "(I)V"⟩, 60), (⟨"CardDrawerModel", "bends", "(I)V"⟩, 60), (⟨"CardDrawerModel", "goesBy", "()I"⟩, 60), (⟨"CardDrawerModel", "doesDeed", "(I)V"⟩, 60), (⟨"CardDrawerModel", "isServed", "()Z"⟩, 60), (⟨"CardDrawerModel", "wears", "(I)V"⟩, 60), (⟨"CardDrawerModel", "dustOf", "(I)I"⟩, 60), (⟨"CardDrawerModel", "introducer", "(I)I"⟩, 60), (⟨"CardDrawerModel", "thinks", "()V"⟩, 60), (⟨"CardDrawerModel", "keptSet", "()I"⟩, 60), (⟨"CardDrawerModel", "onesOf", "(I)I"⟩, 60), (⟨"CardDrawerModel", "endsThought", "()V"⟩, 60)]
theorem lw_r7 : ∀ q ∈ lw_privs_7, lw_okq q := List.forall_mem_cons.mpr ⟨lw_p96, List.forall_mem_cons.mpr ⟨lw_p97, List.forall_mem_cons.mpr ⟨lw_p98, List.forall_mem_cons.mpr ⟨lw_p99, List.forall_mem_cons.mpr ⟨lw_p100, List.forall_mem_cons.mpr ⟨lw_p101, List.forall_mem_cons.mpr ⟨lw_p102, List.forall_mem_cons.mpr ⟨lw_p103, List.forall_mem_cons.mpr ⟨lw_p104, List.forall_mem_cons.mpr ⟨lw_p105, List.forall_mem_cons.mpr ⟨lw_p106, List.forall_mem_cons.mpr ⟨lw_p107, List.forall_mem_cons.mpr ⟨lw_p108, List.forall_mem_cons.mpr ⟨lw_p109, List.forall_mem_cons.mpr ⟨lw_p110, List.forall_mem_cons.mpr ⟨lw_p111, fun _ h => absurd h List.not_mem_nil⟩⟩⟩⟩⟩⟩⟩⟩⟩⟩⟩⟩⟩⟩⟩⟩
theorem lw_p112 : lw_okq (⟨"CardDrawerModel", "canBeDated", "()Z"⟩, 60) := ⟨⟨by decide +kernel, by decide +kernel⟩, List.mem_of_getElem? (i := 1177) (by decide +kernel), List.mem_of_getElem? (i := 1710) (by decide +kernel), List.mem_of_getElem? (i := 1711) (by decide +kernel)⟩
theorem lw_p113 : lw_okq (⟨"CardDrawerModel", "ownersOf", "(I)I"⟩, 60) := ⟨⟨by decide +kernel, by decide +kernel⟩, List.mem_of_getElem? (i := 1177) (by decide +kernel), List.mem_of_getElem? (i := 1718) (by decide +kernel), List.mem_of_getElem? (i := 1719) (by decide +kernel)⟩
theorem lw_p114 : lw_okq (⟨"CardDrawerModel", "besideAll", "(I)I"⟩, 60) := ⟨⟨by decide +kernel, by decide +kernel⟩, List.mem_of_getElem? (i := 1177) (by decide +kernel), List.mem_of_getElem? (i := 1722) (by decide +kernel), List.mem_of_getElem? (i := 1723) (by decide +kernel)⟩
theorem lw_p115 : lw_okq (⟨"CardDrawerModel", "has", "(II)Z"⟩, 60) := ⟨⟨by decide +kernel, by decide +kernel⟩, List.mem_of_getElem? (i := 1177) (by decide +kernel), List.mem_of_getElem? (i := 1726) (by decide +kernel), List.mem_of_getElem? (i := 1727) (by decide +kernel)⟩
theorem lw_p116 : lw_okq (⟨"CardDrawerModel", "besideOf", "(I)I"⟩, 60) := ⟨⟨by decide +kernel, by decide +kernel⟩, List.mem_of_getElem? (i := 1177) (by decide +kernel), List.mem_of_getElem? (i := 1730) (by decide +kernel), List.mem_of_getElem? (i := 1731) (by decide +kernel)⟩
theorem lw_p117 : lw_okq (⟨"CardDrawerModel", "lowest", "(I)I"⟩, 60) := ⟨⟨by decide +kernel, by decide +kernel⟩, List.mem_of_getElem? (i := 1177) (by decide +kernel), List.mem_of_getElem? (i := 1734) (by decide +kernel), List.mem_of_getElem? (i := 1735) (by decide +kernel)⟩
theorem lw_p118 : lw_okq (⟨"CardDrawerModel", "ledBy", "(I)I"⟩, 60) := ⟨⟨by decide +kernel, by decide +kernel⟩, List.mem_of_getElem? (i := 1177) (by decide +kernel), List.mem_of_getElem? (i := 1742) (by decide +kernel), List.mem_of_getElem? (i := 1743) (by decide +kernel)⟩
theorem lw_p119 : lw_okq (⟨"CardDrawerModel", "known", "()I"⟩, 60) := ⟨⟨by decide +kernel, by decide +kernel⟩, List.mem_of_getElem? (i := 1177) (by decide +kernel), List.mem_of_getElem? (i := 1754) (by decide +kernel), List.mem_of_getElem? (i := 1755) (by decide +kernel)⟩
theorem lw_p120 : lw_okq (⟨"CardDrawerModel", "foundBy", "(I)I"⟩, 60) := ⟨⟨by decide +kernel, by decide +kernel⟩, List.mem_of_getElem? (i := 1177) (by decide +kernel), List.mem_of_getElem? (i := 1770) (by decide +kernel), List.mem_of_getElem? (i := 1771) (by decide +kernel)⟩
theorem lw_p121 : lw_okq (⟨"CardDrawerModel", "answersIn", "(II)I"⟩, 60) := ⟨⟨by decide +kernel, by decide +kernel⟩, List.mem_of_getElem? (i := 1177) (by decide +kernel), List.mem_of_getElem? (i := 1774) (by decide +kernel), List.mem_of_getElem? (i := 1775) (by decide +kernel)⟩
theorem lw_p122 : lw_okq (⟨"CardDrawerModel", "factOf", "(II)I"⟩, 60) := ⟨⟨by decide +kernel, by decide +kernel⟩, List.mem_of_getElem? (i := 1177) (by decide +kernel), List.mem_of_getElem? (i := 1778) (by decide +kernel), List.mem_of_getElem? (i := 1779) (by decide +kernel)⟩
theorem lw_p123 : lw_okq (⟨"CardDrawerModel", "lookedAt", "(I)I"⟩, 60) := ⟨⟨by decide +kernel, by decide +kernel⟩, List.mem_of_getElem? (i := 1177) (by decide +kernel), List.mem_of_getElem? (i := 1786) (by decide +kernel), List.mem_of_getElem? (i := 1787) (by decide +kernel)⟩
theorem lw_p124 : lw_okq (⟨"CardDrawerModel", "tellsApart", "(I)Z"⟩, 60) := ⟨⟨by decide +kernel, by decide +kernel⟩, List.mem_of_getElem? (i := 1177) (by decide +kernel), List.mem_of_getElem? (i := 1794) (by decide +kernel), List.mem_of_getElem? (i := 1795) (by decide +kernel)⟩
theorem lw_p125 : lw_okq (⟨"CardDrawerModel", "areAlike", "(III)Z"⟩, 60) := ⟨⟨by decide +kernel, by decide +kernel⟩, List.mem_of_getElem? (i := 1177) (by decide +kernel), List.mem_of_getElem? (i := 1798) (by decide +kernel), List.mem_of_getElem? (i := 1799) (by decide +kernel)⟩
theorem lw_p126 : lw_okq (⟨"CardDrawerModel", "isAhead", "(II)Z"⟩, 60) := ⟨⟨by decide +kernel, by decide +kernel⟩, List.mem_of_getElem? (i := 1177) (by decide +kernel), List.mem_of_getElem? (i := 1806) (by decide +kernel), List.mem_of_getElem? (i := 1807) (by decide +kernel)⟩
theorem lw_p127 : lw_okq (⟨"CardDrawerModel", "inCommon", "(II)I"⟩, 60) := ⟨⟨by decide +kernel, by decide +kernel⟩, List.mem_of_getElem? (i := 1177) (by decide +kernel), List.mem_of_getElem? (i := 1814) (by decide +kernel), List.mem_of_getElem? (i := 1815) (by decide +kernel)⟩
def lw_privs_8 : List (MethodName × Nat) := [(⟨"CardDrawerModel", "canBeDated", "()Z"⟩, 60), (⟨"CardDrawerModel", "ownersOf", "(I)I"⟩, 60), (⟨"CardDrawerModel", "besideAll", "(I)I"⟩, 60), (⟨"CardDrawerModel", "has", "(II)Z"⟩, 60), (⟨"CardDrawerModel", "besideOf", "(I)I"⟩, 60), (⟨"CardDrawerModel", "lowest", "(I)I"⟩, 60), (⟨"CardDrawerModel", "ledBy", "(I)I"⟩, 60), (⟨"CardDrawerModel", "known", "()I"⟩, 60), (⟨"CardDrawerModel", "foundBy", "(I)I"⟩, 60), (⟨"CardDrawerModel", "answersIn", "(II)I"⟩, 60), (⟨"CardDrawerModel", "factOf", "(II)I"⟩, 60), (⟨"CardDrawerModel", "lookedAt", "(I)I"⟩, 60), (⟨"CardDrawerModel", "tellsApart", "(I)Z"⟩, 60), (⟨"CardDrawerModel", "areAlike", "(III)Z"⟩, 60), (⟨"CardDrawerModel", "isAhead", "(II)Z"⟩, 60), (⟨"CardDrawerModel", "inCommon", "(II)I"⟩, 60)]
theorem lw_r8 : ∀ q ∈ lw_privs_8, lw_okq q := List.forall_mem_cons.mpr ⟨lw_p112, List.forall_mem_cons.mpr ⟨lw_p113, List.forall_mem_cons.mpr ⟨lw_p114, List.forall_mem_cons.mpr ⟨lw_p115, List.forall_mem_cons.mpr ⟨lw_p116, List.forall_mem_cons.mpr ⟨lw_p117, List.forall_mem_cons.mpr ⟨lw_p118, List.forall_mem_cons.mpr ⟨lw_p119, List.forall_mem_cons.mpr ⟨lw_p120, List.forall_mem_cons.mpr ⟨lw_p121, List.forall_mem_cons.mpr ⟨lw_p122, List.forall_mem_cons.mpr ⟨lw_p123, List.forall_mem_cons.mpr ⟨lw_p124, List.forall_mem_cons.mpr ⟨lw_p125, List.forall_mem_cons.mpr ⟨lw_p126, List.forall_mem_cons.mpr ⟨lw_p127, fun _ h => absurd h List.not_mem_nil⟩⟩⟩⟩⟩⟩⟩⟩⟩⟩⟩⟩⟩⟩⟩⟩
theorem lw_p128 : lw_okq (⟨"CardDrawerModel", "writers", "()I"⟩, 60) := ⟨⟨by decide +kernel, by decide +kernel⟩, List.mem_of_getElem? (i := 1177) (by decide +kernel), List.mem_of_getElem? (i := 1826) (by decide +kernel), List.mem_of_getElem? (i := 1827) (by decide +kernel)⟩
theorem lw_p129 : lw_okq (⟨"CardDrawerModel", "hasSuch", "(III)Z"⟩, 60) := ⟨⟨by decide +kernel, by decide +kernel⟩, List.mem_of_getElem? (i := 1177) (by decide +kernel), List.mem_of_getElem? (i := 1830) (by decide +kernel), List.mem_of_getElem? (i := 1831) (by decide +kernel)⟩
theorem lw_p130 : lw_okq (⟨"CardDrawerModel", "isNoted", "(II)Z"⟩, 60) := ⟨⟨by decide +kernel, by decide +kernel⟩, List.mem_of_getElem? (i := 1177) (by decide +kernel), List.mem_of_getElem? (i := 1834) (by decide +kernel), List.mem_of_getElem? (i := 1835) (by decide +kernel)⟩
theorem lw_p131 : lw_okq (⟨"CardDrawerModel", "heapOf", "(I)I"⟩, 60) := ⟨⟨by decide +kernel, by decide +kernel⟩, List.mem_of_getElem? (i := 1177) (by decide +kernel), List.mem_of_getElem? (i := 1847) (by decide +kernel), List.mem_of_getElem? (i := 1848) (by decide +kernel)⟩
theorem lw_p132 : lw_okq (⟨"CardDrawerModel", "keepsOne", "(I)I"⟩, 60) := ⟨⟨by decide +kernel, by decide +kernel⟩, List.mem_of_getElem? (i := 1177) (by decide +kernel), List.mem_of_getElem? (i := 1855) (by decide +kernel), List.mem_of_getElem? (i := 1856) (by decide +kernel)⟩
theorem lw_p133 : lw_okq (⟨"CardDrawerModel", "keepsTold", "()V"⟩, 60) := ⟨⟨by decide +kernel, by decide +kernel⟩, List.mem_of_getElem? (i := 1177) (by decide +kernel), List.mem_of_getElem? (i := 1859) (by decide +kernel), List.mem_of_getElem? (i := 1860) (by decide +kernel)⟩
theorem lw_p134 : lw_okq (⟨"CardDrawerModel", "keepsTexts", "()V"⟩, 60) := ⟨⟨by decide +kernel, by decide +kernel⟩, List.mem_of_getElem? (i := 1177) (by decide +kernel), List.mem_of_getElem? (i := 1863) (by decide +kernel), List.mem_of_getElem? (i := 1864) (by decide +kernel)⟩
theorem lw_p135 : lw_okq (⟨"CardDrawerModel", "keepsLaw", "()V"⟩, 60) := ⟨⟨by decide +kernel, by decide +kernel⟩, List.mem_of_getElem? (i := 1177) (by decide +kernel), List.mem_of_getElem? (i := 1867) (by decide +kernel), List.mem_of_getElem? (i := 1868) (by decide +kernel)⟩
def lw_privs_9 : List (MethodName × Nat) := [(⟨"CardDrawerModel", "writers", "()I"⟩, 60), (⟨"CardDrawerModel", "hasSuch", "(III)Z"⟩, 60), (⟨"CardDrawerModel", "isNoted", "(II)Z"⟩, 60), (⟨"CardDrawerModel", "heapOf", "(I)I"⟩, 60), (⟨"CardDrawerModel", "keepsOne", "(I)I"⟩, 60), (⟨"CardDrawerModel", "keepsTold", "()V"⟩, 60), (⟨"CardDrawerModel", "keepsTexts", "()V"⟩, 60), (⟨"CardDrawerModel", "keepsLaw", "()V"⟩, 60)]
theorem lw_r9 : ∀ q ∈ lw_privs_9, lw_okq q := List.forall_mem_cons.mpr ⟨lw_p128, List.forall_mem_cons.mpr ⟨lw_p129, List.forall_mem_cons.mpr ⟨lw_p130, List.forall_mem_cons.mpr ⟨lw_p131, List.forall_mem_cons.mpr ⟨lw_p132, List.forall_mem_cons.mpr ⟨lw_p133, List.forall_mem_cons.mpr ⟨lw_p134, List.forall_mem_cons.mpr ⟨lw_p135, fun _ h => absurd h List.not_mem_nil⟩⟩⟩⟩⟩⟩⟩⟩
def lw_privs : List (MethodName × Nat) := lw_privs_1 ++ (lw_privs_2 ++ (lw_privs_3 ++ (lw_privs_4 ++ (lw_privs_5 ++ (lw_privs_6 ++ (lw_privs_7 ++ (lw_privs_8 ++ (lw_privs_9))))))))
def lw_tbl : List Cond := k2_sels lw_privs ++ tables_1
theorem lw_privs_ok : ∀ q ∈ lw_privs, lw_okq q := by
  show ∀ q ∈ lw_privs_1 ++ (lw_privs_2 ++ (lw_privs_3 ++ (lw_privs_4 ++ (lw_privs_5 ++ (lw_privs_6 ++ (lw_privs_7 ++ (lw_privs_8 ++ (lw_privs_9)))))))), lw_okq q
  exact List.forall_mem_append.mpr ⟨lw_r1, List.forall_mem_append.mpr ⟨lw_r2, List.forall_mem_append.mpr ⟨lw_r3, List.forall_mem_append.mpr ⟨lw_r4, List.forall_mem_append.mpr ⟨lw_r5, List.forall_mem_append.mpr ⟨lw_r6, List.forall_mem_append.mpr ⟨lw_r7, List.forall_mem_append.mpr ⟨lw_r8, lw_r9⟩⟩⟩⟩⟩⟩⟩⟩
end
section
/-! A small machine of plain numbers, beside the machine itself: cells are shapes (fixed) and numbers (functions). -/
/-- a cell's shape: an object (its number in 'classes', of each field none: a number, some r: a reference), a row of numbers, a row of references -/
abbrev pSh : Type := (Nat × List (Option (Option Nat))) ⊕ (Nat ⊕ Nat)
/-- numbers: of fields, of rows, of rows of references -/
abbrev pS : Type := (Nat → Nat → Int32) × (Nat → Nat → Int32) × (Nat → Nat → Option Nat)
/-- an instruction: its pc, itself, two numbers and a constant that were looked up, the place of its link -/
abbrev pI : Type := Nat × Instr × Nat × Nat × Int32 × Nat
/-- a method: how many arguments (its object too), how many places, whose object (number + 1; 0: none asked), its code -/
abbrev pM : Type := Nat × Nat × Nat × List pI
def sA (A : Nat → Nat → Int32) (i j : Nat) (v : Int32) : Nat → Nat → Int32 := fun a => if a = i then upd (A i) j v else A a
def sR (A : Nat → Nat → Option Nat) (i j : Nat) (v : Option Nat) : Nat → Nat → Option Nat := fun a => if a = i then va_up (A i) j v else A a
def sW (A : Nat → Nat → Int32) (i : Nat) (f : Nat → Int32) : Nat → Nat → Int32 := fun a => if a = i then f else A a
def inb (i : Int32) (n : Nat) : Bool := decide (0 ≤ i) && decide (i.toNatClampNeg < n)
theorem inb_in {i : Int32} {n : Nat} (h : inb i n = true) : vp_in i n := by
  unfold inb at h
  simp only [Bool.and_eq_true, decide_eq_true_eq] at h
  intro q
  rcases q with q | q
  · exact absurd h.1 (Int32.not_le.mpr q)
  · omega
abbrev pO : Type := Option Nat × List Value × List Value × pS
def pPairs (lo : Int) : List Int → List (Int × Int)
  | [] => []
  | o :: r => (lo, o) :: pPairs (lo + 1) r
def pSw (pc : Nat) (ls st : List Value) (S : pS) (x : Int32) (d : Int) : List (Int × Int) → Option pO
  | [] => some (some ((pc : Int) + d).toNat, ls, st, S)
  | (v, o) :: r => if x = Int32.ofInt v then some (some ((pc : Int) + o).toNat, ls, st, S) else pSw pc ls st S x d r
/-- the texts that are constants: their signs -/
def pTx : Nat → List Int32
  | 0 => [104, 111, 108, 100, 115, 32, 100, 117, 115, 116, 32, 32, 119, 111, 114, 116, 104, 32, 119, 104, 101, 110, 32, 32, 111, 114, 32, 32, 32, 32, 97, 110, 100, 32, 32, 32, 110, 111, 116, 32, 32, 32, 112, 101, 114, 115, 111, 110, 102, 105, 114, 109, 32, 32, 116, 114, 97, 100, 101, 32, 121, 101, 97, 114, 32, 32, 98, 101, 110, 116, 32, 32, 119, 111, 114, 110, 32, 32, 114, 117, 110, 103, 32, 32, 97, 103, 101, 32, 32, 32, 110, 111, 119, 32, 32, 32, 98, 121, 32, 32, 32, 32, 102, 114, 111, 109, 32, 32, 116, 111, 32, 32, 32, 32, 105, 110, 32, 32, 32, 32, 116, 104, 114, 111, 119, 32, 114, 105, 110, 103, 32, 32, 98, 101, 110, 100, 32, 32, 102, 105, 110, 100, 32, 32]
  | _ => [59, 43, 45, 42, 47, 40, 41, 60, 61, 62]
def pIx (c : Int32) : List Int32 → Nat → Int32
  | [], _ => -1
  | b :: l, k => if b = c then nI k else pIx c l (k + 1)
/-- is cell j an object of this kind -/
def pObj (G : List pSh) (j b : Nat) : Bool := match G[j]? with
  | some (.inl (ci, _)) => decide (ci = b)
  | _ => false
/-- one instruction that neither calls, returns, nor makes a cell: where it jumps (a pc; none: on), and what is then -/
def pStep (G : List pSh) (ls st : List Value) (S : pS) : pI → Option pO
  | (_, .nop, a, _, _, _) => some (none, ls.set a .null, st, S)
  | (_, .iconst _, _, _, c, _) => some (none, ls, .int c :: st, S)
  | (_, .bipush _, _, _, c, _) => some (none, ls, .int c :: st, S)
  | (_, .sipush _, _, _, c, _) => some (none, ls, .int c :: st, S)
  | (_, .ldc _, a, b, c, _) => if b = 0 then some (none, ls, .int c :: st, S) else some (none, ls, .float (UInt32.ofNat a) :: st, S)
  | (_, .ldc_w _, _, _, c, _) => some (none, ls, .int c :: st, S)
  | (_, .iload_n _, a, _, _, _) => match ls[a]? with
    | some (.int x) => some (none, ls, .int x :: st, S)
    | _ => none
  | (_, .iload _, a, _, _, _) => match ls[a]? with
    | some (.int x) => some (none, ls, .int x :: st, S)
    | _ => none
  | (_, .aload_n _, a, _, _, _) => match ls[a]? with
    | some (.ref x) => some (none, ls, .ref x :: st, S)
    | _ => none
  | (_, .istore_n _, a, _, _, _) => match st with
    | .int x :: st => some (none, ls.set a (.int x), st, S)
    | _ => none
  | (_, .istore _, a, _, _, _) => match st with
    | .int x :: st => some (none, ls.set a (.int x), st, S)
    | _ => none
  | (_, .astore_n _, a, _, _, _) => match st with
    | .ref x :: st => some (none, ls.set a (.ref x), st, S)
    | _ => none
  | (_, .iinc _ _, a, _, c, _) => match ls[a]? with
    | some (.int x) => some (none, ls.set a (.int (x + c)), st, S)
    | _ => none
  | (_, .iadd, _, _, _, _) => match st with
    | .int y :: .int x :: st => some (none, ls, .int (x + y) :: st, S)
    | _ => none
  | (_, .isub, _, _, _, _) => match st with
    | .int y :: .int x :: st => some (none, ls, .int (x - y) :: st, S)
    | _ => none
  | (_, .imul, _, _, _, _) => match st with
    | .int y :: .int x :: st => some (none, ls, .int (x * y) :: st, S)
    | _ => none
  | (_, .idiv, _, _, _, _) => match st with
    | .int y :: .int x :: st => if y = 0 then none else some (none, ls, .int (x / y) :: st, S)
    | _ => none
  | (_, .irem, _, _, _, _) => match st with
    | .int y :: .int x :: st => if y = 0 then none else some (none, ls, .int (x - x / y * y) :: st, S)
    | _ => none
  | (_, .iand, _, _, _, _) => match st with
    | .int y :: .int x :: st => some (none, ls, .int (x &&& y) :: st, S)
    | _ => none
  | (_, .ior, _, _, _, _) => match st with
    | .int y :: .int x :: st => some (none, ls, .int (x ||| y) :: st, S)
    | _ => none
  | (_, .ixor, _, _, _, _) => match st with
    | .int y :: .int x :: st => some (none, ls, .int (x ^^^ y) :: st, S)
    | _ => none
  | (_, .ishl, _, _, _, _) => match st with
    | .int y :: .int x :: st => some (none, ls, .int (x <<< (y &&& 31)) :: st, S)
    | _ => none
  | (_, .ishr, _, _, _, _) => match st with
    | .int y :: .int x :: st => some (none, ls, .int (x >>> (y &&& 31)) :: st, S)
    | _ => none
  | (_, .iushr, _, _, _, _) => match st with
    | .int y :: .int x :: st => some (none, ls, .int ((x.toUInt32 >>> (y.toUInt32 &&& Int32.toUInt32 31)).toInt32) :: st, S)
    | _ => none
  | (_, .i2c, _, _, _, _) => match st with
    | .int x :: st => some (none, ls, .int ((x.toUInt32 % 65536).toInt32) :: st, S)
    | _ => none
  | (_, .dup, _, _, _, _) => match st with
    | v :: st => some (none, ls, v :: v :: st, S)
    | _ => none
  | (_, .dup2, _, _, _, _) => match st with
    | v :: w :: st => some (none, ls, v :: w :: v :: w :: st, S)
    | _ => none
  | (_, .pop, _, _, _, _) => match st with
    | _ :: st => some (none, ls, st, S)
    | _ => none
  | (_, .goto _, a, _, _, _) => some (some a, ls, st, S)
  | (_, .ifCond .eq _, a, _, _, _) => match st with
    | .int x :: st => if x = 0 then some (some a, ls, st, S) else some (none, ls, st, S)
    | _ => none
  | (_, .ifCond .ne _, a, _, _, _) => match st with
    | .int x :: st => if x = 0 then some (none, ls, st, S) else some (some a, ls, st, S)
    | _ => none
  | (_, .ifCond .lt _, a, _, _, _) => match st with
    | .int x :: st => if x < 0 then some (some a, ls, st, S) else some (none, ls, st, S)
    | _ => none
  | (_, .ifCond .ge _, a, _, _, _) => match st with
    | .int x :: st => if x < 0 then some (none, ls, st, S) else some (some a, ls, st, S)
    | _ => none
  | (_, .ifCond .gt _, a, _, _, _) => match st with
    | .int x :: st => if x ≤ 0 then some (none, ls, st, S) else some (some a, ls, st, S)
    | _ => none
  | (_, .ifCond .le _, a, _, _, _) => match st with
    | .int x :: st => if x ≤ 0 then some (some a, ls, st, S) else some (none, ls, st, S)
    | _ => none
  | (_, .if_icmp .eq _, a, _, _, _) => match st with
    | .int y :: .int x :: st => if x = y then some (some a, ls, st, S) else some (none, ls, st, S)
    | _ => none
  | (_, .if_icmp .ne _, a, _, _, _) => match st with
    | .int y :: .int x :: st => if x = y then some (none, ls, st, S) else some (some a, ls, st, S)
    | _ => none
  | (_, .if_icmp .lt _, a, _, _, _) => match st with
    | .int y :: .int x :: st => if x < y then some (some a, ls, st, S) else some (none, ls, st, S)
    | _ => none
  | (_, .if_icmp .ge _, a, _, _, _) => match st with
    | .int y :: .int x :: st => if x < y then some (none, ls, st, S) else some (some a, ls, st, S)
    | _ => none
  | (_, .if_icmp .gt _, a, _, _, _) => match st with
    | .int y :: .int x :: st => if x ≤ y then some (none, ls, st, S) else some (some a, ls, st, S)
    | _ => none
  | (_, .if_icmp .le _, a, _, _, _) => match st with
    | .int y :: .int x :: st => if x ≤ y then some (some a, ls, st, S) else some (none, ls, st, S)
    | _ => none
  | (pc, .tableswitch d lo _ offs, _, _, _, _) => match st with
    | .int x :: st => pSw pc ls st S x d (pPairs lo offs.toList)
    | _ => none
  | (pc, .lookupswitch d ps, _, _, _, _) => match st with
    | .int x :: st => pSw pc ls st S x d ps.toList
    | _ => none
  | (_, .getfield _, a, b, _, _) => match st with
    | .ref o :: st => match G[o]? with
      | some (.inl (ci, fl)) => if ci = b then (match fl[a]? with
        | some none => some (none, ls, .int (S.1 o a) :: st, S)
        | some (some (some j)) => some (none, ls, .ref j :: st, S)
        | _ => none) else none
      | _ => none
    | _ => none
  | (_, .putfield _, a, b, c, _) => match st with
    | .int v :: .ref o :: st => match G[o]? with
      | some (.inl (ci, fl)) => if ci = b then (match fl[a]? with
        | some none => if c = 0 ∨ v = 0 ∨ v = 1 then some (none, ls, st, (sA S.1 o a v, S.2.1, S.2.2)) else none
        | _ => none) else none
      | _ => none
    | _ => none
  | (_, .iaload, _, _, _, _) => match st with
    | .int i :: .ref o :: st => match G[o]? with
      | some (.inr (.inl n)) => if inb i n then some (none, ls, .int (S.2.1 o i.toNatClampNeg) :: st, S) else none
      | _ => none
    | _ => none
  | (_, .iastore, _, _, _, _) => match st with
    | .int v :: .int i :: .ref o :: st => match G[o]? with
      | some (.inr (.inl n)) => if inb i n then some (none, ls, st, (S.1, sA S.2.1 o i.toNatClampNeg v, S.2.2)) else none
      | _ => none
    | _ => none
  | (_, .arraylength, _, _, _, _) => match st with
    | .ref o :: st => match G[o]? with
      | some (.inr (.inl n)) => some (none, ls, .int (nI n) :: st, S)
      | some (.inr (.inr n)) => some (none, ls, .int (nI n) :: st, S)
      | _ => none
    | _ => none
  | (_, .aaload, _, _, _, _) => match st with
    | .int i :: .ref o :: st => match G[o]? with
      | some (.inr (.inr n)) => if inb i n then (match S.2.2 o i.toNatClampNeg with
        | some j => some (none, ls, .ref j :: st, S)
        | none => none) else none
      | _ => none
    | _ => none
  | (_, .aastore, _, b, _, _) => match st with
    | .ref j :: .int i :: .ref o :: st => match G[o]? with
      | some (.inr (.inr n)) => if pObj G j b then (if inb i n then some (none, ls, st, (S.1, S.2.1, sR S.2.2 o i.toNatClampNeg (some j))) else none) else none
      | _ => none
    | _ => none
  | (_, .invokespecial _, a, _, _, _) => if a = 9000 then (match st with
    | .ref _ :: st => if st.length ≤ 8 then some (none, ls, st, S) else none
    | _ => none) else none
  | (_, .invokestatic _, a, _, _, _) => if a = 9001 then (match st with
    | .int n :: .int dp :: .ref o1 :: .int sp :: .ref o0 :: st => match G[o0]?, G[o1]? with
      | some (.inr (.inl n0)), some (.inr (.inl n1)) =>
        if 0 ≤ sp ∧ 0 ≤ dp ∧ 0 ≤ n ∧ sp.toNatClampNeg + n.toNatClampNeg ≤ n0 ∧ dp.toNatClampNeg + n.toNatClampNeg ≤ n1 ∧ st.length ≤ 8 then
          some (none, ls, st, (S.1, sW S.2.1 o1 (va_cpy (S.2.1 o0) (S.2.1 o1) sp.toNatClampNeg dp.toNatClampNeg n.toNatClampNeg), S.2.2)) else none
      | _, _ => none
    | _ => none) else if a = 9004 then (match st with
    | .int y :: .int x :: st => if st.length ≤ 8 then some (none, ls, .int (if x < y then y else x) :: st, S) else none
    | _ => none) else if a = 9005 then (match st with
    | .int y :: .int x :: st => if st.length ≤ 8 then some (none, ls, .int (if y < x then y else x) :: st, S) else none
    | _ => none) else none
  | (_, .invokevirtual _, a, _, _, _) => match st with
    | .int i :: .float w :: st => if a = 9002 then (if inb i (pTx w.toNat).length ∧ st.length ≤ 8 then some (none, ls, .int ((pTx w.toNat).getD i.toNatClampNeg 0) :: st, S) else none)
      else if a = 9003 then (if st.length ≤ 8 then some (none, ls, .int (pIx i (pTx w.toNat) 0) :: st, S) else none) else none
    | _ => none
  | _ => none
/-- of what kind an instruction is: 0 a plain one, 1 a return of a number, 2 of nothing, 3 a call, 4 one that makes a cell or puts a reference -/
def pKind : pI → Nat
  | (_, .ireturn, _) => 1
  | (_, .return_, _) => 2
  | (_, .invokevirtual _, a, _) => if a < 9000 then 3 else 0
  | (_, .invokestatic _, a, _) => if a < 9000 then 3 else 0
  | (_, .invokespecial _, a, _) => if a < 9000 then 3 else 0
  | (_, .new _, _) => 4
  | (_, .newarray _, _) => 4
  | (_, .anewarray _, _) => 4
  | (_, .putfield _, _, _, c, _) => if c = 2 then 4 else 0
  | _ => 0
/-- the code from a pc on -/
def pJmp (code : List pI) (pc : Nat) : List pI := code.dropWhile (fun e => e.1 != pc)
def pNext (code is : List pI) : Option Nat → List pI
  | none => is
  | some t => pJmp code t
/-- is the object that is called of the right kind -/
def pRcv (G : List pSh) (r : Nat) (As : List Value) : Bool := if r = 0 then true else match As with
  | .ref o :: _ => match G[o]? with
    | some (.inl (ci, _)) => decide (ci + 1 = r)
    | _ => false
  | _ => false
def pArgs (n : Nat) (st : List Value) : List Value := (st.take n).reverse
def pLs (m : pM) (As : List Value) : List Value := As ++ List.replicate (m.2.1 - m.1) .null
def pPush (b : Nat) (x : Int32) (st : List Value) : List Value := if b = 1 then .int x :: st else st
def pBool (a : Nat) (x : Int32) : Bool := a == 0 || x == 0 || x == 1
/-- a run without a new cell: d how deep calls may go, n how many steps at most -/
def exf (P : Nat → pM) (G : List pSh) : Nat → Nat → Nat → List pI → List Value → List Value → pS → Option (Int32 × pS)
  | 0, _, _, _, _, _, _ => none
  | _ + 1, _, _, [], _, _, _ => none
  | n + 1, d, k, e :: is, ls, st, S =>
    match pKind e with
    | 0 => match pStep G ls st S e with
      | none => none
      | some (j, ls', st', S') => exf P G n d k (pNext (P k).2.2.2 is j) ls' st' S'
    | 1 => match st with
      | [.int x] => if pBool e.2.2.1 x then some (x, S) else none
      | _ => none
    | 2 => match st with
      | [] => some (0, S)
      | _ => none
    | 3 => if 0 < d ∧ (P e.2.2.1).1 ≤ st.length ∧ st.length ≤ (P e.2.2.1).1 + 8 ∧ pRcv G (P e.2.2.1).2.2.1 (pArgs (P e.2.2.1).1 st) = true then
        (match exf P G n (d - 1) e.2.2.1 (P e.2.2.1).2.2.2 (pLs (P e.2.2.1) (pArgs (P e.2.2.1).1 st)) [] S with
          | none => none
          | some (x, S') => exf P G n d k is ls (pPush e.2.2.2.1 x (st.drop (P e.2.2.1).1)) S')
        else none
    | _ => none
theorem exf_cons (P : Nat → pM) (G : List pSh) (n d k : Nat) (e : pI) (is : List pI) (ls st : List Value) (S : pS) : exf P G (n + 1) d k (e :: is) ls st S =
    (match pKind e with
    | 0 => (match pStep G ls st S e with
      | none => none
      | some (j, ls', st', S') => exf P G n d k (pNext (P k).2.2.2 is j) ls' st' S')
    | 1 => (match st with
      | [.int x] => if pBool e.2.2.1 x then some (x, S) else none
      | _ => none)
    | 2 => (match st with
      | [] => some (0, S)
      | _ => none)
    | 3 => if 0 < d ∧ (P e.2.2.1).1 ≤ st.length ∧ st.length ≤ (P e.2.2.1).1 + 8 ∧ pRcv G (P e.2.2.1).2.2.1 (pArgs (P e.2.2.1).1 st) = true then
        (match exf P G n (d - 1) e.2.2.1 (P e.2.2.1).2.2.2 (pLs (P e.2.2.1) (pArgs (P e.2.2.1).1 st)) [] S with
          | none => none
          | some (x, S') => exf P G n d k is ls (pPush e.2.2.2.1 x (st.drop (P e.2.2.1).1)) S')
        else none
    | _ => none) := by
  conv => lhs; unfold exf
theorem exf_zero (P : Nat → pM) (G : List pSh) (d k : Nat) (is : List pI) (ls st : List Value) (S : pS) : exf P G 0 d k is ls st S = none := by
  conv => lhs; unfold exf
theorem exf_nil (P : Nat → pM) (G : List pSh) (n d k : Nat) (ls st : List Value) (S : pS) : exf P G n d k [] ls st S = none := by
  cases n with
  | zero => exact exf_zero ..
  | succ n => conv => lhs; unfold exf
end
section
/-! What the small machine does, the machine itself does: plain instructions. -/
/-- a value of the small machine, as the machine has it: ad the address of each cell, tk of each constant text -/
def pV (ad tk : Nat → Nat) : Value → Value
  | .int x => .int x
  | .ref i => .ref (ad i)
  | .float w => .ref (tk w.toNat)
  | _ => .null
theorem pV_cat (ad tk : Nat → Nat) (v : Value) : (pV ad tk v).category = 1 := by cases v <;> rfl
def pFld (ad : Nat → Nat) (f : Nat → Int32) (k : Nat) : Option (Option Nat) → Value
  | none => .int (f k)
  | some none => .null
  | some (some j) => .ref (ad j)
def pCell (cI cD : ClassId) (ad : Nat → Nat) (S : pS) (i : Nat) : pSh → va_E
  | .inl (ci, fl) => .inr (ci, fl.mapIdx (pFld ad (S.1 i)))
  | .inr (.inl n) => .inl (cI, n, .inl (S.2.1 i))
  | .inr (.inr n) => .inl (cD, n, .inr (.inr (.inr (.inr (fun k => (S.2.2 i k).map ad)))))
def pWld (cI cD : ClassId) (ad : Nat → Nat) (G : List pSh) (S : pS) : va_W := G.mapIdx (fun i sh => (ad i, pCell cI cD ad S i sh))
theorem pWld_at {cI cD : ClassId} {ad : Nat → Nat} {G : List pSh} {S : pS} {i : Nat} {sh : pSh} (h : G[i]? = some sh) : (pWld cI cD ad G S)[i]? = some (ad i, pCell cI cD ad S i sh) := by
  unfold pWld
  rw [List.getElem?_mapIdx, h]
  rfl
theorem pWld_set {cI cD : ClassId} {ad : Nat → Nat} {G : List pSh} {S S' : pS} {i : Nat} {sh : pSh} {x : va_E} (h : G[i]? = some sh) (hx : pCell cI cD ad S' i sh = x) (ho : ∀ j sh', j ≠ i → G[j]? = some sh' → pCell cI cD ad S' j sh' = pCell cI cD ad S j sh') : (pWld cI cD ad G S).set i (ad i, x) = pWld cI cD ad G S' := by
  apply List.ext_getElem?
  intro j
  unfold pWld
  rw [List.getElem?_set, List.getElem?_mapIdx, List.getElem?_mapIdx]
  by_cases hj : i = j
  · subst hj
    have hl : i < G.length := (List.getElem?_eq_some_iff.mp h).1
    simp only [if_true, List.length_mapIdx, hl, h, Option.map_some, hx]
  · simp only [hj, if_false]
    cases hg : G[j]? with
    | none => rfl
    | some sh' => simp [ho j sh' (fun q => hj q.symm) hg]
/-- the machine's places hold what the small machine's do (a null there says nothing) -/
def pHas (ad tk : Nat → Nat) (lsA : Array Slot) (nL : Nat) (ls : List Value) : Prop := lsA.size = nL ∧ lv_wf lsA ∧ ∀ (i : Nat) (v : Value), ls[i]? = some v → v ≠ .null → lsA[i]? = some (.val (pV ad tk v))
def pLv (ad tk : Nat → Nat) (ls : List Value) : List (Nat × Value) := (ls.mapIdx (fun i v => (i, v))).filterMap (fun q => if q.2 = .null then none else some (q.1, pV ad tk q.2))
theorem pLv_mem {ad tk : Nat → Nat} {ls : List Value} {q : Nat × Value} : q ∈ pLv ad tk ls ↔ ∃ v, ls[q.1]? = some v ∧ v ≠ .null ∧ q.2 = pV ad tk v := by
  unfold pLv
  rw [List.mem_filterMap]
  constructor
  · rintro ⟨⟨i, v⟩, h1, h2⟩
    obtain ⟨j, hj⟩ := List.getElem?_of_mem h1
    rw [List.getElem?_mapIdx] at hj
    cases hv : ls[j]? with
    | none => simp [hv] at hj
    | some w =>
      simp only [hv, Option.map_some, Option.some.injEq, Prod.mk.injEq] at hj
      obtain ⟨rfl, rfl⟩ := hj
      dsimp only at h2
      by_cases hn : w = .null
      · simp [hn] at h2
      · rw [if_neg hn] at h2
        cases h2
        exact ⟨w, hv, hn, rfl⟩
  · rintro ⟨v, h1, h2, h3⟩
    refine ⟨(q.1, v), List.mem_of_getElem? (i := q.1) (by rw [List.getElem?_mapIdx, h1]; rfl), ?_⟩
    rw [if_neg h2, ← h3]
theorem pHas.lv {ad tk : Nat → Nat} {lsA : Array Slot} {nL : Nat} {ls : List Value} (h : pHas ad tk lsA nL ls) : lv_has lsA nL (pLv ad tk ls) := by
  refine ⟨h.1, h.2.1, fun q hq => ?_⟩
  obtain ⟨v, h1, h2, h3⟩ := pLv_mem.mp hq
  rw [h3]
  exact h.2.2 _ v h1 h2
theorem pHas.store {ad tk : Nat → Nat} {lsA : Array Slot} {nL i : Nat} {ls : List Value} {v : Value} (h : lv_has lsA nL ((i, pV ad tk v) :: (pLv ad tk ls).filter (fun q => !(q.1 == i) && !(q.1 + 1 == i && q.2.category == 2)))) : pHas ad tk lsA nL (ls.set i v) := by
  refine ⟨h.1, h.2.1, fun j w hj hw => ?_⟩
  rw [List.getElem?_set] at hj
  by_cases hij : i = j
  · subst hij
    by_cases hl : i < ls.length
    · simp only [if_true, hl] at hj
      cases hj
      exact h.2.2 (i, _) List.mem_cons_self
    · simp [hl] at hj
  · simp only [hij, if_false] at hj
    refine h.2.2 (j, pV ad tk w) (List.mem_cons_of_mem _ (List.mem_filter.mpr ⟨pLv_mem.mpr ⟨w, hj, hw, rfl⟩, ?_⟩))
    have h1 : (j == i) = false := by simpa using fun q => hij q.symm
    simp [h1, pV_cat]
theorem pHas.kill {ad tk : Nat → Nat} {lsA : Array Slot} {nL i : Nat} {ls : List Value} (h : pHas ad tk lsA nL ls) : pHas ad tk lsA nL (ls.set i .null) := by
  refine ⟨h.1, h.2.1, fun j w hj hw => ?_⟩
  rw [List.getElem?_set] at hj
  by_cases hij : i = j
  · subst hij
    by_cases hl : i < ls.length
    · simp only [if_true, hl] at hj
      cases hj
      exact absurd rfl hw
    · simp [hl] at hj
  · simp only [hij, if_false] at hj
    exact h.2.2 j w hj hw
theorem pFld_set {ad : Nat → Nat} {f : Nat → Int32} {fl : List (Option (Option Nat))} {a : Nat} {v : Int32} (h : fl[a]? = some none) : (fl.mapIdx (pFld ad f)).set a (.int v) = fl.mapIdx (pFld ad (upd f a v)) := by
  apply List.ext_getElem?
  intro j
  rw [List.getElem?_set, List.getElem?_mapIdx, List.getElem?_mapIdx, List.length_mapIdx]
  by_cases hj : a = j
  · subst hj
    have hl : a < fl.length := (List.getElem?_eq_some_iff.mp h).1
    simp only [if_true, hl, h, Option.map_some, pFld, upd]
  · simp only [hj, if_false]
    cases hg : fl[j]? with
    | none => rfl
    | some o =>
      have hj' : j ≠ a := fun q => hj q.symm
      cases o with
      | none => simp [pFld, upd, hj']
      | some o => cases o <;> simp [pFld]
theorem pSw_spec {pc : Nat} {ls st : List Value} {S : pS} {x : Int32} {d : Int} {r : List (Int × Int)} {z : pO} (h : pSw pc ls st S x d r = some z) : ∃ off, z = (some ((pc : Int) + off).toNat, ls, st, S) ∧ (((∀ q ∈ r, x ≠ Int32.ofInt q.1) ∧ off = d) ∨ ∃ i : Nat, ∃ q, r[i]? = some q ∧ x = Int32.ofInt q.1 ∧ off = q.2 ∧ ∀ j, j < i → ∀ q', r[j]? = some q' → x ≠ Int32.ofInt q'.1) := by
  induction r with
  | nil =>
    rw [pSw] at h
    cases h
    exact ⟨d, rfl, Or.inl ⟨fun q hq => absurd hq List.not_mem_nil, rfl⟩⟩
  | cons q r ih =>
    obtain ⟨v, o⟩ := q
    rw [pSw] at h
    by_cases hx : x = Int32.ofInt v
    · rw [if_pos hx] at h
      cases h
      exact ⟨o, rfl, Or.inr ⟨0, (v, o), rfl, hx, rfl, fun j hj => absurd hj (Nat.not_lt_zero j)⟩⟩
    · rw [if_neg hx] at h
      obtain ⟨off, h1, h2⟩ := ih h
      refine ⟨off, h1, ?_⟩
      rcases h2 with ⟨h2, h3⟩ | ⟨i, q, h2, h3, h4, h5⟩
      · refine Or.inl ⟨fun q hq => ?_, h3⟩
        rcases List.mem_cons.mp hq with rfl | hq
        · exact hx
        · exact h2 q hq
      · refine Or.inr ⟨i + 1, q, h2, h3, h4, fun j hj q' hq' => ?_⟩
        cases j with
        | zero => cases hq'; exact hx
        | succ j => exact h5 j (by omega) q' hq'
end
section
/-- what a plain instruction's row asks for: its bytes, what was looked up, where it goes on -/
def EOk (cl : List vw_C) (tys : List (ClassId × FieldType)) (cD : ClassId) (GW : List Cond) (own : String) (bytes : ByteArray) (nL : Nat) (ini : Bool) (nx : Option Nat) : pI → Prop
  | (pc, .nop, _, _, _, _) => nx = some pc
  | (pc, .iconst i, _, _, c, _) => decode bytes pc = .ok (.iconst i, 1) ∧ Int32.ofInt i = c ∧ nx = some (pc + 1)
  | (pc, .bipush i, _, _, c, _) => decode bytes pc = .ok (.bipush i, 2) ∧ (Int8.ofInt i).toInt32 = c ∧ nx = some (pc + 2)
  | (pc, .sipush i, _, _, c, _) => decode bytes pc = .ok (.sipush i, 3) ∧ (Int16.ofInt i).toInt32 = c ∧ nx = some (pc + 3)
  | (pc, .ldc i, _, b, c, _) => decode bytes pc = .ok (.ldc i, 2) ∧ nx = some (pc + 2) ∧ b = 0 ∧ Cond.constant own i c ∈ GW
  | (pc, .ldc_w i, _, _, c, _) => decode bytes pc = .ok (.ldc_w i, 3) ∧ nx = some (pc + 3) ∧ Cond.constant own i c ∈ GW
  | (pc, .iload_n k, a, _, _, _) => decode bytes pc = .ok (.iload_n k, 1) ∧ nx = some (pc + 1) ∧ (k : Nat) = a
  | (pc, .iload k, a, _, _, _) => decode bytes pc = .ok (.iload k, 2) ∧ nx = some (pc + 2) ∧ k = a
  | (pc, .aload_n k, a, _, _, _) => decode bytes pc = .ok (.aload_n k, 1) ∧ nx = some (pc + 1) ∧ (k : Nat) = a
  | (pc, .istore_n k, a, _, _, _) => decode bytes pc = .ok (.istore_n k, 1) ∧ nx = some (pc + 1) ∧ (k : Nat) = a ∧ a < nL
  | (pc, .istore k, a, _, _, _) => decode bytes pc = .ok (.istore k, 2) ∧ nx = some (pc + 2) ∧ k = a ∧ a < nL
  | (pc, .astore_n k, a, _, _, _) => decode bytes pc = .ok (.astore_n k, 1) ∧ nx = some (pc + 1) ∧ (k : Nat) = a ∧ a < nL
  | (pc, .iinc k n, a, _, c, _) => decode bytes pc = .ok (.iinc k n, 3) ∧ nx = some (pc + 3) ∧ k = a ∧ a < nL ∧ Int32.ofInt n = c
  | (pc, .iadd, _, _, _, _) => decode bytes pc = .ok (.iadd, 1) ∧ nx = some (pc + 1)
  | (pc, .isub, _, _, _, _) => decode bytes pc = .ok (.isub, 1) ∧ nx = some (pc + 1)
  | (pc, .imul, _, _, _, _) => decode bytes pc = .ok (.imul, 1) ∧ nx = some (pc + 1)
  | (pc, .iand, _, _, _, _) => decode bytes pc = .ok (.iand, 1) ∧ nx = some (pc + 1)
  | (pc, .ior, _, _, _, _) => decode bytes pc = .ok (.ior, 1) ∧ nx = some (pc + 1)
  | (pc, .ixor, _, _, _, _) => decode bytes pc = .ok (.ixor, 1) ∧ nx = some (pc + 1)
  | (pc, .ishl, _, _, _, _) => decode bytes pc = .ok (.ishl, 1) ∧ nx = some (pc + 1)
  | (pc, .ishr, _, _, _, _) => decode bytes pc = .ok (.ishr, 1) ∧ nx = some (pc + 1)
  | (pc, .idiv, _, _, _, _) => decode bytes pc = .ok (.idiv, 1) ∧ nx = some (pc + 1)
  | (pc, .irem, _, _, _, _) => decode bytes pc = .ok (.irem, 1) ∧ nx = some (pc + 1)
  | (pc, .iushr, _, _, _, _) => decode bytes pc = .ok (.iushr, 1) ∧ nx = some (pc + 1)
  | (pc, .i2c, _, _, _, _) => decode bytes pc = .ok (.i2c, 1) ∧ nx = some (pc + 1)
  | (pc, .dup, _, _, _, _) => decode bytes pc = .ok (.dup, 1) ∧ nx = some (pc + 1)
  | (pc, .dup2, _, _, _, _) => decode bytes pc = .ok (.dup2, 1) ∧ nx = some (pc + 1)
  | (pc, .pop, _, _, _, _) => decode bytes pc = .ok (.pop, 1) ∧ nx = some (pc + 1)
  | (pc, .iaload, _, _, _, _) => decode bytes pc = .ok (.iaload, 1) ∧ nx = some (pc + 1)
  | (pc, .iastore, _, _, _, _) => decode bytes pc = .ok (.iastore, 1) ∧ nx = some (pc + 1)
  | (pc, .arraylength, _, _, _, _) => decode bytes pc = .ok (.arraylength, 1) ∧ nx = some (pc + 1)
  | (pc, .aaload, _, _, _, _) => decode bytes pc = .ok (.aaload, 1) ∧ nx = some (pc + 1)
  | (pc, .aastore, _, b, _, _) => decode bytes pc = .ok (.aastore, 1) ∧ nx = some (pc + 1) ∧ ∃ r, cl[b]? = some r ∧ tys[1]? = some (cD, .object r.1)
  | (pc, .goto off, a, _, _, _) => decode bytes pc = .ok (.goto off, 3) ∧ (pc : Int) + off = (a : Int)
  | (pc, .ifCond co off, a, _, _, _) => decode bytes pc = .ok (.ifCond co off, 3) ∧ nx = some (pc + 3) ∧ (pc : Int) + off = (a : Int)
  | (pc, .if_icmp co off, a, _, _, _) => decode bytes pc = .ok (.if_icmp co off, 3) ∧ nx = some (pc + 3) ∧ (pc : Int) + off = (a : Int)
  | (pc, .tableswitch d lo hi offs, _, _, _, _) => (∃ len, decode bytes pc = .ok (.tableswitch d lo hi offs, len)) ∧ 0 ≤ (pc : Int) + d ∧ (∀ o ∈ offs.toList, 0 ≤ (pc : Int) + o) ∧ hi = lo + offs.toList.length - 1 ∧ -2147483648 ≤ lo ∧ hi ≤ 2147483647
  | (pc, .lookupswitch d ps, _, _, _, _) => (∃ len, decode bytes pc = .ok (.lookupswitch d ps, len)) ∧ (ps.toList.zip (ps.toList.drop 1)).all (fun (a, next) => a.1 < next.1) = true ∧ 0 ≤ (pc : Int) + d ∧ ∀ q ∈ ps.toList, 0 ≤ (pc : Int) + q.2 ∧ -2147483648 ≤ q.1 ∧ q.1 ≤ 2147483647
  | (pc, .getfield i, a, b, _, _) => decode bytes pc = .ok (.getfield i, 3) ∧ nx = some (pc + 3) ∧ ∃ (C : String) (T : u_T) (N : Nat), cl[b]? = some (C, T, N) ∧ a < N ∧ (∀ w ∈ u_ws C T N, w ∈ GW) ∧ Cond.fieldLink own i (T a).1 (T a).2.1 (T a).2.2.1 ∈ GW
  | (pc, .putfield i, a, b, c, _) => decode bytes pc = .ok (.putfield i, 3) ∧ nx = some (pc + 3) ∧ ∃ (C : String) (T : u_T) (N : Nat) (ty : Nat → FieldType), cl[b]? = some (C, T, N) ∧ a < N ∧ (∀ w ∈ u_ws C T N, w ∈ GW) ∧ Cond.fieldLink own i (T a).1 (T a).2.1 (T a).2.2.1 ∈ GW ∧ (∀ k, k < N → parseFieldDescriptor (T k).2.2.1 = some (ty k)) ∧ (∀ x, x < N → ∀ y, y < N → x ≠ y → (T x).2.1 ≠ (T y).2.1) ∧ ((c = 0 ∧ ty a = .int) ∨ (c = 1 ∧ ty a = .boolean) ∨ (c = 2 ∧ ((∃ n, ty a = .object n) ∨ ∃ t, ty a = .array t))) ∧ ((T a).2.2.2 = false ∨ ((T a).2.2.2 = true ∧ ini = true ∧ (T a).1 = own))
  | (pc, .invokespecial i, a, _, _, _) => a = 9000 ∧ decode bytes pc = .ok (.invokespecial i, 3) ∧ nx = some (pc + 3) ∧ Cond.methodLink own i Lib.objectInit ∈ GW ∧ Cond.instanceMethod Lib.objectInit ∈ GW ∧ Cond.code Lib.objectInit ⟨#[0xb1]⟩ 1 none ∈ GW
  | (pc, .invokestatic i, a, _, _, _) => decode bytes pc = .ok (.invokestatic i, 3) ∧ nx = some (pc + 3) ∧ ((a = 9001 ∧ Cond.methodLink own i arraycopyName ∈ GW ∧ Cond.native arraycopyName ∈ GW ∧ Cond.static arraycopyName ∈ GW ∧ Cond.initialized "java/lang/System" ∈ GW) ∨
      (a = 9004 ∧ Cond.methodLink own i Lib.Math.max.name ∈ GW ∧ Cond.static Lib.Math.max.name ∈ GW ∧ Cond.initialized "java/lang/Math" ∈ GW ∧ Cond.code Lib.Math.max.name Lib.Math.max.code 2 (some .int) ∈ GW) ∨
      (a = 9005 ∧ Cond.methodLink own i Lib.Math.min.name ∈ GW ∧ Cond.static Lib.Math.min.name ∈ GW ∧ Cond.initialized "java/lang/Math" ∈ GW ∧ Cond.code Lib.Math.min.name Lib.Math.min.code 2 (some .int) ∈ GW))
  | _ => False
def pTo (nx : Option Nat) (pc : Nat) : Option Nat → Prop
  | none => nx = some pc
  | some t => pc = t
theorem pV_sum (ad tk : Nat → Nat) (st : List Value) : ((st.map (pV ad tk)).map fun v => v.category).sum = st.length := by
  induction st with
  | nil => rfl
  | cons v st ih => simp only [List.map_cons, List.sum_cons, pV_cat, ih, List.length_cons]; omega
theorem pPairs_get : ∀ (offs : List Int) (lo : Int) (i : Nat) (q : Int × Int), (pPairs lo offs)[i]? = some q → q.1 = lo + i ∧ offs[i]? = some q.2
  | [], lo, i, q, h => by simp [pPairs] at h
  | o :: r, lo, 0, q, h => by simp [pPairs] at h; subst h; simp
  | o :: r, lo, i + 1, q, h => by
    have h' : (pPairs (lo + 1) r)[i]? = some q := by simpa [pPairs] using h
    obtain ⟨h1, h2⟩ := pPairs_get r (lo + 1) i q h'
    refine ⟨?_, by simpa using h2⟩
    rw [h1]
    push_cast
    omega
theorem pPairs_in : ∀ (offs : List Int) (lo : Int) (i : Nat), i < offs.length → ∃ o, offs[i]? = some o ∧ (pPairs lo offs)[i]? = some (lo + i, o)
  | [], lo, i, h => absurd h (Nat.not_lt_zero i)
  | o :: r, lo, 0, _ => ⟨o, rfl, by simp [pPairs]⟩
  | o :: r, lo, i + 1, h => by
    obtain ⟨o', h1, h2⟩ := pPairs_in r (lo + 1) i (by simpa using h)
    refine ⟨o', by simpa using h1, ?_⟩
    show (pPairs (lo + 1) r)[i]? = _
    rw [h2]
    congr 2
    push_cast
    omega
theorem i32_ofInt {x : Int32} {v : Int} (h1 : -2147483648 ≤ v) (h2 : v ≤ 2147483647) : x = Int32.ofInt v ↔ x.toInt = v := by
  constructor
  · intro h
    rw [h, Int32.toInt_ofInt_of_le h1 (by omega)]
  · intro h
    rw [← h, Int32.ofInt_toInt]
theorem lk_off : ∀ (ps : List (Int × Int)) (d v : Int), Op.lookupswitch.offset ps d v = ((ps.find? (fun q => q.1 == v)).map (·.2)).getD d
  | [], d, v => by simp [Op.lookupswitch.offset]
  | (a, o) :: r, d, v => by
    by_cases h : a = v
    · simp [Op.lookupswitch.offset, h]
    · simp [Op.lookupswitch.offset, h]
      exact lk_off r d v
set_option maxHeartbeats 4000000 in
theorem pw_step {p : Program} {l : Launch} {e : Env} {R : Room} {s : State} {m : MethodId} {args : Array Value} {below : List Frame} {meth : Method} {c : Code} {cells slots : Nat} {Q : State → Prop} {D : va_G} {cl : List vw_C} {tys : List (ClassId × FieldType)} {cI cD : ClassId} {ad tk : Nat → Nat} {A : Nat → Prop} {H0 : Heap} {GW : List Cond} {own : String} {bytes : ByteArray} {nL : Nat} {ini : Bool}
    (hx : p.tables.exec = Jvm.exec) (hb : c.code = bytes) (hml : c.maxLocals = nL) (hts : ∀ w ∈ GW, w.before args s = true) (hown : s.vm.findClass own = some m.cls) (hini : ini = true → meth.name = "<init>") (hK : va_K D cl tys s) (ht0 : tys[0]? = some (cI, .int)) {CD : String} (ht1 : tys[1]? = some (cD, .object CD)) (hRf : 1 ≤ R.frames) (hRl : 2000 ≤ R.locals) (hRc : cells ≤ R.cells ∧ slots ≤ R.slots)
    {en : pI} {nx : Option Nat} (hk : pKind en = 0) (hE : EOk cl tys cD GW own bytes nL ini nx en) {G : List pSh} {S S' : pS} {ls ls' st st' : List Value} {j : Option Nat} (hs : pStep G ls st S en = some (j, ls', st', S'))
    {H : Heap} {locs : List Loc} {lsA : Array Slot} (hl : pHas ad tk lsA nL ls) (hP : va_P D cl (pWld cI cD ad G S) H) (hD : va_D A (pWld cI cD ad G S)) (hS : va_S A H0 H locs)
    (kk : ∀ (H1 : Heap) (locs1 : List Loc) (lsA1 : Array Slot) (pc1 : Nat), pTo nx pc1 j → pHas ad tk lsA1 nL ls' → va_P D cl (pWld cI cD ad G S') H1 → va_D A (pWld cI cD ad G S') → va_S A H0 H1 locs1 → W p l e R s m args below meth c H1 locs1 cells slots Q (F0 m pc1 lsA1 (st'.map (pV ad tk)))) :
    W p l e R s m args below meth c H locs cells slots Q (F0 m en.1 lsA (st.map (pV ad tk))) := by
  obtain ⟨pc, ins, a, b, cc, w⟩ := en
  show W p l e R s m args below meth c H locs cells slots Q (F0 m pc lsA (st.map (pV ad tk)))
  cases ins with
  | nop =>
    simp only [pStep] at hs
    cases hs
    exact kk H locs lsA pc hE hl.kill hP hD hS
  | iconst i =>
    obtain ⟨hd, hc, hn⟩ := hE
    simp only [pStep] at hs
    cases hs
    exact lv_iconst hx hb hd hc (kk H locs lsA _ hn hl hP hD hS)
  | bipush i =>
    obtain ⟨hd, hc, hn⟩ := hE
    simp only [pStep] at hs
    cases hs
    exact lv_bipush hx hb hd hc (kk H locs lsA _ hn hl hP hD hS)
  | sipush i =>
    obtain ⟨hd, hc, hn⟩ := hE
    simp only [pStep] at hs
    cases hs
    exact lv_sipush hx hb hd hc (kk H locs lsA _ hn hl hP hD hS)
  | ldc i =>
    obtain ⟨hd, hn, h0, hc⟩ := hE
    subst h0
    simp only [pStep, if_true] at hs
    cases hs
    exact lv_ldc hx hb hown (hts _ hc) hd (kk H locs lsA _ hn hl hP hD hS)
  | ldc_w i =>
    obtain ⟨hd, hn, hc⟩ := hE
    simp only [pStep] at hs
    cases hs
    exact lv_ldcw hx hb hown (hts _ hc) hd (kk H locs lsA _ hn hl hP hD hS)
  | iload_n k =>
    obtain ⟨hd, hn, ha⟩ := hE
    subst ha
    simp only [pStep] at hs
    split at hs
    · rename_i x hq
      cases hs
      exact lv_iload_n hx hb hd rfl (hl.2.2 _ _ hq (by simp)) (kk H locs lsA _ hn hl hP hD hS)
    · cases hs
  | iload k =>
    obtain ⟨hd, hn, ha⟩ := hE
    subst ha
    simp only [pStep] at hs
    split at hs
    · rename_i x hq
      cases hs
      exact lv_iload hx hb hd (hl.2.2 _ _ hq (by simp)) (kk H locs lsA _ hn hl hP hD hS)
    · cases hs
  | aload_n k =>
    obtain ⟨hd, hn, ha⟩ := hE
    subst ha
    simp only [pStep] at hs
    split at hs
    · rename_i x hq
      cases hs
      exact lv_aload_n hx hb hd rfl (hl.2.2 _ _ hq (by simp)) (kk H locs lsA _ hn hl hP hD hS)
    · cases hs
  | istore_n k =>
    obtain ⟨hd, hn, ha, hlt⟩ := hE
    subst ha
    simp only [pStep] at hs
    split at hs
    · cases hs
      exact lv_istore_n hx hb hd rfl hl.lv hlt rfl (fun lsA1 h1 => kk H locs lsA1 _ hn (pHas.store h1) hP hD hS)
    · cases hs
  | istore k =>
    obtain ⟨hd, hn, ha, hlt⟩ := hE
    subst ha
    simp only [pStep] at hs
    split at hs
    · cases hs
      exact lv_istore hx hb hd hl.lv hlt rfl (fun lsA1 h1 => kk H locs lsA1 _ hn (pHas.store h1) hP hD hS)
    · cases hs
  | astore_n k =>
    obtain ⟨hd, hn, ha, hlt⟩ := hE
    subst ha
    simp only [pStep] at hs
    split at hs
    · cases hs
      exact lv_astore_n hx hb hd rfl hl.lv hlt rfl (fun lsA1 h1 => kk H locs lsA1 _ hn (pHas.store h1) hP hD hS)
    · cases hs
  | iinc k n =>
    obtain ⟨hd, hn, ha, hlt, hc⟩ := hE
    subst ha
    simp only [pStep] at hs
    split at hs
    · rename_i x hq
      cases hs
      obtain ⟨q, hq2⟩ := List.getElem?_of_mem (pLv_mem (ad := ad) (tk := tk) (q := (k, Value.int x)) |>.mpr ⟨.int x, hq, by simp, rfl⟩)
      exact lv_iinc hx hb hd hl.lv (k := q) hq2 (by rw [hc]) hlt rfl (fun lsA1 h1 => kk H locs lsA1 _ hn (pHas.store h1) hP hD hS)
    · cases hs
  | iadd =>
    obtain ⟨hd, hn⟩ := hE
    simp only [pStep] at hs
    split at hs
    · cases hs
      exact lv_iadd hx hb hd (kk H locs lsA _ hn hl hP hD hS)
    · cases hs
  | isub =>
    obtain ⟨hd, hn⟩ := hE
    simp only [pStep] at hs
    split at hs
    · cases hs
      exact lv_isub hx hb hd (kk H locs lsA _ hn hl hP hD hS)
    · cases hs
  | imul =>
    obtain ⟨hd, hn⟩ := hE
    simp only [pStep] at hs
    split at hs
    · cases hs
      exact lv_imul hx hb hd (kk H locs lsA _ hn hl hP hD hS)
    · cases hs
  | iand =>
    obtain ⟨hd, hn⟩ := hE
    simp only [pStep] at hs
    split at hs
    · cases hs
      exact lv_iand hx hb hd (kk H locs lsA _ hn hl hP hD hS)
    · cases hs
  | ior =>
    obtain ⟨hd, hn⟩ := hE
    simp only [pStep] at hs
    split at hs
    · cases hs
      exact lv_ior hx hb hd (kk H locs lsA _ hn hl hP hD hS)
    · cases hs
  | ixor =>
    obtain ⟨hd, hn⟩ := hE
    simp only [pStep] at hs
    split at hs
    · cases hs
      exact lv_ixor hx hb hd (kk H locs lsA _ hn hl hP hD hS)
    · cases hs
  | ishl =>
    obtain ⟨hd, hn⟩ := hE
    simp only [pStep] at hs
    split at hs
    · cases hs
      exact lv_ishl hx hb hd (kk H locs lsA _ hn hl hP hD hS)
    · cases hs
  | ishr =>
    obtain ⟨hd, hn⟩ := hE
    simp only [pStep] at hs
    split at hs
    · cases hs
      exact lv_ishr hx hb hd (kk H locs lsA _ hn hl hP hD hS)
    · cases hs
  | idiv =>
    obtain ⟨hd, hn⟩ := hE
    simp only [pStep] at hs
    split at hs
    · split at hs
      · cases hs
      · rename_i h0
        cases hs
        exact lv_idiv hx hb hd h0 (kk H locs lsA _ hn hl hP hD hS)
    · cases hs
  | irem =>
    obtain ⟨hd, hn⟩ := hE
    simp only [pStep] at hs
    split at hs
    · split at hs
      · cases hs
      · rename_i h0
        cases hs
        exact lv_irem hx hb hd h0 (kk H locs lsA _ hn hl hP hD hS)
    · cases hs
  | iushr =>
    obtain ⟨hd, hn⟩ := hE
    simp only [pStep] at hs
    split at hs
    · cases hs
      exact lv_iushr hx hb hd rfl (kk H locs lsA _ hn hl hP hD hS)
    · cases hs
  | i2c =>
    obtain ⟨hd, hn⟩ := hE
    simp only [pStep] at hs
    split at hs
    · cases hs
      exact lv_i2c hx hb hd rfl (kk H locs lsA _ hn hl hP hD hS)
    · cases hs
  | dup =>
    obtain ⟨hd, hn⟩ := hE
    simp only [pStep] at hs
    split at hs
    · cases hs
      exact lv_dup hx hb hd (pV_cat _ _ _) (kk H locs lsA _ hn hl hP hD hS)
    · cases hs
  | dup2 =>
    obtain ⟨hd, hn⟩ := hE
    simp only [pStep] at hs
    split at hs
    · cases hs
      exact lv_dup2_11 hx hb hd (pV_cat _ _ _) (pV_cat _ _ _) (kk H locs lsA _ hn hl hP hD hS)
    · cases hs
  | pop =>
    obtain ⟨hd, hn⟩ := hE
    simp only [pStep] at hs
    split at hs
    · cases hs
      exact lv_pop hx hb hd (pV_cat _ _ _) (kk H locs lsA _ hn hl hP hD hS)
    · cases hs
  | goto off =>
    obtain ⟨hd, ht⟩ := hE
    simp only [pStep] at hs
    cases hs
    exact lv_goto hx hb hd ht (kk H locs lsA _ rfl hl hP hD hS)
  | ifCond co off =>
    obtain ⟨hd, hn, ht⟩ := hE
    cases co
    · simp only [pStep] at hs
      split at hs
      · rename_i hst
        refine lv_if_eq hx hb hd ht (fun hc => ?_) (fun hc => ?_)
        · have hc := hc
          simp only [hc, if_true, if_false] at hs
          cases hs
          exact kk H locs lsA _ rfl hl hP hD hS
        · have hc := hc
          simp only [hc, if_true, if_false] at hs
          cases hs
          exact kk H locs lsA _ hn hl hP hD hS
      · cases hs
    · simp only [pStep] at hs
      split at hs
      · rename_i hst
        refine lv_if_ne hx hb hd ht (fun hc => ?_) (fun hc => ?_)
        · have hc := hc
          simp only [hc, if_true, if_false] at hs
          cases hs
          exact kk H locs lsA _ rfl hl hP hD hS
        · have hc := hc
          simp only [hc, if_true, if_false] at hs
          cases hs
          exact kk H locs lsA _ hn hl hP hD hS
      · cases hs
    · simp only [pStep] at hs
      split at hs
      · rename_i hst
        refine lv_if_lt hx hb hd ht (fun hc => ?_) (fun hc => ?_)
        · have hc := hc
          simp only [hc, if_true, if_false] at hs
          cases hs
          exact kk H locs lsA _ rfl hl hP hD hS
        · have hc := hc
          simp only [hc, if_true, if_false] at hs
          cases hs
          exact kk H locs lsA _ hn hl hP hD hS
      · cases hs
    · simp only [pStep] at hs
      split at hs
      · rename_i hst
        refine lv_if_ge hx hb hd ht (fun hc => ?_) (fun hc => ?_)
        · have hc := (Int32.not_lt.mpr hc)
          simp only [hc, if_true, if_false] at hs
          cases hs
          exact kk H locs lsA _ rfl hl hP hD hS
        · have hc := (Int32.not_le.mp hc)
          simp only [hc, if_true, if_false] at hs
          cases hs
          exact kk H locs lsA _ hn hl hP hD hS
      · cases hs
    · simp only [pStep] at hs
      split at hs
      · rename_i hst
        refine lv_if_gt hx hb hd ht (fun hc => ?_) (fun hc => ?_)
        · have hc := (Int32.not_le.mpr hc)
          simp only [hc, if_true, if_false] at hs
          cases hs
          exact kk H locs lsA _ rfl hl hP hD hS
        · have hc := (Int32.not_lt.mp hc)
          simp only [hc, if_true, if_false] at hs
          cases hs
          exact kk H locs lsA _ hn hl hP hD hS
      · cases hs
    · simp only [pStep] at hs
      split at hs
      · rename_i hst
        refine lv_if_le hx hb hd ht (fun hc => ?_) (fun hc => ?_)
        · have hc := hc
          simp only [hc, if_true, if_false] at hs
          cases hs
          exact kk H locs lsA _ rfl hl hP hD hS
        · have hc := hc
          simp only [hc, if_true, if_false] at hs
          cases hs
          exact kk H locs lsA _ hn hl hP hD hS
      · cases hs
  | if_icmp co off =>
    obtain ⟨hd, hn, ht⟩ := hE
    cases co
    · simp only [pStep] at hs
      split at hs
      · rename_i hst
        refine lv_icmp_eq hx hb hd ht (fun hc => ?_) (fun hc => ?_)
        · have hc := hc
          simp only [hc, if_true, if_false] at hs
          cases hs
          exact kk H locs lsA _ rfl hl hP hD hS
        · have hc := hc
          simp only [hc, if_true, if_false] at hs
          cases hs
          exact kk H locs lsA _ hn hl hP hD hS
      · cases hs
    · simp only [pStep] at hs
      split at hs
      · rename_i hst
        refine lv_icmp_ne hx hb hd ht (fun hc => ?_) (fun hc => ?_)
        · have hc := hc
          simp only [hc, if_true, if_false] at hs
          cases hs
          exact kk H locs lsA _ rfl hl hP hD hS
        · have hc := hc
          simp only [hc, if_true, if_false] at hs
          cases hs
          exact kk H locs lsA _ hn hl hP hD hS
      · cases hs
    · simp only [pStep] at hs
      split at hs
      · rename_i hst
        refine lv_icmp_lt hx hb hd ht (fun hc => ?_) (fun hc => ?_)
        · have hc := hc
          simp only [hc, if_true, if_false] at hs
          cases hs
          exact kk H locs lsA _ rfl hl hP hD hS
        · have hc := hc
          simp only [hc, if_true, if_false] at hs
          cases hs
          exact kk H locs lsA _ hn hl hP hD hS
      · cases hs
    · simp only [pStep] at hs
      split at hs
      · rename_i hst
        refine lv_icmp_ge hx hb hd ht (fun hc => ?_) (fun hc => ?_)
        · have hc := (Int32.not_lt.mpr hc)
          simp only [hc, if_true, if_false] at hs
          cases hs
          exact kk H locs lsA _ rfl hl hP hD hS
        · have hc := (Int32.not_le.mp hc)
          simp only [hc, if_true, if_false] at hs
          cases hs
          exact kk H locs lsA _ hn hl hP hD hS
      · cases hs
    · simp only [pStep] at hs
      split at hs
      · rename_i hst
        refine lv_icmp_gt hx hb hd ht (fun hc => ?_) (fun hc => ?_)
        · have hc := (Int32.not_le.mpr hc)
          simp only [hc, if_true, if_false] at hs
          cases hs
          exact kk H locs lsA _ rfl hl hP hD hS
        · have hc := (Int32.not_lt.mp hc)
          simp only [hc, if_true, if_false] at hs
          cases hs
          exact kk H locs lsA _ hn hl hP hD hS
      · cases hs
    · simp only [pStep] at hs
      split at hs
      · rename_i hst
        refine lv_icmp_le hx hb hd ht (fun hc => ?_) (fun hc => ?_)
        · have hc := hc
          simp only [hc, if_true, if_false] at hs
          cases hs
          exact kk H locs lsA _ rfl hl hP hD hS
        · have hc := hc
          simp only [hc, if_true, if_false] at hs
          cases hs
          exact kk H locs lsA _ hn hl hP hD hS
      · cases hs
  | tableswitch d lo hi offs =>
    obtain ⟨⟨len, hd⟩, h0, h1, h2, h3, h4⟩ := hE
    simp only [pStep] at hs
    split at hs
    · rename_i x st0
      obtain ⟨off, hz, hq⟩ := pSw_spec hs
      cases hz
      have hlen : ∀ i : Nat, i < offs.toList.length → (-2147483648 ≤ lo + (i : Int) ∧ lo + (i : Int) ≤ 2147483647) := fun i hi => by omega
      rcases hq with ⟨hq, rfl⟩ | ⟨i, q, hq1, hq2, rfl, -⟩
      · refine lv_tableOut hx hb hd ?_ (Int.toNat_of_nonneg h0).symm (kk H locs lsA _ rfl hl hP hD hS)
        by_cases hlo : x.toInt < lo
        · exact Or.inl hlo
        · refine Or.inr (Int.not_le.mp fun hhi => ?_)
          obtain ⟨o, ho1, ho2⟩ := pPairs_in offs.toList lo (x.toInt - lo).toNat (by omega)
          refine hq _ (List.mem_of_getElem? ho2) ((i32_ofInt (hlen _ (by omega)).1 (hlen _ (by omega)).2).mpr ?_)
          show x.toInt = lo + ((x.toInt - lo).toNat : Int)
          omega
      · obtain ⟨e1, e2⟩ := pPairs_get _ _ _ _ hq1
        have hi : i < offs.toList.length := (List.getElem?_eq_some_iff.mp e2).1
        rw [e1] at hq2
        have hx2 : x.toInt = lo + i := (i32_ofInt (hlen i hi).1 (hlen i hi).2).mp hq2
        refine lv_tableIn hx hb hd (by omega) (by omega) (off := q.2) ?_ (Int.toNat_of_nonneg (h1 _ (List.mem_of_getElem? e2))).symm (kk H locs lsA _ rfl hl hP hD hS)
        rw [show (x.toInt - lo).toNat = i by omega, ← Array.getElem?_toList]
        exact e2
    · cases hs
  | lookupswitch d ps =>
    obtain ⟨⟨len, hd⟩, hsort, h0, h1⟩ := hE
    simp only [pStep] at hs
    split at hs
    · rename_i x st0
      obtain ⟨off, hz, hq⟩ := pSw_spec hs
      cases hz
      have key : Op.lookupswitch.offset ps.toList d x.toInt = off ∧ 0 ≤ (pc : Int) + off := by
        rw [lk_off]
        rcases hq with ⟨hq, rfl⟩ | ⟨i, q, hq1, hq2, rfl, hq3⟩
        · refine ⟨?_, h0⟩
          rw [List.find?_eq_none.mpr]
          · rfl
          · intro q hqm hqe
            have hqe : q.1 = x.toInt := by simpa using hqe
            exact hq q hqm ((i32_ofInt (h1 q hqm).2.1 (h1 q hqm).2.2).mpr hqe.symm)
        · have hqm := List.mem_of_getElem? hq1
          refine ⟨?_, (h1 q hqm).1⟩
          have hqx : x.toInt = q.1 := (i32_ofInt (h1 q hqm).2.1 (h1 q hqm).2.2).mp hq2
          have : ps.toList.find? (fun z => z.1 == x.toInt) = some q := by
            obtain ⟨hi, hge⟩ := List.getElem?_eq_some_iff.mp hq1
            rw [List.find?_eq_some_iff_getElem]
            refine ⟨by simp [hqx], i, hi, hge, fun j hj => ?_⟩
            have hjm : ps.toList[j]? = some ps.toList[j] := List.getElem?_eq_getElem (by omega)
            have hjn := hq3 j hj _ hjm
            have hjM := List.mem_of_getElem? hjm
            have : ¬ (ps.toList[j]).1 = x.toInt := fun hz => hjn ((i32_ofInt (h1 _ hjM).2.1 (h1 _ hjM).2.2).mpr hz.symm)
            simpa using this
          rw [this]
          rfl
      exact lv_lookup hx hb hd hsort key.1 (Int.toNat_of_nonneg key.2).symm (kk H locs lsA _ rfl hl hP hD hS)
    · cases hs
  | getfield i =>
    obtain ⟨hd, hn, C, T, N, hc, hN, hin, hlk⟩ := hE
    simp only [pStep] at hs
    split at hs
    · rename_i o st0
      split at hs
      · rename_i ci fl hg
        split at hs
        · rename_i hci
          subst hci
          split at hs
          · rename_i hf
            cases hs
            exact va_get hx hb hts hin hown hK hP o (pWld_at hg) hc a hN (hts _ hlk) (fun _ h => h) (v := .int (S.1 o a)) (by simp [List.getElem?_mapIdx, hf, pFld]) hd (kk H locs lsA _ hn hl hP hD hS)
          · rename_i j0 hf
            cases hs
            exact va_get hx hb hts hin hown hK hP o (pWld_at hg) hc a hN (hts _ hlk) (fun _ h => h) (v := .ref (ad j0)) (by simp [List.getElem?_mapIdx, hf, pFld]) hd (kk H locs lsA _ hn hl hP hD hS)
          · cases hs
        · cases hs
      · cases hs
    · cases hs
  | putfield i =>
    obtain ⟨hd, hn, C, T, N, ty, hc, hN, hin, hlk, hty, hnm, ht, hfin⟩ := hE
    have hc2 : ¬ cc = 2 := fun h => by subst h; simp [pKind] at hk
    simp only [pStep] at hs
    split at hs
    · rename_i v o st0
      split at hs
      · rename_i ci fl hg
        split at hs
        · rename_i hci
          subst hci
          split at hs
          · rename_i hf
            split at hs
            · rename_i hv
              cases hs
              have hfl : a < fl.length := (List.getElem?_eq_some_iff.mp hf).1
              have hnf : narrow (ty a) (.int v) = .int v ∧ fits (ty a) (.int v) = true := by
                rcases ht with ⟨-, h⟩ | ⟨h1, h⟩ | ⟨h, -⟩
                · rw [h]; exact ⟨rfl, rfl⟩
                · rw [h]
                  have hv2 : v = 0 ∨ v = 1 := by
                    rcases hv with h3 | h3
                    · rw [h1] at h3; exact absurd h3 (by decide)
                    · exact h3
                  rcases hv2 with rfl | rfl <;> exact ⟨by decide, by decide⟩
                · exact absurd h hc2
              have hcell : pCell cI cD ad (sA S.1 o a v, S.2.1, S.2.2) o (.inl (ci, fl)) = .inr (ci, (fl.mapIdx (pFld ad (S.1 o))).set a (.int v)) := by
                simp only [pCell, sA, if_true]
                rw [pFld_set hf]
              have hset := pWld_set (cI := cI) (cD := cD) (ad := ad) (S := S) (S' := (sA S.1 o a v, S.2.1, S.2.2)) hg hcell (fun j sh' hj _ => by
                rcases sh' with ⟨ci', fl'⟩ | n | n
                · simp [pCell, sA, hj]
                · rfl
                · rfl)
              rcases hfin with hfin | ⟨hfin, hi1, hown2⟩
              · refine va_put hx hb hts hin ty hty hnm hown hK hP hD hS o (pWld_at hg) hc a hN (hts _ hlk) (fun _ h => h) hfin (hty a hN) hnf.1 hnf.2 (by simpa using hfl) hd (fun H1 locs1 q1 q2 q3 => ?_)
                have q1 := q1
                simp only [pV] at q1 q2
                rw [hset] at q1 q2
                exact kk H1 locs1 lsA _ hn hl q1 q2 q3
              · refine va_putF hx hb hts hin ty hty hnm hown hK hP hD hS o (pWld_at hg) hc a hN (hts _ hlk) (fun _ h => h) hfin (hini hi1) hown2 (hty a hN) hnf.1 hnf.2 (by simpa using hfl) hd (fun H1 locs1 q1 q2 q3 => ?_)
                simp only [pV] at q1 q2
                rw [hset] at q1 q2
                exact kk H1 locs1 lsA _ hn hl q1 q2 q3
            · cases hs
          · cases hs
        · cases hs
      · cases hs
    · cases hs
  | iaload =>
    obtain ⟨hd, hn⟩ := hE
    simp only [pStep] at hs
    split at hs
    · rename_i i o st0
      split at hs
      · rename_i n hg
        split at hs
        · rename_i hi
          cases hs
          exact va_iald hx hb hK hP o 0 (pWld_at hg) ht0 (inb_in hi) hd (kk H locs lsA _ hn hl hP hD hS)
        · cases hs
      · cases hs
    · cases hs
  | iastore =>
    obtain ⟨hd, hn⟩ := hE
    simp only [pStep] at hs
    split at hs
    · rename_i v i o st0
      split at hs
      · rename_i n hg
        split at hs
        · rename_i hi
          cases hs
          have hset := pWld_set (cI := cI) (cD := cD) (ad := ad) (S := S) (S' := (S.1, sA S.2.1 o i.toNatClampNeg v, S.2.2)) (x := .inl (cI, n, .inl (upd (S.2.1 o) i.toNatClampNeg v))) hg (by simp [pCell, sA]) (fun j sh' hj _ => by
            rcases sh' with ⟨ci', fl'⟩ | n | n
            · rfl
            · simp [pCell, sA, hj]
            · rfl)
          refine va_iast hx hb hK hP hD hS o 0 (pWld_at hg) ht0 (inb_in hi) hd (fun H1 locs1 q1 q2 q3 => ?_)
          rw [hset] at q1 q2
          exact kk H1 locs1 lsA _ hn hl q1 q2 q3
        · cases hs
      · cases hs
    · cases hs
  | arraylength =>
    obtain ⟨hd, hn⟩ := hE
    simp only [pStep] at hs
    split at hs
    · rename_i o st0
      split at hs
      · rename_i n hg
        cases hs
        exact va_alen hx hb hK hP o 0 (pWld_at hg) ht0 rfl hd (kk H locs lsA _ hn hl hP hD hS)
      · rename_i n hg
        cases hs
        exact va_alen hx hb hK hP o 1 (pWld_at hg) ht1 rfl hd (kk H locs lsA _ hn hl hP hD hS)
      · cases hs
    · cases hs
  | aaload =>
    obtain ⟨hd, hn⟩ := hE
    simp only [pStep] at hs
    split at hs
    · rename_i i o st0
      split at hs
      · rename_i n hg
        split at hs
        · rename_i hi
          split at hs
          · rename_i j0 hj0
            cases hs
            refine va_aldq hx hb hK hP o 1 (pWld_at hg) ht1 (inb_in hi) hd ?_
            rw [hj0]
            exact kk H locs lsA _ hn hl hP hD hS
          · cases hs
        · cases hs
      · cases hs
    · cases hs
  | aastore =>
    obtain ⟨hd, hn, r, hr, ht1'⟩ := hE
    simp only [pStep] at hs
    split at hs
    · rename_i j0 i o st0
      split at hs
      · rename_i n hg
        split at hs
        · rename_i hob
          split at hs
          · rename_i hi
            cases hs
            obtain ⟨fl, hgj⟩ : ∃ fl, G[j0]? = some (.inl (b, fl)) := by
              unfold pObj at hob
              split at hob
              · rename_i ci fl hgj
                have hci : ci = b := by simpa using hob
                subst hci
                exact ⟨fl, hgj⟩
              · cases hob
            have hset := pWld_set (cI := cI) (cD := cD) (ad := ad) (S := S) (S' := (S.1, S.2.1, sR S.2.2 o i.toNatClampNeg (some j0))) (x := .inl (cD, n, .inr (.inr (.inr (.inr (va_up (fun k => (S.2.2 o k).map ad) i.toNatClampNeg (some (ad j0)))))))) hg (by
              simp only [pCell, sR, if_true]
              congr 7
              funext k
              by_cases hk2 : k = i.toNatClampNeg
              · simp [va_up, hk2]
              · simp [va_up, hk2]) (fun j sh' hj _ => by
              rcases sh' with ⟨ci', fl'⟩ | n | n
              · rfl
              · rfl
              · simp [pCell, sR, hj])
            refine va_astq hx hb hK hP hD hS o 1 j0 b (pWld_at hg) ht1' (pWld_at hgj) hr (inb_in hi) hd (fun H1 locs1 q1 q2 q3 => ?_)
            rw [hset] at q1 q2
            exact kk H1 locs1 lsA _ hn hl q1 q2 q3
          · cases hs
        · cases hs
      · cases hs
    · cases hs
  | invokespecial i =>
    obtain ⟨ha, hd, hn, h1, h2, h3⟩ := hE
    subst ha
    simp only [pStep, if_true] at hs
    split at hs
    · rename_i o st0
      split at hs
      · rename_i hlen
        cases hs
        refine W.objInit hx hb hown (hts _ h1) (hts _ h2) (hts _ h3) rfl (by rw [hml]; exact hl.1) (a := ad o) (rest := st'.map (pV ad tk)) rfl hd hRf ?_ (kk H locs lsA _ hn hl hP hD hS)
        rw [pV_sum]
        show 2 * 0 + _ + 12 ≤ _
        omega
      · cases hs
    · cases hs
  | invokestatic i =>
    obtain ⟨hd, hn, h1⟩ := hE
    rcases h1 with ⟨rfl, h1, h2, h3, h4⟩ | ⟨rfl, h1, h2, h3, h4⟩ | ⟨rfl, h1, h2, h3, h4⟩
    · simp only [pStep, if_true] at hs
      split at hs
      · rename_i n dp o1 sp o0 st0
        split at hs
        · rename_i n0 n1 hg0 hg1
          split at hs
          · rename_i hcnd
            obtain ⟨c1, c2, c3, c4, c5, c6⟩ := hcnd
            cases hs
            have hset := pWld_set (cI := cI) (cD := cD) (ad := ad) (S := S) (S' := (S.1, sW S.2.1 o1 (va_cpy (S.2.1 o0) (S.2.1 o1) sp.toNatClampNeg dp.toNatClampNeg n.toNatClampNeg), S.2.2)) (x := .inl (cI, n1, .inl (va_cpy (S.2.1 o0) (S.2.1 o1) sp.toNatClampNeg dp.toNatClampNeg n.toNatClampNeg))) hg1 (by simp [pCell, sW]) (fun j sh' hj _ => by
              rcases sh' with ⟨ci', fl'⟩ | n | n
              · rfl
              · simp [pCell, sW, hj]
              · rfl)
            refine va_copyi hx hb (by rw [hml]; exact hl.1.symm) hown (hts _ h1) (hts _ h2) (hts _ h3) (hts _ h4) hK hP hD hS o0 o1 0 0 (pWld_at hg0) (pWld_at hg1) ht0 ht0 rfl (Int32.not_lt.mpr c1) (Int32.not_lt.mpr c2) (Int32.not_lt.mpr c3) c4 c5 (fun _ _ => rfl) hRf ?_ hd (fun H1 locs1 q1 q2 q3 => ?_)
            · rw [pV_sum]
              show _ + (5 + 2 + 11) ≤ _
              omega
            · rw [hset] at q1 q2
              exact kk H1 locs1 lsA _ hn hl q1 q2 q3
          · cases hs
        · cases hs
      · cases hs
    · simp only [pStep, if_true, show ¬ (9004 : Nat) = 9001 by decide, if_false] at hs
      split at hs
      · split at hs
        · rename_i hlen
          cases hs
          refine va_mmax hx hb (by rw [hml]; exact hl.1.symm) hown (hts _ h1) (hts _ h2) (hts _ h3) (hts _ h4) hRf ?_ hRc.1 hRc.2 hd (kk H locs lsA _ hn hl hP hD hS)
          rw [pV_sum]
          omega
        · cases hs
      · cases hs
    · simp only [pStep, if_true, show ¬ (9005 : Nat) = 9001 by decide, show ¬ (9005 : Nat) = 9004 by decide, if_false] at hs
      split at hs
      · split at hs
        · rename_i hlen
          cases hs
          refine va_mmin hx hb (by rw [hml]; exact hl.1.symm) hown (hts _ h1) (hts _ h2) (hts _ h3) (hts _ h4) hRf ?_ hRc.1 hRc.2 hd (kk H locs lsA _ hn hl hP hD hS)
          rw [pV_sum]
          omega
        · cases hs
      · cases hs
  | _ => exact hE.elim
end
section
/-! What the small machine runs without a new cell, the machine itself runs: methods by contract. -/
/-- a method's name, bytes, places, what it returns, and how it is called: 0 on an object, 1 static, 2 a constructor -/
abbrev pN : Type := MethodName × ByteArray × Nat × Option FieldType × Nat
def pRm (d mc ms : Nat) : Room := { frames := d + 10, cells := mc, slots := ms, locals := 400 * d + 3000 }
def pWs (GW : List Cond) (I : Nat → pN) (a : Nat) : List Cond := Cond.code (I a).1 (I a).2.1 (I a).2.2.1 (I a).2.2.2.1 :: GW
def rtOk (b : Nat) (r : Option FieldType) : Prop := (b = 1 ∧ ∃ ty, r = some ty) ∨ (b = 0 ∧ r = none)
/-- a call's row -/
def COk (GW : List Cond) (I : Nat → pN) (own : String) (bytes : ByteArray) (nx : Option Nat) : pI → Prop
  | (pc, .invokevirtual i, a, b, _, _) => decode bytes pc = .ok (.invokevirtual i, 3) ∧ nx = some (pc + 3) ∧ rtOk b (I a).2.2.2.1 ∧ (I a).2.2.2.2 = 0 ∧ Cond.methodLink own i (I a).1 ∈ GW
  | (pc, .invokestatic i, a, b, _, _) => decode bytes pc = .ok (.invokestatic i, 3) ∧ nx = some (pc + 3) ∧ rtOk b (I a).2.2.2.1 ∧ (I a).2.2.2.2 = 1 ∧ (Cond.methodLink own i (I a).1 ∈ GW ∨ ∃ host, Cond.methodLinkNest own i (I a).1 host ∈ GW)
  | _ => False
/-- a return's row -/
def ROk (bytes : ByteArray) (ret : Option FieldType) : pI → Prop
  | (pc, .ireturn, a, _, _, _) => decode bytes pc = .ok (.ireturn, 1) ∧ ((a = 0 ∧ ret = some .int) ∨ (a = 1 ∧ ret = some .boolean))
  | (pc, .return_, _, _, _, _) => decode bytes pc = .ok (.return_, 1) ∧ ret = none
  | _ => False
section RUN
variable {P : Nat → pM} {I : Nat → pN} {G : List pSh} {GW : List Cond} {D : va_G} {cl : List vw_C} {tys : List (ClassId × FieldType)} {cI cD : ClassId} {ad tk : Nat → Nat} {Xt : (Nat → Prop) → State → Prop}
/-- a row of method k -/
def AOk (I : Nat → pN) (GW : List Cond) (cl : List vw_C) (tys : List (ClassId × FieldType)) (cD : ClassId) (k : Nat) (nx : Option Nat) (e : pI) : Prop :=
  (pKind e = 0 → EOk cl tys cD GW (I k).1.cls (I k).2.1 (I k).2.2.1 (decide ((I k).1.name = "<init>")) nx e) ∧ ((pKind e = 1 ∨ pKind e = 2) → ROk (I k).2.1 (I k).2.2.2.1 e) ∧ (pKind e = 3 → COk GW I (I k).1.cls (I k).2.1 nx e)
def LOk (I : Nat → pN) (GW : List Cond) (cl : List vw_C) (tys : List (ClassId × FieldType)) (cD : ClassId) (k : Nat) : List pI → Prop
  | [] => True
  | e :: is => AOk I GW cl tys cD k (is.head?.map (·.1)) e ∧ LOk I GW cl tys cD k is
theorem LOk.drop {k pc : Nat} {is : List pI} (h : LOk I GW cl tys cD k is) : LOk I GW cl tys cD k (pJmp is pc) := by
  induction is with
  | nil => exact h
  | cons e is ih =>
    unfold pJmp
    rw [List.dropWhile_cons]
    split
    · exact ih h.2
    · exact h
theorem pJmp_head {is : List pI} {pc : Nat} {e : pI} {r : List pI} (h : pJmp is pc = e :: r) : e.1 = pc := by
  induction is with
  | nil => simp [pJmp] at h
  | cons e' is ih =>
    unfold pJmp at h
    rw [List.dropWhile_cons] at h
    split at h
    · exact ih h
    · rename_i hn
      cases h
      simpa using hn
/-- what is asked of a method: its words, its rows -/
def MOk (P : Nat → pM) (I : Nat → pN) (GW : List Cond) (cl : List vw_C) (tys : List (ClassId × FieldType)) (cD : ClassId) (a : Nat) : Prop :=
  Cond.code (I a).1 (I a).2.1 (I a).2.2.1 (I a).2.2.2.1 ∈ GW ∧ Cond.initialized (I a).1.cls ∈ GW ∧ plainName (I a).1.cls = true ∧ ((I a).1.cls ≠ "java/lang/invoke/MethodHandle" ∧ (I a).1.cls ≠ "java/lang/invoke/VarHandle") ∧
  (I a).2.2.1 ≤ 300 ∧ (P a).2.1 = (I a).2.2.1 ∧ (P a).1 ≤ (P a).2.1 ∧ (P a).2.2.2.head?.map (·.1) = some 0 ∧ LOk I GW cl tys cD a (P a).2.2.2 ∧
  (((I a).2.2.2.2 = 0 ∧ (parseMethodDescriptor (I a).1.desc).map (fun d => d.parameters.length + 1) = some (P a).1 ∧ Cond.instanceMethod (I a).1 ∈ GW ∧ Cond.selects (I a).1.cls (I a).1 (I a).1 ∈ GW ∧ ∃ ci T N, (P a).2.2.1 = ci + 1 ∧ cl[ci]? = some ((I a).1.cls, T, N)) ∨
   ((I a).2.2.2.2 = 1 ∧ (parseMethodDescriptor (I a).1.desc).map (fun d => d.parameters.length) = some (P a).1 ∧ Cond.static (I a).1 ∈ GW) ∨
   ((I a).2.2.2.2 = 2 ∧ (parseMethodDescriptor (I a).1.desc).map (fun d => d.parameters.length + 1) = some (P a).1 ∧ Cond.instanceMethod (I a).1 ∈ GW ∧ (I a).1.name = "<init>"))
def pPre (D : va_G) (cl : List vw_C) (tys : List (ClassId × FieldType)) (cI cD : ClassId) (ad : Nat → Nat) (Xt : (Nat → Prop) → State → Prop) (G : List pSh) (S : pS) (sz : Nat) (U : State) : Prop :=
  U.heap.size = sz ∧ va_P D cl (pWld cI cD ad G S) U.heap ∧ va_K D cl tys U ∧ va_D (fun _ => True) (pWld cI cD ad G S) ∧ Xt (va_A (pWld cI cD ad G S) sz) U
def pBw (D : va_G) (cl : List vw_C) (tys : List (ClassId × FieldType)) (cI cD : ClassId) (ad : Nat → Nat) (G : List pSh) (S : pS) (A : Nat → Prop) (t : State) : Prop :=
  va_P D cl (pWld cI cD ad G S) t.heap ∧ va_K D cl tys t ∧ va_D A (pWld cI cD ad G S)
def pQ (x : Int32) (Bw : State → Prop) (A : Nat → Prop) : Option FieldType → Array Value → State → Outcome → State → Prop
  | none => va_Qv (fun _ : Unit => True) (fun _ => Bw) A
  | some _ => va_Qi (fun r (_ : Unit) => r = x) (fun _ => Bw) A
/-- the frame of a method -/
def FrOk (I : Nat → pN) (GW : List Cond) (D : va_G) (cl : List vw_C) (tys : List (ClassId × FieldType)) (Xt : (Nat → Prop) → State → Prop) (k : Nat) (p : Program) (s : State) (m : MethodId) (args : Array Value) (meth : Method) (c : Code) (A : Nat → Prop) : Prop :=
  p.tables.exec = Jvm.exec ∧ c.code = (I k).2.1 ∧ c.maxLocals = (I k).2.2.1 ∧ (∀ w ∈ GW, w.before args s = true) ∧ s.vm.findClass (I k).1.cls = some m.cls ∧ meth.sig.returnType = (I k).2.2.2.1 ∧ meth.locks = false ∧ ((I k).1.name = "<init>" → meth.name = "<init>") ∧ va_K D cl tys s ∧ Xt A s ∧ (∀ q, s.heap.size ≤ q → A q)
theorem lva_mem {vs : List Value} (hc : ∀ v ∈ vs, v.category = 1) : ∀ {o i : Nat} {v : Value}, vs[i]? = some v → (o + i, v) ∈ lv_args o vs := by
  induction vs with
  | nil => intro o i v h; simp at h
  | cons w vs ih =>
    intro o i v h
    rw [lv_args]
    cases i with
    | zero => simp at h; subst h; exact List.mem_cons_self
    | succ i =>
      have hw : ¬ w.category = 2 := by rw [hc w List.mem_cons_self]; decide
      rw [if_neg hw]
      have := ih (fun v hv => hc v (List.mem_cons_of_mem _ hv)) (o := o + 1) (i := i) (v := v) (by simpa using h)
      exact List.mem_cons_of_mem _ (by rw [show o + (i + 1) = o + 1 + i by omega]; exact this)
theorem lg_len {vs : List Value} (hc : ∀ v ∈ vs, v.category = 1) : (lg_sl vs).length = vs.length := by
  induction vs with
  | nil => rfl
  | cons w vs ih =>
    have hw : ¬ w.category = 2 := by rw [hc w List.mem_cons_self]; decide
    have := ih (fun v hv => hc v (List.mem_cons_of_mem _ hv))
    simp only [lg_sl, List.flatMap_cons, if_neg hw, List.length_append, List.length_cons, List.length_nil] at this ⊢
    omega
theorem pHas.entry {As : List Value} {nL n : Nat} (h : As.length ≤ nL) : pHas ad tk ((lg_sl (As.map (pV ad tk)) ++ List.replicate (nL - (lg_sl (As.map (pV ad tk))).length) Slot.unset).toArray) nL (As ++ List.replicate n .null) := by
  have hc : ∀ v ∈ As.map (pV ad tk), v.category = 1 := by
    intro v hv
    obtain ⟨w, -, rfl⟩ := List.mem_map.mp hv
    exact pV_cat _ _ _
  have hle : (lg_sl (As.map (pV ad tk))).length ≤ nL := by rw [lg_len hc, List.length_map]; exact h
  have hl := lv_entry (As.map (pV ad tk)) (n := nL) hle
  refine ⟨hl.1, hl.2.1, fun i v hi hv => ?_⟩
  have hlt : i < As.length := by
    rcases Nat.lt_or_ge i As.length with q | q
    · exact q
    · rw [List.getElem?_append_right q, List.getElem?_replicate] at hi
      split at hi
      · cases hi; exact absurd rfl hv
      · cases hi
  rw [List.getElem?_append_left hlt] at hi
  have := hl.2.2 (0 + i, pV ad tk v) (lva_mem hc (by rw [List.getElem?_map, hi]; rfl))
  simpa using this
/-- what a method's run says, as its contract -/
theorem met_of {l : Launch} {d a : Nat} {x : Int32} {S S' : pS} {As : List Value} {sz : Nat} (hM : MOk P I GW cl tys cD a) (hAs : As.length = (P a).1)
    (hW : ∀ {p : Program} {e : Env} {s : State} {m : MethodId} {args : Array Value} {below : List Frame} {meth : Method} {c : Code} {A : Nat → Prop} {lsA : Array Slot}, FrOk I GW D cl tys Xt a p s m args meth c A → pHas ad tk lsA (I a).2.2.1 (pLs (P a) As) → va_P D cl (pWld cI cD ad G S) s.heap → va_D A (pWld cI cD ad G S) → W p l e (pRm d 0 0) s m args below meth c s.heap [] 0 0 (MQ below (pQ x (pBw D cl tys cI cD ad G S' A) A (I a).2.2.2.1) args s 0 0 A) (F0 m 0 lsA [])) :
    Met l (I a).1 (pWs GW I a) (pRm d 0 0) (va_Pc (As.map (pV ad tk)) (pPre D cl tys cI cD ad Xt G S sz)) (pQ x (pBw D cl tys cI cD ad G S' (va_A (pWld cI cD ad G S) sz)) (va_A (pWld cI cD ad G S) sz) (I a).2.2.2.1) 0 0 (va_A (pWld cI cD ad G S) sz) := by
  obtain ⟨hcode, hini, hpl, hne, h300, hpl2, hargs, h0, hL, hkind⟩ := hM
  refine Met.ofW (cc := (I a).2.1) (maxL := (I a).2.2.1) (ret := (I a).2.2.2.1) hpl rfl ?_
  intro p e s m args below meth c s₁ B hml hv
  obtain ⟨rfl, rfl, hP, hK, hD, hX⟩ := hv
  have hts : ∀ w ∈ pWs GW I a, w.before (As.map (pV ad tk)).toArray s = true := atoms_spec (ws := pWs GW I a) B.pre
  have hown : s.vm.findClass (I a).1.cls = some m.cls := findClass_of_methodNamed B.named
  have hin : meth.name = (I a).1.name := (name_of_methodNamed B.named B.method).1
  rw [lg_entry_eq]
  exact hW ⟨B.exec, B.bytes, hml, fun w h => hts w (List.mem_cons_of_mem _ h), hown, B.returns, B.notSynchronized, fun h => hin.trans h, hK, hX, fun q h => Or.inr h⟩ (pHas.entry (by omega)) hP hD.self
set_option maxHeartbeats 4000000 in
/-- THE RUN: what exf answers, the machine does -/
theorem exf_W {l : Launch} (hG : ∀ w ∈ GW, goodWord w = true) (ht0 : tys[0]? = some (cI, .int)) {CD : String} (ht1 : tys[1]? = some (cD, .object CD)) (hM : ∀ a, (∃ e : pI, pKind e = 3 ∧ e.2.2.1 = a) → (P a).2.2.2 ≠ [] → MOk P I GW cl tys cD a)
    (hXc : ∀ {A A' : Nat → Prop} {s U : State}, Xt A s → s.WarmedH U.vm → (∀ q, q < s.heap.size → ¬ A q → U.heap[q]? = s.heap[q]?) → (∀ q, A' q → A q) → Xt A' U) (hXb : ∀ {A : Nat → Prop} {U : State} {g : JFrame} {mk : MethodId} {a : Array Value}, Xt A U → Xt A (U.calling g mk a)) :
    ∀ (n d k : Nat) (is : List pI) (ls st : List Value) (S S' : pS) (x : Int32), exf P G n d k is ls st S = some (x, S') → LOk I GW cl tys cD k is → LOk I GW cl tys cD k (P k).2.2.2 →
    ∀ {p : Program} {e : Env} {s : State} {m : MethodId} {args : Array Value} {below : List Frame} {meth : Method} {c : Code} {A : Nat → Prop} {H : Heap} {locs : List Loc} {lsA : Array Slot} {pc : Nat}, FrOk I GW D cl tys Xt k p s m args meth c A → is.head?.map (·.1) = some pc → pHas ad tk lsA (I k).2.2.1 ls → va_P D cl (pWld cI cD ad G S) H → va_D A (pWld cI cD ad G S) → va_S A s.heap H locs →
      W p l e (pRm d 0 0) s m args below meth c H locs 0 0 (MQ below (pQ x (pBw D cl tys cI cD ad G S' A) A (I k).2.2.2.1) args s 0 0 A) (F0 m pc lsA (st.map (pV ad tk))) := by
  intro n
  induction n with
  | zero => intro d k is ls st S S' x h; rw [exf_zero] at h; cases h
  | succ n ih =>
    intro d k is ls st S S' x h hL hLk p e s m args below meth c A H locs lsA pc hF hpc hl hP hD hS
    cases is with
    | nil => rw [exf_nil] at h; cases h
    | cons en is =>
      have hpc : pc = en.1 := by simpa using hpc.symm
      subst hpc
      obtain ⟨hA1, hL⟩ := hL
      obtain ⟨hE0, hE1, hE3⟩ := hA1
      obtain ⟨hx, hb, hml, hts, hown, hr, hlocks, hin, hK, hX, hA⟩ := id hF
      rw [exf_cons] at h
      split at h
      · -- a plain instruction
        rename_i hk
        split at h
        · cases h
        · rename_i j ls' st' S1 hs
          refine pw_step hx hb hml hts hown (fun q => hin (by simpa using q)) hK ht0 ht1 (by show 1 ≤ d + 10; omega) (by show 2000 ≤ 400 * d + 3000; omega) ⟨Nat.zero_le _, Nat.zero_le _⟩ hk (hE0 hk) hs hl hP hD hS ?_
          intro H1 locs1 lsA1 pc1 hto hl1 hP1 hD1 hS1
          cases hn : pNext (P k).2.2.2 is j with
          | nil => rw [hn, exf_nil] at h; cases h
          | cons e2 is2 =>
            refine ih d k _ ls' st' S1 S' x h ?_ hLk hF ?_ hl1 hP1 hD1 hS1
            · cases j with
              | none => exact hL
              | some t => exact LOk.drop hLk
            · rw [hn]
              cases j with
              | none =>
                have hn : is = e2 :: is2 := hn
                have hto : is.head?.map (·.1) = some pc1 := hto
                rw [hn] at hto
                exact hto
              | some t =>
                have hto : pc1 = t := hto
                rw [hto, ← pJmp_head (hn : pJmp _ t = e2 :: is2)]
                rfl
      · -- a number is returned
        rename_i hk
        have hE := hE1 (Or.inl hk)
        split at h
        · rename_i x0
          split at h
          · rename_i hbx
            cases h
            obtain ⟨pc, ins, a, b, cc, w⟩ := en
            cases ins with
            | ireturn =>
              obtain ⟨hd, hret⟩ := hE
              have hnar : ∃ ty, (I k).2.2.2.1 = some ty ∧ narrow ty (.int x) = .int x := by
                rcases hret with ⟨-, h2⟩ | ⟨h1, h2⟩
                · exact ⟨_, h2, rfl⟩
                · refine ⟨_, h2, ?_⟩
                  have hbx : pBool a x = true := hbx
                  rw [h1] at hbx
                  have : x = 0 ∨ x = 1 := by simpa [pBool] using hbx
                  rcases this with rfl | rfl <;> decide
              obtain ⟨ty, hty, hnar⟩ := hnar
              refine W.zret hx hb (hr.trans hty) hnar (fun t ht hW => ?_) hS.2.2 hd hlocks
              rw [hty]
              exact ⟨⟨x, (), rfl, rfl, by rw [ht]; exact hP, va_K.moved hW.alike hK, hD⟩, hS.F ht⟩
            | return_ => cases hk
            | _ => exact hE.elim
          · cases h
        · cases h
      · -- nothing is returned
        rename_i hk
        have hE := hE1 (Or.inr hk)
        split at h
        · cases h
          obtain ⟨pc, ins, a, b, cc, w⟩ := en
          cases ins with
          | return_ =>
            obtain ⟨hd, hret⟩ := hE
            refine W.vret hx hb (hr.trans hret) (fun t ht hW => ?_) hS.2.2 hd hlocks
            rw [hret]
            exact ⟨⟨(), rfl, trivial, by rw [ht]; exact hP, va_K.moved hW.alike hK, hD⟩, hS.F ht⟩
          | ireturn => cases hk
          | _ => exact hE.elim
        · cases h
      · -- a call
        rename_i hk
        have hE := hE3 hk
        split at h
        · rename_i hg
          obtain ⟨hd0, hge, hle, hrc⟩ := hg
          split at h
          · cases h
          · rename_i x1 S1 hcall
            obtain ⟨d, rfl⟩ : ∃ d', d = d' + 1 := ⟨d - 1, by omega⟩
            simp only [Nat.add_sub_cancel] at hcall
            have hnil : (P en.2.2.1).2.2.2 ≠ [] := fun q => by rw [q, exf_nil] at hcall; cases hcall
            have hMa := hM en.2.2.1 ⟨en, hk, rfl⟩ hnil
            obtain ⟨hcode, hiniw, hpl, hne, h300, hpl2, hargs, h0, hLa, hkind⟩ := id hMa
            have hAl : (pArgs (P en.2.2.1).1 st).length = (P en.2.2.1).1 := by simp [pArgs]; omega
            have hmet : Met l (I en.2.2.1).1 (pWs GW I en.2.2.1) (pRm d 0 0) (va_Pc ((pArgs (P en.2.2.1).1 st).map (pV ad tk)) (pPre D cl tys cI cD ad Xt G S H.size)) (pQ x1 (pBw D cl tys cI cD ad G S1 (va_A (pWld cI cD ad G S) H.size)) (va_A (pWld cI cD ad G S) H.size) (I en.2.2.1).2.2.2.1) 0 0 (va_A (pWld cI cD ad G S) H.size) :=
              met_of hMa hAl (fun hF2 hl2 hP2 hD2 => ih d en.2.2.1 _ _ [] S S1 x1 hcall hLa hLa hF2 h0 hl2 hP2 hD2 va_S.rf)
            have hAA : ∀ q, va_A (pWld cI cD ad G S) H.size q → A q := by
              rintro q (⟨k2, e2, h2⟩ | h2)
              · exact hD.2 k2 (q, e2) h2
              · exact hA q (Nat.le_trans hS.1 h2)
            have hblind : FrameBlind (va_Pc ((pArgs (P en.2.2.1).1 st).map (pV ad tk)) (pPre D cl tys cI cD ad Xt G S H.size)) := by
              rintro a U g mk ⟨q0, q1, q2, q3, q4, q5⟩
              exact ⟨q0, q1, q2, va_K.moved (u := U) (U := U.calling g mk a) (Vm.Alike.refl U.vm) q3, q4, hXb q5⟩
            have hpre : ∀ U : State, U.heap = H → s.WarmedH U.vm → pPre D cl tys cI cD ad Xt G S H.size U := by
              intro U hU hW
              refine ⟨by rw [hU], by rw [hU]; exact hP, va_K.moved hW.alike hK, hD.weaken (fun _ _ _ _ => trivial), hXc hX hW ?_ hAA⟩
              rw [hU]
              exact hS.2.1
            have hgood : GoodIn GW (pWs GW I en.2.2.1) := by
              intro w hw
              rcases List.mem_cons.mp hw with rfl | hw
              · exact ⟨hcode, good_of_word (hG _ hcode)⟩
              · exact ⟨hw, good_of_word (hG _ hw)⟩
            have hroom : (pRm d 0 0).frames + 1 ≤ (pRm (d + 1) 0 0).frames ∧ 8 + ((I en.2.2.1).2.2.1 + 11) + (pRm d 0 0).locals ≤ (pRm (d + 1) 0 0).locals := by
              constructor
              · show d + 10 + 1 ≤ d + 1 + 10; omega
              · show 8 + ((I en.2.2.1).2.2.1 + 11) + (400 * d + 3000) ≤ 400 * (d + 1) + 3000; omega
            have hrest : (((st.drop (P en.2.2.1).1).map (pV ad tk)).map fun v => v.category).sum ≤ 8 := by
              rw [pV_sum, List.length_drop]; omega
            have hstk : st.map (pV ad tk) = ((pArgs (P en.2.2.1).1 st).map (pV ad tk)).reverse ++ (st.drop (P en.2.2.1).1).map (pV ad tk) := by
              rw [← List.map_reverse, pArgs, List.reverse_reverse, ← List.map_append, List.take_append_drop]
            -- what comes behind the call
            have hgo : ∀ (t : State) (H1 : Heap) (locs1 : List Loc), t.heap = H1 → pBw D cl tys cI cD ad G S1 (va_A (pWld cI cD ad G S) H.size) t → va_S A s.heap H1 locs1 → ∀ pc1, is.head?.map (·.1) = some pc1 →
                W p l e (pRm (d + 1) 0 0) s m args below meth c H1 locs1 0 0 (MQ below (pQ x (pBw D cl tys cI cD ad G S' A) A (I k).2.2.2.1) args s 0 0 A) (F0 m pc1 lsA ((pPush en.2.2.2.1 x1 (st.drop (P en.2.2.1).1)).map (pV ad tk))) := by
              intro t H1 locs1 ht hB hS1 pc1 hpc1
              obtain ⟨b1, b2, b3⟩ := hB
              rw [ht] at b1
              exact ih (d + 1) k is ls _ S1 S' x h hL hLk hF hpc1 hl b1 (b3.weaken (fun _ q _ h2 => hAA _ h2)) hS1
            have hlim : (0 : Nat) + 0 ≤ (pRm (d + 1) 0 0).cells ∧ (0 : Nat) + 0 ≤ (pRm (d + 1) 0 0).slots := ⟨Nat.le_refl _, Nat.le_refl _⟩
            generalize hAs : pArgs (P en.2.2.1).1 st = As at hAl hmet hblind hrc hstk
            obtain ⟨pc, ins, a, b, cc, w⟩ := en
            -- the three ways back
            have hret : ∀ g, rtOk b (I a).2.2.2.1 → is.head?.map (·.1) = some (pc + 3) → va_Run p l e (pRm (d + 1) 0 0) s m args below meth c H locs 0 0 0 0 (F0 m pc lsA g) ((st.drop (P a).1).map (pV ad tk)) (pQ x1 (pBw D cl tys cI cD ad G S1 (va_A (pWld cI cD ad G S) H.size)) (va_A (pWld cI cD ad G S) H.size) (I a).2.2.2.1 (As.map (pV ad tk)).toArray) (va_A (pWld cI cD ad G S) H.size) →
                W p l e (pRm (d + 1) 0 0) s m args below meth c H locs 0 0 (MQ below (pQ x (pBw D cl tys cI cD ad G S' A) A (I k).2.2.2.1) args s 0 0 A) (F0 m pc lsA g) := by
              intro g hrt hnx hrun
              rcases hrt with ⟨hb1, ty, hty⟩ | ⟨hb0, hty⟩
              · rw [hty] at hrun
                refine va_calli (a := (As.map (pV ad tk)).toArray) hrun hS (fun q _ h2 => hAA q h2) hAA (fun r u t H1 locs1 ht hvm hp1 hB1 hz1 hk1 hS1 => ?_)
                have hp1 : r = x1 := hp1
                subst hp1
                have := hgo t H1 locs1 ht hB1 hS1 _ hnx
                rw [show pPush (pc, ins, a, b, cc, w).2.2.2.1 r (st.drop (P a).1) = .int r :: st.drop (P a).1 from by show pPush b _ _ = _; rw [hb1]; rfl] at this
                exact this
              · rw [hty] at hrun
                refine va_callv (a := (As.map (pV ad tk)).toArray) hrun hS (fun q _ h2 => hAA q h2) hAA (fun u t H1 locs1 ht hvm hp1 hB1 hz1 hk1 hS1 => ?_)
                have := hgo t H1 locs1 ht hB1 hS1 _ hnx
                rw [show pPush (pc, ins, a, b, cc, w).2.2.2.1 x1 (st.drop (P a).1) = st.drop (P a).1 from by show pPush b _ _ = _; rw [hb0]; rfl] at this
                exact this
            have hmh : ∀ n', (parseMethodDescriptor (I a).1.desc).map (fun d => d.parameters.length + 1) = some n' → (parseMethodDescriptor (I a).1.desc).map (fun d => d.parameters.length) = some (n' - 1) := by
              intro n' hn'
              cases hq : parseMethodDescriptor (I a).1.desc with
              | none => rw [hq] at hn'; cases hn'
              | some sg => rw [hq] at hn'; cases hn'; rfl
            cases ins with
            | invokevirtual i =>
              obtain ⟨hd, hnx, hrt, hk0, hlk⟩ := hE
              rcases hkind with ⟨-, hdesc, hinst, hsel, ci, T, N, hci, hcl⟩ | ⟨hk1, -⟩ | ⟨hk2, -⟩
              · have hrc : pRcv G (P a).2.2.1 As = true := hrc
                rw [hci] at hrc
                unfold pRcv at hrc
                rw [if_neg (Nat.succ_ne_zero ci)] at hrc
                split at hrc
                · rename_i o As' hrc0
                  split at hrc
                  · rename_i ci' fl hg
                    have hcc : ci' = ci := by simpa using hrc
                    subst hcc
                    refine hret _ hrt hnx ?_
                    refine va_runV (As := As'.map (pV ad tk)) (b := ad o) (C := (I a).1.cls) (n := (P a).1 - 1) ⟨hx, hb, hml, hown, hts⟩ hmet ⟨callB_of _ hts hgood rfl rfl rfl (hts _ hiniw) (hts _ hlk) ⟨hne.1, hne.2, hmh _ hdesc⟩ hroom, hts _ hinst, hts _ hsel⟩ ⟨hblind, ?_, fun U hU hW => ⟨rfl, hpre U hU hW⟩⟩ rfl ?_ hl.1 ?_ (lv_room hrest) hd hlim
                    · exact va_recv hK hP hcl (pWld_at hg)
                    · simp only [List.length_map]
                      simp only [List.length_cons] at hAl
                      show As'.length = (P a).1 - 1
                      have hAl : As'.length + 1 = (P a).1 := hAl
                      omega
                    · show st.map (pV ad tk) = _
                      rw [hstk]
                      simp [pV]
                  · cases hrc
                · cases hrc
              · exact absurd (hk0.symm.trans hk1) (by decide)
              · exact absurd (hk0.symm.trans hk2) (by decide)
            | invokestatic i =>
              obtain ⟨hd, hnx, hrt, hk0, hlk⟩ := hE
              rcases hkind with ⟨hk1, -⟩ | ⟨-, hdesc, hstat⟩ | ⟨hk2, -⟩
              · exact absurd (hk1.symm.trans hk0) (by decide)
              · refine hret _ hrt hnx ?_
                rcases hlk with hlk | ⟨host, hlk⟩
                · exact va_runS (As := As.map (pV ad tk)) (n := (P a).1) ⟨hx, hb, hml, hown, hts⟩ hmet ⟨callB_of _ hts hgood rfl rfl rfl (hts _ hiniw) (hts _ hlk) ⟨hne.1, hne.2, hdesc⟩ hroom, hts _ hstat⟩ ⟨hblind, fun U hU hW => ⟨rfl, hpre U hU hW⟩⟩ rfl (by rw [List.length_map]; exact hAl) hl.1 hstk (lv_room hrest) hd hlim
                · exact va_runSN (As := As.map (pV ad tk)) (n := (P a).1) ⟨hx, hb, hml, hown, hts⟩ hmet ⟨va_cnB _ hts hgood rfl rfl rfl (va_any rfl (hts _ hlk)) (hts _ hiniw) ⟨hne.1, hne.2, hdesc⟩ hroom, hts _ hstat, trivial⟩ ⟨hblind, fun U hU hW => ⟨rfl, hpre U hU hW⟩⟩ rfl (by rw [List.length_map]; exact hAl) hl.1 hstk (lv_room hrest) hd hlim
              · exact absurd (hk0.symm.trans hk2) (by decide)
            | _ => exact hE.elim
        · cases h
      · cases h
end RUN
end
section
/-! The equations of the small machine's runs. -/
def pSwK {ρ : Type} (pc : Nat) (ls st : List Value) (S : pS) (K : pO → Option ρ) (x : Int32) (d : Int) : List (Int × Int) → Option ρ
  | [] => K (some ((pc : Int) + d).toNat, ls, st, S)
  | (v, o) :: r => if x = Int32.ofInt v then K (some ((pc : Int) + o).toNat, ls, st, S) else pSwK pc ls st S K x d r
theorem pSwK_eq {ρ : Type} (pc : Nat) (ls st : List Value) (S : pS) (K : pO → Option ρ) (x : Int32) (d : Int) (r : List (Int × Int)) : pSwK pc ls st S K x d r = (pSw pc ls st S x d r).bind K := by
  induction r with
  | nil => rfl
  | cons q r ih =>
    obtain ⟨v, o⟩ := q
    rw [pSwK, pSw]
    split
    · rfl
    · exact ih
def pStepK {ρ : Type} (G : List pSh) (ls st : List Value) (S : pS) (K : pO → Option ρ) : pI → Option ρ
  | (_, .nop, a, _, _, _) => K (none, ls.set a .null, st, S)
  | (_, .iconst _, _, _, c, _) => K (none, ls, .int c :: st, S)
  | (_, .bipush _, _, _, c, _) => K (none, ls, .int c :: st, S)
  | (_, .sipush _, _, _, c, _) => K (none, ls, .int c :: st, S)
  | (_, .ldc _, a, b, c, _) => if b = 0 then K (none, ls, .int c :: st, S) else K (none, ls, .float (UInt32.ofNat a) :: st, S)
  | (_, .ldc_w _, _, _, c, _) => K (none, ls, .int c :: st, S)
  | (_, .iload_n _, a, _, _, _) => match ls[a]? with
    | some (.int x) => K (none, ls, .int x :: st, S)
    | _ => none
  | (_, .iload _, a, _, _, _) => match ls[a]? with
    | some (.int x) => K (none, ls, .int x :: st, S)
    | _ => none
  | (_, .aload_n _, a, _, _, _) => match ls[a]? with
    | some (.ref x) => K (none, ls, .ref x :: st, S)
    | _ => none
  | (_, .istore_n _, a, _, _, _) => match st with
    | .int x :: st => K (none, ls.set a (.int x), st, S)
    | _ => none
  | (_, .istore _, a, _, _, _) => match st with
    | .int x :: st => K (none, ls.set a (.int x), st, S)
    | _ => none
  | (_, .astore_n _, a, _, _, _) => match st with
    | .ref x :: st => K (none, ls.set a (.ref x), st, S)
    | _ => none
  | (_, .iinc _ _, a, _, c, _) => match ls[a]? with
    | some (.int x) => K (none, ls.set a (.int (x + c)), st, S)
    | _ => none
  | (_, .iadd, _, _, _, _) => match st with
    | .int y :: .int x :: st => K (none, ls, .int (x + y) :: st, S)
    | _ => none
  | (_, .isub, _, _, _, _) => match st with
    | .int y :: .int x :: st => K (none, ls, .int (x - y) :: st, S)
    | _ => none
  | (_, .imul, _, _, _, _) => match st with
    | .int y :: .int x :: st => K (none, ls, .int (x * y) :: st, S)
    | _ => none
  | (_, .idiv, _, _, _, _) => match st with
    | .int y :: .int x :: st => if y = 0 then none else K (none, ls, .int (x / y) :: st, S)
    | _ => none
  | (_, .irem, _, _, _, _) => match st with
    | .int y :: .int x :: st => if y = 0 then none else K (none, ls, .int (x - x / y * y) :: st, S)
    | _ => none
  | (_, .iand, _, _, _, _) => match st with
    | .int y :: .int x :: st => K (none, ls, .int (x &&& y) :: st, S)
    | _ => none
  | (_, .ior, _, _, _, _) => match st with
    | .int y :: .int x :: st => K (none, ls, .int (x ||| y) :: st, S)
    | _ => none
  | (_, .ixor, _, _, _, _) => match st with
    | .int y :: .int x :: st => K (none, ls, .int (x ^^^ y) :: st, S)
    | _ => none
  | (_, .ishl, _, _, _, _) => match st with
    | .int y :: .int x :: st => K (none, ls, .int (x <<< (y &&& 31)) :: st, S)
    | _ => none
  | (_, .ishr, _, _, _, _) => match st with
    | .int y :: .int x :: st => K (none, ls, .int (x >>> (y &&& 31)) :: st, S)
    | _ => none
  | (_, .iushr, _, _, _, _) => match st with
    | .int y :: .int x :: st => K (none, ls, .int ((x.toUInt32 >>> (y.toUInt32 &&& Int32.toUInt32 31)).toInt32) :: st, S)
    | _ => none
  | (_, .i2c, _, _, _, _) => match st with
    | .int x :: st => K (none, ls, .int ((x.toUInt32 % 65536).toInt32) :: st, S)
    | _ => none
  | (_, .dup, _, _, _, _) => match st with
    | v :: st => K (none, ls, v :: v :: st, S)
    | _ => none
  | (_, .dup2, _, _, _, _) => match st with
    | v :: w :: st => K (none, ls, v :: w :: v :: w :: st, S)
    | _ => none
  | (_, .pop, _, _, _, _) => match st with
    | _ :: st => K (none, ls, st, S)
    | _ => none
  | (_, .goto _, a, _, _, _) => K (some a, ls, st, S)
  | (_, .ifCond .eq _, a, _, _, _) => match st with
    | .int x :: st => if x = 0 then K (some a, ls, st, S) else K (none, ls, st, S)
    | _ => none
  | (_, .ifCond .ne _, a, _, _, _) => match st with
    | .int x :: st => if x = 0 then K (none, ls, st, S) else K (some a, ls, st, S)
    | _ => none
  | (_, .ifCond .lt _, a, _, _, _) => match st with
    | .int x :: st => if x < 0 then K (some a, ls, st, S) else K (none, ls, st, S)
    | _ => none
  | (_, .ifCond .ge _, a, _, _, _) => match st with
    | .int x :: st => if x < 0 then K (none, ls, st, S) else K (some a, ls, st, S)
    | _ => none
  | (_, .ifCond .gt _, a, _, _, _) => match st with
    | .int x :: st => if x ≤ 0 then K (none, ls, st, S) else K (some a, ls, st, S)
    | _ => none
  | (_, .ifCond .le _, a, _, _, _) => match st with
    | .int x :: st => if x ≤ 0 then K (some a, ls, st, S) else K (none, ls, st, S)
    | _ => none
  | (_, .if_icmp .eq _, a, _, _, _) => match st with
    | .int y :: .int x :: st => if x = y then K (some a, ls, st, S) else K (none, ls, st, S)
    | _ => none
  | (_, .if_icmp .ne _, a, _, _, _) => match st with
    | .int y :: .int x :: st => if x = y then K (none, ls, st, S) else K (some a, ls, st, S)
    | _ => none
  | (_, .if_icmp .lt _, a, _, _, _) => match st with
    | .int y :: .int x :: st => if x < y then K (some a, ls, st, S) else K (none, ls, st, S)
    | _ => none
  | (_, .if_icmp .ge _, a, _, _, _) => match st with
    | .int y :: .int x :: st => if x < y then K (none, ls, st, S) else K (some a, ls, st, S)
    | _ => none
  | (_, .if_icmp .gt _, a, _, _, _) => match st with
    | .int y :: .int x :: st => if x ≤ y then K (none, ls, st, S) else K (some a, ls, st, S)
    | _ => none
  | (_, .if_icmp .le _, a, _, _, _) => match st with
    | .int y :: .int x :: st => if x ≤ y then K (some a, ls, st, S) else K (none, ls, st, S)
    | _ => none
  | (pc, .tableswitch d lo _ offs, _, _, _, _) => match st with
    | .int x :: st => pSwK pc ls st S K x d (pPairs lo offs.toList)
    | _ => none
  | (pc, .lookupswitch d ps, _, _, _, _) => match st with
    | .int x :: st => pSwK pc ls st S K x d ps.toList
    | _ => none
  | (_, .getfield _, a, b, _, _) => match st with
    | .ref o :: st => match G[o]? with
      | some (.inl (ci, fl)) => if ci = b then (match fl[a]? with
        | some none => K (none, ls, .int (S.1 o a) :: st, S)
        | some (some (some j)) => K (none, ls, .ref j :: st, S)
        | _ => none) else none
      | _ => none
    | _ => none
  | (_, .putfield _, a, b, c, _) => match st with
    | .int v :: .ref o :: st => match G[o]? with
      | some (.inl (ci, fl)) => if ci = b then (match fl[a]? with
        | some none => if c = 0 ∨ v = 0 ∨ v = 1 then K (none, ls, st, (sA S.1 o a v, S.2.1, S.2.2)) else none
        | _ => none) else none
      | _ => none
    | _ => none
  | (_, .iaload, _, _, _, _) => match st with
    | .int i :: .ref o :: st => match G[o]? with
      | some (.inr (.inl n)) => if inb i n then K (none, ls, .int (S.2.1 o i.toNatClampNeg) :: st, S) else none
      | _ => none
    | _ => none
  | (_, .iastore, _, _, _, _) => match st with
    | .int v :: .int i :: .ref o :: st => match G[o]? with
      | some (.inr (.inl n)) => if inb i n then K (none, ls, st, (S.1, sA S.2.1 o i.toNatClampNeg v, S.2.2)) else none
      | _ => none
    | _ => none
  | (_, .arraylength, _, _, _, _) => match st with
    | .ref o :: st => match G[o]? with
      | some (.inr (.inl n)) => K (none, ls, .int (nI n) :: st, S)
      | some (.inr (.inr n)) => K (none, ls, .int (nI n) :: st, S)
      | _ => none
    | _ => none
  | (_, .aaload, _, _, _, _) => match st with
    | .int i :: .ref o :: st => match G[o]? with
      | some (.inr (.inr n)) => if inb i n then ((S.2.2 o i.toNatClampNeg).bind (fun j => K (none, ls, .ref j :: st, S))) else none
      | _ => none
    | _ => none
  | (_, .aastore, _, b, _, _) => match st with
    | .ref j :: .int i :: .ref o :: st => match G[o]? with
      | some (.inr (.inr n)) => if pObj G j b then (if inb i n then K (none, ls, st, (S.1, S.2.1, sR S.2.2 o i.toNatClampNeg (some j))) else none) else none
      | _ => none
    | _ => none
  | (_, .invokespecial _, a, _, _, _) => if a = 9000 then (match st with
    | .ref _ :: st => if st.length ≤ 8 then K (none, ls, st, S) else none
    | _ => none) else none
  | (_, .invokestatic _, a, _, _, _) => if a = 9001 then (match st with
    | .int n :: .int dp :: .ref o1 :: .int sp :: .ref o0 :: st => match G[o0]?, G[o1]? with
      | some (.inr (.inl n0)), some (.inr (.inl n1)) =>
        if 0 ≤ sp ∧ 0 ≤ dp ∧ 0 ≤ n ∧ sp.toNatClampNeg + n.toNatClampNeg ≤ n0 ∧ dp.toNatClampNeg + n.toNatClampNeg ≤ n1 ∧ st.length ≤ 8 then
          K (none, ls, st, (S.1, sW S.2.1 o1 (va_cpy (S.2.1 o0) (S.2.1 o1) sp.toNatClampNeg dp.toNatClampNeg n.toNatClampNeg), S.2.2)) else none
      | _, _ => none
    | _ => none) else if a = 9004 then (match st with
    | .int y :: .int x :: st => if st.length ≤ 8 then K (none, ls, .int (if x < y then y else x) :: st, S) else none
    | _ => none) else if a = 9005 then (match st with
    | .int y :: .int x :: st => if st.length ≤ 8 then K (none, ls, .int (if y < x then y else x) :: st, S) else none
    | _ => none) else none
  | (_, .invokevirtual _, a, _, _, _) => match st with
    | .int i :: .float w :: st => if a = 9002 then (if inb i (pTx w.toNat).length ∧ st.length ≤ 8 then K (none, ls, .int ((pTx w.toNat).getD i.toNatClampNeg 0) :: st, S) else none)
      else if a = 9003 then (if st.length ≤ 8 then K (none, ls, .int (pIx i (pTx w.toNat) 0) :: st, S) else none) else none
    | _ => none
  | _ => none
set_option maxHeartbeats 4000000 in
theorem pStepK_eq {ρ : Type} (G : List pSh) (ls st : List Value) (S : pS) (K : pO → Option ρ) (e : pI) : pStepK G ls st S K e = (pStep G ls st S e).bind K := by
  obtain ⟨pc, ins, a, b, c, w⟩ := e
  cases ins with
  | ifCond co off => cases co <;> (rcases st with _ | ⟨v, st⟩ <;> first | rfl | (cases v <;> first | rfl | (simp only [pStepK, pStep]; split <;> rfl)))
  | if_icmp co off => cases co <;> (rcases st with _ | ⟨v, _ | ⟨v2, st⟩⟩ <;> first | rfl | (cases v <;> first | rfl | (cases v2 <;> first | rfl | (simp only [pStepK, pStep]; split <;> rfl))))
  | tableswitch d lo hi offs => rcases st with _ | ⟨v, st⟩ <;> first | rfl | (cases v <;> first | rfl | exact pSwK_eq ..)
  | lookupswitch d ps => rcases st with _ | ⟨v, st⟩ <;> first | rfl | (cases v <;> first | rfl | exact pSwK_eq ..)
  | idiv => rcases st with _ | ⟨v, _ | ⟨v2, st⟩⟩ <;> first | rfl | (cases v <;> first | rfl | (cases v2 <;> first | rfl | (simp only [pStepK, pStep]; split <;> rfl)))
  | irem => rcases st with _ | ⟨v, _ | ⟨v2, st⟩⟩ <;> first | rfl | (cases v <;> first | rfl | (cases v2 <;> first | rfl | (simp only [pStepK, pStep]; split <;> rfl)))
  | ldc i => simp only [pStepK, pStep]; split <;> rfl
  | iload_n i => simp only [pStepK, pStep]; rcases ls[a]? with _ | v <;> first | rfl | (cases v <;> rfl)
  | iload i => simp only [pStepK, pStep]; rcases ls[a]? with _ | v <;> first | rfl | (cases v <;> rfl)
  | aload_n i => simp only [pStepK, pStep]; rcases ls[a]? with _ | v <;> first | rfl | (cases v <;> rfl)
  | iinc i n => simp only [pStepK, pStep]; rcases ls[a]? with _ | v <;> first | rfl | (cases v <;> rfl)
  | getfield i =>
    rcases st with _ | ⟨v, st⟩ <;> first | rfl | skip
    cases v <;> first | rfl | skip
    simp only [pStepK, pStep]
    rcases G[_]? with _ | ⟨ci, fl⟩ | n <;> first | rfl | skip
    dsimp only
    by_cases h : ci = b
    · simp only [h, if_true]
      rcases fl[a]? with _ | _ | _ | j <;> rfl
    · simp only [h, if_false]
      rfl
  | putfield i =>
    rcases st with _ | ⟨v, _ | ⟨v2, st⟩⟩ <;> first | rfl | (cases v <;> rfl) | skip
    cases v <;> first | rfl | skip
    cases v2 <;> first | rfl | skip
    simp only [pStepK, pStep]
    rcases G[_]? with _ | ⟨ci, fl⟩ | n <;> first | rfl | skip
    dsimp only
    by_cases h : ci = b
    · simp only [h, if_true]
      rcases fl[a]? with _ | _ | _ <;> first | rfl | skip
      dsimp only
      split <;> rfl
    · simp only [h, if_false]
      rfl
  | iaload =>
    rcases st with _ | ⟨v, _ | ⟨v2, st⟩⟩ <;> first | rfl | (cases v <;> rfl) | skip
    cases v <;> first | rfl | skip
    cases v2 <;> first | rfl | skip
    simp only [pStepK, pStep]
    rcases G[_]? with _ | ⟨ci, fl⟩ | n | n <;> first | rfl | skip
    dsimp only
    split <;> rfl
  | iastore =>
    rcases st with _ | ⟨v, _ | ⟨v2, _ | ⟨v3, st⟩⟩⟩ <;> first | rfl | (cases v <;> rfl) | (cases v <;> first | rfl | (cases v2 <;> rfl)) | skip
    cases v <;> first | rfl | skip
    cases v2 <;> first | rfl | skip
    cases v3 <;> first | rfl | skip
    simp only [pStepK, pStep]
    rcases G[_]? with _ | ⟨ci, fl⟩ | n | n <;> first | rfl | skip
    dsimp only
    split <;> rfl
  | arraylength =>
    rcases st with _ | ⟨v, st⟩ <;> first | rfl | skip
    cases v <;> first | rfl | skip
    simp only [pStepK, pStep]
    rcases G[_]? with _ | ⟨ci, fl⟩ | n | n <;> rfl
  | aaload =>
    rcases st with _ | ⟨v, _ | ⟨v2, st⟩⟩ <;> first | rfl | (cases v <;> rfl) | skip
    cases v <;> first | rfl | skip
    cases v2 <;> first | rfl | skip
    simp only [pStepK, pStep]
    rcases G[_]? with _ | ⟨ci, fl⟩ | n | n <;> first | rfl | skip
    dsimp only
    split
    · rcases S.2.2 _ _ with _ | j <;> rfl
    · rfl
  | aastore =>
    rcases st with _ | ⟨v, _ | ⟨v2, _ | ⟨v3, st⟩⟩⟩ <;> first | rfl | (cases v <;> rfl) | (cases v <;> first | rfl | (cases v2 <;> rfl)) | skip
    cases v <;> first | rfl | skip
    cases v2 <;> first | rfl | skip
    cases v3 <;> first | rfl | skip
    rename_i j i o
    simp only [pStepK, pStep]
    rcases G[o]? with _ | ⟨ci, fl⟩ | n | n <;> first | rfl | skip
    dsimp only
    by_cases h : pObj G j b = true
    · simp only [h, if_true]
      split <;> rfl
    · simp only [h]
      rfl
  | invokespecial i =>
    simp only [pStepK, pStep]
    by_cases h : a = 9000
    · simp only [h, if_true]
      rcases st with _ | ⟨v, st⟩ <;> first | rfl | skip
      cases v <;> first | rfl | skip
      dsimp only
      split <;> rfl
    · simp only [h, if_false]
      rfl
  | invokestatic i =>
    simp only [pStepK, pStep]
    by_cases h : a = 9001
    · simp only [h, if_true]
      rcases st with _ | ⟨v, _ | ⟨v2, _ | ⟨v3, _ | ⟨v4, _ | ⟨v5, st⟩⟩⟩⟩⟩ <;> first | rfl | (cases v <;> first | rfl | (cases v2 <;> first | rfl | (cases v3 <;> first | rfl | (cases v4 <;> rfl)))) | skip
      cases v <;> first | rfl | skip
      cases v2 <;> first | rfl | skip
      cases v3 <;> first | rfl | skip
      cases v4 <;> first | rfl | skip
      cases v5 <;> first | rfl | skip
      dsimp only
      rename_i o1 sp o0
      rcases G[o0]? with _ | ⟨ci, fl⟩ | n | n <;> first | rfl | skip
      rcases G[o1]? with _ | ⟨ci, fl⟩ | n | n <;> first | rfl | skip
      dsimp only
      split <;> rfl
    · simp only [h, if_false]
      by_cases h : a = 9004
      · simp only [h, if_true]
        rcases st with _ | ⟨v, _ | ⟨v2, st⟩⟩ <;> first | rfl | (cases v <;> rfl) | skip
        cases v <;> first | rfl | skip
        cases v2 <;> first | rfl | skip
        dsimp only
        split <;> rfl
      · simp only [h, if_false]
        by_cases h : a = 9005
        · simp only [h, if_true]
          rcases st with _ | ⟨v, _ | ⟨v2, st⟩⟩ <;> first | rfl | (cases v <;> rfl) | skip
          cases v <;> first | rfl | skip
          cases v2 <;> first | rfl | skip
          dsimp only
          split <;> rfl
        · simp only [h, if_false]
          rfl
  | invokevirtual i =>
    rcases st with _ | ⟨v, _ | ⟨v2, st⟩⟩ <;> first | rfl | (cases v <;> rfl) | skip
    cases v <;> first | rfl | skip
    cases v2 <;> first | rfl | skip
    simp only [pStepK, pStep]
    by_cases h : a = 9002
    · simp only [h, if_true]
      split <;> rfl
    · simp only [h, if_false]
      by_cases h : a = 9003
      · simp only [h, if_true]
        split <;> rfl
      · simp only [h, if_false]
        rfl
  | istore_n i => rcases st with _ | ⟨v, st⟩ <;> first | rfl | (cases v <;> rfl)
  | istore i => rcases st with _ | ⟨v, st⟩ <;> first | rfl | (cases v <;> rfl)
  | astore_n i => rcases st with _ | ⟨v, st⟩ <;> first | rfl | (cases v <;> rfl)
  | dup => rcases st with _ | ⟨v, st⟩ <;> rfl
  | pop => rcases st with _ | ⟨v, st⟩ <;> rfl
  | dup2 => rcases st with _ | ⟨v, _ | ⟨v2, st⟩⟩ <;> rfl
  | i2c => rcases st with _ | ⟨v, st⟩ <;> first | rfl | (cases v <;> rfl)
  | iadd => rcases st with _ | ⟨v, _ | ⟨v2, st⟩⟩ <;> first | rfl | (cases v <;> first | rfl | (cases v2 <;> rfl))
  | isub => rcases st with _ | ⟨v, _ | ⟨v2, st⟩⟩ <;> first | rfl | (cases v <;> first | rfl | (cases v2 <;> rfl))
  | imul => rcases st with _ | ⟨v, _ | ⟨v2, st⟩⟩ <;> first | rfl | (cases v <;> first | rfl | (cases v2 <;> rfl))
  | iand => rcases st with _ | ⟨v, _ | ⟨v2, st⟩⟩ <;> first | rfl | (cases v <;> first | rfl | (cases v2 <;> rfl))
  | ior => rcases st with _ | ⟨v, _ | ⟨v2, st⟩⟩ <;> first | rfl | (cases v <;> first | rfl | (cases v2 <;> rfl))
  | ixor => rcases st with _ | ⟨v, _ | ⟨v2, st⟩⟩ <;> first | rfl | (cases v <;> first | rfl | (cases v2 <;> rfl))
  | ishl => rcases st with _ | ⟨v, _ | ⟨v2, st⟩⟩ <;> first | rfl | (cases v <;> first | rfl | (cases v2 <;> rfl))
  | ishr => rcases st with _ | ⟨v, _ | ⟨v2, st⟩⟩ <;> first | rfl | (cases v <;> first | rfl | (cases v2 <;> rfl))
  | iushr => rcases st with _ | ⟨v, _ | ⟨v2, st⟩⟩ <;> first | rfl | (cases v <;> first | rfl | (cases v2 <;> rfl))
  | _ => rfl
/-- a state of a run -/
abbrev pSt : Type := List pI × List Value × List Value × pS
section RES
variable (P : Nat → pM) (G : List pSh)
theorem exf_up : ∀ (n d k : Nat) (is : List pI) (ls st : List Value) (S : pS) (r : Int32 × pS), exf P G n d k is ls st S = some r → exf P G (n + 1) d k is ls st S = some r := by
  intro n
  induction n with
  | zero => intro d k is ls st S r h; rw [exf_zero] at h; cases h
  | succ n ih =>
    intro d k is ls st S r h
    cases is with
    | nil => rw [exf_nil] at h; cases h
    | cons e is =>
      rw [exf_cons] at h ⊢
      split at h
      · split at h
        · cases h
        · exact ih _ _ _ _ _ _ _ h
      · exact h
      · exact h
      · split at h
        · rename_i hg
          rw [if_pos hg]
          split at h
          · cases h
          · rename_i x S1 hc
            rw [ih _ _ _ _ _ _ _ hc]
            exact ih _ _ _ _ _ _ _ h
        · cases h
      · cases h
theorem exf_le {n m d k : Nat} {is : List pI} {ls st : List Value} {S : pS} {r : Int32 × pS} (hnm : n ≤ m) (h : exf P G n d k is ls st S = some r) : exf P G m d k is ls st S = some r := by
  induction hnm with
  | refl => exact h
  | step _ ih => exact exf_up P G _ _ _ _ _ _ _ _ ih
/-- what a run answers at its end, if it has one -/
noncomputable def Res (d k : Nat) (σ : pSt) : Option (Int32 × pS) := @dite _ (∃ r, ∃ n, exf P G n d k σ.1 σ.2.1 σ.2.2.1 σ.2.2.2 = some r) (Classical.propDecidable _) (fun h => some h.choose) (fun _ => none)
theorem Res_iff {d k : Nat} {σ : pSt} {r : Int32 × pS} : Res P G d k σ = some r ↔ ∃ n, exf P G n d k σ.1 σ.2.1 σ.2.2.1 σ.2.2.2 = some r := by
  unfold Res
  by_cases h : ∃ r, ∃ n, exf P G n d k σ.1 σ.2.1 σ.2.2.1 σ.2.2.2 = some r
  · rw [dif_pos h]
    obtain ⟨n, hn⟩ := h.choose_spec
    constructor
    · intro e
      rw [Option.some.inj e] at hn
      exact ⟨n, hn⟩
    · rintro ⟨m, hm⟩
      have h1 := exf_le P G (Nat.le_max_left n m) hn
      have h2 := exf_le P G (Nat.le_max_right n m) hm
      rw [h1] at h2
      exact h2
  · rw [dif_neg h]
    constructor
    · intro e; cases e
    · rintro ⟨m, hm⟩; exact absurd ⟨r, m, hm⟩ h
theorem Res_ext {d k d' k' : Nat} {σ σ' : pSt} (h : ∀ r, (∃ n, exf P G n d k σ.1 σ.2.1 σ.2.2.1 σ.2.2.2 = some r) ↔ ∃ n, exf P G n d' k' σ'.1 σ'.2.1 σ'.2.2.1 σ'.2.2.2 = some r) : Res P G d k σ = Res P G d' k' σ' := by
  apply Option.ext
  intro r
  rw [Res_iff, Res_iff]
  exact h r
theorem Res_none {d k : Nat} {σ : pSt} (h : ∀ n r, exf P G n d k σ.1 σ.2.1 σ.2.2.1 σ.2.2.2 ≠ some r) : Res P G d k σ = none := by
  cases hr : Res P G d k σ with
  | none => rfl
  | some r =>
    obtain ⟨n, hn⟩ := (Res_iff P G).mp hr
    exact absurd hn (h n r)
theorem R_step {d k : Nat} {e : pI} {is : List pI} {ls st : List Value} {S : pS} (hk : pKind e = 0) : Res P G d k (e :: is, ls, st, S) = pStepK G ls st S (fun o => Res P G d k (pNext (P k).2.2.2 is o.1, o.2.1, o.2.2.1, o.2.2.2)) e := by
  rw [pStepK_eq]
  cases hs : pStep G ls st S e with
  | none =>
    refine Res_none P G (fun n r h => ?_)
    cases n with
    | zero => rw [exf_zero] at h; cases h
    | succ n => rw [exf_cons, hk] at h; dsimp only at h; rw [hs] at h; cases h
  | some o =>
    obtain ⟨j, ls', st', S'⟩ := o
    show _ = Res P G d k _
    refine Res_ext P G (fun r => ⟨?_, ?_⟩)
    · rintro ⟨n, h⟩
      cases n with
      | zero => rw [exf_zero] at h; cases h
      | succ n => rw [exf_cons, hk] at h; dsimp only at h; rw [hs] at h; exact ⟨n, h⟩
    · rintro ⟨n, h⟩
      refine ⟨n + 1, ?_⟩
      rw [exf_cons, hk]
      dsimp only
      rw [hs]
      exact h
def pIn (n : Nat) : List Nat → Bool
  | [] => false
  | a :: r => Nat.beq a n || pIn n r
/-- does one stop here (what is only forgotten is forgotten first) -/
def pStop (stops : List Nat) : pI → Bool
  | (_, .nop, _) => false
  | (pc, _) => pIn pc stops
/-- the code from a pc on, behind what is forgotten there -/
def pCut (code : List pI) (pc : Nat) : List pI := code.dropWhile (fun e => !pStop [pc] e)
/-- plain instructions one behind another, till one is reached that isn't plain or at which one stops -/
def pBlk {ρ : Type} (code : List pI) (stops : List Nat) (K : pSt → Option ρ) : Nat → pSt → Option ρ
  | 0, σ => K σ
  | n + 1, (is, ls, st, S) => match is with
    | [] => K (is, ls, st, S)
    | e :: r => match pKind e with
      | 0 => match pStop stops e with
        | true => K (is, ls, st, S)
        | false => pStepK G ls st S (fun o => pBlk code stops K n (pNext code r o.1, o.2.1, o.2.2.1, o.2.2.2)) e
      | _ => K (is, ls, st, S)
theorem R_blk {code : List pI} {d k : Nat} (hc : (P k).2.2.2 = code) (stops : List Nat) : ∀ (n : Nat) (σ : pSt), Res P G d k σ = pBlk G code stops (Res P G d k) n σ
  | 0, σ => rfl
  | n + 1, (is, ls, st, S) => by
    unfold pBlk
    split
    · rfl
    · rename_i e r
      split
      · rename_i hk
        split
        · rfl
        · rw [R_step P G hk, hc]
          congr 1
          funext o
          exact R_blk hc stops n _
      · rfl
/-- a first step, where the run stands at a place at which one stops -/
def pReg {ρ : Type} (code : List pI) (stops : List Nat) (K : pSt → Option ρ) (n : Nat) (is : List pI) (ls st : List Value) (S : pS) : Option ρ := match is with
    | [] => K (is, ls, st, S)
    | e :: r => match pKind e with
      | 0 => pStepK G ls st S (fun o => pBlk G code stops K n (pNext code r o.1, o.2.1, o.2.2.1, o.2.2.2)) e
      | _ => K (is, ls, st, S)
theorem R_reg {code : List pI} {d k : Nat} (hc : (P k).2.2.2 = code) (stops : List Nat) (n : Nat) {is : List pI} {ls st : List Value} {S : pS} : Res P G d k (is, ls, st, S) = pReg G code stops (Res P G d k) n is ls st S := by
  unfold pReg
  split
  · rfl
  · rename_i e r
    split
    · rename_i hk
      rw [R_step P G hk, hc]
      congr 1
      funext o
      exact R_blk P G hc stops n _
    · rfl
theorem R_ret {d k : Nat} {e : pI} {is : List pI} {ls : List Value} {x : Int32} {S : pS} (hk : pKind e = 1) : Res P G d k (e :: is, ls, [.int x], S) = if pBool e.2.2.1 x = true then some (x, S) else none := by
  by_cases hb : pBool e.2.2.1 x = true
  · rw [if_pos hb]
    exact (Res_iff P G).mpr ⟨1, by rw [exf_cons, hk]; exact if_pos hb⟩
  · rw [if_neg hb]
    refine Res_none P G (fun n r h => ?_)
    cases n with
    | zero => rw [exf_zero] at h; cases h
    | succ n => rw [exf_cons, hk] at h; change (if _ then _ else _) = _ at h; rw [if_neg hb] at h; cases h
theorem R_retI {d k : Nat} {e : pI} {is : List pI} {ls : List Value} {x : Int32} {S : pS} (hk : pKind e = 1) (ha : pBool e.2.2.1 x = true) : Res P G d k (e :: is, ls, [.int x], S) = some (x, S) := by
  rw [R_ret P G hk, if_pos ha]
theorem R_retV {d k : Nat} {e : pI} {is : List pI} {ls : List Value} {S : pS} (hk : pKind e = 2) : Res P G d k (e :: is, ls, [], S) = some (0, S) :=
  (Res_iff P G).mpr ⟨1, by rw [exf_cons, hk]; rfl⟩
/-- how deep the calls of a method go: a table in which each callee's number is less than its caller's -/
def Ranked (rk : Nat → Nat) : Prop := ∀ (k : Nat), rk k < 1000 → ∀ (e : pI), e ∈ (P k).2.2.2 → pKind e = 3 → rk e.2.2.1 < rk k
theorem pJmp_sub {is : List pI} {pc : Nat} : ∀ e ∈ pJmp is pc, e ∈ is := fun e h => (List.dropWhile_sublist _).subset h
theorem exf_deep {rk : Nat → Nat} (hr : Ranked P rk) : ∀ (n d d' k : Nat) (is : List pI) (ls st : List Value) (S : pS), rk k < 1000 → rk k ≤ d → rk k ≤ d' → (∀ e ∈ is, e ∈ (P k).2.2.2) → exf P G n d k is ls st S = exf P G n d' k is ls st S := by
  intro n
  induction n with
  | zero => intros; rw [exf_zero, exf_zero]
  | succ n ih =>
    intro d d' k is ls st S hkk h h' hs
    cases is with
    | nil => rw [exf_nil, exf_nil]
    | cons e is =>
      rw [exf_cons, exf_cons]
      split
      · split
        · rfl
        · rename_i j ls' st' S' hst
          refine ih d d' k _ ls' st' S' hkk h h' ?_
          cases j with
          | none => exact fun e' he' => hs e' (List.mem_cons_of_mem _ he')
          | some t => exact pJmp_sub
      · rfl
      · rfl
      · rename_i hk
        have hlt := hr k hkk e (hs e List.mem_cons_self) hk
        have e1 : ∀ S, exf P G n (d - 1) e.2.2.1 (P e.2.2.1).2.2.2 (pLs (P e.2.2.1) (pArgs (P e.2.2.1).1 st)) [] S = exf P G n (d' - 1) e.2.2.1 (P e.2.2.1).2.2.2 (pLs (P e.2.2.1) (pArgs (P e.2.2.1).1 st)) [] S := fun S => ih _ _ _ _ _ _ S (by omega) (by omega) (by omega) (fun _ h => h)
        have hd : (0 < d) = (0 < d') := by apply propext; omega
        simp only [hd, e1]
        split
        · split
          · rfl
          · exact ih d d' k _ _ _ _ hkk h h' (fun e' he' => hs e' (List.mem_cons_of_mem _ he'))
        · rfl
      · rfl
theorem Res_deep {rk : Nat → Nat} (hr : Ranked P rk) {d d' k : Nat} {ls st : List Value} {S : pS} (hkk : rk k < 1000) (h : rk k ≤ d) (h' : rk k ≤ d') : Res P G d k ((P k).2.2.2, ls, st, S) = Res P G d' k ((P k).2.2.2, ls, st, S) := by
  refine Res_ext P G (fun r => ?_)
  simp only [exf_deep P G hr _ d d' k _ ls st S hkk h h' (fun _ h => h)]
/-- a call from outside: as deep as its number says -/
noncomputable def CallF (rk : Nat → Nat) (a : Nat) (As : List Value) (S : pS) : Option (Int32 × pS) := Res P G (rk a) a ((P a).2.2.2, pLs (P a) As, [], S)
theorem R_call0 {d k : Nat} {e : pI} {is : List pI} {ls st : List Value} {S : pS} (hk : pKind e = 3) (hg : 0 < d ∧ (P e.2.2.1).1 ≤ st.length ∧ st.length ≤ (P e.2.2.1).1 + 8 ∧ pRcv G (P e.2.2.1).2.2.1 (pArgs (P e.2.2.1).1 st) = true) :
    Res P G d k (e :: is, ls, st, S) = (Res P G (d - 1) e.2.2.1 ((P e.2.2.1).2.2.2, pLs (P e.2.2.1) (pArgs (P e.2.2.1).1 st), [], S)).bind (fun q => Res P G d k (is, ls, pPush e.2.2.2.1 q.1 (st.drop (P e.2.2.1).1), q.2)) := by
  apply Option.ext
  intro r
  rw [Res_iff, Option.bind_eq_some_iff]
  constructor
  · rintro ⟨n, h⟩
    cases n with
    | zero => rw [exf_zero] at h; cases h
    | succ n =>
      rw [exf_cons, hk] at h
      change (if _ then _ else _) = _ at h
      rw [if_pos hg] at h
      split at h
      · cases h
      · rename_i x S1 hc
        exact ⟨(x, S1), (Res_iff P G).mpr ⟨n, hc⟩, (Res_iff P G).mpr ⟨n, h⟩⟩
  · rintro ⟨⟨x, S1⟩, h1, h2⟩
    obtain ⟨n, h1⟩ := (Res_iff P G).mp h1
    obtain ⟨m, h2⟩ := (Res_iff P G).mp h2
    refine ⟨max n m + 1, ?_⟩
    rw [exf_cons, hk]
    change (if _ then _ else _) = _
    rw [if_pos hg, exf_le P G (Nat.le_max_left n m) h1]
    exact exf_le P G (Nat.le_max_right n m) h2
/-- a call, with the callee's row of the table, its arguments and what stays below -/
theorem R_cx {rk : Nat → Nat} (hr : Ranked P rk) {d k pc a b w : Nat} {ins : Instr} {c : Int32} {is : List pI} {ls st : List Value} {S : pS} {m : pM} (hm : P a = m) {As rest : List Value} (hk : pKind (pc, ins, a, b, c, w) = 3) (hd : (decide (rk a < d) && decide (rk a < 1000)) = true) (hAs : pArgs m.1 st = As) (hre : st.drop m.1 = rest) (hg : (decide (m.1 ≤ st.length) && (decide (st.length ≤ m.1 + 8) && pRcv G m.2.2.1 As)) = true) :
    Res P G d k ((pc, ins, a, b, c, w) :: is, ls, st, S) = (CallF P G rk a As S).bind (fun q => Res P G d k (is, ls, pPush b q.1 rest, q.2)) := by
  subst hm hAs hre
  simp only [Bool.and_eq_true, decide_eq_true_eq] at hg hd
  rw [R_call0 P G hk ⟨by omega, hg.1, hg.2.1, hg.2.2⟩]
  congr 1
  exact Res_deep P G hr hd.2 (by show rk a ≤ d - 1; omega) (Nat.le_refl _)
/-- the same, where it isn't known whether the object is of the right kind -/
theorem R_cxg {rk : Nat → Nat} (hr : Ranked P rk) {d k pc a b w : Nat} {ins : Instr} {c : Int32} {is : List pI} {ls st : List Value} {S : pS} {m : pM} (hm : P a = m) {As rest : List Value} (hk : pKind (pc, ins, a, b, c, w) = 3) (hd : (decide (rk a < d) && decide (rk a < 1000)) = true) (hAs : pArgs m.1 st = As) (hre : st.drop m.1 = rest) (hg : (decide (m.1 ≤ st.length) && decide (st.length ≤ m.1 + 8)) = true) :
    Res P G d k ((pc, ins, a, b, c, w) :: is, ls, st, S) = if pRcv G m.2.2.1 As = true then (CallF P G rk a As S).bind (fun q => Res P G d k (is, ls, pPush b q.1 rest, q.2)) else none := by
  by_cases hp : pRcv G m.2.2.1 As = true
  · rw [if_pos hp]
    simp only [Bool.and_eq_true] at hg
    exact R_cx P G hr hm hk hd hAs hre (by simp only [Bool.and_eq_true]; exact ⟨hg.1, hg.2, hp⟩)
  · rw [if_neg hp]
    subst hm hAs hre
    refine Res_none P G (fun n r h => ?_)
    cases n with
    | zero => rw [exf_zero] at h; cases h
    | succ n =>
      rw [exf_cons, hk] at h
      change (if _ then _ else _) = _ at h
      rw [if_neg (fun q => hp q.2.2.2)] at h
      cases h
/-- the same where methods call one another in a ring: as deep as it is said -/
theorem R_cd {d k pc a b w : Nat} {ins : Instr} {c : Int32} {is : List pI} {ls st : List Value} {S : pS} {m : pM} (hm : P a = m) {As rest : List Value} (hk : pKind (pc, ins, a, b, c, w) = 3) (hAs : pArgs m.1 st = As) (hre : st.drop m.1 = rest) (hg : (decide (m.1 ≤ st.length) && (decide (st.length ≤ m.1 + 8) && pRcv G m.2.2.1 As)) = true) :
    Res P G (d + 1) k ((pc, ins, a, b, c, w) :: is, ls, st, S) = (Res P G d a (m.2.2.2, pLs m As, [], S)).bind (fun q => Res P G (d + 1) k (is, ls, pPush b q.1 rest, q.2)) := by
  subst hm hAs hre
  simp only [Bool.and_eq_true, decide_eq_true_eq] at hg
  rw [R_call0 P G hk ⟨by omega, hg.1, hg.2.1, hg.2.2⟩]
  rfl
end RES
theorem dk_ok {x d : Nat} (h : x ≤ d) (h2 : decide (x < 1000) = true) : (decide (x < d + 1) && decide (x < 1000)) = true := by
  rw [h2, Bool.and_true, decide_eq_true_eq]
  omega
abbrev rF (S : pS) (o a : Nat) : Int32 := S.1 o a
abbrev rA (S : pS) (o : Nat) (i : Int32) : Int32 := S.2.1 o i.toNatClampNeg
def wF (S : pS) (o a : Nat) (v : Int32) : pS := (sA S.1 o a v, S.2.1, S.2.2)
def wA (S : pS) (o : Nat) (i v : Int32) : pS := (S.1, sA S.2.1 o i.toNatClampNeg v, S.2.2)
def wR (S : pS) (o : Nat) (i : Int32) (j : Nat) : pS := (S.1, S.2.1, sR S.2.2 o i.toNatClampNeg (some j))
def wC (S : pS) (o0 : Nat) (sp : Int32) (o1 : Nat) (dp n : Int32) : pS := (S.1, sW S.2.1 o1 (va_cpy (S.2.1 o0) (S.2.1 o1) sp.toNatClampNeg dp.toNatClampNeg n.toNatClampNeg), S.2.2)
def cpyOk (sp dp n : Int32) (n0 n1 : Nat) : Prop := 0 ≤ sp ∧ 0 ≤ dp ∧ 0 ≤ n ∧ sp.toNatClampNeg + n.toNatClampNeg ≤ n0 ∧ dp.toNatClampNeg + n.toNatClampNeg ≤ n1
theorem ite_cong {α : Type} {c : Prop} {ic : Decidable c} {x y x' y' : α} (h1 : x = x') (h2 : y = y') : @ite α c ic x y = @ite α c ic x' y' := by rw [h1, h2]
theorem bind_cong {α β : Type} {x : Option α} {f g : α → Option β} (h : ∀ q, f q = g q) : x.bind f = x.bind g := by rw [funext h]
end
section
/-! The program as the small machine has it (written by program). -/
/-- CardDrawer$Chooser.<init>(LCardDrawer$Drawer;LCardDrawer$Told;)V -/
def cd0 : List pI := [(0, .aload_n 0, 0, 0, 0, 0), (1, .invokespecial 3, 9000, 0, 0, 0), (4, .aload_n 0, 0, 0, 0, 0), (5, .sipush 1024, 0, 0, 1024, 0), (8, .newarray .int, 0, 0, 0, 0), (10, .putfield 9, 2, 0, 2, 0), (13, .aload_n 0, 0, 0, 0, 0), (14, .aload_n 1, 1, 0, 0, 0), (15, .putfield 15, 0, 0, 2, 1), (18, .aload_n 0, 0, 0, 0, 0), (19, .aload_n 2, 2, 0, 0, 0), (20, .putfield 19, 1, 0, 2, 2), (23, .return_, 0, 0, 0, 0)]
/-- CardDrawer$Chooser.choose(I)V -/
def cd1 : List pI := [(0, .aload_n 0, 0, 0, 0, 0), (1, .getfield 9, 2, 0, 0, 0), (4, .arraylength, 0, 0, 0, 0), (5, .iconst 1, 0, 0, 1, 0), (6, .aload_n 0, 0, 0, 0, 0), (7, .getfield 19, 1, 0, 0, 2), (10, .getfield 23, 6, 10, 0, 3), (13, .getfield 29, 2, 8, 0, 4), (16, .ishl, 0, 0, 0, 0), (17, .invokestatic 35, 9005, 0, 0, 0), (20, .istore_n 2, 2, 0, 0, 0), (21, .iconst 0, 0, 0, 0, 0), (22, .istore_n 3, 3, 0, 0, 0), (23, .nop, 4, 0, 0, 0), (23, .iload_n 3, 3, 0, 0, 0), (24, .iload_n 2, 2, 0, 0, 0), (25, .if_icmp .ge 16, 41, 0, 0, 0), (28, .aload_n 0, 0, 0, 0, 0), (29, .getfield 9, 2, 0, 0, 0), (32, .iload_n 3, 3, 0, 0, 0), (33, .iconst (-1), 0, 0, (-1), 0), (34, .iastore, 0, 0, 0, 0), (35, .iinc 3 1, 3, 0, 1, 0), (38, .goto (-15), 23, 0, 0, 0), (41, .aload_n 0, 0, 0, 0, 0), (42, .getfield 9, 2, 0, 0, 0), (45, .iconst 0, 0, 0, 0, 0), (46, .iconst 0, 0, 0, 0, 0), (47, .iastore, 0, 0, 0, 0), (48, .iconst 0, 0, 0, 0, 0), (49, .istore_n 3, 3, 0, 0, 0), (50, .nop, 4, 0, 0, 0), (50, .iload_n 3, 3, 0, 0, 0), (51, .aload_n 0, 0, 0, 0, 0), (52, .getfield 15, 0, 0, 0, 1), (55, .getfield 41, 1, 3, 0, 5), (58, .if_icmp .ge 26, 84, 0, 0, 0), (61, .aload_n 0, 0, 0, 0, 0), (62, .getfield 15, 0, 0, 0, 1), (65, .iload_n 3, 3, 0, 0, 0), (66, .invokevirtual 46, 39, 1, 0, 0), (69, .ifCond .eq 9, 78, 0, 0, 0), (72, .aload_n 0, 0, 0, 0, 0), (73, .iload_n 3, 3, 0, 0, 0), (74, .iload_n 2, 2, 0, 0, 0), (75, .invokevirtual 50, 2, 0, 0, 1), (78, .iinc 3 1, 3, 0, 1, 0), (81, .goto (-31), 50, 0, 0, 0), (84, .aload_n 0, 0, 0, 0, 0), (85, .iconst 0, 0, 0, 0, 0), (86, .putfield 54, 3, 0, 0, 6), (89, .aload_n 0, 0, 0, 0, 0), (90, .iconst 0, 0, 0, 0, 0), (91, .putfield 57, 4, 0, 0, 7), (94, .iconst 0, 0, 0, 0, 0), (95, .istore_n 3, 3, 0, 0, 0), (96, .nop, 4, 0, 0, 0), (96, .iload_n 3, 3, 0, 0, 0), (97, .iload_n 2, 2, 0, 0, 0), (98, .if_icmp .ge 42, 140, 0, 0, 0), (101, .aload_n 0, 0, 0, 0, 0), (102, .getfield 9, 2, 0, 0, 0), (105, .iload_n 3, 3, 0, 0, 0), (106, .iaload, 0, 0, 0, 0), (107, .istore 4, 4, 0, 0, 0), (109, .iload 4, 4, 0, 0, 0), (111, .iconst (-1), 0, 0, (-1), 0), (112, .if_icmp .eq 22, 134, 0, 0, 0), (115, .iload 4, 4, 0, 0, 0), (117, .invokestatic 60, 285, 1, 0, 2), (120, .iload_n 1, 1, 0, 0, 0), (121, .if_icmp .gt 13, 134, 0, 0, 0), (124, .aload_n 0, 0, 0, 0, 0), (125, .iload_n 3, 3, 0, 0, 0), (126, .invokestatic 60, 285, 1, 0, 2), (129, .iload 4, 4, 0, 0, 0), (131, .invokevirtual 66, 3, 0, 0, 3), (134, .iinc 3 1, 3, 0, 1, 0), (137, .goto (-41), 96, 0, 0, 0), (140, .return_, 0, 0, 0, 0)]
/-- CardDrawer$Chooser.tryCard(II)V -/
def cd2 : List pI := [(0, .aload_n 0, 0, 0, 0, 0), (1, .iload_n 1, 1, 0, 0, 0), (2, .invokevirtual 69, 5, 1, 0, 4), (5, .istore_n 3, 3, 0, 0, 0), (6, .iload_n 3, 3, 0, 0, 0), (7, .ifCond .ne 4, 11, 0, 0, 0), (10, .return_, 0, 0, 0, 0), (11, .iconst 0, 0, 0, 0, 0), (12, .istore 4, 4, 0, 0, 0), (14, .nop, 5, 0, 0, 0), (14, .nop, 6, 0, 0, 0), (14, .iload 4, 4, 0, 0, 0), (16, .iload_n 2, 2, 0, 0, 0), (17, .if_icmp .ge 80, 97, 0, 0, 0), (20, .aload_n 0, 0, 0, 0, 0), (21, .getfield 9, 2, 0, 0, 0), (24, .iload 4, 4, 0, 0, 0), (26, .iaload, 0, 0, 0, 0), (27, .iconst (-1), 0, 0, (-1), 0), (28, .if_icmp .eq 63, 91, 0, 0, 0), (31, .iload 4, 4, 0, 0, 0), (33, .iload_n 3, 3, 0, 0, 0), (34, .ior, 0, 0, 0, 0), (35, .istore 5, 5, 0, 0, 0), (37, .aload_n 0, 0, 0, 0, 0), (38, .getfield 9, 2, 0, 0, 0), (41, .iload 4, 4, 0, 0, 0), (43, .iaload, 0, 0, 0, 0), (44, .iconst 1, 0, 0, 1, 0), (45, .iload_n 1, 1, 0, 0, 0), (46, .ishl, 0, 0, 0, 0), (47, .ior, 0, 0, 0, 0), (48, .istore 6, 6, 0, 0, 0), (50, .iload 5, 5, 0, 0, 0), (52, .iload_n 2, 2, 0, 0, 0), (53, .if_icmp .ge 38, 91, 0, 0, 0), (56, .aload_n 0, 0, 0, 0, 0), (57, .getfield 9, 2, 0, 0, 0), (60, .iload 5, 5, 0, 0, 0), (62, .iaload, 0, 0, 0, 0), (63, .iconst (-1), 0, 0, (-1), 0), (64, .if_icmp .eq 18, 82, 0, 0, 0), (67, .iload 6, 6, 0, 0, 0), (69, .aload_n 0, 0, 0, 0, 0), (70, .getfield 9, 2, 0, 0, 0), (73, .iload 5, 5, 0, 0, 0), (75, .iaload, 0, 0, 0, 0), (76, .invokestatic 72, 4, 1, 0, 5), (79, .ifCond .eq 12, 91, 0, 0, 0), (82, .aload_n 0, 0, 0, 0, 0), (83, .getfield 9, 2, 0, 0, 0), (86, .iload 5, 5, 0, 0, 0), (88, .iload 6, 6, 0, 0, 0), (90, .iastore, 0, 0, 0, 0), (91, .iinc 4 1, 4, 0, 1, 0), (94, .goto (-80), 14, 0, 0, 0), (97, .return_, 0, 0, 0, 0)]
/-- CardDrawer$Chooser.takeIfBetter(II)V -/
def cd3 : List pI := [(0, .iload_n 1, 1, 0, 0, 0), (1, .aload_n 0, 0, 0, 0, 0), (2, .getfield 54, 3, 0, 0, 6), (5, .if_icmp .gt 22, 27, 0, 0, 0), (8, .iload_n 1, 1, 0, 0, 0), (9, .aload_n 0, 0, 0, 0, 0), (10, .getfield 54, 3, 0, 0, 6), (13, .if_icmp .ne 24, 37, 0, 0, 0), (16, .iload_n 2, 2, 0, 0, 0), (17, .aload_n 0, 0, 0, 0, 0), (18, .getfield 57, 4, 0, 0, 7), (21, .invokestatic 72, 4, 1, 0, 5), (24, .ifCond .eq 13, 37, 0, 0, 0), (27, .aload_n 0, 0, 0, 0, 0), (28, .iload_n 1, 1, 0, 0, 0), (29, .putfield 54, 3, 0, 0, 6), (32, .aload_n 0, 0, 0, 0, 0), (33, .iload_n 2, 2, 0, 0, 0), (34, .putfield 57, 4, 0, 0, 7), (37, .return_, 0, 0, 0, 0)]
/-- CardDrawer$Chooser.isLess(II)Z -/
def cd4 : List pI := [(0, .iload_n 0, 0, 0, 0, 0), (1, .invokestatic 60, 285, 1, 0, 2), (4, .iload_n 1, 1, 0, 0, 0), (5, .invokestatic 60, 285, 1, 0, 2), (8, .isub, 0, 0, 0, 0), (9, .istore_n 2, 2, 0, 0, 0), (10, .iload_n 2, 2, 0, 0, 0), (11, .ifCond .lt 12, 23, 0, 0, 0), (14, .iload_n 2, 2, 0, 0, 0), (15, .ifCond .ne 12, 27, 0, 0, 0), (18, .iload_n 0, 0, 0, 0, 0), (19, .iload_n 1, 1, 0, 0, 0), (20, .if_icmp .ge 7, 27, 0, 0, 0), (23, .iconst 1, 0, 0, 1, 0), (24, .goto 4, 28, 0, 0, 0), (27, .iconst 0, 0, 0, 0, 0), (28, .ireturn, 1, 0, 0, 0)]
/-- CardDrawer$Chooser.questionsFor(I)I -/
def cd5 : List pI := [(0, .iconst 0, 0, 0, 0, 0), (1, .istore_n 2, 2, 0, 0, 0), (2, .iconst 0, 0, 0, 0, 0), (3, .istore_n 3, 3, 0, 0, 0), (4, .iload_n 3, 3, 0, 0, 0), (5, .aload_n 0, 0, 0, 0, 0), (6, .getfield 19, 1, 0, 0, 2), (9, .getfield 23, 6, 10, 0, 3), (12, .getfield 29, 2, 8, 0, 4), (15, .if_icmp .ge 50, 65, 0, 0, 0), (18, .aload_n 0, 0, 0, 0, 0), (19, .getfield 15, 0, 0, 0, 1), (22, .iload_n 1, 1, 0, 0, 0), (23, .aload_n 0, 0, 0, 0, 0), (24, .getfield 19, 1, 0, 0, 2), (27, .getfield 23, 6, 10, 0, 3), (30, .iload_n 3, 3, 0, 0, 0), (31, .iconst 0, 0, 0, 0, 0), (32, .invokevirtual 76, 97, 1, 0, 6), (35, .invokevirtual 79, 40, 1, 0, 7), (38, .aload_n 0, 0, 0, 0, 0), (39, .getfield 19, 1, 0, 0, 2), (42, .getfield 23, 6, 10, 0, 3), (45, .iload_n 3, 3, 0, 0, 0), (46, .iconst 1, 0, 0, 1, 0), (47, .invokevirtual 76, 97, 1, 0, 6), (50, .if_icmp .ne 9, 59, 0, 0, 0), (53, .iload_n 2, 2, 0, 0, 0), (54, .iconst 1, 0, 0, 1, 0), (55, .iload_n 3, 3, 0, 0, 0), (56, .ishl, 0, 0, 0, 0), (57, .ior, 0, 0, 0, 0), (58, .istore_n 2, 2, 0, 0, 0), (59, .iinc 3 1, 3, 0, 1, 0), (62, .goto (-58), 4, 0, 0, 0), (65, .iload_n 2, 2, 0, 0, 0), (66, .ireturn, 0, 0, 0, 0)]
/-- CardDrawer$Chooser.bestOrder()I -/
def cd6 : List pI := [(0, .iconst 0, 0, 0, 0, 0), (1, .istore_n 1, 1, 0, 0, 0), (2, .iconst 1, 0, 0, 1, 0), (3, .istore_n 2, 2, 0, 0, 0), (4, .iload_n 2, 2, 0, 0, 0), (5, .iconst 3, 0, 0, 3, 0), (6, .if_icmp .ge 24, 30, 0, 0, 0), (9, .aload_n 0, 0, 0, 0, 0), (10, .iload_n 2, 2, 0, 0, 0), (11, .invokevirtual 82, 7, 1, 0, 8), (14, .aload_n 0, 0, 0, 0, 0), (15, .iload_n 1, 1, 0, 0, 0), (16, .invokevirtual 82, 7, 1, 0, 8), (19, .if_icmp .ge 5, 24, 0, 0, 0), (22, .iload_n 2, 2, 0, 0, 0), (23, .istore_n 1, 1, 0, 0, 0), (24, .iinc 2 1, 2, 0, 1, 0), (27, .goto (-23), 4, 0, 0, 0), (30, .iload_n 1, 1, 0, 0, 0), (31, .ireturn, 0, 0, 0, 0)]
/-- CardDrawer$Chooser.lookedAt(I)I -/
def cd7 : List pI := [(0, .iconst 0, 0, 0, 0, 0), (1, .istore_n 2, 2, 0, 0, 0), (2, .iconst 0, 0, 0, 0, 0), (3, .istore_n 3, 3, 0, 0, 0), (4, .nop, 4, 0, 0, 0), (4, .nop, 5, 0, 0, 0), (4, .iload_n 3, 3, 0, 0, 0), (5, .aload_n 0, 0, 0, 0, 0), (6, .getfield 19, 1, 0, 0, 2), (9, .getfield 23, 6, 10, 0, 3), (12, .getfield 29, 2, 8, 0, 4), (15, .if_icmp .ge 70, 85, 0, 0, 0), (18, .aload_n 0, 0, 0, 0, 0), (19, .getfield 19, 1, 0, 0, 2), (22, .getfield 23, 6, 10, 0, 3), (25, .iload_n 3, 3, 0, 0, 0), (26, .iconst 0, 0, 0, 0, 0), (27, .invokevirtual 76, 97, 1, 0, 6), (30, .istore 4, 4, 0, 0, 0), (32, .iload 4, 4, 0, 0, 0), (34, .iload_n 1, 1, 0, 0, 0), (35, .if_icmp .ne 27, 62, 0, 0, 0), (38, .aload_n 0, 0, 0, 0, 0), (39, .getfield 15, 0, 0, 0, 1), (42, .iload 4, 4, 0, 0, 0), (44, .aload_n 0, 0, 0, 0, 0), (45, .getfield 19, 1, 0, 0, 2), (48, .getfield 23, 6, 10, 0, 3), (51, .iload_n 3, 3, 0, 0, 0), (52, .iconst 1, 0, 0, 1, 0), (53, .invokevirtual 76, 97, 1, 0, 6), (56, .invokevirtual 85, 45, 1, 0, 9), (59, .goto 10, 69, 0, 0, 0), (62, .aload_n 0, 0, 0, 0, 0), (63, .getfield 15, 0, 0, 0, 1), (66, .getfield 88, 2, 3, 0, 8), (69, .nop, 4, 0, 0, 0), (69, .nop, 5, 0, 0, 0), (69, .istore 5, 5, 0, 0, 0), (71, .iload_n 2, 2, 0, 0, 0), (72, .iload 5, 5, 0, 0, 0), (74, .invokestatic 60, 285, 1, 0, 2), (77, .iadd, 0, 0, 0, 0), (78, .istore_n 2, 2, 0, 0, 0), (79, .iinc 3 1, 3, 0, 1, 0), (82, .goto (-78), 4, 0, 0, 0), (85, .iload_n 2, 2, 0, 0, 0), (86, .ireturn, 0, 0, 0, 0)]
/-- CardDrawer$Chooser.fewestApart()I -/
def cd8 : List pI := [(0, .iconst (-1), 0, 0, (-1), 0), (1, .istore_n 1, 1, 0, 0, 0), (2, .iconst 0, 0, 0, 0, 0), (3, .istore_n 2, 2, 0, 0, 0), (4, .nop, 3, 0, 0, 0), (4, .iload_n 2, 2, 0, 0, 0), (5, .bipush 32, 0, 0, 32, 0), (7, .if_icmp .ge 45, 52, 0, 0, 0), (10, .iload_n 1, 1, 0, 0, 0), (11, .iconst (-1), 0, 0, (-1), 0), (12, .if_icmp .eq 14, 26, 0, 0, 0), (15, .iload_n 2, 2, 0, 0, 0), (16, .invokestatic 60, 285, 1, 0, 2), (19, .iload_n 1, 1, 0, 0, 0), (20, .invokestatic 60, 285, 1, 0, 2), (23, .if_icmp .ge 7, 30, 0, 0, 0), (26, .iconst 1, 0, 0, 1, 0), (27, .goto 4, 31, 0, 0, 0), (30, .iconst 0, 0, 0, 0, 0), (31, .nop, 3, 0, 0, 0), (31, .istore_n 3, 3, 0, 0, 0), (32, .iload_n 3, 3, 0, 0, 0), (33, .ifCond .eq 13, 46, 0, 0, 0), (36, .aload_n 0, 0, 0, 0, 0), (37, .iload_n 2, 2, 0, 0, 0), (38, .invokevirtual 91, 9, 1, 0, 10), (41, .ifCond .eq 5, 46, 0, 0, 0), (44, .iload_n 2, 2, 0, 0, 0), (45, .istore_n 1, 1, 0, 0, 0), (46, .iinc 2 1, 2, 0, 1, 0), (49, .goto (-45), 4, 0, 0, 0), (52, .iload_n 1, 1, 0, 0, 0), (53, .ireturn, 0, 0, 0, 0)]
/-- CardDrawer$Chooser.tellsApart(I)Z -/
def cd9 : List pI := [(0, .iconst 0, 0, 0, 0, 0), (1, .istore_n 2, 2, 0, 0, 0), (2, .nop, 3, 0, 0, 0), (2, .iload_n 2, 2, 0, 0, 0), (3, .aload_n 0, 0, 0, 0, 0), (4, .getfield 15, 0, 0, 0, 1), (7, .getfield 41, 1, 3, 0, 5), (10, .if_icmp .ge 56, 66, 0, 0, 0), (13, .iconst 0, 0, 0, 0, 0), (14, .istore_n 3, 3, 0, 0, 0), (15, .iload_n 3, 3, 0, 0, 0), (16, .iload_n 2, 2, 0, 0, 0), (17, .if_icmp .ge 43, 60, 0, 0, 0), (20, .aload_n 0, 0, 0, 0, 0), (21, .getfield 15, 0, 0, 0, 1), (24, .iload_n 2, 2, 0, 0, 0), (25, .invokevirtual 46, 39, 1, 0, 0), (28, .ifCond .eq 26, 54, 0, 0, 0), (31, .aload_n 0, 0, 0, 0, 0), (32, .getfield 15, 0, 0, 0, 1), (35, .iload_n 3, 3, 0, 0, 0), (36, .invokevirtual 46, 39, 1, 0, 0), (39, .ifCond .eq 15, 54, 0, 0, 0), (42, .aload_n 0, 0, 0, 0, 0), (43, .iload_n 2, 2, 0, 0, 0), (44, .iload_n 3, 3, 0, 0, 0), (45, .iload_n 1, 1, 0, 0, 0), (46, .invokevirtual 94, 10, 1, 0, 11), (49, .ifCond .eq 5, 54, 0, 0, 0), (52, .iconst 0, 0, 0, 0, 0), (53, .ireturn, 1, 0, 0, 0), (54, .iinc 3 1, 3, 0, 1, 0), (57, .goto (-42), 15, 0, 0, 0), (60, .iinc 2 1, 2, 0, 1, 0), (63, .goto (-61), 2, 0, 0, 0), (66, .iconst 1, 0, 0, 1, 0), (67, .ireturn, 1, 0, 0, 0)]
/-- CardDrawer$Chooser.isAlike(III)Z -/
def cd10 : List pI := [(0, .iconst 0, 0, 0, 0, 0), (1, .istore 4, 4, 0, 0, 0), (3, .iload 4, 4, 0, 0, 0), (5, .iconst 5, 0, 0, 5, 0), (6, .if_icmp .ge 43, 49, 0, 0, 0), (9, .iload_n 3, 3, 0, 0, 0), (10, .iload 4, 4, 0, 0, 0), (12, .invokestatic 98, 154, 1, 0, 12), (15, .ifCond .eq 28, 43, 0, 0, 0), (18, .aload_n 0, 0, 0, 0, 0), (19, .getfield 15, 0, 0, 0, 1), (22, .iload_n 1, 1, 0, 0, 0), (23, .iload 4, 4, 0, 0, 0), (25, .invokevirtual 79, 40, 1, 0, 7), (28, .aload_n 0, 0, 0, 0, 0), (29, .getfield 15, 0, 0, 0, 1), (32, .iload_n 2, 2, 0, 0, 0), (33, .iload 4, 4, 0, 0, 0), (35, .invokevirtual 79, 40, 1, 0, 7), (38, .if_icmp .eq 5, 43, 0, 0, 0), (41, .iconst 0, 0, 0, 0, 0), (42, .ireturn, 1, 0, 0, 0), (43, .iinc 4 1, 4, 0, 1, 0), (46, .goto (-43), 3, 0, 0, 0), (49, .iconst 1, 0, 0, 1, 0), (50, .ireturn, 1, 0, 0, 0)]
/-- CardDrawer$Chooser.secondOnes()I -/
def cd11 : List pI := [(0, .iconst 0, 0, 0, 0, 0), (1, .istore_n 1, 1, 0, 0, 0), (2, .iconst 0, 0, 0, 0, 0), (3, .istore_n 2, 2, 0, 0, 0), (4, .iload_n 2, 2, 0, 0, 0), (5, .aload_n 0, 0, 0, 0, 0), (6, .getfield 15, 0, 0, 0, 1), (9, .getfield 41, 1, 3, 0, 5), (12, .if_icmp .ge 34, 46, 0, 0, 0), (15, .aload_n 0, 0, 0, 0, 0), (16, .getfield 15, 0, 0, 0, 1), (19, .iload_n 2, 2, 0, 0, 0), (20, .invokevirtual 46, 39, 1, 0, 0), (23, .ifCond .eq 17, 40, 0, 0, 0), (26, .aload_n 0, 0, 0, 0, 0), (27, .iload_n 2, 2, 0, 0, 0), (28, .invokevirtual 101, 12, 1, 0, 13), (31, .ifCond .eq 9, 40, 0, 0, 0), (34, .iload_n 1, 1, 0, 0, 0), (35, .iconst 1, 0, 0, 1, 0), (36, .iload_n 2, 2, 0, 0, 0), (37, .ishl, 0, 0, 0, 0), (38, .ior, 0, 0, 0, 0), (39, .istore_n 1, 1, 0, 0, 0), (40, .iinc 2 1, 2, 0, 1, 0), (43, .goto (-39), 4, 0, 0, 0), (46, .iload_n 1, 1, 0, 0, 0), (47, .ireturn, 0, 0, 0, 0)]
/-- CardDrawer$Chooser.hasSooner(I)Z -/
def cd12 : List pI := [(0, .aload_n 0, 0, 0, 0, 0), (1, .getfield 15, 0, 0, 0, 1), (4, .iload_n 1, 1, 0, 0, 0), (5, .iconst 3, 0, 0, 3, 0), (6, .invokevirtual 79, 40, 1, 0, 7), (9, .istore_n 2, 2, 0, 0, 0), (10, .iconst 0, 0, 0, 0, 0), (11, .istore_n 3, 3, 0, 0, 0), (12, .nop, 4, 0, 0, 0), (12, .iload_n 3, 3, 0, 0, 0), (13, .aload_n 0, 0, 0, 0, 0), (14, .getfield 15, 0, 0, 0, 1), (17, .getfield 41, 1, 3, 0, 5), (20, .if_icmp .ge 71, 91, 0, 0, 0), (23, .aload_n 0, 0, 0, 0, 0), (24, .getfield 15, 0, 0, 0, 1), (27, .iload_n 3, 3, 0, 0, 0), (28, .invokevirtual 46, 39, 1, 0, 0), (31, .ifCond .eq 54, 85, 0, 0, 0), (34, .aload_n 0, 0, 0, 0, 0), (35, .getfield 15, 0, 0, 0, 1), (38, .iload_n 3, 3, 0, 0, 0), (39, .iconst 0, 0, 0, 0, 0), (40, .invokevirtual 79, 40, 1, 0, 7), (43, .aload_n 0, 0, 0, 0, 0), (44, .getfield 15, 0, 0, 0, 1), (47, .iload_n 1, 1, 0, 0, 0), (48, .iconst 0, 0, 0, 0, 0), (49, .invokevirtual 79, 40, 1, 0, 7), (52, .if_icmp .ne 33, 85, 0, 0, 0), (55, .aload_n 0, 0, 0, 0, 0), (56, .getfield 15, 0, 0, 0, 1), (59, .iload_n 3, 3, 0, 0, 0), (60, .iconst 3, 0, 0, 3, 0), (61, .invokevirtual 79, 40, 1, 0, 7), (64, .istore 4, 4, 0, 0, 0), (66, .iload 4, 4, 0, 0, 0), (68, .iload_n 2, 2, 0, 0, 0), (69, .if_icmp .lt 14, 83, 0, 0, 0), (72, .iload 4, 4, 0, 0, 0), (74, .iload_n 2, 2, 0, 0, 0), (75, .if_icmp .ne 10, 85, 0, 0, 0), (78, .iload_n 3, 3, 0, 0, 0), (79, .iload_n 1, 1, 0, 0, 0), (80, .if_icmp .ge 5, 85, 0, 0, 0), (83, .iconst 1, 0, 0, 1, 0), (84, .ireturn, 1, 0, 0, 0), (85, .iinc 3 1, 3, 0, 1, 0), (88, .goto (-76), 12, 0, 0, 0), (91, .iconst 0, 0, 0, 0, 0), (92, .ireturn, 1, 0, 0, 0)]
/-- CardDrawer$Chooser.nearest(I)I -/
def cd13 : List pI := [(0, .iconst (-1), 0, 0, (-1), 0), (1, .istore_n 2, 2, 0, 0, 0), (2, .iconst 0, 0, 0, 0, 0), (3, .istore_n 3, 3, 0, 0, 0), (4, .iload_n 3, 3, 0, 0, 0), (5, .aload_n 0, 0, 0, 0, 0), (6, .getfield 15, 0, 0, 0, 1), (9, .getfield 41, 1, 3, 0, 5), (12, .if_icmp .ge 47, 59, 0, 0, 0), (15, .iload_n 3, 3, 0, 0, 0), (16, .iload_n 1, 1, 0, 0, 0), (17, .if_icmp .eq 36, 53, 0, 0, 0), (20, .aload_n 0, 0, 0, 0, 0), (21, .getfield 15, 0, 0, 0, 1), (24, .iload_n 3, 3, 0, 0, 0), (25, .invokevirtual 46, 39, 1, 0, 0), (28, .ifCond .eq 25, 53, 0, 0, 0), (31, .iload_n 2, 2, 0, 0, 0), (32, .iconst (-1), 0, 0, (-1), 0), (33, .if_icmp .eq 18, 51, 0, 0, 0), (36, .aload_n 0, 0, 0, 0, 0), (37, .iload_n 1, 1, 0, 0, 0), (38, .iload_n 3, 3, 0, 0, 0), (39, .invokevirtual 104, 14, 1, 0, 14), (42, .aload_n 0, 0, 0, 0, 0), (43, .iload_n 1, 1, 0, 0, 0), (44, .iload_n 2, 2, 0, 0, 0), (45, .invokevirtual 104, 14, 1, 0, 14), (48, .if_icmp .le 5, 53, 0, 0, 0), (51, .iload_n 3, 3, 0, 0, 0), (52, .istore_n 2, 2, 0, 0, 0), (53, .iinc 3 1, 3, 0, 1, 0), (56, .goto (-52), 4, 0, 0, 0), (59, .iload_n 2, 2, 0, 0, 0), (60, .ireturn, 0, 0, 0, 0)]
/-- CardDrawer$Chooser.inCommon(II)I -/
def cd14 : List pI := [(0, .iconst 0, 0, 0, 0, 0), (1, .istore_n 3, 3, 0, 0, 0), (2, .iconst 0, 0, 0, 0, 0), (3, .istore 4, 4, 0, 0, 0), (5, .iload 4, 4, 0, 0, 0), (7, .iconst 3, 0, 0, 3, 0), (8, .if_icmp .gt 35, 43, 0, 0, 0), (11, .aload_n 0, 0, 0, 0, 0), (12, .getfield 15, 0, 0, 0, 1), (15, .iload_n 1, 1, 0, 0, 0), (16, .iload 4, 4, 0, 0, 0), (18, .invokevirtual 79, 40, 1, 0, 7), (21, .aload_n 0, 0, 0, 0, 0), (22, .getfield 15, 0, 0, 0, 1), (25, .iload_n 2, 2, 0, 0, 0), (26, .iload 4, 4, 0, 0, 0), (28, .invokevirtual 79, 40, 1, 0, 7), (31, .if_icmp .ne 6, 37, 0, 0, 0), (34, .iinc 3 1, 3, 0, 1, 0), (37, .iinc 4 1, 4, 0, 1, 0), (40, .goto (-35), 5, 0, 0, 0), (43, .iload_n 3, 3, 0, 0, 0), (44, .ireturn, 0, 0, 0, 0)]
/-- CardDrawer$Chooser.pile(I)I -/
def cd15 : List pI := [(0, .aload_n 0, 0, 0, 0, 0), (1, .getfield 15, 0, 0, 0, 1), (4, .iconst 1, 0, 0, 1, 0), (5, .iload_n 1, 1, 0, 0, 0), (6, .invokevirtual 85, 45, 1, 0, 9), (9, .invokestatic 60, 285, 1, 0, 2), (12, .ireturn, 0, 0, 0, 0)]
/-- CardDrawer$Chooser.leftToLose(I)I -/
def cd16 : List pI := [(0, .iconst 0, 0, 0, 0, 0), (1, .istore_n 2, 2, 0, 0, 0), (2, .iconst 0, 0, 0, 0, 0), (3, .istore_n 3, 3, 0, 0, 0), (4, .iload_n 3, 3, 0, 0, 0), (5, .bipush 8, 0, 0, 8, 0), (7, .if_icmp .ge 22, 29, 0, 0, 0), (10, .iload_n 3, 3, 0, 0, 0), (11, .iload_n 1, 1, 0, 0, 0), (12, .if_icmp .eq 11, 23, 0, 0, 0), (15, .iload_n 2, 2, 0, 0, 0), (16, .aload_n 0, 0, 0, 0, 0), (17, .iload_n 3, 3, 0, 0, 0), (18, .invokevirtual 107, 15, 1, 0, 15), (21, .ixor, 0, 0, 0, 0), (22, .istore_n 2, 2, 0, 0, 0), (23, .iinc 3 1, 3, 0, 1, 0), (26, .goto (-22), 4, 0, 0, 0), (29, .iload_n 2, 2, 0, 0, 0), (30, .ireturn, 0, 0, 0, 0)]
/-- CardDrawer$Chooser.cardsToThrow(I)I -/
def cd17 : List pI := [(0, .aload_n 0, 0, 0, 0, 0), (1, .iload_n 1, 1, 0, 0, 0), (2, .invokevirtual 107, 15, 1, 0, 15), (5, .aload_n 0, 0, 0, 0, 0), (6, .iload_n 1, 1, 0, 0, 0), (7, .invokevirtual 110, 16, 1, 0, 16), (10, .isub, 0, 0, 0, 0), (11, .ireturn, 0, 0, 0, 0)]
/-- CardDrawer$Chooser.firmToThrow()I -/
def cd18 : List pI := [(0, .iconst 0, 0, 0, 0, 0), (1, .istore_n 1, 1, 0, 0, 0), (2, .iload_n 1, 1, 0, 0, 0), (3, .bipush 8, 0, 0, 8, 0), (5, .if_icmp .ge 19, 24, 0, 0, 0), (8, .aload_n 0, 0, 0, 0, 0), (9, .iload_n 1, 1, 0, 0, 0), (10, .invokevirtual 113, 17, 1, 0, 17), (13, .ifCond .le 5, 18, 0, 0, 0), (16, .iload_n 1, 1, 0, 0, 0), (17, .ireturn, 0, 0, 0, 0), (18, .iinc 1 1, 1, 0, 1, 0), (21, .goto (-19), 2, 0, 0, 0), (24, .iconst (-1), 0, 0, (-1), 0), (25, .ireturn, 0, 0, 0, 0)]
/-- CardDrawer$Circle.<init>(LCardDrawer$Drawer;LCardDrawer$Told;)V -/
def cd19 : List pI := [(0, .aload_n 0, 0, 0, 0, 0), (1, .invokespecial 3, 9000, 0, 0, 0), (4, .aload_n 0, 0, 0, 0, 0), (5, .bipush 12, 0, 0, 12, 0), (7, .newarray .int, 0, 0, 0, 0), (9, .putfield 9, 2, 1, 2, 9), (12, .aload_n 0, 0, 0, 0, 0), (13, .bipush 12, 0, 0, 12, 0), (15, .newarray .int, 0, 0, 0, 0), (17, .putfield 15, 3, 1, 2, 10), (20, .aload_n 0, 0, 0, 0, 0), (21, .aload_n 1, 1, 0, 0, 0), (22, .putfield 18, 0, 1, 2, 11), (25, .aload_n 0, 0, 0, 0, 0), (26, .aload_n 2, 2, 0, 0, 0), (27, .putfield 22, 1, 1, 2, 12), (30, .return_, 0, 0, 0, 0)]
/-- CardDrawer$Circle.learn()I -/
def cd20 : List pI := [(0, .iconst 0, 0, 0, 0, 0), (1, .istore_n 1, 1, 0, 0, 0), (2, .nop, 2, 0, 0, 0), (2, .nop, 3, 0, 0, 0), (2, .iload_n 1, 1, 0, 0, 0), (3, .bipush 12, 0, 0, 12, 0), (5, .if_icmp .ge 16, 21, 0, 0, 0), (8, .aload_n 0, 0, 0, 0, 0), (9, .getfield 9, 2, 1, 0, 9), (12, .iload_n 1, 1, 0, 0, 0), (13, .iconst 0, 0, 0, 0, 0), (14, .iastore, 0, 0, 0, 0), (15, .iinc 1 1, 1, 0, 1, 0), (18, .goto (-16), 2, 0, 0, 0), (21, .iconst 0, 0, 0, 0, 0), (22, .istore_n 1, 1, 0, 0, 0), (23, .iconst 0, 0, 0, 0, 0), (24, .istore_n 2, 2, 0, 0, 0), (25, .nop, 3, 0, 0, 0), (25, .iload_n 2, 2, 0, 0, 0), (26, .bipush 12, 0, 0, 12, 0), (28, .if_icmp .ge 62, 90, 0, 0, 0), (31, .aload_n 0, 0, 0, 0, 0), (32, .getfield 22, 1, 1, 0, 12), (35, .getfield 26, 1, 10, 0, 13), (38, .iload_n 2, 2, 0, 0, 0), (39, .iaload, 0, 0, 0, 0), (40, .istore_n 3, 3, 0, 0, 0), (41, .iload_n 3, 3, 0, 0, 0), (42, .bipush 12, 0, 0, 12, 0), (44, .invokestatic 31, 153, 1, 0, 18), (47, .ifCond .eq 37, 84, 0, 0, 0), (50, .aload_n 0, 0, 0, 0, 0), (51, .getfield 9, 2, 1, 0, 9), (54, .iload_n 2, 2, 0, 0, 0), (55, .dup2, 0, 0, 0, 0), (56, .iaload, 0, 0, 0, 0), (57, .iconst 1, 0, 0, 1, 0), (58, .iload_n 3, 3, 0, 0, 0), (59, .ishl, 0, 0, 0, 0), (60, .ior, 0, 0, 0, 0), (61, .iastore, 0, 0, 0, 0), (62, .aload_n 0, 0, 0, 0, 0), (63, .getfield 9, 2, 1, 0, 9), (66, .iload_n 3, 3, 0, 0, 0), (67, .dup2, 0, 0, 0, 0), (68, .iaload, 0, 0, 0, 0), (69, .iconst 1, 0, 0, 1, 0), (70, .iload_n 2, 2, 0, 0, 0), (71, .ishl, 0, 0, 0, 0), (72, .ior, 0, 0, 0, 0), (73, .iastore, 0, 0, 0, 0), (74, .iload_n 1, 1, 0, 0, 0), (75, .iconst 1, 0, 0, 1, 0), (76, .iload_n 2, 2, 0, 0, 0), (77, .ishl, 0, 0, 0, 0), (78, .iconst 1, 0, 0, 1, 0), (79, .iload_n 3, 3, 0, 0, 0), (80, .ishl, 0, 0, 0, 0), (81, .ior, 0, 0, 0, 0), (82, .ior, 0, 0, 0, 0), (83, .istore_n 1, 1, 0, 0, 0), (84, .iinc 2 1, 2, 0, 1, 0), (87, .goto (-62), 25, 0, 0, 0), (90, .iload_n 1, 1, 0, 0, 0), (91, .ireturn, 0, 0, 0, 0)]
/-- CardDrawer$Circle.besideSome(I)I -/
def cd21 : List pI := [(0, .iconst 0, 0, 0, 0, 0), (1, .istore_n 2, 2, 0, 0, 0), (2, .iconst 0, 0, 0, 0, 0), (3, .istore_n 3, 3, 0, 0, 0), (4, .iload_n 3, 3, 0, 0, 0), (5, .bipush 12, 0, 0, 12, 0), (7, .if_icmp .ge 26, 33, 0, 0, 0), (10, .iload_n 1, 1, 0, 0, 0), (11, .iload_n 3, 3, 0, 0, 0), (12, .invokestatic 35, 154, 1, 0, 19), (15, .ifCond .eq 12, 27, 0, 0, 0), (18, .iload_n 2, 2, 0, 0, 0), (19, .aload_n 0, 0, 0, 0, 0), (20, .getfield 9, 2, 1, 0, 9), (23, .iload_n 3, 3, 0, 0, 0), (24, .iaload, 0, 0, 0, 0), (25, .ior, 0, 0, 0, 0), (26, .istore_n 2, 2, 0, 0, 0), (27, .iinc 3 1, 3, 0, 1, 0), (30, .goto (-26), 4, 0, 0, 0), (33, .iload_n 2, 2, 0, 0, 0), (34, .ireturn, 0, 0, 0, 0)]
/-- CardDrawer$Circle.measure(I)V -/
def cd22 : List pI := [(0, .iconst 0, 0, 0, 0, 0), (1, .istore_n 2, 2, 0, 0, 0), (2, .nop, 3, 0, 0, 0), (2, .nop, 4, 0, 0, 0), (2, .nop, 5, 0, 0, 0), (2, .iload_n 2, 2, 0, 0, 0), (3, .bipush 12, 0, 0, 12, 0), (5, .if_icmp .ge 16, 21, 0, 0, 0), (8, .aload_n 0, 0, 0, 0, 0), (9, .getfield 15, 3, 1, 0, 10), (12, .iload_n 2, 2, 0, 0, 0), (13, .iconst (-1), 0, 0, (-1), 0), (14, .iastore, 0, 0, 0, 0), (15, .iinc 2 1, 2, 0, 1, 0), (18, .goto (-16), 2, 0, 0, 0), (21, .iconst 0, 0, 0, 0, 0), (22, .istore_n 2, 2, 0, 0, 0), (23, .iconst 1, 0, 0, 1, 0), (24, .iload_n 1, 1, 0, 0, 0), (25, .ishl, 0, 0, 0, 0), (26, .istore_n 3, 3, 0, 0, 0), (27, .iconst 0, 0, 0, 0, 0), (28, .istore 4, 4, 0, 0, 0), (30, .nop, 1, 0, 0, 0), (30, .nop, 5, 0, 0, 0), (30, .iload 4, 4, 0, 0, 0), (32, .bipush 12, 0, 0, 12, 0), (34, .if_icmp .ge 57, 91, 0, 0, 0), (37, .iconst 0, 0, 0, 0, 0), (38, .istore 5, 5, 0, 0, 0), (40, .nop, 1, 0, 0, 0), (40, .iload 5, 5, 0, 0, 0), (42, .bipush 12, 0, 0, 12, 0), (44, .if_icmp .ge 27, 71, 0, 0, 0), (47, .iload_n 3, 3, 0, 0, 0), (48, .iload 5, 5, 0, 0, 0), (50, .invokestatic 35, 154, 1, 0, 19), (53, .ifCond .eq 12, 65, 0, 0, 0), (56, .aload_n 0, 0, 0, 0, 0), (57, .getfield 15, 3, 1, 0, 10), (60, .iload 5, 5, 0, 0, 0), (62, .iload 4, 4, 0, 0, 0), (64, .iastore, 0, 0, 0, 0), (65, .iinc 5 1, 5, 0, 1, 0), (68, .goto (-28), 40, 0, 0, 0), (71, .iload_n 2, 2, 0, 0, 0), (72, .iload_n 3, 3, 0, 0, 0), (73, .ior, 0, 0, 0, 0), (74, .istore_n 2, 2, 0, 0, 0), (75, .aload_n 0, 0, 0, 0, 0), (76, .iload_n 3, 3, 0, 0, 0), (77, .invokevirtual 38, 21, 1, 0, 20), (80, .iload_n 2, 2, 0, 0, 0), (81, .iconst (-1), 0, 0, (-1), 0), (82, .ixor, 0, 0, 0, 0), (83, .iand, 0, 0, 0, 0), (84, .istore_n 3, 3, 0, 0, 0), (85, .iinc 4 1, 4, 0, 1, 0), (88, .goto (-58), 30, 0, 0, 0), (91, .return_, 0, 0, 0, 0)]
/-- CardDrawer$Circle.seek(I)Z -/
def cd23 : List pI := [(0, .aload_n 0, 0, 0, 0, 0), (1, .invokevirtual 42, 20, 1, 0, 21), (4, .pop, 0, 0, 0, 0), (5, .aload_n 0, 0, 0, 0, 0), (6, .iconst 0, 0, 0, 0, 0), (7, .invokevirtual 46, 22, 0, 0, 22), (10, .aload_n 0, 0, 0, 0, 0), (11, .getfield 18, 0, 1, 0, 11), (14, .aload_n 0, 0, 0, 0, 0), (15, .getfield 18, 0, 1, 0, 11), (18, .iconst 2, 0, 0, 2, 0), (19, .iload_n 1, 1, 0, 0, 0), (20, .invokevirtual 50, 45, 1, 0, 23), (23, .invokevirtual 56, 46, 1, 0, 24), (26, .istore_n 2, 2, 0, 0, 0), (27, .aload_n 0, 0, 0, 0, 0), (28, .iconst (-1), 0, 0, (-1), 0), (29, .putfield 59, 5, 1, 0, 14), (32, .aload_n 0, 0, 0, 0, 0), (33, .bipush 12, 0, 0, 12, 0), (35, .putfield 63, 4, 1, 0, 15), (38, .iconst 0, 0, 0, 0, 0), (39, .istore_n 3, 3, 0, 0, 0), (40, .nop, 1, 0, 0, 0), (40, .iload_n 3, 3, 0, 0, 0), (41, .bipush 12, 0, 0, 12, 0), (43, .if_icmp .ge 55, 98, 0, 0, 0), (46, .iload_n 2, 2, 0, 0, 0), (47, .iload_n 3, 3, 0, 0, 0), (48, .invokestatic 35, 154, 1, 0, 19), (51, .ifCond .eq 41, 92, 0, 0, 0), (54, .aload_n 0, 0, 0, 0, 0), (55, .getfield 15, 3, 1, 0, 10), (58, .iload_n 3, 3, 0, 0, 0), (59, .iaload, 0, 0, 0, 0), (60, .iconst (-1), 0, 0, (-1), 0), (61, .if_icmp .eq 31, 92, 0, 0, 0), (64, .aload_n 0, 0, 0, 0, 0), (65, .getfield 15, 3, 1, 0, 10), (68, .iload_n 3, 3, 0, 0, 0), (69, .iaload, 0, 0, 0, 0), (70, .aload_n 0, 0, 0, 0, 0), (71, .getfield 63, 4, 1, 0, 15), (74, .if_icmp .ge 18, 92, 0, 0, 0), (77, .aload_n 0, 0, 0, 0, 0), (78, .aload_n 0, 0, 0, 0, 0), (79, .getfield 15, 3, 1, 0, 10), (82, .iload_n 3, 3, 0, 0, 0), (83, .iaload, 0, 0, 0, 0), (84, .putfield 63, 4, 1, 0, 15), (87, .aload_n 0, 0, 0, 0, 0), (88, .iload_n 3, 3, 0, 0, 0), (89, .putfield 59, 5, 1, 0, 14), (92, .iinc 3 1, 3, 0, 1, 0), (95, .goto (-55), 40, 0, 0, 0), (98, .aload_n 0, 0, 0, 0, 0), (99, .getfield 59, 5, 1, 0, 14), (102, .iconst (-1), 0, 0, (-1), 0), (103, .if_icmp .ne 5, 108, 0, 0, 0), (106, .iconst 0, 0, 0, 0, 0), (107, .ireturn, 1, 0, 0, 0), (108, .aload_n 0, 0, 0, 0, 0), (109, .aload_n 0, 0, 0, 0, 0), (110, .getfield 59, 5, 1, 0, 14), (113, .ifCond .ne 7, 120, 0, 0, 0), (116, .iconst 0, 0, 0, 0, 0), (117, .goto 7, 124, 0, 0, 0), (120, .aload_n 0, 0, 0, 0, 0), (121, .invokevirtual 66, 24, 1, 0, 25), (124, .putfield 69, 6, 1, 0, 16), (127, .iconst 1, 0, 0, 1, 0), (128, .ireturn, 1, 0, 0, 0)]
/-- CardDrawer$Circle.firstOnTheWay()I -/
def cd24 : List pI := [(0, .aload_n 0, 0, 0, 0, 0), (1, .aload_n 0, 0, 0, 0, 0), (2, .getfield 59, 5, 1, 0, 14), (5, .invokevirtual 46, 22, 0, 0, 22), (8, .iconst 0, 0, 0, 0, 0), (9, .istore_n 1, 1, 0, 0, 0), (10, .iload_n 1, 1, 0, 0, 0), (11, .bipush 12, 0, 0, 12, 0), (13, .if_icmp .ge 39, 52, 0, 0, 0), (16, .aload_n 0, 0, 0, 0, 0), (17, .getfield 9, 2, 1, 0, 9), (20, .iconst 0, 0, 0, 0, 0), (21, .iaload, 0, 0, 0, 0), (22, .iload_n 1, 1, 0, 0, 0), (23, .invokestatic 35, 154, 1, 0, 19), (26, .ifCond .eq 20, 46, 0, 0, 0), (29, .aload_n 0, 0, 0, 0, 0), (30, .getfield 15, 3, 1, 0, 10), (33, .iload_n 1, 1, 0, 0, 0), (34, .iaload, 0, 0, 0, 0), (35, .aload_n 0, 0, 0, 0, 0), (36, .getfield 63, 4, 1, 0, 15), (39, .iconst 1, 0, 0, 1, 0), (40, .isub, 0, 0, 0, 0), (41, .if_icmp .ne 5, 46, 0, 0, 0), (44, .iload_n 1, 1, 0, 0, 0), (45, .ireturn, 0, 0, 0, 0), (46, .iinc 1 1, 1, 0, 1, 0), (49, .goto (-39), 10, 0, 0, 0), (52, .aload_n 0, 0, 0, 0, 0), (53, .getfield 59, 5, 1, 0, 14), (56, .ireturn, 0, 0, 0, 0)]
/-- CardDrawer$Circle.ledBy(I)I -/
def cd25 : List pI := [(0, .iconst 1, 0, 0, 1, 0), (1, .iload_n 1, 1, 0, 0, 0), (2, .ishl, 0, 0, 0, 0), (3, .istore_n 2, 2, 0, 0, 0), (4, .iconst 0, 0, 0, 0, 0), (5, .istore_n 3, 3, 0, 0, 0), (6, .nop, 4, 0, 0, 0), (6, .nop, 5, 0, 0, 0), (6, .iload_n 3, 3, 0, 0, 0), (7, .bipush 12, 0, 0, 12, 0), (9, .if_icmp .ge 59, 68, 0, 0, 0), (12, .iconst 0, 0, 0, 0, 0), (13, .istore 4, 4, 0, 0, 0), (15, .nop, 5, 0, 0, 0), (15, .iload 4, 4, 0, 0, 0), (17, .bipush 12, 0, 0, 12, 0), (19, .if_icmp .ge 43, 62, 0, 0, 0), (22, .aload_n 0, 0, 0, 0, 0), (23, .getfield 22, 1, 1, 0, 12), (26, .getfield 26, 1, 10, 0, 13), (29, .iload 4, 4, 0, 0, 0), (31, .iaload, 0, 0, 0, 0), (32, .istore 5, 5, 0, 0, 0), (34, .iload 5, 5, 0, 0, 0), (36, .iconst (-1), 0, 0, (-1), 0), (37, .if_icmp .eq 19, 56, 0, 0, 0), (40, .iload_n 2, 2, 0, 0, 0), (41, .iload 5, 5, 0, 0, 0), (43, .invokestatic 35, 154, 1, 0, 19), (46, .ifCond .eq 10, 56, 0, 0, 0), (49, .iload_n 2, 2, 0, 0, 0), (50, .iconst 1, 0, 0, 1, 0), (51, .iload 4, 4, 0, 0, 0), (53, .ishl, 0, 0, 0, 0), (54, .ior, 0, 0, 0, 0), (55, .istore_n 2, 2, 0, 0, 0), (56, .iinc 4 1, 4, 0, 1, 0), (59, .goto (-44), 15, 0, 0, 0), (62, .iinc 3 1, 3, 0, 1, 0), (65, .goto (-59), 6, 0, 0, 0), (68, .iload_n 2, 2, 0, 0, 0), (69, .iconst 1, 0, 0, 1, 0), (70, .iload_n 1, 1, 0, 0, 0), (71, .ishl, 0, 0, 0, 0), (72, .iconst (-1), 0, 0, (-1), 0), (73, .ixor, 0, 0, 0, 0), (74, .iand, 0, 0, 0, 0), (75, .ireturn, 0, 0, 0, 0)]
/-- CardDrawer$Circle.rootOf(I)I -/
def cd26 : List pI := [(0, .iconst 0, 0, 0, 0, 0), (1, .istore_n 2, 2, 0, 0, 0), (2, .iload_n 1, 1, 0, 0, 0), (3, .istore_n 3, 3, 0, 0, 0), (4, .iconst 0, 0, 0, 0, 0), (5, .istore 4, 4, 0, 0, 0), (7, .nop, 1, 0, 0, 0), (7, .nop, 5, 0, 0, 0), (7, .iload 4, 4, 0, 0, 0), (9, .bipush 12, 0, 0, 12, 0), (11, .if_icmp .ge 51, 62, 0, 0, 0), (14, .iload_n 2, 2, 0, 0, 0), (15, .iconst 1, 0, 0, 1, 0), (16, .iload_n 3, 3, 0, 0, 0), (17, .ishl, 0, 0, 0, 0), (18, .ior, 0, 0, 0, 0), (19, .istore_n 2, 2, 0, 0, 0), (20, .aload_n 0, 0, 0, 0, 0), (21, .getfield 22, 1, 1, 0, 12), (24, .getfield 26, 1, 10, 0, 13), (27, .iload_n 3, 3, 0, 0, 0), (28, .iaload, 0, 0, 0, 0), (29, .istore 5, 5, 0, 0, 0), (31, .iload 5, 5, 0, 0, 0), (33, .bipush 12, 0, 0, 12, 0), (35, .invokestatic 31, 153, 1, 0, 18), (38, .ifCond .ne 5, 43, 0, 0, 0), (41, .iload_n 3, 3, 0, 0, 0), (42, .ireturn, 0, 0, 0, 0), (43, .iload 5, 5, 0, 0, 0), (45, .istore_n 3, 3, 0, 0, 0), (46, .iload_n 2, 2, 0, 0, 0), (47, .iload_n 3, 3, 0, 0, 0), (48, .invokestatic 35, 154, 1, 0, 19), (51, .ifCond .eq 5, 56, 0, 0, 0), (54, .iload_n 3, 3, 0, 0, 0), (55, .ireturn, 0, 0, 0, 0), (56, .iinc 4 1, 4, 0, 1, 0), (59, .goto (-52), 7, 0, 0, 0), (62, .iload_n 3, 3, 0, 0, 0), (63, .ireturn, 0, 0, 0, 0)]
/-- CardDrawer$Circle.tellers()I -/
def cd27 : List pI := [(0, .aload_n 0, 0, 0, 0, 0), (1, .invokevirtual 42, 20, 1, 0, 21), (4, .aload_n 0, 0, 0, 0, 0), (5, .getfield 18, 0, 1, 0, 11), (8, .aload_n 0, 0, 0, 0, 0), (9, .getfield 18, 0, 1, 0, 11), (12, .getfield 72, 2, 3, 0, 17), (15, .invokevirtual 56, 46, 1, 0, 24), (18, .ior, 0, 0, 0, 0), (19, .bipush (-2), 0, 0, (-2), 0), (21, .iand, 0, 0, 0, 0), (22, .istore_n 1, 1, 0, 0, 0), (23, .iload_n 1, 1, 0, 0, 0), (24, .istore_n 2, 2, 0, 0, 0), (25, .iconst 0, 0, 0, 0, 0), (26, .istore_n 3, 3, 0, 0, 0), (27, .iconst 0, 0, 0, 0, 0), (28, .istore 4, 4, 0, 0, 0), (30, .iload 4, 4, 0, 0, 0), (32, .sipush 4096, 0, 0, 4096, 0), (35, .if_icmp .ge 42, 77, 0, 0, 0), (38, .iload_n 3, 3, 0, 0, 0), (39, .iload_n 1, 1, 0, 0, 0), (40, .if_icmp .eq 37, 77, 0, 0, 0), (43, .iload_n 3, 3, 0, 0, 0), (44, .invokestatic 75, 285, 1, 0, 26), (47, .iload_n 2, 2, 0, 0, 0), (48, .invokestatic 75, 285, 1, 0, 26), (51, .if_icmp .ge 14, 65, 0, 0, 0), (54, .aload_n 0, 0, 0, 0, 0), (55, .iload_n 3, 3, 0, 0, 0), (56, .iload_n 1, 1, 0, 0, 0), (57, .invokevirtual 80, 28, 1, 0, 27), (60, .ifCond .eq 5, 65, 0, 0, 0), (63, .iload_n 3, 3, 0, 0, 0), (64, .istore_n 2, 2, 0, 0, 0), (65, .iload_n 3, 3, 0, 0, 0), (66, .iload_n 1, 1, 0, 0, 0), (67, .isub, 0, 0, 0, 0), (68, .iload_n 1, 1, 0, 0, 0), (69, .iand, 0, 0, 0, 0), (70, .istore_n 3, 3, 0, 0, 0), (71, .iinc 4 1, 4, 0, 1, 0), (74, .goto (-44), 30, 0, 0, 0), (77, .iload_n 2, 2, 0, 0, 0), (78, .ireturn, 0, 0, 0, 0)]
/-- CardDrawer$Circle.isHeardByAll(II)Z -/
def cd28 : List pI := [(0, .iload_n 2, 2, 0, 0, 0), (1, .iload_n 1, 1, 0, 0, 0), (2, .aload_n 0, 0, 0, 0, 0), (3, .iload_n 1, 1, 0, 0, 0), (4, .invokevirtual 38, 21, 1, 0, 20), (7, .ior, 0, 0, 0, 0), (8, .iconst (-1), 0, 0, (-1), 0), (9, .ixor, 0, 0, 0, 0), (10, .iand, 0, 0, 0, 0), (11, .ifCond .ne 7, 18, 0, 0, 0), (14, .iconst 1, 0, 0, 1, 0), (15, .goto 4, 19, 0, 0, 0), (18, .iconst 0, 0, 0, 0, 0), (19, .ireturn, 1, 0, 0, 0)]
/-- CardDrawer$Circle.hearers(II)I -/
def cd29 : List pI := [(0, .aload_n 0, 0, 0, 0, 0), (1, .invokevirtual 42, 20, 1, 0, 21), (4, .pop, 0, 0, 0, 0), (5, .iconst 1, 0, 0, 1, 0), (6, .iload_n 2, 2, 0, 0, 0), (7, .ishl, 0, 0, 0, 0), (8, .istore_n 3, 3, 0, 0, 0), (9, .iconst 0, 0, 0, 0, 0), (10, .istore 4, 4, 0, 0, 0), (12, .nop, 2, 0, 0, 0), (12, .iload 4, 4, 0, 0, 0), (14, .bipush 12, 0, 0, 12, 0), (16, .if_icmp .ge 21, 37, 0, 0, 0), (19, .iload_n 3, 3, 0, 0, 0), (20, .aload_n 0, 0, 0, 0, 0), (21, .iload_n 3, 3, 0, 0, 0), (22, .invokevirtual 38, 21, 1, 0, 20), (25, .iload_n 1, 1, 0, 0, 0), (26, .iconst (-1), 0, 0, (-1), 0), (27, .ixor, 0, 0, 0, 0), (28, .iand, 0, 0, 0, 0), (29, .ior, 0, 0, 0, 0), (30, .istore_n 3, 3, 0, 0, 0), (31, .iinc 4 1, 4, 0, 1, 0), (34, .goto (-22), 12, 0, 0, 0), (37, .iload_n 3, 3, 0, 0, 0), (38, .ireturn, 0, 0, 0, 0)]
/-- CardDrawer$Circle.writers()I -/
def cd30 : List pI := [(0, .aload_n 0, 0, 0, 0, 0), (1, .getfield 18, 0, 1, 0, 11), (4, .aload_n 0, 0, 0, 0, 0), (5, .getfield 18, 0, 1, 0, 11), (8, .getfield 72, 2, 3, 0, 17), (11, .invokevirtual 56, 46, 1, 0, 24), (14, .istore_n 1, 1, 0, 0, 0), (15, .iconst 0, 0, 0, 0, 0), (16, .istore_n 2, 2, 0, 0, 0), (17, .nop, 3, 0, 0, 0), (17, .iload_n 2, 2, 0, 0, 0), (18, .aload_n 0, 0, 0, 0, 0), (19, .getfield 22, 1, 1, 0, 12), (22, .getfield 83, 7, 10, 0, 18), (25, .getfield 87, 2, 8, 0, 19), (28, .if_icmp .ge 64, 92, 0, 0, 0), (31, .aload_n 0, 0, 0, 0, 0), (32, .aload_n 0, 0, 0, 0, 0), (33, .getfield 22, 1, 1, 0, 12), (36, .getfield 83, 7, 10, 0, 18), (39, .iload_n 2, 2, 0, 0, 0), (40, .iconst 0, 0, 0, 0, 0), (41, .invokevirtual 92, 97, 1, 0, 28), (44, .aload_n 0, 0, 0, 0, 0), (45, .getfield 22, 1, 1, 0, 12), (48, .getfield 83, 7, 10, 0, 18), (51, .iload_n 2, 2, 0, 0, 0), (52, .iconst 1, 0, 0, 1, 0), (53, .invokevirtual 92, 97, 1, 0, 28), (56, .invokevirtual 95, 31, 1, 0, 29), (59, .istore_n 3, 3, 0, 0, 0), (60, .iload_n 1, 1, 0, 0, 0), (61, .aload_n 0, 0, 0, 0, 0), (62, .getfield 22, 1, 1, 0, 12), (65, .getfield 83, 7, 10, 0, 18), (68, .iload_n 2, 2, 0, 0, 0), (69, .iconst 2, 0, 0, 2, 0), (70, .invokevirtual 92, 97, 1, 0, 28), (73, .iconst 1, 0, 0, 1, 0), (74, .if_icmp .ne 7, 81, 0, 0, 0), (77, .iload_n 3, 3, 0, 0, 0), (78, .goto 6, 84, 0, 0, 0), (81, .iload_n 3, 3, 0, 0, 0), (82, .iconst (-1), 0, 0, (-1), 0), (83, .ixor, 0, 0, 0, 0), (84, .iand, 0, 0, 0, 0), (85, .istore_n 1, 1, 0, 0, 0), (86, .iinc 2 1, 2, 0, 1, 0), (89, .goto (-72), 17, 0, 0, 0), (92, .iload_n 1, 1, 0, 0, 0), (93, .ireturn, 0, 0, 0, 0)]
/-- CardDrawer$Circle.peopleFor(II)I -/
def cd31 : List pI := [(0, .iload_n 1, 1, 0, 0, 0), (1, .tableswitch 78 0 2 #[27, 44, 61], 0, 0, 0, 0), (28, .aload_n 0, 0, 0, 0, 0), (29, .getfield 18, 0, 1, 0, 11), (32, .aload_n 0, 0, 0, 0, 0), (33, .getfield 18, 0, 1, 0, 11), (36, .iconst 2, 0, 0, 2, 0), (37, .iload_n 2, 2, 0, 0, 0), (38, .invokevirtual 50, 45, 1, 0, 23), (41, .invokevirtual 56, 46, 1, 0, 24), (44, .ireturn, 0, 0, 0, 0), (45, .aload_n 0, 0, 0, 0, 0), (46, .getfield 18, 0, 1, 0, 11), (49, .aload_n 0, 0, 0, 0, 0), (50, .getfield 18, 0, 1, 0, 11), (53, .iconst 1, 0, 0, 1, 0), (54, .iload_n 2, 2, 0, 0, 0), (55, .invokevirtual 50, 45, 1, 0, 23), (58, .invokevirtual 56, 46, 1, 0, 24), (61, .ireturn, 0, 0, 0, 0), (62, .aload_n 0, 0, 0, 0, 0), (63, .getfield 18, 0, 1, 0, 11), (66, .aload_n 0, 0, 0, 0, 0), (67, .getfield 18, 0, 1, 0, 11), (70, .iconst 4, 0, 0, 4, 0), (71, .iload_n 2, 2, 0, 0, 0), (72, .invokevirtual 50, 45, 1, 0, 23), (75, .invokevirtual 56, 46, 1, 0, 24), (78, .ireturn, 0, 0, 0, 0), (79, .iload_n 2, 2, 0, 0, 0), (80, .bipush 12, 0, 0, 12, 0), (82, .invokestatic 31, 153, 1, 0, 18), (85, .ifCond .eq 11, 96, 0, 0, 0), (88, .aload_n 0, 0, 0, 0, 0), (89, .iload_n 2, 2, 0, 0, 0), (90, .invokevirtual 98, 25, 1, 0, 30), (93, .goto 4, 97, 0, 0, 0), (96, .iconst 0, 0, 0, 0, 0), (97, .ireturn, 0, 0, 0, 0)]
/-- CardDrawer$Circle.askNext(I)I -/
def cd32 : List pI := [(0, .iload_n 1, 1, 0, 0, 0), (1, .invokestatic 75, 285, 1, 0, 26), (4, .istore_n 2, 2, 0, 0, 0), (5, .iload_n 2, 2, 0, 0, 0), (6, .iconst 2, 0, 0, 2, 0), (7, .if_icmp .ge 5, 12, 0, 0, 0), (10, .iconst (-1), 0, 0, (-1), 0), (11, .ireturn, 0, 0, 0, 0), (12, .iconst (-1), 0, 0, (-1), 0), (13, .istore_n 3, 3, 0, 0, 0), (14, .iload_n 2, 2, 0, 0, 0), (15, .iconst 1, 0, 0, 1, 0), (16, .iadd, 0, 0, 0, 0), (17, .istore 4, 4, 0, 0, 0), (19, .iconst 0, 0, 0, 0, 0), (20, .istore 5, 5, 0, 0, 0), (22, .nop, 6, 0, 0, 0), (22, .nop, 7, 0, 0, 0), (22, .iload 5, 5, 0, 0, 0), (24, .bipush 6, 0, 0, 6, 0), (26, .if_icmp .ge 58, 84, 0, 0, 0), (29, .iload_n 1, 1, 0, 0, 0), (30, .aload_n 0, 0, 0, 0, 0), (31, .getfield 18, 0, 1, 0, 11), (34, .aload_n 0, 0, 0, 0, 0), (35, .getfield 18, 0, 1, 0, 11), (38, .iconst 2, 0, 0, 2, 0), (39, .iload 5, 5, 0, 0, 0), (41, .invokevirtual 50, 45, 1, 0, 23), (44, .invokevirtual 56, 46, 1, 0, 24), (47, .iand, 0, 0, 0, 0), (48, .invokestatic 75, 285, 1, 0, 26), (51, .istore 6, 6, 0, 0, 0), (53, .iload 6, 6, 0, 0, 0), (55, .iload_n 2, 2, 0, 0, 0), (56, .iload 6, 6, 0, 0, 0), (58, .isub, 0, 0, 0, 0), (59, .invokestatic 101, 9004, 0, 0, 0), (62, .istore 7, 7, 0, 0, 0), (64, .iload 7, 7, 0, 0, 0), (66, .iload 4, 4, 0, 0, 0), (68, .if_icmp .ge 10, 78, 0, 0, 0), (71, .iload 7, 7, 0, 0, 0), (73, .istore 4, 4, 0, 0, 0), (75, .iload 5, 5, 0, 0, 0), (77, .istore_n 3, 3, 0, 0, 0), (78, .iinc 5 1, 5, 0, 1, 0), (81, .goto (-59), 22, 0, 0, 0), (84, .iload_n 3, 3, 0, 0, 0), (85, .ireturn, 0, 0, 0, 0)]
/-- CardDrawer$Dating.<init>(LCardDrawer$Drawer;LCardDrawer$Told;)V -/
def cd33 : List pI := [(0, .aload_n 0, 0, 0, 0, 0), (1, .invokespecial 3, 9000, 0, 0, 0), (4, .aload_n 0, 0, 0, 0, 0), (5, .bipush 14, 0, 0, 14, 0), (7, .newarray .int, 0, 0, 0, 0), (9, .putfield 9, 2, 2, 2, 20), (12, .aload_n 0, 0, 0, 0, 0), (13, .bipush 14, 0, 0, 14, 0), (15, .newarray .int, 0, 0, 0, 0), (17, .putfield 15, 3, 2, 2, 21), (20, .aload_n 0, 0, 0, 0, 0), (21, .aload_n 1, 1, 0, 0, 0), (22, .putfield 18, 0, 2, 2, 22), (25, .aload_n 0, 0, 0, 0, 0), (26, .aload_n 2, 2, 0, 0, 0), (27, .putfield 22, 1, 2, 2, 23), (30, .return_, 0, 0, 0, 0)]
/-- CardDrawer$Dating.narrow()Z -/
def cd34 : List pI := [(0, .iconst 0, 0, 0, 0, 0), (1, .istore_n 1, 1, 0, 0, 0), (2, .nop, 2, 0, 0, 0), (2, .iload_n 1, 1, 0, 0, 0), (3, .aload_n 0, 0, 0, 0, 0), (4, .getfield 18, 0, 2, 0, 22), (7, .getfield 26, 1, 3, 0, 24), (10, .if_icmp .ge 49, 59, 0, 0, 0), (13, .aload_n 0, 0, 0, 0, 0), (14, .getfield 18, 0, 2, 0, 22), (17, .iload_n 1, 1, 0, 0, 0), (18, .iconst 1, 0, 0, 1, 0), (19, .invokevirtual 32, 40, 1, 0, 31), (22, .istore_n 2, 2, 0, 0, 0), (23, .aload_n 0, 0, 0, 0, 0), (24, .getfield 9, 2, 2, 0, 20), (27, .iload_n 1, 1, 0, 0, 0), (28, .aload_n 0, 0, 0, 0, 0), (29, .getfield 22, 1, 2, 0, 23), (32, .getfield 36, 2, 10, 0, 25), (35, .iload_n 2, 2, 0, 0, 0), (36, .iaload, 0, 0, 0, 0), (37, .iastore, 0, 0, 0, 0), (38, .aload_n 0, 0, 0, 0, 0), (39, .getfield 15, 3, 2, 0, 21), (42, .iload_n 1, 1, 0, 0, 0), (43, .aload_n 0, 0, 0, 0, 0), (44, .getfield 22, 1, 2, 0, 23), (47, .getfield 41, 3, 10, 0, 26), (50, .iload_n 2, 2, 0, 0, 0), (51, .iaload, 0, 0, 0, 0), (52, .iastore, 0, 0, 0, 0), (53, .iinc 1 1, 1, 0, 1, 0), (56, .goto (-54), 2, 0, 0, 0), (59, .iconst 0, 0, 0, 0, 0), (60, .istore_n 1, 1, 0, 0, 0), (61, .nop, 2, 0, 0, 0), (61, .iload_n 1, 1, 0, 0, 0), (62, .bipush 14, 0, 0, 14, 0), (64, .if_icmp .ge 59, 123, 0, 0, 0), (67, .iconst 0, 0, 0, 0, 0), (68, .istore_n 2, 2, 0, 0, 0), (69, .iload_n 2, 2, 0, 0, 0), (70, .aload_n 0, 0, 0, 0, 0), (71, .getfield 22, 1, 2, 0, 23), (74, .getfield 44, 5, 10, 0, 27), (77, .getfield 48, 2, 8, 0, 28), (80, .if_icmp .ge 37, 117, 0, 0, 0), (83, .aload_n 0, 0, 0, 0, 0), (84, .aload_n 0, 0, 0, 0, 0), (85, .getfield 22, 1, 2, 0, 23), (88, .getfield 44, 5, 10, 0, 27), (91, .iload_n 2, 2, 0, 0, 0), (92, .iconst 0, 0, 0, 0, 0), (93, .invokevirtual 53, 97, 1, 0, 32), (96, .aload_n 0, 0, 0, 0, 0), (97, .getfield 22, 1, 2, 0, 23), (100, .getfield 44, 5, 10, 0, 27), (103, .iload_n 2, 2, 0, 0, 0), (104, .iconst 1, 0, 0, 1, 0), (105, .invokevirtual 53, 97, 1, 0, 32), (108, .invokevirtual 56, 35, 0, 0, 33), (111, .iinc 2 1, 2, 0, 1, 0), (114, .goto (-45), 69, 0, 0, 0), (117, .iinc 1 1, 1, 0, 1, 0), (120, .goto (-59), 61, 0, 0, 0), (123, .iconst 0, 0, 0, 0, 0), (124, .istore_n 1, 1, 0, 0, 0), (125, .nop, 2, 0, 0, 0), (125, .iload_n 1, 1, 0, 0, 0), (126, .aload_n 0, 0, 0, 0, 0), (127, .getfield 18, 0, 2, 0, 22), (130, .getfield 26, 1, 3, 0, 24), (133, .if_icmp .ge 26, 159, 0, 0, 0), (136, .aload_n 0, 0, 0, 0, 0), (137, .getfield 9, 2, 2, 0, 20), (140, .iload_n 1, 1, 0, 0, 0), (141, .iaload, 0, 0, 0, 0), (142, .aload_n 0, 0, 0, 0, 0), (143, .getfield 15, 3, 2, 0, 21), (146, .iload_n 1, 1, 0, 0, 0), (147, .iaload, 0, 0, 0, 0), (148, .if_icmp .le 5, 153, 0, 0, 0), (151, .iconst 0, 0, 0, 0, 0), (152, .ireturn, 1, 0, 0, 0), (153, .iinc 1 1, 1, 0, 1, 0), (156, .goto (-31), 125, 0, 0, 0), (159, .iconst 1, 0, 0, 1, 0), (160, .ireturn, 1, 0, 0, 0)]
/-- CardDrawer$Dating.order(II)V -/
def cd35 : List pI := [(0, .aload_n 0, 0, 0, 0, 0), (1, .getfield 18, 0, 2, 0, 22), (4, .iload_n 1, 1, 0, 0, 0), (5, .invokevirtual 60, 38, 1, 0, 34), (8, .ifCond .eq 56, 64, 0, 0, 0), (11, .aload_n 0, 0, 0, 0, 0), (12, .getfield 18, 0, 2, 0, 22), (15, .iload_n 2, 2, 0, 0, 0), (16, .invokevirtual 60, 38, 1, 0, 34), (19, .ifCond .eq 45, 64, 0, 0, 0), (22, .aload_n 0, 0, 0, 0, 0), (23, .getfield 9, 2, 2, 0, 20), (26, .iload_n 2, 2, 0, 0, 0), (27, .aload_n 0, 0, 0, 0, 0), (28, .getfield 9, 2, 2, 0, 20), (31, .iload_n 2, 2, 0, 0, 0), (32, .iaload, 0, 0, 0, 0), (33, .aload_n 0, 0, 0, 0, 0), (34, .getfield 9, 2, 2, 0, 20), (37, .iload_n 1, 1, 0, 0, 0), (38, .iaload, 0, 0, 0, 0), (39, .invokestatic 64, 9004, 0, 0, 0), (42, .iastore, 0, 0, 0, 0), (43, .aload_n 0, 0, 0, 0, 0), (44, .getfield 15, 3, 2, 0, 21), (47, .iload_n 1, 1, 0, 0, 0), (48, .aload_n 0, 0, 0, 0, 0), (49, .getfield 15, 3, 2, 0, 21), (52, .iload_n 1, 1, 0, 0, 0), (53, .iaload, 0, 0, 0, 0), (54, .aload_n 0, 0, 0, 0, 0), (55, .getfield 15, 3, 2, 0, 21), (58, .iload_n 2, 2, 0, 0, 0), (59, .iaload, 0, 0, 0, 0), (60, .invokestatic 69, 9005, 0, 0, 0), (63, .iastore, 0, 0, 0, 0), (64, .return_, 0, 0, 0, 0)]
/-- CardDrawer$Drawer.<init>()V -/
def cd36 : List pI := [(0, .aload_n 0, 0, 0, 0, 0), (1, .invokespecial 3, 9000, 0, 0, 0), (4, .aload_n 0, 0, 0, 0, 0), (5, .bipush 98, 0, 0, 98, 0), (7, .newarray .int, 0, 0, 0, 0), (9, .putfield 9, 0, 3, 2, 29), (12, .return_, 0, 0, 0, 0)]
/-- CardDrawer$Drawer.copyFrom(LCardDrawer$Drawer;)V -/
def cd37 : List pI := [(0, .aload_n 1, 1, 0, 0, 0), (1, .getfield 9, 0, 3, 0, 29), (4, .iconst 0, 0, 0, 0, 0), (5, .aload_n 0, 0, 0, 0, 0), (6, .getfield 9, 0, 3, 0, 29), (9, .iconst 0, 0, 0, 0, 0), (10, .aload_n 0, 0, 0, 0, 0), (11, .getfield 9, 0, 3, 0, 29), (14, .arraylength, 0, 0, 0, 0), (15, .invokestatic 15, 9001, 0, 0, 0), (18, .aload_n 0, 0, 0, 0, 0), (19, .aload_n 1, 1, 0, 0, 0), (20, .getfield 21, 1, 3, 0, 30), (23, .putfield 21, 1, 3, 0, 30), (26, .aload_n 0, 0, 0, 0, 0), (27, .aload_n 1, 1, 0, 0, 0), (28, .getfield 25, 2, 3, 0, 31), (31, .putfield 25, 2, 3, 0, 31), (34, .aload_n 0, 0, 0, 0, 0), (35, .aload_n 1, 1, 0, 0, 0), (36, .getfield 28, 3, 3, 0, 32), (39, .putfield 28, 3, 3, 0, 32), (42, .aload_n 0, 0, 0, 0, 0), (43, .aload_n 1, 1, 0, 0, 0), (44, .getfield 31, 4, 3, 0, 33), (47, .putfield 31, 4, 3, 0, 33), (50, .aload_n 0, 0, 0, 0, 0), (51, .aload_n 1, 1, 0, 0, 0), (52, .getfield 34, 5, 3, 0, 34), (55, .putfield 34, 5, 3, 0, 34), (58, .aload_n 0, 0, 0, 0, 0), (59, .aload_n 1, 1, 0, 0, 0), (60, .getfield 37, 6, 3, 0, 35), (63, .putfield 37, 6, 3, 0, 35), (66, .aload_n 0, 0, 0, 0, 0), (67, .aload_n 1, 1, 0, 0, 0), (68, .getfield 40, 7, 3, 0, 36), (71, .putfield 40, 7, 3, 0, 36), (74, .return_, 0, 0, 0, 0)]
/-- CardDrawer$Drawer.has(I)Z -/
def cd38 : List pI := [(0, .iload_n 1, 1, 0, 0, 0), (1, .ifCond .lt 15, 16, 0, 0, 0), (4, .iload_n 1, 1, 0, 0, 0), (5, .aload_n 0, 0, 0, 0, 0), (6, .getfield 21, 1, 3, 0, 30), (9, .if_icmp .ge 7, 16, 0, 0, 0), (12, .iconst 1, 0, 0, 1, 0), (13, .goto 4, 17, 0, 0, 0), (16, .iconst 0, 0, 0, 0, 0), (17, .ireturn, 1, 0, 0, 0)]
/-- CardDrawer$Drawer.isKept(I)Z -/
def cd39 : List pI := [(0, .aload_n 0, 0, 0, 0, 0), (1, .getfield 25, 2, 3, 0, 31), (4, .iload_n 1, 1, 0, 0, 0), (5, .invokestatic 43, 154, 1, 0, 35), (8, .ireturn, 1, 0, 0, 0)]
/-- CardDrawer$Drawer.read(II)I -/
def cd40 : List pI := [(0, .aload_n 0, 0, 0, 0, 0), (1, .getfield 9, 0, 3, 0, 29), (4, .iload_n 2, 2, 0, 0, 0), (5, .bipush 14, 0, 0, 14, 0), (7, .imul, 0, 0, 0, 0), (8, .iload_n 1, 1, 0, 0, 0), (9, .iadd, 0, 0, 0, 0), (10, .iaload, 0, 0, 0, 0), (11, .ireturn, 0, 0, 0, 0)]
/-- CardDrawer$Drawer.write(III)V -/
def cd41 : List pI := [(0, .aload_n 0, 0, 0, 0, 0), (1, .getfield 9, 0, 3, 0, 29), (4, .iload_n 2, 2, 0, 0, 0), (5, .bipush 14, 0, 0, 14, 0), (7, .imul, 0, 0, 0, 0), (8, .iload_n 1, 1, 0, 0, 0), (9, .iadd, 0, 0, 0, 0), (10, .iload_n 3, 3, 0, 0, 0), (11, .iastore, 0, 0, 0, 0), (12, .return_, 0, 0, 0, 0)]
/-- CardDrawer$Drawer.put(IIII)I -/
def cd42 : List pI := [(0, .aload_n 0, 0, 0, 0, 0), (1, .getfield 21, 1, 3, 0, 30), (4, .istore 5, 5, 0, 0, 0), (6, .aload_n 0, 0, 0, 0, 0), (7, .iload 5, 5, 0, 0, 0), (9, .iconst 0, 0, 0, 0, 0), (10, .iload_n 1, 1, 0, 0, 0), (11, .invokevirtual 47, 41, 0, 0, 36), (14, .aload_n 0, 0, 0, 0, 0), (15, .iload 5, 5, 0, 0, 0), (17, .iconst 1, 0, 0, 1, 0), (18, .iload_n 2, 2, 0, 0, 0), (19, .invokevirtual 47, 41, 0, 0, 36), (22, .aload_n 0, 0, 0, 0, 0), (23, .iload 5, 5, 0, 0, 0), (25, .iconst 2, 0, 0, 2, 0), (26, .iload_n 3, 3, 0, 0, 0), (27, .invokevirtual 47, 41, 0, 0, 36), (30, .aload_n 0, 0, 0, 0, 0), (31, .iload 5, 5, 0, 0, 0), (33, .iconst 3, 0, 0, 3, 0), (34, .iload 4, 4, 0, 0, 0), (36, .invokevirtual 47, 41, 0, 0, 36), (39, .aload_n 0, 0, 0, 0, 0), (40, .iload 5, 5, 0, 0, 0), (42, .iconst 4, 0, 0, 4, 0), (43, .iconst 0, 0, 0, 0, 0), (44, .invokevirtual 47, 41, 0, 0, 36), (47, .aload_n 0, 0, 0, 0, 0), (48, .iload 5, 5, 0, 0, 0), (50, .iconst 5, 0, 0, 5, 0), (51, .iconst 0, 0, 0, 0, 0), (52, .invokevirtual 47, 41, 0, 0, 36), (55, .aload_n 0, 0, 0, 0, 0), (56, .iload 5, 5, 0, 0, 0), (58, .bipush 6, 0, 0, 6, 0), (60, .iconst 0, 0, 0, 0, 0), (61, .invokevirtual 47, 41, 0, 0, 36), (64, .aload_n 0, 0, 0, 0, 0), (65, .dup, 0, 0, 0, 0), (66, .getfield 25, 2, 3, 0, 31), (69, .iconst 1, 0, 0, 1, 0), (70, .iload 5, 5, 0, 0, 0), (72, .ishl, 0, 0, 0, 0), (73, .ior, 0, 0, 0, 0), (74, .putfield 25, 2, 3, 0, 31), (77, .aload_n 0, 0, 0, 0, 0), (78, .dup, 0, 0, 0, 0), (79, .getfield 21, 1, 3, 0, 30), (82, .iconst 1, 0, 0, 1, 0), (83, .iadd, 0, 0, 0, 0), (84, .putfield 21, 1, 3, 0, 30), (87, .iload 5, 5, 0, 0, 0), (89, .ireturn, 0, 0, 0, 0)]
/-- CardDrawer$Drawer.drop(I)V -/
def cd43 : List pI := [(0, .aload_n 0, 0, 0, 0, 0), (1, .dup, 0, 0, 0, 0), (2, .getfield 25, 2, 3, 0, 31), (5, .iconst 1, 0, 0, 1, 0), (6, .iload_n 1, 1, 0, 0, 0), (7, .ishl, 0, 0, 0, 0), (8, .iconst (-1), 0, 0, (-1), 0), (9, .ixor, 0, 0, 0, 0), (10, .iand, 0, 0, 0, 0), (11, .putfield 25, 2, 3, 0, 31), (14, .return_, 0, 0, 0, 0)]
/-- CardDrawer$Drawer.wear(II)V -/
def cd44 : List pI := [(0, .aload_n 0, 0, 0, 0, 0), (1, .iload_n 1, 1, 0, 0, 0), (2, .iconst 5, 0, 0, 5, 0), (3, .bipush 99, 0, 0, 99, 0), (5, .aload_n 0, 0, 0, 0, 0), (6, .iload_n 1, 1, 0, 0, 0), (7, .iconst 5, 0, 0, 5, 0), (8, .invokevirtual 51, 40, 1, 0, 37), (11, .iload_n 2, 2, 0, 0, 0), (12, .iadd, 0, 0, 0, 0), (13, .invokestatic 55, 9005, 0, 0, 0), (16, .invokevirtual 47, 41, 0, 0, 36), (19, .return_, 0, 0, 0, 0)]
/-- CardDrawer$Drawer.keptWith(II)I -/
def cd45 : List pI := [(0, .iconst 0, 0, 0, 0, 0), (1, .istore_n 3, 3, 0, 0, 0), (2, .iconst 0, 0, 0, 0, 0), (3, .istore 4, 4, 0, 0, 0), (5, .iload 4, 4, 0, 0, 0), (7, .aload_n 0, 0, 0, 0, 0), (8, .getfield 21, 1, 3, 0, 30), (11, .if_icmp .ge 36, 47, 0, 0, 0), (14, .aload_n 0, 0, 0, 0, 0), (15, .iload 4, 4, 0, 0, 0), (17, .invokevirtual 60, 39, 1, 0, 38), (20, .ifCond .eq 21, 41, 0, 0, 0), (23, .aload_n 0, 0, 0, 0, 0), (24, .iload 4, 4, 0, 0, 0), (26, .iload_n 1, 1, 0, 0, 0), (27, .invokevirtual 51, 40, 1, 0, 37), (30, .iload_n 2, 2, 0, 0, 0), (31, .if_icmp .ne 10, 41, 0, 0, 0), (34, .iload_n 3, 3, 0, 0, 0), (35, .iconst 1, 0, 0, 1, 0), (36, .iload 4, 4, 0, 0, 0), (38, .ishl, 0, 0, 0, 0), (39, .ior, 0, 0, 0, 0), (40, .istore_n 3, 3, 0, 0, 0), (41, .iinc 4 1, 4, 0, 1, 0), (44, .goto (-39), 5, 0, 0, 0), (47, .iload_n 3, 3, 0, 0, 0), (48, .ireturn, 0, 0, 0, 0)]
/-- CardDrawer$Drawer.peopleOn(I)I -/
def cd46 : List pI := [(0, .iconst 0, 0, 0, 0, 0), (1, .istore_n 2, 2, 0, 0, 0), (2, .iconst 0, 0, 0, 0, 0), (3, .istore_n 3, 3, 0, 0, 0), (4, .iload_n 3, 3, 0, 0, 0), (5, .aload_n 0, 0, 0, 0, 0), (6, .getfield 21, 1, 3, 0, 30), (9, .if_icmp .ge 28, 37, 0, 0, 0), (12, .iload_n 1, 1, 0, 0, 0), (13, .iload_n 3, 3, 0, 0, 0), (14, .invokestatic 43, 154, 1, 0, 35), (17, .ifCond .eq 14, 31, 0, 0, 0), (20, .iload_n 2, 2, 0, 0, 0), (21, .iconst 1, 0, 0, 1, 0), (22, .aload_n 0, 0, 0, 0, 0), (23, .iload_n 3, 3, 0, 0, 0), (24, .iconst 0, 0, 0, 0, 0), (25, .invokevirtual 51, 40, 1, 0, 37), (28, .ishl, 0, 0, 0, 0), (29, .ior, 0, 0, 0, 0), (30, .istore_n 2, 2, 0, 0, 0), (31, .iinc 3 1, 3, 0, 1, 0), (34, .goto (-30), 4, 0, 0, 0), (37, .iload_n 2, 2, 0, 0, 0), (38, .ireturn, 0, 0, 0, 0)]
/-- CardDrawer$Drawer.draw(I)I -/
def cd47 : List pI := [(0, .aload_n 0, 0, 0, 0, 0), (1, .aload_n 0, 0, 0, 0, 0), (2, .getfield 40, 7, 3, 0, 36), (5, .ldc 64, 0, 0, 1664525, 0), (7, .imul, 0, 0, 0, 0), (8, .ldc 65, 0, 0, 1013904223, 0), (10, .iadd, 0, 0, 0, 0), (11, .putfield 40, 7, 3, 0, 36), (14, .aload_n 0, 0, 0, 0, 0), (15, .getfield 40, 7, 3, 0, 36), (18, .bipush 8, 0, 0, 8, 0), (20, .iushr, 0, 0, 0, 0), (21, .iload_n 1, 1, 0, 0, 0), (22, .irem, 0, 0, 0, 0), (23, .ireturn, 0, 0, 0, 0)]
/-- CardDrawer$History.<init>()V -/
def cd48 : List pI := [(0, .aload_n 0, 0, 0, 0, 0), (1, .invokespecial 1, 9000, 0, 0, 0), (4, .aload_n 0, 0, 0, 0, 0), (5, .bipush 6, 0, 0, 6, 0), (7, .anewarray 9, 0, 3, 0, 0), (10, .putfield 11, 0, 4, 2, 37), (13, .aload_n 0, 0, 0, 0, 0), (14, .bipush 6, 0, 0, 6, 0), (16, .newarray .int, 0, 0, 0, 0), (18, .putfield 15, 1, 4, 2, 38), (21, .iconst 0, 0, 0, 0, 0), (22, .istore_n 1, 1, 0, 0, 0), (23, .iload_n 1, 1, 0, 0, 0), (24, .bipush 6, 0, 0, 6, 0), (26, .if_icmp .ge 22, 48, 0, 0, 0), (29, .aload_n 0, 0, 0, 0, 0), (30, .getfield 11, 0, 4, 0, 37), (33, .iload_n 1, 1, 0, 0, 0), (34, .new 9, 0, 3, 0, 0), (37, .dup, 0, 0, 0, 0), (38, .invokespecial 19, 36, 0, 0, 39), (41, .aastore, 0, 3, 0, 0), (42, .iinc 1 1, 1, 0, 1, 0), (45, .goto (-22), 23, 0, 0, 0), (48, .return_, 0, 0, 0, 0)]
/-- CardDrawer$History.forget()V -/
def cd49 : List pI := [(0, .aload_n 0, 0, 0, 0, 0), (1, .iconst 0, 0, 0, 0, 0), (2, .putfield 20, 2, 4, 0, 39), (5, .return_, 0, 0, 0, 0)]
/-- CardDrawer$History.remember(LCardDrawer$Drawer;I)V -/
def cd50 : List pI := [(0, .aload_n 0, 0, 0, 0, 0), (1, .getfield 20, 2, 4, 0, 39), (4, .bipush 6, 0, 0, 6, 0), (6, .if_icmp .ne 7, 13, 0, 0, 0), (9, .aload_n 0, 0, 0, 0, 0), (10, .invokevirtual 24, 51, 0, 0, 40), (13, .aload_n 0, 0, 0, 0, 0), (14, .getfield 11, 0, 4, 0, 37), (17, .aload_n 0, 0, 0, 0, 0), (18, .getfield 20, 2, 4, 0, 39), (21, .aaload, 0, 0, 0, 0), (22, .aload_n 1, 1, 0, 0, 0), (23, .invokevirtual 27, 37, 0, 0, 41), (26, .aload_n 0, 0, 0, 0, 0), (27, .getfield 15, 1, 4, 0, 38), (30, .aload_n 0, 0, 0, 0, 0), (31, .getfield 20, 2, 4, 0, 39), (34, .iload_n 2, 2, 0, 0, 0), (35, .iastore, 0, 0, 0, 0), (36, .aload_n 0, 0, 0, 0, 0), (37, .dup, 0, 0, 0, 0), (38, .getfield 20, 2, 4, 0, 39), (41, .iconst 1, 0, 0, 1, 0), (42, .iadd, 0, 0, 0, 0), (43, .putfield 20, 2, 4, 0, 39), (46, .return_, 0, 0, 0, 0)]
/-- CardDrawer$History.dropOldest()V -/
def cd51 : List pI := [(0, .aload_n 0, 0, 0, 0, 0), (1, .getfield 11, 0, 4, 0, 37), (4, .iconst 0, 0, 0, 0, 0), (5, .aaload, 0, 0, 0, 0), (6, .astore_n 1, 1, 0, 0, 0), (7, .iconst 1, 0, 0, 1, 0), (8, .istore_n 2, 2, 0, 0, 0), (9, .iload_n 2, 2, 0, 0, 0), (10, .bipush 6, 0, 0, 6, 0), (12, .if_icmp .ge 37, 49, 0, 0, 0), (15, .aload_n 0, 0, 0, 0, 0), (16, .getfield 11, 0, 4, 0, 37), (19, .iload_n 2, 2, 0, 0, 0), (20, .iconst 1, 0, 0, 1, 0), (21, .isub, 0, 0, 0, 0), (22, .aload_n 0, 0, 0, 0, 0), (23, .getfield 11, 0, 4, 0, 37), (26, .iload_n 2, 2, 0, 0, 0), (27, .aaload, 0, 0, 0, 0), (28, .aastore, 0, 3, 0, 0), (29, .aload_n 0, 0, 0, 0, 0), (30, .getfield 15, 1, 4, 0, 38), (33, .iload_n 2, 2, 0, 0, 0), (34, .iconst 1, 0, 0, 1, 0), (35, .isub, 0, 0, 0, 0), (36, .aload_n 0, 0, 0, 0, 0), (37, .getfield 15, 1, 4, 0, 38), (40, .iload_n 2, 2, 0, 0, 0), (41, .iaload, 0, 0, 0, 0), (42, .iastore, 0, 0, 0, 0), (43, .iinc 2 1, 2, 0, 1, 0), (46, .goto (-37), 9, 0, 0, 0), (49, .aload_n 0, 0, 0, 0, 0), (50, .getfield 11, 0, 4, 0, 37), (53, .iconst 5, 0, 0, 5, 0), (54, .aload_n 1, 1, 0, 0, 0), (55, .aastore, 0, 3, 0, 0), (56, .aload_n 0, 0, 0, 0, 0), (57, .iconst 5, 0, 0, 5, 0), (58, .putfield 20, 2, 4, 0, 39), (61, .return_, 0, 0, 0, 0)]
/-- CardDrawer$History.goBack(LCardDrawer$Drawer;LCardDrawer$Rows;)Z -/
def cd52 : List pI := [(0, .aload_n 0, 0, 0, 0, 0), (1, .getfield 20, 2, 4, 0, 39), (4, .ifCond .ne 5, 9, 0, 0, 0), (7, .iconst 0, 0, 0, 0, 0), (8, .ireturn, 1, 0, 0, 0), (9, .aload_n 0, 0, 0, 0, 0), (10, .dup, 0, 0, 0, 0), (11, .getfield 20, 2, 4, 0, 39), (14, .iconst 1, 0, 0, 1, 0), (15, .isub, 0, 0, 0, 0), (16, .putfield 20, 2, 4, 0, 39), (19, .aload_n 1, 1, 0, 0, 0), (20, .aload_n 0, 0, 0, 0, 0), (21, .getfield 11, 0, 4, 0, 37), (24, .aload_n 0, 0, 0, 0, 0), (25, .getfield 20, 2, 4, 0, 39), (28, .aaload, 0, 0, 0, 0), (29, .invokevirtual 27, 37, 0, 0, 41), (32, .aload_n 2, 2, 0, 0, 0), (33, .aload_n 0, 0, 0, 0, 0), (34, .getfield 15, 1, 4, 0, 38), (37, .aload_n 0, 0, 0, 0, 0), (38, .getfield 20, 2, 4, 0, 39), (41, .iaload, 0, 0, 0, 0), (42, .putfield 31, 2, 8, 0, 40), (45, .iconst 1, 0, 0, 1, 0), (46, .ireturn, 1, 0, 0, 0)]
/-- CardDrawer$Keeper.<init>(LCardDrawer$Drawer;LCardDrawer$Told;LCardDrawer$Rows;Z)V -/
def cd53 : List pI := [(0, .aload_n 0, 0, 0, 0, 0), (1, .invokespecial 3, 9000, 0, 0, 0), (4, .aload_n 0, 0, 0, 0, 0), (5, .aload_n 1, 1, 0, 0, 0), (6, .putfield 9, 0, 5, 2, 41), (9, .aload_n 0, 0, 0, 0, 0), (10, .aload_n 2, 2, 0, 0, 0), (11, .putfield 15, 1, 5, 2, 42), (14, .aload_n 0, 0, 0, 0, 0), (15, .aload_n 3, 3, 0, 0, 0), (16, .putfield 19, 2, 5, 2, 43), (19, .aload_n 0, 0, 0, 0, 0), (20, .iload 4, 4, 0, 0, 0), (22, .putfield 23, 3, 5, 1, 44), (25, .return_, 0, 0, 0, 0)]
/-- CardDrawer$Keeper.enter(III)V -/
def cd54 : List pI := [(0, .aload_n 0, 0, 0, 0, 0), (1, .getfield 19, 2, 5, 0, 43), (4, .aload_n 0, 0, 0, 0, 0), (5, .getfield 9, 0, 5, 0, 41), (8, .getfield 27, 3, 3, 0, 45), (11, .iload_n 1, 1, 0, 0, 0), (12, .iload_n 2, 2, 0, 0, 0), (13, .iload_n 3, 3, 0, 0, 0), (14, .invokevirtual 33, 95, 1, 0, 42), (17, .pop, 0, 0, 0, 0), (18, .return_, 0, 0, 0, 0)]
/-- CardDrawer$Keeper.likeliest(I)I -/
def cd55 : List pI := [(0, .iconst (-1), 0, 0, (-1), 0), (1, .istore_n 2, 2, 0, 0, 0), (2, .aload_n 0, 0, 0, 0, 0), (3, .iconst (-1), 0, 0, (-1), 0), (4, .putfield 39, 4, 5, 0, 46), (7, .iconst 0, 0, 0, 0, 0), (8, .istore_n 3, 3, 0, 0, 0), (9, .nop, 4, 0, 0, 0), (9, .iload_n 3, 3, 0, 0, 0), (10, .aload_n 0, 0, 0, 0, 0), (11, .getfield 9, 0, 5, 0, 41), (14, .getfield 42, 1, 3, 0, 47), (17, .if_icmp .ge 52, 69, 0, 0, 0), (20, .iload_n 1, 1, 0, 0, 0), (21, .iload_n 3, 3, 0, 0, 0), (22, .invokestatic 45, 154, 1, 0, 43), (25, .ifCond .eq 38, 63, 0, 0, 0), (28, .aload_n 0, 0, 0, 0, 0), (29, .getfield 15, 1, 5, 0, 42), (32, .getfield 49, 0, 10, 0, 48), (35, .aload_n 0, 0, 0, 0, 0), (36, .getfield 9, 0, 5, 0, 41), (39, .iload_n 3, 3, 0, 0, 0), (40, .iconst 0, 0, 0, 0, 0), (41, .invokevirtual 55, 72, 1, 0, 44), (44, .istore 4, 4, 0, 0, 0), (46, .iload 4, 4, 0, 0, 0), (48, .aload_n 0, 0, 0, 0, 0), (49, .getfield 39, 4, 5, 0, 46), (52, .if_icmp .le 11, 63, 0, 0, 0), (55, .aload_n 0, 0, 0, 0, 0), (56, .iload 4, 4, 0, 0, 0), (58, .putfield 39, 4, 5, 0, 46), (61, .iload_n 3, 3, 0, 0, 0), (62, .istore_n 2, 2, 0, 0, 0), (63, .iinc 3 1, 3, 0, 1, 0), (66, .goto (-57), 9, 0, 0, 0), (69, .iload_n 2, 2, 0, 0, 0), (70, .ireturn, 0, 0, 0, 0)]
/-- CardDrawer$Keeper.sumOfHolds()I -/
def cd56 : List pI := [(0, .iconst 0, 0, 0, 0, 0), (1, .istore_n 1, 1, 0, 0, 0), (2, .iconst 0, 0, 0, 0, 0), (3, .istore_n 2, 2, 0, 0, 0), (4, .iload_n 2, 2, 0, 0, 0), (5, .aload_n 0, 0, 0, 0, 0), (6, .getfield 9, 0, 5, 0, 41), (9, .getfield 42, 1, 3, 0, 47), (12, .if_icmp .ge 39, 51, 0, 0, 0), (15, .aload_n 0, 0, 0, 0, 0), (16, .getfield 9, 0, 5, 0, 41), (19, .iload_n 2, 2, 0, 0, 0), (20, .invokevirtual 61, 39, 1, 0, 45), (23, .ifCond .eq 22, 45, 0, 0, 0), (26, .iload_n 1, 1, 0, 0, 0), (27, .aload_n 0, 0, 0, 0, 0), (28, .getfield 15, 1, 5, 0, 42), (31, .getfield 49, 0, 10, 0, 48), (34, .aload_n 0, 0, 0, 0, 0), (35, .getfield 9, 0, 5, 0, 41), (38, .iload_n 2, 2, 0, 0, 0), (39, .iconst 0, 0, 0, 0, 0), (40, .invokevirtual 55, 72, 1, 0, 44), (43, .iadd, 0, 0, 0, 0), (44, .istore_n 1, 1, 0, 0, 0), (45, .iinc 2 1, 2, 0, 1, 0), (48, .goto (-44), 4, 0, 0, 0), (51, .iload_n 1, 1, 0, 0, 0), (52, .ireturn, 0, 0, 0, 0)]
/-- CardDrawer$Keeper.reaches(I)Z -/
def cd57 : List pI := [(0, .aload_n 0, 0, 0, 0, 0), (1, .getfield 9, 0, 5, 0, 41), (4, .iload_n 1, 1, 0, 0, 0), (5, .bipush 6, 0, 0, 6, 0), (7, .aload_n 0, 0, 0, 0, 0), (8, .getfield 9, 0, 5, 0, 41), (11, .iload_n 1, 1, 0, 0, 0), (12, .bipush 6, 0, 0, 6, 0), (14, .invokevirtual 65, 40, 1, 0, 46), (17, .iconst 1, 0, 0, 1, 0), (18, .iadd, 0, 0, 0, 0), (19, .invokevirtual 69, 41, 0, 0, 47), (22, .aload_n 0, 0, 0, 0, 0), (23, .getfield 23, 3, 5, 0, 44), (26, .ifCond .eq 21, 47, 0, 0, 0), (29, .aload_n 0, 0, 0, 0, 0), (30, .getfield 39, 4, 5, 0, 46), (33, .sipush 500, 0, 0, 500, 0), (36, .if_icmp .lt 7, 43, 0, 0, 0), (39, .iconst 1, 0, 0, 1, 0), (40, .goto 29, 69, 0, 0, 0), (43, .iconst 0, 0, 0, 0, 0), (44, .goto 25, 69, 0, 0, 0), (47, .aload_n 0, 0, 0, 0, 0), (48, .getfield 9, 0, 5, 0, 41), (51, .sipush 1000, 0, 0, 1000, 0), (54, .invokevirtual 73, 47, 1, 0, 48), (57, .aload_n 0, 0, 0, 0, 0), (58, .getfield 39, 4, 5, 0, 46), (61, .if_icmp .ge 7, 68, 0, 0, 0), (64, .iconst 1, 0, 0, 1, 0), (65, .goto 4, 69, 0, 0, 0), (68, .iconst 0, 0, 0, 0, 0), (69, .ireturn, 1, 0, 0, 0)]
/-- CardDrawer$Keeper.ringPerson(I)I -/
def cd58 : List pI := [(0, .aload_n 0, 0, 0, 0, 0), (1, .aload_n 0, 0, 0, 0, 0), (2, .getfield 9, 0, 5, 0, 41), (5, .iconst 0, 0, 0, 0, 0), (6, .iload_n 1, 1, 0, 0, 0), (7, .invokevirtual 77, 45, 1, 0, 49), (10, .invokevirtual 80, 55, 1, 0, 50), (13, .istore_n 2, 2, 0, 0, 0), (14, .iload_n 2, 2, 0, 0, 0), (15, .iconst (-1), 0, 0, (-1), 0), (16, .if_icmp .ne 5, 21, 0, 0, 0), (19, .iconst (-1), 0, 0, (-1), 0), (20, .ireturn, 0, 0, 0, 0), (21, .aload_n 0, 0, 0, 0, 0), (22, .iload_n 2, 2, 0, 0, 0), (23, .invokevirtual 83, 57, 1, 0, 51), (26, .istore_n 3, 3, 0, 0, 0), (27, .aload_n 0, 0, 0, 0, 0), (28, .iload_n 3, 3, 0, 0, 0), (29, .ifCond .eq 7, 36, 0, 0, 0), (32, .iconst 0, 0, 0, 0, 0), (33, .goto 4, 37, 0, 0, 0), (36, .iconst 1, 0, 0, 1, 0), (37, .nop, 1, 0, 0, 0), (37, .iload_n 2, 2, 0, 0, 0), (38, .aload_n 0, 0, 0, 0, 0), (39, .getfield 39, 4, 5, 0, 46), (42, .invokevirtual 86, 54, 0, 0, 52), (45, .iload_n 3, 3, 0, 0, 0), (46, .ifCond .eq 21, 67, 0, 0, 0), (49, .aload_n 0, 0, 0, 0, 0), (50, .getfield 9, 0, 5, 0, 41), (53, .iload_n 2, 2, 0, 0, 0), (54, .iconst 3, 0, 0, 3, 0), (55, .aload_n 0, 0, 0, 0, 0), (56, .getfield 9, 0, 5, 0, 41), (59, .getfield 27, 3, 3, 0, 45), (62, .invokevirtual 69, 41, 0, 0, 47), (65, .iconst 1, 0, 0, 1, 0), (66, .ireturn, 0, 0, 0, 0), (67, .aload_n 0, 0, 0, 0, 0), (68, .getfield 9, 0, 5, 0, 41), (71, .iload_n 2, 2, 0, 0, 0), (72, .bipush 9, 0, 0, 9, 0), (74, .invokevirtual 89, 44, 0, 0, 53), (77, .iconst 0, 0, 0, 0, 0), (78, .ireturn, 0, 0, 0, 0)]
/-- CardDrawer$Keeper.throwCards(I)I -/
def cd59 : List pI := [(0, .iconst 0, 0, 0, 0, 0), (1, .istore_n 2, 2, 0, 0, 0), (2, .iconst 0, 0, 0, 0, 0), (3, .istore_n 3, 3, 0, 0, 0), (4, .iload_n 3, 3, 0, 0, 0), (5, .iload_n 1, 1, 0, 0, 0), (6, .if_icmp .ge 19, 25, 0, 0, 0), (9, .aload_n 0, 0, 0, 0, 0), (10, .invokevirtual 93, 60, 1, 0, 54), (13, .ifCond .eq 12, 25, 0, 0, 0), (16, .iinc 2 1, 2, 0, 1, 0), (19, .iinc 3 1, 3, 0, 1, 0), (22, .goto (-18), 4, 0, 0, 0), (25, .iload_n 2, 2, 0, 0, 0), (26, .ireturn, 0, 0, 0, 0)]
/-- CardDrawer$Keeper.throwLeast()Z -/
def cd60 : List pI := [(0, .iconst (-1), 0, 0, (-1), 0), (1, .istore_n 1, 1, 0, 0, 0), (2, .iconst 0, 0, 0, 0, 0), (3, .istore_n 2, 2, 0, 0, 0), (4, .iconst 0, 0, 0, 0, 0), (5, .istore_n 3, 3, 0, 0, 0), (6, .nop, 4, 0, 0, 0), (6, .iload_n 3, 3, 0, 0, 0), (7, .aload_n 0, 0, 0, 0, 0), (8, .getfield 9, 0, 5, 0, 41), (11, .getfield 42, 1, 3, 0, 47), (14, .if_icmp .ge 54, 68, 0, 0, 0), (17, .aload_n 0, 0, 0, 0, 0), (18, .getfield 9, 0, 5, 0, 41), (21, .iload_n 3, 3, 0, 0, 0), (22, .invokevirtual 61, 39, 1, 0, 45), (25, .ifCond .eq 37, 62, 0, 0, 0), (28, .aload_n 0, 0, 0, 0, 0), (29, .getfield 15, 1, 5, 0, 42), (32, .getfield 49, 0, 10, 0, 48), (35, .aload_n 0, 0, 0, 0, 0), (36, .getfield 9, 0, 5, 0, 41), (39, .iload_n 3, 3, 0, 0, 0), (40, .iconst 2, 0, 0, 2, 0), (41, .invokevirtual 55, 72, 1, 0, 44), (44, .istore 4, 4, 0, 0, 0), (46, .iload_n 1, 1, 0, 0, 0), (47, .iconst (-1), 0, 0, (-1), 0), (48, .if_icmp .eq 9, 57, 0, 0, 0), (51, .iload 4, 4, 0, 0, 0), (53, .iload_n 2, 2, 0, 0, 0), (54, .if_icmp .ge 8, 62, 0, 0, 0), (57, .iload 4, 4, 0, 0, 0), (59, .istore_n 2, 2, 0, 0, 0), (60, .iload_n 3, 3, 0, 0, 0), (61, .istore_n 1, 1, 0, 0, 0), (62, .iinc 3 1, 3, 0, 1, 0), (65, .goto (-59), 6, 0, 0, 0), (68, .iload_n 1, 1, 0, 0, 0), (69, .iconst (-1), 0, 0, (-1), 0), (70, .if_icmp .ne 5, 75, 0, 0, 0), (73, .iconst 0, 0, 0, 0, 0), (74, .ireturn, 1, 0, 0, 0), (75, .aload_n 0, 0, 0, 0, 0), (76, .getfield 9, 0, 5, 0, 41), (79, .iload_n 1, 1, 0, 0, 0), (80, .invokevirtual 97, 43, 0, 0, 55), (83, .aload_n 0, 0, 0, 0, 0), (84, .iconst 2, 0, 0, 2, 0), (85, .iload_n 1, 1, 0, 0, 0), (86, .iload_n 2, 2, 0, 0, 0), (87, .invokevirtual 86, 54, 0, 0, 52), (90, .iconst 1, 0, 0, 1, 0), (91, .ireturn, 1, 0, 0, 0)]
/-- CardDrawer$Keeper.bendCard(I)V -/
def cd61 : List pI := [(0, .iconst 1, 0, 0, 1, 0), (1, .aload_n 0, 0, 0, 0, 0), (2, .getfield 9, 0, 5, 0, 41), (5, .iload_n 1, 1, 0, 0, 0), (6, .iconst 4, 0, 0, 4, 0), (7, .invokevirtual 65, 40, 1, 0, 46), (10, .isub, 0, 0, 0, 0), (11, .istore_n 2, 2, 0, 0, 0), (12, .aload_n 0, 0, 0, 0, 0), (13, .getfield 9, 0, 5, 0, 41), (16, .iload_n 1, 1, 0, 0, 0), (17, .iconst 4, 0, 0, 4, 0), (18, .iload_n 2, 2, 0, 0, 0), (19, .invokevirtual 69, 41, 0, 0, 47), (22, .aload_n 0, 0, 0, 0, 0), (23, .iconst 3, 0, 0, 3, 0), (24, .iload_n 1, 1, 0, 0, 0), (25, .iload_n 2, 2, 0, 0, 0), (26, .invokevirtual 86, 54, 0, 0, 52), (29, .return_, 0, 0, 0, 0)]
/-- CardDrawer$Keeper.findCard(I)V -/
def cd62 : List pI := [(0, .aload_n 0, 0, 0, 0, 0), (1, .getfield 9, 0, 5, 0, 41), (4, .iload_n 1, 1, 0, 0, 0), (5, .invokevirtual 61, 39, 1, 0, 45), (8, .ifCond .eq 4, 12, 0, 0, 0), (11, .return_, 0, 0, 0, 0), (12, .aload_n 0, 0, 0, 0, 0), (13, .getfield 9, 0, 5, 0, 41), (16, .dup, 0, 0, 0, 0), (17, .getfield 101, 2, 3, 0, 49), (20, .iconst 1, 0, 0, 1, 0), (21, .iload_n 1, 1, 0, 0, 0), (22, .ishl, 0, 0, 0, 0), (23, .ior, 0, 0, 0, 0), (24, .putfield 101, 2, 3, 0, 49), (27, .aload_n 0, 0, 0, 0, 0), (28, .getfield 9, 0, 5, 0, 41), (31, .iload_n 1, 1, 0, 0, 0), (32, .iconst 5, 0, 0, 5, 0), (33, .iconst 0, 0, 0, 0, 0), (34, .invokevirtual 69, 41, 0, 0, 47), (37, .aload_n 0, 0, 0, 0, 0), (38, .iconst 4, 0, 0, 4, 0), (39, .iload_n 1, 1, 0, 0, 0), (40, .iconst 0, 0, 0, 0, 0), (41, .invokevirtual 86, 54, 0, 0, 52), (44, .return_, 0, 0, 0, 0)]
/-- CardDrawer$Keeper.passYear()V -/
def cd63 : List pI := [(0, .iconst 0, 0, 0, 0, 0), (1, .istore_n 1, 1, 0, 0, 0), (2, .iload_n 1, 1, 0, 0, 0), (3, .aload_n 0, 0, 0, 0, 0), (4, .getfield 15, 1, 5, 0, 42), (7, .getfield 104, 4, 10, 0, 50), (10, .getfield 107, 2, 8, 0, 51), (13, .if_icmp .ge 59, 72, 0, 0, 0), (16, .aload_n 0, 0, 0, 0, 0), (17, .getfield 15, 1, 5, 0, 42), (20, .getfield 104, 4, 10, 0, 50), (23, .iload_n 1, 1, 0, 0, 0), (24, .iconst 0, 0, 0, 0, 0), (25, .invokevirtual 110, 97, 1, 0, 56), (28, .aload_n 0, 0, 0, 0, 0), (29, .getfield 9, 0, 5, 0, 41), (32, .getfield 27, 3, 3, 0, 45), (35, .if_icmp .ne 31, 66, 0, 0, 0), (38, .aload_n 0, 0, 0, 0, 0), (39, .aload_n 0, 0, 0, 0, 0), (40, .getfield 15, 1, 5, 0, 42), (43, .getfield 104, 4, 10, 0, 50), (46, .iload_n 1, 1, 0, 0, 0), (47, .iconst 1, 0, 0, 1, 0), (48, .invokevirtual 110, 97, 1, 0, 56), (51, .aload_n 0, 0, 0, 0, 0), (52, .getfield 15, 1, 5, 0, 42), (55, .getfield 104, 4, 10, 0, 50), (58, .iload_n 1, 1, 0, 0, 0), (59, .iconst 2, 0, 0, 2, 0), (60, .invokevirtual 110, 97, 1, 0, 56), (63, .invokevirtual 113, 64, 0, 0, 57), (66, .iinc 1 1, 1, 0, 1, 0), (69, .goto (-67), 2, 0, 0, 0), (72, .aload_n 0, 0, 0, 0, 0), (73, .invokevirtual 116, 65, 0, 0, 58), (76, .iconst 0, 0, 0, 0, 0), (77, .istore_n 1, 1, 0, 0, 0), (78, .iload_n 1, 1, 0, 0, 0), (79, .aload_n 0, 0, 0, 0, 0), (80, .getfield 9, 0, 5, 0, 41), (83, .getfield 42, 1, 3, 0, 47), (86, .if_icmp .ge 25, 111, 0, 0, 0), (89, .aload_n 0, 0, 0, 0, 0), (90, .getfield 9, 0, 5, 0, 41), (93, .iload_n 1, 1, 0, 0, 0), (94, .invokevirtual 61, 39, 1, 0, 45), (97, .ifCond .eq 8, 105, 0, 0, 0), (100, .aload_n 0, 0, 0, 0, 0), (101, .iload_n 1, 1, 0, 0, 0), (102, .invokevirtual 119, 66, 0, 0, 59), (105, .iinc 1 1, 1, 0, 1, 0), (108, .goto (-30), 78, 0, 0, 0), (111, .aload_n 0, 0, 0, 0, 0), (112, .getfield 9, 0, 5, 0, 41), (115, .dup, 0, 0, 0, 0), (116, .getfield 27, 3, 3, 0, 45), (119, .iconst 1, 0, 0, 1, 0), (120, .iadd, 0, 0, 0, 0), (121, .putfield 27, 3, 3, 0, 45), (124, .return_, 0, 0, 0, 0)]
/-- CardDrawer$Keeper.carryOut(II)V -/
def cd64 : List pI := [(0, .iload_n 1, 1, 0, 0, 0), (1, .sipush 320, 0, 0, 320, 0), (4, .if_icmp .ne 12, 16, 0, 0, 0), (7, .aload_n 0, 0, 0, 0, 0), (8, .iload_n 2, 2, 0, 0, 0), (9, .invokevirtual 122, 59, 1, 0, 60), (12, .pop, 0, 0, 0, 0), (13, .goto 50, 63, 0, 0, 0), (16, .iload_n 1, 1, 0, 0, 0), (17, .sipush 321, 0, 0, 321, 0), (20, .if_icmp .ne 12, 32, 0, 0, 0), (23, .aload_n 0, 0, 0, 0, 0), (24, .iload_n 2, 2, 0, 0, 0), (25, .invokevirtual 125, 58, 1, 0, 61), (28, .pop, 0, 0, 0, 0), (29, .goto 34, 63, 0, 0, 0), (32, .aload_n 0, 0, 0, 0, 0), (33, .getfield 9, 0, 5, 0, 41), (36, .iload_n 2, 2, 0, 0, 0), (37, .invokevirtual 128, 38, 1, 0, 62), (40, .ifCond .eq 23, 63, 0, 0, 0), (43, .iload_n 1, 1, 0, 0, 0), (44, .sipush 322, 0, 0, 322, 0), (47, .if_icmp .ne 11, 58, 0, 0, 0), (50, .aload_n 0, 0, 0, 0, 0), (51, .iload_n 2, 2, 0, 0, 0), (52, .invokevirtual 131, 61, 0, 0, 63), (55, .goto 8, 63, 0, 0, 0), (58, .aload_n 0, 0, 0, 0, 0), (59, .iload_n 2, 2, 0, 0, 0), (60, .invokevirtual 134, 62, 0, 0, 64), (63, .return_, 0, 0, 0, 0)]
/-- CardDrawer$Keeper.wantTrade()V -/
def cd65 : List pI := [(0, .aload_n 0, 0, 0, 0, 0), (1, .getfield 23, 3, 5, 0, 44), (4, .ifCond .eq 16, 20, 0, 0, 0), (7, .aload_n 0, 0, 0, 0, 0), (8, .getfield 9, 0, 5, 0, 41), (11, .getfield 27, 3, 3, 0, 45), (14, .bipush 6, 0, 0, 6, 0), (16, .irem, 0, 0, 0, 0), (17, .goto 12, 29, 0, 0, 0), (20, .aload_n 0, 0, 0, 0, 0), (21, .getfield 9, 0, 5, 0, 41), (24, .bipush 6, 0, 0, 6, 0), (26, .invokevirtual 73, 47, 1, 0, 48), (29, .nop, 1, 0, 0, 0), (29, .nop, 2, 0, 0, 0), (29, .istore_n 1, 1, 0, 0, 0), (30, .aload_n 0, 0, 0, 0, 0), (31, .aload_n 0, 0, 0, 0, 0), (32, .getfield 9, 0, 5, 0, 41), (35, .iconst 2, 0, 0, 2, 0), (36, .iload_n 1, 1, 0, 0, 0), (37, .invokevirtual 77, 45, 1, 0, 49), (40, .invokevirtual 80, 55, 1, 0, 50), (43, .istore_n 2, 2, 0, 0, 0), (44, .iload_n 2, 2, 0, 0, 0), (45, .iconst (-1), 0, 0, (-1), 0), (46, .if_icmp .ne 27, 73, 0, 0, 0), (49, .aload_n 0, 0, 0, 0, 0), (50, .getfield 9, 0, 5, 0, 41), (53, .dup, 0, 0, 0, 0), (54, .getfield 137, 6, 3, 0, 52), (57, .iconst 1, 0, 0, 1, 0), (58, .iadd, 0, 0, 0, 0), (59, .putfield 137, 6, 3, 0, 52), (62, .aload_n 0, 0, 0, 0, 0), (63, .bipush 7, 0, 0, 7, 0), (65, .iload_n 1, 1, 0, 0, 0), (66, .iconst 0, 0, 0, 0, 0), (67, .invokevirtual 86, 54, 0, 0, 52), (70, .goto 61, 131, 0, 0, 0), (73, .aload_n 0, 0, 0, 0, 0), (74, .iload_n 2, 2, 0, 0, 0), (75, .invokevirtual 83, 57, 1, 0, 51), (78, .ifCond .eq 29, 107, 0, 0, 0), (81, .aload_n 0, 0, 0, 0, 0), (82, .getfield 9, 0, 5, 0, 41), (85, .dup, 0, 0, 0, 0), (86, .getfield 140, 4, 3, 0, 53), (89, .iconst 1, 0, 0, 1, 0), (90, .iadd, 0, 0, 0, 0), (91, .putfield 140, 4, 3, 0, 53), (94, .aload_n 0, 0, 0, 0, 0), (95, .iconst 5, 0, 0, 5, 0), (96, .iload_n 2, 2, 0, 0, 0), (97, .aload_n 0, 0, 0, 0, 0), (98, .getfield 39, 4, 5, 0, 46), (101, .invokevirtual 86, 54, 0, 0, 52), (104, .goto 27, 131, 0, 0, 0), (107, .aload_n 0, 0, 0, 0, 0), (108, .getfield 9, 0, 5, 0, 41), (111, .dup, 0, 0, 0, 0), (112, .getfield 143, 5, 3, 0, 54), (115, .iconst 1, 0, 0, 1, 0), (116, .iadd, 0, 0, 0, 0), (117, .putfield 143, 5, 3, 0, 54), (120, .aload_n 0, 0, 0, 0, 0), (121, .bipush 6, 0, 0, 6, 0), (123, .iload_n 2, 2, 0, 0, 0), (124, .aload_n 0, 0, 0, 0, 0), (125, .getfield 39, 4, 5, 0, 46), (128, .invokevirtual 86, 54, 0, 0, 52), (131, .return_, 0, 0, 0, 0)]
/-- CardDrawer$Keeper.wearCard(I)V -/
def cd66 : List pI := [(0, .aload_n 0, 0, 0, 0, 0), (1, .getfield 9, 0, 5, 0, 41), (4, .iload_n 1, 1, 0, 0, 0), (5, .iconst 5, 0, 0, 5, 0), (6, .invokevirtual 65, 40, 1, 0, 46), (9, .istore_n 2, 2, 0, 0, 0), (10, .aload_n 0, 0, 0, 0, 0), (11, .getfield 9, 0, 5, 0, 41), (14, .iload_n 1, 1, 0, 0, 0), (15, .aload_n 0, 0, 0, 0, 0), (16, .getfield 15, 1, 5, 0, 42), (19, .getfield 49, 0, 10, 0, 48), (22, .aload_n 0, 0, 0, 0, 0), (23, .getfield 9, 0, 5, 0, 41), (26, .iload_n 1, 1, 0, 0, 0), (27, .iconst 1, 0, 0, 1, 0), (28, .invokevirtual 55, 72, 1, 0, 44), (31, .invokevirtual 89, 44, 0, 0, 53), (34, .aload_n 0, 0, 0, 0, 0), (35, .getfield 9, 0, 5, 0, 41), (38, .iload_n 1, 1, 0, 0, 0), (39, .iconst 5, 0, 0, 5, 0), (40, .invokevirtual 65, 40, 1, 0, 46), (43, .bipush 99, 0, 0, 99, 0), (45, .if_icmp .lt 19, 64, 0, 0, 0), (48, .aload_n 0, 0, 0, 0, 0), (49, .getfield 9, 0, 5, 0, 41), (52, .iload_n 1, 1, 0, 0, 0), (53, .invokevirtual 97, 43, 0, 0, 55), (56, .aload_n 0, 0, 0, 0, 0), (57, .bipush 8, 0, 0, 8, 0), (59, .iload_n 1, 1, 0, 0, 0), (60, .iload_n 2, 2, 0, 0, 0), (61, .invokevirtual 86, 54, 0, 0, 52), (64, .return_, 0, 0, 0, 0)]
/-- CardDrawer$Law.<init>()V -/
def cd67 : List pI := [(0, .aload_n 0, 0, 0, 0, 0), (1, .invokespecial 3, 9000, 0, 0, 0), (4, .aload_n 0, 0, 0, 0, 0), (5, .sipush 400, 0, 0, 400, 0), (8, .newarray .int, 0, 0, 0, 0), (10, .putfield 9, 0, 6, 2, 55), (13, .aload_n 0, 0, 0, 0, 0), (14, .bipush 16, 0, 0, 16, 0), (16, .newarray .int, 0, 0, 0, 0), (18, .putfield 15, 1, 6, 2, 56), (21, .aload_n 0, 0, 0, 0, 0), (22, .bipush 16, 0, 0, 16, 0), (24, .newarray .int, 0, 0, 0, 0), (26, .putfield 18, 2, 6, 2, 57), (29, .aload_n 0, 0, 0, 0, 0), (30, .bipush 16, 0, 0, 16, 0), (32, .newarray .int, 0, 0, 0, 0), (34, .putfield 21, 3, 6, 2, 58), (37, .aload_n 0, 0, 0, 0, 0), (38, .bipush 16, 0, 0, 16, 0), (40, .newarray .int, 0, 0, 0, 0), (42, .putfield 24, 4, 6, 2, 59), (45, .aload_n 0, 0, 0, 0, 0), (46, .bipush 9, 0, 0, 9, 0), (48, .newarray .int, 0, 0, 0, 0), (50, .putfield 27, 5, 6, 2, 60), (53, .aload_n 0, 0, 0, 0, 0), (54, .bipush 32, 0, 0, 32, 0), (56, .newarray .int, 0, 0, 0, 0), (58, .putfield 30, 6, 6, 2, 61), (61, .return_, 0, 0, 0, 0)]
/-- CardDrawer$Law.copyFrom(LCardDrawer$Law;)V -/
def cd68 : List pI := [(0, .aload_n 1, 1, 0, 0, 0), (1, .getfield 9, 0, 6, 0, 55), (4, .iconst 0, 0, 0, 0, 0), (5, .aload_n 0, 0, 0, 0, 0), (6, .getfield 9, 0, 6, 0, 55), (9, .iconst 0, 0, 0, 0, 0), (10, .aload_n 1, 1, 0, 0, 0), (11, .getfield 33, 7, 6, 0, 62), (14, .invokestatic 37, 9001, 0, 0, 0), (17, .aload_n 1, 1, 0, 0, 0), (18, .getfield 15, 1, 6, 0, 56), (21, .iconst 0, 0, 0, 0, 0), (22, .aload_n 0, 0, 0, 0, 0), (23, .getfield 15, 1, 6, 0, 56), (26, .iconst 0, 0, 0, 0, 0), (27, .bipush 16, 0, 0, 16, 0), (29, .invokestatic 37, 9001, 0, 0, 0), (32, .aload_n 1, 1, 0, 0, 0), (33, .getfield 18, 2, 6, 0, 57), (36, .iconst 0, 0, 0, 0, 0), (37, .aload_n 0, 0, 0, 0, 0), (38, .getfield 18, 2, 6, 0, 57), (41, .iconst 0, 0, 0, 0, 0), (42, .bipush 16, 0, 0, 16, 0), (44, .invokestatic 37, 9001, 0, 0, 0), (47, .aload_n 1, 1, 0, 0, 0), (48, .getfield 21, 3, 6, 0, 58), (51, .iconst 0, 0, 0, 0, 0), (52, .aload_n 0, 0, 0, 0, 0), (53, .getfield 21, 3, 6, 0, 58), (56, .iconst 0, 0, 0, 0, 0), (57, .bipush 16, 0, 0, 16, 0), (59, .invokestatic 37, 9001, 0, 0, 0), (62, .aload_n 1, 1, 0, 0, 0), (63, .getfield 24, 4, 6, 0, 59), (66, .iconst 0, 0, 0, 0, 0), (67, .aload_n 0, 0, 0, 0, 0), (68, .getfield 24, 4, 6, 0, 59), (71, .iconst 0, 0, 0, 0, 0), (72, .bipush 16, 0, 0, 16, 0), (74, .invokestatic 37, 9001, 0, 0, 0), (77, .aload_n 0, 0, 0, 0, 0), (78, .aload_n 1, 1, 0, 0, 0), (79, .getfield 33, 7, 6, 0, 62), (82, .putfield 33, 7, 6, 0, 62), (85, .aload_n 0, 0, 0, 0, 0), (86, .aload_n 1, 1, 0, 0, 0), (87, .getfield 43, 8, 6, 0, 63), (90, .putfield 43, 8, 6, 0, 63), (93, .return_, 0, 0, 0, 0)]
/-- CardDrawer$Law.clear()V -/
def cd69 : List pI := [(0, .aload_n 0, 0, 0, 0, 0), (1, .iconst 0, 0, 0, 0, 0), (2, .putfield 33, 7, 6, 0, 62), (5, .aload_n 0, 0, 0, 0, 0), (6, .iconst 0, 0, 0, 0, 0), (7, .putfield 43, 8, 6, 0, 63), (10, .return_, 0, 0, 0, 0)]
/-- CardDrawer$Law.add(I)V -/
def cd70 : List pI := [(0, .aload_n 0, 0, 0, 0, 0), (1, .getfield 33, 7, 6, 0, 62), (4, .aload_n 0, 0, 0, 0, 0), (5, .getfield 9, 0, 6, 0, 55), (8, .arraylength, 0, 0, 0, 0), (9, .if_icmp .ge 23, 32, 0, 0, 0), (12, .aload_n 0, 0, 0, 0, 0), (13, .getfield 9, 0, 6, 0, 55), (16, .aload_n 0, 0, 0, 0, 0), (17, .getfield 33, 7, 6, 0, 62), (20, .iload_n 1, 1, 0, 0, 0), (21, .iastore, 0, 0, 0, 0), (22, .aload_n 0, 0, 0, 0, 0), (23, .dup, 0, 0, 0, 0), (24, .getfield 33, 7, 6, 0, 62), (27, .iconst 1, 0, 0, 1, 0), (28, .iadd, 0, 0, 0, 0), (29, .putfield 33, 7, 6, 0, 62), (32, .return_, 0, 0, 0, 0)]
/-- CardDrawer$Law.addLine(III)V -/
def cd71 : List pI := [(0, .aload_n 0, 0, 0, 0, 0), (1, .getfield 43, 8, 6, 0, 63), (4, .bipush 16, 0, 0, 16, 0), (6, .if_icmp .ge 56, 62, 0, 0, 0), (9, .aload_n 0, 0, 0, 0, 0), (10, .getfield 15, 1, 6, 0, 56), (13, .aload_n 0, 0, 0, 0, 0), (14, .getfield 43, 8, 6, 0, 63), (17, .iload_n 1, 1, 0, 0, 0), (18, .iastore, 0, 0, 0, 0), (19, .aload_n 0, 0, 0, 0, 0), (20, .getfield 18, 2, 6, 0, 57), (23, .aload_n 0, 0, 0, 0, 0), (24, .getfield 43, 8, 6, 0, 63), (27, .iload_n 2, 2, 0, 0, 0), (28, .iastore, 0, 0, 0, 0), (29, .aload_n 0, 0, 0, 0, 0), (30, .getfield 21, 3, 6, 0, 58), (33, .aload_n 0, 0, 0, 0, 0), (34, .getfield 43, 8, 6, 0, 63), (37, .iload_n 3, 3, 0, 0, 0), (38, .iastore, 0, 0, 0, 0), (39, .aload_n 0, 0, 0, 0, 0), (40, .getfield 24, 4, 6, 0, 59), (43, .aload_n 0, 0, 0, 0, 0), (44, .getfield 43, 8, 6, 0, 63), (47, .aload_n 0, 0, 0, 0, 0), (48, .getfield 33, 7, 6, 0, 62), (51, .iastore, 0, 0, 0, 0), (52, .aload_n 0, 0, 0, 0, 0), (53, .dup, 0, 0, 0, 0), (54, .getfield 43, 8, 6, 0, 63), (57, .iconst 1, 0, 0, 1, 0), (58, .iadd, 0, 0, 0, 0), (59, .putfield 43, 8, 6, 0, 63), (62, .return_, 0, 0, 0, 0)]
/-- CardDrawer$Law.tell(LCardDrawer$Drawer;II)I -/
def cd72 : List pI := [(0, .iconst 0, 0, 0, 0, 0), (1, .istore 4, 4, 0, 0, 0), (3, .nop, 5, 0, 0, 0), (3, .nop, 6, 0, 0, 0), (3, .nop, 7, 0, 0, 0), (3, .iload 4, 4, 0, 0, 0), (5, .bipush 7, 0, 0, 7, 0), (7, .if_icmp .ge 23, 30, 0, 0, 0), (10, .aload_n 0, 0, 0, 0, 0), (11, .getfield 27, 5, 6, 0, 60), (14, .iload 4, 4, 0, 0, 0), (16, .aload_n 1, 1, 0, 0, 0), (17, .iload_n 2, 2, 0, 0, 0), (18, .iload 4, 4, 0, 0, 0), (20, .invokevirtual 46, 40, 1, 0, 65), (23, .iastore, 0, 0, 0, 0), (24, .iinc 4 1, 4, 0, 1, 0), (27, .goto (-24), 3, 0, 0, 0), (30, .iconst 0, 0, 0, 0, 0), (31, .aload_n 1, 1, 0, 0, 0), (32, .getfield 52, 3, 3, 0, 64), (35, .aload_n 1, 1, 0, 0, 0), (36, .iload_n 2, 2, 0, 0, 0), (37, .iconst 3, 0, 0, 3, 0), (38, .invokevirtual 46, 40, 1, 0, 65), (41, .isub, 0, 0, 0, 0), (42, .invokestatic 55, 9004, 0, 0, 0), (45, .istore 4, 4, 0, 0, 0), (47, .aload_n 0, 0, 0, 0, 0), (48, .getfield 27, 5, 6, 0, 60), (51, .bipush 7, 0, 0, 7, 0), (53, .iload 4, 4, 0, 0, 0), (55, .iastore, 0, 0, 0, 0), (56, .aload_n 0, 0, 0, 0, 0), (57, .getfield 27, 5, 6, 0, 60), (60, .bipush 8, 0, 0, 8, 0), (62, .aload_n 1, 1, 0, 0, 0), (63, .getfield 52, 3, 3, 0, 64), (66, .iastore, 0, 0, 0, 0), (67, .iconst 0, 0, 0, 0, 0), (68, .istore 5, 5, 0, 0, 0), (70, .nop, 1, 0, 0, 0), (70, .nop, 2, 0, 0, 0), (70, .nop, 6, 0, 0, 0), (70, .nop, 7, 0, 0, 0), (70, .iload 5, 5, 0, 0, 0), (72, .aload_n 0, 0, 0, 0, 0), (73, .getfield 43, 8, 6, 0, 63), (76, .if_icmp .ge 74, 150, 0, 0, 0), (79, .aload_n 0, 0, 0, 0, 0), (80, .getfield 21, 3, 6, 0, 58), (83, .iload 5, 5, 0, 0, 0), (85, .iaload, 0, 0, 0, 0), (86, .istore 6, 6, 0, 0, 0), (88, .aload_n 0, 0, 0, 0, 0), (89, .getfield 24, 4, 6, 0, 59), (92, .iload 5, 5, 0, 0, 0), (94, .iaload, 0, 0, 0, 0), (95, .istore 7, 7, 0, 0, 0), (97, .aload_n 0, 0, 0, 0, 0), (98, .getfield 15, 1, 6, 0, 56), (101, .iload 5, 5, 0, 0, 0), (103, .iaload, 0, 0, 0, 0), (104, .iload_n 3, 3, 0, 0, 0), (105, .if_icmp .ne 39, 144, 0, 0, 0), (108, .iload 6, 6, 0, 0, 0), (110, .iload 7, 7, 0, 0, 0), (112, .if_icmp .eq 14, 126, 0, 0, 0), (115, .aload_n 0, 0, 0, 0, 0), (116, .iload 6, 6, 0, 0, 0), (118, .iload 7, 7, 0, 0, 0), (120, .invokevirtual 60, 75, 1, 0, 66), (123, .ifCond .eq 21, 144, 0, 0, 0), (126, .nop, 1, 0, 0, 0), (126, .nop, 2, 0, 0, 0), (126, .nop, 4, 0, 0, 0), (126, .nop, 7, 0, 0, 0), (126, .iload_n 3, 3, 0, 0, 0), (127, .aload_n 0, 0, 0, 0, 0), (128, .aload_n 0, 0, 0, 0, 0), (129, .getfield 18, 2, 6, 0, 57), (132, .iload 5, 5, 0, 0, 0), (134, .iaload, 0, 0, 0, 0), (135, .iload 6, 6, 0, 0, 0), (137, .invokevirtual 60, 75, 1, 0, 66), (140, .invokestatic 63, 74, 1, 0, 67), (143, .ireturn, 0, 0, 0, 0), (144, .iinc 5 1, 5, 0, 1, 0), (147, .goto (-77), 70, 0, 0, 0), (150, .iload_n 3, 3, 0, 0, 0), (151, .iload_n 3, 3, 0, 0, 0), (152, .iload 4, 4, 0, 0, 0), (154, .invokestatic 66, 73, 1, 0, 68), (157, .invokestatic 63, 74, 1, 0, 67), (160, .ireturn, 0, 0, 0, 0)]
/-- CardDrawer$Law.unlessTold(II)I -/
def cd73 : List pI := [(0, .iload_n 0, 0, 0, 0, 0), (1, .lookupswitch 41 #[(0, 27), (1, 36)], 0, 0, 0, 0), (28, .sipush 900, 0, 0, 900, 0), (31, .bipush 20, 0, 0, 20, 0), (33, .iload_n 1, 1, 0, 0, 0), (34, .imul, 0, 0, 0, 0), (35, .isub, 0, 0, 0, 0), (36, .ireturn, 0, 0, 0, 0), (37, .iload_n 1, 1, 0, 0, 0), (38, .bipush 9, 0, 0, 9, 0), (40, .idiv, 0, 0, 0, 0), (41, .ireturn, 0, 0, 0, 0), (42, .bipush 99, 0, 0, 99, 0), (44, .iload_n 1, 1, 0, 0, 0), (45, .isub, 0, 0, 0, 0), (46, .ireturn, 0, 0, 0, 0)]
/-- CardDrawer$Law.held(II)I -/
def cd74 : List pI := [(0, .iload_n 0, 0, 0, 0, 0), (1, .ifCond .ne 9, 10, 0, 0, 0), (4, .sipush 1000, 0, 0, 1000, 0), (7, .goto 16, 23, 0, 0, 0), (10, .iload_n 0, 0, 0, 0, 0), (11, .iconst 1, 0, 0, 1, 0), (12, .if_icmp .ne 8, 20, 0, 0, 0), (15, .bipush 99, 0, 0, 99, 0), (17, .goto 6, 23, 0, 0, 0), (20, .sipush 999, 0, 0, 999, 0), (23, .nop, 0, 0, 0, 0), (23, .nop, 2, 0, 0, 0), (23, .istore_n 2, 2, 0, 0, 0), (24, .iconst 0, 0, 0, 0, 0), (25, .iload_n 2, 2, 0, 0, 0), (26, .iload_n 1, 1, 0, 0, 0), (27, .invokestatic 69, 9005, 0, 0, 0), (30, .invokestatic 55, 9004, 0, 0, 0), (33, .ireturn, 0, 0, 0, 0)]
/-- CardDrawer$Law.run(II)I -/
def cd75 : List pI := [(0, .iconst 0, 0, 0, 0, 0), (1, .istore_n 3, 3, 0, 0, 0), (2, .iload_n 1, 1, 0, 0, 0), (3, .istore 4, 4, 0, 0, 0), (5, .nop, 1, 0, 0, 0), (5, .nop, 5, 0, 0, 0), (5, .iload 4, 4, 0, 0, 0), (7, .iload_n 2, 2, 0, 0, 0), (8, .if_icmp .ge 159, 167, 0, 0, 0), (11, .aload_n 0, 0, 0, 0, 0), (12, .getfield 9, 0, 6, 0, 55), (15, .iload 4, 4, 0, 0, 0), (17, .iaload, 0, 0, 0, 0), (18, .istore 5, 5, 0, 0, 0), (20, .iload 5, 5, 0, 0, 0), (22, .sipush 1000, 0, 0, 1000, 0), (25, .if_icmp .ge 19, 44, 0, 0, 0), (28, .iload 5, 5, 0, 0, 0), (30, .sipush 307, 0, 0, 307, 0), (33, .if_icmp .lt 60, 93, 0, 0, 0), (36, .iload 5, 5, 0, 0, 0), (38, .sipush 315, 0, 0, 315, 0), (41, .if_icmp .gt 52, 93, 0, 0, 0), (44, .nop, 1, 0, 0, 0), (44, .iload_n 3, 3, 0, 0, 0), (45, .aload_n 0, 0, 0, 0, 0), (46, .getfield 30, 6, 6, 0, 61), (49, .arraylength, 0, 0, 0, 0), (50, .if_icmp .ge 111, 161, 0, 0, 0), (53, .aload_n 0, 0, 0, 0, 0), (54, .getfield 30, 6, 6, 0, 61), (57, .iload_n 3, 3, 0, 0, 0), (58, .iload 5, 5, 0, 0, 0), (60, .sipush 1000, 0, 0, 1000, 0), (63, .if_icmp .lt 12, 75, 0, 0, 0), (66, .iload 5, 5, 0, 0, 0), (68, .sipush 1000, 0, 0, 1000, 0), (71, .isub, 0, 0, 0, 0), (72, .goto 14, 86, 0, 0, 0), (75, .aload_n 0, 0, 0, 0, 0), (76, .getfield 27, 5, 6, 0, 60), (79, .iload 5, 5, 0, 0, 0), (81, .sipush 307, 0, 0, 307, 0), (84, .isub, 0, 0, 0, 0), (85, .iaload, 0, 0, 0, 0), (86, .iastore, 0, 0, 0, 0), (87, .iinc 3 1, 3, 0, 1, 0), (90, .goto 71, 161, 0, 0, 0), (93, .nop, 1, 0, 0, 0), (93, .iload 5, 5, 0, 0, 0), (95, .sipush 306, 0, 0, 306, 0), (98, .if_icmp .ne 28, 126, 0, 0, 0), (101, .iload_n 3, 3, 0, 0, 0), (102, .ifCond .le 59, 161, 0, 0, 0), (105, .aload_n 0, 0, 0, 0, 0), (106, .getfield 30, 6, 6, 0, 61), (109, .iload_n 3, 3, 0, 0, 0), (110, .iconst 1, 0, 0, 1, 0), (111, .isub, 0, 0, 0, 0), (112, .iconst 1, 0, 0, 1, 0), (113, .aload_n 0, 0, 0, 0, 0), (114, .getfield 30, 6, 6, 0, 61), (117, .iload_n 3, 3, 0, 0, 0), (118, .iconst 1, 0, 0, 1, 0), (119, .isub, 0, 0, 0, 0), (120, .iaload, 0, 0, 0, 0), (121, .isub, 0, 0, 0, 0), (122, .iastore, 0, 0, 0, 0), (123, .goto 38, 161, 0, 0, 0), (126, .iload_n 3, 3, 0, 0, 0), (127, .iconst 1, 0, 0, 1, 0), (128, .if_icmp .le 33, 161, 0, 0, 0), (131, .iinc 3 (-1), 3, 0, (-1), 0), (134, .aload_n 0, 0, 0, 0, 0), (135, .getfield 30, 6, 6, 0, 61), (138, .iload_n 3, 3, 0, 0, 0), (139, .iconst 1, 0, 0, 1, 0), (140, .isub, 0, 0, 0, 0), (141, .iload 5, 5, 0, 0, 0), (143, .aload_n 0, 0, 0, 0, 0), (144, .getfield 30, 6, 6, 0, 61), (147, .iload_n 3, 3, 0, 0, 0), (148, .iconst 1, 0, 0, 1, 0), (149, .isub, 0, 0, 0, 0), (150, .iaload, 0, 0, 0, 0), (151, .aload_n 0, 0, 0, 0, 0), (152, .getfield 30, 6, 6, 0, 61), (155, .iload_n 3, 3, 0, 0, 0), (156, .iaload, 0, 0, 0, 0), (157, .invokestatic 72, 76, 1, 0, 69), (160, .iastore, 0, 0, 0, 0), (161, .iinc 4 1, 4, 0, 1, 0), (164, .goto (-159), 5, 0, 0, 0), (167, .iload_n 3, 3, 0, 0, 0), (168, .ifCond .le 14, 182, 0, 0, 0), (171, .aload_n 0, 0, 0, 0, 0), (172, .getfield 30, 6, 6, 0, 61), (175, .iload_n 3, 3, 0, 0, 0), (176, .iconst 1, 0, 0, 1, 0), (177, .isub, 0, 0, 0, 0), (178, .iaload, 0, 0, 0, 0), (179, .goto 4, 183, 0, 0, 0), (182, .iconst 0, 0, 0, 0, 0), (183, .ireturn, 0, 0, 0, 0)]
/-- CardDrawer$Law.joined(III)I -/
def cd76 : List pI := [(0, .iload_n 0, 0, 0, 0, 0), (1, .lookupswitch 136 #[(42, 83), (43, 75), (45, 79), (47, 87), (60, 99), (61, 110), (62, 121), (305, 132)], 0, 0, 0, 0), (76, .iload_n 1, 1, 0, 0, 0), (77, .iload_n 2, 2, 0, 0, 0), (78, .iadd, 0, 0, 0, 0), (79, .ireturn, 0, 0, 0, 0), (80, .iload_n 1, 1, 0, 0, 0), (81, .iload_n 2, 2, 0, 0, 0), (82, .isub, 0, 0, 0, 0), (83, .ireturn, 0, 0, 0, 0), (84, .iload_n 1, 1, 0, 0, 0), (85, .iload_n 2, 2, 0, 0, 0), (86, .imul, 0, 0, 0, 0), (87, .ireturn, 0, 0, 0, 0), (88, .iload_n 2, 2, 0, 0, 0), (89, .ifCond .ne 7, 96, 0, 0, 0), (92, .iconst 0, 0, 0, 0, 0), (93, .goto 6, 99, 0, 0, 0), (96, .iload_n 1, 1, 0, 0, 0), (97, .iload_n 2, 2, 0, 0, 0), (98, .idiv, 0, 0, 0, 0), (99, .ireturn, 0, 0, 0, 0), (100, .iload_n 1, 1, 0, 0, 0), (101, .iload_n 2, 2, 0, 0, 0), (102, .if_icmp .ge 7, 109, 0, 0, 0), (105, .iconst 1, 0, 0, 1, 0), (106, .goto 4, 110, 0, 0, 0), (109, .iconst 0, 0, 0, 0, 0), (110, .ireturn, 0, 0, 0, 0), (111, .iload_n 1, 1, 0, 0, 0), (112, .iload_n 2, 2, 0, 0, 0), (113, .if_icmp .ne 7, 120, 0, 0, 0), (116, .iconst 1, 0, 0, 1, 0), (117, .goto 4, 121, 0, 0, 0), (120, .iconst 0, 0, 0, 0, 0), (121, .ireturn, 0, 0, 0, 0), (122, .iload_n 1, 1, 0, 0, 0), (123, .iload_n 2, 2, 0, 0, 0), (124, .if_icmp .le 7, 131, 0, 0, 0), (127, .iconst 1, 0, 0, 1, 0), (128, .goto 4, 132, 0, 0, 0), (131, .iconst 0, 0, 0, 0, 0), (132, .ireturn, 0, 0, 0, 0), (133, .iload_n 1, 1, 0, 0, 0), (134, .iload_n 2, 2, 0, 0, 0), (135, .iand, 0, 0, 0, 0), (136, .ireturn, 0, 0, 0, 0), (137, .iload_n 1, 1, 0, 0, 0), (138, .iload_n 2, 2, 0, 0, 0), (139, .ior, 0, 0, 0, 0), (140, .ireturn, 0, 0, 0, 0)]
/-- CardDrawer$Reader.<init>(LCardDrawer$Tape;)V -/
def cd77 : List pI := [(0, .aload_n 0, 0, 0, 0, 0), (1, .invokespecial 3, 9000, 0, 0, 0), (4, .aload_n 0, 0, 0, 0, 0), (5, .new 9, 0, 6, 0, 0), (8, .dup, 0, 0, 0, 0), (9, .invokespecial 11, 67, 0, 0, 70), (12, .putfield 12, 1, 7, 2, 65), (15, .aload_n 0, 0, 0, 0, 0), (16, .new 18, 0, 8, 0, 0), (19, .dup, 0, 0, 0, 0), (20, .bipush 16, 0, 0, 16, 0), (22, .invokespecial 20, 94, 0, 0, 71), (25, .putfield 23, 2, 7, 2, 66), (28, .aload_n 0, 0, 0, 0, 0), (29, .iconst (-1), 0, 0, (-1), 0), (30, .putfield 27, 5, 7, 0, 67), (33, .aload_n 0, 0, 0, 0, 0), (34, .aload_n 1, 1, 0, 0, 0), (35, .putfield 31, 0, 7, 2, 68), (38, .return_, 0, 0, 0, 0)]
/-- CardDrawer$Reader.read(II)Z -/
def cd78 : List pI := [(0, .aload_n 0, 0, 0, 0, 0), (1, .iconst 0, 0, 0, 0, 0), (2, .putfield 35, 4, 7, 0, 69), (5, .aload_n 0, 0, 0, 0, 0), (6, .iconst (-1), 0, 0, (-1), 0), (7, .putfield 27, 5, 7, 0, 67), (10, .aload_n 0, 0, 0, 0, 0), (11, .iconst 0, 0, 0, 0, 0), (12, .putfield 38, 3, 7, 0, 70), (15, .aload_n 0, 0, 0, 0, 0), (16, .getfield 12, 1, 7, 0, 65), (19, .invokevirtual 41, 69, 0, 0, 72), (22, .aload_n 0, 0, 0, 0, 0), (23, .getfield 23, 2, 7, 0, 66), (26, .invokevirtual 44, 96, 1, 0, 73), (29, .pop, 0, 0, 0, 0), (30, .iload_n 1, 1, 0, 0, 0), (31, .iconst 4, 0, 0, 4, 0), (32, .invokestatic 47, 153, 1, 0, 74), (35, .ifCond .ne 5, 40, 0, 0, 0), (38, .iconst 0, 0, 0, 0, 0), (39, .ireturn, 1, 0, 0, 0), (40, .aload_n 0, 0, 0, 0, 0), (41, .getfield 31, 0, 7, 0, 68), (44, .invokevirtual 51, 102, 0, 0, 75), (47, .aload_n 0, 0, 0, 0, 0), (48, .iconst 0, 0, 0, 0, 0), (49, .putfield 56, 6, 7, 0, 71), (52, .aload_n 0, 0, 0, 0, 0), (53, .aload_n 0, 0, 0, 0, 0), (54, .getfield 31, 0, 7, 0, 68), (57, .getfield 59, 1, 9, 0, 72), (60, .iconst 0, 0, 0, 0, 0), (61, .iaload, 0, 0, 0, 0), (62, .putfield 63, 7, 7, 0, 73), (65, .iconst 1, 0, 0, 1, 0), (66, .istore_n 3, 3, 0, 0, 0), (67, .iconst 0, 0, 0, 0, 0), (68, .istore 4, 4, 0, 0, 0), (70, .iload 4, 4, 0, 0, 0), (72, .bipush 16, 0, 0, 16, 0), (74, .if_icmp .gt 88, 162, 0, 0, 0), (77, .iload_n 3, 3, 0, 0, 0), (78, .ifCond .eq 84, 162, 0, 0, 0), (81, .aload_n 0, 0, 0, 0, 0), (82, .getfield 63, 7, 7, 0, 73), (85, .ifCond .eq 77, 162, 0, 0, 0), (88, .iload_n 1, 1, 0, 0, 0), (89, .tableswitch 51 0 2 #[27, 35, 43], 0, 0, 0, 0), (116, .aload_n 0, 0, 0, 0, 0), (117, .invokevirtual 66, 87, 1, 0, 76), (120, .istore_n 3, 3, 0, 0, 0), (121, .goto 25, 146, 0, 0, 0), (124, .aload_n 0, 0, 0, 0, 0), (125, .invokevirtual 70, 84, 1, 0, 77), (128, .istore_n 3, 3, 0, 0, 0), (129, .goto 17, 146, 0, 0, 0), (132, .aload_n 0, 0, 0, 0, 0), (133, .invokevirtual 73, 85, 1, 0, 78), (136, .istore_n 3, 3, 0, 0, 0), (137, .goto 9, 146, 0, 0, 0), (140, .aload_n 0, 0, 0, 0, 0), (141, .iload_n 2, 2, 0, 0, 0), (142, .invokevirtual 76, 86, 1, 0, 79), (145, .istore_n 3, 3, 0, 0, 0), (146, .aload_n 0, 0, 0, 0, 0), (147, .dup, 0, 0, 0, 0), (148, .getfield 38, 3, 7, 0, 70), (151, .iconst 1, 0, 0, 1, 0), (152, .iadd, 0, 0, 0, 0), (153, .putfield 38, 3, 7, 0, 70), (156, .iinc 4 1, 4, 0, 1, 0), (159, .goto (-89), 70, 0, 0, 0), (162, .iload_n 3, 3, 0, 0, 0), (163, .ireturn, 1, 0, 0, 0)]
/-- CardDrawer$Reader.advance()V -/
def cd79 : List pI := [(0, .aload_n 0, 0, 0, 0, 0), (1, .getfield 56, 6, 7, 0, 71), (4, .sipush 400, 0, 0, 400, 0), (7, .if_icmp .ge 13, 20, 0, 0, 0), (10, .aload_n 0, 0, 0, 0, 0), (11, .dup, 0, 0, 0, 0), (12, .getfield 56, 6, 7, 0, 71), (15, .iconst 1, 0, 0, 1, 0), (16, .iadd, 0, 0, 0, 0), (17, .putfield 56, 6, 7, 0, 71), (20, .aload_n 0, 0, 0, 0, 0), (21, .aload_n 0, 0, 0, 0, 0), (22, .getfield 31, 0, 7, 0, 68), (25, .getfield 59, 1, 9, 0, 72), (28, .aload_n 0, 0, 0, 0, 0), (29, .getfield 56, 6, 7, 0, 71), (32, .iaload, 0, 0, 0, 0), (33, .putfield 63, 7, 7, 0, 73), (36, .return_, 0, 0, 0, 0)]
/-- CardDrawer$Reader.fails(I)Z -/
def cd80 : List pI := [(0, .aload_n 0, 0, 0, 0, 0), (1, .iload_n 1, 1, 0, 0, 0), (2, .putfield 35, 4, 7, 0, 69), (5, .aload_n 0, 0, 0, 0, 0), (6, .aload_n 0, 0, 0, 0, 0), (7, .getfield 31, 0, 7, 0, 68), (10, .getfield 80, 2, 9, 0, 74), (13, .aload_n 0, 0, 0, 0, 0), (14, .getfield 56, 6, 7, 0, 71), (17, .iaload, 0, 0, 0, 0), (18, .putfield 27, 5, 7, 0, 67), (21, .iconst 0, 0, 0, 0, 0), (22, .ireturn, 1, 0, 0, 0)]
/-- CardDrawer$Reader.passes(I)Z -/
def cd81 : List pI := [(0, .aload_n 0, 0, 0, 0, 0), (1, .getfield 63, 7, 7, 0, 73), (4, .iload_n 1, 1, 0, 0, 0), (5, .if_icmp .eq 9, 14, 0, 0, 0), (8, .aload_n 0, 0, 0, 0, 0), (9, .iconst 1, 0, 0, 1, 0), (10, .invokevirtual 83, 80, 1, 0, 80), (13, .ireturn, 1, 0, 0, 0), (14, .aload_n 0, 0, 0, 0, 0), (15, .invokevirtual 86, 79, 0, 0, 81), (18, .iconst 1, 0, 0, 1, 0), (19, .ireturn, 1, 0, 0, 0)]
/-- CardDrawer$Reader.opens(II)Z -/
def cd82 : List pI := [(0, .aload_n 0, 0, 0, 0, 0), (1, .getfield 63, 7, 7, 0, 73), (4, .iload_n 1, 1, 0, 0, 0), (5, .if_icmp .lt 11, 16, 0, 0, 0), (8, .aload_n 0, 0, 0, 0, 0), (9, .getfield 63, 7, 7, 0, 73), (12, .iload_n 2, 2, 0, 0, 0), (13, .if_icmp .le 9, 22, 0, 0, 0), (16, .aload_n 0, 0, 0, 0, 0), (17, .iconst 1, 0, 0, 1, 0), (18, .invokevirtual 83, 80, 1, 0, 80), (21, .ireturn, 1, 0, 0, 0), (22, .aload_n 0, 0, 0, 0, 0), (23, .getfield 38, 3, 7, 0, 70), (26, .bipush 16, 0, 0, 16, 0), (28, .if_icmp .lt 9, 37, 0, 0, 0), (31, .aload_n 0, 0, 0, 0, 0), (32, .iconst 3, 0, 0, 3, 0), (33, .invokevirtual 83, 80, 1, 0, 80), (36, .ireturn, 1, 0, 0, 0), (37, .aload_n 0, 0, 0, 0, 0), (38, .invokevirtual 86, 79, 0, 0, 81), (41, .iconst 1, 0, 0, 1, 0), (42, .ireturn, 1, 0, 0, 0)]
/-- CardDrawer$Reader.passesNumber(II)Z -/
def cd83 : List pI := [(0, .aload_n 0, 0, 0, 0, 0), (1, .getfield 63, 7, 7, 0, 73), (4, .sipush 1000, 0, 0, 1000, 0), (7, .if_icmp .ge 9, 16, 0, 0, 0), (10, .aload_n 0, 0, 0, 0, 0), (11, .iconst 1, 0, 0, 1, 0), (12, .invokevirtual 83, 80, 1, 0, 80), (15, .ireturn, 1, 0, 0, 0), (16, .aload_n 0, 0, 0, 0, 0), (17, .aload_n 0, 0, 0, 0, 0), (18, .getfield 63, 7, 7, 0, 73), (21, .sipush 1000, 0, 0, 1000, 0), (24, .isub, 0, 0, 0, 0), (25, .putfield 89, 8, 7, 0, 75), (28, .aload_n 0, 0, 0, 0, 0), (29, .getfield 89, 8, 7, 0, 75), (32, .iload_n 1, 1, 0, 0, 0), (33, .if_icmp .lt 11, 44, 0, 0, 0), (36, .aload_n 0, 0, 0, 0, 0), (37, .getfield 89, 8, 7, 0, 75), (40, .iload_n 2, 2, 0, 0, 0), (41, .if_icmp .le 9, 50, 0, 0, 0), (44, .aload_n 0, 0, 0, 0, 0), (45, .iconst 2, 0, 0, 2, 0), (46, .invokevirtual 83, 80, 1, 0, 80), (49, .ireturn, 1, 0, 0, 0), (50, .aload_n 0, 0, 0, 0, 0), (51, .invokevirtual 86, 79, 0, 0, 81), (54, .iconst 1, 0, 0, 1, 0), (55, .ireturn, 1, 0, 0, 0)]
/-- CardDrawer$Reader.metLine()Z -/
def cd84 : List pI := [(0, .aload_n 0, 0, 0, 0, 0), (1, .sipush 307, 0, 0, 307, 0), (4, .sipush 307, 0, 0, 307, 0), (7, .invokevirtual 92, 82, 1, 0, 82), (10, .ifCond .eq 23, 33, 0, 0, 0), (13, .aload_n 0, 0, 0, 0, 0), (14, .iconst 0, 0, 0, 0, 0), (15, .bipush 11, 0, 0, 11, 0), (17, .invokevirtual 95, 83, 1, 0, 83), (20, .ifCond .eq 13, 33, 0, 0, 0), (23, .aload_n 0, 0, 0, 0, 0), (24, .sipush 316, 0, 0, 316, 0), (27, .invokevirtual 98, 81, 1, 0, 84), (30, .ifCond .ne 5, 35, 0, 0, 0), (33, .iconst 0, 0, 0, 0, 0), (34, .ireturn, 1, 0, 0, 0), (35, .aload_n 0, 0, 0, 0, 0), (36, .getfield 89, 8, 7, 0, 75), (39, .istore_n 1, 1, 0, 0, 0), (40, .aload_n 0, 0, 0, 0, 0), (41, .getfield 63, 7, 7, 0, 73), (44, .sipush 1000, 0, 0, 1000, 0), (47, .iload_n 1, 1, 0, 0, 0), (48, .iadd, 0, 0, 0, 0), (49, .if_icmp .ne 9, 58, 0, 0, 0), (52, .aload_n 0, 0, 0, 0, 0), (53, .iconst 2, 0, 0, 2, 0), (54, .invokevirtual 83, 80, 1, 0, 80), (57, .ireturn, 1, 0, 0, 0), (58, .aload_n 0, 0, 0, 0, 0), (59, .iconst 0, 0, 0, 0, 0), (60, .bipush 11, 0, 0, 11, 0), (62, .invokevirtual 95, 83, 1, 0, 83), (65, .ifCond .ne 5, 70, 0, 0, 0), (68, .iconst 0, 0, 0, 0, 0), (69, .ireturn, 1, 0, 0, 0), (70, .aload_n 0, 0, 0, 0, 0), (71, .getfield 23, 2, 7, 0, 66), (74, .iload_n 1, 1, 0, 0, 0), (75, .aload_n 0, 0, 0, 0, 0), (76, .getfield 89, 8, 7, 0, 75), (79, .iconst 0, 0, 0, 0, 0), (80, .iconst 0, 0, 0, 0, 0), (81, .invokevirtual 101, 95, 1, 0, 85), (84, .pop, 0, 0, 0, 0), (85, .aload_n 0, 0, 0, 0, 0), (86, .bipush 59, 0, 0, 59, 0), (88, .invokevirtual 98, 81, 1, 0, 84), (91, .ireturn, 1, 0, 0, 0)]
/-- CardDrawer$Reader.calledLine()Z -/
def cd85 : List pI := [(0, .aload_n 0, 0, 0, 0, 0), (1, .sipush 308, 0, 0, 308, 0), (4, .sipush 308, 0, 0, 308, 0), (7, .invokevirtual 92, 82, 1, 0, 82), (10, .ifCond .eq 23, 33, 0, 0, 0), (13, .aload_n 0, 0, 0, 0, 0), (14, .iconst 0, 0, 0, 0, 0), (15, .bipush 7, 0, 0, 7, 0), (17, .invokevirtual 95, 83, 1, 0, 83), (20, .ifCond .eq 13, 33, 0, 0, 0), (23, .aload_n 0, 0, 0, 0, 0), (24, .sipush 317, 0, 0, 317, 0), (27, .invokevirtual 98, 81, 1, 0, 84), (30, .ifCond .ne 5, 35, 0, 0, 0), (33, .iconst 0, 0, 0, 0, 0), (34, .ireturn, 1, 0, 0, 0), (35, .aload_n 0, 0, 0, 0, 0), (36, .getfield 89, 8, 7, 0, 75), (39, .istore_n 1, 1, 0, 0, 0), (40, .aload_n 0, 0, 0, 0, 0), (41, .iconst 0, 0, 0, 0, 0), (42, .bipush 99, 0, 0, 99, 0), (44, .invokevirtual 95, 83, 1, 0, 83), (47, .ifCond .eq 13, 60, 0, 0, 0), (50, .aload_n 0, 0, 0, 0, 0), (51, .sipush 318, 0, 0, 318, 0), (54, .invokevirtual 98, 81, 1, 0, 84), (57, .ifCond .ne 5, 62, 0, 0, 0), (60, .iconst 0, 0, 0, 0, 0), (61, .ireturn, 1, 0, 0, 0), (62, .aload_n 0, 0, 0, 0, 0), (63, .getfield 89, 8, 7, 0, 75), (66, .istore_n 2, 2, 0, 0, 0), (67, .aload_n 0, 0, 0, 0, 0), (68, .iload_n 2, 2, 0, 0, 0), (69, .bipush 99, 0, 0, 99, 0), (71, .invokevirtual 95, 83, 1, 0, 83), (74, .ifCond .ne 5, 79, 0, 0, 0), (77, .iconst 0, 0, 0, 0, 0), (78, .ireturn, 1, 0, 0, 0), (79, .aload_n 0, 0, 0, 0, 0), (80, .getfield 23, 2, 7, 0, 66), (83, .iload_n 1, 1, 0, 0, 0), (84, .iload_n 2, 2, 0, 0, 0), (85, .aload_n 0, 0, 0, 0, 0), (86, .getfield 89, 8, 7, 0, 75), (89, .iconst 0, 0, 0, 0, 0), (90, .invokevirtual 101, 95, 1, 0, 85), (93, .pop, 0, 0, 0, 0), (94, .aload_n 0, 0, 0, 0, 0), (95, .bipush 59, 0, 0, 59, 0), (97, .invokevirtual 98, 81, 1, 0, 84), (100, .ireturn, 1, 0, 0, 0)]
/-- CardDrawer$Reader.planLine(I)Z -/
def cd86 : List pI := [(0, .aload_n 0, 0, 0, 0, 0), (1, .sipush 319, 0, 0, 319, 0), (4, .sipush 319, 0, 0, 319, 0), (7, .invokevirtual 92, 82, 1, 0, 82), (10, .ifCond .eq 13, 23, 0, 0, 0), (13, .aload_n 0, 0, 0, 0, 0), (14, .iconst 0, 0, 0, 0, 0), (15, .bipush 99, 0, 0, 99, 0), (17, .invokevirtual 95, 83, 1, 0, 83), (20, .ifCond .ne 5, 25, 0, 0, 0), (23, .iconst 0, 0, 0, 0, 0), (24, .ireturn, 1, 0, 0, 0), (25, .aload_n 0, 0, 0, 0, 0), (26, .getfield 89, 8, 7, 0, 75), (29, .istore_n 2, 2, 0, 0, 0), (30, .aload_n 0, 0, 0, 0, 0), (31, .getfield 63, 7, 7, 0, 73), (34, .istore_n 3, 3, 0, 0, 0), (35, .iload_n 3, 3, 0, 0, 0), (36, .sipush 320, 0, 0, 320, 0), (39, .if_icmp .lt 10, 49, 0, 0, 0), (42, .iload_n 3, 3, 0, 0, 0), (43, .sipush 323, 0, 0, 323, 0), (46, .if_icmp .le 9, 55, 0, 0, 0), (49, .aload_n 0, 0, 0, 0, 0), (50, .iconst 1, 0, 0, 1, 0), (51, .invokevirtual 83, 80, 1, 0, 80), (54, .ireturn, 1, 0, 0, 0), (55, .aload_n 0, 0, 0, 0, 0), (56, .invokevirtual 86, 79, 0, 0, 81), (59, .iload_n 3, 3, 0, 0, 0), (60, .sipush 320, 0, 0, 320, 0), (63, .if_icmp .ne 7, 70, 0, 0, 0), (66, .iconst 1, 0, 0, 1, 0), (67, .goto 4, 71, 0, 0, 0), (70, .iconst 0, 0, 0, 0, 0), (71, .nop, 4, 0, 0, 0), (71, .nop, 5, 0, 0, 0), (71, .istore 4, 4, 0, 0, 0), (73, .iload_n 3, 3, 0, 0, 0), (74, .sipush 320, 0, 0, 320, 0), (77, .if_icmp .ne 8, 85, 0, 0, 0), (80, .bipush 14, 0, 0, 14, 0), (82, .goto 18, 100, 0, 0, 0), (85, .iload_n 3, 3, 0, 0, 0), (86, .sipush 321, 0, 0, 321, 0), (89, .if_icmp .ne 8, 97, 0, 0, 0), (92, .bipush 11, 0, 0, 11, 0), (94, .goto 6, 100, 0, 0, 0), (97, .iload_n 1, 1, 0, 0, 0), (98, .iconst 1, 0, 0, 1, 0), (99, .isub, 0, 0, 0, 0), (100, .nop, 1, 0, 0, 0), (100, .nop, 5, 0, 0, 0), (100, .istore 5, 5, 0, 0, 0), (102, .aload_n 0, 0, 0, 0, 0), (103, .iload 4, 4, 0, 0, 0), (105, .iload 5, 5, 0, 0, 0), (107, .invokevirtual 95, 83, 1, 0, 83), (110, .ifCond .ne 5, 115, 0, 0, 0), (113, .iconst 0, 0, 0, 0, 0), (114, .ireturn, 1, 0, 0, 0), (115, .aload_n 0, 0, 0, 0, 0), (116, .getfield 23, 2, 7, 0, 66), (119, .iload_n 2, 2, 0, 0, 0), (120, .iload_n 3, 3, 0, 0, 0), (121, .aload_n 0, 0, 0, 0, 0), (122, .getfield 89, 8, 7, 0, 75), (125, .iconst 0, 0, 0, 0, 0), (126, .invokevirtual 101, 95, 1, 0, 85), (129, .pop, 0, 0, 0, 0), (130, .aload_n 0, 0, 0, 0, 0), (131, .bipush 59, 0, 0, 59, 0), (133, .invokevirtual 98, 81, 1, 0, 84), (136, .ireturn, 1, 0, 0, 0)]
/-- CardDrawer$Reader.lawLine()Z -/
def cd87 : List pI := [(0, .aload_n 0, 0, 0, 0, 0), (1, .getfield 63, 7, 7, 0, 73), (4, .sipush 300, 0, 0, 300, 0), (7, .isub, 0, 0, 0, 0), (8, .istore_n 1, 1, 0, 0, 0), (9, .aload_n 0, 0, 0, 0, 0), (10, .getfield 12, 1, 7, 0, 65), (13, .getfield 105, 7, 6, 0, 76), (16, .istore_n 2, 2, 0, 0, 0), (17, .aload_n 0, 0, 0, 0, 0), (18, .sipush 300, 0, 0, 300, 0), (21, .sipush 302, 0, 0, 302, 0), (24, .invokevirtual 92, 82, 1, 0, 82), (27, .ifCond .eq 10, 37, 0, 0, 0), (30, .aload_n 0, 0, 0, 0, 0), (31, .invokevirtual 108, 90, 1, 0, 86), (34, .ifCond .ne 5, 39, 0, 0, 0), (37, .iconst 0, 0, 0, 0, 0), (38, .ireturn, 1, 0, 0, 0), (39, .aload_n 0, 0, 0, 0, 0), (40, .getfield 12, 1, 7, 0, 65), (43, .getfield 105, 7, 6, 0, 76), (46, .istore_n 3, 3, 0, 0, 0), (47, .aload_n 0, 0, 0, 0, 0), (48, .getfield 63, 7, 7, 0, 73), (51, .sipush 303, 0, 0, 303, 0), (54, .if_icmp .ne 17, 71, 0, 0, 0), (57, .aload_n 0, 0, 0, 0, 0), (58, .invokevirtual 86, 79, 0, 0, 81), (61, .aload_n 0, 0, 0, 0, 0), (62, .iconst 0, 0, 0, 0, 0), (63, .invokevirtual 111, 88, 1, 0, 87), (66, .ifCond .ne 5, 71, 0, 0, 0), (69, .iconst 0, 0, 0, 0, 0), (70, .ireturn, 1, 0, 0, 0), (71, .aload_n 0, 0, 0, 0, 0), (72, .getfield 12, 1, 7, 0, 65), (75, .iload_n 1, 1, 0, 0, 0), (76, .iload_n 2, 2, 0, 0, 0), (77, .iload_n 3, 3, 0, 0, 0), (78, .invokevirtual 114, 71, 0, 0, 88), (81, .aload_n 0, 0, 0, 0, 0), (82, .bipush 59, 0, 0, 59, 0), (84, .invokevirtual 98, 81, 1, 0, 84), (87, .ireturn, 1, 0, 0, 0)]
/-- CardDrawer$Reader.either(I)Z -/
def cd88 : List pI := [(0, .iconst 0, 0, 0, 0, 0), (1, .istore_n 2, 2, 0, 0, 0), (2, .aload_n 0, 0, 0, 0, 0), (3, .iload_n 1, 1, 0, 0, 0), (4, .invokevirtual 118, 89, 1, 0, 89), (7, .ifCond .ne 5, 12, 0, 0, 0), (10, .iconst 0, 0, 0, 0, 0), (11, .ireturn, 1, 0, 0, 0), (12, .iconst 0, 0, 0, 0, 0), (13, .istore_n 3, 3, 0, 0, 0), (14, .nop, 4, 0, 0, 0), (14, .iload_n 3, 3, 0, 0, 0), (15, .sipush 400, 0, 0, 400, 0), (18, .if_icmp .ge 105, 123, 0, 0, 0), (21, .aload_n 0, 0, 0, 0, 0), (22, .getfield 63, 7, 7, 0, 73), (25, .sipush 305, 0, 0, 305, 0), (28, .if_icmp .eq 13, 41, 0, 0, 0), (31, .aload_n 0, 0, 0, 0, 0), (32, .getfield 63, 7, 7, 0, 73), (35, .sipush 304, 0, 0, 304, 0), (38, .if_icmp .ne 85, 123, 0, 0, 0), (41, .nop, 4, 0, 0, 0), (41, .aload_n 0, 0, 0, 0, 0), (42, .getfield 63, 7, 7, 0, 73), (45, .istore 4, 4, 0, 0, 0), (47, .iload 4, 4, 0, 0, 0), (49, .sipush 304, 0, 0, 304, 0), (52, .if_icmp .ne 17, 69, 0, 0, 0), (55, .iload_n 2, 2, 0, 0, 0), (56, .ifCond .eq 13, 69, 0, 0, 0), (59, .aload_n 0, 0, 0, 0, 0), (60, .getfield 12, 1, 7, 0, 65), (63, .sipush 304, 0, 0, 304, 0), (66, .invokevirtual 121, 70, 0, 0, 90), (69, .iload_n 2, 2, 0, 0, 0), (70, .iload 4, 4, 0, 0, 0), (72, .sipush 304, 0, 0, 304, 0), (75, .if_icmp .ne 7, 82, 0, 0, 0), (78, .iconst 1, 0, 0, 1, 0), (79, .goto 4, 83, 0, 0, 0), (82, .iconst 0, 0, 0, 0, 0), (83, .nop, 2, 0, 0, 0), (83, .ior, 0, 0, 0, 0), (84, .istore_n 2, 2, 0, 0, 0), (85, .aload_n 0, 0, 0, 0, 0), (86, .invokevirtual 86, 79, 0, 0, 81), (89, .aload_n 0, 0, 0, 0, 0), (90, .iload_n 1, 1, 0, 0, 0), (91, .invokevirtual 118, 89, 1, 0, 89), (94, .ifCond .ne 5, 99, 0, 0, 0), (97, .iconst 0, 0, 0, 0, 0), (98, .ireturn, 1, 0, 0, 0), (99, .iload 4, 4, 0, 0, 0), (101, .sipush 305, 0, 0, 305, 0), (104, .if_icmp .ne 13, 117, 0, 0, 0), (107, .aload_n 0, 0, 0, 0, 0), (108, .getfield 12, 1, 7, 0, 65), (111, .sipush 305, 0, 0, 305, 0), (114, .invokevirtual 121, 70, 0, 0, 90), (117, .iinc 3 1, 3, 0, 1, 0), (120, .goto (-106), 14, 0, 0, 0), (123, .nop, 1, 0, 0, 0), (123, .nop, 3, 0, 0, 0), (123, .nop, 4, 0, 0, 0), (123, .iload_n 2, 2, 0, 0, 0), (124, .ifCond .eq 13, 137, 0, 0, 0), (127, .aload_n 0, 0, 0, 0, 0), (128, .getfield 12, 1, 7, 0, 65), (131, .sipush 304, 0, 0, 304, 0), (134, .invokevirtual 121, 70, 0, 0, 90), (137, .iconst 1, 0, 0, 1, 0), (138, .ireturn, 1, 0, 0, 0)]
/-- CardDrawer$Reader.condition(I)Z -/
def cd89 : List pI := [(0, .aload_n 0, 0, 0, 0, 0), (1, .getfield 63, 7, 7, 0, 73), (4, .istore_n 2, 2, 0, 0, 0), (5, .iload_n 2, 2, 0, 0, 0), (6, .sipush 306, 0, 0, 306, 0), (9, .if_icmp .eq 9, 18, 0, 0, 0), (12, .iload_n 2, 2, 0, 0, 0), (13, .bipush 40, 0, 0, 40, 0), (15, .if_icmp .ne 74, 89, 0, 0, 0), (18, .nop, 3, 0, 0, 0), (18, .iload_n 1, 1, 0, 0, 0), (19, .bipush 8, 0, 0, 8, 0), (21, .if_icmp .lt 9, 30, 0, 0, 0), (24, .aload_n 0, 0, 0, 0, 0), (25, .iconst 3, 0, 0, 3, 0), (26, .invokevirtual 83, 80, 1, 0, 80), (29, .ireturn, 1, 0, 0, 0), (30, .aload_n 0, 0, 0, 0, 0), (31, .invokevirtual 86, 79, 0, 0, 81), (34, .iload_n 2, 2, 0, 0, 0), (35, .bipush 40, 0, 0, 40, 0), (37, .if_icmp .ne 28, 65, 0, 0, 0), (40, .aload_n 0, 0, 0, 0, 0), (41, .iload_n 1, 1, 0, 0, 0), (42, .iconst 1, 0, 0, 1, 0), (43, .iadd, 0, 0, 0, 0), (44, .invokevirtual 111, 88, 1, 0, 87), (47, .ifCond .eq 16, 63, 0, 0, 0), (50, .aload_n 0, 0, 0, 0, 0), (51, .bipush 41, 0, 0, 41, 0), (53, .invokevirtual 98, 81, 1, 0, 84), (56, .ifCond .eq 7, 63, 0, 0, 0), (59, .iconst 1, 0, 0, 1, 0), (60, .goto 4, 64, 0, 0, 0), (63, .iconst 0, 0, 0, 0, 0), (64, .ireturn, 1, 0, 0, 0), (65, .aload_n 0, 0, 0, 0, 0), (66, .iload_n 1, 1, 0, 0, 0), (67, .iconst 1, 0, 0, 1, 0), (68, .iadd, 0, 0, 0, 0), (69, .invokevirtual 118, 89, 1, 0, 89), (72, .ifCond .ne 5, 77, 0, 0, 0), (75, .iconst 0, 0, 0, 0, 0), (76, .ireturn, 1, 0, 0, 0), (77, .aload_n 0, 0, 0, 0, 0), (78, .getfield 12, 1, 7, 0, 65), (81, .sipush 306, 0, 0, 306, 0), (84, .invokevirtual 121, 70, 0, 0, 90), (87, .iconst 1, 0, 0, 1, 0), (88, .ireturn, 1, 0, 0, 0), (89, .aload_n 0, 0, 0, 0, 0), (90, .invokevirtual 108, 90, 1, 0, 86), (93, .ifCond .ne 5, 98, 0, 0, 0), (96, .iconst 0, 0, 0, 0, 0), (97, .ireturn, 1, 0, 0, 0), (98, .aload_n 0, 0, 0, 0, 0), (99, .getfield 63, 7, 7, 0, 73), (102, .istore_n 3, 3, 0, 0, 0), (103, .iload_n 3, 3, 0, 0, 0), (104, .bipush 60, 0, 0, 60, 0), (106, .if_icmp .eq 21, 127, 0, 0, 0), (109, .iload_n 3, 3, 0, 0, 0), (110, .bipush 61, 0, 0, 61, 0), (112, .if_icmp .eq 15, 127, 0, 0, 0), (115, .iload_n 3, 3, 0, 0, 0), (116, .bipush 62, 0, 0, 62, 0), (118, .if_icmp .eq 9, 127, 0, 0, 0), (121, .aload_n 0, 0, 0, 0, 0), (122, .iconst 1, 0, 0, 1, 0), (123, .invokevirtual 83, 80, 1, 0, 80), (126, .ireturn, 1, 0, 0, 0), (127, .nop, 1, 0, 0, 0), (127, .nop, 2, 0, 0, 0), (127, .aload_n 0, 0, 0, 0, 0), (128, .invokevirtual 86, 79, 0, 0, 81), (131, .aload_n 0, 0, 0, 0, 0), (132, .invokevirtual 108, 90, 1, 0, 86), (135, .ifCond .ne 5, 140, 0, 0, 0), (138, .iconst 0, 0, 0, 0, 0), (139, .ireturn, 1, 0, 0, 0), (140, .aload_n 0, 0, 0, 0, 0), (141, .getfield 12, 1, 7, 0, 65), (144, .iload_n 3, 3, 0, 0, 0), (145, .invokevirtual 121, 70, 0, 0, 90), (148, .iconst 1, 0, 0, 1, 0), (149, .ireturn, 1, 0, 0, 0)]
/-- CardDrawer$Reader.sum()Z -/
def cd90 : List pI := [(0, .iconst 1, 0, 0, 1, 0), (1, .istore_n 1, 1, 0, 0, 0), (2, .aload_n 0, 0, 0, 0, 0), (3, .iconst 0, 0, 0, 0, 0), (4, .invokevirtual 123, 93, 1, 0, 91), (7, .ifCond .ne 5, 12, 0, 0, 0), (10, .iconst 0, 0, 0, 0, 0), (11, .ireturn, 1, 0, 0, 0), (12, .iconst 0, 0, 0, 0, 0), (13, .istore_n 2, 2, 0, 0, 0), (14, .nop, 3, 0, 0, 0), (14, .nop, 4, 0, 0, 0), (14, .iload_n 2, 2, 0, 0, 0), (15, .sipush 400, 0, 0, 400, 0), (18, .if_icmp .ge 92, 110, 0, 0, 0), (21, .aload_n 0, 0, 0, 0, 0), (22, .getfield 63, 7, 7, 0, 73), (25, .invokestatic 127, 91, 1, 0, 92), (28, .ifCond .eq 82, 110, 0, 0, 0), (31, .aload_n 0, 0, 0, 0, 0), (32, .getfield 63, 7, 7, 0, 73), (35, .istore_n 3, 3, 0, 0, 0), (36, .iload_n 3, 3, 0, 0, 0), (37, .bipush 43, 0, 0, 43, 0), (39, .if_icmp .eq 9, 48, 0, 0, 0), (42, .iload_n 3, 3, 0, 0, 0), (43, .bipush 45, 0, 0, 45, 0), (45, .if_icmp .ne 7, 52, 0, 0, 0), (48, .iconst 1, 0, 0, 1, 0), (49, .goto 4, 53, 0, 0, 0), (52, .iconst 0, 0, 0, 0, 0), (53, .nop, 4, 0, 0, 0), (53, .istore 4, 4, 0, 0, 0), (55, .iload 4, 4, 0, 0, 0), (57, .ifCond .eq 10, 67, 0, 0, 0), (60, .aload_n 0, 0, 0, 0, 0), (61, .iload_n 1, 1, 0, 0, 0), (62, .invokevirtual 130, 92, 0, 0, 93), (65, .iload_n 3, 3, 0, 0, 0), (66, .istore_n 1, 1, 0, 0, 0), (67, .aload_n 0, 0, 0, 0, 0), (68, .invokevirtual 86, 79, 0, 0, 81), (71, .aload_n 0, 0, 0, 0, 0), (72, .iload_n 3, 3, 0, 0, 0), (73, .bipush 47, 0, 0, 47, 0), (75, .if_icmp .ne 7, 82, 0, 0, 0), (78, .iconst 1, 0, 0, 1, 0), (79, .goto 4, 83, 0, 0, 0), (82, .iconst 0, 0, 0, 0, 0), (83, .invokevirtual 123, 93, 1, 0, 91), (86, .ifCond .ne 5, 91, 0, 0, 0), (89, .iconst 0, 0, 0, 0, 0), (90, .ireturn, 1, 0, 0, 0), (91, .iload 4, 4, 0, 0, 0), (93, .ifCond .ne 11, 104, 0, 0, 0), (96, .aload_n 0, 0, 0, 0, 0), (97, .getfield 12, 1, 7, 0, 65), (100, .iload_n 3, 3, 0, 0, 0), (101, .invokevirtual 121, 70, 0, 0, 90), (104, .iinc 2 1, 2, 0, 1, 0), (107, .goto (-93), 14, 0, 0, 0), (110, .nop, 2, 0, 0, 0), (110, .nop, 3, 0, 0, 0), (110, .nop, 4, 0, 0, 0), (110, .aload_n 0, 0, 0, 0, 0), (111, .iload_n 1, 1, 0, 0, 0), (112, .invokevirtual 130, 92, 0, 0, 93), (115, .iconst 1, 0, 0, 1, 0), (116, .ireturn, 1, 0, 0, 0)]
/-- CardDrawer$Reader.isJoint(I)Z -/
def cd91 : List pI := [(0, .iload_n 0, 0, 0, 0, 0), (1, .bipush 43, 0, 0, 43, 0), (3, .if_icmp .eq 21, 24, 0, 0, 0), (6, .iload_n 0, 0, 0, 0, 0), (7, .bipush 45, 0, 0, 45, 0), (9, .if_icmp .eq 15, 24, 0, 0, 0), (12, .iload_n 0, 0, 0, 0, 0), (13, .bipush 42, 0, 0, 42, 0), (15, .if_icmp .eq 9, 24, 0, 0, 0), (18, .iload_n 0, 0, 0, 0, 0), (19, .bipush 47, 0, 0, 47, 0), (21, .if_icmp .ne 7, 28, 0, 0, 0), (24, .iconst 1, 0, 0, 1, 0), (25, .goto 4, 29, 0, 0, 0), (28, .iconst 0, 0, 0, 0, 0), (29, .ireturn, 1, 0, 0, 0)]
/-- CardDrawer$Reader.addIfSign(I)V -/
def cd92 : List pI := [(0, .iload_n 1, 1, 0, 0, 0), (1, .iconst 1, 0, 0, 1, 0), (2, .if_icmp .eq 11, 13, 0, 0, 0), (5, .aload_n 0, 0, 0, 0, 0), (6, .getfield 12, 1, 7, 0, 65), (9, .iload_n 1, 1, 0, 0, 0), (10, .invokevirtual 121, 70, 0, 0, 90), (13, .return_, 0, 0, 0, 0)]
/-- CardDrawer$Reader.unit(Z)Z -/
def cd93 : List pI := [(0, .aload_n 0, 0, 0, 0, 0), (1, .getfield 63, 7, 7, 0, 73), (4, .sipush 1000, 0, 0, 1000, 0), (7, .if_icmp .lt 7, 14, 0, 0, 0), (10, .iconst 1, 0, 0, 1, 0), (11, .goto 4, 15, 0, 0, 0), (14, .iconst 0, 0, 0, 0, 0), (15, .nop, 2, 0, 0, 0), (15, .nop, 3, 0, 0, 0), (15, .istore_n 2, 2, 0, 0, 0), (16, .aload_n 0, 0, 0, 0, 0), (17, .getfield 63, 7, 7, 0, 73), (20, .sipush 307, 0, 0, 307, 0), (23, .if_icmp .lt 17, 40, 0, 0, 0), (26, .aload_n 0, 0, 0, 0, 0), (27, .getfield 63, 7, 7, 0, 73), (30, .sipush 315, 0, 0, 315, 0), (33, .if_icmp .gt 7, 40, 0, 0, 0), (36, .iconst 1, 0, 0, 1, 0), (37, .goto 4, 41, 0, 0, 0), (40, .iconst 0, 0, 0, 0, 0), (41, .nop, 3, 0, 0, 0), (41, .istore_n 3, 3, 0, 0, 0), (42, .iload_n 2, 2, 0, 0, 0), (43, .ifCond .ne 17, 60, 0, 0, 0), (46, .iload_n 1, 1, 0, 0, 0), (47, .ifCond .ne 7, 54, 0, 0, 0), (50, .iload_n 3, 3, 0, 0, 0), (51, .ifCond .ne 9, 60, 0, 0, 0), (54, .aload_n 0, 0, 0, 0, 0), (55, .iconst 1, 0, 0, 1, 0), (56, .invokevirtual 83, 80, 1, 0, 80), (59, .ireturn, 1, 0, 0, 0), (60, .nop, 2, 0, 0, 0), (60, .nop, 3, 0, 0, 0), (60, .iload_n 1, 1, 0, 0, 0), (61, .ifCond .eq 19, 80, 0, 0, 0), (64, .aload_n 0, 0, 0, 0, 0), (65, .getfield 63, 7, 7, 0, 73), (68, .sipush 1000, 0, 0, 1000, 0), (71, .if_icmp .ne 9, 80, 0, 0, 0), (74, .aload_n 0, 0, 0, 0, 0), (75, .iconst 2, 0, 0, 2, 0), (76, .invokevirtual 83, 80, 1, 0, 80), (79, .ireturn, 1, 0, 0, 0), (80, .nop, 1, 0, 0, 0), (80, .nop, 2, 0, 0, 0), (80, .nop, 3, 0, 0, 0), (80, .aload_n 0, 0, 0, 0, 0), (81, .getfield 12, 1, 7, 0, 65), (84, .aload_n 0, 0, 0, 0, 0), (85, .getfield 63, 7, 7, 0, 73), (88, .invokevirtual 121, 70, 0, 0, 90), (91, .aload_n 0, 0, 0, 0, 0), (92, .invokevirtual 86, 79, 0, 0, 81), (95, .iconst 1, 0, 0, 1, 0), (96, .ireturn, 1, 0, 0, 0)]
/-- CardDrawer$Rows.<init>(I)V -/
def cd94 : List pI := [(0, .aload_n 0, 0, 0, 0, 0), (1, .invokespecial 3, 9000, 0, 0, 0), (4, .aload_n 0, 0, 0, 0, 0), (5, .iload_n 1, 1, 0, 0, 0), (6, .putfield 9, 0, 8, 0, 77), (9, .aload_n 0, 0, 0, 0, 0), (10, .iload_n 1, 1, 0, 0, 0), (11, .iconst 4, 0, 0, 4, 0), (12, .imul, 0, 0, 0, 0), (13, .newarray .int, 0, 0, 0, 0), (15, .putfield 15, 1, 8, 2, 78), (18, .return_, 0, 0, 0, 0)]
/-- CardDrawer$Rows.add(IIII)I -/
def cd95 : List pI := [(0, .aload_n 0, 0, 0, 0, 0), (1, .getfield 19, 2, 8, 0, 79), (4, .aload_n 0, 0, 0, 0, 0), (5, .getfield 9, 0, 8, 0, 77), (8, .if_icmp .lt 5, 13, 0, 0, 0), (11, .iconst (-1), 0, 0, (-1), 0), (12, .ireturn, 0, 0, 0, 0), (13, .aload_n 0, 0, 0, 0, 0), (14, .getfield 19, 2, 8, 0, 79), (17, .iconst 4, 0, 0, 4, 0), (18, .imul, 0, 0, 0, 0), (19, .istore 5, 5, 0, 0, 0), (21, .aload_n 0, 0, 0, 0, 0), (22, .getfield 15, 1, 8, 0, 78), (25, .iload 5, 5, 0, 0, 0), (27, .iload_n 1, 1, 0, 0, 0), (28, .iastore, 0, 0, 0, 0), (29, .aload_n 0, 0, 0, 0, 0), (30, .getfield 15, 1, 8, 0, 78), (33, .iload 5, 5, 0, 0, 0), (35, .iconst 1, 0, 0, 1, 0), (36, .iadd, 0, 0, 0, 0), (37, .iload_n 2, 2, 0, 0, 0), (38, .iastore, 0, 0, 0, 0), (39, .aload_n 0, 0, 0, 0, 0), (40, .getfield 15, 1, 8, 0, 78), (43, .iload 5, 5, 0, 0, 0), (45, .iconst 2, 0, 0, 2, 0), (46, .iadd, 0, 0, 0, 0), (47, .iload_n 3, 3, 0, 0, 0), (48, .iastore, 0, 0, 0, 0), (49, .aload_n 0, 0, 0, 0, 0), (50, .getfield 15, 1, 8, 0, 78), (53, .iload 5, 5, 0, 0, 0), (55, .iconst 3, 0, 0, 3, 0), (56, .iadd, 0, 0, 0, 0), (57, .iload 4, 4, 0, 0, 0), (59, .iastore, 0, 0, 0, 0), (60, .aload_n 0, 0, 0, 0, 0), (61, .dup, 0, 0, 0, 0), (62, .getfield 19, 2, 8, 0, 79), (65, .iconst 1, 0, 0, 1, 0), (66, .iadd, 0, 0, 0, 0), (67, .putfield 19, 2, 8, 0, 79), (70, .aload_n 0, 0, 0, 0, 0), (71, .getfield 19, 2, 8, 0, 79), (74, .ireturn, 0, 0, 0, 0)]
/-- CardDrawer$Rows.clear()I -/
def cd96 : List pI := [(0, .aload_n 0, 0, 0, 0, 0), (1, .iconst 0, 0, 0, 0, 0), (2, .putfield 19, 2, 8, 0, 79), (5, .aload_n 0, 0, 0, 0, 0), (6, .getfield 19, 2, 8, 0, 79), (9, .ireturn, 0, 0, 0, 0)]
/-- CardDrawer$Rows.at(II)I -/
def cd97 : List pI := [(0, .iload_n 1, 1, 0, 0, 0), (1, .ifCond .lt 19, 20, 0, 0, 0), (4, .iload_n 1, 1, 0, 0, 0), (5, .aload_n 0, 0, 0, 0, 0), (6, .getfield 19, 2, 8, 0, 79), (9, .if_icmp .ge 11, 20, 0, 0, 0), (12, .iload_n 2, 2, 0, 0, 0), (13, .iconst 4, 0, 0, 4, 0), (14, .invokestatic 22, 153, 1, 0, 94), (17, .ifCond .ne 5, 22, 0, 0, 0), (20, .iconst (-1), 0, 0, (-1), 0), (21, .ireturn, 0, 0, 0, 0), (22, .aload_n 0, 0, 0, 0, 0), (23, .getfield 15, 1, 8, 0, 78), (26, .iload_n 1, 1, 0, 0, 0), (27, .iconst 4, 0, 0, 4, 0), (28, .imul, 0, 0, 0, 0), (29, .iload_n 2, 2, 0, 0, 0), (30, .iadd, 0, 0, 0, 0), (31, .iaload, 0, 0, 0, 0), (32, .ireturn, 0, 0, 0, 0)]
/-- CardDrawer$Rows.copyFrom(LCardDrawer$Rows;)V -/
def cd98 : List pI := [(0, .aload_n 1, 1, 0, 0, 0), (1, .getfield 15, 1, 8, 0, 78), (4, .iconst 0, 0, 0, 0, 0), (5, .aload_n 0, 0, 0, 0, 0), (6, .getfield 15, 1, 8, 0, 78), (9, .iconst 0, 0, 0, 0, 0), (10, .aload_n 0, 0, 0, 0, 0), (11, .getfield 15, 1, 8, 0, 78), (14, .arraylength, 0, 0, 0, 0), (15, .aload_n 1, 1, 0, 0, 0), (16, .getfield 19, 2, 8, 0, 79), (19, .iconst 4, 0, 0, 4, 0), (20, .imul, 0, 0, 0, 0), (21, .invokestatic 26, 9005, 0, 0, 0), (24, .invokestatic 32, 9001, 0, 0, 0), (27, .aload_n 0, 0, 0, 0, 0), (28, .aload_n 1, 1, 0, 0, 0), (29, .getfield 19, 2, 8, 0, 79), (32, .putfield 19, 2, 8, 0, 79), (35, .return_, 0, 0, 0, 0)]
/-- CardDrawer$Tape.<init>()V -/
def cd99 : List pI := [(0, .aload_n 0, 0, 0, 0, 0), (1, .invokespecial 3, 9000, 0, 0, 0), (4, .aload_n 0, 0, 0, 0, 0), (5, .sipush 400, 0, 0, 400, 0), (8, .newarray .int, 0, 0, 0, 0), (10, .putfield 9, 0, 9, 2, 80), (13, .aload_n 0, 0, 0, 0, 0), (14, .sipush 401, 0, 0, 401, 0), (17, .newarray .int, 0, 0, 0, 0), (19, .putfield 15, 1, 9, 2, 81), (22, .aload_n 0, 0, 0, 0, 0), (23, .sipush 401, 0, 0, 401, 0), (26, .newarray .int, 0, 0, 0, 0), (28, .putfield 18, 2, 9, 2, 82), (31, .return_, 0, 0, 0, 0)]
/-- CardDrawer$Tape.hasRoom(I)Z -/
def cd100 : List pI := [(0, .aload_n 0, 0, 0, 0, 0), (1, .getfield 21, 4, 9, 0, 83), (4, .iload_n 1, 1, 0, 0, 0), (5, .iadd, 0, 0, 0, 0), (6, .sipush 400, 0, 0, 400, 0), (9, .if_icmp .gt 7, 16, 0, 0, 0), (12, .iconst 1, 0, 0, 1, 0), (13, .goto 4, 17, 0, 0, 0), (16, .iconst 0, 0, 0, 0, 0), (17, .ireturn, 1, 0, 0, 0)]
/-- CardDrawer$Tape.append(I)V -/
def cd101 : List pI := [(0, .bipush 24, 0, 0, 24, 0), (2, .istore_n 2, 2, 0, 0, 0), (3, .iload_n 2, 2, 0, 0, 0), (4, .ifCond .lt 35, 39, 0, 0, 0), (7, .aload_n 0, 0, 0, 0, 0), (8, .getfield 9, 0, 9, 0, 80), (11, .aload_n 0, 0, 0, 0, 0), (12, .getfield 21, 4, 9, 0, 83), (15, .iload_n 1, 1, 0, 0, 0), (16, .iload_n 2, 2, 0, 0, 0), (17, .iushr, 0, 0, 0, 0), (18, .sipush 255, 0, 0, 255, 0), (21, .iand, 0, 0, 0, 0), (22, .iastore, 0, 0, 0, 0), (23, .aload_n 0, 0, 0, 0, 0), (24, .dup, 0, 0, 0, 0), (25, .getfield 21, 4, 9, 0, 83), (28, .iconst 1, 0, 0, 1, 0), (29, .iadd, 0, 0, 0, 0), (30, .putfield 21, 4, 9, 0, 83), (33, .iinc 2 (-8), 2, 0, (-8), 0), (36, .goto (-33), 3, 0, 0, 0), (39, .return_, 0, 0, 0, 0)]
/-- CardDrawer$Tape.scan()V -/
def cd102 : List pI := [(0, .aload_n 0, 0, 0, 0, 0), (1, .iconst 0, 0, 0, 0, 0), (2, .putfield 25, 3, 9, 0, 84), (5, .iconst 0, 0, 0, 0, 0), (6, .istore_n 1, 1, 0, 0, 0), (7, .iconst 0, 0, 0, 0, 0), (8, .istore_n 2, 2, 0, 0, 0), (9, .nop, 3, 0, 0, 0), (9, .nop, 4, 0, 0, 0), (9, .iload_n 2, 2, 0, 0, 0), (10, .sipush 400, 0, 0, 400, 0), (13, .if_icmp .ge 122, 135, 0, 0, 0), (16, .iload_n 1, 1, 0, 0, 0), (17, .aload_n 0, 0, 0, 0, 0), (18, .getfield 21, 4, 9, 0, 83), (21, .if_icmp .ge 114, 135, 0, 0, 0), (24, .aload_n 0, 0, 0, 0, 0), (25, .getfield 9, 0, 9, 0, 80), (28, .iload_n 1, 1, 0, 0, 0), (29, .iaload, 0, 0, 0, 0), (30, .istore_n 3, 3, 0, 0, 0), (31, .iload_n 1, 1, 0, 0, 0), (32, .iconst 1, 0, 0, 1, 0), (33, .iadd, 0, 0, 0, 0), (34, .istore 4, 4, 0, 0, 0), (36, .iload_n 3, 3, 0, 0, 0), (37, .invokestatic 28, 104, 1, 0, 95), (40, .ifCond .eq 25, 65, 0, 0, 0), (43, .aload_n 0, 0, 0, 0, 0), (44, .iload_n 1, 1, 0, 0, 0), (45, .invokevirtual 32, 106, 1, 0, 96), (48, .istore 4, 4, 0, 0, 0), (50, .aload_n 0, 0, 0, 0, 0), (51, .iload_n 1, 1, 0, 0, 0), (52, .aload_n 0, 0, 0, 0, 0), (53, .iload_n 1, 1, 0, 0, 0), (54, .iload 4, 4, 0, 0, 0), (56, .invokevirtual 36, 108, 1, 0, 97), (59, .invokevirtual 40, 103, 0, 0, 98), (62, .goto 64, 126, 0, 0, 0), (65, .iload_n 3, 3, 0, 0, 0), (66, .invokestatic 44, 105, 1, 0, 99), (69, .ifCond .eq 25, 94, 0, 0, 0), (72, .aload_n 0, 0, 0, 0, 0), (73, .iload_n 1, 1, 0, 0, 0), (74, .invokevirtual 47, 107, 1, 0, 100), (77, .istore 4, 4, 0, 0, 0), (79, .aload_n 0, 0, 0, 0, 0), (80, .iload_n 1, 1, 0, 0, 0), (81, .aload_n 0, 0, 0, 0, 0), (82, .iload_n 1, 1, 0, 0, 0), (83, .iload 4, 4, 0, 0, 0), (85, .invokevirtual 50, 110, 1, 0, 101), (88, .invokevirtual 40, 103, 0, 0, 98), (91, .goto 35, 126, 0, 0, 0), (94, .iload_n 3, 3, 0, 0, 0), (95, .bipush 32, 0, 0, 32, 0), (97, .if_icmp .eq 29, 126, 0, 0, 0), (100, .iload_n 3, 3, 0, 0, 0), (101, .bipush 10, 0, 0, 10, 0), (103, .if_icmp .eq 23, 126, 0, 0, 0), (106, .aload_n 0, 0, 0, 0, 0), (107, .iload_n 1, 1, 0, 0, 0), (108, .ldc 53, 1, 1, 0, 0), (110, .iload_n 3, 3, 0, 0, 0), (111, .i2c, 0, 0, 0, 0), (112, .invokevirtual 55, 9003, 0, 0, 0), (115, .ifCond .lt 7, 122, 0, 0, 0), (118, .iload_n 3, 3, 0, 0, 0), (119, .goto 4, 123, 0, 0, 0), (122, .iconst 1, 0, 0, 1, 0), (123, .invokevirtual 40, 103, 0, 0, 98), (126, .iload 4, 4, 0, 0, 0), (128, .istore_n 1, 1, 0, 0, 0), (129, .iinc 2 1, 2, 0, 1, 0), (132, .goto (-123), 9, 0, 0, 0), (135, .nop, 1, 0, 0, 0), (135, .nop, 2, 0, 0, 0), (135, .nop, 3, 0, 0, 0), (135, .nop, 4, 0, 0, 0), (135, .aload_n 0, 0, 0, 0, 0), (136, .aload_n 0, 0, 0, 0, 0), (137, .getfield 21, 4, 9, 0, 83), (140, .iconst 0, 0, 0, 0, 0), (141, .invokevirtual 40, 103, 0, 0, 98), (144, .return_, 0, 0, 0, 0)]
/-- CardDrawer$Tape.put(II)V -/
def cd103 : List pI := [(0, .aload_n 0, 0, 0, 0, 0), (1, .getfield 25, 3, 9, 0, 84), (4, .sipush 400, 0, 0, 400, 0), (7, .if_icmp .gt 33, 40, 0, 0, 0), (10, .aload_n 0, 0, 0, 0, 0), (11, .getfield 18, 2, 9, 0, 82), (14, .aload_n 0, 0, 0, 0, 0), (15, .getfield 25, 3, 9, 0, 84), (18, .iload_n 1, 1, 0, 0, 0), (19, .iastore, 0, 0, 0, 0), (20, .aload_n 0, 0, 0, 0, 0), (21, .getfield 15, 1, 9, 0, 81), (24, .aload_n 0, 0, 0, 0, 0), (25, .getfield 25, 3, 9, 0, 84), (28, .iload_n 2, 2, 0, 0, 0), (29, .iastore, 0, 0, 0, 0), (30, .aload_n 0, 0, 0, 0, 0), (31, .dup, 0, 0, 0, 0), (32, .getfield 25, 3, 9, 0, 84), (35, .iconst 1, 0, 0, 1, 0), (36, .iadd, 0, 0, 0, 0), (37, .putfield 25, 3, 9, 0, 84), (40, .return_, 0, 0, 0, 0)]
/-- CardDrawer$Tape.isLetter(I)Z -/
def cd104 : List pI := [(0, .iload_n 0, 0, 0, 0, 0), (1, .bipush 97, 0, 0, 97, 0), (3, .if_icmp .lt 9, 12, 0, 0, 0), (6, .iload_n 0, 0, 0, 0, 0), (7, .bipush 122, 0, 0, 122, 0), (9, .if_icmp .le 15, 24, 0, 0, 0), (12, .iload_n 0, 0, 0, 0, 0), (13, .bipush 65, 0, 0, 65, 0), (15, .if_icmp .lt 13, 28, 0, 0, 0), (18, .iload_n 0, 0, 0, 0, 0), (19, .bipush 90, 0, 0, 90, 0), (21, .if_icmp .gt 7, 28, 0, 0, 0), (24, .iconst 1, 0, 0, 1, 0), (25, .goto 4, 29, 0, 0, 0), (28, .iconst 0, 0, 0, 0, 0), (29, .ireturn, 1, 0, 0, 0)]
/-- CardDrawer$Tape.isDigit(I)Z -/
def cd105 : List pI := [(0, .iload_n 0, 0, 0, 0, 0), (1, .bipush 48, 0, 0, 48, 0), (3, .if_icmp .lt 13, 16, 0, 0, 0), (6, .iload_n 0, 0, 0, 0, 0), (7, .bipush 57, 0, 0, 57, 0), (9, .if_icmp .gt 7, 16, 0, 0, 0), (12, .iconst 1, 0, 0, 1, 0), (13, .goto 4, 17, 0, 0, 0), (16, .iconst 0, 0, 0, 0, 0), (17, .ireturn, 1, 0, 0, 0)]
/-- CardDrawer$Tape.pastLetters(I)I -/
def cd106 : List pI := [(0, .iload_n 1, 1, 0, 0, 0), (1, .istore_n 2, 2, 0, 0, 0), (2, .nop, 1, 0, 0, 0), (2, .iload_n 2, 2, 0, 0, 0), (3, .aload_n 0, 0, 0, 0, 0), (4, .getfield 21, 4, 9, 0, 83), (7, .if_icmp .ge 23, 30, 0, 0, 0), (10, .aload_n 0, 0, 0, 0, 0), (11, .getfield 9, 0, 9, 0, 80), (14, .iload_n 2, 2, 0, 0, 0), (15, .iaload, 0, 0, 0, 0), (16, .invokestatic 28, 104, 1, 0, 95), (19, .ifCond .ne 5, 24, 0, 0, 0), (22, .iload_n 2, 2, 0, 0, 0), (23, .ireturn, 0, 0, 0, 0), (24, .iinc 2 1, 2, 0, 1, 0), (27, .goto (-25), 2, 0, 0, 0), (30, .aload_n 0, 0, 0, 0, 0), (31, .getfield 21, 4, 9, 0, 83), (34, .ireturn, 0, 0, 0, 0)]
/-- CardDrawer$Tape.pastDigits(I)I -/
def cd107 : List pI := [(0, .iload_n 1, 1, 0, 0, 0), (1, .istore_n 2, 2, 0, 0, 0), (2, .nop, 1, 0, 0, 0), (2, .iload_n 2, 2, 0, 0, 0), (3, .aload_n 0, 0, 0, 0, 0), (4, .getfield 21, 4, 9, 0, 83), (7, .if_icmp .ge 23, 30, 0, 0, 0), (10, .aload_n 0, 0, 0, 0, 0), (11, .getfield 9, 0, 9, 0, 80), (14, .iload_n 2, 2, 0, 0, 0), (15, .iaload, 0, 0, 0, 0), (16, .invokestatic 44, 105, 1, 0, 99), (19, .ifCond .ne 5, 24, 0, 0, 0), (22, .iload_n 2, 2, 0, 0, 0), (23, .ireturn, 0, 0, 0, 0), (24, .iinc 2 1, 2, 0, 1, 0), (27, .goto (-25), 2, 0, 0, 0), (30, .aload_n 0, 0, 0, 0, 0), (31, .getfield 21, 4, 9, 0, 83), (34, .ireturn, 0, 0, 0, 0)]
/-- CardDrawer$Tape.wordAt(II)I -/
def cd108 : List pI := [(0, .iload_n 2, 2, 0, 0, 0), (1, .iload_n 1, 1, 0, 0, 0), (2, .isub, 0, 0, 0, 0), (3, .bipush 6, 0, 0, 6, 0), (5, .if_icmp .le 5, 10, 0, 0, 0), (8, .iconst 1, 0, 0, 1, 0), (9, .ireturn, 0, 0, 0, 0), (10, .iconst 0, 0, 0, 0, 0), (11, .istore_n 3, 3, 0, 0, 0), (12, .iload_n 3, 3, 0, 0, 0), (13, .bipush 24, 0, 0, 24, 0), (15, .if_icmp .ge 25, 40, 0, 0, 0), (18, .aload_n 0, 0, 0, 0, 0), (19, .iload_n 3, 3, 0, 0, 0), (20, .iload_n 1, 1, 0, 0, 0), (21, .iload_n 2, 2, 0, 0, 0), (22, .invokevirtual 60, 109, 1, 0, 102), (25, .ifCond .eq 9, 34, 0, 0, 0), (28, .sipush 300, 0, 0, 300, 0), (31, .iload_n 3, 3, 0, 0, 0), (32, .iadd, 0, 0, 0, 0), (33, .ireturn, 0, 0, 0, 0), (34, .iinc 3 1, 3, 0, 1, 0), (37, .goto (-25), 12, 0, 0, 0), (40, .iconst 1, 0, 0, 1, 0), (41, .ireturn, 0, 0, 0, 0)]
/-- CardDrawer$Tape.isWord(III)Z -/
def cd109 : List pI := [(0, .iconst 0, 0, 0, 0, 0), (1, .istore 4, 4, 0, 0, 0), (3, .nop, 5, 0, 0, 0), (3, .iload 4, 4, 0, 0, 0), (5, .bipush 6, 0, 0, 6, 0), (7, .if_icmp .ge 52, 59, 0, 0, 0), (10, .iload_n 2, 2, 0, 0, 0), (11, .iload 4, 4, 0, 0, 0), (13, .iadd, 0, 0, 0, 0), (14, .iload_n 3, 3, 0, 0, 0), (15, .if_icmp .ge 15, 30, 0, 0, 0), (18, .aload_n 0, 0, 0, 0, 0), (19, .getfield 9, 0, 9, 0, 80), (22, .iload_n 2, 2, 0, 0, 0), (23, .iload 4, 4, 0, 0, 0), (25, .iadd, 0, 0, 0, 0), (26, .iaload, 0, 0, 0, 0), (27, .goto 5, 32, 0, 0, 0), (30, .bipush 32, 0, 0, 32, 0), (32, .nop, 5, 0, 0, 0), (32, .istore 5, 5, 0, 0, 0), (34, .ldc 64, 0, 1, 0, 0), (36, .iload_n 1, 1, 0, 0, 0), (37, .bipush 6, 0, 0, 6, 0), (39, .imul, 0, 0, 0, 0), (40, .iload 4, 4, 0, 0, 0), (42, .iadd, 0, 0, 0, 0), (43, .invokevirtual 66, 9002, 0, 0, 0), (46, .iload 5, 5, 0, 0, 0), (48, .if_icmp .eq 5, 53, 0, 0, 0), (51, .iconst 0, 0, 0, 0, 0), (52, .ireturn, 1, 0, 0, 0), (53, .iinc 4 1, 4, 0, 1, 0), (56, .goto (-53), 3, 0, 0, 0), (59, .iconst 1, 0, 0, 1, 0), (60, .ireturn, 1, 0, 0, 0)]
/-- CardDrawer$Tape.numberAt(II)I -/
def cd110 : List pI := [(0, .iload_n 2, 2, 0, 0, 0), (1, .iload_n 1, 1, 0, 0, 0), (2, .isub, 0, 0, 0, 0), (3, .iconst 4, 0, 0, 4, 0), (4, .if_icmp .le 5, 9, 0, 0, 0), (7, .iconst 1, 0, 0, 1, 0), (8, .ireturn, 0, 0, 0, 0), (9, .iconst 0, 0, 0, 0, 0), (10, .istore_n 3, 3, 0, 0, 0), (11, .iload_n 1, 1, 0, 0, 0), (12, .istore 4, 4, 0, 0, 0), (14, .nop, 1, 0, 0, 0), (14, .iload 4, 4, 0, 0, 0), (16, .iload_n 2, 2, 0, 0, 0), (17, .if_icmp .ge 25, 42, 0, 0, 0), (20, .iload_n 3, 3, 0, 0, 0), (21, .bipush 10, 0, 0, 10, 0), (23, .imul, 0, 0, 0, 0), (24, .aload_n 0, 0, 0, 0, 0), (25, .getfield 9, 0, 9, 0, 80), (28, .iload 4, 4, 0, 0, 0), (30, .iaload, 0, 0, 0, 0), (31, .iadd, 0, 0, 0, 0), (32, .bipush 48, 0, 0, 48, 0), (34, .isub, 0, 0, 0, 0), (35, .istore_n 3, 3, 0, 0, 0), (36, .iinc 4 1, 4, 0, 1, 0), (39, .goto (-25), 14, 0, 0, 0), (42, .sipush 1000, 0, 0, 1000, 0), (45, .iload_n 3, 3, 0, 0, 0), (46, .iadd, 0, 0, 0, 0), (47, .ireturn, 0, 0, 0, 0)]
/-- CardDrawer$Told.<init>()V -/
def cd111 : List pI := [(0, .aload_n 0, 0, 0, 0, 0), (1, .invokespecial 3, 9000, 0, 0, 0), (4, .aload_n 0, 0, 0, 0, 0), (5, .new 9, 0, 6, 0, 0), (8, .dup, 0, 0, 0, 0), (9, .invokespecial 11, 67, 0, 0, 103), (12, .putfield 12, 0, 10, 2, 85), (15, .aload_n 0, 0, 0, 0, 0), (16, .bipush 12, 0, 0, 12, 0), (18, .newarray .int, 0, 0, 0, 0), (20, .putfield 18, 1, 10, 2, 86), (23, .aload_n 0, 0, 0, 0, 0), (24, .bipush 8, 0, 0, 8, 0), (26, .newarray .int, 0, 0, 0, 0), (28, .putfield 22, 2, 10, 2, 87), (31, .aload_n 0, 0, 0, 0, 0), (32, .bipush 8, 0, 0, 8, 0), (34, .newarray .int, 0, 0, 0, 0), (36, .putfield 25, 3, 10, 2, 88), (39, .aload_n 0, 0, 0, 0, 0), (40, .new 28, 0, 8, 0, 0), (43, .dup, 0, 0, 0, 0), (44, .bipush 16, 0, 0, 16, 0), (46, .invokespecial 30, 94, 0, 0, 104), (49, .putfield 33, 4, 10, 2, 89), (52, .aload_n 0, 0, 0, 0, 0), (53, .new 28, 0, 8, 0, 0), (56, .dup, 0, 0, 0, 0), (57, .bipush 12, 0, 0, 12, 0), (59, .invokespecial 30, 94, 0, 0, 104), (62, .putfield 37, 5, 10, 2, 90), (65, .aload_n 0, 0, 0, 0, 0), (66, .new 28, 0, 8, 0, 0), (69, .dup, 0, 0, 0, 0), (70, .bipush 10, 0, 0, 10, 0), (72, .invokespecial 30, 94, 0, 0, 104), (75, .putfield 40, 6, 10, 2, 91), (78, .aload_n 0, 0, 0, 0, 0), (79, .new 28, 0, 8, 0, 0), (82, .dup, 0, 0, 0, 0), (83, .bipush 8, 0, 0, 8, 0), (85, .invokespecial 30, 94, 0, 0, 104), (88, .putfield 43, 7, 10, 2, 92), (91, .iconst 0, 0, 0, 0, 0), (92, .istore_n 1, 1, 0, 0, 0), (93, .iload_n 1, 1, 0, 0, 0), (94, .bipush 12, 0, 0, 12, 0), (96, .if_icmp .ge 16, 112, 0, 0, 0), (99, .aload_n 0, 0, 0, 0, 0), (100, .getfield 18, 1, 10, 0, 86), (103, .iload_n 1, 1, 0, 0, 0), (104, .iconst (-1), 0, 0, (-1), 0), (105, .iastore, 0, 0, 0, 0), (106, .iinc 1 1, 1, 0, 1, 0), (109, .goto (-16), 93, 0, 0, 0), (112, .iconst 0, 0, 0, 0, 0), (113, .istore_n 1, 1, 0, 0, 0), (114, .iload_n 1, 1, 0, 0, 0), (115, .bipush 8, 0, 0, 8, 0), (117, .if_icmp .ge 17, 134, 0, 0, 0), (120, .aload_n 0, 0, 0, 0, 0), (121, .getfield 25, 3, 10, 0, 88), (124, .iload_n 1, 1, 0, 0, 0), (125, .bipush 99, 0, 0, 99, 0), (127, .iastore, 0, 0, 0, 0), (128, .iinc 1 1, 1, 0, 1, 0), (131, .goto (-17), 114, 0, 0, 0), (134, .return_, 0, 0, 0, 0)]
/-- CardDrawer$Told.copyFrom(LCardDrawer$Told;)V -/
def cd112 : List pI := [(0, .aload_n 0, 0, 0, 0, 0), (1, .getfield 12, 0, 10, 0, 85), (4, .aload_n 1, 1, 0, 0, 0), (5, .getfield 12, 0, 10, 0, 85), (8, .invokevirtual 46, 68, 0, 0, 105), (11, .aload_n 1, 1, 0, 0, 0), (12, .getfield 18, 1, 10, 0, 86), (15, .iconst 0, 0, 0, 0, 0), (16, .aload_n 0, 0, 0, 0, 0), (17, .getfield 18, 1, 10, 0, 86), (20, .iconst 0, 0, 0, 0, 0), (21, .bipush 12, 0, 0, 12, 0), (23, .invokestatic 50, 9001, 0, 0, 0), (26, .aload_n 1, 1, 0, 0, 0), (27, .getfield 22, 2, 10, 0, 87), (30, .iconst 0, 0, 0, 0, 0), (31, .aload_n 0, 0, 0, 0, 0), (32, .getfield 22, 2, 10, 0, 87), (35, .iconst 0, 0, 0, 0, 0), (36, .bipush 8, 0, 0, 8, 0), (38, .invokestatic 50, 9001, 0, 0, 0), (41, .aload_n 1, 1, 0, 0, 0), (42, .getfield 25, 3, 10, 0, 88), (45, .iconst 0, 0, 0, 0, 0), (46, .aload_n 0, 0, 0, 0, 0), (47, .getfield 25, 3, 10, 0, 88), (50, .iconst 0, 0, 0, 0, 0), (51, .bipush 8, 0, 0, 8, 0), (53, .invokestatic 50, 9001, 0, 0, 0), (56, .aload_n 0, 0, 0, 0, 0), (57, .getfield 33, 4, 10, 0, 89), (60, .aload_n 1, 1, 0, 0, 0), (61, .getfield 33, 4, 10, 0, 89), (64, .invokevirtual 56, 98, 0, 0, 106), (67, .aload_n 0, 0, 0, 0, 0), (68, .getfield 37, 5, 10, 0, 90), (71, .aload_n 1, 1, 0, 0, 0), (72, .getfield 37, 5, 10, 0, 90), (75, .invokevirtual 56, 98, 0, 0, 106), (78, .aload_n 0, 0, 0, 0, 0), (79, .getfield 40, 6, 10, 0, 91), (82, .aload_n 1, 1, 0, 0, 0), (83, .getfield 40, 6, 10, 0, 91), (86, .invokevirtual 56, 98, 0, 0, 106), (89, .aload_n 0, 0, 0, 0, 0), (90, .getfield 43, 7, 10, 0, 92), (93, .aload_n 1, 1, 0, 0, 0), (94, .getfield 43, 7, 10, 0, 92), (97, .invokevirtual 56, 98, 0, 0, 106), (100, .aload_n 0, 0, 0, 0, 0), (101, .aload_n 1, 1, 0, 0, 0), (102, .getfield 59, 8, 10, 0, 93), (105, .putfield 59, 8, 10, 0, 93), (108, .aload_n 0, 0, 0, 0, 0), (109, .aload_n 1, 1, 0, 0, 0), (110, .getfield 63, 9, 10, 0, 94), (113, .putfield 63, 9, 10, 0, 94), (116, .return_, 0, 0, 0, 0)]
/-- CardDrawer$Told.take(ILCardDrawer$Reader;)V -/
def cd113 : List pI := [(0, .iload_n 1, 1, 0, 0, 0), (1, .tableswitch 63 0 2 #[27, 41, 52], 0, 0, 0, 0), (28, .aload_n 0, 0, 0, 0, 0), (29, .getfield 12, 0, 10, 0, 85), (32, .aload_n 2, 2, 0, 0, 0), (33, .getfield 66, 1, 7, 0, 95), (36, .invokevirtual 46, 68, 0, 0, 105), (39, .goto 36, 75, 0, 0, 0), (42, .aload_n 0, 0, 0, 0, 0), (43, .aload_n 2, 2, 0, 0, 0), (44, .getfield 69, 2, 7, 0, 96), (47, .invokevirtual 72, 114, 0, 0, 107), (50, .goto 25, 75, 0, 0, 0), (53, .aload_n 0, 0, 0, 0, 0), (54, .aload_n 2, 2, 0, 0, 0), (55, .getfield 69, 2, 7, 0, 96), (58, .invokevirtual 75, 115, 0, 0, 108), (61, .goto 14, 75, 0, 0, 0), (64, .aload_n 0, 0, 0, 0, 0), (65, .getfield 33, 4, 10, 0, 89), (68, .aload_n 2, 2, 0, 0, 0), (69, .getfield 69, 2, 7, 0, 96), (72, .invokevirtual 56, 98, 0, 0, 106), (75, .return_, 0, 0, 0, 0)]
/-- CardDrawer$Told.takeMet(LCardDrawer$Rows;)V -/
def cd114 : List pI := [(0, .iconst 0, 0, 0, 0, 0), (1, .istore_n 2, 2, 0, 0, 0), (2, .nop, 3, 0, 0, 0), (2, .iload_n 2, 2, 0, 0, 0), (3, .bipush 12, 0, 0, 12, 0), (5, .if_icmp .ge 16, 21, 0, 0, 0), (8, .aload_n 0, 0, 0, 0, 0), (9, .getfield 18, 1, 10, 0, 86), (12, .iload_n 2, 2, 0, 0, 0), (13, .iconst (-1), 0, 0, (-1), 0), (14, .iastore, 0, 0, 0, 0), (15, .iinc 2 1, 2, 0, 1, 0), (18, .goto (-16), 2, 0, 0, 0), (21, .iconst 0, 0, 0, 0, 0), (22, .istore_n 2, 2, 0, 0, 0), (23, .nop, 3, 0, 0, 0), (23, .iload_n 2, 2, 0, 0, 0), (24, .aload_n 1, 1, 0, 0, 0), (25, .getfield 78, 2, 8, 0, 97), (28, .if_icmp .ge 47, 75, 0, 0, 0), (31, .aload_n 1, 1, 0, 0, 0), (32, .iload_n 2, 2, 0, 0, 0), (33, .iconst 0, 0, 0, 0, 0), (34, .invokevirtual 81, 97, 1, 0, 109), (37, .istore_n 3, 3, 0, 0, 0), (38, .iload_n 3, 3, 0, 0, 0), (39, .bipush 12, 0, 0, 12, 0), (41, .invokestatic 85, 153, 1, 0, 110), (44, .ifCond .eq 25, 69, 0, 0, 0), (47, .aload_n 0, 0, 0, 0, 0), (48, .getfield 18, 1, 10, 0, 86), (51, .iload_n 3, 3, 0, 0, 0), (52, .iaload, 0, 0, 0, 0), (53, .iconst (-1), 0, 0, (-1), 0), (54, .if_icmp .ne 15, 69, 0, 0, 0), (57, .aload_n 0, 0, 0, 0, 0), (58, .getfield 18, 1, 10, 0, 86), (61, .iload_n 3, 3, 0, 0, 0), (62, .aload_n 1, 1, 0, 0, 0), (63, .iload_n 2, 2, 0, 0, 0), (64, .iconst 1, 0, 0, 1, 0), (65, .invokevirtual 81, 97, 1, 0, 109), (68, .iastore, 0, 0, 0, 0), (69, .iinc 2 1, 2, 0, 1, 0), (72, .goto (-49), 23, 0, 0, 0), (75, .aload_n 0, 0, 0, 0, 0), (76, .aload_n 1, 1, 0, 0, 0), (77, .getfield 78, 2, 8, 0, 97), (80, .putfield 59, 8, 10, 0, 93), (83, .return_, 0, 0, 0, 0)]
/-- CardDrawer$Told.takeCalled(LCardDrawer$Rows;)V -/
def cd115 : List pI := [(0, .iconst 0, 0, 0, 0, 0), (1, .istore_n 2, 2, 0, 0, 0), (2, .nop, 3, 0, 0, 0), (2, .iload_n 2, 2, 0, 0, 0), (3, .bipush 8, 0, 0, 8, 0), (5, .if_icmp .ge 24, 29, 0, 0, 0), (8, .aload_n 0, 0, 0, 0, 0), (9, .getfield 22, 2, 10, 0, 87), (12, .iload_n 2, 2, 0, 0, 0), (13, .iconst 0, 0, 0, 0, 0), (14, .iastore, 0, 0, 0, 0), (15, .aload_n 0, 0, 0, 0, 0), (16, .getfield 25, 3, 10, 0, 88), (19, .iload_n 2, 2, 0, 0, 0), (20, .bipush 99, 0, 0, 99, 0), (22, .iastore, 0, 0, 0, 0), (23, .iinc 2 1, 2, 0, 1, 0), (26, .goto (-24), 2, 0, 0, 0), (29, .iconst 0, 0, 0, 0, 0), (30, .istore_n 2, 2, 0, 0, 0), (31, .nop, 3, 0, 0, 0), (31, .iload_n 2, 2, 0, 0, 0), (32, .aload_n 1, 1, 0, 0, 0), (33, .getfield 78, 2, 8, 0, 97), (36, .if_icmp .ge 49, 85, 0, 0, 0), (39, .aload_n 1, 1, 0, 0, 0), (40, .iload_n 2, 2, 0, 0, 0), (41, .iconst 0, 0, 0, 0, 0), (42, .invokevirtual 81, 97, 1, 0, 109), (45, .istore_n 3, 3, 0, 0, 0), (46, .iload_n 3, 3, 0, 0, 0), (47, .bipush 8, 0, 0, 8, 0), (49, .invokestatic 85, 153, 1, 0, 110), (52, .ifCond .eq 27, 79, 0, 0, 0), (55, .aload_n 0, 0, 0, 0, 0), (56, .getfield 22, 2, 10, 0, 87), (59, .iload_n 3, 3, 0, 0, 0), (60, .aload_n 1, 1, 0, 0, 0), (61, .iload_n 2, 2, 0, 0, 0), (62, .iconst 1, 0, 0, 1, 0), (63, .invokevirtual 81, 97, 1, 0, 109), (66, .iastore, 0, 0, 0, 0), (67, .aload_n 0, 0, 0, 0, 0), (68, .getfield 25, 3, 10, 0, 88), (71, .iload_n 3, 3, 0, 0, 0), (72, .aload_n 1, 1, 0, 0, 0), (73, .iload_n 2, 2, 0, 0, 0), (74, .iconst 2, 0, 0, 2, 0), (75, .invokevirtual 81, 97, 1, 0, 109), (78, .iastore, 0, 0, 0, 0), (79, .iinc 2 1, 2, 0, 1, 0), (82, .goto (-51), 31, 0, 0, 0), (85, .aload_n 0, 0, 0, 0, 0), (86, .aload_n 1, 1, 0, 0, 0), (87, .getfield 78, 2, 8, 0, 97), (90, .putfield 63, 9, 10, 0, 94), (93, .return_, 0, 0, 0, 0)]
/-- CardDrawer.<init>()V -/
def cd116 : List pI := [(0, .aload_n 0, 0, 0, 0, 0), (1, .invokespecial 1, 9000, 0, 0, 0), (4, .aload_n 0, 0, 0, 0, 0), (5, .new 7, 0, 3, 0, 0), (8, .dup, 0, 0, 0, 0), (9, .invokespecial 9, 36, 0, 0, 111), (12, .putfield 10, 0, 11, 2, 98), (15, .aload_n 0, 0, 0, 0, 0), (16, .new 16, 0, 10, 0, 0), (19, .dup, 0, 0, 0, 0), (20, .invokespecial 18, 111, 0, 0, 112), (23, .putfield 19, 1, 11, 2, 99), (26, .aload_n 0, 0, 0, 0, 0), (27, .new 23, 0, 8, 0, 0), (30, .dup, 0, 0, 0, 0), (31, .sipush 150, 0, 0, 150, 0), (34, .invokespecial 25, 94, 0, 0, 113), (37, .putfield 28, 2, 11, 2, 100), (40, .aload_n 0, 0, 0, 0, 0), (41, .new 32, 0, 5, 0, 0), (44, .dup, 0, 0, 0, 0), (45, .aload_n 0, 0, 0, 0, 0), (46, .getfield 10, 0, 11, 0, 98), (49, .aload_n 0, 0, 0, 0, 0), (50, .getfield 19, 1, 11, 0, 99), (53, .aload_n 0, 0, 0, 0, 0), (54, .getfield 28, 2, 11, 0, 100), (57, .iconst 0, 0, 0, 0, 0), (58, .invokespecial 34, 53, 0, 0, 114), (61, .putfield 37, 3, 11, 2, 101), (64, .aload_n 0, 0, 0, 0, 0), (65, .new 7, 0, 3, 0, 0), (68, .dup, 0, 0, 0, 0), (69, .invokespecial 9, 36, 0, 0, 111), (72, .putfield 41, 4, 11, 2, 102), (75, .aload_n 0, 0, 0, 0, 0), (76, .new 32, 0, 5, 0, 0), (79, .dup, 0, 0, 0, 0), (80, .aload_n 0, 0, 0, 0, 0), (81, .getfield 41, 4, 11, 0, 102), (84, .aload_n 0, 0, 0, 0, 0), (85, .getfield 19, 1, 11, 0, 99), (88, .new 23, 0, 8, 0, 0), (91, .dup, 0, 0, 0, 0), (92, .iconst 0, 0, 0, 0, 0), (93, .invokespecial 25, 94, 0, 0, 113), (96, .iconst 1, 0, 0, 1, 0), (97, .invokespecial 34, 53, 0, 0, 114), (100, .putfield 44, 5, 11, 2, 103), (103, .aload_n 0, 0, 0, 0, 0), (104, .new 47, 0, 4, 0, 0), (107, .dup, 0, 0, 0, 0), (108, .invokespecial 49, 48, 0, 0, 115), (111, .putfield 50, 6, 11, 2, 104), (114, .aload_n 0, 0, 0, 0, 0), (115, .new 54, 0, 9, 0, 0), (118, .dup, 0, 0, 0, 0), (119, .invokespecial 56, 99, 0, 0, 116), (122, .putfield 57, 7, 11, 2, 105), (125, .aload_n 0, 0, 0, 0, 0), (126, .new 61, 0, 7, 0, 0), (129, .dup, 0, 0, 0, 0), (130, .aload_n 0, 0, 0, 0, 0), (131, .getfield 57, 7, 11, 0, 105), (134, .invokespecial 63, 77, 0, 0, 117), (137, .putfield 66, 8, 11, 2, 106), (140, .aload_n 0, 0, 0, 0, 0), (141, .new 70, 0, 2, 0, 0), (144, .dup, 0, 0, 0, 0), (145, .aload_n 0, 0, 0, 0, 0), (146, .getfield 10, 0, 11, 0, 98), (149, .aload_n 0, 0, 0, 0, 0), (150, .getfield 19, 1, 11, 0, 99), (153, .invokespecial 72, 33, 0, 0, 118), (156, .putfield 75, 9, 11, 2, 107), (159, .aload_n 0, 0, 0, 0, 0), (160, .new 79, 0, 1, 0, 0), (163, .dup, 0, 0, 0, 0), (164, .aload_n 0, 0, 0, 0, 0), (165, .getfield 10, 0, 11, 0, 98), (168, .aload_n 0, 0, 0, 0, 0), (169, .getfield 19, 1, 11, 0, 99), (172, .invokespecial 81, 19, 0, 0, 119), (175, .putfield 82, 10, 11, 2, 108), (178, .aload_n 0, 0, 0, 0, 0), (179, .new 86, 0, 0, 0, 0), (182, .dup, 0, 0, 0, 0), (183, .aload_n 0, 0, 0, 0, 0), (184, .getfield 10, 0, 11, 0, 98), (187, .aload_n 0, 0, 0, 0, 0), (188, .getfield 19, 1, 11, 0, 99), (191, .invokespecial 88, 0, 0, 0, 120), (194, .putfield 89, 11, 11, 2, 109), (197, .aload_n 0, 0, 0, 0, 0), (198, .new 7, 0, 3, 0, 0), (201, .dup, 0, 0, 0, 0), (202, .invokespecial 9, 36, 0, 0, 111), (205, .putfield 93, 12, 11, 2, 110), (208, .aload_n 0, 0, 0, 0, 0), (209, .new 16, 0, 10, 0, 0), (212, .dup, 0, 0, 0, 0), (213, .invokespecial 18, 111, 0, 0, 112), (216, .putfield 96, 13, 11, 2, 111), (219, .aload_n 0, 0, 0, 0, 0), (220, .new 23, 0, 8, 0, 0), (223, .dup, 0, 0, 0, 0), (224, .sipush 150, 0, 0, 150, 0), (227, .invokespecial 25, 94, 0, 0, 113), (230, .putfield 99, 14, 11, 2, 112), (233, .aload_n 0, 0, 0, 0, 0), (234, .iconst 0, 0, 0, 0, 0), (235, .putfield 102, 15, 11, 1, 113), (238, .return_, 0, 0, 0, 0)]
/-- CardDrawer.state(I)I -/
def cd117 : List pI := [(0, .aload_n 0, 0, 0, 0, 0), (1, .getfield 10, 0, 11, 0, 98), (4, .getfield 106, 7, 3, 0, 114), (7, .istore_n 2, 2, 0, 0, 0), (8, .aload_n 0, 0, 0, 0, 0), (9, .getfield 10, 0, 11, 0, 98), (12, .iload_n 1, 1, 0, 0, 0), (13, .putfield 106, 7, 3, 0, 114), (16, .aload_n 0, 0, 0, 0, 0), (17, .getfield 50, 6, 11, 0, 104), (20, .invokevirtual 110, 49, 0, 0, 121), (23, .iload_n 2, 2, 0, 0, 0), (24, .ireturn, 0, 0, 0, 0)]
/-- CardDrawer.card(IIII)I -/
def cd118 : List pI := [(0, .iload_n 1, 1, 0, 0, 0), (1, .bipush 12, 0, 0, 12, 0), (3, .invokestatic 113, 153, 1, 0, 122), (6, .ifCond .eq 21, 27, 0, 0, 0), (9, .iload_n 2, 2, 0, 0, 0), (10, .bipush 8, 0, 0, 8, 0), (12, .invokestatic 113, 153, 1, 0, 122), (15, .ifCond .eq 12, 27, 0, 0, 0), (18, .iload_n 3, 3, 0, 0, 0), (19, .bipush 6, 0, 0, 6, 0), (21, .invokestatic 113, 153, 1, 0, 122), (24, .ifCond .ne 5, 29, 0, 0, 0), (27, .iconst (-1), 0, 0, (-1), 0), (28, .ireturn, 0, 0, 0, 0), (29, .iload 4, 4, 0, 0, 0), (31, .bipush 100, 0, 0, 100, 0), (33, .invokestatic 113, 153, 1, 0, 122), (36, .ifCond .eq 15, 51, 0, 0, 0), (39, .aload_n 0, 0, 0, 0, 0), (40, .getfield 10, 0, 11, 0, 98), (43, .getfield 117, 1, 3, 0, 115), (46, .bipush 14, 0, 0, 14, 0), (48, .if_icmp .lt 5, 53, 0, 0, 0), (51, .iconst (-1), 0, 0, (-1), 0), (52, .ireturn, 0, 0, 0, 0), (53, .aload_n 0, 0, 0, 0, 0), (54, .getfield 50, 6, 11, 0, 104), (57, .invokevirtual 110, 49, 0, 0, 121), (60, .aload_n 0, 0, 0, 0, 0), (61, .getfield 10, 0, 11, 0, 98), (64, .iload_n 1, 1, 0, 0, 0), (65, .iload_n 2, 2, 0, 0, 0), (66, .iload_n 3, 3, 0, 0, 0), (67, .iload 4, 4, 0, 0, 0), (69, .invokevirtual 120, 42, 1, 0, 123), (72, .ireturn, 0, 0, 0, 0)]
/-- CardDrawer.set(III)Z -/
def cd119 : List pI := [(0, .iload_n 3, 3, 0, 0, 0), (1, .iload_n 1, 1, 0, 0, 0), (2, .iconst 2, 0, 0, 2, 0), (3, .if_icmp .ne 8, 11, 0, 0, 0), (6, .bipush 100, 0, 0, 100, 0), (8, .goto 5, 13, 0, 0, 0), (11, .bipush 100, 0, 0, 100, 0), (13, .invokestatic 113, 153, 1, 0, 122), (16, .ifCond .ne 5, 21, 0, 0, 0), (19, .iconst 0, 0, 0, 0, 0), (20, .ireturn, 1, 0, 0, 0), (21, .iload_n 1, 1, 0, 0, 0), (22, .ifCond .ne 14, 36, 0, 0, 0), (25, .aload_n 0, 0, 0, 0, 0), (26, .getfield 10, 0, 11, 0, 98), (29, .iload_n 3, 3, 0, 0, 0), (30, .putfield 124, 3, 3, 0, 116), (33, .goto 48, 81, 0, 0, 0), (36, .iload_n 1, 1, 0, 0, 0), (37, .iconst 1, 0, 0, 1, 0), (38, .if_icmp .eq 8, 46, 0, 0, 0), (41, .iload_n 1, 1, 0, 0, 0), (42, .iconst 2, 0, 0, 2, 0), (43, .if_icmp .ne 36, 79, 0, 0, 0), (46, .aload_n 0, 0, 0, 0, 0), (47, .getfield 10, 0, 11, 0, 98), (50, .iload_n 2, 2, 0, 0, 0), (51, .invokevirtual 127, 38, 1, 0, 124), (54, .ifCond .eq 25, 79, 0, 0, 0), (57, .aload_n 0, 0, 0, 0, 0), (58, .getfield 10, 0, 11, 0, 98), (61, .iload_n 2, 2, 0, 0, 0), (62, .iload_n 1, 1, 0, 0, 0), (63, .iconst 1, 0, 0, 1, 0), (64, .if_icmp .ne 7, 71, 0, 0, 0), (67, .iconst 3, 0, 0, 3, 0), (68, .goto 4, 72, 0, 0, 0), (71, .iconst 5, 0, 0, 5, 0), (72, .iload_n 3, 3, 0, 0, 0), (73, .invokevirtual 131, 41, 0, 0, 125), (76, .goto 5, 81, 0, 0, 0), (79, .iconst 0, 0, 0, 0, 0), (80, .ireturn, 1, 0, 0, 0), (81, .nop, 1, 0, 0, 0), (81, .nop, 2, 0, 0, 0), (81, .nop, 3, 0, 0, 0), (81, .aload_n 0, 0, 0, 0, 0), (82, .getfield 50, 6, 11, 0, 104), (85, .invokevirtual 110, 49, 0, 0, 121), (88, .iconst 1, 0, 0, 1, 0), (89, .ireturn, 1, 0, 0, 0)]
/-- CardDrawer.ring(I)I -/
def cd120 : List pI := [(0, .iload_n 1, 1, 0, 0, 0), (1, .bipush 12, 0, 0, 12, 0), (3, .invokestatic 113, 153, 1, 0, 122), (6, .ifCond .eq 15, 21, 0, 0, 0), (9, .aload_n 0, 0, 0, 0, 0), (10, .getfield 10, 0, 11, 0, 98), (13, .iconst 0, 0, 0, 0, 0), (14, .iload_n 1, 1, 0, 0, 0), (15, .invokevirtual 135, 45, 1, 0, 126), (18, .ifCond .ne 5, 23, 0, 0, 0), (21, .iconst (-1), 0, 0, (-1), 0), (22, .ireturn, 0, 0, 0, 0), (23, .aload_n 0, 0, 0, 0, 0), (24, .getfield 50, 6, 11, 0, 104), (27, .aload_n 0, 0, 0, 0, 0), (28, .getfield 10, 0, 11, 0, 98), (31, .aload_n 0, 0, 0, 0, 0), (32, .getfield 28, 2, 11, 0, 100), (35, .getfield 139, 2, 8, 0, 117), (38, .invokevirtual 142, 50, 0, 0, 127), (41, .aload_n 0, 0, 0, 0, 0), (42, .getfield 37, 3, 11, 0, 101), (45, .iload_n 1, 1, 0, 0, 0), (46, .invokevirtual 146, 58, 1, 0, 128), (49, .ireturn, 0, 0, 0, 0)]
/-- CardDrawer.toss(I)I -/
def cd121 : List pI := [(0, .iload_n 1, 1, 0, 0, 0), (1, .iconst 1, 0, 0, 1, 0), (2, .if_icmp .lt 9, 11, 0, 0, 0), (5, .iload_n 1, 1, 0, 0, 0), (6, .bipush 14, 0, 0, 14, 0), (8, .if_icmp .le 5, 13, 0, 0, 0), (11, .iconst (-1), 0, 0, (-1), 0), (12, .ireturn, 0, 0, 0, 0), (13, .aload_n 0, 0, 0, 0, 0), (14, .getfield 50, 6, 11, 0, 104), (17, .aload_n 0, 0, 0, 0, 0), (18, .getfield 10, 0, 11, 0, 98), (21, .aload_n 0, 0, 0, 0, 0), (22, .getfield 28, 2, 11, 0, 100), (25, .getfield 139, 2, 8, 0, 117), (28, .invokevirtual 142, 50, 0, 0, 127), (31, .aload_n 0, 0, 0, 0, 0), (32, .getfield 37, 3, 11, 0, 101), (35, .iload_n 1, 1, 0, 0, 0), (36, .invokevirtual 150, 59, 1, 0, 129), (39, .ireturn, 0, 0, 0, 0)]
/-- CardDrawer.does(IZ)Z -/
def cd122 : List pI := [(0, .aload_n 0, 0, 0, 0, 0), (1, .getfield 10, 0, 11, 0, 98), (4, .iload_n 1, 1, 0, 0, 0), (5, .invokevirtual 127, 38, 1, 0, 124), (8, .ifCond .eq 18, 26, 0, 0, 0), (11, .iload_n 2, 2, 0, 0, 0), (12, .ifCond .eq 16, 28, 0, 0, 0), (15, .aload_n 0, 0, 0, 0, 0), (16, .getfield 10, 0, 11, 0, 98), (19, .iload_n 1, 1, 0, 0, 0), (20, .invokevirtual 153, 39, 1, 0, 130), (23, .ifCond .eq 5, 28, 0, 0, 0), (26, .iconst 0, 0, 0, 0, 0), (27, .ireturn, 1, 0, 0, 0), (28, .aload_n 0, 0, 0, 0, 0), (29, .getfield 50, 6, 11, 0, 104), (32, .aload_n 0, 0, 0, 0, 0), (33, .getfield 10, 0, 11, 0, 98), (36, .aload_n 0, 0, 0, 0, 0), (37, .getfield 28, 2, 11, 0, 100), (40, .getfield 139, 2, 8, 0, 117), (43, .invokevirtual 142, 50, 0, 0, 127), (46, .iload_n 2, 2, 0, 0, 0), (47, .ifCond .eq 14, 61, 0, 0, 0), (50, .aload_n 0, 0, 0, 0, 0), (51, .getfield 37, 3, 11, 0, 101), (54, .iload_n 1, 1, 0, 0, 0), (55, .invokevirtual 156, 62, 0, 0, 131), (58, .goto 11, 69, 0, 0, 0), (61, .aload_n 0, 0, 0, 0, 0), (62, .getfield 37, 3, 11, 0, 101), (65, .iload_n 1, 1, 0, 0, 0), (66, .invokevirtual 159, 61, 0, 0, 132), (69, .iconst 1, 0, 0, 1, 0), (70, .ireturn, 1, 0, 0, 0)]
/-- CardDrawer.years(I)I -/
def cd123 : List pI := [(0, .iload_n 1, 1, 0, 0, 0), (1, .iconst 1, 0, 0, 1, 0), (2, .if_icmp .lt 23, 25, 0, 0, 0), (5, .iload_n 1, 1, 0, 0, 0), (6, .bipush 30, 0, 0, 30, 0), (8, .if_icmp .gt 17, 25, 0, 0, 0), (11, .aload_n 0, 0, 0, 0, 0), (12, .getfield 10, 0, 11, 0, 98), (15, .getfield 124, 3, 3, 0, 116), (18, .iload_n 1, 1, 0, 0, 0), (19, .iadd, 0, 0, 0, 0), (20, .bipush 99, 0, 0, 99, 0), (22, .if_icmp .le 5, 27, 0, 0, 0), (25, .iconst (-1), 0, 0, (-1), 0), (26, .ireturn, 0, 0, 0, 0), (27, .aload_n 0, 0, 0, 0, 0), (28, .getfield 10, 0, 11, 0, 98), (31, .getfield 162, 4, 3, 0, 118), (34, .istore_n 2, 2, 0, 0, 0), (35, .iconst 0, 0, 0, 0, 0), (36, .istore_n 3, 3, 0, 0, 0), (37, .iload_n 3, 3, 0, 0, 0), (38, .iload_n 1, 1, 0, 0, 0), (39, .if_icmp .ge 34, 73, 0, 0, 0), (42, .aload_n 0, 0, 0, 0, 0), (43, .getfield 50, 6, 11, 0, 104), (46, .aload_n 0, 0, 0, 0, 0), (47, .getfield 10, 0, 11, 0, 98), (50, .aload_n 0, 0, 0, 0, 0), (51, .getfield 28, 2, 11, 0, 100), (54, .getfield 139, 2, 8, 0, 117), (57, .invokevirtual 142, 50, 0, 0, 127), (60, .aload_n 0, 0, 0, 0, 0), (61, .getfield 37, 3, 11, 0, 101), (64, .invokevirtual 165, 63, 0, 0, 133), (67, .iinc 3 1, 3, 0, 1, 0), (70, .goto (-33), 37, 0, 0, 0), (73, .aload_n 0, 0, 0, 0, 0), (74, .getfield 10, 0, 11, 0, 98), (77, .getfield 162, 4, 3, 0, 118), (80, .iload_n 2, 2, 0, 0, 0), (81, .isub, 0, 0, 0, 0), (82, .ireturn, 0, 0, 0, 0)]
/-- CardDrawer.feed(IIIII)I -/
def cd124 : List pI := [(0, .aload_n 0, 0, 0, 0, 0), (1, .getfield 57, 7, 11, 0, 105), (4, .bipush 20, 0, 0, 20, 0), (6, .invokevirtual 168, 100, 1, 0, 134), (9, .ifCond .ne 5, 14, 0, 0, 0), (12, .iconst (-1), 0, 0, (-1), 0), (13, .ireturn, 0, 0, 0, 0), (14, .aload_n 0, 0, 0, 0, 0), (15, .getfield 57, 7, 11, 0, 105), (18, .iload_n 1, 1, 0, 0, 0), (19, .invokevirtual 171, 101, 0, 0, 135), (22, .aload_n 0, 0, 0, 0, 0), (23, .getfield 57, 7, 11, 0, 105), (26, .iload_n 2, 2, 0, 0, 0), (27, .invokevirtual 171, 101, 0, 0, 135), (30, .aload_n 0, 0, 0, 0, 0), (31, .getfield 57, 7, 11, 0, 105), (34, .iload_n 3, 3, 0, 0, 0), (35, .invokevirtual 171, 101, 0, 0, 135), (38, .aload_n 0, 0, 0, 0, 0), (39, .getfield 57, 7, 11, 0, 105), (42, .iload 4, 4, 0, 0, 0), (44, .invokevirtual 171, 101, 0, 0, 135), (47, .aload_n 0, 0, 0, 0, 0), (48, .getfield 57, 7, 11, 0, 105), (51, .iload 5, 5, 0, 0, 0), (53, .invokevirtual 171, 101, 0, 0, 135), (56, .aload_n 0, 0, 0, 0, 0), (57, .getfield 57, 7, 11, 0, 105), (60, .getfield 174, 4, 9, 0, 119), (63, .ireturn, 0, 0, 0, 0)]
/-- CardDrawer.end(I)Z -/
def cd125 : List pI := [(0, .iload_n 1, 1, 0, 0, 0), (1, .ifCond .lt 14, 15, 0, 0, 0), (4, .iload_n 1, 1, 0, 0, 0), (5, .aload_n 0, 0, 0, 0, 0), (6, .getfield 57, 7, 11, 0, 105), (9, .getfield 174, 4, 9, 0, 119), (12, .if_icmp .le 5, 17, 0, 0, 0), (15, .iconst 0, 0, 0, 0, 0), (16, .ireturn, 1, 0, 0, 0), (17, .aload_n 0, 0, 0, 0, 0), (18, .getfield 57, 7, 11, 0, 105), (21, .iload_n 1, 1, 0, 0, 0), (22, .putfield 174, 4, 9, 0, 119), (25, .iconst 1, 0, 0, 1, 0), (26, .ireturn, 1, 0, 0, 0)]
/-- CardDrawer.text(I)I -/
def cd126 : List pI := [(0, .aload_n 0, 0, 0, 0, 0), (1, .getfield 66, 8, 11, 0, 106), (4, .iload_n 1, 1, 0, 0, 0), (5, .aload_n 0, 0, 0, 0, 0), (6, .getfield 10, 0, 11, 0, 98), (9, .getfield 117, 1, 3, 0, 115), (12, .invokevirtual 177, 78, 1, 0, 136), (15, .istore_n 2, 2, 0, 0, 0), (16, .aload_n 0, 0, 0, 0, 0), (17, .getfield 57, 7, 11, 0, 105), (20, .iconst 0, 0, 0, 0, 0), (21, .putfield 174, 4, 9, 0, 119), (24, .iload_n 2, 2, 0, 0, 0), (25, .ifCond .ne 5, 30, 0, 0, 0), (28, .iconst (-1), 0, 0, (-1), 0), (29, .ireturn, 0, 0, 0, 0), (30, .aload_n 0, 0, 0, 0, 0), (31, .getfield 19, 1, 11, 0, 99), (34, .iload_n 1, 1, 0, 0, 0), (35, .aload_n 0, 0, 0, 0, 0), (36, .getfield 66, 8, 11, 0, 106), (39, .invokevirtual 180, 113, 0, 0, 137), (42, .iload_n 1, 1, 0, 0, 0), (43, .iconst 3, 0, 0, 3, 0), (44, .if_icmp .ne 10, 54, 0, 0, 0), (47, .aload_n 0, 0, 0, 0, 0), (48, .getfield 50, 6, 11, 0, 104), (51, .invokevirtual 110, 49, 0, 0, 121), (54, .aload_n 0, 0, 0, 0, 0), (55, .getfield 66, 8, 11, 0, 106), (58, .getfield 184, 3, 7, 0, 120), (61, .ireturn, 0, 0, 0, 0)]
/-- CardDrawer.fault(I)I -/
def cd127 : List pI := [(0, .iload_n 1, 1, 0, 0, 0), (1, .ifCond .ne 11, 12, 0, 0, 0), (4, .aload_n 0, 0, 0, 0, 0), (5, .getfield 66, 8, 11, 0, 106), (8, .getfield 187, 4, 7, 0, 121), (11, .ireturn, 0, 0, 0, 0), (12, .iload_n 1, 1, 0, 0, 0), (13, .iconst 1, 0, 0, 1, 0), (14, .if_icmp .ne 13, 27, 0, 0, 0), (17, .aload_n 0, 0, 0, 0, 0), (18, .getfield 66, 8, 11, 0, 106), (21, .getfield 190, 5, 7, 0, 122), (24, .goto 4, 28, 0, 0, 0), (27, .iconst (-1), 0, 0, (-1), 0), (28, .ireturn, 0, 0, 0, 0)]
/-- CardDrawer.of(II)I -/
def cd128 : List pI := [(0, .aload_n 0, 0, 0, 0, 0), (1, .getfield 10, 0, 11, 0, 98), (4, .iload_n 1, 1, 0, 0, 0), (5, .invokevirtual 127, 38, 1, 0, 124), (8, .ifCond .ne 5, 13, 0, 0, 0), (11, .iconst (-1), 0, 0, (-1), 0), (12, .ireturn, 0, 0, 0, 0), (13, .iload_n 2, 2, 0, 0, 0), (14, .bipush 7, 0, 0, 7, 0), (16, .invokestatic 113, 153, 1, 0, 122), (19, .ifCond .eq 13, 32, 0, 0, 0), (22, .aload_n 0, 0, 0, 0, 0), (23, .getfield 10, 0, 11, 0, 98), (26, .iload_n 1, 1, 0, 0, 0), (27, .iload_n 2, 2, 0, 0, 0), (28, .invokevirtual 193, 40, 1, 0, 138), (31, .ireturn, 0, 0, 0, 0), (32, .iload_n 2, 2, 0, 0, 0), (33, .tableswitch 99 7 10 #[31, 48, 65, 82], 0, 0, 0, 0), (64, .aload_n 0, 0, 0, 0, 0), (65, .getfield 10, 0, 11, 0, 98), (68, .iload_n 1, 1, 0, 0, 0), (69, .invokevirtual 153, 39, 1, 0, 130), (72, .ifCond .eq 7, 79, 0, 0, 0), (75, .iconst 1, 0, 0, 1, 0), (76, .goto 4, 80, 0, 0, 0), (79, .iconst 0, 0, 0, 0, 0), (80, .ireturn, 0, 0, 0, 0), (81, .aload_n 0, 0, 0, 0, 0), (82, .getfield 19, 1, 11, 0, 99), (85, .getfield 195, 0, 10, 0, 123), (88, .aload_n 0, 0, 0, 0, 0), (89, .getfield 10, 0, 11, 0, 98), (92, .iload_n 1, 1, 0, 0, 0), (93, .iconst 0, 0, 0, 0, 0), (94, .invokevirtual 199, 72, 1, 0, 139), (97, .ireturn, 0, 0, 0, 0), (98, .aload_n 0, 0, 0, 0, 0), (99, .getfield 19, 1, 11, 0, 99), (102, .getfield 195, 0, 10, 0, 123), (105, .aload_n 0, 0, 0, 0, 0), (106, .getfield 10, 0, 11, 0, 98), (109, .iload_n 1, 1, 0, 0, 0), (110, .iconst 1, 0, 0, 1, 0), (111, .invokevirtual 199, 72, 1, 0, 139), (114, .ireturn, 0, 0, 0, 0), (115, .aload_n 0, 0, 0, 0, 0), (116, .getfield 19, 1, 11, 0, 99), (119, .getfield 195, 0, 10, 0, 123), (122, .aload_n 0, 0, 0, 0, 0), (123, .getfield 10, 0, 11, 0, 98), (126, .iload_n 1, 1, 0, 0, 0), (127, .iconst 2, 0, 0, 2, 0), (128, .invokevirtual 199, 72, 1, 0, 139), (131, .ireturn, 0, 0, 0, 0), (132, .iconst (-1), 0, 0, (-1), 0), (133, .ireturn, 0, 0, 0, 0)]
/-- CardDrawer.met(I)I -/
def cd129 : List pI := [(0, .iload_n 1, 1, 0, 0, 0), (1, .bipush 12, 0, 0, 12, 0), (3, .invokestatic 113, 153, 1, 0, 122), (6, .ifCond .eq 15, 21, 0, 0, 0), (9, .aload_n 0, 0, 0, 0, 0), (10, .getfield 19, 1, 11, 0, 99), (13, .getfield 205, 1, 10, 0, 124), (16, .iload_n 1, 1, 0, 0, 0), (17, .iaload, 0, 0, 0, 0), (18, .goto 4, 22, 0, 0, 0), (21, .iconst (-1), 0, 0, (-1), 0), (22, .ireturn, 0, 0, 0, 0)]
/-- CardDrawer.called(II)I -/
def cd130 : List pI := [(0, .iload_n 1, 1, 0, 0, 0), (1, .bipush 8, 0, 0, 8, 0), (3, .invokestatic 113, 153, 1, 0, 122), (6, .ifCond .eq 11, 17, 0, 0, 0), (9, .iload_n 2, 2, 0, 0, 0), (10, .iconst 2, 0, 0, 2, 0), (11, .invokestatic 113, 153, 1, 0, 122), (14, .ifCond .ne 5, 19, 0, 0, 0), (17, .iconst (-1), 0, 0, (-1), 0), (18, .ireturn, 0, 0, 0, 0), (19, .iload_n 2, 2, 0, 0, 0), (20, .ifCond .ne 15, 35, 0, 0, 0), (23, .aload_n 0, 0, 0, 0, 0), (24, .getfield 19, 1, 11, 0, 99), (27, .getfield 209, 2, 10, 0, 125), (30, .iload_n 1, 1, 0, 0, 0), (31, .iaload, 0, 0, 0, 0), (32, .goto 12, 44, 0, 0, 0), (35, .aload_n 0, 0, 0, 0, 0), (36, .getfield 19, 1, 11, 0, 99), (39, .getfield 212, 3, 10, 0, 126), (42, .iload_n 1, 1, 0, 0, 0), (43, .iaload, 0, 0, 0, 0), (44, .ireturn, 0, 0, 0, 0)]
/-- CardDrawer.book(II)I -/
def cd131 : List pI := [(0, .aload_n 0, 0, 0, 0, 0), (1, .getfield 28, 2, 11, 0, 100), (4, .iload_n 1, 1, 0, 0, 0), (5, .iload_n 2, 2, 0, 0, 0), (6, .invokevirtual 215, 97, 1, 0, 140), (9, .ireturn, 0, 0, 0, 0)]
/-- CardDrawer.goes(II)I -/
def cd132 : List pI := [(0, .iload_n 1, 1, 0, 0, 0), (1, .iconst 1, 0, 0, 1, 0), (2, .if_icmp .lt 17, 19, 0, 0, 0), (5, .iload_n 1, 1, 0, 0, 0), (6, .bipush 60, 0, 0, 60, 0), (8, .if_icmp .gt 11, 19, 0, 0, 0), (11, .iload_n 2, 2, 0, 0, 0), (12, .iconst 4, 0, 0, 4, 0), (13, .invokestatic 113, 153, 1, 0, 122), (16, .ifCond .ne 5, 21, 0, 0, 0), (19, .iconst (-1), 0, 0, (-1), 0), (20, .ireturn, 0, 0, 0, 0), (21, .aload_n 0, 0, 0, 0, 0), (22, .getfield 41, 4, 11, 0, 102), (25, .aload_n 0, 0, 0, 0, 0), (26, .getfield 10, 0, 11, 0, 98), (29, .invokevirtual 218, 37, 0, 0, 141), (32, .iconst 0, 0, 0, 0, 0), (33, .istore_n 3, 3, 0, 0, 0), (34, .iload_n 3, 3, 0, 0, 0), (35, .iload_n 1, 1, 0, 0, 0), (36, .if_icmp .ge 16, 52, 0, 0, 0), (39, .aload_n 0, 0, 0, 0, 0), (40, .getfield 44, 5, 11, 0, 103), (43, .invokevirtual 165, 63, 0, 0, 133), (46, .iinc 3 1, 3, 0, 1, 0), (49, .goto (-15), 34, 0, 0, 0), (52, .iload_n 2, 2, 0, 0, 0), (53, .tableswitch 51 0 2 #[27, 35, 43], 0, 0, 0, 0), (80, .aload_n 0, 0, 0, 0, 0), (81, .getfield 41, 4, 11, 0, 102), (84, .getfield 162, 4, 3, 0, 118), (87, .ireturn, 0, 0, 0, 0), (88, .aload_n 0, 0, 0, 0, 0), (89, .getfield 41, 4, 11, 0, 102), (92, .getfield 222, 5, 3, 0, 127), (95, .ireturn, 0, 0, 0, 0), (96, .aload_n 0, 0, 0, 0, 0), (97, .getfield 41, 4, 11, 0, 102), (100, .getfield 225, 6, 3, 0, 128), (103, .ireturn, 0, 0, 0, 0), (104, .aload_n 0, 0, 0, 0, 0), (105, .getfield 41, 4, 11, 0, 102), (108, .getfield 228, 2, 3, 0, 129), (111, .invokestatic 231, 285, 1, 0, 142), (114, .ireturn, 0, 0, 0, 0)]
/-- CardDrawer.ahead(II)I -/
def cd133 : List pI := [(0, .iload_n 1, 1, 0, 0, 0), (1, .iconst (-1), 0, 0, (-1), 0), (2, .if_icmp .ne 14, 16, 0, 0, 0), (5, .aload_n 0, 0, 0, 0, 0), (6, .getfield 19, 1, 11, 0, 99), (9, .getfield 236, 5, 10, 0, 130), (12, .invokevirtual 239, 96, 1, 0, 143), (15, .ireturn, 0, 0, 0, 0), (16, .aload_n 0, 0, 0, 0, 0), (17, .getfield 10, 0, 11, 0, 98), (20, .iload_n 1, 1, 0, 0, 0), (21, .invokevirtual 127, 38, 1, 0, 124), (24, .ifCond .eq 19, 43, 0, 0, 0), (27, .aload_n 0, 0, 0, 0, 0), (28, .getfield 10, 0, 11, 0, 98), (31, .iload_n 2, 2, 0, 0, 0), (32, .invokevirtual 127, 38, 1, 0, 124), (35, .ifCond .eq 8, 43, 0, 0, 0), (38, .iload_n 1, 1, 0, 0, 0), (39, .iload_n 2, 2, 0, 0, 0), (40, .if_icmp .ne 5, 45, 0, 0, 0), (43, .iconst (-1), 0, 0, (-1), 0), (44, .ireturn, 0, 0, 0, 0), (45, .aload_n 0, 0, 0, 0, 0), (46, .getfield 19, 1, 11, 0, 99), (49, .getfield 236, 5, 10, 0, 130), (52, .iload_n 1, 1, 0, 0, 0), (53, .iload_n 2, 2, 0, 0, 0), (54, .iconst 0, 0, 0, 0, 0), (55, .iconst 0, 0, 0, 0, 0), (56, .invokevirtual 243, 95, 1, 0, 144), (59, .ireturn, 0, 0, 0, 0)]
/-- CardDrawer.dated(II)I -/
def cd134 : List pI := [(0, .aload_n 0, 0, 0, 0, 0), (1, .getfield 10, 0, 11, 0, 98), (4, .iload_n 1, 1, 0, 0, 0), (5, .invokevirtual 127, 38, 1, 0, 124), (8, .ifCond .eq 21, 29, 0, 0, 0), (11, .iload_n 2, 2, 0, 0, 0), (12, .iconst 2, 0, 0, 2, 0), (13, .invokestatic 113, 153, 1, 0, 122), (16, .ifCond .eq 13, 29, 0, 0, 0), (19, .aload_n 0, 0, 0, 0, 0), (20, .getfield 75, 9, 11, 0, 107), (23, .invokevirtual 246, 34, 1, 0, 145), (26, .ifCond .ne 5, 31, 0, 0, 0), (29, .iconst (-1), 0, 0, (-1), 0), (30, .ireturn, 0, 0, 0, 0), (31, .iload_n 2, 2, 0, 0, 0), (32, .ifCond .ne 15, 47, 0, 0, 0), (35, .aload_n 0, 0, 0, 0, 0), (36, .getfield 75, 9, 11, 0, 107), (39, .getfield 250, 2, 2, 0, 131), (42, .iload_n 1, 1, 0, 0, 0), (43, .iaload, 0, 0, 0, 0), (44, .goto 12, 56, 0, 0, 0), (47, .aload_n 0, 0, 0, 0, 0), (48, .getfield 75, 9, 11, 0, 107), (51, .getfield 253, 3, 2, 0, 132), (54, .iload_n 1, 1, 0, 0, 0), (55, .iaload, 0, 0, 0, 0), (56, .ireturn, 0, 0, 0, 0)]
/-- CardDrawer.hands(II)I -/
def cd135 : List pI := [(0, .iload_n 1, 1, 0, 0, 0), (1, .bipush 6, 0, 0, 6, 0), (3, .invokestatic 113, 153, 1, 0, 122), (6, .ifCond .eq 22, 28, 0, 0, 0), (9, .iload_n 2, 2, 0, 0, 0), (10, .iconst 3, 0, 0, 3, 0), (11, .invokestatic 113, 153, 1, 0, 122), (14, .ifCond .eq 14, 28, 0, 0, 0), (17, .aload_n 0, 0, 0, 0, 0), (18, .getfield 82, 10, 11, 0, 108), (21, .iload_n 1, 1, 0, 0, 0), (22, .invokevirtual 256, 23, 1, 0, 146), (25, .ifCond .ne 5, 30, 0, 0, 0), (28, .iconst (-1), 0, 0, (-1), 0), (29, .ireturn, 0, 0, 0, 0), (30, .iload_n 2, 2, 0, 0, 0), (31, .ifCond .ne 11, 42, 0, 0, 0), (34, .aload_n 0, 0, 0, 0, 0), (35, .getfield 82, 10, 11, 0, 108), (38, .getfield 259, 4, 1, 0, 133), (41, .ireturn, 0, 0, 0, 0), (42, .iload_n 2, 2, 0, 0, 0), (43, .iconst 1, 0, 0, 1, 0), (44, .if_icmp .ne 13, 57, 0, 0, 0), (47, .aload_n 0, 0, 0, 0, 0), (48, .getfield 82, 10, 11, 0, 108), (51, .getfield 262, 5, 1, 0, 134), (54, .goto 10, 64, 0, 0, 0), (57, .aload_n 0, 0, 0, 0, 0), (58, .getfield 82, 10, 11, 0, 108), (61, .getfield 265, 6, 1, 0, 135), (64, .ireturn, 0, 0, 0, 0)]
/-- CardDrawer.led(I)I -/
def cd136 : List pI := [(0, .iload_n 1, 1, 0, 0, 0), (1, .bipush 12, 0, 0, 12, 0), (3, .invokestatic 113, 153, 1, 0, 122), (6, .ifCond .eq 14, 20, 0, 0, 0), (9, .aload_n 0, 0, 0, 0, 0), (10, .getfield 82, 10, 11, 0, 108), (13, .iload_n 1, 1, 0, 0, 0), (14, .invokevirtual 268, 25, 1, 0, 147), (17, .goto 4, 21, 0, 0, 0), (20, .iconst (-1), 0, 0, (-1), 0), (21, .ireturn, 0, 0, 0, 0)]
/-- CardDrawer.root(I)I -/
def cd137 : List pI := [(0, .iload_n 1, 1, 0, 0, 0), (1, .bipush 12, 0, 0, 12, 0), (3, .invokestatic 113, 153, 1, 0, 122), (6, .ifCond .eq 14, 20, 0, 0, 0), (9, .aload_n 0, 0, 0, 0, 0), (10, .getfield 82, 10, 11, 0, 108), (13, .iload_n 1, 1, 0, 0, 0), (14, .invokevirtual 271, 26, 1, 0, 148), (17, .goto 4, 21, 0, 0, 0), (20, .iconst (-1), 0, 0, (-1), 0), (21, .ireturn, 0, 0, 0, 0)]
/-- CardDrawer.tells(I)I -/
def cd138 : List pI := [(0, .iload_n 1, 1, 0, 0, 0), (1, .iconst 2, 0, 0, 2, 0), (2, .invokestatic 113, 153, 1, 0, 122), (5, .ifCond .ne 5, 10, 0, 0, 0), (8, .iconst (-1), 0, 0, (-1), 0), (9, .ireturn, 0, 0, 0, 0), (10, .aload_n 0, 0, 0, 0, 0), (11, .getfield 82, 10, 11, 0, 108), (14, .invokevirtual 274, 27, 1, 0, 149), (17, .istore_n 2, 2, 0, 0, 0), (18, .iload_n 1, 1, 0, 0, 0), (19, .ifCond .ne 10, 29, 0, 0, 0), (22, .iload_n 2, 2, 0, 0, 0), (23, .invokestatic 231, 285, 1, 0, 142), (26, .goto 4, 30, 0, 0, 0), (29, .iload_n 2, 2, 0, 0, 0), (30, .ireturn, 0, 0, 0, 0)]
/-- CardDrawer.hears(II)I -/
def cd139 : List pI := [(0, .iload_n 1, 1, 0, 0, 0), (1, .sipush 4096, 0, 0, 4096, 0), (4, .invokestatic 113, 153, 1, 0, 122), (7, .ifCond .eq 20, 27, 0, 0, 0), (10, .iload_n 2, 2, 0, 0, 0), (11, .bipush 12, 0, 0, 12, 0), (13, .invokestatic 113, 153, 1, 0, 122), (16, .ifCond .eq 11, 27, 0, 0, 0), (19, .iload_n 1, 1, 0, 0, 0), (20, .iload_n 2, 2, 0, 0, 0), (21, .invokestatic 277, 154, 1, 0, 150), (24, .ifCond .eq 5, 29, 0, 0, 0), (27, .iconst (-1), 0, 0, (-1), 0), (28, .ireturn, 0, 0, 0, 0), (29, .aload_n 0, 0, 0, 0, 0), (30, .getfield 82, 10, 11, 0, 108), (33, .iload_n 1, 1, 0, 0, 0), (34, .iload_n 2, 2, 0, 0, 0), (35, .invokevirtual 280, 29, 1, 0, 151), (38, .ireturn, 0, 0, 0, 0)]
/-- CardDrawer.asks(II)I -/
def cd140 : List pI := [(0, .iload_n 1, 1, 0, 0, 0), (1, .iconst (-1), 0, 0, (-1), 0), (2, .if_icmp .ne 14, 16, 0, 0, 0), (5, .aload_n 0, 0, 0, 0, 0), (6, .getfield 19, 1, 11, 0, 99), (9, .getfield 283, 6, 10, 0, 136), (12, .invokevirtual 239, 96, 1, 0, 143), (15, .ireturn, 0, 0, 0, 0), (16, .iload_n 1, 1, 0, 0, 0), (17, .iconst 3, 0, 0, 3, 0), (18, .invokestatic 113, 153, 1, 0, 122), (21, .ifCond .eq 14, 35, 0, 0, 0), (24, .iload_n 2, 2, 0, 0, 0), (25, .iload_n 1, 1, 0, 0, 0), (26, .invokestatic 286, 155, 1, 0, 152), (29, .invokestatic 113, 153, 1, 0, 122), (32, .ifCond .ne 5, 37, 0, 0, 0), (35, .iconst (-1), 0, 0, (-1), 0), (36, .ireturn, 0, 0, 0, 0), (37, .aload_n 0, 0, 0, 0, 0), (38, .getfield 19, 1, 11, 0, 99), (41, .getfield 283, 6, 10, 0, 136), (44, .iload_n 1, 1, 0, 0, 0), (45, .iload_n 2, 2, 0, 0, 0), (46, .iconst 0, 0, 0, 0, 0), (47, .iconst 0, 0, 0, 0, 0), (48, .invokevirtual 243, 95, 1, 0, 144), (51, .ireturn, 0, 0, 0, 0)]
/-- CardDrawer.keeps(II)I -/
def cd141 : List pI := [(0, .iload_n 1, 1, 0, 0, 0), (1, .ifCond .lt 17, 18, 0, 0, 0), (4, .iload_n 1, 1, 0, 0, 0), (5, .bipush 14, 0, 0, 14, 0), (7, .if_icmp .gt 11, 18, 0, 0, 0), (10, .iload_n 2, 2, 0, 0, 0), (11, .iconst 2, 0, 0, 2, 0), (12, .invokestatic 113, 153, 1, 0, 122), (15, .ifCond .ne 5, 20, 0, 0, 0), (18, .iconst (-1), 0, 0, (-1), 0), (19, .ireturn, 0, 0, 0, 0), (20, .aload_n 0, 0, 0, 0, 0), (21, .getfield 89, 11, 11, 0, 109), (24, .iload_n 1, 1, 0, 0, 0), (25, .invokevirtual 289, 1, 0, 0, 153), (28, .iload_n 2, 2, 0, 0, 0), (29, .ifCond .ne 13, 42, 0, 0, 0), (32, .aload_n 0, 0, 0, 0, 0), (33, .getfield 89, 11, 11, 0, 109), (36, .getfield 292, 3, 0, 0, 137), (39, .goto 10, 49, 0, 0, 0), (42, .aload_n 0, 0, 0, 0, 0), (43, .getfield 89, 11, 11, 0, 109), (46, .getfield 295, 4, 0, 0, 138), (49, .ireturn, 0, 0, 0, 0)]
/-- CardDrawer.sorted(I)I -/
def cd142 : List pI := [(0, .iload_n 1, 1, 0, 0, 0), (1, .iconst 2, 0, 0, 2, 0), (2, .invokestatic 113, 153, 1, 0, 122), (5, .ifCond .ne 5, 10, 0, 0, 0), (8, .iconst (-1), 0, 0, (-1), 0), (9, .ireturn, 0, 0, 0, 0), (10, .aload_n 0, 0, 0, 0, 0), (11, .getfield 89, 11, 11, 0, 109), (14, .invokevirtual 298, 6, 1, 0, 154), (17, .istore_n 2, 2, 0, 0, 0), (18, .iload_n 1, 1, 0, 0, 0), (19, .ifCond .ne 7, 26, 0, 0, 0), (22, .iload_n 2, 2, 0, 0, 0), (23, .goto 11, 34, 0, 0, 0), (26, .aload_n 0, 0, 0, 0, 0), (27, .getfield 89, 11, 11, 0, 109), (30, .iload_n 2, 2, 0, 0, 0), (31, .invokevirtual 301, 7, 1, 0, 155), (34, .ireturn, 0, 0, 0, 0)]
/-- CardDrawer.apart()I -/
def cd143 : List pI := [(0, .aload_n 0, 0, 0, 0, 0), (1, .getfield 89, 11, 11, 0, 109), (4, .invokevirtual 304, 8, 1, 0, 156), (7, .ireturn, 0, 0, 0, 0)]
/-- CardDrawer.seconds()I -/
def cd144 : List pI := [(0, .aload_n 0, 0, 0, 0, 0), (1, .getfield 89, 11, 11, 0, 109), (4, .invokevirtual 307, 11, 1, 0, 157), (7, .ireturn, 0, 0, 0, 0)]
/-- CardDrawer.beside(II)I -/
def cd145 : List pI := [(0, .aload_n 0, 0, 0, 0, 0), (1, .getfield 10, 0, 11, 0, 98), (4, .iload_n 1, 1, 0, 0, 0), (5, .invokevirtual 127, 38, 1, 0, 124), (8, .ifCond .eq 11, 19, 0, 0, 0), (11, .iload_n 2, 2, 0, 0, 0), (12, .iconst 2, 0, 0, 2, 0), (13, .invokestatic 113, 153, 1, 0, 122), (16, .ifCond .ne 5, 21, 0, 0, 0), (19, .iconst (-1), 0, 0, (-1), 0), (20, .ireturn, 0, 0, 0, 0), (21, .aload_n 0, 0, 0, 0, 0), (22, .getfield 89, 11, 11, 0, 109), (25, .iload_n 1, 1, 0, 0, 0), (26, .invokevirtual 310, 13, 1, 0, 158), (29, .istore_n 3, 3, 0, 0, 0), (30, .iload_n 3, 3, 0, 0, 0), (31, .iconst (-1), 0, 0, (-1), 0), (32, .if_icmp .eq 7, 39, 0, 0, 0), (35, .iload_n 2, 2, 0, 0, 0), (36, .ifCond .ne 5, 41, 0, 0, 0), (39, .iload_n 3, 3, 0, 0, 0), (40, .ireturn, 0, 0, 0, 0), (41, .aload_n 0, 0, 0, 0, 0), (42, .getfield 89, 11, 11, 0, 109), (45, .iload_n 1, 1, 0, 0, 0), (46, .iload_n 3, 3, 0, 0, 0), (47, .invokevirtual 313, 14, 1, 0, 159), (50, .ireturn, 0, 0, 0, 0)]
/-- CardDrawer.note(IIZ)I -/
def cd146 : List pI := [(0, .iload_n 1, 1, 0, 0, 0), (1, .iconst (-1), 0, 0, (-1), 0), (2, .if_icmp .ne 14, 16, 0, 0, 0), (5, .aload_n 0, 0, 0, 0, 0), (6, .getfield 19, 1, 11, 0, 99), (9, .getfield 316, 7, 10, 0, 139), (12, .invokevirtual 239, 96, 1, 0, 143), (15, .ireturn, 0, 0, 0, 0), (16, .iload_n 1, 1, 0, 0, 0), (17, .iconst 4, 0, 0, 4, 0), (18, .invokestatic 113, 153, 1, 0, 122), (21, .ifCond .eq 14, 35, 0, 0, 0), (24, .iload_n 2, 2, 0, 0, 0), (25, .iload_n 1, 1, 0, 0, 0), (26, .invokestatic 319, 156, 1, 0, 160), (29, .invokestatic 113, 153, 1, 0, 122), (32, .ifCond .ne 5, 37, 0, 0, 0), (35, .iconst (-1), 0, 0, (-1), 0), (36, .ireturn, 0, 0, 0, 0), (37, .aload_n 0, 0, 0, 0, 0), (38, .getfield 19, 1, 11, 0, 99), (41, .getfield 316, 7, 10, 0, 139), (44, .iload_n 1, 1, 0, 0, 0), (45, .iload_n 2, 2, 0, 0, 0), (46, .iload_n 3, 3, 0, 0, 0), (47, .ifCond .eq 7, 54, 0, 0, 0), (50, .iconst 1, 0, 0, 1, 0), (51, .goto 4, 55, 0, 0, 0), (54, .iconst 0, 0, 0, 0, 0), (55, .iconst 0, 0, 0, 0, 0), (56, .invokevirtual 243, 95, 1, 0, 144), (59, .ireturn, 0, 0, 0, 0)]
/-- CardDrawer.whose(I)I -/
def cd147 : List pI := [(0, .iload_n 1, 1, 0, 0, 0), (1, .iconst 2, 0, 0, 2, 0), (2, .invokestatic 113, 153, 1, 0, 122), (5, .ifCond .ne 5, 10, 0, 0, 0), (8, .iconst (-1), 0, 0, (-1), 0), (9, .ireturn, 0, 0, 0, 0), (10, .aload_n 0, 0, 0, 0, 0), (11, .getfield 82, 10, 11, 0, 108), (14, .invokevirtual 322, 30, 1, 0, 161), (17, .istore_n 2, 2, 0, 0, 0), (18, .iload_n 1, 1, 0, 0, 0), (19, .ifCond .ne 7, 26, 0, 0, 0), (22, .iload_n 2, 2, 0, 0, 0), (23, .goto 11, 34, 0, 0, 0), (26, .aload_n 0, 0, 0, 0, 0), (27, .getfield 82, 10, 11, 0, 108), (30, .iload_n 2, 2, 0, 0, 0), (31, .invokevirtual 325, 32, 1, 0, 162), (34, .ireturn, 0, 0, 0, 0)]
/-- CardDrawer.uses(I)I -/
def cd148 : List pI := [(0, .iload_n 1, 1, 0, 0, 0), (1, .ifCond .ne 15, 16, 0, 0, 0), (4, .aload_n 0, 0, 0, 0, 0), (5, .getfield 37, 3, 11, 0, 101), (8, .invokevirtual 328, 56, 1, 0, 163), (11, .sipush 1000, 0, 0, 1000, 0), (14, .idiv, 0, 0, 0, 0), (15, .ireturn, 0, 0, 0, 0), (16, .iload_n 1, 1, 0, 0, 0), (17, .iconst 1, 0, 0, 1, 0), (18, .if_icmp .ne 20, 38, 0, 0, 0), (21, .aload_n 0, 0, 0, 0, 0), (22, .getfield 37, 3, 11, 0, 101), (25, .aload_n 0, 0, 0, 0, 0), (26, .getfield 10, 0, 11, 0, 98), (29, .getfield 228, 2, 3, 0, 129), (32, .invokevirtual 331, 55, 1, 0, 164), (35, .goto 4, 39, 0, 0, 0), (38, .iconst (-1), 0, 0, (-1), 0), (39, .ireturn, 0, 0, 0, 0)]
/-- CardDrawer.game(I)I -/
def cd149 : List pI := [(0, .iload_n 1, 1, 0, 0, 0), (1, .iconst 2, 0, 0, 2, 0), (2, .invokestatic 113, 153, 1, 0, 122), (5, .ifCond .ne 5, 10, 0, 0, 0), (8, .iconst (-1), 0, 0, (-1), 0), (9, .ireturn, 0, 0, 0, 0), (10, .aload_n 0, 0, 0, 0, 0), (11, .getfield 89, 11, 11, 0, 109), (14, .invokevirtual 334, 18, 1, 0, 165), (17, .istore_n 2, 2, 0, 0, 0), (18, .iload_n 2, 2, 0, 0, 0), (19, .iconst (-1), 0, 0, (-1), 0), (20, .if_icmp .eq 7, 27, 0, 0, 0), (23, .iload_n 1, 1, 0, 0, 0), (24, .ifCond .ne 5, 29, 0, 0, 0), (27, .iload_n 2, 2, 0, 0, 0), (28, .ireturn, 0, 0, 0, 0), (29, .aload_n 0, 0, 0, 0, 0), (30, .getfield 89, 11, 11, 0, 109), (33, .iload_n 2, 2, 0, 0, 0), (34, .invokevirtual 337, 17, 1, 0, 166), (37, .ireturn, 0, 0, 0, 0)]
/-- CardDrawer.undo()Z -/
def cd150 : List pI := [(0, .aload_n 0, 0, 0, 0, 0), (1, .getfield 50, 6, 11, 0, 104), (4, .aload_n 0, 0, 0, 0, 0), (5, .getfield 10, 0, 11, 0, 98), (8, .aload_n 0, 0, 0, 0, 0), (9, .getfield 28, 2, 11, 0, 100), (12, .invokevirtual 340, 52, 1, 0, 167), (15, .ireturn, 1, 0, 0, 0)]
/-- CardDrawer.image(Z)Z -/
def cd151 : List pI := [(0, .iload_n 1, 1, 0, 0, 0), (1, .ifCond .eq 44, 45, 0, 0, 0), (4, .aload_n 0, 0, 0, 0, 0), (5, .getfield 93, 12, 11, 0, 110), (8, .aload_n 0, 0, 0, 0, 0), (9, .getfield 10, 0, 11, 0, 98), (12, .invokevirtual 218, 37, 0, 0, 141), (15, .aload_n 0, 0, 0, 0, 0), (16, .getfield 96, 13, 11, 0, 111), (19, .aload_n 0, 0, 0, 0, 0), (20, .getfield 19, 1, 11, 0, 99), (23, .invokevirtual 344, 112, 0, 0, 168), (26, .aload_n 0, 0, 0, 0, 0), (27, .getfield 99, 14, 11, 0, 112), (30, .aload_n 0, 0, 0, 0, 0), (31, .getfield 28, 2, 11, 0, 100), (34, .invokevirtual 347, 98, 0, 0, 169), (37, .aload_n 0, 0, 0, 0, 0), (38, .iconst 1, 0, 0, 1, 0), (39, .putfield 102, 15, 11, 1, 113), (42, .goto 50, 92, 0, 0, 0), (45, .aload_n 0, 0, 0, 0, 0), (46, .getfield 102, 15, 11, 0, 113), (49, .ifCond .eq 43, 92, 0, 0, 0), (52, .aload_n 0, 0, 0, 0, 0), (53, .getfield 10, 0, 11, 0, 98), (56, .aload_n 0, 0, 0, 0, 0), (57, .getfield 93, 12, 11, 0, 110), (60, .invokevirtual 218, 37, 0, 0, 141), (63, .aload_n 0, 0, 0, 0, 0), (64, .getfield 19, 1, 11, 0, 99), (67, .aload_n 0, 0, 0, 0, 0), (68, .getfield 96, 13, 11, 0, 111), (71, .invokevirtual 344, 112, 0, 0, 168), (74, .aload_n 0, 0, 0, 0, 0), (75, .getfield 28, 2, 11, 0, 100), (78, .aload_n 0, 0, 0, 0, 0), (79, .getfield 99, 14, 11, 0, 112), (82, .invokevirtual 347, 98, 0, 0, 169), (85, .aload_n 0, 0, 0, 0, 0), (86, .getfield 50, 6, 11, 0, 104), (89, .invokevirtual 110, 49, 0, 0, 121), (92, .aload_n 0, 0, 0, 0, 0), (93, .getfield 102, 15, 11, 0, 113), (96, .ireturn, 1, 0, 0, 0)]
/-- CardDrawer.look(I)I -/
def cd152 : List pI := [(0, .iload_n 1, 1, 0, 0, 0), (1, .tableswitch 222 0 15 #[79, 87, 95, 103, 111, 119, 127, 135, 143, 154, 162, 170, 181, 192, 203, 214], 0, 0, 0, 0), (80, .aload_n 0, 0, 0, 0, 0), (81, .getfield 10, 0, 11, 0, 98), (84, .getfield 117, 1, 3, 0, 115), (87, .ireturn, 0, 0, 0, 0), (88, .aload_n 0, 0, 0, 0, 0), (89, .getfield 10, 0, 11, 0, 98), (92, .getfield 124, 3, 3, 0, 116), (95, .ireturn, 0, 0, 0, 0), (96, .aload_n 0, 0, 0, 0, 0), (97, .getfield 10, 0, 11, 0, 98), (100, .getfield 162, 4, 3, 0, 118), (103, .ireturn, 0, 0, 0, 0), (104, .aload_n 0, 0, 0, 0, 0), (105, .getfield 10, 0, 11, 0, 98), (108, .getfield 222, 5, 3, 0, 127), (111, .ireturn, 0, 0, 0, 0), (112, .aload_n 0, 0, 0, 0, 0), (113, .getfield 10, 0, 11, 0, 98), (116, .getfield 225, 6, 3, 0, 128), (119, .ireturn, 0, 0, 0, 0), (120, .aload_n 0, 0, 0, 0, 0), (121, .getfield 10, 0, 11, 0, 98), (124, .getfield 228, 2, 3, 0, 129), (127, .ireturn, 0, 0, 0, 0), (128, .aload_n 0, 0, 0, 0, 0), (129, .getfield 28, 2, 11, 0, 100), (132, .getfield 139, 2, 8, 0, 117), (135, .ireturn, 0, 0, 0, 0), (136, .aload_n 0, 0, 0, 0, 0), (137, .getfield 10, 0, 11, 0, 98), (140, .getfield 106, 7, 3, 0, 114), (143, .ireturn, 0, 0, 0, 0), (144, .aload_n 0, 0, 0, 0, 0), (145, .getfield 19, 1, 11, 0, 99), (148, .getfield 195, 0, 10, 0, 123), (151, .getfield 350, 8, 6, 0, 140), (154, .ireturn, 0, 0, 0, 0), (155, .aload_n 0, 0, 0, 0, 0), (156, .getfield 19, 1, 11, 0, 99), (159, .getfield 351, 8, 10, 0, 141), (162, .ireturn, 0, 0, 0, 0), (163, .aload_n 0, 0, 0, 0, 0), (164, .getfield 19, 1, 11, 0, 99), (167, .getfield 354, 9, 10, 0, 142), (170, .ireturn, 0, 0, 0, 0), (171, .aload_n 0, 0, 0, 0, 0), (172, .getfield 19, 1, 11, 0, 99), (175, .getfield 357, 4, 10, 0, 143), (178, .getfield 139, 2, 8, 0, 117), (181, .ireturn, 0, 0, 0, 0), (182, .aload_n 0, 0, 0, 0, 0), (183, .getfield 19, 1, 11, 0, 99), (186, .getfield 236, 5, 10, 0, 130), (189, .getfield 139, 2, 8, 0, 117), (192, .ireturn, 0, 0, 0, 0), (193, .aload_n 0, 0, 0, 0, 0), (194, .getfield 19, 1, 11, 0, 99), (197, .getfield 283, 6, 10, 0, 136), (200, .getfield 139, 2, 8, 0, 117), (203, .ireturn, 0, 0, 0, 0), (204, .aload_n 0, 0, 0, 0, 0), (205, .getfield 19, 1, 11, 0, 99), (208, .getfield 316, 7, 10, 0, 139), (211, .getfield 139, 2, 8, 0, 117), (214, .ireturn, 0, 0, 0, 0), (215, .aload_n 0, 0, 0, 0, 0), (216, .getfield 50, 6, 11, 0, 104), (219, .getfield 360, 2, 4, 0, 144), (222, .ireturn, 0, 0, 0, 0), (223, .iconst (-1), 0, 0, (-1), 0), (224, .ireturn, 0, 0, 0, 0)]
/-- CardDrawer.within(II)Z -/
def cd153 : List pI := [(0, .iload_n 0, 0, 0, 0, 0), (1, .ifCond .lt 12, 13, 0, 0, 0), (4, .iload_n 0, 0, 0, 0, 0), (5, .iload_n 1, 1, 0, 0, 0), (6, .if_icmp .ge 7, 13, 0, 0, 0), (9, .iconst 1, 0, 0, 1, 0), (10, .goto 4, 14, 0, 0, 0), (13, .iconst 0, 0, 0, 0, 0), (14, .ireturn, 1, 0, 0, 0)]
/-- CardDrawer.holdsBit(II)Z -/
def cd154 : List pI := [(0, .iload_n 0, 0, 0, 0, 0), (1, .iload_n 1, 1, 0, 0, 0), (2, .ishr, 0, 0, 0, 0), (3, .iconst 1, 0, 0, 1, 0), (4, .iand, 0, 0, 0, 0), (5, .ifCond .eq 7, 12, 0, 0, 0), (8, .iconst 1, 0, 0, 1, 0), (9, .goto 4, 13, 0, 0, 0), (12, .iconst 0, 0, 0, 0, 0), (13, .ireturn, 1, 0, 0, 0)]
/-- CardDrawer.kinds(I)I -/
def cd155 : List pI := [(0, .iload_n 0, 0, 0, 0, 0), (1, .lookupswitch 33 #[(0, 27), (1, 30)], 0, 0, 0, 0), (28, .bipush 12, 0, 0, 12, 0), (30, .ireturn, 0, 0, 0, 0), (31, .bipush 8, 0, 0, 8, 0), (33, .ireturn, 0, 0, 0, 0), (34, .bipush 6, 0, 0, 6, 0), (36, .ireturn, 0, 0, 0, 0)]
/-- CardDrawer.noteKinds(I)I -/
def cd156 : List pI := [(0, .iload_n 0, 0, 0, 0, 0), (1, .tableswitch 35 0 2 #[27, 30, 33], 0, 0, 0, 0), (28, .bipush 6, 0, 0, 6, 0), (30, .ireturn, 0, 0, 0, 0), (31, .bipush 8, 0, 0, 8, 0), (33, .ireturn, 0, 0, 0, 0), (34, .iconst 2, 0, 0, 2, 0), (35, .ireturn, 0, 0, 0, 0), (36, .bipush 12, 0, 0, 12, 0), (38, .ireturn, 0, 0, 0, 0)]
/-- CardDrawerModel.<init>()V -/
def cd157 : List pI := [(0, .aload_n 0, 0, 0, 0, 0), (1, .invokespecial 1, 9000, 0, 0, 0), (4, .aload_n 0, 0, 0, 0, 0), (5, .bipush 76, 0, 0, 76, 0), (7, .newarray .int, 0, 0, 0, 0), (9, .putfield 7, 1, 12, 2, 145), (12, .aload_n 0, 0, 0, 0, 0), (13, .sipush 456, 0, 0, 456, 0), (16, .newarray .int, 0, 0, 0, 0), (18, .putfield 13, 2, 12, 2, 146), (21, .aload_n 0, 0, 0, 0, 0), (22, .bipush 76, 0, 0, 76, 0), (24, .newarray .int, 0, 0, 0, 0), (26, .putfield 16, 4, 12, 2, 147), (29, .aload_n 0, 0, 0, 0, 0), (30, .bipush 14, 0, 0, 14, 0), (32, .newarray .int, 0, 0, 0, 0), (34, .putfield 19, 7, 12, 2, 148), (37, .aload_n 0, 0, 0, 0, 0), (38, .bipush 14, 0, 0, 14, 0), (40, .newarray .int, 0, 0, 0, 0), (42, .putfield 22, 8, 12, 2, 149), (45, .aload_n 0, 0, 0, 0, 0), (46, .bipush 14, 0, 0, 14, 0), (48, .newarray .int, 0, 0, 0, 0), (50, .putfield 25, 9, 12, 2, 150), (53, .aload_n 0, 0, 0, 0, 0), (54, .sipush 600, 0, 0, 600, 0), (57, .newarray .int, 0, 0, 0, 0), (59, .putfield 28, 10, 12, 2, 151), (62, .aload_n 0, 0, 0, 0, 0), (63, .sipush 400, 0, 0, 400, 0), (66, .newarray .int, 0, 0, 0, 0), (68, .putfield 31, 11, 12, 2, 152), (71, .aload_n 0, 0, 0, 0, 0), (72, .bipush 115, 0, 0, 115, 0), (74, .newarray .int, 0, 0, 0, 0), (76, .dup, 0, 0, 0, 0), (77, .iconst 0, 0, 0, 0, 0), (78, .bipush 32, 0, 0, 32, 0), (80, .iastore, 0, 0, 0, 0), (81, .dup, 0, 0, 0, 0), (82, .iconst 1, 0, 0, 1, 0), (83, .bipush 104, 0, 0, 104, 0), (85, .iastore, 0, 0, 0, 0), (86, .dup, 0, 0, 0, 0), (87, .iconst 2, 0, 0, 2, 0), (88, .bipush 111, 0, 0, 111, 0), (90, .iastore, 0, 0, 0, 0), (91, .dup, 0, 0, 0, 0), (92, .iconst 3, 0, 0, 3, 0), (93, .bipush 108, 0, 0, 108, 0), (95, .iastore, 0, 0, 0, 0), (96, .dup, 0, 0, 0, 0), (97, .iconst 4, 0, 0, 4, 0), (98, .bipush 100, 0, 0, 100, 0), (100, .iastore, 0, 0, 0, 0), (101, .dup, 0, 0, 0, 0), (102, .iconst 5, 0, 0, 5, 0), (103, .bipush 115, 0, 0, 115, 0), (105, .iastore, 0, 0, 0, 0), (106, .dup, 0, 0, 0, 0), (107, .bipush 6, 0, 0, 6, 0), (109, .bipush 32, 0, 0, 32, 0), (111, .iastore, 0, 0, 0, 0), (112, .dup, 0, 0, 0, 0), (113, .bipush 7, 0, 0, 7, 0), (115, .bipush 100, 0, 0, 100, 0), (117, .iastore, 0, 0, 0, 0), (118, .dup, 0, 0, 0, 0), (119, .bipush 8, 0, 0, 8, 0), (121, .bipush 117, 0, 0, 117, 0), (123, .iastore, 0, 0, 0, 0), (124, .dup, 0, 0, 0, 0), (125, .bipush 9, 0, 0, 9, 0), (127, .bipush 115, 0, 0, 115, 0), (129, .iastore, 0, 0, 0, 0), (130, .dup, 0, 0, 0, 0), (131, .bipush 10, 0, 0, 10, 0), (133, .bipush 116, 0, 0, 116, 0), (135, .iastore, 0, 0, 0, 0), (136, .dup, 0, 0, 0, 0), (137, .bipush 11, 0, 0, 11, 0), (139, .bipush 32, 0, 0, 32, 0), (141, .iastore, 0, 0, 0, 0), (142, .dup, 0, 0, 0, 0), (143, .bipush 12, 0, 0, 12, 0), (145, .bipush 119, 0, 0, 119, 0), (147, .iastore, 0, 0, 0, 0), (148, .dup, 0, 0, 0, 0), (149, .bipush 13, 0, 0, 13, 0), (151, .bipush 111, 0, 0, 111, 0), (153, .iastore, 0, 0, 0, 0), (154, .dup, 0, 0, 0, 0), (155, .bipush 14, 0, 0, 14, 0), (157, .bipush 114, 0, 0, 114, 0), (159, .iastore, 0, 0, 0, 0), (160, .dup, 0, 0, 0, 0), (161, .bipush 15, 0, 0, 15, 0), (163, .bipush 116, 0, 0, 116, 0), (165, .iastore, 0, 0, 0, 0), (166, .dup, 0, 0, 0, 0), (167, .bipush 16, 0, 0, 16, 0), (169, .bipush 104, 0, 0, 104, 0), (171, .iastore, 0, 0, 0, 0), (172, .dup, 0, 0, 0, 0), (173, .bipush 17, 0, 0, 17, 0), (175, .bipush 32, 0, 0, 32, 0), (177, .iastore, 0, 0, 0, 0), (178, .dup, 0, 0, 0, 0), (179, .bipush 18, 0, 0, 18, 0), (181, .bipush 119, 0, 0, 119, 0), (183, .iastore, 0, 0, 0, 0), (184, .dup, 0, 0, 0, 0), (185, .bipush 19, 0, 0, 19, 0), (187, .bipush 104, 0, 0, 104, 0), (189, .iastore, 0, 0, 0, 0), (190, .dup, 0, 0, 0, 0), (191, .bipush 20, 0, 0, 20, 0), (193, .bipush 101, 0, 0, 101, 0), (195, .iastore, 0, 0, 0, 0), (196, .dup, 0, 0, 0, 0), (197, .bipush 21, 0, 0, 21, 0), (199, .bipush 110, 0, 0, 110, 0), (201, .iastore, 0, 0, 0, 0), (202, .dup, 0, 0, 0, 0), (203, .bipush 22, 0, 0, 22, 0), (205, .bipush 32, 0, 0, 32, 0), (207, .iastore, 0, 0, 0, 0), (208, .dup, 0, 0, 0, 0), (209, .bipush 23, 0, 0, 23, 0), (211, .bipush 111, 0, 0, 111, 0), (213, .iastore, 0, 0, 0, 0), (214, .dup, 0, 0, 0, 0), (215, .bipush 24, 0, 0, 24, 0), (217, .bipush 114, 0, 0, 114, 0), (219, .iastore, 0, 0, 0, 0), (220, .dup, 0, 0, 0, 0), (221, .bipush 25, 0, 0, 25, 0), (223, .bipush 32, 0, 0, 32, 0), (225, .iastore, 0, 0, 0, 0), (226, .dup, 0, 0, 0, 0), (227, .bipush 26, 0, 0, 26, 0), (229, .bipush 97, 0, 0, 97, 0), (231, .iastore, 0, 0, 0, 0), (232, .dup, 0, 0, 0, 0), (233, .bipush 27, 0, 0, 27, 0), (235, .bipush 110, 0, 0, 110, 0), (237, .iastore, 0, 0, 0, 0), (238, .dup, 0, 0, 0, 0), (239, .bipush 28, 0, 0, 28, 0), (241, .bipush 100, 0, 0, 100, 0), (243, .iastore, 0, 0, 0, 0), (244, .dup, 0, 0, 0, 0), (245, .bipush 29, 0, 0, 29, 0), (247, .bipush 32, 0, 0, 32, 0), (249, .iastore, 0, 0, 0, 0), (250, .dup, 0, 0, 0, 0), (251, .bipush 30, 0, 0, 30, 0), (253, .bipush 110, 0, 0, 110, 0), (255, .iastore, 0, 0, 0, 0), (256, .dup, 0, 0, 0, 0), (257, .bipush 31, 0, 0, 31, 0), (259, .bipush 111, 0, 0, 111, 0), (261, .iastore, 0, 0, 0, 0), (262, .dup, 0, 0, 0, 0), (263, .bipush 32, 0, 0, 32, 0), (265, .bipush 116, 0, 0, 116, 0), (267, .iastore, 0, 0, 0, 0), (268, .dup, 0, 0, 0, 0), (269, .bipush 33, 0, 0, 33, 0), (271, .bipush 32, 0, 0, 32, 0), (273, .iastore, 0, 0, 0, 0), (274, .dup, 0, 0, 0, 0), (275, .bipush 34, 0, 0, 34, 0), (277, .bipush 112, 0, 0, 112, 0), (279, .iastore, 0, 0, 0, 0), (280, .dup, 0, 0, 0, 0), (281, .bipush 35, 0, 0, 35, 0), (283, .bipush 101, 0, 0, 101, 0), (285, .iastore, 0, 0, 0, 0), (286, .dup, 0, 0, 0, 0), (287, .bipush 36, 0, 0, 36, 0), (289, .bipush 114, 0, 0, 114, 0), (291, .iastore, 0, 0, 0, 0), (292, .dup, 0, 0, 0, 0), (293, .bipush 37, 0, 0, 37, 0), (295, .bipush 115, 0, 0, 115, 0), (297, .iastore, 0, 0, 0, 0), (298, .dup, 0, 0, 0, 0), (299, .bipush 38, 0, 0, 38, 0), (301, .bipush 111, 0, 0, 111, 0), (303, .iastore, 0, 0, 0, 0), (304, .dup, 0, 0, 0, 0), (305, .bipush 39, 0, 0, 39, 0), (307, .bipush 110, 0, 0, 110, 0), (309, .iastore, 0, 0, 0, 0), (310, .dup, 0, 0, 0, 0), (311, .bipush 40, 0, 0, 40, 0), (313, .bipush 32, 0, 0, 32, 0), (315, .iastore, 0, 0, 0, 0), (316, .dup, 0, 0, 0, 0), (317, .bipush 41, 0, 0, 41, 0), (319, .bipush 102, 0, 0, 102, 0), (321, .iastore, 0, 0, 0, 0), (322, .dup, 0, 0, 0, 0), (323, .bipush 42, 0, 0, 42, 0), (325, .bipush 105, 0, 0, 105, 0), (327, .iastore, 0, 0, 0, 0), (328, .dup, 0, 0, 0, 0), (329, .bipush 43, 0, 0, 43, 0), (331, .bipush 114, 0, 0, 114, 0), (333, .iastore, 0, 0, 0, 0), (334, .dup, 0, 0, 0, 0), (335, .bipush 44, 0, 0, 44, 0), (337, .bipush 109, 0, 0, 109, 0), (339, .iastore, 0, 0, 0, 0), (340, .dup, 0, 0, 0, 0), (341, .bipush 45, 0, 0, 45, 0), (343, .bipush 32, 0, 0, 32, 0), (345, .iastore, 0, 0, 0, 0), (346, .dup, 0, 0, 0, 0), (347, .bipush 46, 0, 0, 46, 0), (349, .bipush 116, 0, 0, 116, 0), (351, .iastore, 0, 0, 0, 0), (352, .dup, 0, 0, 0, 0), (353, .bipush 47, 0, 0, 47, 0), (355, .bipush 114, 0, 0, 114, 0), (357, .iastore, 0, 0, 0, 0), (358, .dup, 0, 0, 0, 0), (359, .bipush 48, 0, 0, 48, 0), (361, .bipush 97, 0, 0, 97, 0), (363, .iastore, 0, 0, 0, 0), (364, .dup, 0, 0, 0, 0), (365, .bipush 49, 0, 0, 49, 0), (367, .bipush 100, 0, 0, 100, 0), (369, .iastore, 0, 0, 0, 0), (370, .dup, 0, 0, 0, 0), (371, .bipush 50, 0, 0, 50, 0), (373, .bipush 101, 0, 0, 101, 0), (375, .iastore, 0, 0, 0, 0), (376, .dup, 0, 0, 0, 0), (377, .bipush 51, 0, 0, 51, 0), (379, .bipush 32, 0, 0, 32, 0), (381, .iastore, 0, 0, 0, 0), (382, .dup, 0, 0, 0, 0), (383, .bipush 52, 0, 0, 52, 0), (385, .bipush 121, 0, 0, 121, 0), (387, .iastore, 0, 0, 0, 0), (388, .dup, 0, 0, 0, 0), (389, .bipush 53, 0, 0, 53, 0), (391, .bipush 101, 0, 0, 101, 0), (393, .iastore, 0, 0, 0, 0), (394, .dup, 0, 0, 0, 0), (395, .bipush 54, 0, 0, 54, 0), (397, .bipush 97, 0, 0, 97, 0), (399, .iastore, 0, 0, 0, 0), (400, .dup, 0, 0, 0, 0), (401, .bipush 55, 0, 0, 55, 0), (403, .bipush 114, 0, 0, 114, 0), (405, .iastore, 0, 0, 0, 0), (406, .dup, 0, 0, 0, 0), (407, .bipush 56, 0, 0, 56, 0), (409, .bipush 32, 0, 0, 32, 0), (411, .iastore, 0, 0, 0, 0), (412, .dup, 0, 0, 0, 0), (413, .bipush 57, 0, 0, 57, 0), (415, .bipush 98, 0, 0, 98, 0), (417, .iastore, 0, 0, 0, 0), (418, .dup, 0, 0, 0, 0), (419, .bipush 58, 0, 0, 58, 0), (421, .bipush 101, 0, 0, 101, 0), (423, .iastore, 0, 0, 0, 0), (424, .dup, 0, 0, 0, 0), (425, .bipush 59, 0, 0, 59, 0), (427, .bipush 110, 0, 0, 110, 0), (429, .iastore, 0, 0, 0, 0), (430, .dup, 0, 0, 0, 0), (431, .bipush 60, 0, 0, 60, 0), (433, .bipush 116, 0, 0, 116, 0), (435, .iastore, 0, 0, 0, 0), (436, .dup, 0, 0, 0, 0), (437, .bipush 61, 0, 0, 61, 0), (439, .bipush 32, 0, 0, 32, 0), (441, .iastore, 0, 0, 0, 0), (442, .dup, 0, 0, 0, 0), (443, .bipush 62, 0, 0, 62, 0), (445, .bipush 119, 0, 0, 119, 0), (447, .iastore, 0, 0, 0, 0), (448, .dup, 0, 0, 0, 0), (449, .bipush 63, 0, 0, 63, 0), (451, .bipush 111, 0, 0, 111, 0), (453, .iastore, 0, 0, 0, 0), (454, .dup, 0, 0, 0, 0), (455, .bipush 64, 0, 0, 64, 0), (457, .bipush 114, 0, 0, 114, 0), (459, .iastore, 0, 0, 0, 0), (460, .dup, 0, 0, 0, 0), (461, .bipush 65, 0, 0, 65, 0), (463, .bipush 110, 0, 0, 110, 0), (465, .iastore, 0, 0, 0, 0), (466, .dup, 0, 0, 0, 0), (467, .bipush 66, 0, 0, 66, 0), (469, .bipush 32, 0, 0, 32, 0), (471, .iastore, 0, 0, 0, 0), (472, .dup, 0, 0, 0, 0), (473, .bipush 67, 0, 0, 67, 0), (475, .bipush 114, 0, 0, 114, 0), (477, .iastore, 0, 0, 0, 0), (478, .dup, 0, 0, 0, 0), (479, .bipush 68, 0, 0, 68, 0), (481, .bipush 117, 0, 0, 117, 0), (483, .iastore, 0, 0, 0, 0), (484, .dup, 0, 0, 0, 0), (485, .bipush 69, 0, 0, 69, 0), (487, .bipush 110, 0, 0, 110, 0), (489, .iastore, 0, 0, 0, 0), (490, .dup, 0, 0, 0, 0), (491, .bipush 70, 0, 0, 70, 0), (493, .bipush 103, 0, 0, 103, 0), (495, .iastore, 0, 0, 0, 0), (496, .dup, 0, 0, 0, 0), (497, .bipush 71, 0, 0, 71, 0), (499, .bipush 32, 0, 0, 32, 0), (501, .iastore, 0, 0, 0, 0), (502, .dup, 0, 0, 0, 0), (503, .bipush 72, 0, 0, 72, 0), (505, .bipush 97, 0, 0, 97, 0), (507, .iastore, 0, 0, 0, 0), (508, .dup, 0, 0, 0, 0), (509, .bipush 73, 0, 0, 73, 0), (511, .bipush 103, 0, 0, 103, 0), (513, .iastore, 0, 0, 0, 0), (514, .dup, 0, 0, 0, 0), (515, .bipush 74, 0, 0, 74, 0), (517, .bipush 101, 0, 0, 101, 0), (519, .iastore, 0, 0, 0, 0), (520, .dup, 0, 0, 0, 0), (521, .bipush 75, 0, 0, 75, 0), (523, .bipush 32, 0, 0, 32, 0), (525, .iastore, 0, 0, 0, 0), (526, .dup, 0, 0, 0, 0), (527, .bipush 76, 0, 0, 76, 0), (529, .bipush 110, 0, 0, 110, 0), (531, .iastore, 0, 0, 0, 0), (532, .dup, 0, 0, 0, 0), (533, .bipush 77, 0, 0, 77, 0), (535, .bipush 111, 0, 0, 111, 0), (537, .iastore, 0, 0, 0, 0), (538, .dup, 0, 0, 0, 0), (539, .bipush 78, 0, 0, 78, 0), (541, .bipush 119, 0, 0, 119, 0), (543, .iastore, 0, 0, 0, 0), (544, .dup, 0, 0, 0, 0), (545, .bipush 79, 0, 0, 79, 0), (547, .bipush 32, 0, 0, 32, 0), (549, .iastore, 0, 0, 0, 0), (550, .dup, 0, 0, 0, 0), (551, .bipush 80, 0, 0, 80, 0), (553, .bipush 98, 0, 0, 98, 0), (555, .iastore, 0, 0, 0, 0), (556, .dup, 0, 0, 0, 0), (557, .bipush 81, 0, 0, 81, 0), (559, .bipush 121, 0, 0, 121, 0), (561, .iastore, 0, 0, 0, 0), (562, .dup, 0, 0, 0, 0), (563, .bipush 82, 0, 0, 82, 0), (565, .bipush 32, 0, 0, 32, 0), (567, .iastore, 0, 0, 0, 0), (568, .dup, 0, 0, 0, 0), (569, .bipush 83, 0, 0, 83, 0), (571, .bipush 102, 0, 0, 102, 0), (573, .iastore, 0, 0, 0, 0), (574, .dup, 0, 0, 0, 0), (575, .bipush 84, 0, 0, 84, 0), (577, .bipush 114, 0, 0, 114, 0), (579, .iastore, 0, 0, 0, 0), (580, .dup, 0, 0, 0, 0), (581, .bipush 85, 0, 0, 85, 0), (583, .bipush 111, 0, 0, 111, 0), (585, .iastore, 0, 0, 0, 0), (586, .dup, 0, 0, 0, 0), (587, .bipush 86, 0, 0, 86, 0), (589, .bipush 109, 0, 0, 109, 0), (591, .iastore, 0, 0, 0, 0), (592, .dup, 0, 0, 0, 0), (593, .bipush 87, 0, 0, 87, 0), (595, .bipush 32, 0, 0, 32, 0), (597, .iastore, 0, 0, 0, 0), (598, .dup, 0, 0, 0, 0), (599, .bipush 88, 0, 0, 88, 0), (601, .bipush 116, 0, 0, 116, 0), (603, .iastore, 0, 0, 0, 0), (604, .dup, 0, 0, 0, 0), (605, .bipush 89, 0, 0, 89, 0), (607, .bipush 111, 0, 0, 111, 0), (609, .iastore, 0, 0, 0, 0), (610, .dup, 0, 0, 0, 0), (611, .bipush 90, 0, 0, 90, 0), (613, .bipush 32, 0, 0, 32, 0), (615, .iastore, 0, 0, 0, 0), (616, .dup, 0, 0, 0, 0), (617, .bipush 91, 0, 0, 91, 0), (619, .bipush 105, 0, 0, 105, 0), (621, .iastore, 0, 0, 0, 0), (622, .dup, 0, 0, 0, 0), (623, .bipush 92, 0, 0, 92, 0), (625, .bipush 110, 0, 0, 110, 0), (627, .iastore, 0, 0, 0, 0), (628, .dup, 0, 0, 0, 0), (629, .bipush 93, 0, 0, 93, 0), (631, .bipush 32, 0, 0, 32, 0), (633, .iastore, 0, 0, 0, 0), (634, .dup, 0, 0, 0, 0), (635, .bipush 94, 0, 0, 94, 0), (637, .bipush 116, 0, 0, 116, 0), (639, .iastore, 0, 0, 0, 0), (640, .dup, 0, 0, 0, 0), (641, .bipush 95, 0, 0, 95, 0), (643, .bipush 104, 0, 0, 104, 0), (645, .iastore, 0, 0, 0, 0), (646, .dup, 0, 0, 0, 0), (647, .bipush 96, 0, 0, 96, 0), (649, .bipush 114, 0, 0, 114, 0), (651, .iastore, 0, 0, 0, 0), (652, .dup, 0, 0, 0, 0), (653, .bipush 97, 0, 0, 97, 0), (655, .bipush 111, 0, 0, 111, 0), (657, .iastore, 0, 0, 0, 0), (658, .dup, 0, 0, 0, 0), (659, .bipush 98, 0, 0, 98, 0), (661, .bipush 119, 0, 0, 119, 0), (663, .iastore, 0, 0, 0, 0), (664, .dup, 0, 0, 0, 0), (665, .bipush 99, 0, 0, 99, 0), (667, .bipush 32, 0, 0, 32, 0), (669, .iastore, 0, 0, 0, 0), (670, .dup, 0, 0, 0, 0), (671, .bipush 100, 0, 0, 100, 0), (673, .bipush 114, 0, 0, 114, 0), (675, .iastore, 0, 0, 0, 0), (676, .dup, 0, 0, 0, 0), (677, .bipush 101, 0, 0, 101, 0), (679, .bipush 105, 0, 0, 105, 0), (681, .iastore, 0, 0, 0, 0), (682, .dup, 0, 0, 0, 0), (683, .bipush 102, 0, 0, 102, 0), (685, .bipush 110, 0, 0, 110, 0), (687, .iastore, 0, 0, 0, 0), (688, .dup, 0, 0, 0, 0), (689, .bipush 103, 0, 0, 103, 0), (691, .bipush 103, 0, 0, 103, 0), (693, .iastore, 0, 0, 0, 0), (694, .dup, 0, 0, 0, 0), (695, .bipush 104, 0, 0, 104, 0), (697, .bipush 32, 0, 0, 32, 0), (699, .iastore, 0, 0, 0, 0), (700, .dup, 0, 0, 0, 0), (701, .bipush 105, 0, 0, 105, 0), (703, .bipush 98, 0, 0, 98, 0), (705, .iastore, 0, 0, 0, 0), (706, .dup, 0, 0, 0, 0), (707, .bipush 106, 0, 0, 106, 0), (709, .bipush 101, 0, 0, 101, 0), (711, .iastore, 0, 0, 0, 0), (712, .dup, 0, 0, 0, 0), (713, .bipush 107, 0, 0, 107, 0), (715, .bipush 110, 0, 0, 110, 0), (717, .iastore, 0, 0, 0, 0), (718, .dup, 0, 0, 0, 0), (719, .bipush 108, 0, 0, 108, 0), (721, .bipush 100, 0, 0, 100, 0), (723, .iastore, 0, 0, 0, 0), (724, .dup, 0, 0, 0, 0), (725, .bipush 109, 0, 0, 109, 0), (727, .bipush 32, 0, 0, 32, 0), (729, .iastore, 0, 0, 0, 0), (730, .dup, 0, 0, 0, 0), (731, .bipush 110, 0, 0, 110, 0), (733, .bipush 102, 0, 0, 102, 0), (735, .iastore, 0, 0, 0, 0), (736, .dup, 0, 0, 0, 0), (737, .bipush 111, 0, 0, 111, 0), (739, .bipush 105, 0, 0, 105, 0), (741, .iastore, 0, 0, 0, 0), (742, .dup, 0, 0, 0, 0), (743, .bipush 112, 0, 0, 112, 0), (745, .bipush 110, 0, 0, 110, 0), (747, .iastore, 0, 0, 0, 0), (748, .dup, 0, 0, 0, 0), (749, .bipush 113, 0, 0, 113, 0), (751, .bipush 100, 0, 0, 100, 0), (753, .iastore, 0, 0, 0, 0), (754, .dup, 0, 0, 0, 0), (755, .bipush 114, 0, 0, 114, 0), (757, .bipush 32, 0, 0, 32, 0), (759, .iastore, 0, 0, 0, 0), (760, .putfield 34, 17, 12, 2, 153), (763, .aload_n 0, 0, 0, 0, 0), (764, .iconst 2, 0, 0, 2, 0), (765, .newarray .int, 0, 0, 0, 0), (767, .putfield 37, 18, 12, 2, 154), (770, .aload_n 0, 0, 0, 0, 0), (771, .bipush 48, 0, 0, 48, 0), (773, .newarray .int, 0, 0, 0, 0), (775, .putfield 40, 19, 12, 2, 155), (778, .aload_n 0, 0, 0, 0, 0), (779, .bipush 48, 0, 0, 48, 0), (781, .newarray .int, 0, 0, 0, 0), (783, .putfield 43, 20, 12, 2, 156), (786, .aload_n 0, 0, 0, 0, 0), (787, .bipush 48, 0, 0, 48, 0), (789, .newarray .int, 0, 0, 0, 0), (791, .putfield 46, 21, 12, 2, 157), (794, .aload_n 0, 0, 0, 0, 0), (795, .bipush 48, 0, 0, 48, 0), (797, .newarray .int, 0, 0, 0, 0), (799, .putfield 49, 22, 12, 2, 158), (802, .aload_n 0, 0, 0, 0, 0), (803, .sipush 1200, 0, 0, 1200, 0), (806, .newarray .int, 0, 0, 0, 0), (808, .putfield 52, 23, 12, 2, 159), (811, .aload_n 0, 0, 0, 0, 0), (812, .sipush 1200, 0, 0, 1200, 0), (815, .newarray .int, 0, 0, 0, 0), (817, .putfield 55, 24, 12, 2, 160), (820, .aload_n 0, 0, 0, 0, 0), (821, .bipush 40, 0, 0, 40, 0), (823, .newarray .int, 0, 0, 0, 0), (825, .putfield 58, 28, 12, 2, 161), (828, .aload_n 0, 0, 0, 0, 0), (829, .iconst (-1), 0, 0, (-1), 0), (830, .putfield 61, 33, 12, 0, 162), (833, .aload_n 0, 0, 0, 0, 0), (834, .bipush 24, 0, 0, 24, 0), (836, .newarray .int, 0, 0, 0, 0), (838, .putfield 65, 35, 12, 2, 163), (841, .aload_n 0, 0, 0, 0, 0), (842, .bipush 16, 0, 0, 16, 0), (844, .newarray .int, 0, 0, 0, 0), (846, .putfield 68, 37, 12, 2, 164), (849, .aload_n 0, 0, 0, 0, 0), (850, .bipush 16, 0, 0, 16, 0), (852, .newarray .int, 0, 0, 0, 0), (854, .putfield 71, 38, 12, 2, 165), (857, .aload_n 0, 0, 0, 0, 0), (858, .bipush 96, 0, 0, 96, 0), (860, .newarray .int, 0, 0, 0, 0), (862, .putfield 74, 40, 12, 2, 166), (865, .aload_n 0, 0, 0, 0, 0), (866, .bipush 9, 0, 0, 9, 0), (868, .newarray .int, 0, 0, 0, 0), (870, .putfield 77, 41, 12, 2, 167), (873, .aload_n 0, 0, 0, 0, 0), (874, .sipush 420, 0, 0, 420, 0), (877, .newarray .int, 0, 0, 0, 0), (879, .putfield 80, 42, 12, 2, 168), (882, .aload_n 0, 0, 0, 0, 0), (883, .bipush 12, 0, 0, 12, 0), (885, .newarray .int, 0, 0, 0, 0), (887, .putfield 83, 44, 12, 2, 169), (890, .aload_n 0, 0, 0, 0, 0), (891, .bipush 12, 0, 0, 12, 0), (893, .newarray .int, 0, 0, 0, 0), (895, .putfield 86, 45, 12, 2, 170), (898, .aload_n 0, 0, 0, 0, 0), (899, .bipush 14, 0, 0, 14, 0), (901, .newarray .int, 0, 0, 0, 0), (903, .putfield 89, 46, 12, 2, 171), (906, .aload_n 0, 0, 0, 0, 0), (907, .bipush 14, 0, 0, 14, 0), (909, .newarray .int, 0, 0, 0, 0), (911, .putfield 92, 47, 12, 2, 172), (914, .aload_n 0, 0, 0, 0, 0), (915, .bipush 13, 0, 0, 13, 0), (917, .newarray .int, 0, 0, 0, 0), (919, .putfield 95, 48, 12, 2, 173), (922, .aload_n 0, 0, 0, 0, 0), (923, .bipush 10, 0, 0, 10, 0), (925, .newarray .int, 0, 0, 0, 0), (927, .putfield 98, 50, 12, 2, 174), (930, .aload_n 0, 0, 0, 0, 0), (931, .bipush 10, 0, 0, 10, 0), (933, .newarray .int, 0, 0, 0, 0), (935, .putfield 101, 51, 12, 2, 175), (938, .aload_n 0, 0, 0, 0, 0), (939, .bipush 8, 0, 0, 8, 0), (941, .newarray .int, 0, 0, 0, 0), (943, .putfield 104, 53, 12, 2, 176), (946, .aload_n 0, 0, 0, 0, 0), (947, .bipush 8, 0, 0, 8, 0), (949, .newarray .int, 0, 0, 0, 0), (951, .putfield 107, 54, 12, 2, 177), (954, .aload_n 0, 0, 0, 0, 0), (955, .bipush 8, 0, 0, 8, 0), (957, .newarray .int, 0, 0, 0, 0), (959, .putfield 110, 55, 12, 2, 178), (962, .aload_n 0, 0, 0, 0, 0), (963, .sipush 1900, 0, 0, 1900, 0), (966, .newarray .int, 0, 0, 0, 0), (968, .putfield 113, 59, 12, 2, 179), (971, .return_, 0, 0, 0, 0)]
/-- CardDrawerModel.isIn(III)Z -/
def cd158 : List pI := [(0, .iload_n 1, 1, 0, 0, 0), (1, .iload_n 2, 2, 0, 0, 0), (2, .if_icmp .lt 12, 14, 0, 0, 0), (5, .iload_n 1, 1, 0, 0, 0), (6, .iload_n 3, 3, 0, 0, 0), (7, .if_icmp .gt 7, 14, 0, 0, 0), (10, .iconst 1, 0, 0, 1, 0), (11, .goto 4, 15, 0, 0, 0), (14, .iconst 0, 0, 0, 0, 0), (15, .ireturn, 1, 0, 0, 0)]
/-- CardDrawerModel.held(III)I -/
def cd159 : List pI := [(0, .iload_n 1, 1, 0, 0, 0), (1, .iload_n 2, 2, 0, 0, 0), (2, .if_icmp .ge 7, 9, 0, 0, 0), (5, .iload_n 2, 2, 0, 0, 0), (6, .goto 13, 19, 0, 0, 0), (9, .iload_n 1, 1, 0, 0, 0), (10, .iload_n 3, 3, 0, 0, 0), (11, .if_icmp .le 7, 18, 0, 0, 0), (14, .iload_n 3, 3, 0, 0, 0), (15, .goto 4, 19, 0, 0, 0), (18, .iload_n 1, 1, 0, 0, 0), (19, .ireturn, 0, 0, 0, 0)]
/-- CardDrawerModel.greater(II)I -/
def cd160 : List pI := [(0, .iload_n 1, 1, 0, 0, 0), (1, .iload_n 2, 2, 0, 0, 0), (2, .if_icmp .le 7, 9, 0, 0, 0), (5, .iload_n 1, 1, 0, 0, 0), (6, .goto 4, 10, 0, 0, 0), (9, .iload_n 2, 2, 0, 0, 0), (10, .ireturn, 0, 0, 0, 0)]
/-- CardDrawerModel.lesser(II)I -/
def cd161 : List pI := [(0, .iload_n 1, 1, 0, 0, 0), (1, .iload_n 2, 2, 0, 0, 0), (2, .if_icmp .ge 7, 9, 0, 0, 0), (5, .iload_n 1, 1, 0, 0, 0), (6, .goto 4, 10, 0, 0, 0), (9, .iload_n 2, 2, 0, 0, 0), (10, .ireturn, 0, 0, 0, 0)]
/-- CardDrawerModel.onesOf(I)I -/
def cd162 : List pI := [(0, .iconst 0, 0, 0, 0, 0), (1, .istore_n 2, 2, 0, 0, 0), (2, .iload_n 1, 1, 0, 0, 0), (3, .istore_n 3, 3, 0, 0, 0), (4, .nop, 0, 0, 0, 0), (4, .nop, 1, 0, 0, 0), (4, .iload_n 3, 3, 0, 0, 0), (5, .ifCond .eq 16, 21, 0, 0, 0), (8, .iload_n 2, 2, 0, 0, 0), (9, .iconst 1, 0, 0, 1, 0), (10, .iadd, 0, 0, 0, 0), (11, .istore_n 2, 2, 0, 0, 0), (12, .iload_n 3, 3, 0, 0, 0), (13, .iload_n 3, 3, 0, 0, 0), (14, .iconst 1, 0, 0, 1, 0), (15, .isub, 0, 0, 0, 0), (16, .iand, 0, 0, 0, 0), (17, .istore_n 3, 3, 0, 0, 0), (18, .goto (-14), 4, 0, 0, 0), (21, .iload_n 2, 2, 0, 0, 0), (22, .ireturn, 0, 0, 0, 0)]
/-- CardDrawerModel.has(II)Z -/
def cd163 : List pI := [(0, .iload_n 1, 1, 0, 0, 0), (1, .iload_n 2, 2, 0, 0, 0), (2, .ishr, 0, 0, 0, 0), (3, .iconst 1, 0, 0, 1, 0), (4, .iand, 0, 0, 0, 0), (5, .iconst 1, 0, 0, 1, 0), (6, .if_icmp .ne 7, 13, 0, 0, 0), (9, .iconst 1, 0, 0, 1, 0), (10, .goto 4, 14, 0, 0, 0), (13, .iconst 0, 0, 0, 0, 0), (14, .ireturn, 1, 0, 0, 0)]
/-- CardDrawerModel.keepsAhead()V -/
def cd164 : List pI := [(0, .aload_n 0, 0, 0, 0, 0), (1, .getfield 119, 3, 12, 0, 180), (4, .bipush 6, 0, 0, 6, 0), (6, .if_icmp .ne 47, 53, 0, 0, 0), (9, .aload_n 0, 0, 0, 0, 0), (10, .aload_n 0, 0, 0, 0, 0), (11, .getfield 119, 3, 12, 0, 180), (14, .iconst 1, 0, 0, 1, 0), (15, .isub, 0, 0, 0, 0), (16, .putfield 119, 3, 12, 0, 180), (19, .iconst 0, 0, 0, 0, 0), (20, .istore_n 1, 1, 0, 0, 0), (21, .iload_n 1, 1, 0, 0, 0), (22, .bipush 76, 0, 0, 76, 0), (24, .aload_n 0, 0, 0, 0, 0), (25, .getfield 119, 3, 12, 0, 180), (28, .imul, 0, 0, 0, 0), (29, .if_icmp .ge 24, 53, 0, 0, 0), (32, .aload_n 0, 0, 0, 0, 0), (33, .getfield 13, 2, 12, 0, 146), (36, .iload_n 1, 1, 0, 0, 0), (37, .aload_n 0, 0, 0, 0, 0), (38, .getfield 13, 2, 12, 0, 146), (41, .iload_n 1, 1, 0, 0, 0), (42, .bipush 76, 0, 0, 76, 0), (44, .iadd, 0, 0, 0, 0), (45, .iaload, 0, 0, 0, 0), (46, .iastore, 0, 0, 0, 0), (47, .iinc 1 1, 1, 0, 1, 0), (50, .goto (-29), 21, 0, 0, 0), (53, .iconst 0, 0, 0, 0, 0), (54, .istore_n 1, 1, 0, 0, 0), (55, .iload_n 1, 1, 0, 0, 0), (56, .bipush 76, 0, 0, 76, 0), (58, .if_icmp .ge 29, 87, 0, 0, 0), (61, .aload_n 0, 0, 0, 0, 0), (62, .getfield 13, 2, 12, 0, 146), (65, .bipush 76, 0, 0, 76, 0), (67, .aload_n 0, 0, 0, 0, 0), (68, .getfield 119, 3, 12, 0, 180), (71, .imul, 0, 0, 0, 0), (72, .iload_n 1, 1, 0, 0, 0), (73, .iadd, 0, 0, 0, 0), (74, .aload_n 0, 0, 0, 0, 0), (75, .getfield 7, 1, 12, 0, 145), (78, .iload_n 1, 1, 0, 0, 0), (79, .iaload, 0, 0, 0, 0), (80, .iastore, 0, 0, 0, 0), (81, .iinc 1 1, 1, 0, 1, 0), (84, .goto (-29), 55, 0, 0, 0), (87, .aload_n 0, 0, 0, 0, 0), (88, .aload_n 0, 0, 0, 0, 0), (89, .getfield 119, 3, 12, 0, 180), (92, .iconst 1, 0, 0, 1, 0), (93, .iadd, 0, 0, 0, 0), (94, .putfield 119, 3, 12, 0, 180), (97, .return_, 0, 0, 0, 0)]
/-- CardDrawerModel.undo()Z -/
def cd165 : List pI := [(0, .aload_n 0, 0, 0, 0, 0), (1, .iconst 0, 0, 0, 0, 0), (2, .putfield 116, 0, 12, 0, 181), (5, .aload_n 0, 0, 0, 0, 0), (6, .getfield 119, 3, 12, 0, 180), (9, .ifCond .ne 5, 14, 0, 0, 0), (12, .iconst 0, 0, 0, 0, 0), (13, .ireturn, 1, 0, 0, 0), (14, .aload_n 0, 0, 0, 0, 0), (15, .aload_n 0, 0, 0, 0, 0), (16, .getfield 119, 3, 12, 0, 180), (19, .iconst 1, 0, 0, 1, 0), (20, .isub, 0, 0, 0, 0), (21, .putfield 119, 3, 12, 0, 180), (24, .iconst 0, 0, 0, 0, 0), (25, .istore_n 1, 1, 0, 0, 0), (26, .iload_n 1, 1, 0, 0, 0), (27, .bipush 76, 0, 0, 76, 0), (29, .if_icmp .ge 29, 58, 0, 0, 0), (32, .aload_n 0, 0, 0, 0, 0), (33, .getfield 7, 1, 12, 0, 145), (36, .iload_n 1, 1, 0, 0, 0), (37, .aload_n 0, 0, 0, 0, 0), (38, .getfield 13, 2, 12, 0, 146), (41, .bipush 76, 0, 0, 76, 0), (43, .aload_n 0, 0, 0, 0, 0), (44, .getfield 119, 3, 12, 0, 180), (47, .imul, 0, 0, 0, 0), (48, .iload_n 1, 1, 0, 0, 0), (49, .iadd, 0, 0, 0, 0), (50, .iaload, 0, 0, 0, 0), (51, .iastore, 0, 0, 0, 0), (52, .iinc 1 1, 1, 0, 1, 0), (55, .goto (-29), 26, 0, 0, 0), (58, .iconst 1, 0, 0, 1, 0), (59, .ireturn, 1, 0, 0, 0)]
/-- CardDrawerModel.thinks()V -/
def cd166 : List pI := [(0, .iconst 0, 0, 0, 0, 0), (1, .istore_n 1, 1, 0, 0, 0), (2, .iload_n 1, 1, 0, 0, 0), (3, .bipush 76, 0, 0, 76, 0), (5, .if_icmp .ge 21, 26, 0, 0, 0), (8, .aload_n 0, 0, 0, 0, 0), (9, .getfield 16, 4, 12, 0, 147), (12, .iload_n 1, 1, 0, 0, 0), (13, .aload_n 0, 0, 0, 0, 0), (14, .getfield 7, 1, 12, 0, 145), (17, .iload_n 1, 1, 0, 0, 0), (18, .iaload, 0, 0, 0, 0), (19, .iastore, 0, 0, 0, 0), (20, .iinc 1 1, 1, 0, 1, 0), (23, .goto (-21), 2, 0, 0, 0), (26, .aload_n 0, 0, 0, 0, 0), (27, .iconst 1, 0, 0, 1, 0), (28, .putfield 122, 5, 12, 1, 182), (31, .return_, 0, 0, 0, 0)]
/-- CardDrawerModel.endsThought()V -/
def cd167 : List pI := [(0, .iconst 0, 0, 0, 0, 0), (1, .istore_n 1, 1, 0, 0, 0), (2, .iload_n 1, 1, 0, 0, 0), (3, .bipush 76, 0, 0, 76, 0), (5, .if_icmp .ge 21, 26, 0, 0, 0), (8, .aload_n 0, 0, 0, 0, 0), (9, .getfield 7, 1, 12, 0, 145), (12, .iload_n 1, 1, 0, 0, 0), (13, .aload_n 0, 0, 0, 0, 0), (14, .getfield 16, 4, 12, 0, 147), (17, .iload_n 1, 1, 0, 0, 0), (18, .iaload, 0, 0, 0, 0), (19, .iastore, 0, 0, 0, 0), (20, .iinc 1 1, 1, 0, 1, 0), (23, .goto (-21), 2, 0, 0, 0), (26, .aload_n 0, 0, 0, 0, 0), (27, .iconst 0, 0, 0, 0, 0), (28, .putfield 122, 5, 12, 1, 182), (31, .return_, 0, 0, 0, 0)]
/-- CardDrawerModel.state(I)I -/
def cd168 : List pI := [(0, .aload_n 0, 0, 0, 0, 0), (1, .iconst 0, 0, 0, 0, 0), (2, .putfield 116, 0, 12, 0, 181), (5, .aload_n 0, 0, 0, 0, 0), (6, .getfield 7, 1, 12, 0, 145), (9, .iconst 1, 0, 0, 1, 0), (10, .iaload, 0, 0, 0, 0), (11, .istore_n 2, 2, 0, 0, 0), (12, .aload_n 0, 0, 0, 0, 0), (13, .getfield 7, 1, 12, 0, 145), (16, .iconst 1, 0, 0, 1, 0), (17, .iload_n 1, 1, 0, 0, 0), (18, .iastore, 0, 0, 0, 0), (19, .aload_n 0, 0, 0, 0, 0), (20, .iconst 0, 0, 0, 0, 0), (21, .putfield 119, 3, 12, 0, 180), (24, .iload_n 2, 2, 0, 0, 0), (25, .ireturn, 0, 0, 0, 0)]
/-- CardDrawerModel.draw(I)I -/
def cd169 : List pI := [(0, .aload_n 0, 0, 0, 0, 0), (1, .getfield 7, 1, 12, 0, 145), (4, .iconst 1, 0, 0, 1, 0), (5, .ldc 126, 0, 0, 1664525, 0), (7, .aload_n 0, 0, 0, 0, 0), (8, .getfield 7, 1, 12, 0, 145), (11, .iconst 1, 0, 0, 1, 0), (12, .iaload, 0, 0, 0, 0), (13, .imul, 0, 0, 0, 0), (14, .ldc 127, 0, 0, 1013904223, 0), (16, .iadd, 0, 0, 0, 0), (17, .iastore, 0, 0, 0, 0), (18, .aload_n 0, 0, 0, 0, 0), (19, .getfield 7, 1, 12, 0, 145), (22, .iconst 1, 0, 0, 1, 0), (23, .iaload, 0, 0, 0, 0), (24, .bipush 8, 0, 0, 8, 0), (26, .iushr, 0, 0, 0, 0), (27, .iload_n 1, 1, 0, 0, 0), (28, .irem, 0, 0, 0, 0), (29, .ireturn, 0, 0, 0, 0)]
/-- CardDrawerModel.isCard(I)Z -/
def cd170 : List pI := [(0, .iload_n 1, 1, 0, 0, 0), (1, .ifCond .lt 15, 16, 0, 0, 0), (4, .iload_n 1, 1, 0, 0, 0), (5, .aload_n 0, 0, 0, 0, 0), (6, .getfield 128, 6, 12, 0, 183), (9, .if_icmp .ge 7, 16, 0, 0, 0), (12, .iconst 1, 0, 0, 1, 0), (13, .goto 4, 17, 0, 0, 0), (16, .iconst 0, 0, 0, 0, 0), (17, .ireturn, 1, 0, 0, 0)]
/-- CardDrawerModel.isPerson(I)Z -/
def cd171 : List pI := [(0, .iload_n 1, 1, 0, 0, 0), (1, .ifCond .lt 13, 14, 0, 0, 0), (4, .iload_n 1, 1, 0, 0, 0), (5, .bipush 12, 0, 0, 12, 0), (7, .if_icmp .ge 7, 14, 0, 0, 0), (10, .iconst 1, 0, 0, 1, 0), (11, .goto 4, 15, 0, 0, 0), (14, .iconst 0, 0, 0, 0, 0), (15, .ireturn, 1, 0, 0, 0)]
/-- CardDrawerModel.isKept(I)Z -/
def cd172 : List pI := [(0, .aload_n 0, 0, 0, 0, 0), (1, .getfield 7, 1, 12, 0, 145), (4, .bipush 48, 0, 0, 48, 0), (6, .iload_n 1, 1, 0, 0, 0), (7, .iadd, 0, 0, 0, 0), (8, .iaload, 0, 0, 0, 0), (9, .ifCond .ne 7, 16, 0, 0, 0), (12, .iconst 1, 0, 0, 1, 0), (13, .goto 4, 17, 0, 0, 0), (16, .iconst 0, 0, 0, 0, 0), (17, .ireturn, 1, 0, 0, 0)]
/-- CardDrawerModel.keptSet()I -/
def cd173 : List pI := [(0, .iconst 0, 0, 0, 0, 0), (1, .istore_n 1, 1, 0, 0, 0), (2, .iconst 0, 0, 0, 0, 0), (3, .istore_n 2, 2, 0, 0, 0), (4, .iload_n 2, 2, 0, 0, 0), (5, .aload_n 0, 0, 0, 0, 0), (6, .getfield 128, 6, 12, 0, 183), (9, .if_icmp .ge 23, 32, 0, 0, 0), (12, .aload_n 0, 0, 0, 0, 0), (13, .iload_n 2, 2, 0, 0, 0), (14, .invokevirtual 131, 172, 1, 0, 170), (17, .ifCond .eq 9, 26, 0, 0, 0), (20, .iload_n 1, 1, 0, 0, 0), (21, .iconst 1, 0, 0, 1, 0), (22, .iload_n 2, 2, 0, 0, 0), (23, .ishl, 0, 0, 0, 0), (24, .ior, 0, 0, 0, 0), (25, .istore_n 1, 1, 0, 0, 0), (26, .iinc 2 1, 2, 0, 1, 0), (29, .goto (-25), 4, 0, 0, 0), (32, .iload_n 1, 1, 0, 0, 0), (33, .ireturn, 0, 0, 0, 0)]
/-- CardDrawerModel.introducer(I)I -/
def cd174 : List pI := [(0, .aload_n 0, 0, 0, 0, 0), (1, .getfield 65, 35, 12, 0, 163), (4, .iload_n 1, 1, 0, 0, 0), (5, .iaload, 0, 0, 0, 0), (6, .iconst 1, 0, 0, 1, 0), (7, .isub, 0, 0, 0, 0), (8, .ireturn, 0, 0, 0, 0)]
/-- CardDrawerModel.card(IIII)I -/
def cd175 : List pI := [(0, .aload_n 0, 0, 0, 0, 0), (1, .iconst 0, 0, 0, 0, 0), (2, .putfield 116, 0, 12, 0, 181), (5, .aload_n 0, 0, 0, 0, 0), (6, .iload_n 1, 1, 0, 0, 0), (7, .invokevirtual 135, 171, 1, 0, 171), (10, .ifCond .eq 45, 55, 0, 0, 0), (13, .aload_n 0, 0, 0, 0, 0), (14, .iload_n 2, 2, 0, 0, 0), (15, .iconst 0, 0, 0, 0, 0), (16, .bipush 7, 0, 0, 7, 0), (18, .invokevirtual 138, 158, 1, 0, 172), (21, .ifCond .eq 34, 55, 0, 0, 0), (24, .aload_n 0, 0, 0, 0, 0), (25, .iload_n 3, 3, 0, 0, 0), (26, .iconst 0, 0, 0, 0, 0), (27, .iconst 5, 0, 0, 5, 0), (28, .invokevirtual 138, 158, 1, 0, 172), (31, .ifCond .eq 24, 55, 0, 0, 0), (34, .aload_n 0, 0, 0, 0, 0), (35, .iload 4, 4, 0, 0, 0), (37, .iconst 0, 0, 0, 0, 0), (38, .bipush 99, 0, 0, 99, 0), (40, .invokevirtual 138, 158, 1, 0, 172), (43, .ifCond .eq 12, 55, 0, 0, 0), (46, .aload_n 0, 0, 0, 0, 0), (47, .getfield 128, 6, 12, 0, 183), (50, .bipush 14, 0, 0, 14, 0), (52, .if_icmp .ne 5, 57, 0, 0, 0), (55, .iconst (-1), 0, 0, (-1), 0), (56, .ireturn, 0, 0, 0, 0), (57, .aload_n 0, 0, 0, 0, 0), (58, .getfield 19, 7, 12, 0, 148), (61, .aload_n 0, 0, 0, 0, 0), (62, .getfield 128, 6, 12, 0, 183), (65, .iload_n 1, 1, 0, 0, 0), (66, .iastore, 0, 0, 0, 0), (67, .aload_n 0, 0, 0, 0, 0), (68, .getfield 22, 8, 12, 0, 149), (71, .aload_n 0, 0, 0, 0, 0), (72, .getfield 128, 6, 12, 0, 183), (75, .iload_n 2, 2, 0, 0, 0), (76, .iastore, 0, 0, 0, 0), (77, .aload_n 0, 0, 0, 0, 0), (78, .getfield 25, 9, 12, 0, 150), (81, .aload_n 0, 0, 0, 0, 0), (82, .getfield 128, 6, 12, 0, 183), (85, .iload_n 3, 3, 0, 0, 0), (86, .iastore, 0, 0, 0, 0), (87, .aload_n 0, 0, 0, 0, 0), (88, .getfield 7, 1, 12, 0, 145), (91, .bipush 6, 0, 0, 6, 0), (93, .aload_n 0, 0, 0, 0, 0), (94, .getfield 128, 6, 12, 0, 183), (97, .iadd, 0, 0, 0, 0), (98, .iload 4, 4, 0, 0, 0), (100, .iastore, 0, 0, 0, 0), (101, .aload_n 0, 0, 0, 0, 0), (102, .getfield 7, 1, 12, 0, 145), (105, .bipush 20, 0, 0, 20, 0), (107, .aload_n 0, 0, 0, 0, 0), (108, .getfield 128, 6, 12, 0, 183), (111, .iadd, 0, 0, 0, 0), (112, .iconst 0, 0, 0, 0, 0), (113, .iastore, 0, 0, 0, 0), (114, .aload_n 0, 0, 0, 0, 0), (115, .getfield 7, 1, 12, 0, 145), (118, .bipush 34, 0, 0, 34, 0), (120, .aload_n 0, 0, 0, 0, 0), (121, .getfield 128, 6, 12, 0, 183), (124, .iadd, 0, 0, 0, 0), (125, .iconst 0, 0, 0, 0, 0), (126, .iastore, 0, 0, 0, 0), (127, .aload_n 0, 0, 0, 0, 0), (128, .getfield 7, 1, 12, 0, 145), (131, .bipush 48, 0, 0, 48, 0), (133, .aload_n 0, 0, 0, 0, 0), (134, .getfield 128, 6, 12, 0, 183), (137, .iadd, 0, 0, 0, 0), (138, .iconst 0, 0, 0, 0, 0), (139, .iastore, 0, 0, 0, 0), (140, .aload_n 0, 0, 0, 0, 0), (141, .getfield 7, 1, 12, 0, 145), (144, .bipush 62, 0, 0, 62, 0), (146, .aload_n 0, 0, 0, 0, 0), (147, .getfield 128, 6, 12, 0, 183), (150, .iadd, 0, 0, 0, 0), (151, .iconst 0, 0, 0, 0, 0), (152, .iastore, 0, 0, 0, 0), (153, .aload_n 0, 0, 0, 0, 0), (154, .aload_n 0, 0, 0, 0, 0), (155, .getfield 128, 6, 12, 0, 183), (158, .iconst 1, 0, 0, 1, 0), (159, .iadd, 0, 0, 0, 0), (160, .putfield 128, 6, 12, 0, 183), (163, .aload_n 0, 0, 0, 0, 0), (164, .iconst 0, 0, 0, 0, 0), (165, .putfield 119, 3, 12, 0, 180), (168, .aload_n 0, 0, 0, 0, 0), (169, .getfield 128, 6, 12, 0, 183), (172, .iconst 1, 0, 0, 1, 0), (173, .isub, 0, 0, 0, 0), (174, .ireturn, 0, 0, 0, 0)]
/-- CardDrawerModel.set(III)Z -/
def cd176 : List pI := [(0, .aload_n 0, 0, 0, 0, 0), (1, .iconst 0, 0, 0, 0, 0), (2, .putfield 116, 0, 12, 0, 181), (5, .aload_n 0, 0, 0, 0, 0), (6, .iload_n 1, 1, 0, 0, 0), (7, .iconst 0, 0, 0, 0, 0), (8, .iconst 2, 0, 0, 2, 0), (9, .invokevirtual 138, 158, 1, 0, 172), (12, .ifCond .eq 26, 38, 0, 0, 0), (15, .aload_n 0, 0, 0, 0, 0), (16, .iload_n 3, 3, 0, 0, 0), (17, .iconst 0, 0, 0, 0, 0), (18, .bipush 99, 0, 0, 99, 0), (20, .invokevirtual 138, 158, 1, 0, 172), (23, .ifCond .eq 15, 38, 0, 0, 0), (26, .iload_n 1, 1, 0, 0, 0), (27, .ifCond .le 13, 40, 0, 0, 0), (30, .aload_n 0, 0, 0, 0, 0), (31, .iload_n 2, 2, 0, 0, 0), (32, .invokevirtual 142, 170, 1, 0, 173), (35, .ifCond .ne 5, 40, 0, 0, 0), (38, .iconst 0, 0, 0, 0, 0), (39, .ireturn, 1, 0, 0, 0), (40, .iload_n 1, 1, 0, 0, 0), (41, .ifCond .ne 10, 51, 0, 0, 0), (44, .aload_n 0, 0, 0, 0, 0), (45, .getfield 7, 1, 12, 0, 145), (48, .iconst 0, 0, 0, 0, 0), (49, .iload_n 3, 3, 0, 0, 0), (50, .iastore, 0, 0, 0, 0), (51, .iload_n 1, 1, 0, 0, 0), (52, .iconst 1, 0, 0, 1, 0), (53, .if_icmp .ne 13, 66, 0, 0, 0), (56, .aload_n 0, 0, 0, 0, 0), (57, .getfield 7, 1, 12, 0, 145), (60, .bipush 6, 0, 0, 6, 0), (62, .iload_n 2, 2, 0, 0, 0), (63, .iadd, 0, 0, 0, 0), (64, .iload_n 3, 3, 0, 0, 0), (65, .iastore, 0, 0, 0, 0), (66, .iload_n 1, 1, 0, 0, 0), (67, .iconst 2, 0, 0, 2, 0), (68, .if_icmp .ne 13, 81, 0, 0, 0), (71, .aload_n 0, 0, 0, 0, 0), (72, .getfield 7, 1, 12, 0, 145), (75, .bipush 20, 0, 0, 20, 0), (77, .iload_n 2, 2, 0, 0, 0), (78, .iadd, 0, 0, 0, 0), (79, .iload_n 3, 3, 0, 0, 0), (80, .iastore, 0, 0, 0, 0), (81, .nop, 1, 0, 0, 0), (81, .nop, 2, 0, 0, 0), (81, .nop, 3, 0, 0, 0), (81, .aload_n 0, 0, 0, 0, 0), (82, .iconst 0, 0, 0, 0, 0), (83, .putfield 119, 3, 12, 0, 180), (86, .iconst 1, 0, 0, 1, 0), (87, .ireturn, 1, 0, 0, 0)]
/-- CardDrawerModel.types(I)V -/
def cd177 : List pI := [(0, .bipush 24, 0, 0, 24, 0), (2, .istore_n 2, 2, 0, 0, 0), (3, .iload_n 2, 2, 0, 0, 0), (4, .ifCond .lt 35, 39, 0, 0, 0), (7, .aload_n 0, 0, 0, 0, 0), (8, .getfield 31, 11, 12, 0, 152), (11, .aload_n 0, 0, 0, 0, 0), (12, .getfield 145, 12, 12, 0, 184), (15, .iload_n 1, 1, 0, 0, 0), (16, .iload_n 2, 2, 0, 0, 0), (17, .ishr, 0, 0, 0, 0), (18, .sipush 255, 0, 0, 255, 0), (21, .iand, 0, 0, 0, 0), (22, .iastore, 0, 0, 0, 0), (23, .aload_n 0, 0, 0, 0, 0), (24, .aload_n 0, 0, 0, 0, 0), (25, .getfield 145, 12, 12, 0, 184), (28, .iconst 1, 0, 0, 1, 0), (29, .iadd, 0, 0, 0, 0), (30, .putfield 145, 12, 12, 0, 184), (33, .iinc 2 (-8), 2, 0, (-8), 0), (36, .goto (-33), 3, 0, 0, 0), (39, .return_, 0, 0, 0, 0)]
/-- CardDrawerModel.feed(IIIII)I -/
def cd178 : List pI := [(0, .aload_n 0, 0, 0, 0, 0), (1, .iconst 0, 0, 0, 0, 0), (2, .putfield 116, 0, 12, 0, 181), (5, .aload_n 0, 0, 0, 0, 0), (6, .getfield 145, 12, 12, 0, 184), (9, .sipush 380, 0, 0, 380, 0), (12, .if_icmp .le 5, 17, 0, 0, 0), (15, .iconst (-1), 0, 0, (-1), 0), (16, .ireturn, 0, 0, 0, 0), (17, .aload_n 0, 0, 0, 0, 0), (18, .iload_n 1, 1, 0, 0, 0), (19, .invokevirtual 148, 177, 0, 0, 174), (22, .aload_n 0, 0, 0, 0, 0), (23, .iload_n 2, 2, 0, 0, 0), (24, .invokevirtual 148, 177, 0, 0, 174), (27, .aload_n 0, 0, 0, 0, 0), (28, .iload_n 3, 3, 0, 0, 0), (29, .invokevirtual 148, 177, 0, 0, 174), (32, .aload_n 0, 0, 0, 0, 0), (33, .iload 4, 4, 0, 0, 0), (35, .invokevirtual 148, 177, 0, 0, 174), (38, .aload_n 0, 0, 0, 0, 0), (39, .iload 5, 5, 0, 0, 0), (41, .invokevirtual 148, 177, 0, 0, 174), (44, .aload_n 0, 0, 0, 0, 0), (45, .getfield 145, 12, 12, 0, 184), (48, .ireturn, 0, 0, 0, 0)]
/-- CardDrawerModel.end(I)Z -/
def cd179 : List pI := [(0, .aload_n 0, 0, 0, 0, 0), (1, .iconst 0, 0, 0, 0, 0), (2, .putfield 116, 0, 12, 0, 181), (5, .aload_n 0, 0, 0, 0, 0), (6, .iload_n 1, 1, 0, 0, 0), (7, .iconst 0, 0, 0, 0, 0), (8, .aload_n 0, 0, 0, 0, 0), (9, .getfield 145, 12, 12, 0, 184), (12, .invokevirtual 138, 158, 1, 0, 172), (15, .ifCond .ne 5, 20, 0, 0, 0), (18, .iconst 0, 0, 0, 0, 0), (19, .ireturn, 1, 0, 0, 0), (20, .aload_n 0, 0, 0, 0, 0), (21, .iload_n 1, 1, 0, 0, 0), (22, .putfield 145, 12, 12, 0, 184), (25, .iconst 1, 0, 0, 1, 0), (26, .ireturn, 1, 0, 0, 0)]
/-- CardDrawerModel.raw(I)I -/
def cd180 : List pI := [(0, .iload_n 1, 1, 0, 0, 0), (1, .aload_n 0, 0, 0, 0, 0), (2, .getfield 145, 12, 12, 0, 184), (5, .if_icmp .ge 12, 17, 0, 0, 0), (8, .aload_n 0, 0, 0, 0, 0), (9, .getfield 31, 11, 12, 0, 152), (12, .iload_n 1, 1, 0, 0, 0), (13, .iaload, 0, 0, 0, 0), (14, .goto 4, 18, 0, 0, 0), (17, .iconst (-1), 0, 0, (-1), 0), (18, .ireturn, 0, 0, 0, 0)]
/-- CardDrawerModel.isLetter(I)Z -/
def cd181 : List pI := [(0, .aload_n 0, 0, 0, 0, 0), (1, .iload_n 1, 1, 0, 0, 0), (2, .bipush 97, 0, 0, 97, 0), (4, .bipush 122, 0, 0, 122, 0), (6, .invokevirtual 138, 158, 1, 0, 172), (9, .ifCond .ne 15, 24, 0, 0, 0), (12, .aload_n 0, 0, 0, 0, 0), (13, .iload_n 1, 1, 0, 0, 0), (14, .bipush 65, 0, 0, 65, 0), (16, .bipush 90, 0, 0, 90, 0), (18, .invokevirtual 138, 158, 1, 0, 172), (21, .ifCond .eq 7, 28, 0, 0, 0), (24, .iconst 1, 0, 0, 1, 0), (25, .goto 4, 29, 0, 0, 0), (28, .iconst 0, 0, 0, 0, 0), (29, .ireturn, 1, 0, 0, 0)]
/-- CardDrawerModel.isDigit(I)Z -/
def cd182 : List pI := [(0, .aload_n 0, 0, 0, 0, 0), (1, .iload_n 1, 1, 0, 0, 0), (2, .bipush 48, 0, 0, 48, 0), (4, .bipush 57, 0, 0, 57, 0), (6, .invokevirtual 138, 158, 1, 0, 172), (9, .ireturn, 1, 0, 0, 0)]
/-- CardDrawerModel.isMarkSign(I)Z -/
def cd183 : List pI := [(0, .iload_n 1, 1, 0, 0, 0), (1, .bipush 59, 0, 0, 59, 0), (3, .if_icmp .eq 57, 60, 0, 0, 0), (6, .iload_n 1, 1, 0, 0, 0), (7, .bipush 43, 0, 0, 43, 0), (9, .if_icmp .eq 51, 60, 0, 0, 0), (12, .iload_n 1, 1, 0, 0, 0), (13, .bipush 45, 0, 0, 45, 0), (15, .if_icmp .eq 45, 60, 0, 0, 0), (18, .iload_n 1, 1, 0, 0, 0), (19, .bipush 42, 0, 0, 42, 0), (21, .if_icmp .eq 39, 60, 0, 0, 0), (24, .iload_n 1, 1, 0, 0, 0), (25, .bipush 47, 0, 0, 47, 0), (27, .if_icmp .eq 33, 60, 0, 0, 0), (30, .iload_n 1, 1, 0, 0, 0), (31, .bipush 40, 0, 0, 40, 0), (33, .if_icmp .eq 27, 60, 0, 0, 0), (36, .iload_n 1, 1, 0, 0, 0), (37, .bipush 41, 0, 0, 41, 0), (39, .if_icmp .eq 21, 60, 0, 0, 0), (42, .iload_n 1, 1, 0, 0, 0), (43, .bipush 60, 0, 0, 60, 0), (45, .if_icmp .eq 15, 60, 0, 0, 0), (48, .iload_n 1, 1, 0, 0, 0), (49, .bipush 61, 0, 0, 61, 0), (51, .if_icmp .eq 9, 60, 0, 0, 0), (54, .iload_n 1, 1, 0, 0, 0), (55, .bipush 62, 0, 0, 62, 0), (57, .if_icmp .ne 7, 64, 0, 0, 0), (60, .iconst 1, 0, 0, 1, 0), (61, .goto 4, 65, 0, 0, 0), (64, .iconst 0, 0, 0, 0, 0), (65, .ireturn, 1, 0, 0, 0)]
/-- CardDrawerModel.wordAt(II)I -/
def cd184 : List pI := [(0, .iconst (-1), 0, 0, (-1), 0), (1, .istore_n 3, 3, 0, 0, 0), (2, .iconst 0, 0, 0, 0, 0), (3, .istore 4, 4, 0, 0, 0), (5, .nop, 5, 0, 0, 0), (5, .iload 4, 4, 0, 0, 0), (7, .bipush 114, 0, 0, 114, 0), (9, .if_icmp .ge 108, 117, 0, 0, 0), (12, .iconst 0, 0, 0, 0, 0), (13, .istore 5, 5, 0, 0, 0), (15, .iload_n 3, 3, 0, 0, 0), (16, .iconst 1, 0, 0, 1, 0), (17, .iadd, 0, 0, 0, 0), (18, .istore_n 3, 3, 0, 0, 0), (19, .iload_n 1, 1, 0, 0, 0), (20, .iload 5, 5, 0, 0, 0), (22, .iadd, 0, 0, 0, 0), (23, .iload_n 2, 2, 0, 0, 0), (24, .if_icmp .ge 36, 60, 0, 0, 0), (27, .aload_n 0, 0, 0, 0, 0), (28, .getfield 34, 17, 12, 0, 153), (31, .iload 4, 4, 0, 0, 0), (33, .iconst 1, 0, 0, 1, 0), (34, .iadd, 0, 0, 0, 0), (35, .iload 5, 5, 0, 0, 0), (37, .iadd, 0, 0, 0, 0), (38, .iaload, 0, 0, 0, 0), (39, .aload_n 0, 0, 0, 0, 0), (40, .getfield 31, 11, 12, 0, 152), (43, .iload_n 1, 1, 0, 0, 0), (44, .iload 5, 5, 0, 0, 0), (46, .iadd, 0, 0, 0, 0), (47, .iaload, 0, 0, 0, 0), (48, .if_icmp .ne 12, 60, 0, 0, 0), (51, .iload 5, 5, 0, 0, 0), (53, .iconst 1, 0, 0, 1, 0), (54, .iadd, 0, 0, 0, 0), (55, .istore 5, 5, 0, 0, 0), (57, .goto (-38), 19, 0, 0, 0), (60, .iload_n 1, 1, 0, 0, 0), (61, .iload 5, 5, 0, 0, 0), (63, .iadd, 0, 0, 0, 0), (64, .iload_n 2, 2, 0, 0, 0), (65, .if_icmp .ne 22, 87, 0, 0, 0), (68, .aload_n 0, 0, 0, 0, 0), (69, .getfield 34, 17, 12, 0, 153), (72, .iload 4, 4, 0, 0, 0), (74, .iconst 1, 0, 0, 1, 0), (75, .iadd, 0, 0, 0, 0), (76, .iload 5, 5, 0, 0, 0), (78, .iadd, 0, 0, 0, 0), (79, .iaload, 0, 0, 0, 0), (80, .bipush 32, 0, 0, 32, 0), (82, .if_icmp .ne 5, 87, 0, 0, 0), (85, .iload_n 3, 3, 0, 0, 0), (86, .ireturn, 0, 0, 0, 0), (87, .iload 4, 4, 0, 0, 0), (89, .iconst 1, 0, 0, 1, 0), (90, .iadd, 0, 0, 0, 0), (91, .istore 4, 4, 0, 0, 0), (93, .nop, 5, 0, 0, 0), (93, .aload_n 0, 0, 0, 0, 0), (94, .getfield 34, 17, 12, 0, 153), (97, .iload 4, 4, 0, 0, 0), (99, .iaload, 0, 0, 0, 0), (100, .bipush 32, 0, 0, 32, 0), (102, .if_icmp .eq 12, 114, 0, 0, 0), (105, .iload 4, 4, 0, 0, 0), (107, .iconst 1, 0, 0, 1, 0), (108, .iadd, 0, 0, 0, 0), (109, .istore 4, 4, 0, 0, 0), (111, .goto (-18), 93, 0, 0, 0), (114, .goto (-109), 5, 0, 0, 0), (117, .iconst (-1), 0, 0, (-1), 0), (118, .ireturn, 0, 0, 0, 0)]
/-- CardDrawerModel.reads()V -/
def cd185 : List pI := [(0, .nop, 1, 0, 0, 0), (0, .aload_n 0, 0, 0, 0, 0), (1, .aload_n 0, 0, 0, 0, 0), (2, .getfield 152, 13, 12, 0, 185), (5, .invokevirtual 155, 180, 1, 0, 175), (8, .bipush 32, 0, 0, 32, 0), (10, .if_icmp .eq 16, 26, 0, 0, 0), (13, .aload_n 0, 0, 0, 0, 0), (14, .aload_n 0, 0, 0, 0, 0), (15, .getfield 152, 13, 12, 0, 185), (18, .invokevirtual 155, 180, 1, 0, 175), (21, .bipush 10, 0, 0, 10, 0), (23, .if_icmp .ne 16, 39, 0, 0, 0), (26, .nop, 1, 0, 0, 0), (26, .aload_n 0, 0, 0, 0, 0), (27, .aload_n 0, 0, 0, 0, 0), (28, .getfield 152, 13, 12, 0, 185), (31, .iconst 1, 0, 0, 1, 0), (32, .iadd, 0, 0, 0, 0), (33, .putfield 152, 13, 12, 0, 185), (36, .goto (-36), 0, 0, 0, 0), (39, .aload_n 0, 0, 0, 0, 0), (40, .aload_n 0, 0, 0, 0, 0), (41, .getfield 152, 13, 12, 0, 185), (44, .putfield 159, 14, 12, 0, 186), (47, .aload_n 0, 0, 0, 0, 0), (48, .iconst 1, 0, 0, 1, 0), (49, .putfield 162, 15, 12, 0, 187), (52, .aload_n 0, 0, 0, 0, 0), (53, .aload_n 0, 0, 0, 0, 0), (54, .getfield 152, 13, 12, 0, 185), (57, .invokevirtual 155, 180, 1, 0, 175), (60, .istore_n 1, 1, 0, 0, 0), (61, .iload_n 1, 1, 0, 0, 0), (62, .iconst (-1), 0, 0, (-1), 0), (63, .if_icmp .ne 9, 72, 0, 0, 0), (66, .aload_n 0, 0, 0, 0, 0), (67, .iconst 0, 0, 0, 0, 0), (68, .putfield 162, 15, 12, 0, 187), (71, .return_, 0, 0, 0, 0), (72, .aload_n 0, 0, 0, 0, 0), (73, .aload_n 0, 0, 0, 0, 0), (74, .getfield 152, 13, 12, 0, 185), (77, .iconst 1, 0, 0, 1, 0), (78, .iadd, 0, 0, 0, 0), (79, .putfield 152, 13, 12, 0, 185), (82, .aload_n 0, 0, 0, 0, 0), (83, .iload_n 1, 1, 0, 0, 0), (84, .putfield 165, 16, 12, 0, 188), (87, .aload_n 0, 0, 0, 0, 0), (88, .iload_n 1, 1, 0, 0, 0), (89, .invokevirtual 168, 181, 1, 0, 176), (92, .ifCond .eq 63, 155, 0, 0, 0), (95, .nop, 1, 0, 0, 0), (95, .aload_n 0, 0, 0, 0, 0), (96, .aload_n 0, 0, 0, 0, 0), (97, .aload_n 0, 0, 0, 0, 0), (98, .getfield 152, 13, 12, 0, 185), (101, .invokevirtual 155, 180, 1, 0, 175), (104, .invokevirtual 168, 181, 1, 0, 176), (107, .ifCond .eq 16, 123, 0, 0, 0), (110, .aload_n 0, 0, 0, 0, 0), (111, .aload_n 0, 0, 0, 0, 0), (112, .getfield 152, 13, 12, 0, 185), (115, .iconst 1, 0, 0, 1, 0), (116, .iadd, 0, 0, 0, 0), (117, .putfield 152, 13, 12, 0, 185), (120, .goto (-25), 95, 0, 0, 0), (123, .aload_n 0, 0, 0, 0, 0), (124, .aload_n 0, 0, 0, 0, 0), (125, .aload_n 0, 0, 0, 0, 0), (126, .getfield 159, 14, 12, 0, 186), (129, .aload_n 0, 0, 0, 0, 0), (130, .getfield 152, 13, 12, 0, 185), (133, .invokevirtual 171, 184, 1, 0, 177), (136, .putfield 165, 16, 12, 0, 188), (139, .aload_n 0, 0, 0, 0, 0), (140, .getfield 165, 16, 12, 0, 188), (143, .iconst (-1), 0, 0, (-1), 0), (144, .if_icmp .eq 129, 273, 0, 0, 0), (147, .aload_n 0, 0, 0, 0, 0), (148, .iconst 2, 0, 0, 2, 0), (149, .putfield 162, 15, 12, 0, 187), (152, .goto 121, 273, 0, 0, 0), (155, .aload_n 0, 0, 0, 0, 0), (156, .iload_n 1, 1, 0, 0, 0), (157, .invokevirtual 175, 182, 1, 0, 178), (160, .ifCond .eq 100, 260, 0, 0, 0), (163, .aload_n 0, 0, 0, 0, 0), (164, .iload_n 1, 1, 0, 0, 0), (165, .bipush 48, 0, 0, 48, 0), (167, .isub, 0, 0, 0, 0), (168, .putfield 165, 16, 12, 0, 188), (171, .nop, 1, 0, 0, 0), (171, .aload_n 0, 0, 0, 0, 0), (172, .aload_n 0, 0, 0, 0, 0), (173, .aload_n 0, 0, 0, 0, 0), (174, .getfield 152, 13, 12, 0, 185), (177, .invokevirtual 155, 180, 1, 0, 175), (180, .invokevirtual 175, 182, 1, 0, 178), (183, .ifCond .eq 56, 239, 0, 0, 0), (186, .aload_n 0, 0, 0, 0, 0), (187, .aload_n 0, 0, 0, 0, 0), (188, .getfield 165, 16, 12, 0, 188), (191, .sipush 10000, 0, 0, 10000, 0), (194, .if_icmp .ge 25, 219, 0, 0, 0), (197, .bipush 10, 0, 0, 10, 0), (199, .aload_n 0, 0, 0, 0, 0), (200, .getfield 165, 16, 12, 0, 188), (203, .imul, 0, 0, 0, 0), (204, .aload_n 0, 0, 0, 0, 0), (205, .aload_n 0, 0, 0, 0, 0), (206, .getfield 152, 13, 12, 0, 185), (209, .invokevirtual 155, 180, 1, 0, 175), (212, .iadd, 0, 0, 0, 0), (213, .bipush 48, 0, 0, 48, 0), (215, .isub, 0, 0, 0, 0), (216, .goto 7, 223, 0, 0, 0), (219, .aload_n 0, 0, 0, 0, 0), (220, .getfield 165, 16, 12, 0, 188), (223, .nop, 1, 0, 0, 0), (223, .putfield 165, 16, 12, 0, 188), (226, .aload_n 0, 0, 0, 0, 0), (227, .aload_n 0, 0, 0, 0, 0), (228, .getfield 152, 13, 12, 0, 185), (231, .iconst 1, 0, 0, 1, 0), (232, .iadd, 0, 0, 0, 0), (233, .putfield 152, 13, 12, 0, 185), (236, .goto (-65), 171, 0, 0, 0), (239, .aload_n 0, 0, 0, 0, 0), (240, .getfield 152, 13, 12, 0, 185), (243, .aload_n 0, 0, 0, 0, 0), (244, .getfield 159, 14, 12, 0, 186), (247, .isub, 0, 0, 0, 0), (248, .iconst 5, 0, 0, 5, 0), (249, .if_icmp .ge 24, 273, 0, 0, 0), (252, .aload_n 0, 0, 0, 0, 0), (253, .iconst 3, 0, 0, 3, 0), (254, .putfield 162, 15, 12, 0, 187), (257, .goto 16, 273, 0, 0, 0), (260, .aload_n 0, 0, 0, 0, 0), (261, .iload_n 1, 1, 0, 0, 0), (262, .invokevirtual 178, 183, 1, 0, 179), (265, .ifCond .eq 8, 273, 0, 0, 0), (268, .aload_n 0, 0, 0, 0, 0), (269, .iconst 4, 0, 0, 4, 0), (270, .putfield 162, 15, 12, 0, 187), (273, .return_, 0, 0, 0, 0)]
/-- CardDrawerModel.errs(I)I -/
def cd186 : List pI := [(0, .aload_n 0, 0, 0, 0, 0), (1, .iload_n 1, 1, 0, 0, 0), (2, .putfield 181, 30, 12, 0, 189), (5, .aload_n 0, 0, 0, 0, 0), (6, .aload_n 0, 0, 0, 0, 0), (7, .getfield 159, 14, 12, 0, 186), (10, .putfield 184, 31, 12, 0, 190), (13, .iconst (-1), 0, 0, (-1), 0), (14, .ireturn, 0, 0, 0, 0)]
/-- CardDrawerModel.isWord(I)Z -/
def cd187 : List pI := [(0, .aload_n 0, 0, 0, 0, 0), (1, .getfield 162, 15, 12, 0, 187), (4, .iconst 2, 0, 0, 2, 0), (5, .if_icmp .ne 15, 20, 0, 0, 0), (8, .aload_n 0, 0, 0, 0, 0), (9, .getfield 165, 16, 12, 0, 188), (12, .iload_n 1, 1, 0, 0, 0), (13, .if_icmp .ne 7, 20, 0, 0, 0), (16, .iconst 1, 0, 0, 1, 0), (17, .goto 4, 21, 0, 0, 0), (20, .iconst 0, 0, 0, 0, 0), (21, .ireturn, 1, 0, 0, 0)]
/-- CardDrawerModel.isSign(I)Z -/
def cd188 : List pI := [(0, .aload_n 0, 0, 0, 0, 0), (1, .getfield 162, 15, 12, 0, 187), (4, .iconst 4, 0, 0, 4, 0), (5, .if_icmp .ne 15, 20, 0, 0, 0), (8, .aload_n 0, 0, 0, 0, 0), (9, .getfield 165, 16, 12, 0, 188), (12, .iload_n 1, 1, 0, 0, 0), (13, .if_icmp .ne 7, 20, 0, 0, 0), (16, .iconst 1, 0, 0, 1, 0), (17, .goto 4, 21, 0, 0, 0), (20, .iconst 0, 0, 0, 0, 0), (21, .ireturn, 1, 0, 0, 0)]
/-- CardDrawerModel.emits(II)V -/
def cd189 : List pI := [(0, .aload_n 0, 0, 0, 0, 0), (1, .getfield 52, 23, 12, 0, 159), (4, .sipush 800, 0, 0, 800, 0), (7, .aload_n 0, 0, 0, 0, 0), (8, .getfield 187, 26, 12, 0, 191), (11, .iadd, 0, 0, 0, 0), (12, .iload_n 1, 1, 0, 0, 0), (13, .iastore, 0, 0, 0, 0), (14, .aload_n 0, 0, 0, 0, 0), (15, .getfield 55, 24, 12, 0, 160), (18, .sipush 800, 0, 0, 800, 0), (21, .aload_n 0, 0, 0, 0, 0), (22, .getfield 187, 26, 12, 0, 191), (25, .iadd, 0, 0, 0, 0), (26, .iload_n 2, 2, 0, 0, 0), (27, .iastore, 0, 0, 0, 0), (28, .aload_n 0, 0, 0, 0, 0), (29, .aload_n 0, 0, 0, 0, 0), (30, .getfield 187, 26, 12, 0, 191), (33, .iconst 1, 0, 0, 1, 0), (34, .iadd, 0, 0, 0, 0), (35, .putfield 187, 26, 12, 0, 191), (38, .return_, 0, 0, 0, 0)]
/-- CardDrawerModel.canAsk(I)Z -/
def cd190 : List pI := [(0, .aload_n 0, 0, 0, 0, 0), (1, .iload_n 1, 1, 0, 0, 0), (2, .bipush 7, 0, 0, 7, 0), (4, .bipush 15, 0, 0, 15, 0), (6, .invokevirtual 138, 158, 1, 0, 172), (9, .ireturn, 1, 0, 0, 0)]
/-- CardDrawerModel.readUnit()I -/
def cd191 : List pI := [(0, .aload_n 0, 0, 0, 0, 0), (1, .getfield 162, 15, 12, 0, 187), (4, .iconst 2, 0, 0, 2, 0), (5, .if_icmp .ne 18, 23, 0, 0, 0), (8, .aload_n 0, 0, 0, 0, 0), (9, .aload_n 0, 0, 0, 0, 0), (10, .getfield 165, 16, 12, 0, 188), (13, .invokevirtual 190, 190, 1, 0, 180), (16, .ifCond .eq 7, 23, 0, 0, 0), (19, .iconst 1, 0, 0, 1, 0), (20, .goto 4, 24, 0, 0, 0), (23, .iconst 0, 0, 0, 0, 0), (24, .nop, 1, 0, 0, 0), (24, .istore_n 1, 1, 0, 0, 0), (25, .iload_n 1, 1, 0, 0, 0), (26, .ifCond .ne 17, 43, 0, 0, 0), (29, .aload_n 0, 0, 0, 0, 0), (30, .getfield 162, 15, 12, 0, 187), (33, .iconst 3, 0, 0, 3, 0), (34, .if_icmp .eq 9, 43, 0, 0, 0), (37, .aload_n 0, 0, 0, 0, 0), (38, .iconst 1, 0, 0, 1, 0), (39, .invokevirtual 193, 186, 1, 0, 181), (42, .ireturn, 0, 0, 0, 0), (43, .aload_n 0, 0, 0, 0, 0), (44, .iload_n 1, 1, 0, 0, 0), (45, .ifCond .eq 7, 52, 0, 0, 0), (48, .iconst 1, 0, 0, 1, 0), (49, .goto 4, 53, 0, 0, 0), (52, .iconst 0, 0, 0, 0, 0), (53, .iload_n 1, 1, 0, 0, 0), (54, .ifCond .eq 13, 67, 0, 0, 0), (57, .aload_n 0, 0, 0, 0, 0), (58, .getfield 165, 16, 12, 0, 188), (61, .bipush 7, 0, 0, 7, 0), (63, .isub, 0, 0, 0, 0), (64, .goto 7, 71, 0, 0, 0), (67, .aload_n 0, 0, 0, 0, 0), (68, .getfield 165, 16, 12, 0, 188), (71, .nop, 1, 0, 0, 0), (71, .invokevirtual 196, 189, 0, 0, 182), (74, .aload_n 0, 0, 0, 0, 0), (75, .invokevirtual 200, 185, 0, 0, 183), (78, .iconst 0, 0, 0, 0, 0), (79, .ireturn, 0, 0, 0, 0)]
/-- CardDrawerModel.readProduct()I -/
def cd192 : List pI := [(0, .aload_n 0, 0, 0, 0, 0), (1, .invokevirtual 203, 191, 1, 0, 184), (4, .iconst (-1), 0, 0, (-1), 0), (5, .if_icmp .ne 5, 10, 0, 0, 0), (8, .iconst (-1), 0, 0, (-1), 0), (9, .ireturn, 0, 0, 0, 0), (10, .nop, 1, 0, 0, 0), (10, .aload_n 0, 0, 0, 0, 0), (11, .bipush 42, 0, 0, 42, 0), (13, .invokevirtual 207, 188, 1, 0, 185), (16, .ifCond .ne 12, 28, 0, 0, 0), (19, .aload_n 0, 0, 0, 0, 0), (20, .bipush 47, 0, 0, 47, 0), (22, .invokevirtual 207, 188, 1, 0, 185), (25, .ifCond .eq 76, 101, 0, 0, 0), (28, .nop, 1, 0, 0, 0), (28, .aload_n 0, 0, 0, 0, 0), (29, .bipush 42, 0, 0, 42, 0), (31, .invokevirtual 207, 188, 1, 0, 185), (34, .istore_n 1, 1, 0, 0, 0), (35, .aload_n 0, 0, 0, 0, 0), (36, .invokevirtual 200, 185, 0, 0, 183), (39, .iload_n 1, 1, 0, 0, 0), (40, .ifCond .ne 17, 57, 0, 0, 0), (43, .aload_n 0, 0, 0, 0, 0), (44, .getfield 162, 15, 12, 0, 187), (47, .iconst 3, 0, 0, 3, 0), (48, .if_icmp .eq 9, 57, 0, 0, 0), (51, .aload_n 0, 0, 0, 0, 0), (52, .iconst 1, 0, 0, 1, 0), (53, .invokevirtual 193, 186, 1, 0, 181), (56, .ireturn, 0, 0, 0, 0), (57, .iload_n 1, 1, 0, 0, 0), (58, .ifCond .ne 16, 74, 0, 0, 0), (61, .aload_n 0, 0, 0, 0, 0), (62, .getfield 165, 16, 12, 0, 188), (65, .ifCond .ne 9, 74, 0, 0, 0), (68, .aload_n 0, 0, 0, 0, 0), (69, .iconst 2, 0, 0, 2, 0), (70, .invokevirtual 193, 186, 1, 0, 181), (73, .ireturn, 0, 0, 0, 0), (74, .aload_n 0, 0, 0, 0, 0), (75, .invokevirtual 203, 191, 1, 0, 184), (78, .iconst (-1), 0, 0, (-1), 0), (79, .if_icmp .ne 5, 84, 0, 0, 0), (82, .iconst (-1), 0, 0, (-1), 0), (83, .ireturn, 0, 0, 0, 0), (84, .aload_n 0, 0, 0, 0, 0), (85, .iload_n 1, 1, 0, 0, 0), (86, .ifCond .eq 7, 93, 0, 0, 0), (89, .iconst 4, 0, 0, 4, 0), (90, .goto 4, 94, 0, 0, 0), (93, .iconst 5, 0, 0, 5, 0), (94, .iconst 0, 0, 0, 0, 0), (95, .invokevirtual 196, 189, 0, 0, 182), (98, .goto (-88), 10, 0, 0, 0), (101, .iconst 0, 0, 0, 0, 0), (102, .ireturn, 0, 0, 0, 0)]
/-- CardDrawerModel.readSum()I -/
def cd193 : List pI := [(0, .aload_n 0, 0, 0, 0, 0), (1, .invokevirtual 210, 192, 1, 0, 186), (4, .iconst (-1), 0, 0, (-1), 0), (5, .if_icmp .ne 5, 10, 0, 0, 0), (8, .iconst (-1), 0, 0, (-1), 0), (9, .ireturn, 0, 0, 0, 0), (10, .nop, 1, 0, 0, 0), (10, .aload_n 0, 0, 0, 0, 0), (11, .bipush 43, 0, 0, 43, 0), (13, .invokevirtual 207, 188, 1, 0, 185), (16, .ifCond .ne 12, 28, 0, 0, 0), (19, .aload_n 0, 0, 0, 0, 0), (20, .bipush 45, 0, 0, 45, 0), (22, .invokevirtual 207, 188, 1, 0, 185), (25, .ifCond .eq 41, 66, 0, 0, 0), (28, .nop, 1, 0, 0, 0), (28, .aload_n 0, 0, 0, 0, 0), (29, .getfield 165, 16, 12, 0, 188), (32, .bipush 43, 0, 0, 43, 0), (34, .if_icmp .ne 7, 41, 0, 0, 0), (37, .iconst 2, 0, 0, 2, 0), (38, .goto 4, 42, 0, 0, 0), (41, .iconst 3, 0, 0, 3, 0), (42, .nop, 1, 0, 0, 0), (42, .istore_n 1, 1, 0, 0, 0), (43, .aload_n 0, 0, 0, 0, 0), (44, .invokevirtual 200, 185, 0, 0, 183), (47, .aload_n 0, 0, 0, 0, 0), (48, .invokevirtual 210, 192, 1, 0, 186), (51, .iconst (-1), 0, 0, (-1), 0), (52, .if_icmp .ne 5, 57, 0, 0, 0), (55, .iconst (-1), 0, 0, (-1), 0), (56, .ireturn, 0, 0, 0, 0), (57, .aload_n 0, 0, 0, 0, 0), (58, .iload_n 1, 1, 0, 0, 0), (59, .iconst 0, 0, 0, 0, 0), (60, .invokevirtual 196, 189, 0, 0, 182), (63, .goto (-53), 10, 0, 0, 0), (66, .iconst 0, 0, 0, 0, 0), (67, .ireturn, 0, 0, 0, 0)]
/-- CardDrawerModel.readCompared()I -/
def cd194 : List pI := [(0, .aload_n 0, 0, 0, 0, 0), (1, .invokevirtual 213, 193, 1, 0, 187), (4, .iconst (-1), 0, 0, (-1), 0), (5, .if_icmp .ne 5, 10, 0, 0, 0), (8, .iconst (-1), 0, 0, (-1), 0), (9, .ireturn, 0, 0, 0, 0), (10, .aload_n 0, 0, 0, 0, 0), (11, .bipush 60, 0, 0, 60, 0), (13, .invokevirtual 207, 188, 1, 0, 185), (16, .ifCond .ne 27, 43, 0, 0, 0), (19, .aload_n 0, 0, 0, 0, 0), (20, .bipush 61, 0, 0, 61, 0), (22, .invokevirtual 207, 188, 1, 0, 185), (25, .ifCond .ne 18, 43, 0, 0, 0), (28, .aload_n 0, 0, 0, 0, 0), (29, .bipush 62, 0, 0, 62, 0), (31, .invokevirtual 207, 188, 1, 0, 185), (34, .ifCond .ne 9, 43, 0, 0, 0), (37, .aload_n 0, 0, 0, 0, 0), (38, .iconst 1, 0, 0, 1, 0), (39, .invokevirtual 193, 186, 1, 0, 181), (42, .ireturn, 0, 0, 0, 0), (43, .nop, 1, 0, 0, 0), (43, .aload_n 0, 0, 0, 0, 0), (44, .getfield 165, 16, 12, 0, 188), (47, .bipush 60, 0, 0, 60, 0), (49, .if_icmp .ne 8, 57, 0, 0, 0), (52, .bipush 6, 0, 0, 6, 0), (54, .goto 19, 73, 0, 0, 0), (57, .aload_n 0, 0, 0, 0, 0), (58, .getfield 165, 16, 12, 0, 188), (61, .bipush 61, 0, 0, 61, 0), (63, .if_icmp .ne 8, 71, 0, 0, 0), (66, .bipush 7, 0, 0, 7, 0), (68, .goto 5, 73, 0, 0, 0), (71, .bipush 8, 0, 0, 8, 0), (73, .nop, 1, 0, 0, 0), (73, .istore_n 1, 1, 0, 0, 0), (74, .aload_n 0, 0, 0, 0, 0), (75, .invokevirtual 200, 185, 0, 0, 183), (78, .aload_n 0, 0, 0, 0, 0), (79, .invokevirtual 213, 193, 1, 0, 187), (82, .iconst (-1), 0, 0, (-1), 0), (83, .if_icmp .ne 5, 88, 0, 0, 0), (86, .iconst (-1), 0, 0, (-1), 0), (87, .ireturn, 0, 0, 0, 0), (88, .aload_n 0, 0, 0, 0, 0), (89, .iload_n 1, 1, 0, 0, 0), (90, .iconst 0, 0, 0, 0, 0), (91, .invokevirtual 196, 189, 0, 0, 182), (94, .iconst 0, 0, 0, 0, 0), (95, .ireturn, 0, 0, 0, 0)]
/-- CardDrawerModel.waits(I)V -/
def cd195 : List pI := [(0, .aload_n 0, 0, 0, 0, 0), (1, .getfield 58, 28, 12, 0, 161), (4, .aload_n 0, 0, 0, 0, 0), (5, .getfield 216, 29, 12, 0, 192), (8, .iload_n 1, 1, 0, 0, 0), (9, .iastore, 0, 0, 0, 0), (10, .aload_n 0, 0, 0, 0, 0), (11, .aload_n 0, 0, 0, 0, 0), (12, .getfield 216, 29, 12, 0, 192), (15, .iconst 1, 0, 0, 1, 0), (16, .iadd, 0, 0, 0, 0), (17, .putfield 216, 29, 12, 0, 192), (20, .return_, 0, 0, 0, 0)]
/-- CardDrawerModel.settles(I)V -/
def cd196 : List pI := [(0, .aload_n 0, 0, 0, 0, 0), (1, .getfield 216, 29, 12, 0, 192), (4, .ifCond .le 53, 57, 0, 0, 0), (7, .aload_n 0, 0, 0, 0, 0), (8, .getfield 58, 28, 12, 0, 161), (11, .aload_n 0, 0, 0, 0, 0), (12, .getfield 216, 29, 12, 0, 192), (15, .iconst 1, 0, 0, 1, 0), (16, .isub, 0, 0, 0, 0), (17, .iaload, 0, 0, 0, 0), (18, .iload_n 1, 1, 0, 0, 0), (19, .if_icmp .ne 38, 57, 0, 0, 0), (22, .aload_n 0, 0, 0, 0, 0), (23, .aload_n 0, 0, 0, 0, 0), (24, .getfield 216, 29, 12, 0, 192), (27, .iconst 1, 0, 0, 1, 0), (28, .isub, 0, 0, 0, 0), (29, .putfield 216, 29, 12, 0, 192), (32, .aload_n 0, 0, 0, 0, 0), (33, .iload_n 1, 1, 0, 0, 0), (34, .iconst 0, 0, 0, 0, 0), (35, .invokevirtual 196, 189, 0, 0, 182), (38, .iload_n 1, 1, 0, 0, 0), (39, .bipush 9, 0, 0, 9, 0), (41, .if_icmp .ne (-41), 0, 0, 0, 0), (44, .aload_n 0, 0, 0, 0, 0), (45, .aload_n 0, 0, 0, 0, 0), (46, .getfield 219, 27, 12, 0, 193), (49, .iconst 1, 0, 0, 1, 0), (50, .isub, 0, 0, 0, 0), (51, .putfield 219, 27, 12, 0, 193), (54, .goto (-54), 0, 0, 0, 0), (57, .return_, 0, 0, 0, 0)]
/-- CardDrawerModel.readAny()I -/
def cd197 : List pI := [(0, .iconst 0, 0, 0, 0, 0), (1, .istore_n 1, 1, 0, 0, 0), (2, .aload_n 0, 0, 0, 0, 0), (3, .iconst 0, 0, 0, 0, 0), (4, .putfield 216, 29, 12, 0, 192), (7, .iconst 1, 0, 0, 1, 0), (8, .istore_n 2, 2, 0, 0, 0), (9, .nop, 3, 0, 0, 0), (9, .iload_n 2, 2, 0, 0, 0), (10, .ifCond .eq 99, 109, 0, 0, 0), (13, .aload_n 0, 0, 0, 0, 0), (14, .bipush 6, 0, 0, 6, 0), (16, .invokevirtual 222, 187, 1, 0, 188), (19, .istore_n 3, 3, 0, 0, 0), (20, .iload_n 3, 3, 0, 0, 0), (21, .ifCond .ne 12, 33, 0, 0, 0), (24, .aload_n 0, 0, 0, 0, 0), (25, .bipush 40, 0, 0, 40, 0), (27, .invokevirtual 207, 188, 1, 0, 185), (30, .ifCond .eq 58, 88, 0, 0, 0), (33, .aload_n 0, 0, 0, 0, 0), (34, .getfield 219, 27, 12, 0, 193), (37, .bipush 8, 0, 0, 8, 0), (39, .if_icmp .ne 9, 48, 0, 0, 0), (42, .aload_n 0, 0, 0, 0, 0), (43, .iconst 3, 0, 0, 3, 0), (44, .invokevirtual 193, 186, 1, 0, 181), (47, .ireturn, 0, 0, 0, 0), (48, .aload_n 0, 0, 0, 0, 0), (49, .aload_n 0, 0, 0, 0, 0), (50, .getfield 219, 27, 12, 0, 193), (53, .iconst 1, 0, 0, 1, 0), (54, .iadd, 0, 0, 0, 0), (55, .putfield 219, 27, 12, 0, 193), (58, .iload_n 3, 3, 0, 0, 0), (59, .ifCond .ne 7, 66, 0, 0, 0), (62, .iload_n 1, 1, 0, 0, 0), (63, .iconst 1, 0, 0, 1, 0), (64, .iadd, 0, 0, 0, 0), (65, .istore_n 1, 1, 0, 0, 0), (66, .aload_n 0, 0, 0, 0, 0), (67, .iload_n 3, 3, 0, 0, 0), (68, .ifCond .eq 8, 76, 0, 0, 0), (71, .bipush 9, 0, 0, 9, 0), (73, .goto 5, 78, 0, 0, 0), (76, .bipush 12, 0, 0, 12, 0), (78, .invokevirtual 225, 195, 0, 0, 189), (81, .aload_n 0, 0, 0, 0, 0), (82, .invokevirtual 200, 185, 0, 0, 183), (85, .goto (-76), 9, 0, 0, 0), (88, .aload_n 0, 0, 0, 0, 0), (89, .invokevirtual 228, 194, 1, 0, 190), (92, .iconst (-1), 0, 0, (-1), 0), (93, .if_icmp .ne 5, 98, 0, 0, 0), (96, .iconst (-1), 0, 0, (-1), 0), (97, .ireturn, 0, 0, 0, 0), (98, .aload_n 0, 0, 0, 0, 0), (99, .bipush 9, 0, 0, 9, 0), (101, .invokevirtual 231, 196, 0, 0, 191), (104, .iconst 0, 0, 0, 0, 0), (105, .istore_n 2, 2, 0, 0, 0), (106, .goto (-97), 9, 0, 0, 0), (109, .aload_n 0, 0, 0, 0, 0), (110, .iconst 5, 0, 0, 5, 0), (111, .invokevirtual 222, 187, 1, 0, 188), (114, .ifCond .eq 24, 138, 0, 0, 0), (117, .aload_n 0, 0, 0, 0, 0), (118, .bipush 10, 0, 0, 10, 0), (120, .invokevirtual 231, 196, 0, 0, 191), (123, .aload_n 0, 0, 0, 0, 0), (124, .bipush 10, 0, 0, 10, 0), (126, .invokevirtual 225, 195, 0, 0, 189), (129, .aload_n 0, 0, 0, 0, 0), (130, .invokevirtual 200, 185, 0, 0, 183), (133, .iconst 1, 0, 0, 1, 0), (134, .istore_n 2, 2, 0, 0, 0), (135, .goto (-126), 9, 0, 0, 0), (138, .aload_n 0, 0, 0, 0, 0), (139, .iconst 4, 0, 0, 4, 0), (140, .invokevirtual 222, 187, 1, 0, 188), (143, .ifCond .eq 30, 173, 0, 0, 0), (146, .aload_n 0, 0, 0, 0, 0), (147, .bipush 10, 0, 0, 10, 0), (149, .invokevirtual 231, 196, 0, 0, 191), (152, .aload_n 0, 0, 0, 0, 0), (153, .bipush 11, 0, 0, 11, 0), (155, .invokevirtual 231, 196, 0, 0, 191), (158, .aload_n 0, 0, 0, 0, 0), (159, .bipush 11, 0, 0, 11, 0), (161, .invokevirtual 225, 195, 0, 0, 189), (164, .aload_n 0, 0, 0, 0, 0), (165, .invokevirtual 200, 185, 0, 0, 183), (168, .iconst 1, 0, 0, 1, 0), (169, .istore_n 2, 2, 0, 0, 0), (170, .goto (-161), 9, 0, 0, 0), (173, .aload_n 0, 0, 0, 0, 0), (174, .bipush 10, 0, 0, 10, 0), (176, .invokevirtual 231, 196, 0, 0, 191), (179, .aload_n 0, 0, 0, 0, 0), (180, .bipush 11, 0, 0, 11, 0), (182, .invokevirtual 231, 196, 0, 0, 191), (185, .iload_n 1, 1, 0, 0, 0), (186, .ifCond .ne 5, 191, 0, 0, 0), (189, .iconst 0, 0, 0, 0, 0), (190, .ireturn, 0, 0, 0, 0), (191, .aload_n 0, 0, 0, 0, 0), (192, .bipush 41, 0, 0, 41, 0), (194, .invokevirtual 207, 188, 1, 0, 185), (197, .ifCond .ne 9, 206, 0, 0, 0), (200, .aload_n 0, 0, 0, 0, 0), (201, .iconst 1, 0, 0, 1, 0), (202, .invokevirtual 193, 186, 1, 0, 181), (205, .ireturn, 0, 0, 0, 0), (206, .aload_n 0, 0, 0, 0, 0), (207, .aload_n 0, 0, 0, 0, 0), (208, .getfield 216, 29, 12, 0, 192), (211, .iconst 1, 0, 0, 1, 0), (212, .isub, 0, 0, 0, 0), (213, .putfield 216, 29, 12, 0, 192), (216, .iload_n 1, 1, 0, 0, 0), (217, .iconst 1, 0, 0, 1, 0), (218, .isub, 0, 0, 0, 0), (219, .istore_n 1, 1, 0, 0, 0), (220, .aload_n 0, 0, 0, 0, 0), (221, .aload_n 0, 0, 0, 0, 0), (222, .getfield 219, 27, 12, 0, 193), (225, .iconst 1, 0, 0, 1, 0), (226, .isub, 0, 0, 0, 0), (227, .putfield 219, 27, 12, 0, 193), (230, .aload_n 0, 0, 0, 0, 0), (231, .bipush 9, 0, 0, 9, 0), (233, .invokevirtual 231, 196, 0, 0, 191), (236, .aload_n 0, 0, 0, 0, 0), (237, .invokevirtual 200, 185, 0, 0, 183), (240, .goto (-231), 9, 0, 0, 0)]
/-- CardDrawerModel.isLineWord()Z -/
def cd198 : List pI := [(0, .aload_n 0, 0, 0, 0, 0), (1, .getfield 162, 15, 12, 0, 187), (4, .iconst 2, 0, 0, 2, 0), (5, .if_icmp .ne 20, 25, 0, 0, 0), (8, .aload_n 0, 0, 0, 0, 0), (9, .aload_n 0, 0, 0, 0, 0), (10, .getfield 165, 16, 12, 0, 188), (13, .iconst 0, 0, 0, 0, 0), (14, .iconst 2, 0, 0, 2, 0), (15, .invokevirtual 138, 158, 1, 0, 172), (18, .ifCond .eq 7, 25, 0, 0, 0), (21, .iconst 1, 0, 0, 1, 0), (22, .goto 4, 26, 0, 0, 0), (25, .iconst 0, 0, 0, 0, 0), (26, .ireturn, 1, 0, 0, 0)]
/-- CardDrawerModel.readLaw()I -/
def cd199 : List pI := [(0, .iconst 0, 0, 0, 0, 0), (1, .istore_n 1, 1, 0, 0, 0), (2, .nop, 2, 0, 0, 0), (2, .aload_n 0, 0, 0, 0, 0), (3, .invokevirtual 234, 198, 1, 0, 192), (6, .ifCond .eq 122, 128, 0, 0, 0), (9, .iload_n 1, 1, 0, 0, 0), (10, .bipush 16, 0, 0, 16, 0), (12, .if_icmp .ne 9, 21, 0, 0, 0), (15, .aload_n 0, 0, 0, 0, 0), (16, .iconst 3, 0, 0, 3, 0), (17, .invokevirtual 193, 186, 1, 0, 181), (20, .ireturn, 0, 0, 0, 0), (21, .bipush 32, 0, 0, 32, 0), (23, .iload_n 1, 1, 0, 0, 0), (24, .iadd, 0, 0, 0, 0), (25, .istore_n 2, 2, 0, 0, 0), (26, .aload_n 0, 0, 0, 0, 0), (27, .getfield 40, 19, 12, 0, 155), (30, .iload_n 2, 2, 0, 0, 0), (31, .aload_n 0, 0, 0, 0, 0), (32, .getfield 165, 16, 12, 0, 188), (35, .iastore, 0, 0, 0, 0), (36, .aload_n 0, 0, 0, 0, 0), (37, .invokevirtual 200, 185, 0, 0, 183), (40, .aload_n 0, 0, 0, 0, 0), (41, .getfield 43, 20, 12, 0, 156), (44, .iload_n 2, 2, 0, 0, 0), (45, .aload_n 0, 0, 0, 0, 0), (46, .getfield 187, 26, 12, 0, 191), (49, .iastore, 0, 0, 0, 0), (50, .aload_n 0, 0, 0, 0, 0), (51, .invokevirtual 213, 193, 1, 0, 187), (54, .iconst (-1), 0, 0, (-1), 0), (55, .if_icmp .ne 5, 60, 0, 0, 0), (58, .iconst (-1), 0, 0, (-1), 0), (59, .ireturn, 0, 0, 0, 0), (60, .aload_n 0, 0, 0, 0, 0), (61, .getfield 46, 21, 12, 0, 157), (64, .iload_n 2, 2, 0, 0, 0), (65, .aload_n 0, 0, 0, 0, 0), (66, .getfield 187, 26, 12, 0, 191), (69, .iastore, 0, 0, 0, 0), (70, .aload_n 0, 0, 0, 0, 0), (71, .iconst 3, 0, 0, 3, 0), (72, .invokevirtual 222, 187, 1, 0, 188), (75, .ifCond .eq 17, 92, 0, 0, 0), (78, .aload_n 0, 0, 0, 0, 0), (79, .invokevirtual 200, 185, 0, 0, 183), (82, .aload_n 0, 0, 0, 0, 0), (83, .invokevirtual 238, 197, 1, 0, 193), (86, .iconst (-1), 0, 0, (-1), 0), (87, .if_icmp .ne 5, 92, 0, 0, 0), (90, .iconst (-1), 0, 0, (-1), 0), (91, .ireturn, 0, 0, 0, 0), (92, .aload_n 0, 0, 0, 0, 0), (93, .getfield 49, 22, 12, 0, 158), (96, .iload_n 2, 2, 0, 0, 0), (97, .aload_n 0, 0, 0, 0, 0), (98, .getfield 187, 26, 12, 0, 191), (101, .iastore, 0, 0, 0, 0), (102, .aload_n 0, 0, 0, 0, 0), (103, .bipush 59, 0, 0, 59, 0), (105, .invokevirtual 207, 188, 1, 0, 185), (108, .ifCond .ne 9, 117, 0, 0, 0), (111, .aload_n 0, 0, 0, 0, 0), (112, .iconst 1, 0, 0, 1, 0), (113, .invokevirtual 193, 186, 1, 0, 181), (116, .ireturn, 0, 0, 0, 0), (117, .aload_n 0, 0, 0, 0, 0), (118, .invokevirtual 200, 185, 0, 0, 183), (121, .iload_n 1, 1, 0, 0, 0), (122, .iconst 1, 0, 0, 1, 0), (123, .iadd, 0, 0, 0, 0), (124, .istore_n 1, 1, 0, 0, 0), (125, .goto (-123), 2, 0, 0, 0), (128, .aload_n 0, 0, 0, 0, 0), (129, .getfield 162, 15, 12, 0, 187), (132, .ifCond .ne 7, 139, 0, 0, 0), (135, .iload_n 1, 1, 0, 0, 0), (136, .goto 8, 144, 0, 0, 0), (139, .aload_n 0, 0, 0, 0, 0), (140, .iconst 1, 0, 0, 1, 0), (141, .invokevirtual 193, 186, 1, 0, 181), (144, .ireturn, 0, 0, 0, 0)]
/-- CardDrawerModel.takesLaw(I)V -/
def cd200 : List pI := [(0, .iconst 0, 0, 0, 0, 0), (1, .istore_n 2, 2, 0, 0, 0), (2, .iload_n 2, 2, 0, 0, 0), (3, .iload_n 1, 1, 0, 0, 0), (4, .if_icmp .ge 101, 105, 0, 0, 0), (7, .aload_n 0, 0, 0, 0, 0), (8, .getfield 40, 19, 12, 0, 155), (11, .bipush 16, 0, 0, 16, 0), (13, .aload_n 0, 0, 0, 0, 0), (14, .getfield 241, 25, 12, 0, 194), (17, .imul, 0, 0, 0, 0), (18, .iload_n 2, 2, 0, 0, 0), (19, .iadd, 0, 0, 0, 0), (20, .aload_n 0, 0, 0, 0, 0), (21, .getfield 40, 19, 12, 0, 155), (24, .bipush 32, 0, 0, 32, 0), (26, .iload_n 2, 2, 0, 0, 0), (27, .iadd, 0, 0, 0, 0), (28, .iaload, 0, 0, 0, 0), (29, .iastore, 0, 0, 0, 0), (30, .aload_n 0, 0, 0, 0, 0), (31, .getfield 43, 20, 12, 0, 156), (34, .bipush 16, 0, 0, 16, 0), (36, .aload_n 0, 0, 0, 0, 0), (37, .getfield 241, 25, 12, 0, 194), (40, .imul, 0, 0, 0, 0), (41, .iload_n 2, 2, 0, 0, 0), (42, .iadd, 0, 0, 0, 0), (43, .aload_n 0, 0, 0, 0, 0), (44, .getfield 43, 20, 12, 0, 156), (47, .bipush 32, 0, 0, 32, 0), (49, .iload_n 2, 2, 0, 0, 0), (50, .iadd, 0, 0, 0, 0), (51, .iaload, 0, 0, 0, 0), (52, .iastore, 0, 0, 0, 0), (53, .aload_n 0, 0, 0, 0, 0), (54, .getfield 46, 21, 12, 0, 157), (57, .bipush 16, 0, 0, 16, 0), (59, .aload_n 0, 0, 0, 0, 0), (60, .getfield 241, 25, 12, 0, 194), (63, .imul, 0, 0, 0, 0), (64, .iload_n 2, 2, 0, 0, 0), (65, .iadd, 0, 0, 0, 0), (66, .aload_n 0, 0, 0, 0, 0), (67, .getfield 46, 21, 12, 0, 157), (70, .bipush 32, 0, 0, 32, 0), (72, .iload_n 2, 2, 0, 0, 0), (73, .iadd, 0, 0, 0, 0), (74, .iaload, 0, 0, 0, 0), (75, .iastore, 0, 0, 0, 0), (76, .aload_n 0, 0, 0, 0, 0), (77, .getfield 49, 22, 12, 0, 158), (80, .bipush 16, 0, 0, 16, 0), (82, .aload_n 0, 0, 0, 0, 0), (83, .getfield 241, 25, 12, 0, 194), (86, .imul, 0, 0, 0, 0), (87, .iload_n 2, 2, 0, 0, 0), (88, .iadd, 0, 0, 0, 0), (89, .aload_n 0, 0, 0, 0, 0), (90, .getfield 49, 22, 12, 0, 158), (93, .bipush 32, 0, 0, 32, 0), (95, .iload_n 2, 2, 0, 0, 0), (96, .iadd, 0, 0, 0, 0), (97, .iaload, 0, 0, 0, 0), (98, .iastore, 0, 0, 0, 0), (99, .iinc 2 1, 2, 0, 1, 0), (102, .goto (-100), 2, 0, 0, 0), (105, .iconst 0, 0, 0, 0, 0), (106, .istore_n 2, 2, 0, 0, 0), (107, .iload_n 2, 2, 0, 0, 0), (108, .aload_n 0, 0, 0, 0, 0), (109, .getfield 187, 26, 12, 0, 191), (112, .if_icmp .ge 59, 171, 0, 0, 0), (115, .aload_n 0, 0, 0, 0, 0), (116, .getfield 52, 23, 12, 0, 159), (119, .sipush 400, 0, 0, 400, 0), (122, .aload_n 0, 0, 0, 0, 0), (123, .getfield 241, 25, 12, 0, 194), (126, .imul, 0, 0, 0, 0), (127, .iload_n 2, 2, 0, 0, 0), (128, .iadd, 0, 0, 0, 0), (129, .aload_n 0, 0, 0, 0, 0), (130, .getfield 52, 23, 12, 0, 159), (133, .sipush 800, 0, 0, 800, 0), (136, .iload_n 2, 2, 0, 0, 0), (137, .iadd, 0, 0, 0, 0), (138, .iaload, 0, 0, 0, 0), (139, .iastore, 0, 0, 0, 0), (140, .aload_n 0, 0, 0, 0, 0), (141, .getfield 55, 24, 12, 0, 160), (144, .sipush 400, 0, 0, 400, 0), (147, .aload_n 0, 0, 0, 0, 0), (148, .getfield 241, 25, 12, 0, 194), (151, .imul, 0, 0, 0, 0), (152, .iload_n 2, 2, 0, 0, 0), (153, .iadd, 0, 0, 0, 0), (154, .aload_n 0, 0, 0, 0, 0), (155, .getfield 55, 24, 12, 0, 160), (158, .sipush 800, 0, 0, 800, 0), (161, .iload_n 2, 2, 0, 0, 0), (162, .iadd, 0, 0, 0, 0), (163, .iaload, 0, 0, 0, 0), (164, .iastore, 0, 0, 0, 0), (165, .iinc 2 1, 2, 0, 1, 0), (168, .goto (-61), 107, 0, 0, 0), (171, .aload_n 0, 0, 0, 0, 0), (172, .getfield 37, 18, 12, 0, 154), (175, .aload_n 0, 0, 0, 0, 0), (176, .getfield 241, 25, 12, 0, 194), (179, .iload_n 1, 1, 0, 0, 0), (180, .iastore, 0, 0, 0, 0), (181, .return_, 0, 0, 0, 0)]
/-- CardDrawerModel.readNumber(II)I -/
def cd201 : List pI := [(0, .aload_n 0, 0, 0, 0, 0), (1, .getfield 162, 15, 12, 0, 187), (4, .iconst 3, 0, 0, 3, 0), (5, .if_icmp .eq 9, 14, 0, 0, 0), (8, .aload_n 0, 0, 0, 0, 0), (9, .iconst 1, 0, 0, 1, 0), (10, .invokevirtual 193, 186, 1, 0, 181), (13, .ireturn, 0, 0, 0, 0), (14, .aload_n 0, 0, 0, 0, 0), (15, .aload_n 0, 0, 0, 0, 0), (16, .getfield 165, 16, 12, 0, 188), (19, .iload_n 1, 1, 0, 0, 0), (20, .iload_n 2, 2, 0, 0, 0), (21, .invokevirtual 138, 158, 1, 0, 172), (24, .ifCond .ne 9, 33, 0, 0, 0), (27, .aload_n 0, 0, 0, 0, 0), (28, .iconst 2, 0, 0, 2, 0), (29, .invokevirtual 193, 186, 1, 0, 181), (32, .ireturn, 0, 0, 0, 0), (33, .aload_n 0, 0, 0, 0, 0), (34, .getfield 165, 16, 12, 0, 188), (37, .istore_n 3, 3, 0, 0, 0), (38, .aload_n 0, 0, 0, 0, 0), (39, .invokevirtual 200, 185, 0, 0, 183), (42, .iload_n 3, 3, 0, 0, 0), (43, .ireturn, 0, 0, 0, 0)]
/-- CardDrawerModel.readMark(I)I -/
def cd202 : List pI := [(0, .aload_n 0, 0, 0, 0, 0), (1, .iload_n 1, 1, 0, 0, 0), (2, .invokevirtual 207, 188, 1, 0, 185), (5, .ifCond .ne 9, 14, 0, 0, 0), (8, .aload_n 0, 0, 0, 0, 0), (9, .iconst 1, 0, 0, 1, 0), (10, .invokevirtual 193, 186, 1, 0, 181), (13, .ireturn, 0, 0, 0, 0), (14, .aload_n 0, 0, 0, 0, 0), (15, .invokevirtual 200, 185, 0, 0, 183), (18, .iconst 0, 0, 0, 0, 0), (19, .ireturn, 0, 0, 0, 0)]
/-- CardDrawerModel.readTold(III)I -/
def cd203 : List pI := [(0, .aload_n 0, 0, 0, 0, 0), (1, .iload_n 1, 1, 0, 0, 0), (2, .invokevirtual 222, 187, 1, 0, 188), (5, .ifCond .ne 9, 14, 0, 0, 0), (8, .aload_n 0, 0, 0, 0, 0), (9, .iconst 1, 0, 0, 1, 0), (10, .invokevirtual 193, 186, 1, 0, 181), (13, .ireturn, 0, 0, 0, 0), (14, .aload_n 0, 0, 0, 0, 0), (15, .invokevirtual 200, 185, 0, 0, 183), (18, .aload_n 0, 0, 0, 0, 0), (19, .iload_n 2, 2, 0, 0, 0), (20, .iload_n 3, 3, 0, 0, 0), (21, .invokevirtual 244, 201, 1, 0, 194), (24, .ireturn, 0, 0, 0, 0)]
/-- CardDrawerModel.readMetLine()I -/
def cd204 : List pI := [(0, .aload_n 0, 0, 0, 0, 0), (1, .bipush 7, 0, 0, 7, 0), (3, .iconst 0, 0, 0, 0, 0), (4, .bipush 11, 0, 0, 11, 0), (6, .invokevirtual 247, 203, 1, 0, 195), (9, .istore_n 1, 1, 0, 0, 0), (10, .iload_n 1, 1, 0, 0, 0), (11, .iconst (-1), 0, 0, (-1), 0), (12, .if_icmp .ne 5, 17, 0, 0, 0), (15, .iconst (-1), 0, 0, (-1), 0), (16, .ireturn, 0, 0, 0, 0), (17, .aload_n 0, 0, 0, 0, 0), (18, .bipush 16, 0, 0, 16, 0), (20, .invokevirtual 222, 187, 1, 0, 188), (23, .ifCond .ne 9, 32, 0, 0, 0), (26, .aload_n 0, 0, 0, 0, 0), (27, .iconst 1, 0, 0, 1, 0), (28, .invokevirtual 193, 186, 1, 0, 181), (31, .ireturn, 0, 0, 0, 0), (32, .aload_n 0, 0, 0, 0, 0), (33, .invokevirtual 200, 185, 0, 0, 183), (36, .aload_n 0, 0, 0, 0, 0), (37, .getfield 162, 15, 12, 0, 187), (40, .iconst 3, 0, 0, 3, 0), (41, .if_icmp .ne 17, 58, 0, 0, 0), (44, .aload_n 0, 0, 0, 0, 0), (45, .getfield 165, 16, 12, 0, 188), (48, .iload_n 1, 1, 0, 0, 0), (49, .if_icmp .ne 9, 58, 0, 0, 0), (52, .aload_n 0, 0, 0, 0, 0), (53, .iconst 2, 0, 0, 2, 0), (54, .invokevirtual 193, 186, 1, 0, 181), (57, .ireturn, 0, 0, 0, 0), (58, .nop, 2, 0, 0, 0), (58, .aload_n 0, 0, 0, 0, 0), (59, .iconst 0, 0, 0, 0, 0), (60, .bipush 11, 0, 0, 11, 0), (62, .invokevirtual 244, 201, 1, 0, 194), (65, .istore_n 2, 2, 0, 0, 0), (66, .iload_n 2, 2, 0, 0, 0), (67, .iconst (-1), 0, 0, (-1), 0), (68, .if_icmp .ne 5, 73, 0, 0, 0), (71, .iconst (-1), 0, 0, (-1), 0), (72, .ireturn, 0, 0, 0, 0), (73, .aload_n 0, 0, 0, 0, 0), (74, .getfield 65, 35, 12, 0, 163), (77, .bipush 12, 0, 0, 12, 0), (79, .iload_n 1, 1, 0, 0, 0), (80, .iadd, 0, 0, 0, 0), (81, .iaload, 0, 0, 0, 0), (82, .ifCond .ne 15, 97, 0, 0, 0), (85, .aload_n 0, 0, 0, 0, 0), (86, .getfield 65, 35, 12, 0, 163), (89, .bipush 12, 0, 0, 12, 0), (91, .iload_n 1, 1, 0, 0, 0), (92, .iadd, 0, 0, 0, 0), (93, .iload_n 2, 2, 0, 0, 0), (94, .iconst 1, 0, 0, 1, 0), (95, .iadd, 0, 0, 0, 0), (96, .iastore, 0, 0, 0, 0), (97, .aload_n 0, 0, 0, 0, 0), (98, .bipush 59, 0, 0, 59, 0), (100, .invokevirtual 251, 202, 1, 0, 196), (103, .ireturn, 0, 0, 0, 0)]
/-- CardDrawerModel.readMet()I -/
def cd205 : List pI := [(0, .iconst 0, 0, 0, 0, 0), (1, .istore_n 1, 1, 0, 0, 0), (2, .iload_n 1, 1, 0, 0, 0), (3, .bipush 12, 0, 0, 12, 0), (5, .if_icmp .ge 19, 24, 0, 0, 0), (8, .aload_n 0, 0, 0, 0, 0), (9, .getfield 65, 35, 12, 0, 163), (12, .bipush 12, 0, 0, 12, 0), (14, .iload_n 1, 1, 0, 0, 0), (15, .iadd, 0, 0, 0, 0), (16, .iconst 0, 0, 0, 0, 0), (17, .iastore, 0, 0, 0, 0), (18, .iinc 1 1, 1, 0, 1, 0), (21, .goto (-19), 2, 0, 0, 0), (24, .iconst 0, 0, 0, 0, 0), (25, .istore_n 1, 1, 0, 0, 0), (26, .aload_n 0, 0, 0, 0, 0), (27, .bipush 7, 0, 0, 7, 0), (29, .invokevirtual 222, 187, 1, 0, 188), (32, .ifCond .eq 32, 64, 0, 0, 0), (35, .iload_n 1, 1, 0, 0, 0), (36, .bipush 16, 0, 0, 16, 0), (38, .if_icmp .ne 9, 47, 0, 0, 0), (41, .aload_n 0, 0, 0, 0, 0), (42, .iconst 3, 0, 0, 3, 0), (43, .invokevirtual 193, 186, 1, 0, 181), (46, .ireturn, 0, 0, 0, 0), (47, .aload_n 0, 0, 0, 0, 0), (48, .invokevirtual 254, 204, 1, 0, 197), (51, .iconst (-1), 0, 0, (-1), 0), (52, .if_icmp .ne 5, 57, 0, 0, 0), (55, .iconst (-1), 0, 0, (-1), 0), (56, .ireturn, 0, 0, 0, 0), (57, .iload_n 1, 1, 0, 0, 0), (58, .iconst 1, 0, 0, 1, 0), (59, .iadd, 0, 0, 0, 0), (60, .istore_n 1, 1, 0, 0, 0), (61, .goto (-35), 26, 0, 0, 0), (64, .aload_n 0, 0, 0, 0, 0), (65, .getfield 162, 15, 12, 0, 187), (68, .ifCond .ne 7, 75, 0, 0, 0), (71, .iload_n 1, 1, 0, 0, 0), (72, .goto 8, 80, 0, 0, 0), (75, .aload_n 0, 0, 0, 0, 0), (76, .iconst 1, 0, 0, 1, 0), (77, .invokevirtual 193, 186, 1, 0, 181), (80, .ireturn, 0, 0, 0, 0)]
/-- CardDrawerModel.readCalledLine()I -/
def cd206 : List pI := [(0, .aload_n 0, 0, 0, 0, 0), (1, .bipush 8, 0, 0, 8, 0), (3, .iconst 0, 0, 0, 0, 0), (4, .bipush 7, 0, 0, 7, 0), (6, .invokevirtual 247, 203, 1, 0, 195), (9, .istore_n 1, 1, 0, 0, 0), (10, .iload_n 1, 1, 0, 0, 0), (11, .iconst (-1), 0, 0, (-1), 0), (12, .if_icmp .ne 5, 17, 0, 0, 0), (15, .iconst (-1), 0, 0, (-1), 0), (16, .ireturn, 0, 0, 0, 0), (17, .aload_n 0, 0, 0, 0, 0), (18, .bipush 17, 0, 0, 17, 0), (20, .iconst 0, 0, 0, 0, 0), (21, .bipush 99, 0, 0, 99, 0), (23, .invokevirtual 247, 203, 1, 0, 195), (26, .istore_n 2, 2, 0, 0, 0), (27, .iload_n 2, 2, 0, 0, 0), (28, .iconst (-1), 0, 0, (-1), 0), (29, .if_icmp .ne 5, 34, 0, 0, 0), (32, .iconst (-1), 0, 0, (-1), 0), (33, .ireturn, 0, 0, 0, 0), (34, .aload_n 0, 0, 0, 0, 0), (35, .bipush 18, 0, 0, 18, 0), (37, .iload_n 2, 2, 0, 0, 0), (38, .bipush 99, 0, 0, 99, 0), (40, .invokevirtual 247, 203, 1, 0, 195), (43, .istore_n 3, 3, 0, 0, 0), (44, .iload_n 3, 3, 0, 0, 0), (45, .iconst (-1), 0, 0, (-1), 0), (46, .if_icmp .ne 5, 51, 0, 0, 0), (49, .iconst (-1), 0, 0, (-1), 0), (50, .ireturn, 0, 0, 0, 0), (51, .aload_n 0, 0, 0, 0, 0), (52, .getfield 68, 37, 12, 0, 164), (55, .bipush 8, 0, 0, 8, 0), (57, .iload_n 1, 1, 0, 0, 0), (58, .iadd, 0, 0, 0, 0), (59, .iload_n 2, 2, 0, 0, 0), (60, .iastore, 0, 0, 0, 0), (61, .aload_n 0, 0, 0, 0, 0), (62, .getfield 71, 38, 12, 0, 165), (65, .bipush 8, 0, 0, 8, 0), (67, .iload_n 1, 1, 0, 0, 0), (68, .iadd, 0, 0, 0, 0), (69, .iload_n 3, 3, 0, 0, 0), (70, .bipush 99, 0, 0, 99, 0), (72, .isub, 0, 0, 0, 0), (73, .iastore, 0, 0, 0, 0), (74, .aload_n 0, 0, 0, 0, 0), (75, .bipush 59, 0, 0, 59, 0), (77, .invokevirtual 251, 202, 1, 0, 196), (80, .ireturn, 0, 0, 0, 0)]
/-- CardDrawerModel.readCalled()I -/
def cd207 : List pI := [(0, .iconst 0, 0, 0, 0, 0), (1, .istore_n 1, 1, 0, 0, 0), (2, .iload_n 1, 1, 0, 0, 0), (3, .bipush 8, 0, 0, 8, 0), (5, .if_icmp .ge 29, 34, 0, 0, 0), (8, .aload_n 0, 0, 0, 0, 0), (9, .getfield 68, 37, 12, 0, 164), (12, .bipush 8, 0, 0, 8, 0), (14, .iload_n 1, 1, 0, 0, 0), (15, .iadd, 0, 0, 0, 0), (16, .iconst 0, 0, 0, 0, 0), (17, .iastore, 0, 0, 0, 0), (18, .aload_n 0, 0, 0, 0, 0), (19, .getfield 71, 38, 12, 0, 165), (22, .bipush 8, 0, 0, 8, 0), (24, .iload_n 1, 1, 0, 0, 0), (25, .iadd, 0, 0, 0, 0), (26, .iconst 0, 0, 0, 0, 0), (27, .iastore, 0, 0, 0, 0), (28, .iinc 1 1, 1, 0, 1, 0), (31, .goto (-29), 2, 0, 0, 0), (34, .iconst 0, 0, 0, 0, 0), (35, .istore_n 1, 1, 0, 0, 0), (36, .aload_n 0, 0, 0, 0, 0), (37, .bipush 8, 0, 0, 8, 0), (39, .invokevirtual 222, 187, 1, 0, 188), (42, .ifCond .eq 32, 74, 0, 0, 0), (45, .iload_n 1, 1, 0, 0, 0), (46, .bipush 16, 0, 0, 16, 0), (48, .if_icmp .ne 9, 57, 0, 0, 0), (51, .aload_n 0, 0, 0, 0, 0), (52, .iconst 3, 0, 0, 3, 0), (53, .invokevirtual 193, 186, 1, 0, 181), (56, .ireturn, 0, 0, 0, 0), (57, .aload_n 0, 0, 0, 0, 0), (58, .invokevirtual 257, 206, 1, 0, 198), (61, .iconst (-1), 0, 0, (-1), 0), (62, .if_icmp .ne 5, 67, 0, 0, 0), (65, .iconst (-1), 0, 0, (-1), 0), (66, .ireturn, 0, 0, 0, 0), (67, .iload_n 1, 1, 0, 0, 0), (68, .iconst 1, 0, 0, 1, 0), (69, .iadd, 0, 0, 0, 0), (70, .istore_n 1, 1, 0, 0, 0), (71, .goto (-35), 36, 0, 0, 0), (74, .aload_n 0, 0, 0, 0, 0), (75, .getfield 162, 15, 12, 0, 187), (78, .ifCond .ne 7, 85, 0, 0, 0), (81, .iload_n 1, 1, 0, 0, 0), (82, .goto 8, 90, 0, 0, 0), (85, .aload_n 0, 0, 0, 0, 0), (86, .iconst 1, 0, 0, 1, 0), (87, .invokevirtual 193, 186, 1, 0, 181), (90, .ireturn, 0, 0, 0, 0)]
/-- CardDrawerModel.readDeed(I)I -/
def cd208 : List pI := [(0, .aload_n 0, 0, 0, 0, 0), (1, .getfield 74, 40, 12, 0, 166), (4, .iload_n 1, 1, 0, 0, 0), (5, .aload_n 0, 0, 0, 0, 0), (6, .bipush 19, 0, 0, 19, 0), (8, .iconst 0, 0, 0, 0, 0), (9, .bipush 99, 0, 0, 99, 0), (11, .invokevirtual 247, 203, 1, 0, 195), (14, .iastore, 0, 0, 0, 0), (15, .aload_n 0, 0, 0, 0, 0), (16, .getfield 74, 40, 12, 0, 166), (19, .iload_n 1, 1, 0, 0, 0), (20, .iaload, 0, 0, 0, 0), (21, .iconst (-1), 0, 0, (-1), 0), (22, .if_icmp .ne 5, 27, 0, 0, 0), (25, .iconst (-1), 0, 0, (-1), 0), (26, .ireturn, 0, 0, 0, 0), (27, .aload_n 0, 0, 0, 0, 0), (28, .getfield 162, 15, 12, 0, 187), (31, .iconst 2, 0, 0, 2, 0), (32, .if_icmp .ne 10, 42, 0, 0, 0), (35, .aload_n 0, 0, 0, 0, 0), (36, .getfield 165, 16, 12, 0, 188), (39, .goto 4, 43, 0, 0, 0), (42, .iconst (-1), 0, 0, (-1), 0), (43, .nop, 2, 0, 0, 0), (43, .istore_n 2, 2, 0, 0, 0), (44, .aload_n 0, 0, 0, 0, 0), (45, .iload_n 2, 2, 0, 0, 0), (46, .bipush 20, 0, 0, 20, 0), (48, .bipush 23, 0, 0, 23, 0), (50, .invokevirtual 138, 158, 1, 0, 172), (53, .ifCond .ne 9, 62, 0, 0, 0), (56, .aload_n 0, 0, 0, 0, 0), (57, .iconst 1, 0, 0, 1, 0), (58, .invokevirtual 193, 186, 1, 0, 181), (61, .ireturn, 0, 0, 0, 0), (62, .aload_n 0, 0, 0, 0, 0), (63, .invokevirtual 200, 185, 0, 0, 183), (66, .aload_n 0, 0, 0, 0, 0), (67, .getfield 74, 40, 12, 0, 166), (70, .iload_n 1, 1, 0, 0, 0), (71, .iconst 1, 0, 0, 1, 0), (72, .iadd, 0, 0, 0, 0), (73, .iload_n 2, 2, 0, 0, 0), (74, .bipush 20, 0, 0, 20, 0), (76, .isub, 0, 0, 0, 0), (77, .iastore, 0, 0, 0, 0), (78, .aload_n 0, 0, 0, 0, 0), (79, .getfield 74, 40, 12, 0, 166), (82, .iload_n 1, 1, 0, 0, 0), (83, .iconst 2, 0, 0, 2, 0), (84, .iadd, 0, 0, 0, 0), (85, .iload_n 2, 2, 0, 0, 0), (86, .bipush 20, 0, 0, 20, 0), (88, .if_icmp .ne 13, 101, 0, 0, 0), (91, .aload_n 0, 0, 0, 0, 0), (92, .iconst 1, 0, 0, 1, 0), (93, .bipush 14, 0, 0, 14, 0), (95, .invokevirtual 244, 201, 1, 0, 194), (98, .goto 25, 123, 0, 0, 0), (101, .aload_n 0, 0, 0, 0, 0), (102, .iconst 0, 0, 0, 0, 0), (103, .iload_n 2, 2, 0, 0, 0), (104, .bipush 21, 0, 0, 21, 0), (106, .if_icmp .ne 8, 114, 0, 0, 0), (109, .bipush 11, 0, 0, 11, 0), (111, .goto 9, 120, 0, 0, 0), (114, .aload_n 0, 0, 0, 0, 0), (115, .getfield 128, 6, 12, 0, 183), (118, .iconst 1, 0, 0, 1, 0), (119, .isub, 0, 0, 0, 0), (120, .invokevirtual 244, 201, 1, 0, 194), (123, .nop, 2, 0, 0, 0), (123, .iastore, 0, 0, 0, 0), (124, .aload_n 0, 0, 0, 0, 0), (125, .getfield 74, 40, 12, 0, 166), (128, .iload_n 1, 1, 0, 0, 0), (129, .iconst 2, 0, 0, 2, 0), (130, .iadd, 0, 0, 0, 0), (131, .iaload, 0, 0, 0, 0), (132, .iconst (-1), 0, 0, (-1), 0), (133, .if_icmp .ne 7, 140, 0, 0, 0), (136, .iconst (-1), 0, 0, (-1), 0), (137, .goto 9, 146, 0, 0, 0), (140, .aload_n 0, 0, 0, 0, 0), (141, .bipush 59, 0, 0, 59, 0), (143, .invokevirtual 251, 202, 1, 0, 196), (146, .ireturn, 0, 0, 0, 0)]
/-- CardDrawerModel.readPlan()I -/
def cd209 : List pI := [(0, .iconst 0, 0, 0, 0, 0), (1, .istore_n 1, 1, 0, 0, 0), (2, .aload_n 0, 0, 0, 0, 0), (3, .bipush 19, 0, 0, 19, 0), (5, .invokevirtual 222, 187, 1, 0, 188), (8, .ifCond .eq 38, 46, 0, 0, 0), (11, .iload_n 1, 1, 0, 0, 0), (12, .bipush 16, 0, 0, 16, 0), (14, .if_icmp .ne 9, 23, 0, 0, 0), (17, .aload_n 0, 0, 0, 0, 0), (18, .iconst 3, 0, 0, 3, 0), (19, .invokevirtual 193, 186, 1, 0, 181), (22, .ireturn, 0, 0, 0, 0), (23, .aload_n 0, 0, 0, 0, 0), (24, .bipush 48, 0, 0, 48, 0), (26, .iconst 3, 0, 0, 3, 0), (27, .iload_n 1, 1, 0, 0, 0), (28, .imul, 0, 0, 0, 0), (29, .iadd, 0, 0, 0, 0), (30, .invokevirtual 260, 208, 1, 0, 199), (33, .iconst (-1), 0, 0, (-1), 0), (34, .if_icmp .ne 5, 39, 0, 0, 0), (37, .iconst (-1), 0, 0, (-1), 0), (38, .ireturn, 0, 0, 0, 0), (39, .iload_n 1, 1, 0, 0, 0), (40, .iconst 1, 0, 0, 1, 0), (41, .iadd, 0, 0, 0, 0), (42, .istore_n 1, 1, 0, 0, 0), (43, .goto (-41), 2, 0, 0, 0), (46, .aload_n 0, 0, 0, 0, 0), (47, .getfield 162, 15, 12, 0, 187), (50, .ifCond .ne 7, 57, 0, 0, 0), (53, .iload_n 1, 1, 0, 0, 0), (54, .goto 8, 62, 0, 0, 0), (57, .aload_n 0, 0, 0, 0, 0), (58, .iconst 1, 0, 0, 1, 0), (59, .invokevirtual 193, 186, 1, 0, 181), (62, .ireturn, 0, 0, 0, 0)]
/-- CardDrawerModel.readsText(I)I -/
def cd210 : List pI := [(0, .aload_n 0, 0, 0, 0, 0), (1, .iconst 0, 0, 0, 0, 0), (2, .putfield 241, 25, 12, 0, 194), (5, .aload_n 0, 0, 0, 0, 0), (6, .invokevirtual 200, 185, 0, 0, 183), (9, .iload_n 1, 1, 0, 0, 0), (10, .iconst 1, 0, 0, 1, 0), (11, .if_icmp .ne 8, 19, 0, 0, 0), (14, .aload_n 0, 0, 0, 0, 0), (15, .invokevirtual 263, 205, 1, 0, 200), (18, .ireturn, 0, 0, 0, 0), (19, .iload_n 1, 1, 0, 0, 0), (20, .iconst 2, 0, 0, 2, 0), (21, .if_icmp .ne 8, 29, 0, 0, 0), (24, .aload_n 0, 0, 0, 0, 0), (25, .invokevirtual 266, 207, 1, 0, 201), (28, .ireturn, 0, 0, 0, 0), (29, .iload_n 1, 1, 0, 0, 0), (30, .iconst 3, 0, 0, 3, 0), (31, .if_icmp .ne 10, 41, 0, 0, 0), (34, .aload_n 0, 0, 0, 0, 0), (35, .invokevirtual 269, 209, 1, 0, 202), (38, .goto 7, 45, 0, 0, 0), (41, .aload_n 0, 0, 0, 0, 0), (42, .invokevirtual 272, 199, 1, 0, 203), (45, .ireturn, 0, 0, 0, 0)]
/-- CardDrawerModel.takesOther(II)V -/
def cd211 : List pI := [(0, .iload_n 1, 1, 0, 0, 0), (1, .iconst 1, 0, 0, 1, 0), (2, .if_icmp .ne 40, 42, 0, 0, 0), (5, .iconst 0, 0, 0, 0, 0), (6, .istore_n 3, 3, 0, 0, 0), (7, .nop, 1, 0, 0, 0), (7, .iload_n 3, 3, 0, 0, 0), (8, .bipush 12, 0, 0, 12, 0), (10, .if_icmp .ge 24, 34, 0, 0, 0), (13, .aload_n 0, 0, 0, 0, 0), (14, .getfield 65, 35, 12, 0, 163), (17, .iload_n 3, 3, 0, 0, 0), (18, .aload_n 0, 0, 0, 0, 0), (19, .getfield 65, 35, 12, 0, 163), (22, .bipush 12, 0, 0, 12, 0), (24, .iload_n 3, 3, 0, 0, 0), (25, .iadd, 0, 0, 0, 0), (26, .iaload, 0, 0, 0, 0), (27, .iastore, 0, 0, 0, 0), (28, .iinc 3 1, 3, 0, 1, 0), (31, .goto (-24), 7, 0, 0, 0), (34, .aload_n 0, 0, 0, 0, 0), (35, .iload_n 2, 2, 0, 0, 0), (36, .putfield 275, 34, 12, 0, 195), (39, .goto 100, 139, 0, 0, 0), (42, .iload_n 1, 1, 0, 0, 0), (43, .iconst 2, 0, 0, 2, 0), (44, .if_icmp .ne 55, 99, 0, 0, 0), (47, .iconst 0, 0, 0, 0, 0), (48, .istore_n 3, 3, 0, 0, 0), (49, .nop, 1, 0, 0, 0), (49, .iload_n 3, 3, 0, 0, 0), (50, .bipush 8, 0, 0, 8, 0), (52, .if_icmp .ge 39, 91, 0, 0, 0), (55, .aload_n 0, 0, 0, 0, 0), (56, .getfield 68, 37, 12, 0, 164), (59, .iload_n 3, 3, 0, 0, 0), (60, .aload_n 0, 0, 0, 0, 0), (61, .getfield 68, 37, 12, 0, 164), (64, .bipush 8, 0, 0, 8, 0), (66, .iload_n 3, 3, 0, 0, 0), (67, .iadd, 0, 0, 0, 0), (68, .iaload, 0, 0, 0, 0), (69, .iastore, 0, 0, 0, 0), (70, .aload_n 0, 0, 0, 0, 0), (71, .getfield 71, 38, 12, 0, 165), (74, .iload_n 3, 3, 0, 0, 0), (75, .aload_n 0, 0, 0, 0, 0), (76, .getfield 71, 38, 12, 0, 165), (79, .bipush 8, 0, 0, 8, 0), (81, .iload_n 3, 3, 0, 0, 0), (82, .iadd, 0, 0, 0, 0), (83, .iaload, 0, 0, 0, 0), (84, .iastore, 0, 0, 0, 0), (85, .iinc 3 1, 3, 0, 1, 0), (88, .goto (-39), 49, 0, 0, 0), (91, .aload_n 0, 0, 0, 0, 0), (92, .iload_n 2, 2, 0, 0, 0), (93, .putfield 278, 36, 12, 0, 196), (96, .goto 43, 139, 0, 0, 0), (99, .iconst 0, 0, 0, 0, 0), (100, .istore_n 3, 3, 0, 0, 0), (101, .nop, 1, 0, 0, 0), (101, .iload_n 3, 3, 0, 0, 0), (102, .iconst 3, 0, 0, 3, 0), (103, .iload_n 2, 2, 0, 0, 0), (104, .imul, 0, 0, 0, 0), (105, .if_icmp .ge 24, 129, 0, 0, 0), (108, .aload_n 0, 0, 0, 0, 0), (109, .getfield 74, 40, 12, 0, 166), (112, .iload_n 3, 3, 0, 0, 0), (113, .aload_n 0, 0, 0, 0, 0), (114, .getfield 74, 40, 12, 0, 166), (117, .bipush 48, 0, 0, 48, 0), (119, .iload_n 3, 3, 0, 0, 0), (120, .iadd, 0, 0, 0, 0), (121, .iaload, 0, 0, 0, 0), (122, .iastore, 0, 0, 0, 0), (123, .iinc 3 1, 3, 0, 1, 0), (126, .goto (-25), 101, 0, 0, 0), (129, .aload_n 0, 0, 0, 0, 0), (130, .iload_n 2, 2, 0, 0, 0), (131, .putfield 281, 39, 12, 0, 197), (134, .aload_n 0, 0, 0, 0, 0), (135, .iconst 0, 0, 0, 0, 0), (136, .putfield 119, 3, 12, 0, 180), (139, .return_, 0, 0, 0, 0)]
/-- CardDrawerModel.text(I)I -/
def cd212 : List pI := [(0, .aload_n 0, 0, 0, 0, 0), (1, .iconst 0, 0, 0, 0, 0), (2, .putfield 116, 0, 12, 0, 181), (5, .aload_n 0, 0, 0, 0, 0), (6, .iconst 0, 0, 0, 0, 0), (7, .putfield 284, 32, 12, 0, 198), (10, .aload_n 0, 0, 0, 0, 0), (11, .iconst (-1), 0, 0, (-1), 0), (12, .putfield 61, 33, 12, 0, 162), (15, .aload_n 0, 0, 0, 0, 0), (16, .iconst 0, 0, 0, 0, 0), (17, .putfield 152, 13, 12, 0, 185), (20, .aload_n 0, 0, 0, 0, 0), (21, .iconst 0, 0, 0, 0, 0), (22, .putfield 187, 26, 12, 0, 191), (25, .aload_n 0, 0, 0, 0, 0), (26, .iconst 0, 0, 0, 0, 0), (27, .putfield 219, 27, 12, 0, 193), (30, .iconst (-1), 0, 0, (-1), 0), (31, .istore_n 2, 2, 0, 0, 0), (32, .aload_n 0, 0, 0, 0, 0), (33, .iload_n 1, 1, 0, 0, 0), (34, .iconst 0, 0, 0, 0, 0), (35, .iconst 3, 0, 0, 3, 0), (36, .invokevirtual 138, 158, 1, 0, 172), (39, .ifCond .eq 30, 69, 0, 0, 0), (42, .aload_n 0, 0, 0, 0, 0), (43, .iload_n 1, 1, 0, 0, 0), (44, .invokevirtual 287, 210, 1, 0, 204), (47, .istore_n 2, 2, 0, 0, 0), (48, .iload_n 2, 2, 0, 0, 0), (49, .iconst (-1), 0, 0, (-1), 0), (50, .if_icmp .ne 19, 69, 0, 0, 0), (53, .aload_n 0, 0, 0, 0, 0), (54, .aload_n 0, 0, 0, 0, 0), (55, .getfield 181, 30, 12, 0, 189), (58, .putfield 284, 32, 12, 0, 198), (61, .aload_n 0, 0, 0, 0, 0), (62, .aload_n 0, 0, 0, 0, 0), (63, .getfield 184, 31, 12, 0, 190), (66, .putfield 61, 33, 12, 0, 162), (69, .aload_n 0, 0, 0, 0, 0), (70, .iconst 0, 0, 0, 0, 0), (71, .putfield 145, 12, 12, 0, 184), (74, .iload_n 2, 2, 0, 0, 0), (75, .iconst (-1), 0, 0, (-1), 0), (76, .if_icmp .ne 5, 81, 0, 0, 0), (79, .iconst (-1), 0, 0, (-1), 0), (80, .ireturn, 0, 0, 0, 0), (81, .iload_n 1, 1, 0, 0, 0), (82, .ifCond .ne 11, 93, 0, 0, 0), (85, .aload_n 0, 0, 0, 0, 0), (86, .iload_n 2, 2, 0, 0, 0), (87, .invokevirtual 290, 200, 0, 0, 205), (90, .goto 9, 99, 0, 0, 0), (93, .aload_n 0, 0, 0, 0, 0), (94, .iload_n 1, 1, 0, 0, 0), (95, .iload_n 2, 2, 0, 0, 0), (96, .invokevirtual 293, 211, 0, 0, 206), (99, .iload_n 2, 2, 0, 0, 0), (100, .ireturn, 0, 0, 0, 0)]
/-- CardDrawerModel.fault(I)I -/
def cd213 : List pI := [(0, .aload_n 0, 0, 0, 0, 0), (1, .iconst 0, 0, 0, 0, 0), (2, .putfield 116, 0, 12, 0, 181), (5, .iload_n 1, 1, 0, 0, 0), (6, .ifCond .ne 10, 16, 0, 0, 0), (9, .aload_n 0, 0, 0, 0, 0), (10, .getfield 284, 32, 12, 0, 198), (13, .goto 16, 29, 0, 0, 0), (16, .iload_n 1, 1, 0, 0, 0), (17, .iconst 1, 0, 0, 1, 0), (18, .if_icmp .ne 10, 28, 0, 0, 0), (21, .aload_n 0, 0, 0, 0, 0), (22, .getfield 61, 33, 12, 0, 162), (25, .goto 4, 29, 0, 0, 0), (28, .iconst (-1), 0, 0, (-1), 0), (29, .ireturn, 0, 0, 0, 0)]
/-- CardDrawerModel.twoOf(III)I -/
def cd214 : List pI := [(0, .iload_n 1, 1, 0, 0, 0), (1, .iconst 2, 0, 0, 2, 0), (2, .if_icmp .ne 7, 9, 0, 0, 0), (5, .iload_n 2, 2, 0, 0, 0), (6, .iload_n 3, 3, 0, 0, 0), (7, .iadd, 0, 0, 0, 0), (8, .ireturn, 0, 0, 0, 0), (9, .iload_n 1, 1, 0, 0, 0), (10, .iconst 3, 0, 0, 3, 0), (11, .if_icmp .ne 7, 18, 0, 0, 0), (14, .iload_n 2, 2, 0, 0, 0), (15, .iload_n 3, 3, 0, 0, 0), (16, .isub, 0, 0, 0, 0), (17, .ireturn, 0, 0, 0, 0), (18, .iload_n 1, 1, 0, 0, 0), (19, .iconst 4, 0, 0, 4, 0), (20, .if_icmp .ne 7, 27, 0, 0, 0), (23, .iload_n 2, 2, 0, 0, 0), (24, .iload_n 3, 3, 0, 0, 0), (25, .imul, 0, 0, 0, 0), (26, .ireturn, 0, 0, 0, 0), (27, .iload_n 1, 1, 0, 0, 0), (28, .iconst 5, 0, 0, 5, 0), (29, .if_icmp .ne 7, 36, 0, 0, 0), (32, .iload_n 2, 2, 0, 0, 0), (33, .iload_n 3, 3, 0, 0, 0), (34, .idiv, 0, 0, 0, 0), (35, .ireturn, 0, 0, 0, 0), (36, .iload_n 1, 1, 0, 0, 0), (37, .bipush 6, 0, 0, 6, 0), (39, .if_icmp .ne 14, 53, 0, 0, 0), (42, .iload_n 2, 2, 0, 0, 0), (43, .iload_n 3, 3, 0, 0, 0), (44, .if_icmp .ge 7, 51, 0, 0, 0), (47, .iconst 1, 0, 0, 1, 0), (48, .goto 4, 52, 0, 0, 0), (51, .iconst 0, 0, 0, 0, 0), (52, .ireturn, 0, 0, 0, 0), (53, .iload_n 1, 1, 0, 0, 0), (54, .bipush 7, 0, 0, 7, 0), (56, .if_icmp .ne 14, 70, 0, 0, 0), (59, .iload_n 2, 2, 0, 0, 0), (60, .iload_n 3, 3, 0, 0, 0), (61, .if_icmp .ne 7, 68, 0, 0, 0), (64, .iconst 1, 0, 0, 1, 0), (65, .goto 4, 69, 0, 0, 0), (68, .iconst 0, 0, 0, 0, 0), (69, .ireturn, 0, 0, 0, 0), (70, .iload_n 1, 1, 0, 0, 0), (71, .bipush 8, 0, 0, 8, 0), (73, .if_icmp .ne 14, 87, 0, 0, 0), (76, .iload_n 2, 2, 0, 0, 0), (77, .iload_n 3, 3, 0, 0, 0), (78, .if_icmp .le 7, 85, 0, 0, 0), (81, .iconst 1, 0, 0, 1, 0), (82, .goto 4, 86, 0, 0, 0), (85, .iconst 0, 0, 0, 0, 0), (86, .ireturn, 0, 0, 0, 0), (87, .iload_n 1, 1, 0, 0, 0), (88, .bipush 10, 0, 0, 10, 0), (90, .if_icmp .ne 9, 99, 0, 0, 0), (93, .iload_n 2, 2, 0, 0, 0), (94, .iload_n 3, 3, 0, 0, 0), (95, .imul, 0, 0, 0, 0), (96, .goto 14, 110, 0, 0, 0), (99, .iload_n 2, 2, 0, 0, 0), (100, .iload_n 3, 3, 0, 0, 0), (101, .iadd, 0, 0, 0, 0), (102, .ifCond .le 7, 109, 0, 0, 0), (105, .iconst 1, 0, 0, 1, 0), (106, .goto 4, 110, 0, 0, 0), (109, .iconst 0, 0, 0, 0, 0), (110, .ireturn, 0, 0, 0, 0)]
/-- CardDrawerModel.runs(III)I -/
def cd215 : List pI := [(0, .iconst 0, 0, 0, 0, 0), (1, .istore 4, 4, 0, 0, 0), (3, .sipush 400, 0, 0, 400, 0), (6, .iload_n 1, 1, 0, 0, 0), (7, .imul, 0, 0, 0, 0), (8, .iload_n 2, 2, 0, 0, 0), (9, .iadd, 0, 0, 0, 0), (10, .istore 5, 5, 0, 0, 0), (12, .nop, 2, 0, 0, 0), (12, .iload 5, 5, 0, 0, 0), (14, .sipush 400, 0, 0, 400, 0), (17, .iload_n 1, 1, 0, 0, 0), (18, .imul, 0, 0, 0, 0), (19, .iload_n 3, 3, 0, 0, 0), (20, .iadd, 0, 0, 0, 0), (21, .if_icmp .ge 155, 176, 0, 0, 0), (24, .aload_n 0, 0, 0, 0, 0), (25, .getfield 52, 23, 12, 0, 159), (28, .iload 5, 5, 0, 0, 0), (30, .iaload, 0, 0, 0, 0), (31, .ifCond .eq 14, 45, 0, 0, 0), (34, .aload_n 0, 0, 0, 0, 0), (35, .getfield 52, 23, 12, 0, 159), (38, .iload 5, 5, 0, 0, 0), (40, .iaload, 0, 0, 0, 0), (41, .iconst 1, 0, 0, 1, 0), (42, .if_icmp .ne 51, 93, 0, 0, 0), (45, .nop, 2, 0, 0, 0), (45, .aload_n 0, 0, 0, 0, 0), (46, .getfield 80, 42, 12, 0, 168), (49, .iload 4, 4, 0, 0, 0), (51, .aload_n 0, 0, 0, 0, 0), (52, .getfield 52, 23, 12, 0, 159), (55, .iload 5, 5, 0, 0, 0), (57, .iaload, 0, 0, 0, 0), (58, .ifCond .ne 13, 71, 0, 0, 0), (61, .aload_n 0, 0, 0, 0, 0), (62, .getfield 55, 24, 12, 0, 160), (65, .iload 5, 5, 0, 0, 0), (67, .iaload, 0, 0, 0, 0), (68, .goto 15, 83, 0, 0, 0), (71, .aload_n 0, 0, 0, 0, 0), (72, .getfield 77, 41, 12, 0, 167), (75, .aload_n 0, 0, 0, 0, 0), (76, .getfield 55, 24, 12, 0, 160), (79, .iload 5, 5, 0, 0, 0), (81, .iaload, 0, 0, 0, 0), (82, .iaload, 0, 0, 0, 0), (83, .nop, 2, 0, 0, 0), (83, .iastore, 0, 0, 0, 0), (84, .iload 4, 4, 0, 0, 0), (86, .iconst 1, 0, 0, 1, 0), (87, .iadd, 0, 0, 0, 0), (88, .istore 4, 4, 0, 0, 0), (90, .goto 80, 170, 0, 0, 0), (93, .aload_n 0, 0, 0, 0, 0), (94, .getfield 52, 23, 12, 0, 159), (97, .iload 5, 5, 0, 0, 0), (99, .iaload, 0, 0, 0, 0), (100, .bipush 9, 0, 0, 9, 0), (102, .if_icmp .ne 26, 128, 0, 0, 0), (105, .aload_n 0, 0, 0, 0, 0), (106, .getfield 80, 42, 12, 0, 168), (109, .iload 4, 4, 0, 0, 0), (111, .iconst 1, 0, 0, 1, 0), (112, .isub, 0, 0, 0, 0), (113, .iconst 1, 0, 0, 1, 0), (114, .aload_n 0, 0, 0, 0, 0), (115, .getfield 80, 42, 12, 0, 168), (118, .iload 4, 4, 0, 0, 0), (120, .iconst 1, 0, 0, 1, 0), (121, .isub, 0, 0, 0, 0), (122, .iaload, 0, 0, 0, 0), (123, .isub, 0, 0, 0, 0), (124, .iastore, 0, 0, 0, 0), (125, .goto 45, 170, 0, 0, 0), (128, .iload 4, 4, 0, 0, 0), (130, .iconst 1, 0, 0, 1, 0), (131, .isub, 0, 0, 0, 0), (132, .istore 4, 4, 0, 0, 0), (134, .aload_n 0, 0, 0, 0, 0), (135, .getfield 80, 42, 12, 0, 168), (138, .iload 4, 4, 0, 0, 0), (140, .iconst 1, 0, 0, 1, 0), (141, .isub, 0, 0, 0, 0), (142, .aload_n 0, 0, 0, 0, 0), (143, .aload_n 0, 0, 0, 0, 0), (144, .getfield 52, 23, 12, 0, 159), (147, .iload 5, 5, 0, 0, 0), (149, .iaload, 0, 0, 0, 0), (150, .aload_n 0, 0, 0, 0, 0), (151, .getfield 80, 42, 12, 0, 168), (154, .iload 4, 4, 0, 0, 0), (156, .iconst 1, 0, 0, 1, 0), (157, .isub, 0, 0, 0, 0), (158, .iaload, 0, 0, 0, 0), (159, .aload_n 0, 0, 0, 0, 0), (160, .getfield 80, 42, 12, 0, 168), (163, .iload 4, 4, 0, 0, 0), (165, .iaload, 0, 0, 0, 0), (166, .invokevirtual 296, 214, 1, 0, 207), (169, .iastore, 0, 0, 0, 0), (170, .iinc 5 1, 5, 0, 1, 0), (173, .goto (-161), 12, 0, 0, 0), (176, .aload_n 0, 0, 0, 0, 0), (177, .getfield 80, 42, 12, 0, 168), (180, .iconst 0, 0, 0, 0, 0), (181, .iaload, 0, 0, 0, 0), (182, .ireturn, 0, 0, 0, 0)]
/-- CardDrawerModel.lineOf(I)I -/
def cd216 : List pI := [(0, .iconst 0, 0, 0, 0, 0), (1, .istore_n 2, 2, 0, 0, 0), (2, .iload_n 2, 2, 0, 0, 0), (3, .aload_n 0, 0, 0, 0, 0), (4, .getfield 37, 18, 12, 0, 154), (7, .iconst 0, 0, 0, 0, 0), (8, .iaload, 0, 0, 0, 0), (9, .if_icmp .ge 56, 65, 0, 0, 0), (12, .aload_n 0, 0, 0, 0, 0), (13, .getfield 40, 19, 12, 0, 155), (16, .iload_n 2, 2, 0, 0, 0), (17, .iaload, 0, 0, 0, 0), (18, .iload_n 1, 1, 0, 0, 0), (19, .if_icmp .ne 40, 59, 0, 0, 0), (22, .aload_n 0, 0, 0, 0, 0), (23, .getfield 46, 21, 12, 0, 157), (26, .iload_n 2, 2, 0, 0, 0), (27, .iaload, 0, 0, 0, 0), (28, .aload_n 0, 0, 0, 0, 0), (29, .getfield 49, 22, 12, 0, 158), (32, .iload_n 2, 2, 0, 0, 0), (33, .iaload, 0, 0, 0, 0), (34, .if_icmp .eq 23, 57, 0, 0, 0), (37, .aload_n 0, 0, 0, 0, 0), (38, .iconst 0, 0, 0, 0, 0), (39, .aload_n 0, 0, 0, 0, 0), (40, .getfield 46, 21, 12, 0, 157), (43, .iload_n 2, 2, 0, 0, 0), (44, .iaload, 0, 0, 0, 0), (45, .aload_n 0, 0, 0, 0, 0), (46, .getfield 49, 22, 12, 0, 158), (49, .iload_n 2, 2, 0, 0, 0), (50, .iaload, 0, 0, 0, 0), (51, .invokevirtual 299, 215, 1, 0, 208), (54, .ifCond .eq 5, 59, 0, 0, 0), (57, .iload_n 2, 2, 0, 0, 0), (58, .ireturn, 0, 0, 0, 0), (59, .iinc 2 1, 2, 0, 1, 0), (62, .goto (-60), 2, 0, 0, 0), (65, .iconst (-1), 0, 0, (-1), 0), (66, .ireturn, 0, 0, 0, 0)]
/-- CardDrawerModel.lawTells(IIII)I -/
def cd217 : List pI := [(0, .aload_n 0, 0, 0, 0, 0), (1, .getfield 77, 41, 12, 0, 167), (4, .iconst 0, 0, 0, 0, 0), (5, .aload_n 0, 0, 0, 0, 0), (6, .getfield 19, 7, 12, 0, 148), (9, .iload_n 1, 1, 0, 0, 0), (10, .iaload, 0, 0, 0, 0), (11, .iastore, 0, 0, 0, 0), (12, .aload_n 0, 0, 0, 0, 0), (13, .getfield 77, 41, 12, 0, 167), (16, .iconst 1, 0, 0, 1, 0), (17, .aload_n 0, 0, 0, 0, 0), (18, .getfield 22, 8, 12, 0, 149), (21, .iload_n 1, 1, 0, 0, 0), (22, .iaload, 0, 0, 0, 0), (23, .iastore, 0, 0, 0, 0), (24, .aload_n 0, 0, 0, 0, 0), (25, .getfield 77, 41, 12, 0, 167), (28, .iconst 2, 0, 0, 2, 0), (29, .aload_n 0, 0, 0, 0, 0), (30, .getfield 25, 9, 12, 0, 150), (33, .iload_n 1, 1, 0, 0, 0), (34, .iaload, 0, 0, 0, 0), (35, .iastore, 0, 0, 0, 0), (36, .aload_n 0, 0, 0, 0, 0), (37, .getfield 77, 41, 12, 0, 167), (40, .iconst 3, 0, 0, 3, 0), (41, .aload_n 0, 0, 0, 0, 0), (42, .getfield 7, 1, 12, 0, 145), (45, .bipush 6, 0, 0, 6, 0), (47, .iload_n 1, 1, 0, 0, 0), (48, .iadd, 0, 0, 0, 0), (49, .iaload, 0, 0, 0, 0), (50, .iastore, 0, 0, 0, 0), (51, .aload_n 0, 0, 0, 0, 0), (52, .getfield 77, 41, 12, 0, 167), (55, .iconst 4, 0, 0, 4, 0), (56, .aload_n 0, 0, 0, 0, 0), (57, .getfield 7, 1, 12, 0, 145), (60, .bipush 62, 0, 0, 62, 0), (62, .iload_n 1, 1, 0, 0, 0), (63, .iadd, 0, 0, 0, 0), (64, .iaload, 0, 0, 0, 0), (65, .iastore, 0, 0, 0, 0), (66, .aload_n 0, 0, 0, 0, 0), (67, .getfield 77, 41, 12, 0, 167), (70, .iconst 5, 0, 0, 5, 0), (71, .aload_n 0, 0, 0, 0, 0), (72, .getfield 7, 1, 12, 0, 145), (75, .bipush 20, 0, 0, 20, 0), (77, .iload_n 1, 1, 0, 0, 0), (78, .iadd, 0, 0, 0, 0), (79, .iaload, 0, 0, 0, 0), (80, .iastore, 0, 0, 0, 0), (81, .aload_n 0, 0, 0, 0, 0), (82, .getfield 77, 41, 12, 0, 167), (85, .bipush 6, 0, 0, 6, 0), (87, .aload_n 0, 0, 0, 0, 0), (88, .getfield 7, 1, 12, 0, 145), (91, .bipush 34, 0, 0, 34, 0), (93, .iload_n 1, 1, 0, 0, 0), (94, .iadd, 0, 0, 0, 0), (95, .iaload, 0, 0, 0, 0), (96, .iastore, 0, 0, 0, 0), (97, .aload_n 0, 0, 0, 0, 0), (98, .getfield 77, 41, 12, 0, 167), (101, .bipush 7, 0, 0, 7, 0), (103, .aload_n 0, 0, 0, 0, 0), (104, .iload_n 1, 1, 0, 0, 0), (105, .invokevirtual 302, 218, 1, 0, 209), (108, .iastore, 0, 0, 0, 0), (109, .aload_n 0, 0, 0, 0, 0), (110, .getfield 77, 41, 12, 0, 167), (113, .bipush 8, 0, 0, 8, 0), (115, .aload_n 0, 0, 0, 0, 0), (116, .getfield 7, 1, 12, 0, 145), (119, .iconst 0, 0, 0, 0, 0), (120, .iaload, 0, 0, 0, 0), (121, .iastore, 0, 0, 0, 0), (122, .aload_n 0, 0, 0, 0, 0), (123, .iload_n 2, 2, 0, 0, 0), (124, .invokevirtual 305, 216, 1, 0, 210), (127, .istore 5, 5, 0, 0, 0), (129, .aload_n 0, 0, 0, 0, 0), (130, .iload 5, 5, 0, 0, 0), (132, .iconst (-1), 0, 0, (-1), 0), (133, .if_icmp .ne 7, 140, 0, 0, 0), (136, .iload_n 3, 3, 0, 0, 0), (137, .goto 22, 159, 0, 0, 0), (140, .aload_n 0, 0, 0, 0, 0), (141, .iconst 0, 0, 0, 0, 0), (142, .aload_n 0, 0, 0, 0, 0), (143, .getfield 43, 20, 12, 0, 156), (146, .iload 5, 5, 0, 0, 0), (148, .iaload, 0, 0, 0, 0), (149, .aload_n 0, 0, 0, 0, 0), (150, .getfield 46, 21, 12, 0, 157), (153, .iload 5, 5, 0, 0, 0), (155, .iaload, 0, 0, 0, 0), (156, .invokevirtual 299, 215, 1, 0, 208), (159, .iconst 0, 0, 0, 0, 0), (160, .iload 4, 4, 0, 0, 0), (162, .invokevirtual 308, 159, 1, 0, 211), (165, .ireturn, 0, 0, 0, 0)]
/-- CardDrawerModel.ageOf(I)I -/
def cd218 : List pI := [(0, .aload_n 0, 0, 0, 0, 0), (1, .iconst 0, 0, 0, 0, 0), (2, .aload_n 0, 0, 0, 0, 0), (3, .getfield 7, 1, 12, 0, 145), (6, .iconst 0, 0, 0, 0, 0), (7, .iaload, 0, 0, 0, 0), (8, .aload_n 0, 0, 0, 0, 0), (9, .getfield 7, 1, 12, 0, 145), (12, .bipush 6, 0, 0, 6, 0), (14, .iload_n 1, 1, 0, 0, 0), (15, .iadd, 0, 0, 0, 0), (16, .iaload, 0, 0, 0, 0), (17, .isub, 0, 0, 0, 0), (18, .invokevirtual 311, 160, 1, 0, 212), (21, .ireturn, 0, 0, 0, 0)]
/-- CardDrawerModel.holdsOf(I)I -/
def cd219 : List pI := [(0, .aload_n 0, 0, 0, 0, 0), (1, .iload_n 1, 1, 0, 0, 0), (2, .iconst 0, 0, 0, 0, 0), (3, .sipush 900, 0, 0, 900, 0), (6, .bipush 20, 0, 0, 20, 0), (8, .aload_n 0, 0, 0, 0, 0), (9, .iload_n 1, 1, 0, 0, 0), (10, .invokevirtual 302, 218, 1, 0, 209), (13, .imul, 0, 0, 0, 0), (14, .isub, 0, 0, 0, 0), (15, .sipush 1000, 0, 0, 1000, 0), (18, .invokevirtual 314, 217, 1, 0, 213), (21, .ireturn, 0, 0, 0, 0)]
/-- CardDrawerModel.dustOf(I)I -/
def cd220 : List pI := [(0, .aload_n 0, 0, 0, 0, 0), (1, .iload_n 1, 1, 0, 0, 0), (2, .iconst 1, 0, 0, 1, 0), (3, .aload_n 0, 0, 0, 0, 0), (4, .iload_n 1, 1, 0, 0, 0), (5, .invokevirtual 302, 218, 1, 0, 209), (8, .bipush 9, 0, 0, 9, 0), (10, .idiv, 0, 0, 0, 0), (11, .bipush 99, 0, 0, 99, 0), (13, .invokevirtual 314, 217, 1, 0, 213), (16, .ireturn, 0, 0, 0, 0)]
/-- CardDrawerModel.worthOf(I)I -/
def cd221 : List pI := [(0, .aload_n 0, 0, 0, 0, 0), (1, .iload_n 1, 1, 0, 0, 0), (2, .iconst 2, 0, 0, 2, 0), (3, .bipush 99, 0, 0, 99, 0), (5, .aload_n 0, 0, 0, 0, 0), (6, .iload_n 1, 1, 0, 0, 0), (7, .invokevirtual 302, 218, 1, 0, 209), (10, .isub, 0, 0, 0, 0), (11, .sipush 999, 0, 0, 999, 0), (14, .invokevirtual 314, 217, 1, 0, 213), (17, .ireturn, 0, 0, 0, 0)]
/-- CardDrawerModel.notes(III)V -/
def cd222 : List pI := [(0, .aload_n 0, 0, 0, 0, 0), (1, .getfield 122, 5, 12, 0, 182), (4, .ifCond .ne 15, 19, 0, 0, 0), (7, .aload_n 0, 0, 0, 0, 0), (8, .getfield 7, 1, 12, 0, 145), (11, .iconst 2, 0, 0, 2, 0), (12, .iaload, 0, 0, 0, 0), (13, .sipush 150, 0, 0, 150, 0), (16, .if_icmp .ne 4, 20, 0, 0, 0), (19, .return_, 0, 0, 0, 0), (20, .iconst 4, 0, 0, 4, 0), (21, .aload_n 0, 0, 0, 0, 0), (22, .getfield 7, 1, 12, 0, 145), (25, .iconst 2, 0, 0, 2, 0), (26, .iaload, 0, 0, 0, 0), (27, .imul, 0, 0, 0, 0), (28, .istore 4, 4, 0, 0, 0), (30, .aload_n 0, 0, 0, 0, 0), (31, .getfield 28, 10, 12, 0, 151), (34, .iload 4, 4, 0, 0, 0), (36, .aload_n 0, 0, 0, 0, 0), (37, .getfield 7, 1, 12, 0, 145), (40, .iconst 0, 0, 0, 0, 0), (41, .iaload, 0, 0, 0, 0), (42, .iastore, 0, 0, 0, 0), (43, .aload_n 0, 0, 0, 0, 0), (44, .getfield 28, 10, 12, 0, 151), (47, .iload 4, 4, 0, 0, 0), (49, .iconst 1, 0, 0, 1, 0), (50, .iadd, 0, 0, 0, 0), (51, .iload_n 1, 1, 0, 0, 0), (52, .iastore, 0, 0, 0, 0), (53, .aload_n 0, 0, 0, 0, 0), (54, .getfield 28, 10, 12, 0, 151), (57, .iload 4, 4, 0, 0, 0), (59, .iconst 2, 0, 0, 2, 0), (60, .iadd, 0, 0, 0, 0), (61, .iload_n 2, 2, 0, 0, 0), (62, .iastore, 0, 0, 0, 0), (63, .aload_n 0, 0, 0, 0, 0), (64, .getfield 28, 10, 12, 0, 151), (67, .iload 4, 4, 0, 0, 0), (69, .iconst 3, 0, 0, 3, 0), (70, .iadd, 0, 0, 0, 0), (71, .iload_n 3, 3, 0, 0, 0), (72, .iastore, 0, 0, 0, 0), (73, .aload_n 0, 0, 0, 0, 0), (74, .getfield 7, 1, 12, 0, 145), (77, .iconst 2, 0, 0, 2, 0), (78, .aload_n 0, 0, 0, 0, 0), (79, .getfield 7, 1, 12, 0, 145), (82, .iconst 2, 0, 0, 2, 0), (83, .iaload, 0, 0, 0, 0), (84, .iconst 1, 0, 0, 1, 0), (85, .iadd, 0, 0, 0, 0), (86, .iastore, 0, 0, 0, 0), (87, .return_, 0, 0, 0, 0)]
/-- CardDrawerModel.bestCard(II)I -/
def cd223 : List pI := [(0, .iconst (-1), 0, 0, (-1), 0), (1, .istore_n 3, 3, 0, 0, 0), (2, .iconst 0, 0, 0, 0, 0), (3, .istore 4, 4, 0, 0, 0), (5, .iload 4, 4, 0, 0, 0), (7, .aload_n 0, 0, 0, 0, 0), (8, .getfield 128, 6, 12, 0, 183), (11, .if_icmp .ge 73, 84, 0, 0, 0), (14, .aload_n 0, 0, 0, 0, 0), (15, .iload 4, 4, 0, 0, 0), (17, .invokevirtual 131, 172, 1, 0, 170), (20, .ifCond .eq 58, 78, 0, 0, 0), (23, .iload_n 1, 1, 0, 0, 0), (24, .iconst (-1), 0, 0, (-1), 0), (25, .if_icmp .ne 17, 42, 0, 0, 0), (28, .aload_n 0, 0, 0, 0, 0), (29, .getfield 25, 9, 12, 0, 150), (32, .iload 4, 4, 0, 0, 0), (34, .iaload, 0, 0, 0, 0), (35, .iload_n 2, 2, 0, 0, 0), (36, .if_icmp .eq 20, 56, 0, 0, 0), (39, .goto 39, 78, 0, 0, 0), (42, .aload_n 0, 0, 0, 0, 0), (43, .getfield 19, 7, 12, 0, 148), (46, .iload 4, 4, 0, 0, 0), (48, .iaload, 0, 0, 0, 0), (49, .iload_n 1, 1, 0, 0, 0), (50, .if_icmp .eq 6, 56, 0, 0, 0), (53, .goto 25, 78, 0, 0, 0), (56, .iload_n 3, 3, 0, 0, 0), (57, .iconst (-1), 0, 0, (-1), 0), (58, .if_icmp .eq 17, 75, 0, 0, 0), (61, .aload_n 0, 0, 0, 0, 0), (62, .iload 4, 4, 0, 0, 0), (64, .invokevirtual 318, 219, 1, 0, 214), (67, .aload_n 0, 0, 0, 0, 0), (68, .iload_n 3, 3, 0, 0, 0), (69, .invokevirtual 318, 219, 1, 0, 214), (72, .if_icmp .le 6, 78, 0, 0, 0), (75, .iload 4, 4, 0, 0, 0), (77, .istore_n 3, 3, 0, 0, 0), (78, .iinc 4 1, 4, 0, 1, 0), (81, .goto (-76), 5, 0, 0, 0), (84, .iload_n 3, 3, 0, 0, 0), (85, .ireturn, 0, 0, 0, 0)]
/-- CardDrawerModel.doesHold(II)Z -/
def cd224 : List pI := [(0, .aload_n 0, 0, 0, 0, 0), (1, .getfield 7, 1, 12, 0, 145), (4, .bipush 34, 0, 0, 34, 0), (6, .iload_n 1, 1, 0, 0, 0), (7, .iadd, 0, 0, 0, 0), (8, .aload_n 0, 0, 0, 0, 0), (9, .getfield 7, 1, 12, 0, 145), (12, .bipush 34, 0, 0, 34, 0), (14, .iload_n 1, 1, 0, 0, 0), (15, .iadd, 0, 0, 0, 0), (16, .iaload, 0, 0, 0, 0), (17, .iconst 1, 0, 0, 1, 0), (18, .iadd, 0, 0, 0, 0), (19, .iastore, 0, 0, 0, 0), (20, .aload_n 0, 0, 0, 0, 0), (21, .getfield 122, 5, 12, 0, 182), (24, .ifCond .eq 20, 44, 0, 0, 0), (27, .iconst 2, 0, 0, 2, 0), (28, .iload_n 2, 2, 0, 0, 0), (29, .imul, 0, 0, 0, 0), (30, .sipush 1000, 0, 0, 1000, 0), (33, .if_icmp .lt 7, 40, 0, 0, 0), (36, .iconst 1, 0, 0, 1, 0), (37, .goto 23, 60, 0, 0, 0), (40, .iconst 0, 0, 0, 0, 0), (41, .goto 19, 60, 0, 0, 0), (44, .aload_n 0, 0, 0, 0, 0), (45, .sipush 1000, 0, 0, 1000, 0), (48, .invokevirtual 321, 169, 1, 0, 215), (51, .iload_n 2, 2, 0, 0, 0), (52, .if_icmp .ge 7, 59, 0, 0, 0), (55, .iconst 1, 0, 0, 1, 0), (56, .goto 4, 60, 0, 0, 0), (59, .iconst 0, 0, 0, 0, 0), (60, .ireturn, 1, 0, 0, 0)]
/-- CardDrawerModel.rings(I)I -/
def cd225 : List pI := [(0, .aload_n 0, 0, 0, 0, 0), (1, .iload_n 1, 1, 0, 0, 0), (2, .iconst (-1), 0, 0, (-1), 0), (3, .invokevirtual 324, 223, 1, 0, 216), (6, .istore_n 2, 2, 0, 0, 0), (7, .aload_n 0, 0, 0, 0, 0), (8, .iload_n 2, 2, 0, 0, 0), (9, .invokevirtual 318, 219, 1, 0, 214), (12, .istore_n 3, 3, 0, 0, 0), (13, .aload_n 0, 0, 0, 0, 0), (14, .iload_n 2, 2, 0, 0, 0), (15, .iload_n 3, 3, 0, 0, 0), (16, .invokevirtual 327, 224, 1, 0, 217), (19, .istore 4, 4, 0, 0, 0), (21, .iload 4, 4, 0, 0, 0), (23, .ifCond .eq 21, 44, 0, 0, 0), (26, .aload_n 0, 0, 0, 0, 0), (27, .getfield 7, 1, 12, 0, 145), (30, .bipush 6, 0, 0, 6, 0), (32, .iload_n 2, 2, 0, 0, 0), (33, .iadd, 0, 0, 0, 0), (34, .aload_n 0, 0, 0, 0, 0), (35, .getfield 7, 1, 12, 0, 145), (38, .iconst 0, 0, 0, 0, 0), (39, .iaload, 0, 0, 0, 0), (40, .iastore, 0, 0, 0, 0), (41, .goto 30, 71, 0, 0, 0), (44, .aload_n 0, 0, 0, 0, 0), (45, .getfield 7, 1, 12, 0, 145), (48, .bipush 20, 0, 0, 20, 0), (50, .iload_n 2, 2, 0, 0, 0), (51, .iadd, 0, 0, 0, 0), (52, .aload_n 0, 0, 0, 0, 0), (53, .bipush 99, 0, 0, 99, 0), (55, .aload_n 0, 0, 0, 0, 0), (56, .getfield 7, 1, 12, 0, 145), (59, .bipush 20, 0, 0, 20, 0), (61, .iload_n 2, 2, 0, 0, 0), (62, .iadd, 0, 0, 0, 0), (63, .iaload, 0, 0, 0, 0), (64, .bipush 9, 0, 0, 9, 0), (66, .iadd, 0, 0, 0, 0), (67, .invokevirtual 331, 161, 1, 0, 218), (70, .iastore, 0, 0, 0, 0), (71, .nop, 1, 0, 0, 0), (71, .aload_n 0, 0, 0, 0, 0), (72, .iload 4, 4, 0, 0, 0), (74, .ifCond .eq 7, 81, 0, 0, 0), (77, .iconst 0, 0, 0, 0, 0), (78, .goto 4, 82, 0, 0, 0), (81, .iconst 1, 0, 0, 1, 0), (82, .nop, 0, 0, 0, 0), (82, .nop, 1, 0, 0, 0), (82, .iload_n 2, 2, 0, 0, 0), (83, .iload_n 3, 3, 0, 0, 0), (84, .invokevirtual 334, 222, 0, 0, 219), (87, .iload 4, 4, 0, 0, 0), (89, .ifCond .eq 7, 96, 0, 0, 0), (92, .iconst 1, 0, 0, 1, 0), (93, .goto 4, 97, 0, 0, 0), (96, .iconst 0, 0, 0, 0, 0), (97, .ireturn, 0, 0, 0, 0)]
/-- CardDrawerModel.leastWorth()I -/
def cd226 : List pI := [(0, .iconst (-1), 0, 0, (-1), 0), (1, .istore_n 1, 1, 0, 0, 0), (2, .iconst 0, 0, 0, 0, 0), (3, .istore_n 2, 2, 0, 0, 0), (4, .iload_n 2, 2, 0, 0, 0), (5, .aload_n 0, 0, 0, 0, 0), (6, .getfield 128, 6, 12, 0, 183), (9, .if_icmp .ge 37, 46, 0, 0, 0), (12, .aload_n 0, 0, 0, 0, 0), (13, .iload_n 2, 2, 0, 0, 0), (14, .invokevirtual 131, 172, 1, 0, 170), (17, .ifCond .eq 23, 40, 0, 0, 0), (20, .iload_n 1, 1, 0, 0, 0), (21, .iconst (-1), 0, 0, (-1), 0), (22, .if_icmp .eq 16, 38, 0, 0, 0), (25, .aload_n 0, 0, 0, 0, 0), (26, .iload_n 2, 2, 0, 0, 0), (27, .invokevirtual 338, 221, 1, 0, 220), (30, .aload_n 0, 0, 0, 0, 0), (31, .iload_n 1, 1, 0, 0, 0), (32, .invokevirtual 338, 221, 1, 0, 220), (35, .if_icmp .ge 5, 40, 0, 0, 0), (38, .iload_n 2, 2, 0, 0, 0), (39, .istore_n 1, 1, 0, 0, 0), (40, .iinc 2 1, 2, 0, 1, 0), (43, .goto (-39), 4, 0, 0, 0), (46, .iload_n 1, 1, 0, 0, 0), (47, .ireturn, 0, 0, 0, 0)]
/-- CardDrawerModel.throwsSome(I)I -/
def cd227 : List pI := [(0, .iconst 0, 0, 0, 0, 0), (1, .istore_n 2, 2, 0, 0, 0), (2, .iconst 0, 0, 0, 0, 0), (3, .istore_n 3, 3, 0, 0, 0), (4, .nop, 4, 0, 0, 0), (4, .iload_n 3, 3, 0, 0, 0), (5, .iload_n 1, 1, 0, 0, 0), (6, .if_icmp .ge 52, 58, 0, 0, 0), (9, .aload_n 0, 0, 0, 0, 0), (10, .invokevirtual 341, 226, 1, 0, 221), (13, .istore 4, 4, 0, 0, 0), (15, .iload 4, 4, 0, 0, 0), (17, .iconst (-1), 0, 0, (-1), 0), (18, .if_icmp .ne 6, 24, 0, 0, 0), (21, .goto 31, 52, 0, 0, 0), (24, .aload_n 0, 0, 0, 0, 0), (25, .iconst 2, 0, 0, 2, 0), (26, .iload 4, 4, 0, 0, 0), (28, .aload_n 0, 0, 0, 0, 0), (29, .iload 4, 4, 0, 0, 0), (31, .invokevirtual 338, 221, 1, 0, 220), (34, .invokevirtual 334, 222, 0, 0, 219), (37, .aload_n 0, 0, 0, 0, 0), (38, .getfield 7, 1, 12, 0, 145), (41, .bipush 48, 0, 0, 48, 0), (43, .iload 4, 4, 0, 0, 0), (45, .iadd, 0, 0, 0, 0), (46, .iconst 1, 0, 0, 1, 0), (47, .iastore, 0, 0, 0, 0), (48, .iload_n 2, 2, 0, 0, 0), (49, .iconst 1, 0, 0, 1, 0), (50, .iadd, 0, 0, 0, 0), (51, .istore_n 2, 2, 0, 0, 0), (52, .iinc 3 1, 3, 0, 1, 0), (55, .goto (-51), 4, 0, 0, 0), (58, .iload_n 2, 2, 0, 0, 0), (59, .ireturn, 0, 0, 0, 0)]
/-- CardDrawerModel.bends(I)V -/
def cd228 : List pI := [(0, .aload_n 0, 0, 0, 0, 0), (1, .getfield 7, 1, 12, 0, 145), (4, .bipush 62, 0, 0, 62, 0), (6, .iload_n 1, 1, 0, 0, 0), (7, .iadd, 0, 0, 0, 0), (8, .iconst 1, 0, 0, 1, 0), (9, .aload_n 0, 0, 0, 0, 0), (10, .getfield 7, 1, 12, 0, 145), (13, .bipush 62, 0, 0, 62, 0), (15, .iload_n 1, 1, 0, 0, 0), (16, .iadd, 0, 0, 0, 0), (17, .iaload, 0, 0, 0, 0), (18, .isub, 0, 0, 0, 0), (19, .iastore, 0, 0, 0, 0), (20, .aload_n 0, 0, 0, 0, 0), (21, .iconst 3, 0, 0, 3, 0), (22, .iload_n 1, 1, 0, 0, 0), (23, .aload_n 0, 0, 0, 0, 0), (24, .getfield 7, 1, 12, 0, 145), (27, .bipush 62, 0, 0, 62, 0), (29, .iload_n 1, 1, 0, 0, 0), (30, .iadd, 0, 0, 0, 0), (31, .iaload, 0, 0, 0, 0), (32, .invokevirtual 334, 222, 0, 0, 219), (35, .return_, 0, 0, 0, 0)]
/-- CardDrawerModel.finds(I)V -/
def cd229 : List pI := [(0, .aload_n 0, 0, 0, 0, 0), (1, .getfield 7, 1, 12, 0, 145), (4, .bipush 48, 0, 0, 48, 0), (6, .iload_n 1, 1, 0, 0, 0), (7, .iadd, 0, 0, 0, 0), (8, .iconst 0, 0, 0, 0, 0), (9, .iastore, 0, 0, 0, 0), (10, .aload_n 0, 0, 0, 0, 0), (11, .getfield 7, 1, 12, 0, 145), (14, .bipush 20, 0, 0, 20, 0), (16, .iload_n 1, 1, 0, 0, 0), (17, .iadd, 0, 0, 0, 0), (18, .iconst 0, 0, 0, 0, 0), (19, .iastore, 0, 0, 0, 0), (20, .aload_n 0, 0, 0, 0, 0), (21, .iconst 4, 0, 0, 4, 0), (22, .iload_n 1, 1, 0, 0, 0), (23, .iconst 0, 0, 0, 0, 0), (24, .invokevirtual 334, 222, 0, 0, 219), (27, .return_, 0, 0, 0, 0)]
/-- CardDrawerModel.ring(I)I -/
def cd230 : List pI := [(0, .aload_n 0, 0, 0, 0, 0), (1, .iconst 0, 0, 0, 0, 0), (2, .putfield 116, 0, 12, 0, 181), (5, .aload_n 0, 0, 0, 0, 0), (6, .iload_n 1, 1, 0, 0, 0), (7, .invokevirtual 135, 171, 1, 0, 171), (10, .ifCond .eq 13, 23, 0, 0, 0), (13, .aload_n 0, 0, 0, 0, 0), (14, .iload_n 1, 1, 0, 0, 0), (15, .iconst (-1), 0, 0, (-1), 0), (16, .invokevirtual 324, 223, 1, 0, 216), (19, .iconst (-1), 0, 0, (-1), 0), (20, .if_icmp .ne 5, 25, 0, 0, 0), (23, .iconst (-1), 0, 0, (-1), 0), (24, .ireturn, 0, 0, 0, 0), (25, .aload_n 0, 0, 0, 0, 0), (26, .invokevirtual 344, 164, 0, 0, 222), (29, .aload_n 0, 0, 0, 0, 0), (30, .iload_n 1, 1, 0, 0, 0), (31, .invokevirtual 347, 225, 1, 0, 223), (34, .ireturn, 0, 0, 0, 0)]
/-- CardDrawerModel.toss(I)I -/
def cd231 : List pI := [(0, .aload_n 0, 0, 0, 0, 0), (1, .iconst 0, 0, 0, 0, 0), (2, .putfield 116, 0, 12, 0, 181), (5, .aload_n 0, 0, 0, 0, 0), (6, .iload_n 1, 1, 0, 0, 0), (7, .iconst 1, 0, 0, 1, 0), (8, .bipush 14, 0, 0, 14, 0), (10, .invokevirtual 138, 158, 1, 0, 172), (13, .ifCond .ne 5, 18, 0, 0, 0), (16, .iconst (-1), 0, 0, (-1), 0), (17, .ireturn, 0, 0, 0, 0), (18, .aload_n 0, 0, 0, 0, 0), (19, .invokevirtual 344, 164, 0, 0, 222), (22, .aload_n 0, 0, 0, 0, 0), (23, .iload_n 1, 1, 0, 0, 0), (24, .invokevirtual 350, 227, 1, 0, 224), (27, .ireturn, 0, 0, 0, 0)]
/-- CardDrawerModel.does(IZ)Z -/
def cd232 : List pI := [(0, .aload_n 0, 0, 0, 0, 0), (1, .iconst 0, 0, 0, 0, 0), (2, .putfield 116, 0, 12, 0, 181), (5, .aload_n 0, 0, 0, 0, 0), (6, .iload_n 1, 1, 0, 0, 0), (7, .invokevirtual 142, 170, 1, 0, 173), (10, .ifCond .eq 15, 25, 0, 0, 0), (13, .iload_n 2, 2, 0, 0, 0), (14, .ifCond .eq 13, 27, 0, 0, 0), (17, .aload_n 0, 0, 0, 0, 0), (18, .iload_n 1, 1, 0, 0, 0), (19, .invokevirtual 131, 172, 1, 0, 170), (22, .ifCond .eq 5, 27, 0, 0, 0), (25, .iconst 0, 0, 0, 0, 0), (26, .ireturn, 1, 0, 0, 0), (27, .aload_n 0, 0, 0, 0, 0), (28, .invokevirtual 344, 164, 0, 0, 222), (31, .iload_n 2, 2, 0, 0, 0), (32, .ifCond .eq 11, 43, 0, 0, 0), (35, .aload_n 0, 0, 0, 0, 0), (36, .iload_n 1, 1, 0, 0, 0), (37, .invokevirtual 353, 229, 0, 0, 225), (40, .goto 8, 48, 0, 0, 0), (43, .aload_n 0, 0, 0, 0, 0), (44, .iload_n 1, 1, 0, 0, 0), (45, .invokevirtual 356, 228, 0, 0, 226), (48, .iconst 1, 0, 0, 1, 0), (49, .ireturn, 1, 0, 0, 0)]
/-- CardDrawerModel.doesDeed(I)V -/
def cd233 : List pI := [(0, .aload_n 0, 0, 0, 0, 0), (1, .getfield 74, 40, 12, 0, 166), (4, .iload_n 1, 1, 0, 0, 0), (5, .iconst 2, 0, 0, 2, 0), (6, .iadd, 0, 0, 0, 0), (7, .iaload, 0, 0, 0, 0), (8, .istore_n 2, 2, 0, 0, 0), (9, .aload_n 0, 0, 0, 0, 0), (10, .getfield 74, 40, 12, 0, 166), (13, .iload_n 1, 1, 0, 0, 0), (14, .iconst 1, 0, 0, 1, 0), (15, .iadd, 0, 0, 0, 0), (16, .iaload, 0, 0, 0, 0), (17, .ifCond .ne 9, 26, 0, 0, 0), (20, .aload_n 0, 0, 0, 0, 0), (21, .iload_n 2, 2, 0, 0, 0), (22, .invokevirtual 350, 227, 1, 0, 224), (25, .pop, 0, 0, 0, 0), (26, .aload_n 0, 0, 0, 0, 0), (27, .getfield 74, 40, 12, 0, 166), (30, .iload_n 1, 1, 0, 0, 0), (31, .iconst 1, 0, 0, 1, 0), (32, .iadd, 0, 0, 0, 0), (33, .iaload, 0, 0, 0, 0), (34, .iconst 1, 0, 0, 1, 0), (35, .if_icmp .ne 19, 54, 0, 0, 0), (38, .aload_n 0, 0, 0, 0, 0), (39, .iload_n 2, 2, 0, 0, 0), (40, .iconst (-1), 0, 0, (-1), 0), (41, .invokevirtual 324, 223, 1, 0, 216), (44, .iconst (-1), 0, 0, (-1), 0), (45, .if_icmp .eq 9, 54, 0, 0, 0), (48, .aload_n 0, 0, 0, 0, 0), (49, .iload_n 2, 2, 0, 0, 0), (50, .invokevirtual 347, 225, 1, 0, 223), (53, .pop, 0, 0, 0, 0), (54, .aload_n 0, 0, 0, 0, 0), (55, .getfield 74, 40, 12, 0, 166), (58, .iload_n 1, 1, 0, 0, 0), (59, .iconst 1, 0, 0, 1, 0), (60, .iadd, 0, 0, 0, 0), (61, .iaload, 0, 0, 0, 0), (62, .iconst 2, 0, 0, 2, 0), (63, .if_icmp .ne 8, 71, 0, 0, 0), (66, .aload_n 0, 0, 0, 0, 0), (67, .iload_n 2, 2, 0, 0, 0), (68, .invokevirtual 356, 228, 0, 0, 226), (71, .aload_n 0, 0, 0, 0, 0), (72, .getfield 74, 40, 12, 0, 166), (75, .iload_n 1, 1, 0, 0, 0), (76, .iconst 1, 0, 0, 1, 0), (77, .iadd, 0, 0, 0, 0), (78, .iaload, 0, 0, 0, 0), (79, .iconst 3, 0, 0, 3, 0), (80, .if_icmp .ne 16, 96, 0, 0, 0), (83, .aload_n 0, 0, 0, 0, 0), (84, .iload_n 2, 2, 0, 0, 0), (85, .invokevirtual 131, 172, 1, 0, 170), (88, .ifCond .ne 8, 96, 0, 0, 0), (91, .aload_n 0, 0, 0, 0, 0), (92, .iload_n 2, 2, 0, 0, 0), (93, .invokevirtual 353, 229, 0, 0, 225), (96, .return_, 0, 0, 0, 0)]
/-- CardDrawerModel.isServed()Z -/
def cd234 : List pI := [(0, .aload_n 0, 0, 0, 0, 0), (1, .getfield 122, 5, 12, 0, 182), (4, .ifCond .eq 15, 19, 0, 0, 0), (7, .aload_n 0, 0, 0, 0, 0), (8, .getfield 7, 1, 12, 0, 145), (11, .iconst 0, 0, 0, 0, 0), (12, .iaload, 0, 0, 0, 0), (13, .bipush 6, 0, 0, 6, 0), (15, .irem, 0, 0, 0, 0), (16, .goto 9, 25, 0, 0, 0), (19, .aload_n 0, 0, 0, 0, 0), (20, .bipush 6, 0, 0, 6, 0), (22, .invokevirtual 321, 169, 1, 0, 215), (25, .nop, 1, 0, 0, 0), (25, .nop, 2, 0, 0, 0), (25, .nop, 3, 0, 0, 0), (25, .nop, 4, 0, 0, 0), (25, .nop, 5, 0, 0, 0), (25, .istore_n 1, 1, 0, 0, 0), (26, .aload_n 0, 0, 0, 0, 0), (27, .iconst (-1), 0, 0, (-1), 0), (28, .iload_n 1, 1, 0, 0, 0), (29, .invokevirtual 324, 223, 1, 0, 216), (32, .istore_n 2, 2, 0, 0, 0), (33, .iload_n 2, 2, 0, 0, 0), (34, .iconst (-1), 0, 0, (-1), 0), (35, .if_icmp .ne 27, 62, 0, 0, 0), (38, .aload_n 0, 0, 0, 0, 0), (39, .getfield 7, 1, 12, 0, 145), (42, .iconst 5, 0, 0, 5, 0), (43, .aload_n 0, 0, 0, 0, 0), (44, .getfield 7, 1, 12, 0, 145), (47, .iconst 5, 0, 0, 5, 0), (48, .iaload, 0, 0, 0, 0), (49, .iconst 1, 0, 0, 1, 0), (50, .iadd, 0, 0, 0, 0), (51, .iastore, 0, 0, 0, 0), (52, .aload_n 0, 0, 0, 0, 0), (53, .bipush 7, 0, 0, 7, 0), (55, .iload_n 1, 1, 0, 0, 0), (56, .iconst 0, 0, 0, 0, 0), (57, .invokevirtual 334, 222, 0, 0, 219), (60, .iconst 0, 0, 0, 0, 0), (61, .ireturn, 1, 0, 0, 0), (62, .aload_n 0, 0, 0, 0, 0), (63, .iload_n 2, 2, 0, 0, 0), (64, .invokevirtual 318, 219, 1, 0, 214), (67, .istore_n 3, 3, 0, 0, 0), (68, .aload_n 0, 0, 0, 0, 0), (69, .iload_n 2, 2, 0, 0, 0), (70, .iload_n 3, 3, 0, 0, 0), (71, .invokevirtual 327, 224, 1, 0, 217), (74, .istore 4, 4, 0, 0, 0), (76, .iload 4, 4, 0, 0, 0), (78, .ifCond .eq 7, 85, 0, 0, 0), (81, .iconst 3, 0, 0, 3, 0), (82, .goto 4, 86, 0, 0, 0), (85, .iconst 4, 0, 0, 4, 0), (86, .nop, 1, 0, 0, 0), (86, .nop, 5, 0, 0, 0), (86, .istore 5, 5, 0, 0, 0), (88, .aload_n 0, 0, 0, 0, 0), (89, .getfield 7, 1, 12, 0, 145), (92, .iload 5, 5, 0, 0, 0), (94, .aload_n 0, 0, 0, 0, 0), (95, .getfield 7, 1, 12, 0, 145), (98, .iload 5, 5, 0, 0, 0), (100, .iaload, 0, 0, 0, 0), (101, .iconst 1, 0, 0, 1, 0), (102, .iadd, 0, 0, 0, 0), (103, .iastore, 0, 0, 0, 0), (104, .aload_n 0, 0, 0, 0, 0), (105, .iload 4, 4, 0, 0, 0), (107, .ifCond .eq 7, 114, 0, 0, 0), (110, .iconst 5, 0, 0, 5, 0), (111, .goto 5, 116, 0, 0, 0), (114, .bipush 6, 0, 0, 6, 0), (116, .nop, 0, 0, 0, 0), (116, .nop, 1, 0, 0, 0), (116, .nop, 5, 0, 0, 0), (116, .iload_n 2, 2, 0, 0, 0), (117, .iload_n 3, 3, 0, 0, 0), (118, .invokevirtual 334, 222, 0, 0, 219), (121, .iload 4, 4, 0, 0, 0), (123, .ireturn, 1, 0, 0, 0)]
/-- CardDrawerModel.wears(I)V -/
def cd235 : List pI := [(0, .aload_n 0, 0, 0, 0, 0), (1, .getfield 7, 1, 12, 0, 145), (4, .bipush 20, 0, 0, 20, 0), (6, .iload_n 1, 1, 0, 0, 0), (7, .iadd, 0, 0, 0, 0), (8, .iaload, 0, 0, 0, 0), (9, .istore_n 2, 2, 0, 0, 0), (10, .aload_n 0, 0, 0, 0, 0), (11, .getfield 7, 1, 12, 0, 145), (14, .bipush 20, 0, 0, 20, 0), (16, .iload_n 1, 1, 0, 0, 0), (17, .iadd, 0, 0, 0, 0), (18, .aload_n 0, 0, 0, 0, 0), (19, .bipush 99, 0, 0, 99, 0), (21, .iload_n 2, 2, 0, 0, 0), (22, .aload_n 0, 0, 0, 0, 0), (23, .iload_n 1, 1, 0, 0, 0), (24, .invokevirtual 359, 220, 1, 0, 227), (27, .iadd, 0, 0, 0, 0), (28, .invokevirtual 331, 161, 1, 0, 218), (31, .iastore, 0, 0, 0, 0), (32, .aload_n 0, 0, 0, 0, 0), (33, .getfield 7, 1, 12, 0, 145), (36, .bipush 20, 0, 0, 20, 0), (38, .iload_n 1, 1, 0, 0, 0), (39, .iadd, 0, 0, 0, 0), (40, .iaload, 0, 0, 0, 0), (41, .bipush 99, 0, 0, 99, 0), (43, .if_icmp .ge 4, 47, 0, 0, 0), (46, .return_, 0, 0, 0, 0), (47, .aload_n 0, 0, 0, 0, 0), (48, .getfield 7, 1, 12, 0, 145), (51, .bipush 48, 0, 0, 48, 0), (53, .iload_n 1, 1, 0, 0, 0), (54, .iadd, 0, 0, 0, 0), (55, .iconst 1, 0, 0, 1, 0), (56, .iastore, 0, 0, 0, 0), (57, .aload_n 0, 0, 0, 0, 0), (58, .bipush 8, 0, 0, 8, 0), (60, .iload_n 1, 1, 0, 0, 0), (61, .iload_n 2, 2, 0, 0, 0), (62, .invokevirtual 334, 222, 0, 0, 219), (65, .return_, 0, 0, 0, 0)]
/-- CardDrawerModel.goesBy()I -/
def cd236 : List pI := [(0, .iconst 0, 0, 0, 0, 0), (1, .istore_n 1, 1, 0, 0, 0), (2, .nop, 2, 0, 0, 0), (2, .iload_n 1, 1, 0, 0, 0), (3, .aload_n 0, 0, 0, 0, 0), (4, .getfield 281, 39, 12, 0, 197), (7, .if_icmp .ge 33, 40, 0, 0, 0), (10, .aload_n 0, 0, 0, 0, 0), (11, .getfield 74, 40, 12, 0, 166), (14, .iconst 3, 0, 0, 3, 0), (15, .iload_n 1, 1, 0, 0, 0), (16, .imul, 0, 0, 0, 0), (17, .iaload, 0, 0, 0, 0), (18, .aload_n 0, 0, 0, 0, 0), (19, .getfield 7, 1, 12, 0, 145), (22, .iconst 0, 0, 0, 0, 0), (23, .iaload, 0, 0, 0, 0), (24, .if_icmp .ne 10, 34, 0, 0, 0), (27, .aload_n 0, 0, 0, 0, 0), (28, .iconst 3, 0, 0, 3, 0), (29, .iload_n 1, 1, 0, 0, 0), (30, .imul, 0, 0, 0, 0), (31, .invokevirtual 362, 233, 0, 0, 228), (34, .iinc 1 1, 1, 0, 1, 0), (37, .goto (-35), 2, 0, 0, 0), (40, .aload_n 0, 0, 0, 0, 0), (41, .invokevirtual 365, 234, 1, 0, 229), (44, .istore_n 1, 1, 0, 0, 0), (45, .iconst 0, 0, 0, 0, 0), (46, .istore_n 2, 2, 0, 0, 0), (47, .iload_n 2, 2, 0, 0, 0), (48, .aload_n 0, 0, 0, 0, 0), (49, .getfield 128, 6, 12, 0, 183), (52, .if_icmp .ge 22, 74, 0, 0, 0), (55, .aload_n 0, 0, 0, 0, 0), (56, .iload_n 2, 2, 0, 0, 0), (57, .invokevirtual 131, 172, 1, 0, 170), (60, .ifCond .eq 8, 68, 0, 0, 0), (63, .aload_n 0, 0, 0, 0, 0), (64, .iload_n 2, 2, 0, 0, 0), (65, .invokevirtual 368, 235, 0, 0, 230), (68, .iinc 2 1, 2, 0, 1, 0), (71, .goto (-24), 47, 0, 0, 0), (74, .aload_n 0, 0, 0, 0, 0), (75, .getfield 7, 1, 12, 0, 145), (78, .iconst 0, 0, 0, 0, 0), (79, .aload_n 0, 0, 0, 0, 0), (80, .getfield 7, 1, 12, 0, 145), (83, .iconst 0, 0, 0, 0, 0), (84, .iaload, 0, 0, 0, 0), (85, .iconst 1, 0, 0, 1, 0), (86, .iadd, 0, 0, 0, 0), (87, .iastore, 0, 0, 0, 0), (88, .iload_n 1, 1, 0, 0, 0), (89, .ifCond .eq 7, 96, 0, 0, 0), (92, .iconst 1, 0, 0, 1, 0), (93, .goto 4, 97, 0, 0, 0), (96, .iconst 0, 0, 0, 0, 0), (97, .ireturn, 0, 0, 0, 0)]
/-- CardDrawerModel.years(I)I -/
def cd237 : List pI := [(0, .aload_n 0, 0, 0, 0, 0), (1, .iconst 0, 0, 0, 0, 0), (2, .putfield 116, 0, 12, 0, 181), (5, .aload_n 0, 0, 0, 0, 0), (6, .iload_n 1, 1, 0, 0, 0), (7, .iconst 1, 0, 0, 1, 0), (8, .bipush 30, 0, 0, 30, 0), (10, .invokevirtual 138, 158, 1, 0, 172), (13, .ifCond .eq 16, 29, 0, 0, 0), (16, .aload_n 0, 0, 0, 0, 0), (17, .getfield 7, 1, 12, 0, 145), (20, .iconst 0, 0, 0, 0, 0), (21, .iaload, 0, 0, 0, 0), (22, .iload_n 1, 1, 0, 0, 0), (23, .iadd, 0, 0, 0, 0), (24, .bipush 99, 0, 0, 99, 0), (26, .if_icmp .le 5, 31, 0, 0, 0), (29, .iconst (-1), 0, 0, (-1), 0), (30, .ireturn, 0, 0, 0, 0), (31, .iconst 0, 0, 0, 0, 0), (32, .istore_n 2, 2, 0, 0, 0), (33, .iconst 0, 0, 0, 0, 0), (34, .istore_n 3, 3, 0, 0, 0), (35, .iload_n 3, 3, 0, 0, 0), (36, .iload_n 1, 1, 0, 0, 0), (37, .if_icmp .ge 20, 57, 0, 0, 0), (40, .aload_n 0, 0, 0, 0, 0), (41, .invokevirtual 344, 164, 0, 0, 222), (44, .iload_n 2, 2, 0, 0, 0), (45, .aload_n 0, 0, 0, 0, 0), (46, .invokevirtual 371, 236, 1, 0, 231), (49, .iadd, 0, 0, 0, 0), (50, .istore_n 2, 2, 0, 0, 0), (51, .iinc 3 1, 3, 0, 1, 0), (54, .goto (-19), 35, 0, 0, 0), (57, .iload_n 2, 2, 0, 0, 0), (58, .ireturn, 0, 0, 0, 0)]
/-- CardDrawerModel.of(II)I -/
def cd238 : List pI := [(0, .aload_n 0, 0, 0, 0, 0), (1, .iconst 0, 0, 0, 0, 0), (2, .putfield 116, 0, 12, 0, 181), (5, .aload_n 0, 0, 0, 0, 0), (6, .iload_n 1, 1, 0, 0, 0), (7, .invokevirtual 142, 170, 1, 0, 173), (10, .ifCond .eq 14, 24, 0, 0, 0), (13, .aload_n 0, 0, 0, 0, 0), (14, .iload_n 2, 2, 0, 0, 0), (15, .iconst 0, 0, 0, 0, 0), (16, .bipush 10, 0, 0, 10, 0), (18, .invokevirtual 138, 158, 1, 0, 172), (21, .ifCond .ne 5, 26, 0, 0, 0), (24, .iconst (-1), 0, 0, (-1), 0), (25, .ireturn, 0, 0, 0, 0), (26, .iload_n 2, 2, 0, 0, 0), (27, .ifCond .ne 10, 37, 0, 0, 0), (30, .aload_n 0, 0, 0, 0, 0), (31, .getfield 19, 7, 12, 0, 148), (34, .iload_n 1, 1, 0, 0, 0), (35, .iaload, 0, 0, 0, 0), (36, .ireturn, 0, 0, 0, 0), (37, .iload_n 2, 2, 0, 0, 0), (38, .iconst 1, 0, 0, 1, 0), (39, .if_icmp .ne 10, 49, 0, 0, 0), (42, .aload_n 0, 0, 0, 0, 0), (43, .getfield 22, 8, 12, 0, 149), (46, .iload_n 1, 1, 0, 0, 0), (47, .iaload, 0, 0, 0, 0), (48, .ireturn, 0, 0, 0, 0), (49, .iload_n 2, 2, 0, 0, 0), (50, .iconst 2, 0, 0, 2, 0), (51, .if_icmp .ne 10, 61, 0, 0, 0), (54, .aload_n 0, 0, 0, 0, 0), (55, .getfield 25, 9, 12, 0, 150), (58, .iload_n 1, 1, 0, 0, 0), (59, .iaload, 0, 0, 0, 0), (60, .ireturn, 0, 0, 0, 0), (61, .iload_n 2, 2, 0, 0, 0), (62, .iconst 3, 0, 0, 3, 0), (63, .if_icmp .ne 13, 76, 0, 0, 0), (66, .aload_n 0, 0, 0, 0, 0), (67, .getfield 7, 1, 12, 0, 145), (70, .bipush 6, 0, 0, 6, 0), (72, .iload_n 1, 1, 0, 0, 0), (73, .iadd, 0, 0, 0, 0), (74, .iaload, 0, 0, 0, 0), (75, .ireturn, 0, 0, 0, 0), (76, .iload_n 2, 2, 0, 0, 0), (77, .iconst 4, 0, 0, 4, 0), (78, .if_icmp .ne 13, 91, 0, 0, 0), (81, .aload_n 0, 0, 0, 0, 0), (82, .getfield 7, 1, 12, 0, 145), (85, .bipush 62, 0, 0, 62, 0), (87, .iload_n 1, 1, 0, 0, 0), (88, .iadd, 0, 0, 0, 0), (89, .iaload, 0, 0, 0, 0), (90, .ireturn, 0, 0, 0, 0), (91, .iload_n 2, 2, 0, 0, 0), (92, .iconst 5, 0, 0, 5, 0), (93, .if_icmp .ne 13, 106, 0, 0, 0), (96, .aload_n 0, 0, 0, 0, 0), (97, .getfield 7, 1, 12, 0, 145), (100, .bipush 20, 0, 0, 20, 0), (102, .iload_n 1, 1, 0, 0, 0), (103, .iadd, 0, 0, 0, 0), (104, .iaload, 0, 0, 0, 0), (105, .ireturn, 0, 0, 0, 0), (106, .iload_n 2, 2, 0, 0, 0), (107, .bipush 6, 0, 0, 6, 0), (109, .if_icmp .ne 13, 122, 0, 0, 0), (112, .aload_n 0, 0, 0, 0, 0), (113, .getfield 7, 1, 12, 0, 145), (116, .bipush 34, 0, 0, 34, 0), (118, .iload_n 1, 1, 0, 0, 0), (119, .iadd, 0, 0, 0, 0), (120, .iaload, 0, 0, 0, 0), (121, .ireturn, 0, 0, 0, 0), (122, .iload_n 2, 2, 0, 0, 0), (123, .bipush 7, 0, 0, 7, 0), (125, .if_icmp .ne 15, 140, 0, 0, 0), (128, .iconst 1, 0, 0, 1, 0), (129, .aload_n 0, 0, 0, 0, 0), (130, .getfield 7, 1, 12, 0, 145), (133, .bipush 48, 0, 0, 48, 0), (135, .iload_n 1, 1, 0, 0, 0), (136, .iadd, 0, 0, 0, 0), (137, .iaload, 0, 0, 0, 0), (138, .isub, 0, 0, 0, 0), (139, .ireturn, 0, 0, 0, 0), (140, .iload_n 2, 2, 0, 0, 0), (141, .bipush 8, 0, 0, 8, 0), (143, .if_icmp .ne 11, 154, 0, 0, 0), (146, .aload_n 0, 0, 0, 0, 0), (147, .iload_n 1, 1, 0, 0, 0), (148, .invokevirtual 318, 219, 1, 0, 214), (151, .goto 22, 173, 0, 0, 0), (154, .iload_n 2, 2, 0, 0, 0), (155, .bipush 9, 0, 0, 9, 0), (157, .if_icmp .ne 11, 168, 0, 0, 0), (160, .aload_n 0, 0, 0, 0, 0), (161, .iload_n 1, 1, 0, 0, 0), (162, .invokevirtual 359, 220, 1, 0, 227), (165, .goto 8, 173, 0, 0, 0), (168, .aload_n 0, 0, 0, 0, 0), (169, .iload_n 1, 1, 0, 0, 0), (170, .invokevirtual 338, 221, 1, 0, 220), (173, .ireturn, 0, 0, 0, 0)]
/-- CardDrawerModel.met(I)I -/
def cd239 : List pI := [(0, .aload_n 0, 0, 0, 0, 0), (1, .iconst 0, 0, 0, 0, 0), (2, .putfield 116, 0, 12, 0, 181), (5, .aload_n 0, 0, 0, 0, 0), (6, .iload_n 1, 1, 0, 0, 0), (7, .invokevirtual 135, 171, 1, 0, 171), (10, .ifCond .eq 11, 21, 0, 0, 0), (13, .aload_n 0, 0, 0, 0, 0), (14, .iload_n 1, 1, 0, 0, 0), (15, .invokevirtual 374, 174, 1, 0, 232), (18, .goto 4, 22, 0, 0, 0), (21, .iconst (-1), 0, 0, (-1), 0), (22, .ireturn, 0, 0, 0, 0)]
/-- CardDrawerModel.called(II)I -/
def cd240 : List pI := [(0, .aload_n 0, 0, 0, 0, 0), (1, .iconst 0, 0, 0, 0, 0), (2, .putfield 116, 0, 12, 0, 181), (5, .aload_n 0, 0, 0, 0, 0), (6, .iload_n 1, 1, 0, 0, 0), (7, .iconst 0, 0, 0, 0, 0), (8, .bipush 7, 0, 0, 7, 0), (10, .invokevirtual 138, 158, 1, 0, 172), (13, .ifCond .ne 5, 18, 0, 0, 0), (16, .iconst (-1), 0, 0, (-1), 0), (17, .ireturn, 0, 0, 0, 0), (18, .iload_n 2, 2, 0, 0, 0), (19, .ifCond .ne 12, 31, 0, 0, 0), (22, .aload_n 0, 0, 0, 0, 0), (23, .getfield 68, 37, 12, 0, 164), (26, .iload_n 1, 1, 0, 0, 0), (27, .iaload, 0, 0, 0, 0), (28, .goto 21, 49, 0, 0, 0), (31, .iload_n 2, 2, 0, 0, 0), (32, .iconst 1, 0, 0, 1, 0), (33, .if_icmp .ne 15, 48, 0, 0, 0), (36, .aload_n 0, 0, 0, 0, 0), (37, .getfield 71, 38, 12, 0, 165), (40, .iload_n 1, 1, 0, 0, 0), (41, .iaload, 0, 0, 0, 0), (42, .bipush 99, 0, 0, 99, 0), (44, .iadd, 0, 0, 0, 0), (45, .goto 4, 49, 0, 0, 0), (48, .iconst (-1), 0, 0, (-1), 0), (49, .ireturn, 0, 0, 0, 0)]
/-- CardDrawerModel.book(II)I -/
def cd241 : List pI := [(0, .aload_n 0, 0, 0, 0, 0), (1, .iconst 0, 0, 0, 0, 0), (2, .putfield 116, 0, 12, 0, 181), (5, .aload_n 0, 0, 0, 0, 0), (6, .iload_n 1, 1, 0, 0, 0), (7, .iconst 0, 0, 0, 0, 0), (8, .aload_n 0, 0, 0, 0, 0), (9, .getfield 7, 1, 12, 0, 145), (12, .iconst 2, 0, 0, 2, 0), (13, .iaload, 0, 0, 0, 0), (14, .iconst 1, 0, 0, 1, 0), (15, .isub, 0, 0, 0, 0), (16, .invokevirtual 138, 158, 1, 0, 172), (19, .ifCond .eq 26, 45, 0, 0, 0), (22, .aload_n 0, 0, 0, 0, 0), (23, .iload_n 2, 2, 0, 0, 0), (24, .iconst 0, 0, 0, 0, 0), (25, .iconst 3, 0, 0, 3, 0), (26, .invokevirtual 138, 158, 1, 0, 172), (29, .ifCond .eq 16, 45, 0, 0, 0), (32, .aload_n 0, 0, 0, 0, 0), (33, .getfield 28, 10, 12, 0, 151), (36, .iconst 4, 0, 0, 4, 0), (37, .iload_n 1, 1, 0, 0, 0), (38, .imul, 0, 0, 0, 0), (39, .iload_n 2, 2, 0, 0, 0), (40, .iadd, 0, 0, 0, 0), (41, .iaload, 0, 0, 0, 0), (42, .goto 4, 46, 0, 0, 0), (45, .iconst (-1), 0, 0, (-1), 0), (46, .ireturn, 0, 0, 0, 0)]
/-- CardDrawerModel.goes(II)I -/
def cd242 : List pI := [(0, .aload_n 0, 0, 0, 0, 0), (1, .iconst 0, 0, 0, 0, 0), (2, .putfield 116, 0, 12, 0, 181), (5, .aload_n 0, 0, 0, 0, 0), (6, .iload_n 1, 1, 0, 0, 0), (7, .iconst 1, 0, 0, 1, 0), (8, .bipush 60, 0, 0, 60, 0), (10, .invokevirtual 138, 158, 1, 0, 172), (13, .ifCond .eq 13, 26, 0, 0, 0), (16, .aload_n 0, 0, 0, 0, 0), (17, .iload_n 2, 2, 0, 0, 0), (18, .iconst 0, 0, 0, 0, 0), (19, .iconst 3, 0, 0, 3, 0), (20, .invokevirtual 138, 158, 1, 0, 172), (23, .ifCond .ne 5, 28, 0, 0, 0), (26, .iconst (-1), 0, 0, (-1), 0), (27, .ireturn, 0, 0, 0, 0), (28, .aload_n 0, 0, 0, 0, 0), (29, .invokevirtual 377, 166, 0, 0, 233), (32, .iconst 0, 0, 0, 0, 0), (33, .istore_n 3, 3, 0, 0, 0), (34, .iload_n 3, 3, 0, 0, 0), (35, .iload_n 1, 1, 0, 0, 0), (36, .if_icmp .ge 14, 50, 0, 0, 0), (39, .aload_n 0, 0, 0, 0, 0), (40, .invokevirtual 371, 236, 1, 0, 231), (43, .pop, 0, 0, 0, 0), (44, .iinc 3 1, 3, 0, 1, 0), (47, .goto (-13), 34, 0, 0, 0), (50, .iload_n 2, 2, 0, 0, 0), (51, .iconst 3, 0, 0, 3, 0), (52, .if_icmp .ge 14, 66, 0, 0, 0), (55, .aload_n 0, 0, 0, 0, 0), (56, .getfield 7, 1, 12, 0, 145), (59, .iconst 3, 0, 0, 3, 0), (60, .iload_n 2, 2, 0, 0, 0), (61, .iadd, 0, 0, 0, 0), (62, .iaload, 0, 0, 0, 0), (63, .goto 11, 74, 0, 0, 0), (66, .aload_n 0, 0, 0, 0, 0), (67, .aload_n 0, 0, 0, 0, 0), (68, .invokevirtual 380, 173, 1, 0, 234), (71, .invokevirtual 383, 162, 1, 0, 235), (74, .nop, 1, 0, 0, 0), (74, .nop, 2, 0, 0, 0), (74, .nop, 3, 0, 0, 0), (74, .istore_n 3, 3, 0, 0, 0), (75, .aload_n 0, 0, 0, 0, 0), (76, .invokevirtual 386, 167, 0, 0, 236), (79, .iload_n 3, 3, 0, 0, 0), (80, .ireturn, 0, 0, 0, 0)]
/-- CardDrawerModel.ahead(II)I -/
def cd243 : List pI := [(0, .aload_n 0, 0, 0, 0, 0), (1, .iconst 0, 0, 0, 0, 0), (2, .putfield 116, 0, 12, 0, 181), (5, .iload_n 1, 1, 0, 0, 0), (6, .iconst (-1), 0, 0, (-1), 0), (7, .if_icmp .ne 10, 17, 0, 0, 0), (10, .aload_n 0, 0, 0, 0, 0), (11, .iconst 0, 0, 0, 0, 0), (12, .putfield 389, 43, 12, 0, 199), (15, .iconst 0, 0, 0, 0, 0), (16, .ireturn, 0, 0, 0, 0), (17, .aload_n 0, 0, 0, 0, 0), (18, .iload_n 1, 1, 0, 0, 0), (19, .invokevirtual 142, 170, 1, 0, 173), (22, .ifCond .eq 25, 47, 0, 0, 0), (25, .aload_n 0, 0, 0, 0, 0), (26, .iload_n 2, 2, 0, 0, 0), (27, .invokevirtual 142, 170, 1, 0, 173), (30, .ifCond .eq 17, 47, 0, 0, 0), (33, .iload_n 1, 1, 0, 0, 0), (34, .iload_n 2, 2, 0, 0, 0), (35, .if_icmp .eq 12, 47, 0, 0, 0), (38, .aload_n 0, 0, 0, 0, 0), (39, .getfield 389, 43, 12, 0, 199), (42, .bipush 12, 0, 0, 12, 0), (44, .if_icmp .ne 5, 49, 0, 0, 0), (47, .iconst (-1), 0, 0, (-1), 0), (48, .ireturn, 0, 0, 0, 0), (49, .aload_n 0, 0, 0, 0, 0), (50, .getfield 83, 44, 12, 0, 169), (53, .aload_n 0, 0, 0, 0, 0), (54, .getfield 389, 43, 12, 0, 199), (57, .iload_n 1, 1, 0, 0, 0), (58, .iastore, 0, 0, 0, 0), (59, .aload_n 0, 0, 0, 0, 0), (60, .getfield 86, 45, 12, 0, 170), (63, .aload_n 0, 0, 0, 0, 0), (64, .getfield 389, 43, 12, 0, 199), (67, .iload_n 2, 2, 0, 0, 0), (68, .iastore, 0, 0, 0, 0), (69, .aload_n 0, 0, 0, 0, 0), (70, .aload_n 0, 0, 0, 0, 0), (71, .getfield 389, 43, 12, 0, 199), (74, .iconst 1, 0, 0, 1, 0), (75, .iadd, 0, 0, 0, 0), (76, .putfield 389, 43, 12, 0, 199), (79, .aload_n 0, 0, 0, 0, 0), (80, .getfield 389, 43, 12, 0, 199), (83, .ireturn, 0, 0, 0, 0)]
/-- CardDrawerModel.canBeDated()Z -/
def cd244 : List pI := [(0, .iconst 0, 0, 0, 0, 0), (1, .istore_n 1, 1, 0, 0, 0), (2, .nop, 2, 0, 0, 0), (2, .iload_n 1, 1, 0, 0, 0), (3, .aload_n 0, 0, 0, 0, 0), (4, .getfield 128, 6, 12, 0, 183), (7, .if_icmp .ge 46, 53, 0, 0, 0), (10, .aload_n 0, 0, 0, 0, 0), (11, .getfield 89, 46, 12, 0, 171), (14, .iload_n 1, 1, 0, 0, 0), (15, .aload_n 0, 0, 0, 0, 0), (16, .getfield 68, 37, 12, 0, 164), (19, .aload_n 0, 0, 0, 0, 0), (20, .getfield 22, 8, 12, 0, 149), (23, .iload_n 1, 1, 0, 0, 0), (24, .iaload, 0, 0, 0, 0), (25, .iaload, 0, 0, 0, 0), (26, .iastore, 0, 0, 0, 0), (27, .aload_n 0, 0, 0, 0, 0), (28, .getfield 92, 47, 12, 0, 172), (31, .iload_n 1, 1, 0, 0, 0), (32, .aload_n 0, 0, 0, 0, 0), (33, .getfield 71, 38, 12, 0, 165), (36, .aload_n 0, 0, 0, 0, 0), (37, .getfield 22, 8, 12, 0, 149), (40, .iload_n 1, 1, 0, 0, 0), (41, .iaload, 0, 0, 0, 0), (42, .iaload, 0, 0, 0, 0), (43, .bipush 99, 0, 0, 99, 0), (45, .iadd, 0, 0, 0, 0), (46, .iastore, 0, 0, 0, 0), (47, .iinc 1 1, 1, 0, 1, 0), (50, .goto (-48), 2, 0, 0, 0), (53, .iconst 0, 0, 0, 0, 0), (54, .istore_n 1, 1, 0, 0, 0), (55, .nop, 2, 0, 0, 0), (55, .iload_n 1, 1, 0, 0, 0), (56, .aload_n 0, 0, 0, 0, 0), (57, .getfield 128, 6, 12, 0, 183), (60, .if_icmp .gt 99, 159, 0, 0, 0), (63, .iconst 0, 0, 0, 0, 0), (64, .istore_n 2, 2, 0, 0, 0), (65, .iload_n 2, 2, 0, 0, 0), (66, .aload_n 0, 0, 0, 0, 0), (67, .getfield 389, 43, 12, 0, 199), (70, .if_icmp .ge 83, 153, 0, 0, 0), (73, .aload_n 0, 0, 0, 0, 0), (74, .getfield 89, 46, 12, 0, 171), (77, .aload_n 0, 0, 0, 0, 0), (78, .getfield 86, 45, 12, 0, 170), (81, .iload_n 2, 2, 0, 0, 0), (82, .iaload, 0, 0, 0, 0), (83, .aload_n 0, 0, 0, 0, 0), (84, .aload_n 0, 0, 0, 0, 0), (85, .getfield 89, 46, 12, 0, 171), (88, .aload_n 0, 0, 0, 0, 0), (89, .getfield 86, 45, 12, 0, 170), (92, .iload_n 2, 2, 0, 0, 0), (93, .iaload, 0, 0, 0, 0), (94, .iaload, 0, 0, 0, 0), (95, .aload_n 0, 0, 0, 0, 0), (96, .getfield 89, 46, 12, 0, 171), (99, .aload_n 0, 0, 0, 0, 0), (100, .getfield 83, 44, 12, 0, 169), (103, .iload_n 2, 2, 0, 0, 0), (104, .iaload, 0, 0, 0, 0), (105, .iaload, 0, 0, 0, 0), (106, .invokevirtual 311, 160, 1, 0, 212), (109, .iastore, 0, 0, 0, 0), (110, .aload_n 0, 0, 0, 0, 0), (111, .getfield 92, 47, 12, 0, 172), (114, .aload_n 0, 0, 0, 0, 0), (115, .getfield 83, 44, 12, 0, 169), (118, .iload_n 2, 2, 0, 0, 0), (119, .iaload, 0, 0, 0, 0), (120, .aload_n 0, 0, 0, 0, 0), (121, .aload_n 0, 0, 0, 0, 0), (122, .getfield 92, 47, 12, 0, 172), (125, .aload_n 0, 0, 0, 0, 0), (126, .getfield 83, 44, 12, 0, 169), (129, .iload_n 2, 2, 0, 0, 0), (130, .iaload, 0, 0, 0, 0), (131, .iaload, 0, 0, 0, 0), (132, .aload_n 0, 0, 0, 0, 0), (133, .getfield 92, 47, 12, 0, 172), (136, .aload_n 0, 0, 0, 0, 0), (137, .getfield 86, 45, 12, 0, 170), (140, .iload_n 2, 2, 0, 0, 0), (141, .iaload, 0, 0, 0, 0), (142, .iaload, 0, 0, 0, 0), (143, .invokevirtual 331, 161, 1, 0, 218), (146, .iastore, 0, 0, 0, 0), (147, .iinc 2 1, 2, 0, 1, 0), (150, .goto (-85), 65, 0, 0, 0), (153, .iinc 1 1, 1, 0, 1, 0), (156, .goto (-101), 55, 0, 0, 0), (159, .iconst 0, 0, 0, 0, 0), (160, .istore_n 1, 1, 0, 0, 0), (161, .nop, 2, 0, 0, 0), (161, .iload_n 1, 1, 0, 0, 0), (162, .aload_n 0, 0, 0, 0, 0), (163, .getfield 128, 6, 12, 0, 183), (166, .if_icmp .ge 26, 192, 0, 0, 0), (169, .aload_n 0, 0, 0, 0, 0), (170, .getfield 89, 46, 12, 0, 171), (173, .iload_n 1, 1, 0, 0, 0), (174, .iaload, 0, 0, 0, 0), (175, .aload_n 0, 0, 0, 0, 0), (176, .getfield 92, 47, 12, 0, 172), (179, .iload_n 1, 1, 0, 0, 0), (180, .iaload, 0, 0, 0, 0), (181, .if_icmp .le 5, 186, 0, 0, 0), (184, .iconst 0, 0, 0, 0, 0), (185, .ireturn, 1, 0, 0, 0), (186, .iinc 1 1, 1, 0, 1, 0), (189, .goto (-28), 161, 0, 0, 0), (192, .iconst 1, 0, 0, 1, 0), (193, .ireturn, 1, 0, 0, 0)]
/-- CardDrawerModel.dated(II)I -/
def cd245 : List pI := [(0, .aload_n 0, 0, 0, 0, 0), (1, .iconst 0, 0, 0, 0, 0), (2, .putfield 116, 0, 12, 0, 181), (5, .aload_n 0, 0, 0, 0, 0), (6, .iload_n 1, 1, 0, 0, 0), (7, .invokevirtual 142, 170, 1, 0, 173), (10, .ifCond .eq 20, 30, 0, 0, 0), (13, .aload_n 0, 0, 0, 0, 0), (14, .iload_n 2, 2, 0, 0, 0), (15, .iconst 0, 0, 0, 0, 0), (16, .iconst 1, 0, 0, 1, 0), (17, .invokevirtual 138, 158, 1, 0, 172), (20, .ifCond .eq 10, 30, 0, 0, 0), (23, .aload_n 0, 0, 0, 0, 0), (24, .invokevirtual 392, 244, 1, 0, 237), (27, .ifCond .ne 5, 32, 0, 0, 0), (30, .iconst (-1), 0, 0, (-1), 0), (31, .ireturn, 0, 0, 0, 0), (32, .iload_n 2, 2, 0, 0, 0), (33, .ifCond .ne 12, 45, 0, 0, 0), (36, .aload_n 0, 0, 0, 0, 0), (37, .getfield 89, 46, 12, 0, 171), (40, .iload_n 1, 1, 0, 0, 0), (41, .iaload, 0, 0, 0, 0), (42, .goto 9, 51, 0, 0, 0), (45, .aload_n 0, 0, 0, 0, 0), (46, .getfield 92, 47, 12, 0, 172), (49, .iload_n 1, 1, 0, 0, 0), (50, .iaload, 0, 0, 0, 0), (51, .ireturn, 0, 0, 0, 0)]
/-- CardDrawerModel.besideOf(I)I -/
def cd246 : List pI := [(0, .aload_n 0, 0, 0, 0, 0), (1, .iload_n 1, 1, 0, 0, 0), (2, .invokevirtual 374, 174, 1, 0, 232), (5, .iconst (-1), 0, 0, (-1), 0), (6, .if_icmp .ne 7, 13, 0, 0, 0), (9, .iconst 0, 0, 0, 0, 0), (10, .goto 10, 20, 0, 0, 0), (13, .iconst 1, 0, 0, 1, 0), (14, .aload_n 0, 0, 0, 0, 0), (15, .iload_n 1, 1, 0, 0, 0), (16, .invokevirtual 374, 174, 1, 0, 232), (19, .ishl, 0, 0, 0, 0), (20, .istore_n 2, 2, 0, 0, 0), (21, .iconst 0, 0, 0, 0, 0), (22, .istore_n 3, 3, 0, 0, 0), (23, .iload_n 3, 3, 0, 0, 0), (24, .bipush 12, 0, 0, 12, 0), (26, .if_icmp .ge 24, 50, 0, 0, 0), (29, .aload_n 0, 0, 0, 0, 0), (30, .iload_n 3, 3, 0, 0, 0), (31, .invokevirtual 374, 174, 1, 0, 232), (34, .iload_n 1, 1, 0, 0, 0), (35, .if_icmp .ne 9, 44, 0, 0, 0), (38, .iload_n 2, 2, 0, 0, 0), (39, .iconst 1, 0, 0, 1, 0), (40, .iload_n 3, 3, 0, 0, 0), (41, .ishl, 0, 0, 0, 0), (42, .ior, 0, 0, 0, 0), (43, .istore_n 2, 2, 0, 0, 0), (44, .iinc 3 1, 3, 0, 1, 0), (47, .goto (-24), 23, 0, 0, 0), (50, .iload_n 2, 2, 0, 0, 0), (51, .ireturn, 0, 0, 0, 0)]
/-- CardDrawerModel.besideAll(I)I -/
def cd247 : List pI := [(0, .iconst 0, 0, 0, 0, 0), (1, .istore_n 2, 2, 0, 0, 0), (2, .iconst 0, 0, 0, 0, 0), (3, .istore_n 3, 3, 0, 0, 0), (4, .iload_n 3, 3, 0, 0, 0), (5, .bipush 12, 0, 0, 12, 0), (7, .if_icmp .ge 26, 33, 0, 0, 0), (10, .aload_n 0, 0, 0, 0, 0), (11, .iload_n 1, 1, 0, 0, 0), (12, .iload_n 3, 3, 0, 0, 0), (13, .invokevirtual 395, 163, 1, 0, 238), (16, .ifCond .eq 11, 27, 0, 0, 0), (19, .iload_n 2, 2, 0, 0, 0), (20, .aload_n 0, 0, 0, 0, 0), (21, .iload_n 3, 3, 0, 0, 0), (22, .invokevirtual 398, 246, 1, 0, 239), (25, .ior, 0, 0, 0, 0), (26, .istore_n 2, 2, 0, 0, 0), (27, .iinc 3 1, 3, 0, 1, 0), (30, .goto (-26), 4, 0, 0, 0), (33, .iload_n 2, 2, 0, 0, 0), (34, .ireturn, 0, 0, 0, 0)]
/-- CardDrawerModel.lowest(I)I -/
def cd248 : List pI := [(0, .iconst 0, 0, 0, 0, 0), (1, .istore_n 2, 2, 0, 0, 0), (2, .aload_n 0, 0, 0, 0, 0), (3, .iload_n 1, 1, 0, 0, 0), (4, .iload_n 2, 2, 0, 0, 0), (5, .invokevirtual 395, 163, 1, 0, 238), (8, .ifCond .ne 10, 18, 0, 0, 0), (11, .iload_n 2, 2, 0, 0, 0), (12, .iconst 1, 0, 0, 1, 0), (13, .iadd, 0, 0, 0, 0), (14, .istore_n 2, 2, 0, 0, 0), (15, .goto (-13), 2, 0, 0, 0), (18, .iload_n 2, 2, 0, 0, 0), (19, .ireturn, 0, 0, 0, 0)]
/-- CardDrawerModel.ownersOf(I)I -/
def cd249 : List pI := [(0, .iconst 0, 0, 0, 0, 0), (1, .istore_n 2, 2, 0, 0, 0), (2, .iconst 0, 0, 0, 0, 0), (3, .istore_n 3, 3, 0, 0, 0), (4, .iload_n 3, 3, 0, 0, 0), (5, .aload_n 0, 0, 0, 0, 0), (6, .getfield 128, 6, 12, 0, 183), (9, .if_icmp .ge 38, 47, 0, 0, 0), (12, .aload_n 0, 0, 0, 0, 0), (13, .iload_n 3, 3, 0, 0, 0), (14, .invokevirtual 131, 172, 1, 0, 170), (17, .ifCond .eq 24, 41, 0, 0, 0), (20, .aload_n 0, 0, 0, 0, 0), (21, .getfield 25, 9, 12, 0, 150), (24, .iload_n 3, 3, 0, 0, 0), (25, .iaload, 0, 0, 0, 0), (26, .iload_n 1, 1, 0, 0, 0), (27, .if_icmp .ne 14, 41, 0, 0, 0), (30, .iload_n 2, 2, 0, 0, 0), (31, .iconst 1, 0, 0, 1, 0), (32, .aload_n 0, 0, 0, 0, 0), (33, .getfield 19, 7, 12, 0, 148), (36, .iload_n 3, 3, 0, 0, 0), (37, .iaload, 0, 0, 0, 0), (38, .ishl, 0, 0, 0, 0), (39, .ior, 0, 0, 0, 0), (40, .istore_n 2, 2, 0, 0, 0), (41, .iinc 3 1, 3, 0, 1, 0), (44, .goto (-40), 4, 0, 0, 0), (47, .iload_n 2, 2, 0, 0, 0), (48, .ireturn, 0, 0, 0, 0)]
/-- CardDrawerModel.hands(II)I -/
def cd250 : List pI := [(0, .aload_n 0, 0, 0, 0, 0), (1, .iconst 0, 0, 0, 0, 0), (2, .putfield 116, 0, 12, 0, 181), (5, .aload_n 0, 0, 0, 0, 0), (6, .iload_n 1, 1, 0, 0, 0), (7, .iconst 0, 0, 0, 0, 0), (8, .iconst 5, 0, 0, 5, 0), (9, .invokevirtual 138, 158, 1, 0, 172), (12, .ifCond .eq 13, 25, 0, 0, 0), (15, .aload_n 0, 0, 0, 0, 0), (16, .iload_n 2, 2, 0, 0, 0), (17, .iconst 0, 0, 0, 0, 0), (18, .iconst 2, 0, 0, 2, 0), (19, .invokevirtual 138, 158, 1, 0, 172), (22, .ifCond .ne 5, 27, 0, 0, 0), (25, .iconst (-1), 0, 0, (-1), 0), (26, .ireturn, 0, 0, 0, 0), (27, .aload_n 0, 0, 0, 0, 0), (28, .iload_n 1, 1, 0, 0, 0), (29, .invokevirtual 401, 249, 1, 0, 240), (32, .istore_n 3, 3, 0, 0, 0), (33, .iconst 0, 0, 0, 0, 0), (34, .istore 4, 4, 0, 0, 0), (36, .aload_n 0, 0, 0, 0, 0), (37, .getfield 95, 48, 12, 0, 173), (40, .iconst 0, 0, 0, 0, 0), (41, .iconst 1, 0, 0, 1, 0), (42, .iastore, 0, 0, 0, 0), (43, .nop, 1, 0, 0, 0), (43, .nop, 5, 0, 0, 0), (43, .nop, 6, 0, 0, 0), (43, .nop, 7, 0, 0, 0), (43, .aload_n 0, 0, 0, 0, 0), (44, .getfield 95, 48, 12, 0, 173), (47, .iload 4, 4, 0, 0, 0), (49, .iaload, 0, 0, 0, 0), (50, .iload_n 3, 3, 0, 0, 0), (51, .iand, 0, 0, 0, 0), (52, .ifCond .ne 49, 101, 0, 0, 0), (55, .iload 4, 4, 0, 0, 0), (57, .bipush 12, 0, 0, 12, 0), (59, .if_icmp .ne 5, 64, 0, 0, 0), (62, .iconst (-1), 0, 0, (-1), 0), (63, .ireturn, 0, 0, 0, 0), (64, .aload_n 0, 0, 0, 0, 0), (65, .getfield 95, 48, 12, 0, 173), (68, .iload 4, 4, 0, 0, 0), (70, .iconst 1, 0, 0, 1, 0), (71, .iadd, 0, 0, 0, 0), (72, .aload_n 0, 0, 0, 0, 0), (73, .getfield 95, 48, 12, 0, 173), (76, .iload 4, 4, 0, 0, 0), (78, .iaload, 0, 0, 0, 0), (79, .aload_n 0, 0, 0, 0, 0), (80, .aload_n 0, 0, 0, 0, 0), (81, .getfield 95, 48, 12, 0, 173), (84, .iload 4, 4, 0, 0, 0), (86, .iaload, 0, 0, 0, 0), (87, .invokevirtual 404, 247, 1, 0, 241), (90, .ior, 0, 0, 0, 0), (91, .iastore, 0, 0, 0, 0), (92, .iload 4, 4, 0, 0, 0), (94, .iconst 1, 0, 0, 1, 0), (95, .iadd, 0, 0, 0, 0), (96, .istore 4, 4, 0, 0, 0), (98, .goto (-55), 43, 0, 0, 0), (101, .iload_n 2, 2, 0, 0, 0), (102, .ifCond .ne 6, 108, 0, 0, 0), (105, .iload 4, 4, 0, 0, 0), (107, .ireturn, 0, 0, 0, 0), (108, .aload_n 0, 0, 0, 0, 0), (109, .aload_n 0, 0, 0, 0, 0), (110, .getfield 95, 48, 12, 0, 173), (113, .iload 4, 4, 0, 0, 0), (115, .iaload, 0, 0, 0, 0), (116, .iload_n 3, 3, 0, 0, 0), (117, .iand, 0, 0, 0, 0), (118, .invokevirtual 407, 248, 1, 0, 242), (121, .istore 5, 5, 0, 0, 0), (123, .iload_n 2, 2, 0, 0, 0), (124, .iconst 1, 0, 0, 1, 0), (125, .if_icmp .ne 6, 131, 0, 0, 0), (128, .iload 5, 5, 0, 0, 0), (130, .ireturn, 0, 0, 0, 0), (131, .iconst 1, 0, 0, 1, 0), (132, .iload 5, 5, 0, 0, 0), (134, .ishl, 0, 0, 0, 0), (135, .istore 6, 6, 0, 0, 0), (137, .iload 4, 4, 0, 0, 0), (139, .iconst 1, 0, 0, 1, 0), (140, .isub, 0, 0, 0, 0), (141, .istore 7, 7, 0, 0, 0), (143, .nop, 1, 0, 0, 0), (143, .nop, 2, 0, 0, 0), (143, .nop, 3, 0, 0, 0), (143, .nop, 5, 0, 0, 0), (143, .iload 7, 7, 0, 0, 0), (145, .ifCond .le 37, 182, 0, 0, 0), (148, .aload_n 0, 0, 0, 0, 0), (149, .iload 6, 6, 0, 0, 0), (151, .invokevirtual 404, 247, 1, 0, 241), (154, .aload_n 0, 0, 0, 0, 0), (155, .getfield 95, 48, 12, 0, 173), (158, .iload 7, 7, 0, 0, 0), (160, .iaload, 0, 0, 0, 0), (161, .iand, 0, 0, 0, 0), (162, .aload_n 0, 0, 0, 0, 0), (163, .getfield 95, 48, 12, 0, 173), (166, .iload 7, 7, 0, 0, 0), (168, .iconst 1, 0, 0, 1, 0), (169, .isub, 0, 0, 0, 0), (170, .iaload, 0, 0, 0, 0), (171, .iconst (-1), 0, 0, (-1), 0), (172, .ixor, 0, 0, 0, 0), (173, .iand, 0, 0, 0, 0), (174, .istore 6, 6, 0, 0, 0), (176, .iinc 7 (-1), 7, 0, (-1), 0), (179, .goto (-36), 143, 0, 0, 0), (182, .iload 4, 4, 0, 0, 0), (184, .ifCond .ne 7, 191, 0, 0, 0), (187, .iconst 0, 0, 0, 0, 0), (188, .goto 9, 197, 0, 0, 0), (191, .aload_n 0, 0, 0, 0, 0), (192, .iload 6, 6, 0, 0, 0), (194, .invokevirtual 407, 248, 1, 0, 242), (197, .ireturn, 0, 0, 0, 0)]
/-- CardDrawerModel.ledBy(I)I -/
def cd251 : List pI := [(0, .iconst 0, 0, 0, 0, 0), (1, .istore_n 2, 2, 0, 0, 0), (2, .iconst (-1), 0, 0, (-1), 0), (3, .istore_n 3, 3, 0, 0, 0), (4, .nop, 4, 0, 0, 0), (4, .iload_n 3, 3, 0, 0, 0), (5, .iload_n 2, 2, 0, 0, 0), (6, .if_icmp .eq 65, 71, 0, 0, 0), (9, .iload_n 2, 2, 0, 0, 0), (10, .istore_n 3, 3, 0, 0, 0), (11, .iconst 0, 0, 0, 0, 0), (12, .istore 4, 4, 0, 0, 0), (14, .iload 4, 4, 0, 0, 0), (16, .bipush 12, 0, 0, 12, 0), (18, .if_icmp .ge 50, 68, 0, 0, 0), (21, .aload_n 0, 0, 0, 0, 0), (22, .iload 4, 4, 0, 0, 0), (24, .invokevirtual 374, 174, 1, 0, 232), (27, .iconst (-1), 0, 0, (-1), 0), (28, .if_icmp .eq 34, 62, 0, 0, 0), (31, .aload_n 0, 0, 0, 0, 0), (32, .iload 4, 4, 0, 0, 0), (34, .invokevirtual 374, 174, 1, 0, 232), (37, .iload_n 1, 1, 0, 0, 0), (38, .if_icmp .eq 17, 55, 0, 0, 0), (41, .aload_n 0, 0, 0, 0, 0), (42, .iload_n 3, 3, 0, 0, 0), (43, .aload_n 0, 0, 0, 0, 0), (44, .iload 4, 4, 0, 0, 0), (46, .invokevirtual 374, 174, 1, 0, 232), (49, .invokevirtual 395, 163, 1, 0, 238), (52, .ifCond .eq 10, 62, 0, 0, 0), (55, .iload_n 2, 2, 0, 0, 0), (56, .iconst 1, 0, 0, 1, 0), (57, .iload 4, 4, 0, 0, 0), (59, .ishl, 0, 0, 0, 0), (60, .ior, 0, 0, 0, 0), (61, .istore_n 2, 2, 0, 0, 0), (62, .iinc 4 1, 4, 0, 1, 0), (65, .goto (-51), 14, 0, 0, 0), (68, .goto (-64), 4, 0, 0, 0), (71, .iload_n 2, 2, 0, 0, 0), (72, .iconst 1, 0, 0, 1, 0), (73, .iload_n 1, 1, 0, 0, 0), (74, .ishl, 0, 0, 0, 0), (75, .iconst (-1), 0, 0, (-1), 0), (76, .ixor, 0, 0, 0, 0), (77, .iand, 0, 0, 0, 0), (78, .ireturn, 0, 0, 0, 0)]
/-- CardDrawerModel.led(I)I -/
def cd252 : List pI := [(0, .aload_n 0, 0, 0, 0, 0), (1, .iconst 0, 0, 0, 0, 0), (2, .putfield 116, 0, 12, 0, 181), (5, .aload_n 0, 0, 0, 0, 0), (6, .iload_n 1, 1, 0, 0, 0), (7, .invokevirtual 135, 171, 1, 0, 171), (10, .ifCond .eq 11, 21, 0, 0, 0), (13, .aload_n 0, 0, 0, 0, 0), (14, .iload_n 1, 1, 0, 0, 0), (15, .invokevirtual 410, 251, 1, 0, 243), (18, .goto 4, 22, 0, 0, 0), (21, .iconst (-1), 0, 0, (-1), 0), (22, .ireturn, 0, 0, 0, 0)]
/-- CardDrawerModel.root(I)I -/
def cd253 : List pI := [(0, .aload_n 0, 0, 0, 0, 0), (1, .iconst 0, 0, 0, 0, 0), (2, .putfield 116, 0, 12, 0, 181), (5, .aload_n 0, 0, 0, 0, 0), (6, .iload_n 1, 1, 0, 0, 0), (7, .invokevirtual 135, 171, 1, 0, 171), (10, .ifCond .ne 5, 15, 0, 0, 0), (13, .iconst (-1), 0, 0, (-1), 0), (14, .ireturn, 0, 0, 0, 0), (15, .iload_n 1, 1, 0, 0, 0), (16, .istore_n 2, 2, 0, 0, 0), (17, .iconst 1, 0, 0, 1, 0), (18, .iload_n 2, 2, 0, 0, 0), (19, .ishl, 0, 0, 0, 0), (20, .istore_n 3, 3, 0, 0, 0), (21, .nop, 1, 0, 0, 0), (21, .aload_n 0, 0, 0, 0, 0), (22, .iload_n 2, 2, 0, 0, 0), (23, .invokevirtual 374, 174, 1, 0, 232), (26, .iconst (-1), 0, 0, (-1), 0), (27, .if_icmp .eq 29, 56, 0, 0, 0), (30, .aload_n 0, 0, 0, 0, 0), (31, .iload_n 2, 2, 0, 0, 0), (32, .invokevirtual 374, 174, 1, 0, 232), (35, .istore_n 2, 2, 0, 0, 0), (36, .aload_n 0, 0, 0, 0, 0), (37, .iload_n 3, 3, 0, 0, 0), (38, .iload_n 2, 2, 0, 0, 0), (39, .invokevirtual 395, 163, 1, 0, 238), (42, .ifCond .eq 5, 47, 0, 0, 0), (45, .iload_n 2, 2, 0, 0, 0), (46, .ireturn, 0, 0, 0, 0), (47, .iload_n 3, 3, 0, 0, 0), (48, .iconst 1, 0, 0, 1, 0), (49, .iload_n 2, 2, 0, 0, 0), (50, .ishl, 0, 0, 0, 0), (51, .ior, 0, 0, 0, 0), (52, .istore_n 3, 3, 0, 0, 0), (53, .goto (-32), 21, 0, 0, 0), (56, .iload_n 2, 2, 0, 0, 0), (57, .ireturn, 0, 0, 0, 0)]
/-- CardDrawerModel.known()I -/
def cd254 : List pI := [(0, .iconst 0, 0, 0, 0, 0), (1, .istore_n 1, 1, 0, 0, 0), (2, .iconst 0, 0, 0, 0, 0), (3, .istore_n 2, 2, 0, 0, 0), (4, .iload_n 2, 2, 0, 0, 0), (5, .aload_n 0, 0, 0, 0, 0), (6, .getfield 128, 6, 12, 0, 183), (9, .if_icmp .ge 28, 37, 0, 0, 0), (12, .aload_n 0, 0, 0, 0, 0), (13, .iload_n 2, 2, 0, 0, 0), (14, .invokevirtual 131, 172, 1, 0, 170), (17, .ifCond .eq 14, 31, 0, 0, 0), (20, .iload_n 1, 1, 0, 0, 0), (21, .iconst 1, 0, 0, 1, 0), (22, .aload_n 0, 0, 0, 0, 0), (23, .getfield 19, 7, 12, 0, 148), (26, .iload_n 2, 2, 0, 0, 0), (27, .iaload, 0, 0, 0, 0), (28, .ishl, 0, 0, 0, 0), (29, .ior, 0, 0, 0, 0), (30, .istore_n 1, 1, 0, 0, 0), (31, .iinc 2 1, 2, 0, 1, 0), (34, .goto (-30), 4, 0, 0, 0), (37, .iconst 0, 0, 0, 0, 0), (38, .istore_n 2, 2, 0, 0, 0), (39, .iload_n 2, 2, 0, 0, 0), (40, .bipush 12, 0, 0, 12, 0), (42, .if_icmp .ge 32, 74, 0, 0, 0), (45, .aload_n 0, 0, 0, 0, 0), (46, .iload_n 2, 2, 0, 0, 0), (47, .invokevirtual 374, 174, 1, 0, 232), (50, .iconst (-1), 0, 0, (-1), 0), (51, .if_icmp .eq 17, 68, 0, 0, 0), (54, .iload_n 1, 1, 0, 0, 0), (55, .iconst 1, 0, 0, 1, 0), (56, .iload_n 2, 2, 0, 0, 0), (57, .ishl, 0, 0, 0, 0), (58, .ior, 0, 0, 0, 0), (59, .iconst 1, 0, 0, 1, 0), (60, .aload_n 0, 0, 0, 0, 0), (61, .iload_n 2, 2, 0, 0, 0), (62, .invokevirtual 374, 174, 1, 0, 232), (65, .ishl, 0, 0, 0, 0), (66, .ior, 0, 0, 0, 0), (67, .istore_n 1, 1, 0, 0, 0), (68, .iinc 2 1, 2, 0, 1, 0), (71, .goto (-32), 39, 0, 0, 0), (74, .iload_n 1, 1, 0, 0, 0), (75, .bipush (-2), 0, 0, (-2), 0), (77, .iand, 0, 0, 0, 0), (78, .ireturn, 0, 0, 0, 0)]
/-- CardDrawerModel.tells(I)I -/
def cd255 : List pI := [(0, .aload_n 0, 0, 0, 0, 0), (1, .iconst 0, 0, 0, 0, 0), (2, .putfield 116, 0, 12, 0, 181), (5, .aload_n 0, 0, 0, 0, 0), (6, .iload_n 1, 1, 0, 0, 0), (7, .iconst 0, 0, 0, 0, 0), (8, .iconst 1, 0, 0, 1, 0), (9, .invokevirtual 138, 158, 1, 0, 172), (12, .ifCond .ne 5, 17, 0, 0, 0), (15, .iconst (-1), 0, 0, (-1), 0), (16, .ireturn, 0, 0, 0, 0), (17, .aload_n 0, 0, 0, 0, 0), (18, .invokevirtual 413, 254, 1, 0, 244), (21, .istore_n 2, 2, 0, 0, 0), (22, .iconst (-1), 0, 0, (-1), 0), (23, .istore_n 3, 3, 0, 0, 0), (24, .iconst 0, 0, 0, 0, 0), (25, .istore 4, 4, 0, 0, 0), (27, .iload 4, 4, 0, 0, 0), (29, .iload_n 2, 2, 0, 0, 0), (30, .if_icmp .gt 56, 86, 0, 0, 0), (33, .iload 4, 4, 0, 0, 0), (35, .iload_n 2, 2, 0, 0, 0), (36, .iconst (-1), 0, 0, (-1), 0), (37, .ixor, 0, 0, 0, 0), (38, .iand, 0, 0, 0, 0), (39, .ifCond .ne 41, 80, 0, 0, 0), (42, .iload_n 3, 3, 0, 0, 0), (43, .iconst (-1), 0, 0, (-1), 0), (44, .if_icmp .eq 17, 61, 0, 0, 0), (47, .aload_n 0, 0, 0, 0, 0), (48, .iload 4, 4, 0, 0, 0), (50, .invokevirtual 383, 162, 1, 0, 235), (53, .aload_n 0, 0, 0, 0, 0), (54, .iload_n 3, 3, 0, 0, 0), (55, .invokevirtual 383, 162, 1, 0, 235), (58, .if_icmp .ge 22, 80, 0, 0, 0), (61, .iload_n 2, 2, 0, 0, 0), (62, .iload 4, 4, 0, 0, 0), (64, .aload_n 0, 0, 0, 0, 0), (65, .iload 4, 4, 0, 0, 0), (67, .invokevirtual 404, 247, 1, 0, 241), (70, .ior, 0, 0, 0, 0), (71, .iconst (-1), 0, 0, (-1), 0), (72, .ixor, 0, 0, 0, 0), (73, .iand, 0, 0, 0, 0), (74, .ifCond .ne 6, 80, 0, 0, 0), (77, .iload 4, 4, 0, 0, 0), (79, .istore_n 3, 3, 0, 0, 0), (80, .iinc 4 1, 4, 0, 1, 0), (83, .goto (-56), 27, 0, 0, 0), (86, .iload_n 1, 1, 0, 0, 0), (87, .ifCond .ne 11, 98, 0, 0, 0), (90, .aload_n 0, 0, 0, 0, 0), (91, .iload_n 3, 3, 0, 0, 0), (92, .invokevirtual 383, 162, 1, 0, 235), (95, .goto 4, 99, 0, 0, 0), (98, .iload_n 3, 3, 0, 0, 0), (99, .ireturn, 0, 0, 0, 0)]
/-- CardDrawerModel.hears(II)I -/
def cd256 : List pI := [(0, .aload_n 0, 0, 0, 0, 0), (1, .iconst 0, 0, 0, 0, 0), (2, .putfield 116, 0, 12, 0, 181), (5, .aload_n 0, 0, 0, 0, 0), (6, .iload_n 1, 1, 0, 0, 0), (7, .iconst 0, 0, 0, 0, 0), (8, .sipush 4095, 0, 0, 4095, 0), (11, .invokevirtual 138, 158, 1, 0, 172), (14, .ifCond .eq 20, 34, 0, 0, 0), (17, .aload_n 0, 0, 0, 0, 0), (18, .iload_n 2, 2, 0, 0, 0), (19, .invokevirtual 135, 171, 1, 0, 171), (22, .ifCond .eq 12, 34, 0, 0, 0), (25, .aload_n 0, 0, 0, 0, 0), (26, .iload_n 1, 1, 0, 0, 0), (27, .iload_n 2, 2, 0, 0, 0), (28, .invokevirtual 395, 163, 1, 0, 238), (31, .ifCond .eq 5, 36, 0, 0, 0), (34, .iconst (-1), 0, 0, (-1), 0), (35, .ireturn, 0, 0, 0, 0), (36, .iconst 1, 0, 0, 1, 0), (37, .iload_n 2, 2, 0, 0, 0), (38, .ishl, 0, 0, 0, 0), (39, .istore_n 3, 3, 0, 0, 0), (40, .iconst 0, 0, 0, 0, 0), (41, .istore 4, 4, 0, 0, 0), (43, .nop, 2, 0, 0, 0), (43, .iload 4, 4, 0, 0, 0), (45, .iload_n 3, 3, 0, 0, 0), (46, .if_icmp .eq 23, 69, 0, 0, 0), (49, .iload_n 3, 3, 0, 0, 0), (50, .istore 4, 4, 0, 0, 0), (52, .iload 4, 4, 0, 0, 0), (54, .aload_n 0, 0, 0, 0, 0), (55, .iload 4, 4, 0, 0, 0), (57, .invokevirtual 404, 247, 1, 0, 241), (60, .iload_n 1, 1, 0, 0, 0), (61, .iconst (-1), 0, 0, (-1), 0), (62, .ixor, 0, 0, 0, 0), (63, .iand, 0, 0, 0, 0), (64, .ior, 0, 0, 0, 0), (65, .istore_n 3, 3, 0, 0, 0), (66, .goto (-23), 43, 0, 0, 0), (69, .iload_n 3, 3, 0, 0, 0), (70, .ireturn, 0, 0, 0, 0)]
/-- CardDrawerModel.asks(II)I -/
def cd257 : List pI := [(0, .aload_n 0, 0, 0, 0, 0), (1, .iconst 0, 0, 0, 0, 0), (2, .putfield 116, 0, 12, 0, 181), (5, .iload_n 1, 1, 0, 0, 0), (6, .iconst (-1), 0, 0, (-1), 0), (7, .if_icmp .ne 10, 17, 0, 0, 0), (10, .aload_n 0, 0, 0, 0, 0), (11, .iconst 0, 0, 0, 0, 0), (12, .putfield 416, 49, 12, 0, 200), (15, .iconst 0, 0, 0, 0, 0), (16, .ireturn, 0, 0, 0, 0), (17, .aload_n 0, 0, 0, 0, 0), (18, .iload_n 1, 1, 0, 0, 0), (19, .iconst 0, 0, 0, 0, 0), (20, .iconst 2, 0, 0, 2, 0), (21, .invokevirtual 138, 158, 1, 0, 172), (24, .ifCond .eq 41, 65, 0, 0, 0), (27, .aload_n 0, 0, 0, 0, 0), (28, .iload_n 2, 2, 0, 0, 0), (29, .iconst 0, 0, 0, 0, 0), (30, .iload_n 1, 1, 0, 0, 0), (31, .ifCond .ne 8, 39, 0, 0, 0), (34, .bipush 11, 0, 0, 11, 0), (36, .goto 14, 50, 0, 0, 0), (39, .iload_n 1, 1, 0, 0, 0), (40, .iconst 1, 0, 0, 1, 0), (41, .if_icmp .ne 8, 49, 0, 0, 0), (44, .bipush 7, 0, 0, 7, 0), (46, .goto 4, 50, 0, 0, 0), (49, .iconst 5, 0, 0, 5, 0), (50, .invokevirtual 138, 158, 1, 0, 172), (53, .ifCond .eq 12, 65, 0, 0, 0), (56, .aload_n 0, 0, 0, 0, 0), (57, .getfield 416, 49, 12, 0, 200), (60, .bipush 10, 0, 0, 10, 0), (62, .if_icmp .ne 5, 67, 0, 0, 0), (65, .iconst (-1), 0, 0, (-1), 0), (66, .ireturn, 0, 0, 0, 0), (67, .aload_n 0, 0, 0, 0, 0), (68, .getfield 98, 50, 12, 0, 174), (71, .aload_n 0, 0, 0, 0, 0), (72, .getfield 416, 49, 12, 0, 200), (75, .iload_n 1, 1, 0, 0, 0), (76, .iastore, 0, 0, 0, 0), (77, .aload_n 0, 0, 0, 0, 0), (78, .getfield 101, 51, 12, 0, 175), (81, .aload_n 0, 0, 0, 0, 0), (82, .getfield 416, 49, 12, 0, 200), (85, .iload_n 2, 2, 0, 0, 0), (86, .iastore, 0, 0, 0, 0), (87, .aload_n 0, 0, 0, 0, 0), (88, .aload_n 0, 0, 0, 0, 0), (89, .getfield 416, 49, 12, 0, 200), (92, .iconst 1, 0, 0, 1, 0), (93, .iadd, 0, 0, 0, 0), (94, .putfield 416, 49, 12, 0, 200), (97, .aload_n 0, 0, 0, 0, 0), (98, .getfield 416, 49, 12, 0, 200), (101, .ireturn, 0, 0, 0, 0)]
/-- CardDrawerModel.factOf(II)I -/
def cd258 : List pI := [(0, .iload_n 2, 2, 0, 0, 0), (1, .ifCond .ne 12, 13, 0, 0, 0), (4, .aload_n 0, 0, 0, 0, 0), (5, .getfield 19, 7, 12, 0, 148), (8, .iload_n 1, 1, 0, 0, 0), (9, .iaload, 0, 0, 0, 0), (10, .goto 57, 67, 0, 0, 0), (13, .iload_n 2, 2, 0, 0, 0), (14, .iconst 1, 0, 0, 1, 0), (15, .if_icmp .ne 12, 27, 0, 0, 0), (18, .aload_n 0, 0, 0, 0, 0), (19, .getfield 22, 8, 12, 0, 149), (22, .iload_n 1, 1, 0, 0, 0), (23, .iaload, 0, 0, 0, 0), (24, .goto 43, 67, 0, 0, 0), (27, .iload_n 2, 2, 0, 0, 0), (28, .iconst 2, 0, 0, 2, 0), (29, .if_icmp .ne 12, 41, 0, 0, 0), (32, .aload_n 0, 0, 0, 0, 0), (33, .getfield 25, 9, 12, 0, 150), (36, .iload_n 1, 1, 0, 0, 0), (37, .iaload, 0, 0, 0, 0), (38, .goto 29, 67, 0, 0, 0), (41, .iload_n 2, 2, 0, 0, 0), (42, .iconst 3, 0, 0, 3, 0), (43, .if_icmp .ne 15, 58, 0, 0, 0), (46, .aload_n 0, 0, 0, 0, 0), (47, .getfield 7, 1, 12, 0, 145), (50, .bipush 6, 0, 0, 6, 0), (52, .iload_n 1, 1, 0, 0, 0), (53, .iadd, 0, 0, 0, 0), (54, .iaload, 0, 0, 0, 0), (55, .goto 12, 67, 0, 0, 0), (58, .aload_n 0, 0, 0, 0, 0), (59, .getfield 7, 1, 12, 0, 145), (62, .bipush 62, 0, 0, 62, 0), (64, .iload_n 1, 1, 0, 0, 0), (65, .iadd, 0, 0, 0, 0), (66, .iaload, 0, 0, 0, 0), (67, .ireturn, 0, 0, 0, 0)]
/-- CardDrawerModel.answersIn(II)I -/
def cd259 : List pI := [(0, .iconst 0, 0, 0, 0, 0), (1, .istore_n 3, 3, 0, 0, 0), (2, .iconst 0, 0, 0, 0, 0), (3, .istore 4, 4, 0, 0, 0), (5, .iload 4, 4, 0, 0, 0), (7, .aload_n 0, 0, 0, 0, 0), (8, .getfield 128, 6, 12, 0, 183), (11, .if_icmp .ge 44, 55, 0, 0, 0), (14, .aload_n 0, 0, 0, 0, 0), (15, .iload_n 1, 1, 0, 0, 0), (16, .iload 4, 4, 0, 0, 0), (18, .invokevirtual 395, 163, 1, 0, 238), (21, .ifCond .eq 28, 49, 0, 0, 0), (24, .aload_n 0, 0, 0, 0, 0), (25, .iload 4, 4, 0, 0, 0), (27, .aload_n 0, 0, 0, 0, 0), (28, .getfield 98, 50, 12, 0, 174), (31, .iload_n 2, 2, 0, 0, 0), (32, .iaload, 0, 0, 0, 0), (33, .invokevirtual 419, 258, 1, 0, 245), (36, .aload_n 0, 0, 0, 0, 0), (37, .getfield 101, 51, 12, 0, 175), (40, .iload_n 2, 2, 0, 0, 0), (41, .iaload, 0, 0, 0, 0), (42, .if_icmp .ne 7, 49, 0, 0, 0), (45, .iload_n 3, 3, 0, 0, 0), (46, .iconst 1, 0, 0, 1, 0), (47, .iadd, 0, 0, 0, 0), (48, .istore_n 3, 3, 0, 0, 0), (49, .iinc 4 1, 4, 0, 1, 0), (52, .goto (-47), 5, 0, 0, 0), (55, .iload_n 3, 3, 0, 0, 0), (56, .ireturn, 0, 0, 0, 0)]
/-- CardDrawerModel.foundBy(I)I -/
def cd260 : List pI := [(0, .iconst 0, 0, 0, 0, 0), (1, .istore_n 2, 2, 0, 0, 0), (2, .iconst 0, 0, 0, 0, 0), (3, .istore_n 3, 3, 0, 0, 0), (4, .iload_n 3, 3, 0, 0, 0), (5, .aload_n 0, 0, 0, 0, 0), (6, .getfield 416, 49, 12, 0, 200), (9, .if_icmp .ge 22, 31, 0, 0, 0), (12, .aload_n 0, 0, 0, 0, 0), (13, .iload_n 1, 1, 0, 0, 0), (14, .iload_n 3, 3, 0, 0, 0), (15, .invokevirtual 422, 259, 1, 0, 246), (18, .ifCond .le 7, 25, 0, 0, 0), (21, .iload_n 2, 2, 0, 0, 0), (22, .iconst 1, 0, 0, 1, 0), (23, .iadd, 0, 0, 0, 0), (24, .istore_n 2, 2, 0, 0, 0), (25, .iinc 3 1, 3, 0, 1, 0), (28, .goto (-24), 4, 0, 0, 0), (31, .iload_n 2, 2, 0, 0, 0), (32, .ireturn, 0, 0, 0, 0)]
/-- CardDrawerModel.keeps(II)I -/
def cd261 : List pI := [(0, .aload_n 0, 0, 0, 0, 0), (1, .iconst 0, 0, 0, 0, 0), (2, .putfield 116, 0, 12, 0, 181), (5, .aload_n 0, 0, 0, 0, 0), (6, .iload_n 1, 1, 0, 0, 0), (7, .iconst 0, 0, 0, 0, 0), (8, .bipush 14, 0, 0, 14, 0), (10, .invokevirtual 138, 158, 1, 0, 172), (13, .ifCond .eq 13, 26, 0, 0, 0), (16, .aload_n 0, 0, 0, 0, 0), (17, .iload_n 2, 2, 0, 0, 0), (18, .iconst 0, 0, 0, 0, 0), (19, .iconst 1, 0, 0, 1, 0), (20, .invokevirtual 138, 158, 1, 0, 172), (23, .ifCond .ne 5, 28, 0, 0, 0), (26, .iconst (-1), 0, 0, (-1), 0), (27, .ireturn, 0, 0, 0, 0), (28, .aload_n 0, 0, 0, 0, 0), (29, .invokevirtual 380, 173, 1, 0, 234), (32, .istore_n 3, 3, 0, 0, 0), (33, .iconst 0, 0, 0, 0, 0), (34, .istore 4, 4, 0, 0, 0), (36, .iconst 0, 0, 0, 0, 0), (37, .istore 5, 5, 0, 0, 0), (39, .iconst 1, 0, 0, 1, 0), (40, .istore 6, 6, 0, 0, 0), (42, .nop, 7, 0, 0, 0), (42, .iload 6, 6, 0, 0, 0), (44, .iload_n 3, 3, 0, 0, 0), (45, .if_icmp .gt 79, 124, 0, 0, 0), (48, .iload 6, 6, 0, 0, 0), (50, .iload_n 3, 3, 0, 0, 0), (51, .iconst (-1), 0, 0, (-1), 0), (52, .ixor, 0, 0, 0, 0), (53, .iand, 0, 0, 0, 0), (54, .ifCond .ne 64, 118, 0, 0, 0), (57, .aload_n 0, 0, 0, 0, 0), (58, .iload 6, 6, 0, 0, 0), (60, .invokevirtual 383, 162, 1, 0, 235), (63, .iload_n 1, 1, 0, 0, 0), (64, .if_icmp .le 6, 70, 0, 0, 0), (67, .goto 51, 118, 0, 0, 0), (70, .aload_n 0, 0, 0, 0, 0), (71, .iload 6, 6, 0, 0, 0), (73, .invokevirtual 425, 260, 1, 0, 247), (76, .istore 7, 7, 0, 0, 0), (78, .iload 7, 7, 0, 0, 0), (80, .iload 5, 5, 0, 0, 0), (82, .if_icmp .lt 36, 118, 0, 0, 0), (85, .iload 7, 7, 0, 0, 0), (87, .iload 5, 5, 0, 0, 0), (89, .if_icmp .ne 21, 110, 0, 0, 0), (92, .aload_n 0, 0, 0, 0, 0), (93, .iload 6, 6, 0, 0, 0), (95, .invokevirtual 383, 162, 1, 0, 235), (98, .aload_n 0, 0, 0, 0, 0), (99, .iload 4, 4, 0, 0, 0), (101, .invokevirtual 383, 162, 1, 0, 235), (104, .if_icmp .lt 6, 110, 0, 0, 0), (107, .goto 11, 118, 0, 0, 0), (110, .iload 6, 6, 0, 0, 0), (112, .istore 4, 4, 0, 0, 0), (114, .iload 7, 7, 0, 0, 0), (116, .istore 5, 5, 0, 0, 0), (118, .iinc 6 1, 6, 0, 1, 0), (121, .goto (-79), 42, 0, 0, 0), (124, .iload_n 2, 2, 0, 0, 0), (125, .ifCond .ne 8, 133, 0, 0, 0), (128, .iload 5, 5, 0, 0, 0), (130, .goto 5, 135, 0, 0, 0), (133, .iload 4, 4, 0, 0, 0), (135, .ireturn, 0, 0, 0, 0)]
/-- CardDrawerModel.lookedAt(I)I -/
def cd262 : List pI := [(0, .iconst 0, 0, 0, 0, 0), (1, .istore_n 2, 2, 0, 0, 0), (2, .iconst 0, 0, 0, 0, 0), (3, .istore_n 3, 3, 0, 0, 0), (4, .iload_n 3, 3, 0, 0, 0), (5, .aload_n 0, 0, 0, 0, 0), (6, .getfield 416, 49, 12, 0, 200), (9, .if_icmp .ge 42, 51, 0, 0, 0), (12, .iload_n 2, 2, 0, 0, 0), (13, .aload_n 0, 0, 0, 0, 0), (14, .getfield 98, 50, 12, 0, 174), (17, .iload_n 3, 3, 0, 0, 0), (18, .iaload, 0, 0, 0, 0), (19, .iload_n 1, 1, 0, 0, 0), (20, .if_icmp .ne 15, 35, 0, 0, 0), (23, .aload_n 0, 0, 0, 0, 0), (24, .aload_n 0, 0, 0, 0, 0), (25, .invokevirtual 380, 173, 1, 0, 234), (28, .iload_n 3, 3, 0, 0, 0), (29, .invokevirtual 422, 259, 1, 0, 246), (32, .goto 11, 43, 0, 0, 0), (35, .aload_n 0, 0, 0, 0, 0), (36, .aload_n 0, 0, 0, 0, 0), (37, .invokevirtual 380, 173, 1, 0, 234), (40, .invokevirtual 383, 162, 1, 0, 235), (43, .iadd, 0, 0, 0, 0), (44, .istore_n 2, 2, 0, 0, 0), (45, .iinc 3 1, 3, 0, 1, 0), (48, .goto (-44), 4, 0, 0, 0), (51, .iload_n 2, 2, 0, 0, 0), (52, .ireturn, 0, 0, 0, 0)]
/-- CardDrawerModel.sorted(I)I -/
def cd263 : List pI := [(0, .aload_n 0, 0, 0, 0, 0), (1, .iconst 0, 0, 0, 0, 0), (2, .putfield 116, 0, 12, 0, 181), (5, .aload_n 0, 0, 0, 0, 0), (6, .iload_n 1, 1, 0, 0, 0), (7, .iconst 0, 0, 0, 0, 0), (8, .iconst 1, 0, 0, 1, 0), (9, .invokevirtual 138, 158, 1, 0, 172), (12, .ifCond .ne 5, 17, 0, 0, 0), (15, .iconst (-1), 0, 0, (-1), 0), (16, .ireturn, 0, 0, 0, 0), (17, .iconst 0, 0, 0, 0, 0), (18, .istore_n 2, 2, 0, 0, 0), (19, .iconst 1, 0, 0, 1, 0), (20, .istore_n 3, 3, 0, 0, 0), (21, .iload_n 3, 3, 0, 0, 0), (22, .iconst 3, 0, 0, 3, 0), (23, .if_icmp .ge 24, 47, 0, 0, 0), (26, .aload_n 0, 0, 0, 0, 0), (27, .iload_n 3, 3, 0, 0, 0), (28, .invokevirtual 428, 262, 1, 0, 248), (31, .aload_n 0, 0, 0, 0, 0), (32, .iload_n 2, 2, 0, 0, 0), (33, .invokevirtual 428, 262, 1, 0, 248), (36, .if_icmp .ge 5, 41, 0, 0, 0), (39, .iload_n 3, 3, 0, 0, 0), (40, .istore_n 2, 2, 0, 0, 0), (41, .iinc 3 1, 3, 0, 1, 0), (44, .goto (-23), 21, 0, 0, 0), (47, .iload_n 1, 1, 0, 0, 0), (48, .ifCond .ne 7, 55, 0, 0, 0), (51, .iload_n 2, 2, 0, 0, 0), (52, .goto 8, 60, 0, 0, 0), (55, .aload_n 0, 0, 0, 0, 0), (56, .iload_n 2, 2, 0, 0, 0), (57, .invokevirtual 428, 262, 1, 0, 248), (60, .ireturn, 0, 0, 0, 0)]
/-- CardDrawerModel.areAlike(III)Z -/
def cd264 : List pI := [(0, .iconst 0, 0, 0, 0, 0), (1, .istore 4, 4, 0, 0, 0), (3, .iload 4, 4, 0, 0, 0), (5, .iconst 5, 0, 0, 5, 0), (6, .if_icmp .ge 38, 44, 0, 0, 0), (9, .aload_n 0, 0, 0, 0, 0), (10, .iload_n 3, 3, 0, 0, 0), (11, .iload 4, 4, 0, 0, 0), (13, .invokevirtual 395, 163, 1, 0, 238), (16, .ifCond .eq 22, 38, 0, 0, 0), (19, .aload_n 0, 0, 0, 0, 0), (20, .iload_n 1, 1, 0, 0, 0), (21, .iload 4, 4, 0, 0, 0), (23, .invokevirtual 419, 258, 1, 0, 245), (26, .aload_n 0, 0, 0, 0, 0), (27, .iload_n 2, 2, 0, 0, 0), (28, .iload 4, 4, 0, 0, 0), (30, .invokevirtual 419, 258, 1, 0, 245), (33, .if_icmp .eq 5, 38, 0, 0, 0), (36, .iconst 0, 0, 0, 0, 0), (37, .ireturn, 1, 0, 0, 0), (38, .iinc 4 1, 4, 0, 1, 0), (41, .goto (-38), 3, 0, 0, 0), (44, .iconst 1, 0, 0, 1, 0), (45, .ireturn, 1, 0, 0, 0)]
/-- CardDrawerModel.tellsApart(I)Z -/
def cd265 : List pI := [(0, .iconst 0, 0, 0, 0, 0), (1, .istore_n 2, 2, 0, 0, 0), (2, .nop, 3, 0, 0, 0), (2, .iload_n 2, 2, 0, 0, 0), (3, .aload_n 0, 0, 0, 0, 0), (4, .getfield 128, 6, 12, 0, 183), (7, .if_icmp .ge 50, 57, 0, 0, 0), (10, .iconst 0, 0, 0, 0, 0), (11, .istore_n 3, 3, 0, 0, 0), (12, .iload_n 3, 3, 0, 0, 0), (13, .iload_n 2, 2, 0, 0, 0), (14, .if_icmp .ge 37, 51, 0, 0, 0), (17, .aload_n 0, 0, 0, 0, 0), (18, .iload_n 2, 2, 0, 0, 0), (19, .invokevirtual 131, 172, 1, 0, 170), (22, .ifCond .eq 23, 45, 0, 0, 0), (25, .aload_n 0, 0, 0, 0, 0), (26, .iload_n 3, 3, 0, 0, 0), (27, .invokevirtual 131, 172, 1, 0, 170), (30, .ifCond .eq 15, 45, 0, 0, 0), (33, .aload_n 0, 0, 0, 0, 0), (34, .iload_n 2, 2, 0, 0, 0), (35, .iload_n 3, 3, 0, 0, 0), (36, .iload_n 1, 1, 0, 0, 0), (37, .invokevirtual 431, 264, 1, 0, 249), (40, .ifCond .eq 5, 45, 0, 0, 0), (43, .iconst 0, 0, 0, 0, 0), (44, .ireturn, 1, 0, 0, 0), (45, .iinc 3 1, 3, 0, 1, 0), (48, .goto (-36), 12, 0, 0, 0), (51, .iinc 2 1, 2, 0, 1, 0), (54, .goto (-52), 2, 0, 0, 0), (57, .iconst 1, 0, 0, 1, 0), (58, .ireturn, 1, 0, 0, 0)]
/-- CardDrawerModel.apart()I -/
def cd266 : List pI := [(0, .aload_n 0, 0, 0, 0, 0), (1, .iconst 0, 0, 0, 0, 0), (2, .putfield 116, 0, 12, 0, 181), (5, .iconst (-1), 0, 0, (-1), 0), (6, .istore_n 1, 1, 0, 0, 0), (7, .iconst 0, 0, 0, 0, 0), (8, .istore_n 2, 2, 0, 0, 0), (9, .iload_n 2, 2, 0, 0, 0), (10, .bipush 32, 0, 0, 32, 0), (12, .if_icmp .ge 37, 49, 0, 0, 0), (15, .iload_n 1, 1, 0, 0, 0), (16, .iconst (-1), 0, 0, (-1), 0), (17, .if_icmp .eq 16, 33, 0, 0, 0), (20, .aload_n 0, 0, 0, 0, 0), (21, .iload_n 2, 2, 0, 0, 0), (22, .invokevirtual 383, 162, 1, 0, 235), (25, .aload_n 0, 0, 0, 0, 0), (26, .iload_n 1, 1, 0, 0, 0), (27, .invokevirtual 383, 162, 1, 0, 235), (30, .if_icmp .ge 13, 43, 0, 0, 0), (33, .aload_n 0, 0, 0, 0, 0), (34, .iload_n 2, 2, 0, 0, 0), (35, .invokevirtual 434, 265, 1, 0, 250), (38, .ifCond .eq 5, 43, 0, 0, 0), (41, .iload_n 2, 2, 0, 0, 0), (42, .istore_n 1, 1, 0, 0, 0), (43, .iinc 2 1, 2, 0, 1, 0), (46, .goto (-37), 9, 0, 0, 0), (49, .iload_n 1, 1, 0, 0, 0), (50, .ireturn, 0, 0, 0, 0)]
/-- CardDrawerModel.isAhead(II)Z -/
def cd267 : List pI := [(0, .aload_n 0, 0, 0, 0, 0), (1, .getfield 7, 1, 12, 0, 145), (4, .bipush 6, 0, 0, 6, 0), (6, .iload_n 1, 1, 0, 0, 0), (7, .iadd, 0, 0, 0, 0), (8, .iaload, 0, 0, 0, 0), (9, .aload_n 0, 0, 0, 0, 0), (10, .getfield 7, 1, 12, 0, 145), (13, .bipush 6, 0, 0, 6, 0), (15, .iload_n 2, 2, 0, 0, 0), (16, .iadd, 0, 0, 0, 0), (17, .iaload, 0, 0, 0, 0), (18, .if_icmp .lt 29, 47, 0, 0, 0), (21, .aload_n 0, 0, 0, 0, 0), (22, .getfield 7, 1, 12, 0, 145), (25, .bipush 6, 0, 0, 6, 0), (27, .iload_n 1, 1, 0, 0, 0), (28, .iadd, 0, 0, 0, 0), (29, .iaload, 0, 0, 0, 0), (30, .aload_n 0, 0, 0, 0, 0), (31, .getfield 7, 1, 12, 0, 145), (34, .bipush 6, 0, 0, 6, 0), (36, .iload_n 2, 2, 0, 0, 0), (37, .iadd, 0, 0, 0, 0), (38, .iaload, 0, 0, 0, 0), (39, .if_icmp .ne 12, 51, 0, 0, 0), (42, .iload_n 1, 1, 0, 0, 0), (43, .iload_n 2, 2, 0, 0, 0), (44, .if_icmp .ge 7, 51, 0, 0, 0), (47, .iconst 1, 0, 0, 1, 0), (48, .goto 4, 52, 0, 0, 0), (51, .iconst 0, 0, 0, 0, 0), (52, .ireturn, 1, 0, 0, 0)]
/-- CardDrawerModel.seconds()I -/
def cd268 : List pI := [(0, .aload_n 0, 0, 0, 0, 0), (1, .iconst 0, 0, 0, 0, 0), (2, .putfield 116, 0, 12, 0, 181), (5, .iconst 0, 0, 0, 0, 0), (6, .istore_n 1, 1, 0, 0, 0), (7, .iconst 0, 0, 0, 0, 0), (8, .istore_n 2, 2, 0, 0, 0), (9, .nop, 3, 0, 0, 0), (9, .iload_n 2, 2, 0, 0, 0), (10, .aload_n 0, 0, 0, 0, 0), (11, .getfield 128, 6, 12, 0, 183), (14, .if_icmp .ge 71, 85, 0, 0, 0), (17, .iconst 0, 0, 0, 0, 0), (18, .istore_n 3, 3, 0, 0, 0), (19, .iload_n 3, 3, 0, 0, 0), (20, .aload_n 0, 0, 0, 0, 0), (21, .getfield 128, 6, 12, 0, 183), (24, .if_icmp .ge 55, 79, 0, 0, 0), (27, .aload_n 0, 0, 0, 0, 0), (28, .iload_n 2, 2, 0, 0, 0), (29, .invokevirtual 131, 172, 1, 0, 170), (32, .ifCond .eq 41, 73, 0, 0, 0), (35, .aload_n 0, 0, 0, 0, 0), (36, .iload_n 3, 3, 0, 0, 0), (37, .invokevirtual 131, 172, 1, 0, 170), (40, .ifCond .eq 33, 73, 0, 0, 0), (43, .aload_n 0, 0, 0, 0, 0), (44, .getfield 19, 7, 12, 0, 148), (47, .iload_n 3, 3, 0, 0, 0), (48, .iaload, 0, 0, 0, 0), (49, .aload_n 0, 0, 0, 0, 0), (50, .getfield 19, 7, 12, 0, 148), (53, .iload_n 2, 2, 0, 0, 0), (54, .iaload, 0, 0, 0, 0), (55, .if_icmp .ne 18, 73, 0, 0, 0), (58, .aload_n 0, 0, 0, 0, 0), (59, .iload_n 3, 3, 0, 0, 0), (60, .iload_n 2, 2, 0, 0, 0), (61, .invokevirtual 437, 267, 1, 0, 251), (64, .ifCond .eq 9, 73, 0, 0, 0), (67, .iload_n 1, 1, 0, 0, 0), (68, .iconst 1, 0, 0, 1, 0), (69, .iload_n 2, 2, 0, 0, 0), (70, .ishl, 0, 0, 0, 0), (71, .ior, 0, 0, 0, 0), (72, .istore_n 1, 1, 0, 0, 0), (73, .iinc 3 1, 3, 0, 1, 0), (76, .goto (-57), 19, 0, 0, 0), (79, .iinc 2 1, 2, 0, 1, 0), (82, .goto (-73), 9, 0, 0, 0), (85, .iload_n 1, 1, 0, 0, 0), (86, .ireturn, 0, 0, 0, 0)]
/-- CardDrawerModel.inCommon(II)I -/
def cd269 : List pI := [(0, .iconst 0, 0, 0, 0, 0), (1, .istore_n 3, 3, 0, 0, 0), (2, .iconst 0, 0, 0, 0, 0), (3, .istore 4, 4, 0, 0, 0), (5, .iload 4, 4, 0, 0, 0), (7, .iconst 4, 0, 0, 4, 0), (8, .if_icmp .ge 30, 38, 0, 0, 0), (11, .aload_n 0, 0, 0, 0, 0), (12, .iload_n 1, 1, 0, 0, 0), (13, .iload 4, 4, 0, 0, 0), (15, .invokevirtual 419, 258, 1, 0, 245), (18, .aload_n 0, 0, 0, 0, 0), (19, .iload_n 2, 2, 0, 0, 0), (20, .iload 4, 4, 0, 0, 0), (22, .invokevirtual 419, 258, 1, 0, 245), (25, .if_icmp .ne 7, 32, 0, 0, 0), (28, .iload_n 3, 3, 0, 0, 0), (29, .iconst 1, 0, 0, 1, 0), (30, .iadd, 0, 0, 0, 0), (31, .istore_n 3, 3, 0, 0, 0), (32, .iinc 4 1, 4, 0, 1, 0), (35, .goto (-30), 5, 0, 0, 0), (38, .iload_n 3, 3, 0, 0, 0), (39, .ireturn, 0, 0, 0, 0)]
/-- CardDrawerModel.beside(II)I -/
def cd270 : List pI := [(0, .aload_n 0, 0, 0, 0, 0), (1, .iconst 0, 0, 0, 0, 0), (2, .putfield 116, 0, 12, 0, 181), (5, .aload_n 0, 0, 0, 0, 0), (6, .iload_n 1, 1, 0, 0, 0), (7, .invokevirtual 142, 170, 1, 0, 173), (10, .ifCond .eq 13, 23, 0, 0, 0), (13, .aload_n 0, 0, 0, 0, 0), (14, .iload_n 2, 2, 0, 0, 0), (15, .iconst 0, 0, 0, 0, 0), (16, .iconst 1, 0, 0, 1, 0), (17, .invokevirtual 138, 158, 1, 0, 172), (20, .ifCond .ne 5, 25, 0, 0, 0), (23, .iconst (-1), 0, 0, (-1), 0), (24, .ireturn, 0, 0, 0, 0), (25, .iconst (-1), 0, 0, (-1), 0), (26, .istore_n 3, 3, 0, 0, 0), (27, .iconst 0, 0, 0, 0, 0), (28, .istore 4, 4, 0, 0, 0), (30, .iload 4, 4, 0, 0, 0), (32, .aload_n 0, 0, 0, 0, 0), (33, .getfield 128, 6, 12, 0, 183), (36, .if_icmp .ge 48, 84, 0, 0, 0), (39, .iload 4, 4, 0, 0, 0), (41, .iload_n 1, 1, 0, 0, 0), (42, .if_icmp .eq 36, 78, 0, 0, 0), (45, .aload_n 0, 0, 0, 0, 0), (46, .iload 4, 4, 0, 0, 0), (48, .invokevirtual 131, 172, 1, 0, 170), (51, .ifCond .eq 27, 78, 0, 0, 0), (54, .iload_n 3, 3, 0, 0, 0), (55, .iconst (-1), 0, 0, (-1), 0), (56, .if_icmp .eq 19, 75, 0, 0, 0), (59, .aload_n 0, 0, 0, 0, 0), (60, .iload_n 1, 1, 0, 0, 0), (61, .iload 4, 4, 0, 0, 0), (63, .invokevirtual 440, 269, 1, 0, 252), (66, .aload_n 0, 0, 0, 0, 0), (67, .iload_n 1, 1, 0, 0, 0), (68, .iload_n 3, 3, 0, 0, 0), (69, .invokevirtual 440, 269, 1, 0, 252), (72, .if_icmp .le 6, 78, 0, 0, 0), (75, .iload 4, 4, 0, 0, 0), (77, .istore_n 3, 3, 0, 0, 0), (78, .iinc 4 1, 4, 0, 1, 0), (81, .goto (-51), 30, 0, 0, 0), (84, .iload_n 3, 3, 0, 0, 0), (85, .iconst (-1), 0, 0, (-1), 0), (86, .if_icmp .eq 7, 93, 0, 0, 0), (89, .iload_n 2, 2, 0, 0, 0), (90, .ifCond .ne 7, 97, 0, 0, 0), (93, .iload_n 3, 3, 0, 0, 0), (94, .goto 9, 103, 0, 0, 0), (97, .aload_n 0, 0, 0, 0, 0), (98, .iload_n 1, 1, 0, 0, 0), (99, .iload_n 3, 3, 0, 0, 0), (100, .invokevirtual 440, 269, 1, 0, 252), (103, .ireturn, 0, 0, 0, 0)]
/-- CardDrawerModel.note(IIZ)I -/
def cd271 : List pI := [(0, .aload_n 0, 0, 0, 0, 0), (1, .iconst 0, 0, 0, 0, 0), (2, .putfield 116, 0, 12, 0, 181), (5, .iload_n 1, 1, 0, 0, 0), (6, .iconst (-1), 0, 0, (-1), 0), (7, .if_icmp .ne 10, 17, 0, 0, 0), (10, .aload_n 0, 0, 0, 0, 0), (11, .iconst 0, 0, 0, 0, 0), (12, .putfield 443, 52, 12, 0, 201), (15, .iconst 0, 0, 0, 0, 0), (16, .ireturn, 0, 0, 0, 0), (17, .aload_n 0, 0, 0, 0, 0), (18, .iload_n 1, 1, 0, 0, 0), (19, .iconst 0, 0, 0, 0, 0), (20, .iconst 3, 0, 0, 3, 0), (21, .invokevirtual 138, 158, 1, 0, 172), (24, .ifCond .eq 50, 74, 0, 0, 0), (27, .aload_n 0, 0, 0, 0, 0), (28, .iload_n 2, 2, 0, 0, 0), (29, .iconst 0, 0, 0, 0, 0), (30, .iload_n 1, 1, 0, 0, 0), (31, .ifCond .ne 7, 38, 0, 0, 0), (34, .iconst 5, 0, 0, 5, 0), (35, .goto 24, 59, 0, 0, 0), (38, .iload_n 1, 1, 0, 0, 0), (39, .iconst 1, 0, 0, 1, 0), (40, .if_icmp .ne 8, 48, 0, 0, 0), (43, .bipush 7, 0, 0, 7, 0), (45, .goto 14, 59, 0, 0, 0), (48, .iload_n 1, 1, 0, 0, 0), (49, .iconst 2, 0, 0, 2, 0), (50, .if_icmp .ne 7, 57, 0, 0, 0), (53, .iconst 1, 0, 0, 1, 0), (54, .goto 5, 59, 0, 0, 0), (57, .bipush 11, 0, 0, 11, 0), (59, .invokevirtual 138, 158, 1, 0, 172), (62, .ifCond .eq 12, 74, 0, 0, 0), (65, .aload_n 0, 0, 0, 0, 0), (66, .getfield 443, 52, 12, 0, 201), (69, .bipush 8, 0, 0, 8, 0), (71, .if_icmp .ne 5, 76, 0, 0, 0), (74, .iconst (-1), 0, 0, (-1), 0), (75, .ireturn, 0, 0, 0, 0), (76, .aload_n 0, 0, 0, 0, 0), (77, .getfield 104, 53, 12, 0, 176), (80, .aload_n 0, 0, 0, 0, 0), (81, .getfield 443, 52, 12, 0, 201), (84, .iload_n 1, 1, 0, 0, 0), (85, .iastore, 0, 0, 0, 0), (86, .aload_n 0, 0, 0, 0, 0), (87, .getfield 107, 54, 12, 0, 177), (90, .aload_n 0, 0, 0, 0, 0), (91, .getfield 443, 52, 12, 0, 201), (94, .iload_n 2, 2, 0, 0, 0), (95, .iastore, 0, 0, 0, 0), (96, .aload_n 0, 0, 0, 0, 0), (97, .getfield 110, 55, 12, 0, 178), (100, .aload_n 0, 0, 0, 0, 0), (101, .getfield 443, 52, 12, 0, 201), (104, .iload_n 3, 3, 0, 0, 0), (105, .ifCond .eq 7, 112, 0, 0, 0), (108, .iconst 1, 0, 0, 1, 0), (109, .goto 4, 113, 0, 0, 0), (112, .iconst 0, 0, 0, 0, 0), (113, .nop, 1, 0, 0, 0), (113, .nop, 2, 0, 0, 0), (113, .nop, 3, 0, 0, 0), (113, .iastore, 0, 0, 0, 0), (114, .aload_n 0, 0, 0, 0, 0), (115, .aload_n 0, 0, 0, 0, 0), (116, .getfield 443, 52, 12, 0, 201), (119, .iconst 1, 0, 0, 1, 0), (120, .iadd, 0, 0, 0, 0), (121, .putfield 443, 52, 12, 0, 201), (124, .aload_n 0, 0, 0, 0, 0), (125, .getfield 443, 52, 12, 0, 201), (128, .ireturn, 0, 0, 0, 0)]
/-- CardDrawerModel.hasSuch(III)Z -/
def cd272 : List pI := [(0, .iconst 0, 0, 0, 0, 0), (1, .istore 4, 4, 0, 0, 0), (3, .iload 4, 4, 0, 0, 0), (5, .aload_n 0, 0, 0, 0, 0), (6, .getfield 128, 6, 12, 0, 183), (9, .if_icmp .ge 47, 56, 0, 0, 0), (12, .aload_n 0, 0, 0, 0, 0), (13, .iload 4, 4, 0, 0, 0), (15, .invokevirtual 131, 172, 1, 0, 170), (18, .ifCond .eq 32, 50, 0, 0, 0), (21, .aload_n 0, 0, 0, 0, 0), (22, .getfield 19, 7, 12, 0, 148), (25, .iload 4, 4, 0, 0, 0), (27, .iaload, 0, 0, 0, 0), (28, .iload_n 1, 1, 0, 0, 0), (29, .if_icmp .ne 21, 50, 0, 0, 0), (32, .iload_n 2, 2, 0, 0, 0), (33, .iconst (-1), 0, 0, (-1), 0), (34, .if_icmp .eq 14, 48, 0, 0, 0), (37, .aload_n 0, 0, 0, 0, 0), (38, .iload 4, 4, 0, 0, 0), (40, .iload_n 2, 2, 0, 0, 0), (41, .invokevirtual 419, 258, 1, 0, 245), (44, .iload_n 3, 3, 0, 0, 0), (45, .if_icmp .ne 5, 50, 0, 0, 0), (48, .iconst 1, 0, 0, 1, 0), (49, .ireturn, 1, 0, 0, 0), (50, .iinc 4 1, 4, 0, 1, 0), (53, .goto (-50), 3, 0, 0, 0), (56, .iconst 0, 0, 0, 0, 0), (57, .ireturn, 1, 0, 0, 0)]
/-- CardDrawerModel.isNoted(II)Z -/
def cd273 : List pI := [(0, .aload_n 0, 0, 0, 0, 0), (1, .getfield 104, 53, 12, 0, 176), (4, .iload_n 2, 2, 0, 0, 0), (5, .iaload, 0, 0, 0, 0), (6, .istore_n 3, 3, 0, 0, 0), (7, .iload_n 3, 3, 0, 0, 0), (8, .iconst 3, 0, 0, 3, 0), (9, .if_icmp .ne 21, 30, 0, 0, 0), (12, .aload_n 0, 0, 0, 0, 0), (13, .aload_n 0, 0, 0, 0, 0), (14, .aload_n 0, 0, 0, 0, 0), (15, .getfield 107, 54, 12, 0, 177), (18, .iload_n 2, 2, 0, 0, 0), (19, .iaload, 0, 0, 0, 0), (20, .invokevirtual 410, 251, 1, 0, 243), (23, .iload_n 1, 1, 0, 0, 0), (24, .invokevirtual 395, 163, 1, 0, 238), (27, .goto 32, 59, 0, 0, 0), (30, .aload_n 0, 0, 0, 0, 0), (31, .iload_n 1, 1, 0, 0, 0), (32, .iload_n 3, 3, 0, 0, 0), (33, .ifCond .ne 7, 40, 0, 0, 0), (36, .iconst 2, 0, 0, 2, 0), (37, .goto 13, 50, 0, 0, 0), (40, .iload_n 3, 3, 0, 0, 0), (41, .iconst 1, 0, 0, 1, 0), (42, .if_icmp .ne 7, 49, 0, 0, 0), (45, .iconst 1, 0, 0, 1, 0), (46, .goto 4, 50, 0, 0, 0), (49, .iconst 4, 0, 0, 4, 0), (50, .nop, 1, 0, 0, 0), (50, .nop, 3, 0, 0, 0), (50, .nop, 4, 0, 0, 0), (50, .aload_n 0, 0, 0, 0, 0), (51, .getfield 107, 54, 12, 0, 177), (54, .iload_n 2, 2, 0, 0, 0), (55, .iaload, 0, 0, 0, 0), (56, .invokevirtual 446, 272, 1, 0, 253), (59, .nop, 1, 0, 0, 0), (59, .nop, 3, 0, 0, 0), (59, .nop, 4, 0, 0, 0), (59, .istore 4, 4, 0, 0, 0), (61, .iload 4, 4, 0, 0, 0), (63, .aload_n 0, 0, 0, 0, 0), (64, .getfield 110, 55, 12, 0, 178), (67, .iload_n 2, 2, 0, 0, 0), (68, .iaload, 0, 0, 0, 0), (69, .iconst 1, 0, 0, 1, 0), (70, .if_icmp .ne 7, 77, 0, 0, 0), (73, .iconst 1, 0, 0, 1, 0), (74, .goto 4, 78, 0, 0, 0), (77, .iconst 0, 0, 0, 0, 0), (78, .if_icmp .ne 7, 85, 0, 0, 0), (81, .iconst 1, 0, 0, 1, 0), (82, .goto 4, 86, 0, 0, 0), (85, .iconst 0, 0, 0, 0, 0), (86, .ireturn, 1, 0, 0, 0)]
/-- CardDrawerModel.writers()I -/
def cd274 : List pI := [(0, .iconst 0, 0, 0, 0, 0), (1, .istore_n 1, 1, 0, 0, 0), (2, .iconst 0, 0, 0, 0, 0), (3, .istore_n 2, 2, 0, 0, 0), (4, .nop, 3, 0, 0, 0), (4, .nop, 4, 0, 0, 0), (4, .iload_n 2, 2, 0, 0, 0), (5, .bipush 12, 0, 0, 12, 0), (7, .if_icmp .ge 57, 64, 0, 0, 0), (10, .aload_n 0, 0, 0, 0, 0), (11, .iload_n 2, 2, 0, 0, 0), (12, .iconst (-1), 0, 0, (-1), 0), (13, .iconst 0, 0, 0, 0, 0), (14, .invokevirtual 446, 272, 1, 0, 253), (17, .istore_n 3, 3, 0, 0, 0), (18, .iconst 0, 0, 0, 0, 0), (19, .istore 4, 4, 0, 0, 0), (21, .iload 4, 4, 0, 0, 0), (23, .aload_n 0, 0, 0, 0, 0), (24, .getfield 443, 52, 12, 0, 201), (27, .if_icmp .ge 21, 48, 0, 0, 0), (30, .aload_n 0, 0, 0, 0, 0), (31, .iload_n 2, 2, 0, 0, 0), (32, .iload 4, 4, 0, 0, 0), (34, .invokevirtual 449, 273, 1, 0, 254), (37, .ifCond .ne 5, 42, 0, 0, 0), (40, .iconst 0, 0, 0, 0, 0), (41, .istore_n 3, 3, 0, 0, 0), (42, .iinc 4 1, 4, 0, 1, 0), (45, .goto (-24), 21, 0, 0, 0), (48, .iload_n 3, 3, 0, 0, 0), (49, .ifCond .eq 9, 58, 0, 0, 0), (52, .iload_n 1, 1, 0, 0, 0), (53, .iconst 1, 0, 0, 1, 0), (54, .iload_n 2, 2, 0, 0, 0), (55, .ishl, 0, 0, 0, 0), (56, .ior, 0, 0, 0, 0), (57, .istore_n 1, 1, 0, 0, 0), (58, .iinc 2 1, 2, 0, 1, 0), (61, .goto (-57), 4, 0, 0, 0), (64, .iload_n 1, 1, 0, 0, 0), (65, .ireturn, 0, 0, 0, 0)]
/-- CardDrawerModel.whose(I)I -/
def cd275 : List pI := [(0, .aload_n 0, 0, 0, 0, 0), (1, .iconst 0, 0, 0, 0, 0), (2, .putfield 116, 0, 12, 0, 181), (5, .aload_n 0, 0, 0, 0, 0), (6, .iload_n 1, 1, 0, 0, 0), (7, .iconst 0, 0, 0, 0, 0), (8, .iconst 1, 0, 0, 1, 0), (9, .invokevirtual 138, 158, 1, 0, 172), (12, .ifCond .ne 5, 17, 0, 0, 0), (15, .iconst (-1), 0, 0, (-1), 0), (16, .ireturn, 0, 0, 0, 0), (17, .aload_n 0, 0, 0, 0, 0), (18, .invokevirtual 452, 274, 1, 0, 255), (21, .istore_n 2, 2, 0, 0, 0), (22, .iload_n 1, 1, 0, 0, 0), (23, .ifCond .ne 5, 28, 0, 0, 0), (26, .iload_n 2, 2, 0, 0, 0), (27, .ireturn, 0, 0, 0, 0), (28, .aload_n 0, 0, 0, 0, 0), (29, .iload_n 2, 2, 0, 0, 0), (30, .invokevirtual 383, 162, 1, 0, 235), (33, .istore_n 3, 3, 0, 0, 0), (34, .iload_n 3, 3, 0, 0, 0), (35, .iconst 2, 0, 0, 2, 0), (36, .if_icmp .ge 5, 41, 0, 0, 0), (39, .iconst (-1), 0, 0, (-1), 0), (40, .ireturn, 0, 0, 0, 0), (41, .iconst 0, 0, 0, 0, 0), (42, .istore 4, 4, 0, 0, 0), (44, .ldc_w 455, 0, 0, 1000000, 0), (47, .istore 5, 5, 0, 0, 0), (49, .iconst 0, 0, 0, 0, 0), (50, .istore 6, 6, 0, 0, 0), (52, .nop, 1, 0, 0, 0), (52, .nop, 7, 0, 0, 0), (52, .nop, 8, 0, 0, 0), (52, .iload 6, 6, 0, 0, 0), (54, .bipush 6, 0, 0, 6, 0), (56, .if_icmp .ge 61, 117, 0, 0, 0), (59, .aload_n 0, 0, 0, 0, 0), (60, .iload_n 2, 2, 0, 0, 0), (61, .aload_n 0, 0, 0, 0, 0), (62, .iload 6, 6, 0, 0, 0), (64, .invokevirtual 401, 249, 1, 0, 240), (67, .iand, 0, 0, 0, 0), (68, .invokevirtual 383, 162, 1, 0, 235), (71, .istore 7, 7, 0, 0, 0), (73, .aload_n 0, 0, 0, 0, 0), (74, .iload 7, 7, 0, 0, 0), (76, .iload_n 3, 3, 0, 0, 0), (77, .iload 7, 7, 0, 0, 0), (79, .isub, 0, 0, 0, 0), (80, .invokevirtual 311, 160, 1, 0, 212), (83, .istore 8, 8, 0, 0, 0), (85, .iload 8, 8, 0, 0, 0), (87, .iload 5, 5, 0, 0, 0), (89, .if_icmp .ge 8, 97, 0, 0, 0), (92, .iload 6, 6, 0, 0, 0), (94, .goto 5, 99, 0, 0, 0), (97, .iload 4, 4, 0, 0, 0), (99, .nop, 1, 0, 0, 0), (99, .nop, 4, 0, 0, 0), (99, .nop, 7, 0, 0, 0), (99, .istore 4, 4, 0, 0, 0), (101, .aload_n 0, 0, 0, 0, 0), (102, .iload 5, 5, 0, 0, 0), (104, .iload 8, 8, 0, 0, 0), (106, .invokevirtual 331, 161, 1, 0, 218), (109, .istore 5, 5, 0, 0, 0), (111, .iinc 6 1, 6, 0, 1, 0), (114, .goto (-62), 52, 0, 0, 0), (117, .iload 4, 4, 0, 0, 0), (119, .ireturn, 0, 0, 0, 0)]
/-- CardDrawerModel.uses(I)I -/
def cd276 : List pI := [(0, .aload_n 0, 0, 0, 0, 0), (1, .iconst 0, 0, 0, 0, 0), (2, .putfield 116, 0, 12, 0, 181), (5, .aload_n 0, 0, 0, 0, 0), (6, .iload_n 1, 1, 0, 0, 0), (7, .iconst 0, 0, 0, 0, 0), (8, .iconst 1, 0, 0, 1, 0), (9, .invokevirtual 138, 158, 1, 0, 172), (12, .ifCond .ne 5, 17, 0, 0, 0), (15, .iconst (-1), 0, 0, (-1), 0), (16, .ireturn, 0, 0, 0, 0), (17, .iconst 0, 0, 0, 0, 0), (18, .istore_n 2, 2, 0, 0, 0), (19, .iconst (-1), 0, 0, (-1), 0), (20, .istore_n 3, 3, 0, 0, 0), (21, .iconst 0, 0, 0, 0, 0), (22, .istore 4, 4, 0, 0, 0), (24, .iload 4, 4, 0, 0, 0), (26, .aload_n 0, 0, 0, 0, 0), (27, .getfield 128, 6, 12, 0, 183), (30, .if_icmp .ge 52, 82, 0, 0, 0), (33, .aload_n 0, 0, 0, 0, 0), (34, .iload 4, 4, 0, 0, 0), (36, .invokevirtual 131, 172, 1, 0, 170), (39, .ifCond .ne 6, 45, 0, 0, 0), (42, .goto 34, 76, 0, 0, 0), (45, .iload_n 2, 2, 0, 0, 0), (46, .aload_n 0, 0, 0, 0, 0), (47, .iload 4, 4, 0, 0, 0), (49, .invokevirtual 318, 219, 1, 0, 214), (52, .iadd, 0, 0, 0, 0), (53, .istore_n 2, 2, 0, 0, 0), (54, .iload_n 3, 3, 0, 0, 0), (55, .iconst (-1), 0, 0, (-1), 0), (56, .if_icmp .eq 17, 73, 0, 0, 0), (59, .aload_n 0, 0, 0, 0, 0), (60, .iload 4, 4, 0, 0, 0), (62, .invokevirtual 318, 219, 1, 0, 214), (65, .aload_n 0, 0, 0, 0, 0), (66, .iload_n 3, 3, 0, 0, 0), (67, .invokevirtual 318, 219, 1, 0, 214), (70, .if_icmp .le 6, 76, 0, 0, 0), (73, .iload 4, 4, 0, 0, 0), (75, .istore_n 3, 3, 0, 0, 0), (76, .iinc 4 1, 4, 0, 1, 0), (79, .goto (-55), 24, 0, 0, 0), (82, .iload_n 1, 1, 0, 0, 0), (83, .ifCond .ne 11, 94, 0, 0, 0), (86, .iload_n 2, 2, 0, 0, 0), (87, .sipush 1000, 0, 0, 1000, 0), (90, .idiv, 0, 0, 0, 0), (91, .goto 4, 95, 0, 0, 0), (94, .iload_n 3, 3, 0, 0, 0), (95, .ireturn, 0, 0, 0, 0)]
/-- CardDrawerModel.heapOf(I)I -/
def cd277 : List pI := [(0, .iconst 0, 0, 0, 0, 0), (1, .istore_n 2, 2, 0, 0, 0), (2, .iconst 0, 0, 0, 0, 0), (3, .istore_n 3, 3, 0, 0, 0), (4, .iload_n 3, 3, 0, 0, 0), (5, .aload_n 0, 0, 0, 0, 0), (6, .getfield 128, 6, 12, 0, 183), (9, .if_icmp .ge 31, 40, 0, 0, 0), (12, .aload_n 0, 0, 0, 0, 0), (13, .iload_n 3, 3, 0, 0, 0), (14, .invokevirtual 131, 172, 1, 0, 170), (17, .ifCond .eq 17, 34, 0, 0, 0), (20, .aload_n 0, 0, 0, 0, 0), (21, .getfield 22, 8, 12, 0, 149), (24, .iload_n 3, 3, 0, 0, 0), (25, .iaload, 0, 0, 0, 0), (26, .iload_n 1, 1, 0, 0, 0), (27, .if_icmp .ne 7, 34, 0, 0, 0), (30, .iload_n 2, 2, 0, 0, 0), (31, .iconst 1, 0, 0, 1, 0), (32, .iadd, 0, 0, 0, 0), (33, .istore_n 2, 2, 0, 0, 0), (34, .iinc 3 1, 3, 0, 1, 0), (37, .goto (-33), 4, 0, 0, 0), (40, .iload_n 2, 2, 0, 0, 0), (41, .ireturn, 0, 0, 0, 0)]
/-- CardDrawerModel.game(I)I -/
def cd278 : List pI := [(0, .aload_n 0, 0, 0, 0, 0), (1, .iconst 0, 0, 0, 0, 0), (2, .putfield 116, 0, 12, 0, 181), (5, .aload_n 0, 0, 0, 0, 0), (6, .iload_n 1, 1, 0, 0, 0), (7, .iconst 0, 0, 0, 0, 0), (8, .iconst 1, 0, 0, 1, 0), (9, .invokevirtual 138, 158, 1, 0, 172), (12, .ifCond .ne 5, 17, 0, 0, 0), (15, .iconst (-1), 0, 0, (-1), 0), (16, .ireturn, 0, 0, 0, 0), (17, .iconst 0, 0, 0, 0, 0), (18, .istore_n 2, 2, 0, 0, 0), (19, .iconst 0, 0, 0, 0, 0), (20, .istore_n 3, 3, 0, 0, 0), (21, .iload_n 3, 3, 0, 0, 0), (22, .bipush 8, 0, 0, 8, 0), (24, .if_icmp .ge 17, 41, 0, 0, 0), (27, .iload_n 2, 2, 0, 0, 0), (28, .aload_n 0, 0, 0, 0, 0), (29, .iload_n 3, 3, 0, 0, 0), (30, .invokevirtual 456, 277, 1, 0, 256), (33, .ixor, 0, 0, 0, 0), (34, .istore_n 2, 2, 0, 0, 0), (35, .iinc 3 1, 3, 0, 1, 0), (38, .goto (-17), 21, 0, 0, 0), (41, .iconst 0, 0, 0, 0, 0), (42, .istore_n 3, 3, 0, 0, 0), (43, .iload_n 3, 3, 0, 0, 0), (44, .bipush 8, 0, 0, 8, 0), (46, .if_icmp .ge 46, 92, 0, 0, 0), (49, .aload_n 0, 0, 0, 0, 0), (50, .iload_n 3, 3, 0, 0, 0), (51, .invokevirtual 456, 277, 1, 0, 256), (54, .iload_n 2, 2, 0, 0, 0), (55, .ixor, 0, 0, 0, 0), (56, .aload_n 0, 0, 0, 0, 0), (57, .iload_n 3, 3, 0, 0, 0), (58, .invokevirtual 456, 277, 1, 0, 256), (61, .if_icmp .ge 25, 86, 0, 0, 0), (64, .iload_n 1, 1, 0, 0, 0), (65, .ifCond .ne 7, 72, 0, 0, 0), (68, .iload_n 3, 3, 0, 0, 0), (69, .goto 16, 85, 0, 0, 0), (72, .aload_n 0, 0, 0, 0, 0), (73, .iload_n 3, 3, 0, 0, 0), (74, .invokevirtual 456, 277, 1, 0, 256), (77, .aload_n 0, 0, 0, 0, 0), (78, .iload_n 3, 3, 0, 0, 0), (79, .invokevirtual 456, 277, 1, 0, 256), (82, .iload_n 2, 2, 0, 0, 0), (83, .ixor, 0, 0, 0, 0), (84, .isub, 0, 0, 0, 0), (85, .ireturn, 0, 0, 0, 0), (86, .iinc 3 1, 3, 0, 1, 0), (89, .goto (-46), 43, 0, 0, 0), (92, .iconst (-1), 0, 0, (-1), 0), (93, .ireturn, 0, 0, 0, 0)]
/-- CardDrawerModel.keepsOne(I)I -/
def cd279 : List pI := [(0, .aload_n 0, 0, 0, 0, 0), (1, .aload_n 0, 0, 0, 0, 0), (2, .getfield 459, 58, 12, 0, 202), (5, .iconst 1, 0, 0, 1, 0), (6, .iadd, 0, 0, 0, 0), (7, .putfield 459, 58, 12, 0, 202), (10, .aload_n 0, 0, 0, 0, 0), (11, .getfield 462, 56, 12, 0, 203), (14, .ifCond .ne 15, 29, 0, 0, 0), (17, .aload_n 0, 0, 0, 0, 0), (18, .getfield 113, 59, 12, 0, 179), (21, .aload_n 0, 0, 0, 0, 0), (22, .getfield 459, 58, 12, 0, 202), (25, .iconst 1, 0, 0, 1, 0), (26, .isub, 0, 0, 0, 0), (27, .iaload, 0, 0, 0, 0), (28, .ireturn, 0, 0, 0, 0), (29, .aload_n 0, 0, 0, 0, 0), (30, .getfield 113, 59, 12, 0, 179), (33, .aload_n 0, 0, 0, 0, 0), (34, .getfield 459, 58, 12, 0, 202), (37, .iconst 1, 0, 0, 1, 0), (38, .isub, 0, 0, 0, 0), (39, .iload_n 1, 1, 0, 0, 0), (40, .iastore, 0, 0, 0, 0), (41, .iload_n 1, 1, 0, 0, 0), (42, .ireturn, 0, 0, 0, 0)]
/-- CardDrawerModel.keepsLaw()V -/
def cd280 : List pI := [(0, .aload_n 0, 0, 0, 0, 0), (1, .getfield 37, 18, 12, 0, 154), (4, .iconst 0, 0, 0, 0, 0), (5, .aload_n 0, 0, 0, 0, 0), (6, .aload_n 0, 0, 0, 0, 0), (7, .getfield 37, 18, 12, 0, 154), (10, .iconst 0, 0, 0, 0, 0), (11, .iaload, 0, 0, 0, 0), (12, .invokevirtual 465, 279, 1, 0, 257), (15, .iastore, 0, 0, 0, 0), (16, .iconst 0, 0, 0, 0, 0), (17, .istore_n 1, 1, 0, 0, 0), (18, .iload_n 1, 1, 0, 0, 0), (19, .bipush 16, 0, 0, 16, 0), (21, .if_icmp .ge 73, 94, 0, 0, 0), (24, .aload_n 0, 0, 0, 0, 0), (25, .getfield 40, 19, 12, 0, 155), (28, .iload_n 1, 1, 0, 0, 0), (29, .aload_n 0, 0, 0, 0, 0), (30, .aload_n 0, 0, 0, 0, 0), (31, .getfield 40, 19, 12, 0, 155), (34, .iload_n 1, 1, 0, 0, 0), (35, .iaload, 0, 0, 0, 0), (36, .invokevirtual 465, 279, 1, 0, 257), (39, .iastore, 0, 0, 0, 0), (40, .aload_n 0, 0, 0, 0, 0), (41, .getfield 43, 20, 12, 0, 156), (44, .iload_n 1, 1, 0, 0, 0), (45, .aload_n 0, 0, 0, 0, 0), (46, .aload_n 0, 0, 0, 0, 0), (47, .getfield 43, 20, 12, 0, 156), (50, .iload_n 1, 1, 0, 0, 0), (51, .iaload, 0, 0, 0, 0), (52, .invokevirtual 465, 279, 1, 0, 257), (55, .iastore, 0, 0, 0, 0), (56, .aload_n 0, 0, 0, 0, 0), (57, .getfield 46, 21, 12, 0, 157), (60, .iload_n 1, 1, 0, 0, 0), (61, .aload_n 0, 0, 0, 0, 0), (62, .aload_n 0, 0, 0, 0, 0), (63, .getfield 46, 21, 12, 0, 157), (66, .iload_n 1, 1, 0, 0, 0), (67, .iaload, 0, 0, 0, 0), (68, .invokevirtual 465, 279, 1, 0, 257), (71, .iastore, 0, 0, 0, 0), (72, .aload_n 0, 0, 0, 0, 0), (73, .getfield 49, 22, 12, 0, 158), (76, .iload_n 1, 1, 0, 0, 0), (77, .aload_n 0, 0, 0, 0, 0), (78, .aload_n 0, 0, 0, 0, 0), (79, .getfield 49, 22, 12, 0, 158), (82, .iload_n 1, 1, 0, 0, 0), (83, .iaload, 0, 0, 0, 0), (84, .invokevirtual 465, 279, 1, 0, 257), (87, .iastore, 0, 0, 0, 0), (88, .iinc 1 1, 1, 0, 1, 0), (91, .goto (-73), 18, 0, 0, 0), (94, .iconst 0, 0, 0, 0, 0), (95, .istore_n 1, 1, 0, 0, 0), (96, .iload_n 1, 1, 0, 0, 0), (97, .sipush 400, 0, 0, 400, 0), (100, .if_icmp .ge 41, 141, 0, 0, 0), (103, .aload_n 0, 0, 0, 0, 0), (104, .getfield 52, 23, 12, 0, 159), (107, .iload_n 1, 1, 0, 0, 0), (108, .aload_n 0, 0, 0, 0, 0), (109, .aload_n 0, 0, 0, 0, 0), (110, .getfield 52, 23, 12, 0, 159), (113, .iload_n 1, 1, 0, 0, 0), (114, .iaload, 0, 0, 0, 0), (115, .invokevirtual 465, 279, 1, 0, 257), (118, .iastore, 0, 0, 0, 0), (119, .aload_n 0, 0, 0, 0, 0), (120, .getfield 55, 24, 12, 0, 160), (123, .iload_n 1, 1, 0, 0, 0), (124, .aload_n 0, 0, 0, 0, 0), (125, .aload_n 0, 0, 0, 0, 0), (126, .getfield 55, 24, 12, 0, 160), (129, .iload_n 1, 1, 0, 0, 0), (130, .iaload, 0, 0, 0, 0), (131, .invokevirtual 465, 279, 1, 0, 257), (134, .iastore, 0, 0, 0, 0), (135, .iinc 1 1, 1, 0, 1, 0), (138, .goto (-42), 96, 0, 0, 0), (141, .return_, 0, 0, 0, 0)]
/-- CardDrawerModel.keepsTexts()V -/
def cd281 : List pI := [(0, .aload_n 0, 0, 0, 0, 0), (1, .aload_n 0, 0, 0, 0, 0), (2, .aload_n 0, 0, 0, 0, 0), (3, .getfield 275, 34, 12, 0, 195), (6, .invokevirtual 465, 279, 1, 0, 257), (9, .putfield 275, 34, 12, 0, 195), (12, .aload_n 0, 0, 0, 0, 0), (13, .aload_n 0, 0, 0, 0, 0), (14, .aload_n 0, 0, 0, 0, 0), (15, .getfield 278, 36, 12, 0, 196), (18, .invokevirtual 465, 279, 1, 0, 257), (21, .putfield 278, 36, 12, 0, 196), (24, .aload_n 0, 0, 0, 0, 0), (25, .aload_n 0, 0, 0, 0, 0), (26, .aload_n 0, 0, 0, 0, 0), (27, .getfield 281, 39, 12, 0, 197), (30, .invokevirtual 465, 279, 1, 0, 257), (33, .putfield 281, 39, 12, 0, 197), (36, .iconst 0, 0, 0, 0, 0), (37, .istore_n 1, 1, 0, 0, 0), (38, .iload_n 1, 1, 0, 0, 0), (39, .bipush 12, 0, 0, 12, 0), (41, .if_icmp .ge 25, 66, 0, 0, 0), (44, .aload_n 0, 0, 0, 0, 0), (45, .getfield 65, 35, 12, 0, 163), (48, .iload_n 1, 1, 0, 0, 0), (49, .aload_n 0, 0, 0, 0, 0), (50, .aload_n 0, 0, 0, 0, 0), (51, .getfield 65, 35, 12, 0, 163), (54, .iload_n 1, 1, 0, 0, 0), (55, .iaload, 0, 0, 0, 0), (56, .invokevirtual 465, 279, 1, 0, 257), (59, .iastore, 0, 0, 0, 0), (60, .iinc 1 1, 1, 0, 1, 0), (63, .goto (-25), 38, 0, 0, 0), (66, .iconst 0, 0, 0, 0, 0), (67, .istore_n 1, 1, 0, 0, 0), (68, .iload_n 1, 1, 0, 0, 0), (69, .bipush 8, 0, 0, 8, 0), (71, .if_icmp .ge 41, 112, 0, 0, 0), (74, .aload_n 0, 0, 0, 0, 0), (75, .getfield 68, 37, 12, 0, 164), (78, .iload_n 1, 1, 0, 0, 0), (79, .aload_n 0, 0, 0, 0, 0), (80, .aload_n 0, 0, 0, 0, 0), (81, .getfield 68, 37, 12, 0, 164), (84, .iload_n 1, 1, 0, 0, 0), (85, .iaload, 0, 0, 0, 0), (86, .invokevirtual 465, 279, 1, 0, 257), (89, .iastore, 0, 0, 0, 0), (90, .aload_n 0, 0, 0, 0, 0), (91, .getfield 71, 38, 12, 0, 165), (94, .iload_n 1, 1, 0, 0, 0), (95, .aload_n 0, 0, 0, 0, 0), (96, .aload_n 0, 0, 0, 0, 0), (97, .getfield 71, 38, 12, 0, 165), (100, .iload_n 1, 1, 0, 0, 0), (101, .iaload, 0, 0, 0, 0), (102, .invokevirtual 465, 279, 1, 0, 257), (105, .iastore, 0, 0, 0, 0), (106, .iinc 1 1, 1, 0, 1, 0), (109, .goto (-41), 68, 0, 0, 0), (112, .iconst 0, 0, 0, 0, 0), (113, .istore_n 1, 1, 0, 0, 0), (114, .iload_n 1, 1, 0, 0, 0), (115, .bipush 48, 0, 0, 48, 0), (117, .if_icmp .ge 25, 142, 0, 0, 0), (120, .aload_n 0, 0, 0, 0, 0), (121, .getfield 74, 40, 12, 0, 166), (124, .iload_n 1, 1, 0, 0, 0), (125, .aload_n 0, 0, 0, 0, 0), (126, .aload_n 0, 0, 0, 0, 0), (127, .getfield 74, 40, 12, 0, 166), (130, .iload_n 1, 1, 0, 0, 0), (131, .iaload, 0, 0, 0, 0), (132, .invokevirtual 465, 279, 1, 0, 257), (135, .iastore, 0, 0, 0, 0), (136, .iinc 1 1, 1, 0, 1, 0), (139, .goto (-25), 114, 0, 0, 0), (142, .return_, 0, 0, 0, 0)]
/-- CardDrawerModel.keepsTold()V -/
def cd282 : List pI := [(0, .aload_n 0, 0, 0, 0, 0), (1, .aload_n 0, 0, 0, 0, 0), (2, .aload_n 0, 0, 0, 0, 0), (3, .getfield 128, 6, 12, 0, 183), (6, .invokevirtual 465, 279, 1, 0, 257), (9, .putfield 128, 6, 12, 0, 183), (12, .aload_n 0, 0, 0, 0, 0), (13, .aload_n 0, 0, 0, 0, 0), (14, .aload_n 0, 0, 0, 0, 0), (15, .getfield 389, 43, 12, 0, 199), (18, .invokevirtual 465, 279, 1, 0, 257), (21, .putfield 389, 43, 12, 0, 199), (24, .aload_n 0, 0, 0, 0, 0), (25, .aload_n 0, 0, 0, 0, 0), (26, .aload_n 0, 0, 0, 0, 0), (27, .getfield 416, 49, 12, 0, 200), (30, .invokevirtual 465, 279, 1, 0, 257), (33, .putfield 416, 49, 12, 0, 200), (36, .aload_n 0, 0, 0, 0, 0), (37, .aload_n 0, 0, 0, 0, 0), (38, .aload_n 0, 0, 0, 0, 0), (39, .getfield 443, 52, 12, 0, 201), (42, .invokevirtual 465, 279, 1, 0, 257), (45, .putfield 443, 52, 12, 0, 201), (48, .iconst 0, 0, 0, 0, 0), (49, .istore_n 1, 1, 0, 0, 0), (50, .iload_n 1, 1, 0, 0, 0), (51, .bipush 14, 0, 0, 14, 0), (53, .if_icmp .ge 57, 110, 0, 0, 0), (56, .aload_n 0, 0, 0, 0, 0), (57, .getfield 19, 7, 12, 0, 148), (60, .iload_n 1, 1, 0, 0, 0), (61, .aload_n 0, 0, 0, 0, 0), (62, .aload_n 0, 0, 0, 0, 0), (63, .getfield 19, 7, 12, 0, 148), (66, .iload_n 1, 1, 0, 0, 0), (67, .iaload, 0, 0, 0, 0), (68, .invokevirtual 465, 279, 1, 0, 257), (71, .iastore, 0, 0, 0, 0), (72, .aload_n 0, 0, 0, 0, 0), (73, .getfield 22, 8, 12, 0, 149), (76, .iload_n 1, 1, 0, 0, 0), (77, .aload_n 0, 0, 0, 0, 0), (78, .aload_n 0, 0, 0, 0, 0), (79, .getfield 22, 8, 12, 0, 149), (82, .iload_n 1, 1, 0, 0, 0), (83, .iaload, 0, 0, 0, 0), (84, .invokevirtual 465, 279, 1, 0, 257), (87, .iastore, 0, 0, 0, 0), (88, .aload_n 0, 0, 0, 0, 0), (89, .getfield 25, 9, 12, 0, 150), (92, .iload_n 1, 1, 0, 0, 0), (93, .aload_n 0, 0, 0, 0, 0), (94, .aload_n 0, 0, 0, 0, 0), (95, .getfield 25, 9, 12, 0, 150), (98, .iload_n 1, 1, 0, 0, 0), (99, .iaload, 0, 0, 0, 0), (100, .invokevirtual 465, 279, 1, 0, 257), (103, .iastore, 0, 0, 0, 0), (104, .iinc 1 1, 1, 0, 1, 0), (107, .goto (-57), 50, 0, 0, 0), (110, .iconst 0, 0, 0, 0, 0), (111, .istore_n 1, 1, 0, 0, 0), (112, .iload_n 1, 1, 0, 0, 0), (113, .bipush 12, 0, 0, 12, 0), (115, .if_icmp .ge 41, 156, 0, 0, 0), (118, .aload_n 0, 0, 0, 0, 0), (119, .getfield 83, 44, 12, 0, 169), (122, .iload_n 1, 1, 0, 0, 0), (123, .aload_n 0, 0, 0, 0, 0), (124, .aload_n 0, 0, 0, 0, 0), (125, .getfield 83, 44, 12, 0, 169), (128, .iload_n 1, 1, 0, 0, 0), (129, .iaload, 0, 0, 0, 0), (130, .invokevirtual 465, 279, 1, 0, 257), (133, .iastore, 0, 0, 0, 0), (134, .aload_n 0, 0, 0, 0, 0), (135, .getfield 86, 45, 12, 0, 170), (138, .iload_n 1, 1, 0, 0, 0), (139, .aload_n 0, 0, 0, 0, 0), (140, .aload_n 0, 0, 0, 0, 0), (141, .getfield 86, 45, 12, 0, 170), (144, .iload_n 1, 1, 0, 0, 0), (145, .iaload, 0, 0, 0, 0), (146, .invokevirtual 465, 279, 1, 0, 257), (149, .iastore, 0, 0, 0, 0), (150, .iinc 1 1, 1, 0, 1, 0), (153, .goto (-41), 112, 0, 0, 0), (156, .iconst 0, 0, 0, 0, 0), (157, .istore_n 1, 1, 0, 0, 0), (158, .iload_n 1, 1, 0, 0, 0), (159, .bipush 10, 0, 0, 10, 0), (161, .if_icmp .ge 41, 202, 0, 0, 0), (164, .aload_n 0, 0, 0, 0, 0), (165, .getfield 98, 50, 12, 0, 174), (168, .iload_n 1, 1, 0, 0, 0), (169, .aload_n 0, 0, 0, 0, 0), (170, .aload_n 0, 0, 0, 0, 0), (171, .getfield 98, 50, 12, 0, 174), (174, .iload_n 1, 1, 0, 0, 0), (175, .iaload, 0, 0, 0, 0), (176, .invokevirtual 465, 279, 1, 0, 257), (179, .iastore, 0, 0, 0, 0), (180, .aload_n 0, 0, 0, 0, 0), (181, .getfield 101, 51, 12, 0, 175), (184, .iload_n 1, 1, 0, 0, 0), (185, .aload_n 0, 0, 0, 0, 0), (186, .aload_n 0, 0, 0, 0, 0), (187, .getfield 101, 51, 12, 0, 175), (190, .iload_n 1, 1, 0, 0, 0), (191, .iaload, 0, 0, 0, 0), (192, .invokevirtual 465, 279, 1, 0, 257), (195, .iastore, 0, 0, 0, 0), (196, .iinc 1 1, 1, 0, 1, 0), (199, .goto (-41), 158, 0, 0, 0), (202, .iconst 0, 0, 0, 0, 0), (203, .istore_n 1, 1, 0, 0, 0), (204, .iload_n 1, 1, 0, 0, 0), (205, .bipush 8, 0, 0, 8, 0), (207, .if_icmp .ge 57, 264, 0, 0, 0), (210, .aload_n 0, 0, 0, 0, 0), (211, .getfield 104, 53, 12, 0, 176), (214, .iload_n 1, 1, 0, 0, 0), (215, .aload_n 0, 0, 0, 0, 0), (216, .aload_n 0, 0, 0, 0, 0), (217, .getfield 104, 53, 12, 0, 176), (220, .iload_n 1, 1, 0, 0, 0), (221, .iaload, 0, 0, 0, 0), (222, .invokevirtual 465, 279, 1, 0, 257), (225, .iastore, 0, 0, 0, 0), (226, .aload_n 0, 0, 0, 0, 0), (227, .getfield 107, 54, 12, 0, 177), (230, .iload_n 1, 1, 0, 0, 0), (231, .aload_n 0, 0, 0, 0, 0), (232, .aload_n 0, 0, 0, 0, 0), (233, .getfield 107, 54, 12, 0, 177), (236, .iload_n 1, 1, 0, 0, 0), (237, .iaload, 0, 0, 0, 0), (238, .invokevirtual 465, 279, 1, 0, 257), (241, .iastore, 0, 0, 0, 0), (242, .aload_n 0, 0, 0, 0, 0), (243, .getfield 110, 55, 12, 0, 178), (246, .iload_n 1, 1, 0, 0, 0), (247, .aload_n 0, 0, 0, 0, 0), (248, .aload_n 0, 0, 0, 0, 0), (249, .getfield 110, 55, 12, 0, 178), (252, .iload_n 1, 1, 0, 0, 0), (253, .iaload, 0, 0, 0, 0), (254, .invokevirtual 465, 279, 1, 0, 257), (257, .iastore, 0, 0, 0, 0), (258, .iinc 1 1, 1, 0, 1, 0), (261, .goto (-57), 204, 0, 0, 0), (264, .return_, 0, 0, 0, 0)]
/-- CardDrawerModel.image(Z)Z -/
def cd283 : List pI := [(0, .aload_n 0, 0, 0, 0, 0), (1, .iconst 0, 0, 0, 0, 0), (2, .putfield 116, 0, 12, 0, 181), (5, .iload_n 1, 1, 0, 0, 0), (6, .ifCond .ne 12, 18, 0, 0, 0), (9, .aload_n 0, 0, 0, 0, 0), (10, .getfield 468, 57, 12, 0, 204), (13, .ifCond .ne 5, 18, 0, 0, 0), (16, .iconst 0, 0, 0, 0, 0), (17, .ireturn, 1, 0, 0, 0), (18, .nop, 2, 0, 0, 0), (18, .aload_n 0, 0, 0, 0, 0), (19, .iload_n 1, 1, 0, 0, 0), (20, .putfield 462, 56, 12, 1, 203), (23, .aload_n 0, 0, 0, 0, 0), (24, .iconst 1, 0, 0, 1, 0), (25, .putfield 468, 57, 12, 1, 204), (28, .aload_n 0, 0, 0, 0, 0), (29, .iconst 0, 0, 0, 0, 0), (30, .putfield 459, 58, 12, 0, 202), (33, .iconst 0, 0, 0, 0, 0), (34, .istore_n 2, 2, 0, 0, 0), (35, .iload_n 2, 2, 0, 0, 0), (36, .bipush 76, 0, 0, 76, 0), (38, .if_icmp .ge 25, 63, 0, 0, 0), (41, .aload_n 0, 0, 0, 0, 0), (42, .getfield 7, 1, 12, 0, 145), (45, .iload_n 2, 2, 0, 0, 0), (46, .aload_n 0, 0, 0, 0, 0), (47, .aload_n 0, 0, 0, 0, 0), (48, .getfield 7, 1, 12, 0, 145), (51, .iload_n 2, 2, 0, 0, 0), (52, .iaload, 0, 0, 0, 0), (53, .invokevirtual 465, 279, 1, 0, 257), (56, .iastore, 0, 0, 0, 0), (57, .iinc 2 1, 2, 0, 1, 0), (60, .goto (-25), 35, 0, 0, 0), (63, .aload_n 0, 0, 0, 0, 0), (64, .invokevirtual 471, 282, 0, 0, 258), (67, .aload_n 0, 0, 0, 0, 0), (68, .invokevirtual 474, 281, 0, 0, 259), (71, .iconst 0, 0, 0, 0, 0), (72, .istore_n 2, 2, 0, 0, 0), (73, .iload_n 2, 2, 0, 0, 0), (74, .sipush 600, 0, 0, 600, 0), (77, .if_icmp .ge 25, 102, 0, 0, 0), (80, .aload_n 0, 0, 0, 0, 0), (81, .getfield 28, 10, 12, 0, 151), (84, .iload_n 2, 2, 0, 0, 0), (85, .aload_n 0, 0, 0, 0, 0), (86, .aload_n 0, 0, 0, 0, 0), (87, .getfield 28, 10, 12, 0, 151), (90, .iload_n 2, 2, 0, 0, 0), (91, .iaload, 0, 0, 0, 0), (92, .invokevirtual 465, 279, 1, 0, 257), (95, .iastore, 0, 0, 0, 0), (96, .iinc 2 1, 2, 0, 1, 0), (99, .goto (-26), 73, 0, 0, 0), (102, .aload_n 0, 0, 0, 0, 0), (103, .invokevirtual 477, 280, 0, 0, 260), (106, .iload_n 1, 1, 0, 0, 0), (107, .ifCond .ne 8, 115, 0, 0, 0), (110, .aload_n 0, 0, 0, 0, 0), (111, .iconst 0, 0, 0, 0, 0), (112, .putfield 119, 3, 12, 0, 180), (115, .iconst 1, 0, 0, 1, 0), (116, .ireturn, 1, 0, 0, 0)]
/-- CardDrawerModel.look(I)I -/
def cd284 : List pI := [(0, .aload_n 0, 0, 0, 0, 0), (1, .iconst 0, 0, 0, 0, 0), (2, .putfield 116, 0, 12, 0, 181), (5, .iload_n 1, 1, 0, 0, 0), (6, .ifCond .ne 8, 14, 0, 0, 0), (9, .aload_n 0, 0, 0, 0, 0), (10, .getfield 128, 6, 12, 0, 183), (13, .ireturn, 0, 0, 0, 0), (14, .iload_n 1, 1, 0, 0, 0), (15, .iconst 1, 0, 0, 1, 0), (16, .if_icmp .ne 10, 26, 0, 0, 0), (19, .aload_n 0, 0, 0, 0, 0), (20, .getfield 7, 1, 12, 0, 145), (23, .iconst 0, 0, 0, 0, 0), (24, .iaload, 0, 0, 0, 0), (25, .ireturn, 0, 0, 0, 0), (26, .iload_n 1, 1, 0, 0, 0), (27, .iconst 2, 0, 0, 2, 0), (28, .if_icmp .ne 10, 38, 0, 0, 0), (31, .aload_n 0, 0, 0, 0, 0), (32, .getfield 7, 1, 12, 0, 145), (35, .iconst 3, 0, 0, 3, 0), (36, .iaload, 0, 0, 0, 0), (37, .ireturn, 0, 0, 0, 0), (38, .iload_n 1, 1, 0, 0, 0), (39, .iconst 3, 0, 0, 3, 0), (40, .if_icmp .ne 10, 50, 0, 0, 0), (43, .aload_n 0, 0, 0, 0, 0), (44, .getfield 7, 1, 12, 0, 145), (47, .iconst 4, 0, 0, 4, 0), (48, .iaload, 0, 0, 0, 0), (49, .ireturn, 0, 0, 0, 0), (50, .iload_n 1, 1, 0, 0, 0), (51, .iconst 4, 0, 0, 4, 0), (52, .if_icmp .ne 10, 62, 0, 0, 0), (55, .aload_n 0, 0, 0, 0, 0), (56, .getfield 7, 1, 12, 0, 145), (59, .iconst 5, 0, 0, 5, 0), (60, .iaload, 0, 0, 0, 0), (61, .ireturn, 0, 0, 0, 0), (62, .iload_n 1, 1, 0, 0, 0), (63, .iconst 5, 0, 0, 5, 0), (64, .if_icmp .ne 8, 72, 0, 0, 0), (67, .aload_n 0, 0, 0, 0, 0), (68, .invokevirtual 380, 173, 1, 0, 234), (71, .ireturn, 0, 0, 0, 0), (72, .iload_n 1, 1, 0, 0, 0), (73, .bipush 6, 0, 0, 6, 0), (75, .if_icmp .ne 10, 85, 0, 0, 0), (78, .aload_n 0, 0, 0, 0, 0), (79, .getfield 7, 1, 12, 0, 145), (82, .iconst 2, 0, 0, 2, 0), (83, .iaload, 0, 0, 0, 0), (84, .ireturn, 0, 0, 0, 0), (85, .iload_n 1, 1, 0, 0, 0), (86, .bipush 7, 0, 0, 7, 0), (88, .if_icmp .ne 10, 98, 0, 0, 0), (91, .aload_n 0, 0, 0, 0, 0), (92, .getfield 7, 1, 12, 0, 145), (95, .iconst 1, 0, 0, 1, 0), (96, .iaload, 0, 0, 0, 0), (97, .ireturn, 0, 0, 0, 0), (98, .iload_n 1, 1, 0, 0, 0), (99, .bipush 8, 0, 0, 8, 0), (101, .if_icmp .ne 10, 111, 0, 0, 0), (104, .aload_n 0, 0, 0, 0, 0), (105, .getfield 37, 18, 12, 0, 154), (108, .iconst 0, 0, 0, 0, 0), (109, .iaload, 0, 0, 0, 0), (110, .ireturn, 0, 0, 0, 0), (111, .iload_n 1, 1, 0, 0, 0), (112, .bipush 9, 0, 0, 9, 0), (114, .if_icmp .ne 8, 122, 0, 0, 0), (117, .aload_n 0, 0, 0, 0, 0), (118, .getfield 275, 34, 12, 0, 195), (121, .ireturn, 0, 0, 0, 0), (122, .iload_n 1, 1, 0, 0, 0), (123, .bipush 10, 0, 0, 10, 0), (125, .if_icmp .ne 8, 133, 0, 0, 0), (128, .aload_n 0, 0, 0, 0, 0), (129, .getfield 278, 36, 12, 0, 196), (132, .ireturn, 0, 0, 0, 0), (133, .iload_n 1, 1, 0, 0, 0), (134, .bipush 11, 0, 0, 11, 0), (136, .if_icmp .ne 8, 144, 0, 0, 0), (139, .aload_n 0, 0, 0, 0, 0), (140, .getfield 281, 39, 12, 0, 197), (143, .ireturn, 0, 0, 0, 0), (144, .iload_n 1, 1, 0, 0, 0), (145, .bipush 12, 0, 0, 12, 0), (147, .if_icmp .ne 8, 155, 0, 0, 0), (150, .aload_n 0, 0, 0, 0, 0), (151, .getfield 389, 43, 12, 0, 199), (154, .ireturn, 0, 0, 0, 0), (155, .iload_n 1, 1, 0, 0, 0), (156, .bipush 13, 0, 0, 13, 0), (158, .if_icmp .ne 8, 166, 0, 0, 0), (161, .aload_n 0, 0, 0, 0, 0), (162, .getfield 416, 49, 12, 0, 200), (165, .ireturn, 0, 0, 0, 0), (166, .iload_n 1, 1, 0, 0, 0), (167, .bipush 14, 0, 0, 14, 0), (169, .if_icmp .ne 8, 177, 0, 0, 0), (172, .aload_n 0, 0, 0, 0, 0), (173, .getfield 443, 52, 12, 0, 201), (176, .ireturn, 0, 0, 0, 0), (177, .iload_n 1, 1, 0, 0, 0), (178, .bipush 15, 0, 0, 15, 0), (180, .if_icmp .ne 10, 190, 0, 0, 0), (183, .aload_n 0, 0, 0, 0, 0), (184, .getfield 119, 3, 12, 0, 180), (187, .goto 4, 191, 0, 0, 0), (190, .iconst (-1), 0, 0, (-1), 0), (191, .ireturn, 0, 0, 0, 0)]
/-- java/lang/Integer.bitCount(I)I -/
def cd285 : List pI := [(0, .iload_n 0, 0, 0, 0, 0), (1, .iload_n 0, 0, 0, 0, 0), (2, .iconst 1, 0, 0, 1, 0), (3, .iushr, 0, 0, 0, 0), (4, .ldc_w 265, 0, 0, 1431655765, 0), (7, .iand, 0, 0, 0, 0), (8, .isub, 0, 0, 0, 0), (9, .istore_n 0, 0, 0, 0, 0), (10, .iload_n 0, 0, 0, 0, 0), (11, .ldc_w 266, 0, 0, 858993459, 0), (14, .iand, 0, 0, 0, 0), (15, .iload_n 0, 0, 0, 0, 0), (16, .iconst 2, 0, 0, 2, 0), (17, .iushr, 0, 0, 0, 0), (18, .ldc_w 266, 0, 0, 858993459, 0), (21, .iand, 0, 0, 0, 0), (22, .iadd, 0, 0, 0, 0), (23, .istore_n 0, 0, 0, 0, 0), (24, .iload_n 0, 0, 0, 0, 0), (25, .iload_n 0, 0, 0, 0, 0), (26, .iconst 4, 0, 0, 4, 0), (27, .iushr, 0, 0, 0, 0), (28, .iadd, 0, 0, 0, 0), (29, .ldc_w 267, 0, 0, 252645135, 0), (32, .iand, 0, 0, 0, 0), (33, .istore_n 0, 0, 0, 0, 0), (34, .iload_n 0, 0, 0, 0, 0), (35, .iload_n 0, 0, 0, 0, 0), (36, .bipush 8, 0, 0, 8, 0), (38, .iushr, 0, 0, 0, 0), (39, .iadd, 0, 0, 0, 0), (40, .istore_n 0, 0, 0, 0, 0), (41, .iload_n 0, 0, 0, 0, 0), (42, .iload_n 0, 0, 0, 0, 0), (43, .bipush 16, 0, 0, 16, 0), (45, .iushr, 0, 0, 0, 0), (46, .iadd, 0, 0, 0, 0), (47, .istore_n 0, 0, 0, 0, 0), (48, .iload_n 0, 0, 0, 0, 0), (49, .bipush 63, 0, 0, 63, 0), (51, .iand, 0, 0, 0, 0), (52, .ireturn, 0, 0, 0, 0)]
def PTL : List pM := [(3, 3, 0, cd0), (2, 5, 1, cd1), (3, 7, 1, cd2), (3, 3, 1, cd3), (2, 3, 0, cd4), (2, 4, 1, cd5), (1, 3, 1, cd6), (2, 6, 1, cd7), (1, 4, 1, cd8), (2, 4, 1, cd9), (4, 5, 1, cd10), (1, 3, 1, cd11), (2, 5, 1, cd12), (2, 4, 1, cd13), (3, 5, 1, cd14), (2, 2, 1, cd15), (2, 4, 1, cd16), (2, 2, 1, cd17), (1, 2, 1, cd18), (3, 3, 0, cd19), (1, 4, 2, cd20), (2, 4, 2, cd21), (2, 6, 2, cd22), (2, 4, 2, cd23), (1, 2, 2, cd24), (2, 6, 2, cd25), (2, 6, 2, cd26), (1, 5, 2, cd27), (3, 3, 2, cd28), (3, 5, 2, cd29), (1, 4, 2, cd30), (3, 3, 2, cd31), (2, 8, 2, cd32), (3, 3, 0, cd33), (1, 3, 3, cd34), (3, 3, 3, cd35), (1, 1, 0, cd36), (2, 2, 4, cd37), (2, 2, 4, cd38), (2, 2, 4, cd39), (3, 3, 4, cd40), (4, 4, 4, cd41), (5, 6, 4, cd42), (2, 2, 4, cd43), (3, 3, 4, cd44), (3, 5, 4, cd45), (2, 4, 4, cd46), (2, 2, 4, cd47), (1, 2, 0, cd48), (1, 1, 5, cd49), (3, 3, 5, cd50), (1, 3, 5, cd51), (3, 3, 5, cd52), (5, 5, 0, cd53), (4, 4, 6, cd54), (2, 5, 6, cd55), (1, 3, 6, cd56), (2, 2, 6, cd57), (2, 4, 6, cd58), (2, 4, 6, cd59), (1, 5, 6, cd60), (2, 3, 6, cd61), (2, 2, 6, cd62), (1, 2, 6, cd63), (3, 3, 6, cd64), (1, 3, 6, cd65), (2, 3, 6, cd66), (1, 1, 0, cd67), (2, 2, 7, cd68), (1, 1, 7, cd69), (2, 2, 7, cd70), (4, 4, 7, cd71), (4, 8, 7, cd72), (2, 2, 0, cd73), (2, 3, 0, cd74), (3, 6, 7, cd75), (3, 3, 0, cd76), (2, 2, 0, cd77), (3, 5, 8, cd78), (1, 1, 8, cd79), (2, 2, 8, cd80), (2, 2, 8, cd81), (3, 3, 8, cd82), (3, 3, 8, cd83), (1, 2, 8, cd84), (1, 3, 8, cd85), (2, 6, 8, cd86), (1, 4, 8, cd87), (2, 5, 8, cd88), (2, 4, 8, cd89), (1, 5, 8, cd90), (1, 1, 0, cd91), (2, 2, 8, cd92), (2, 4, 8, cd93), (2, 2, 0, cd94), (5, 6, 9, cd95), (1, 1, 9, cd96), (3, 3, 9, cd97), (2, 2, 9, cd98), (1, 1, 0, cd99), (2, 2, 10, cd100), (2, 3, 10, cd101), (1, 5, 10, cd102), (3, 3, 10, cd103), (1, 1, 0, cd104), (1, 1, 0, cd105), (2, 3, 10, cd106), (2, 3, 10, cd107), (3, 4, 10, cd108), (4, 6, 10, cd109), (3, 5, 10, cd110), (1, 2, 0, cd111), (2, 2, 11, cd112), (3, 3, 11, cd113), (2, 4, 11, cd114), (2, 4, 11, cd115), (1, 1, 0, cd116), (2, 3, 12, cd117), (5, 5, 12, cd118), (4, 4, 12, cd119), (2, 2, 12, cd120), (2, 2, 12, cd121), (3, 3, 12, cd122), (2, 4, 12, cd123), (6, 6, 12, cd124), (2, 2, 12, cd125), (2, 3, 12, cd126), (2, 2, 12, cd127), (3, 3, 12, cd128), (2, 2, 12, cd129), (3, 3, 12, cd130), (3, 3, 12, cd131), (3, 4, 12, cd132), (3, 3, 12, cd133), (3, 3, 12, cd134), (3, 3, 12, cd135), (2, 2, 12, cd136), (2, 2, 12, cd137), (2, 3, 12, cd138), (3, 3, 12, cd139), (3, 3, 12, cd140), (3, 3, 12, cd141), (2, 3, 12, cd142), (1, 1, 12, cd143), (1, 1, 12, cd144), (3, 4, 12, cd145), (4, 4, 12, cd146), (2, 3, 12, cd147), (2, 2, 12, cd148), (2, 3, 12, cd149), (1, 1, 12, cd150), (2, 2, 12, cd151), (2, 2, 12, cd152), (2, 2, 0, cd153), (2, 2, 0, cd154), (1, 1, 0, cd155), (1, 1, 0, cd156), (1, 1, 0, cd157), (4, 4, 13, cd158), (4, 4, 13, cd159), (3, 3, 13, cd160), (3, 3, 13, cd161), (2, 4, 13, cd162), (3, 3, 13, cd163), (1, 2, 13, cd164), (1, 2, 13, cd165), (1, 2, 13, cd166), (1, 2, 13, cd167), (2, 3, 13, cd168), (2, 2, 13, cd169), (2, 2, 13, cd170), (2, 2, 13, cd171), (2, 2, 13, cd172), (1, 3, 13, cd173), (2, 2, 13, cd174), (5, 5, 13, cd175), (4, 4, 13, cd176), (2, 3, 13, cd177), (6, 6, 13, cd178), (2, 2, 13, cd179), (2, 2, 13, cd180), (2, 2, 13, cd181), (2, 2, 13, cd182), (2, 2, 13, cd183), (3, 6, 13, cd184), (1, 2, 13, cd185), (2, 2, 13, cd186), (2, 2, 13, cd187), (2, 2, 13, cd188), (3, 3, 13, cd189), (2, 2, 13, cd190), (1, 2, 13, cd191), (1, 2, 13, cd192), (1, 2, 13, cd193), (1, 2, 13, cd194), (2, 2, 13, cd195), (2, 2, 13, cd196), (1, 4, 13, cd197), (1, 1, 13, cd198), (1, 3, 13, cd199), (2, 3, 13, cd200), (3, 4, 13, cd201), (2, 2, 13, cd202), (4, 4, 13, cd203), (1, 3, 13, cd204), (1, 2, 13, cd205), (1, 4, 13, cd206), (1, 2, 13, cd207), (2, 3, 13, cd208), (1, 2, 13, cd209), (2, 2, 13, cd210), (3, 4, 13, cd211), (2, 3, 13, cd212), (2, 2, 13, cd213), (4, 4, 13, cd214), (4, 6, 13, cd215), (2, 3, 13, cd216), (5, 6, 13, cd217), (2, 2, 13, cd218), (2, 2, 13, cd219), (2, 2, 13, cd220), (2, 2, 13, cd221), (4, 5, 13, cd222), (3, 5, 13, cd223), (3, 3, 13, cd224), (2, 5, 13, cd225), (1, 3, 13, cd226), (2, 5, 13, cd227), (2, 2, 13, cd228), (2, 2, 13, cd229), (2, 2, 13, cd230), (2, 2, 13, cd231), (3, 3, 13, cd232), (2, 3, 13, cd233), (1, 6, 13, cd234), (2, 3, 13, cd235), (1, 3, 13, cd236), (2, 4, 13, cd237), (3, 3, 13, cd238), (2, 2, 13, cd239), (3, 3, 13, cd240), (3, 3, 13, cd241), (3, 4, 13, cd242), (3, 3, 13, cd243), (1, 3, 13, cd244), (3, 3, 13, cd245), (2, 4, 13, cd246), (2, 4, 13, cd247), (2, 3, 13, cd248), (2, 4, 13, cd249), (3, 8, 13, cd250), (2, 5, 13, cd251), (2, 2, 13, cd252), (2, 4, 13, cd253), (1, 3, 13, cd254), (2, 5, 13, cd255), (3, 5, 13, cd256), (3, 3, 13, cd257), (3, 3, 13, cd258), (3, 5, 13, cd259), (2, 4, 13, cd260), (3, 8, 13, cd261), (2, 4, 13, cd262), (2, 4, 13, cd263), (4, 5, 13, cd264), (2, 4, 13, cd265), (1, 3, 13, cd266), (3, 3, 13, cd267), (1, 4, 13, cd268), (3, 5, 13, cd269), (3, 5, 13, cd270), (4, 4, 13, cd271), (4, 5, 13, cd272), (3, 5, 13, cd273), (1, 5, 13, cd274), (2, 9, 13, cd275), (2, 5, 13, cd276), (2, 4, 13, cd277), (2, 4, 13, cd278), (2, 2, 13, cd279), (1, 2, 13, cd280), (1, 2, 13, cd281), (1, 2, 13, cd282), (2, 3, 13, cd283), (2, 2, 13, cd284), (1, 1, 0, cd285)]
def PT (k : Nat) : pM := PTL.getD k (0, 0, 0, [])
def rkL : List Nat := [1, 5, 4, 3, 2, 3, 5, 4, 4, 3, 2, 4, 3, 3, 2, 4, 5, 6, 7, 1, 2, 2, 3, 5, 4, 2, 2, 4, 3, 3, 5, 4, 4, 1, 3, 2, 1, 1, 1, 2, 1, 1, 2, 1, 2, 3, 2, 1, 2, 1, 2, 1, 2, 1, 2, 4, 4, 2, 5, 5, 4, 3, 3, 7, 6, 5, 4, 1, 1, 1, 1, 1, 3, 1, 1, 2, 1, 2, 5004, 1, 1, 2, 2, 2, 3, 3, 3, 5003, 5002, 5001, 3, 1, 2, 2, 1, 1, 1, 2, 1, 1, 1, 1, 3, 1, 1, 1, 2, 2, 2, 1, 1, 2, 2, 4, 3, 3, 3, 2, 3, 2, 6, 6, 4, 8, 2, 1, 5005, 1, 4, 2, 2, 3, 8, 2, 4, 6, 3, 3, 5, 4, 2, 6, 6, 5, 5, 4, 2, 6, 5, 8, 3, 3, 1, 1, 1, 1, 1, 1, 1, 1, 1, 1, 1, 1, 1, 1, 1, 1, 1, 1, 1, 1, 1, 2, 1, 2, 2, 1, 2, 2, 1, 2, 2, 1, 1, 3, 1, 1, 1, 1, 2, 4, 5, 6, 7, 1, 2, 8, 2, 9, 1, 4, 4, 5, 6, 7, 6, 7, 6, 7, 10, 1, 11, 1, 1, 2, 3, 4, 2, 5, 5, 5, 1, 6, 2, 7, 6, 7, 2, 2, 8, 8, 3, 8, 7, 6, 9, 10, 6, 2, 2, 2, 10, 2, 2, 3, 2, 3, 2, 2, 4, 2, 3, 2, 2, 4, 4, 2, 1, 2, 3, 4, 3, 4, 2, 3, 4, 1, 2, 2, 3, 2, 2, 3, 4, 5, 6, 2, 3, 1, 2, 2, 2, 3, 3, 1]
def rkT (k : Nat) : Nat := rkL.getD k 0
def GX : List pSh := [.inl (11, [some (some 1), some (some 3), some (some 23), some (some 25), some (some 26), some (some 28), some (some 31), some (some 46), some (some 50), some (some 61), some (some 64), some (some 67), some (some 69), some (some 71), some (some 91), none]), .inl (3, [some (some 2), none, none, none, none, none, none, none]), .inr (.inl 98), .inl (10, [some (some 4), some (some 12), some (some 13), some (some 14), some (some 15), some (some 17), some (some 19), some (some 21), none, none]), .inl (6, [some (some 5), some (some 6), some (some 7), some (some 8), some (some 9), some (some 10), some (some 11), none, none]), .inr (.inl 400), .inr (.inl 16), .inr (.inl 16), .inr (.inl 16), .inr (.inl 16), .inr (.inl 9), .inr (.inl 32), .inr (.inl 12), .inr (.inl 8), .inr (.inl 8), .inl (8, [none, some (some 16), none]), .inr (.inl 64), .inl (8, [none, some (some 18), none]), .inr (.inl 48), .inl (8, [none, some (some 20), none]), .inr (.inl 40), .inl (8, [none, some (some 22), none]), .inr (.inl 32), .inl (8, [none, some (some 24), none]), .inr (.inl 600), .inl (5, [some (some 1), some (some 3), some (some 23), none, none]), .inl (3, [some (some 27), none, none, none, none, none, none, none]), .inr (.inl 98), .inl (5, [some (some 26), some (some 3), some (some 29), none, none]), .inl (8, [none, some (some 30), none]), .inr (.inl 0), .inl (4, [some (some 32), some (some 33), none]), .inr (.inr 6), .inr (.inl 6), .inl (3, [some (some 35), none, none, none, none, none, none, none]), .inr (.inl 98), .inl (3, [some (some 37), none, none, none, none, none, none, none]), .inr (.inl 98), .inl (3, [some (some 39), none, none, none, none, none, none, none]), .inr (.inl 98), .inl (3, [some (some 41), none, none, none, none, none, none, none]), .inr (.inl 98), .inl (3, [some (some 43), none, none, none, none, none, none, none]), .inr (.inl 98), .inl (3, [some (some 45), none, none, none, none, none, none, none]), .inr (.inl 98), .inl (9, [some (some 47), some (some 48), some (some 49), none, none]), .inr (.inl 400), .inr (.inl 401), .inr (.inl 401), .inl (7, [some (some 46), some (some 51), some (some 59), none, none, none, none, none, none]), .inl (6, [some (some 52), some (some 53), some (some 54), some (some 55), some (some 56), some (some 57), some (some 58), none, none]), .inr (.inl 400), .inr (.inl 16), .inr (.inl 16), .inr (.inl 16), .inr (.inl 16), .inr (.inl 9), .inr (.inl 32), .inl (8, [none, some (some 60), none]), .inr (.inl 64), .inl (2, [some (some 1), some (some 3), some (some 62), some (some 63)]), .inr (.inl 14), .inr (.inl 14), .inl (1, [some (some 1), some (some 3), some (some 65), some (some 66), none, none, none]), .inr (.inl 12), .inr (.inl 12), .inl (0, [some (some 1), some (some 3), some (some 68), none, none]), .inr (.inl 1024), .inl (3, [some (some 70), none, none, none, none, none, none, none]), .inr (.inl 98), .inl (10, [some (some 72), some (some 80), some (some 81), some (some 82), some (some 83), some (some 85), some (some 87), some (some 89), none, none]), .inl (6, [some (some 73), some (some 74), some (some 75), some (some 76), some (some 77), some (some 78), some (some 79), none, none]), .inr (.inl 400), .inr (.inl 16), .inr (.inl 16), .inr (.inl 16), .inr (.inl 16), .inr (.inl 9), .inr (.inl 32), .inr (.inl 12), .inr (.inl 8), .inr (.inl 8), .inl (8, [none, some (some 84), none]), .inr (.inl 64), .inl (8, [none, some (some 86), none]), .inr (.inl 48), .inl (8, [none, some (some 88), none]), .inr (.inl 40), .inl (8, [none, some (some 90), none]), .inr (.inl 32), .inl (8, [none, some (some 92), none]), .inr (.inl 600)]
def GR : List pSh := [.inl (12, [none, some (some 1), some (some 2), none, some (some 3), none, none, some (some 4), some (some 5), some (some 6), some (some 7), some (some 8), none, none, none, none, none, some (some 9), some (some 10), some (some 11), some (some 12), some (some 13), some (some 14), some (some 15), some (some 16), none, none, none, some (some 17), none, none, none, none, none, none, some (some 18), none, some (some 19), some (some 20), none, some (some 21), some (some 22), some (some 23), none, some (some 24), some (some 25), some (some 26), some (some 27), some (some 28), none, some (some 29), some (some 30), none, some (some 31), some (some 32), some (some 33), none, none, none, some (some 34)]), .inr (.inl 76), .inr (.inl 456), .inr (.inl 76), .inr (.inl 14), .inr (.inl 14), .inr (.inl 14), .inr (.inl 600), .inr (.inl 400), .inr (.inl 115), .inr (.inl 2), .inr (.inl 48), .inr (.inl 48), .inr (.inl 48), .inr (.inl 48), .inr (.inl 1200), .inr (.inl 1200), .inr (.inl 40), .inr (.inl 24), .inr (.inl 16), .inr (.inl 16), .inr (.inl 96), .inr (.inl 9), .inr (.inl 420), .inr (.inl 12), .inr (.inl 12), .inr (.inl 14), .inr (.inl 14), .inr (.inl 13), .inr (.inl 10), .inr (.inl 10), .inr (.inl 8), .inr (.inl 8), .inr (.inl 8), .inr (.inl 1900)]
theorem PT_0 : PT 0 = (3, 3, 0, cd0) := rfl
theorem PT_1 : PT 1 = (2, 5, 1, cd1) := rfl
theorem PT_2 : PT 2 = (3, 7, 1, cd2) := rfl
theorem PT_3 : PT 3 = (3, 3, 1, cd3) := rfl
theorem PT_4 : PT 4 = (2, 3, 0, cd4) := rfl
theorem PT_5 : PT 5 = (2, 4, 1, cd5) := rfl
theorem PT_6 : PT 6 = (1, 3, 1, cd6) := rfl
theorem PT_7 : PT 7 = (2, 6, 1, cd7) := rfl
theorem PT_8 : PT 8 = (1, 4, 1, cd8) := rfl
theorem PT_9 : PT 9 = (2, 4, 1, cd9) := rfl
theorem PT_10 : PT 10 = (4, 5, 1, cd10) := rfl
theorem PT_11 : PT 11 = (1, 3, 1, cd11) := rfl
theorem PT_12 : PT 12 = (2, 5, 1, cd12) := rfl
theorem PT_13 : PT 13 = (2, 4, 1, cd13) := rfl
theorem PT_14 : PT 14 = (3, 5, 1, cd14) := rfl
theorem PT_15 : PT 15 = (2, 2, 1, cd15) := rfl
theorem PT_16 : PT 16 = (2, 4, 1, cd16) := rfl
theorem PT_17 : PT 17 = (2, 2, 1, cd17) := rfl
theorem PT_18 : PT 18 = (1, 2, 1, cd18) := rfl
theorem PT_19 : PT 19 = (3, 3, 0, cd19) := rfl
theorem PT_20 : PT 20 = (1, 4, 2, cd20) := rfl
theorem PT_21 : PT 21 = (2, 4, 2, cd21) := rfl
theorem PT_22 : PT 22 = (2, 6, 2, cd22) := rfl
theorem PT_23 : PT 23 = (2, 4, 2, cd23) := rfl
theorem PT_24 : PT 24 = (1, 2, 2, cd24) := rfl
theorem PT_25 : PT 25 = (2, 6, 2, cd25) := rfl
theorem PT_26 : PT 26 = (2, 6, 2, cd26) := rfl
theorem PT_27 : PT 27 = (1, 5, 2, cd27) := rfl
theorem PT_28 : PT 28 = (3, 3, 2, cd28) := rfl
theorem PT_29 : PT 29 = (3, 5, 2, cd29) := rfl
theorem PT_30 : PT 30 = (1, 4, 2, cd30) := rfl
theorem PT_31 : PT 31 = (3, 3, 2, cd31) := rfl
theorem PT_32 : PT 32 = (2, 8, 2, cd32) := rfl
theorem PT_33 : PT 33 = (3, 3, 0, cd33) := rfl
theorem PT_34 : PT 34 = (1, 3, 3, cd34) := rfl
theorem PT_35 : PT 35 = (3, 3, 3, cd35) := rfl
theorem PT_36 : PT 36 = (1, 1, 0, cd36) := rfl
theorem PT_37 : PT 37 = (2, 2, 4, cd37) := rfl
theorem PT_38 : PT 38 = (2, 2, 4, cd38) := rfl
theorem PT_39 : PT 39 = (2, 2, 4, cd39) := rfl
theorem PT_40 : PT 40 = (3, 3, 4, cd40) := rfl
theorem PT_41 : PT 41 = (4, 4, 4, cd41) := rfl
theorem PT_42 : PT 42 = (5, 6, 4, cd42) := rfl
theorem PT_43 : PT 43 = (2, 2, 4, cd43) := rfl
theorem PT_44 : PT 44 = (3, 3, 4, cd44) := rfl
theorem PT_45 : PT 45 = (3, 5, 4, cd45) := rfl
theorem PT_46 : PT 46 = (2, 4, 4, cd46) := rfl
theorem PT_47 : PT 47 = (2, 2, 4, cd47) := rfl
theorem PT_48 : PT 48 = (1, 2, 0, cd48) := rfl
theorem PT_49 : PT 49 = (1, 1, 5, cd49) := rfl
theorem PT_50 : PT 50 = (3, 3, 5, cd50) := rfl
theorem PT_51 : PT 51 = (1, 3, 5, cd51) := rfl
theorem PT_52 : PT 52 = (3, 3, 5, cd52) := rfl
theorem PT_53 : PT 53 = (5, 5, 0, cd53) := rfl
theorem PT_54 : PT 54 = (4, 4, 6, cd54) := rfl
theorem PT_55 : PT 55 = (2, 5, 6, cd55) := rfl
theorem PT_56 : PT 56 = (1, 3, 6, cd56) := rfl
theorem PT_57 : PT 57 = (2, 2, 6, cd57) := rfl
theorem PT_58 : PT 58 = (2, 4, 6, cd58) := rfl
theorem PT_59 : PT 59 = (2, 4, 6, cd59) := rfl
theorem PT_60 : PT 60 = (1, 5, 6, cd60) := rfl
theorem PT_61 : PT 61 = (2, 3, 6, cd61) := rfl
theorem PT_62 : PT 62 = (2, 2, 6, cd62) := rfl
theorem PT_63 : PT 63 = (1, 2, 6, cd63) := rfl
theorem PT_64 : PT 64 = (3, 3, 6, cd64) := rfl
theorem PT_65 : PT 65 = (1, 3, 6, cd65) := rfl
theorem PT_66 : PT 66 = (2, 3, 6, cd66) := rfl
theorem PT_67 : PT 67 = (1, 1, 0, cd67) := rfl
theorem PT_68 : PT 68 = (2, 2, 7, cd68) := rfl
theorem PT_69 : PT 69 = (1, 1, 7, cd69) := rfl
theorem PT_70 : PT 70 = (2, 2, 7, cd70) := rfl
theorem PT_71 : PT 71 = (4, 4, 7, cd71) := rfl
theorem PT_72 : PT 72 = (4, 8, 7, cd72) := rfl
theorem PT_73 : PT 73 = (2, 2, 0, cd73) := rfl
theorem PT_74 : PT 74 = (2, 3, 0, cd74) := rfl
theorem PT_75 : PT 75 = (3, 6, 7, cd75) := rfl
theorem PT_76 : PT 76 = (3, 3, 0, cd76) := rfl
theorem PT_77 : PT 77 = (2, 2, 0, cd77) := rfl
theorem PT_78 : PT 78 = (3, 5, 8, cd78) := rfl
theorem PT_79 : PT 79 = (1, 1, 8, cd79) := rfl
theorem PT_80 : PT 80 = (2, 2, 8, cd80) := rfl
theorem PT_81 : PT 81 = (2, 2, 8, cd81) := rfl
theorem PT_82 : PT 82 = (3, 3, 8, cd82) := rfl
theorem PT_83 : PT 83 = (3, 3, 8, cd83) := rfl
theorem PT_84 : PT 84 = (1, 2, 8, cd84) := rfl
theorem PT_85 : PT 85 = (1, 3, 8, cd85) := rfl
theorem PT_86 : PT 86 = (2, 6, 8, cd86) := rfl
theorem PT_87 : PT 87 = (1, 4, 8, cd87) := rfl
theorem PT_88 : PT 88 = (2, 5, 8, cd88) := rfl
theorem PT_89 : PT 89 = (2, 4, 8, cd89) := rfl
theorem PT_90 : PT 90 = (1, 5, 8, cd90) := rfl
theorem PT_91 : PT 91 = (1, 1, 0, cd91) := rfl
theorem PT_92 : PT 92 = (2, 2, 8, cd92) := rfl
theorem PT_93 : PT 93 = (2, 4, 8, cd93) := rfl
theorem PT_94 : PT 94 = (2, 2, 0, cd94) := rfl
theorem PT_95 : PT 95 = (5, 6, 9, cd95) := rfl
theorem PT_96 : PT 96 = (1, 1, 9, cd96) := rfl
theorem PT_97 : PT 97 = (3, 3, 9, cd97) := rfl
theorem PT_98 : PT 98 = (2, 2, 9, cd98) := rfl
theorem PT_99 : PT 99 = (1, 1, 0, cd99) := rfl
theorem PT_100 : PT 100 = (2, 2, 10, cd100) := rfl
theorem PT_101 : PT 101 = (2, 3, 10, cd101) := rfl
theorem PT_102 : PT 102 = (1, 5, 10, cd102) := rfl
theorem PT_103 : PT 103 = (3, 3, 10, cd103) := rfl
theorem PT_104 : PT 104 = (1, 1, 0, cd104) := rfl
theorem PT_105 : PT 105 = (1, 1, 0, cd105) := rfl
theorem PT_106 : PT 106 = (2, 3, 10, cd106) := rfl
theorem PT_107 : PT 107 = (2, 3, 10, cd107) := rfl
theorem PT_108 : PT 108 = (3, 4, 10, cd108) := rfl
theorem PT_109 : PT 109 = (4, 6, 10, cd109) := rfl
theorem PT_110 : PT 110 = (3, 5, 10, cd110) := rfl
theorem PT_111 : PT 111 = (1, 2, 0, cd111) := rfl
theorem PT_112 : PT 112 = (2, 2, 11, cd112) := rfl
theorem PT_113 : PT 113 = (3, 3, 11, cd113) := rfl
theorem PT_114 : PT 114 = (2, 4, 11, cd114) := rfl
theorem PT_115 : PT 115 = (2, 4, 11, cd115) := rfl
theorem PT_116 : PT 116 = (1, 1, 0, cd116) := rfl
theorem PT_117 : PT 117 = (2, 3, 12, cd117) := rfl
theorem PT_118 : PT 118 = (5, 5, 12, cd118) := rfl
theorem PT_119 : PT 119 = (4, 4, 12, cd119) := rfl
theorem PT_120 : PT 120 = (2, 2, 12, cd120) := rfl
theorem PT_121 : PT 121 = (2, 2, 12, cd121) := rfl
theorem PT_122 : PT 122 = (3, 3, 12, cd122) := rfl
theorem PT_123 : PT 123 = (2, 4, 12, cd123) := rfl
theorem PT_124 : PT 124 = (6, 6, 12, cd124) := rfl
theorem PT_125 : PT 125 = (2, 2, 12, cd125) := rfl
theorem PT_126 : PT 126 = (2, 3, 12, cd126) := rfl
theorem PT_127 : PT 127 = (2, 2, 12, cd127) := rfl
theorem PT_128 : PT 128 = (3, 3, 12, cd128) := rfl
theorem PT_129 : PT 129 = (2, 2, 12, cd129) := rfl
theorem PT_130 : PT 130 = (3, 3, 12, cd130) := rfl
theorem PT_131 : PT 131 = (3, 3, 12, cd131) := rfl
theorem PT_132 : PT 132 = (3, 4, 12, cd132) := rfl
theorem PT_133 : PT 133 = (3, 3, 12, cd133) := rfl
theorem PT_134 : PT 134 = (3, 3, 12, cd134) := rfl
theorem PT_135 : PT 135 = (3, 3, 12, cd135) := rfl
theorem PT_136 : PT 136 = (2, 2, 12, cd136) := rfl
theorem PT_137 : PT 137 = (2, 2, 12, cd137) := rfl
theorem PT_138 : PT 138 = (2, 3, 12, cd138) := rfl
theorem PT_139 : PT 139 = (3, 3, 12, cd139) := rfl
theorem PT_140 : PT 140 = (3, 3, 12, cd140) := rfl
theorem PT_141 : PT 141 = (3, 3, 12, cd141) := rfl
theorem PT_142 : PT 142 = (2, 3, 12, cd142) := rfl
theorem PT_143 : PT 143 = (1, 1, 12, cd143) := rfl
theorem PT_144 : PT 144 = (1, 1, 12, cd144) := rfl
theorem PT_145 : PT 145 = (3, 4, 12, cd145) := rfl
theorem PT_146 : PT 146 = (4, 4, 12, cd146) := rfl
theorem PT_147 : PT 147 = (2, 3, 12, cd147) := rfl
theorem PT_148 : PT 148 = (2, 2, 12, cd148) := rfl
theorem PT_149 : PT 149 = (2, 3, 12, cd149) := rfl
theorem PT_150 : PT 150 = (1, 1, 12, cd150) := rfl
theorem PT_151 : PT 151 = (2, 2, 12, cd151) := rfl
theorem PT_152 : PT 152 = (2, 2, 12, cd152) := rfl
theorem PT_153 : PT 153 = (2, 2, 0, cd153) := rfl
theorem PT_154 : PT 154 = (2, 2, 0, cd154) := rfl
theorem PT_155 : PT 155 = (1, 1, 0, cd155) := rfl
theorem PT_156 : PT 156 = (1, 1, 0, cd156) := rfl
theorem PT_157 : PT 157 = (1, 1, 0, cd157) := rfl
theorem PT_158 : PT 158 = (4, 4, 13, cd158) := rfl
theorem PT_159 : PT 159 = (4, 4, 13, cd159) := rfl
theorem PT_160 : PT 160 = (3, 3, 13, cd160) := rfl
theorem PT_161 : PT 161 = (3, 3, 13, cd161) := rfl
theorem PT_162 : PT 162 = (2, 4, 13, cd162) := rfl
theorem PT_163 : PT 163 = (3, 3, 13, cd163) := rfl
theorem PT_164 : PT 164 = (1, 2, 13, cd164) := rfl
theorem PT_165 : PT 165 = (1, 2, 13, cd165) := rfl
theorem PT_166 : PT 166 = (1, 2, 13, cd166) := rfl
theorem PT_167 : PT 167 = (1, 2, 13, cd167) := rfl
theorem PT_168 : PT 168 = (2, 3, 13, cd168) := rfl
theorem PT_169 : PT 169 = (2, 2, 13, cd169) := rfl
theorem PT_170 : PT 170 = (2, 2, 13, cd170) := rfl
theorem PT_171 : PT 171 = (2, 2, 13, cd171) := rfl
theorem PT_172 : PT 172 = (2, 2, 13, cd172) := rfl
theorem PT_173 : PT 173 = (1, 3, 13, cd173) := rfl
theorem PT_174 : PT 174 = (2, 2, 13, cd174) := rfl
theorem PT_175 : PT 175 = (5, 5, 13, cd175) := rfl
theorem PT_176 : PT 176 = (4, 4, 13, cd176) := rfl
theorem PT_177 : PT 177 = (2, 3, 13, cd177) := rfl
theorem PT_178 : PT 178 = (6, 6, 13, cd178) := rfl
theorem PT_179 : PT 179 = (2, 2, 13, cd179) := rfl
theorem PT_180 : PT 180 = (2, 2, 13, cd180) := rfl
theorem PT_181 : PT 181 = (2, 2, 13, cd181) := rfl
theorem PT_182 : PT 182 = (2, 2, 13, cd182) := rfl
theorem PT_183 : PT 183 = (2, 2, 13, cd183) := rfl
theorem PT_184 : PT 184 = (3, 6, 13, cd184) := rfl
theorem PT_185 : PT 185 = (1, 2, 13, cd185) := rfl
theorem PT_186 : PT 186 = (2, 2, 13, cd186) := rfl
theorem PT_187 : PT 187 = (2, 2, 13, cd187) := rfl
theorem PT_188 : PT 188 = (2, 2, 13, cd188) := rfl
theorem PT_189 : PT 189 = (3, 3, 13, cd189) := rfl
theorem PT_190 : PT 190 = (2, 2, 13, cd190) := rfl
theorem PT_191 : PT 191 = (1, 2, 13, cd191) := rfl
theorem PT_192 : PT 192 = (1, 2, 13, cd192) := rfl
theorem PT_193 : PT 193 = (1, 2, 13, cd193) := rfl
theorem PT_194 : PT 194 = (1, 2, 13, cd194) := rfl
theorem PT_195 : PT 195 = (2, 2, 13, cd195) := rfl
theorem PT_196 : PT 196 = (2, 2, 13, cd196) := rfl
theorem PT_197 : PT 197 = (1, 4, 13, cd197) := rfl
theorem PT_198 : PT 198 = (1, 1, 13, cd198) := rfl
theorem PT_199 : PT 199 = (1, 3, 13, cd199) := rfl
theorem PT_200 : PT 200 = (2, 3, 13, cd200) := rfl
theorem PT_201 : PT 201 = (3, 4, 13, cd201) := rfl
theorem PT_202 : PT 202 = (2, 2, 13, cd202) := rfl
theorem PT_203 : PT 203 = (4, 4, 13, cd203) := rfl
theorem PT_204 : PT 204 = (1, 3, 13, cd204) := rfl
theorem PT_205 : PT 205 = (1, 2, 13, cd205) := rfl
theorem PT_206 : PT 206 = (1, 4, 13, cd206) := rfl
theorem PT_207 : PT 207 = (1, 2, 13, cd207) := rfl
theorem PT_208 : PT 208 = (2, 3, 13, cd208) := rfl
theorem PT_209 : PT 209 = (1, 2, 13, cd209) := rfl
theorem PT_210 : PT 210 = (2, 2, 13, cd210) := rfl
theorem PT_211 : PT 211 = (3, 4, 13, cd211) := rfl
theorem PT_212 : PT 212 = (2, 3, 13, cd212) := rfl
theorem PT_213 : PT 213 = (2, 2, 13, cd213) := rfl
theorem PT_214 : PT 214 = (4, 4, 13, cd214) := rfl
theorem PT_215 : PT 215 = (4, 6, 13, cd215) := rfl
theorem PT_216 : PT 216 = (2, 3, 13, cd216) := rfl
theorem PT_217 : PT 217 = (5, 6, 13, cd217) := rfl
theorem PT_218 : PT 218 = (2, 2, 13, cd218) := rfl
theorem PT_219 : PT 219 = (2, 2, 13, cd219) := rfl
theorem PT_220 : PT 220 = (2, 2, 13, cd220) := rfl
theorem PT_221 : PT 221 = (2, 2, 13, cd221) := rfl
theorem PT_222 : PT 222 = (4, 5, 13, cd222) := rfl
theorem PT_223 : PT 223 = (3, 5, 13, cd223) := rfl
theorem PT_224 : PT 224 = (3, 3, 13, cd224) := rfl
theorem PT_225 : PT 225 = (2, 5, 13, cd225) := rfl
theorem PT_226 : PT 226 = (1, 3, 13, cd226) := rfl
theorem PT_227 : PT 227 = (2, 5, 13, cd227) := rfl
theorem PT_228 : PT 228 = (2, 2, 13, cd228) := rfl
theorem PT_229 : PT 229 = (2, 2, 13, cd229) := rfl
theorem PT_230 : PT 230 = (2, 2, 13, cd230) := rfl
theorem PT_231 : PT 231 = (2, 2, 13, cd231) := rfl
theorem PT_232 : PT 232 = (3, 3, 13, cd232) := rfl
theorem PT_233 : PT 233 = (2, 3, 13, cd233) := rfl
theorem PT_234 : PT 234 = (1, 6, 13, cd234) := rfl
theorem PT_235 : PT 235 = (2, 3, 13, cd235) := rfl
theorem PT_236 : PT 236 = (1, 3, 13, cd236) := rfl
theorem PT_237 : PT 237 = (2, 4, 13, cd237) := rfl
theorem PT_238 : PT 238 = (3, 3, 13, cd238) := rfl
theorem PT_239 : PT 239 = (2, 2, 13, cd239) := rfl
theorem PT_240 : PT 240 = (3, 3, 13, cd240) := rfl
theorem PT_241 : PT 241 = (3, 3, 13, cd241) := rfl
theorem PT_242 : PT 242 = (3, 4, 13, cd242) := rfl
theorem PT_243 : PT 243 = (3, 3, 13, cd243) := rfl
theorem PT_244 : PT 244 = (1, 3, 13, cd244) := rfl
theorem PT_245 : PT 245 = (3, 3, 13, cd245) := rfl
theorem PT_246 : PT 246 = (2, 4, 13, cd246) := rfl
theorem PT_247 : PT 247 = (2, 4, 13, cd247) := rfl
theorem PT_248 : PT 248 = (2, 3, 13, cd248) := rfl
theorem PT_249 : PT 249 = (2, 4, 13, cd249) := rfl
theorem PT_250 : PT 250 = (3, 8, 13, cd250) := rfl
theorem PT_251 : PT 251 = (2, 5, 13, cd251) := rfl
theorem PT_252 : PT 252 = (2, 2, 13, cd252) := rfl
theorem PT_253 : PT 253 = (2, 4, 13, cd253) := rfl
theorem PT_254 : PT 254 = (1, 3, 13, cd254) := rfl
theorem PT_255 : PT 255 = (2, 5, 13, cd255) := rfl
theorem PT_256 : PT 256 = (3, 5, 13, cd256) := rfl
theorem PT_257 : PT 257 = (3, 3, 13, cd257) := rfl
theorem PT_258 : PT 258 = (3, 3, 13, cd258) := rfl
theorem PT_259 : PT 259 = (3, 5, 13, cd259) := rfl
theorem PT_260 : PT 260 = (2, 4, 13, cd260) := rfl
theorem PT_261 : PT 261 = (3, 8, 13, cd261) := rfl
theorem PT_262 : PT 262 = (2, 4, 13, cd262) := rfl
theorem PT_263 : PT 263 = (2, 4, 13, cd263) := rfl
theorem PT_264 : PT 264 = (4, 5, 13, cd264) := rfl
theorem PT_265 : PT 265 = (2, 4, 13, cd265) := rfl
theorem PT_266 : PT 266 = (1, 3, 13, cd266) := rfl
theorem PT_267 : PT 267 = (3, 3, 13, cd267) := rfl
theorem PT_268 : PT 268 = (1, 4, 13, cd268) := rfl
theorem PT_269 : PT 269 = (3, 5, 13, cd269) := rfl
theorem PT_270 : PT 270 = (3, 5, 13, cd270) := rfl
theorem PT_271 : PT 271 = (4, 4, 13, cd271) := rfl
theorem PT_272 : PT 272 = (4, 5, 13, cd272) := rfl
theorem PT_273 : PT 273 = (3, 5, 13, cd273) := rfl
theorem PT_274 : PT 274 = (1, 5, 13, cd274) := rfl
theorem PT_275 : PT 275 = (2, 9, 13, cd275) := rfl
theorem PT_276 : PT 276 = (2, 5, 13, cd276) := rfl
theorem PT_277 : PT 277 = (2, 4, 13, cd277) := rfl
theorem PT_278 : PT 278 = (2, 4, 13, cd278) := rfl
theorem PT_279 : PT 279 = (2, 2, 13, cd279) := rfl
theorem PT_280 : PT 280 = (1, 2, 13, cd280) := rfl
theorem PT_281 : PT 281 = (1, 2, 13, cd281) := rfl
theorem PT_282 : PT 282 = (1, 2, 13, cd282) := rfl
theorem PT_283 : PT 283 = (2, 3, 13, cd283) := rfl
theorem PT_284 : PT 284 = (2, 2, 13, cd284) := rfl
theorem PT_285 : PT 285 = (1, 1, 0, cd285) := rfl
def rkOk (q : pM × Nat) : Bool := decide (1000 ≤ q.2) || q.1.2.2.2.all (fun e => !(pKind e == 3) || decide (rkT e.2.2.1 < q.2))
theorem rk_all : (PTL.zip rkL).all rkOk = true := by decide +kernel
theorem rk_len : PTL.length = rkL.length := by decide +kernel
theorem hRk : Ranked PT rkT := by
  intro k hk e he h3
  by_cases hl : k < PTL.length
  · have h1 : PTL[k]? = some (PT k) := by unfold PT; rw [List.getD_eq_getElem?_getD, List.getElem?_eq_getElem hl]; rfl
    have hl2 : k < rkL.length := by rw [← rk_len]; exact hl
    have h2 : rkL[k]? = some (rkT k) := by unfold rkT; rw [List.getD_eq_getElem?_getD, List.getElem?_eq_getElem hl2]; rfl
    have h4 : (PT k, rkT k) ∈ PTL.zip rkL := List.mem_of_getElem? (i := k) (by rw [List.getElem?_zip_eq_some]; exact ⟨h1, h2⟩)
    have h5 := List.all_eq_true.mp rk_all _ h4
    simp only [rkOk, Bool.or_eq_true, decide_eq_true_eq] at h5
    rcases h5 with h5 | h5
    · exact absurd h5 (by omega)
    · have h6 := List.all_eq_true.mp h5 e he
      simpa [h3] using h6
  · have h1 : PT k = (0, 0, 0, []) := by unfold PT; rw [List.getD_eq_getElem?_getD, List.getElem?_eq_none (by omega)]; rfl
    rw [h1] at he
    exact absurd he List.not_mem_nil
end
section
noncomputable def R_undo (S : pS) : Option (Int32 × pS) := CallF PT GR rkT 165 [.ref 0] S
noncomputable def R_undo_c26 (l1 : Int32) (S : pS) : Option (Int32 × pS) := Res PT GR (rkT 165) 165 (pCut cd165 26, [.ref 0, .int l1], [], S)
noncomputable def R_state (a1 : Int32) (S : pS) : Option (Int32 × pS) := CallF PT GR rkT 168 [.ref 0, .int a1] S
noncomputable def R_card (a1 : Int32) (a2 : Int32) (a3 : Int32) (a4 : Int32) (S : pS) : Option (Int32 × pS) := CallF PT GR rkT 175 [.ref 0, .int a1, .int a2, .int a3, .int a4] S
noncomputable def R_set (a1 : Int32) (a2 : Int32) (a3 : Int32) (S : pS) : Option (Int32 × pS) := CallF PT GR rkT 176 [.ref 0, .int a1, .int a2, .int a3] S
noncomputable def R_set_c40 (l1 : Int32) (l2 : Int32) (l3 : Int32) (S : pS) : Option (Int32 × pS) := Res PT GR (rkT 176) 176 (pCut cd176 40, [.ref 0, .int l1, .int l2, .int l3], [], S)
noncomputable def R_set_c51 (l1 : Int32) (l2 : Int32) (l3 : Int32) (S : pS) : Option (Int32 × pS) := Res PT GR (rkT 176) 176 (pCut cd176 51, [.ref 0, .int l1, .int l2, .int l3], [], S)
noncomputable def R_set_c66 (l1 : Int32) (l2 : Int32) (l3 : Int32) (S : pS) : Option (Int32 × pS) := Res PT GR (rkT 176) 176 (pCut cd176 66, [.ref 0, .int l1, .int l2, .int l3], [], S)
noncomputable def R_set_c81 (S : pS) : Option (Int32 × pS) := Res PT GR (rkT 176) 176 (pCut cd176 81, [.ref 0, .null, .null, .null], [], S)
noncomputable def R_feed (a1 : Int32) (a2 : Int32) (a3 : Int32) (a4 : Int32) (a5 : Int32) (S : pS) : Option (Int32 × pS) := CallF PT GR rkT 178 [.ref 0, .int a1, .int a2, .int a3, .int a4, .int a5] S
noncomputable def R_end (a1 : Int32) (S : pS) : Option (Int32 × pS) := CallF PT GR rkT 179 [.ref 0, .int a1] S
noncomputable def R_text (a1 : Int32) (S : pS) : Option (Int32 × pS) := CallF PT GR rkT 212 [.ref 0, .int a1] S
noncomputable def R_text_c69 (l1 : Int32) (l2 : Int32) (S : pS) : Option (Int32 × pS) := Res PT GR (rkT 212) 212 (pCut cd212 69, [.ref 0, .int l1, .int l2], [], S)
noncomputable def R_fault (a1 : Int32) (S : pS) : Option (Int32 × pS) := CallF PT GR rkT 213 [.ref 0, .int a1] S
noncomputable def R_ring (a1 : Int32) (S : pS) : Option (Int32 × pS) := CallF PT GR rkT 230 [.ref 0, .int a1] S
noncomputable def R_toss (a1 : Int32) (S : pS) : Option (Int32 × pS) := CallF PT GR rkT 231 [.ref 0, .int a1] S
noncomputable def R_does (a1 : Int32) (a2 : Int32) (S : pS) : Option (Int32 × pS) := CallF PT GR rkT 232 [.ref 0, .int a1, .int a2] S
noncomputable def R_does_c27 (l1 : Int32) (l2 : Int32) (S : pS) : Option (Int32 × pS) := Res PT GR (rkT 232) 232 (pCut cd232 27, [.ref 0, .int l1, .int l2], [], S)
noncomputable def R_years (a1 : Int32) (S : pS) : Option (Int32 × pS) := CallF PT GR rkT 237 [.ref 0, .int a1] S
noncomputable def R_years_c35 (l1 : Int32) (l2 : Int32) (l3 : Int32) (S : pS) : Option (Int32 × pS) := Res PT GR (rkT 237) 237 (pCut cd237 35, [.ref 0, .int l1, .int l2, .int l3], [], S)
noncomputable def R_of (a1 : Int32) (a2 : Int32) (S : pS) : Option (Int32 × pS) := CallF PT GR rkT 238 [.ref 0, .int a1, .int a2] S
noncomputable def R_met (a1 : Int32) (S : pS) : Option (Int32 × pS) := CallF PT GR rkT 239 [.ref 0, .int a1] S
noncomputable def R_called (a1 : Int32) (a2 : Int32) (S : pS) : Option (Int32 × pS) := CallF PT GR rkT 240 [.ref 0, .int a1, .int a2] S
noncomputable def R_book (a1 : Int32) (a2 : Int32) (S : pS) : Option (Int32 × pS) := CallF PT GR rkT 241 [.ref 0, .int a1, .int a2] S
noncomputable def R_goes (a1 : Int32) (a2 : Int32) (S : pS) : Option (Int32 × pS) := CallF PT GR rkT 242 [.ref 0, .int a1, .int a2] S
noncomputable def R_goes_c34 (l1 : Int32) (l2 : Int32) (l3 : Int32) (S : pS) : Option (Int32 × pS) := Res PT GR (rkT 242) 242 (pCut cd242 34, [.ref 0, .int l1, .int l2, .int l3], [], S)
noncomputable def R_goes_c74 (s0 : Int32) (S : pS) : Option (Int32 × pS) := Res PT GR (rkT 242) 242 (pCut cd242 74, [.ref 0, .null, .null, .null], [.int s0], S)
noncomputable def R_ahead (a1 : Int32) (a2 : Int32) (S : pS) : Option (Int32 × pS) := CallF PT GR rkT 243 [.ref 0, .int a1, .int a2] S
noncomputable def R_dated (a1 : Int32) (a2 : Int32) (S : pS) : Option (Int32 × pS) := CallF PT GR rkT 245 [.ref 0, .int a1, .int a2] S
noncomputable def R_hands (a1 : Int32) (a2 : Int32) (S : pS) : Option (Int32 × pS) := CallF PT GR rkT 250 [.ref 0, .int a1, .int a2] S
noncomputable def R_hands_c43 (l2 : Int32) (l3 : Int32) (l4 : Int32) (S : pS) : Option (Int32 × pS) := Res PT GR (rkT 250) 250 (pCut cd250 43, [.ref 0, .null, .int l2, .int l3, .int l4, .null, .null, .null], [], S)
noncomputable def R_hands_c143 (l4 : Int32) (l6 : Int32) (l7 : Int32) (S : pS) : Option (Int32 × pS) := Res PT GR (rkT 250) 250 (pCut cd250 143, [.ref 0, .null, .null, .null, .int l4, .null, .int l6, .int l7], [], S)
noncomputable def R_led (a1 : Int32) (S : pS) : Option (Int32 × pS) := CallF PT GR rkT 252 [.ref 0, .int a1] S
noncomputable def R_root (a1 : Int32) (S : pS) : Option (Int32 × pS) := CallF PT GR rkT 253 [.ref 0, .int a1] S
noncomputable def R_root_c21 (l2 : Int32) (l3 : Int32) (S : pS) : Option (Int32 × pS) := Res PT GR (rkT 253) 253 (pCut cd253 21, [.ref 0, .null, .int l2, .int l3], [], S)
noncomputable def R_tells (a1 : Int32) (S : pS) : Option (Int32 × pS) := CallF PT GR rkT 255 [.ref 0, .int a1] S
noncomputable def R_tells_c27 (l1 : Int32) (l2 : Int32) (l3 : Int32) (l4 : Int32) (S : pS) : Option (Int32 × pS) := Res PT GR (rkT 255) 255 (pCut cd255 27, [.ref 0, .int l1, .int l2, .int l3, .int l4], [], S)
noncomputable def R_tells_c61 (l1 : Int32) (l2 : Int32) (l3 : Int32) (l4 : Int32) (S : pS) : Option (Int32 × pS) := Res PT GR (rkT 255) 255 (pCut cd255 61, [.ref 0, .int l1, .int l2, .int l3, .int l4], [], S)
noncomputable def R_hears (a1 : Int32) (a2 : Int32) (S : pS) : Option (Int32 × pS) := CallF PT GR rkT 256 [.ref 0, .int a1, .int a2] S
noncomputable def R_hears_c43 (l1 : Int32) (l3 : Int32) (l4 : Int32) (S : pS) : Option (Int32 × pS) := Res PT GR (rkT 256) 256 (pCut cd256 43, [.ref 0, .int l1, .null, .int l3, .int l4], [], S)
noncomputable def R_asks (a1 : Int32) (a2 : Int32) (S : pS) : Option (Int32 × pS) := CallF PT GR rkT 257 [.ref 0, .int a1, .int a2] S
noncomputable def R_asks_c50 (l1 : Int32) (l2 : Int32) (s0 : Int32) (s1 : Int32) (s2 : Int32) (S : pS) : Option (Int32 × pS) := Res PT GR (rkT 257) 257 (pCut cd257 50, [.ref 0, .int l1, .int l2], [.int s0, .int s1, .int s2, .ref 0], S)
noncomputable def R_keeps (a1 : Int32) (a2 : Int32) (S : pS) : Option (Int32 × pS) := CallF PT GR rkT 261 [.ref 0, .int a1, .int a2] S
noncomputable def R_keeps_c42 (l1 : Int32) (l2 : Int32) (l3 : Int32) (l4 : Int32) (l5 : Int32) (l6 : Int32) (S : pS) : Option (Int32 × pS) := Res PT GR (rkT 261) 261 (pCut cd261 42, [.ref 0, .int l1, .int l2, .int l3, .int l4, .int l5, .int l6, .null], [], S)
noncomputable def R_sorted (a1 : Int32) (S : pS) : Option (Int32 × pS) := CallF PT GR rkT 263 [.ref 0, .int a1] S
noncomputable def R_sorted_c21 (l1 : Int32) (l2 : Int32) (l3 : Int32) (S : pS) : Option (Int32 × pS) := Res PT GR (rkT 263) 263 (pCut cd263 21, [.ref 0, .int l1, .int l2, .int l3], [], S)
noncomputable def R_apart (S : pS) : Option (Int32 × pS) := CallF PT GR rkT 266 [.ref 0] S
noncomputable def R_apart_c9 (l1 : Int32) (l2 : Int32) (S : pS) : Option (Int32 × pS) := Res PT GR (rkT 266) 266 (pCut cd266 9, [.ref 0, .int l1, .int l2], [], S)
noncomputable def R_apart_c33 (l1 : Int32) (l2 : Int32) (S : pS) : Option (Int32 × pS) := Res PT GR (rkT 266) 266 (pCut cd266 33, [.ref 0, .int l1, .int l2], [], S)
noncomputable def R_seconds (S : pS) : Option (Int32 × pS) := CallF PT GR rkT 268 [.ref 0] S
noncomputable def R_seconds_c9 (l1 : Int32) (l2 : Int32) (S : pS) : Option (Int32 × pS) := Res PT GR (rkT 268) 268 (pCut cd268 9, [.ref 0, .int l1, .int l2, .null], [], S)
noncomputable def R_seconds_c19 (l1 : Int32) (l2 : Int32) (l3 : Int32) (S : pS) : Option (Int32 × pS) := Res PT GR (rkT 268) 268 (pCut cd268 19, [.ref 0, .int l1, .int l2, .int l3], [], S)
noncomputable def R_beside (a1 : Int32) (a2 : Int32) (S : pS) : Option (Int32 × pS) := CallF PT GR rkT 270 [.ref 0, .int a1, .int a2] S
noncomputable def R_beside_c30 (l1 : Int32) (l2 : Int32) (l3 : Int32) (l4 : Int32) (S : pS) : Option (Int32 × pS) := Res PT GR (rkT 270) 270 (pCut cd270 30, [.ref 0, .int l1, .int l2, .int l3, .int l4], [], S)
noncomputable def R_note (a1 : Int32) (a2 : Int32) (a3 : Int32) (S : pS) : Option (Int32 × pS) := CallF PT GR rkT 271 [.ref 0, .int a1, .int a2, .int a3] S
noncomputable def R_note_c59 (l1 : Int32) (l2 : Int32) (l3 : Int32) (s0 : Int32) (s1 : Int32) (s2 : Int32) (S : pS) : Option (Int32 × pS) := Res PT GR (rkT 271) 271 (pCut cd271 59, [.ref 0, .int l1, .int l2, .int l3], [.int s0, .int s1, .int s2, .ref 0], S)
noncomputable def R_note_c113 (s0 : Int32) (s1 : Int32) (S : pS) : Option (Int32 × pS) := Res PT GR (rkT 271) 271 (pCut cd271 113, [.ref 0, .null, .null, .null], [.int s0, .int s1, .ref 33], S)
noncomputable def R_whose (a1 : Int32) (S : pS) : Option (Int32 × pS) := CallF PT GR rkT 275 [.ref 0, .int a1] S
noncomputable def R_whose_c52 (l2 : Int32) (l3 : Int32) (l4 : Int32) (l5 : Int32) (l6 : Int32) (S : pS) : Option (Int32 × pS) := Res PT GR (rkT 275) 275 (pCut cd275 52, [.ref 0, .null, .int l2, .int l3, .int l4, .int l5, .int l6, .null, .null], [], S)
noncomputable def R_whose_c99 (l2 : Int32) (l3 : Int32) (l5 : Int32) (l6 : Int32) (l8 : Int32) (s0 : Int32) (S : pS) : Option (Int32 × pS) := Res PT GR (rkT 275) 275 (pCut cd275 99, [.ref 0, .null, .int l2, .int l3, .null, .int l5, .int l6, .null, .int l8], [.int s0], S)
noncomputable def R_uses (a1 : Int32) (S : pS) : Option (Int32 × pS) := CallF PT GR rkT 276 [.ref 0, .int a1] S
noncomputable def R_uses_c24 (l1 : Int32) (l2 : Int32) (l3 : Int32) (l4 : Int32) (S : pS) : Option (Int32 × pS) := Res PT GR (rkT 276) 276 (pCut cd276 24, [.ref 0, .int l1, .int l2, .int l3, .int l4], [], S)
noncomputable def R_game (a1 : Int32) (S : pS) : Option (Int32 × pS) := CallF PT GR rkT 278 [.ref 0, .int a1] S
noncomputable def R_game_c21 (l1 : Int32) (l2 : Int32) (l3 : Int32) (S : pS) : Option (Int32 × pS) := Res PT GR (rkT 278) 278 (pCut cd278 21, [.ref 0, .int l1, .int l2, .int l3], [], S)
noncomputable def R_game_c43 (l1 : Int32) (l2 : Int32) (l3 : Int32) (S : pS) : Option (Int32 × pS) := Res PT GR (rkT 278) 278 (pCut cd278 43, [.ref 0, .int l1, .int l2, .int l3], [], S)
noncomputable def R_image (a1 : Int32) (S : pS) : Option (Int32 × pS) := CallF PT GR rkT 283 [.ref 0, .int a1] S
noncomputable def R_image_c18 (l1 : Int32) (S : pS) : Option (Int32 × pS) := Res PT GR (rkT 283) 283 (pCut cd283 18, [.ref 0, .int l1, .null], [], S)
noncomputable def R_image_c35 (l1 : Int32) (l2 : Int32) (S : pS) : Option (Int32 × pS) := Res PT GR (rkT 283) 283 (pCut cd283 35, [.ref 0, .int l1, .int l2], [], S)
noncomputable def R_image_c73 (l1 : Int32) (l2 : Int32) (S : pS) : Option (Int32 × pS) := Res PT GR (rkT 283) 283 (pCut cd283 73, [.ref 0, .int l1, .int l2], [], S)
noncomputable def R_look (a1 : Int32) (S : pS) : Option (Int32 × pS) := CallF PT GR rkT 284 [.ref 0, .int a1] S
noncomputable def R_isPerson (a1 : Int32) (S : pS) : Option (Int32 × pS) := CallF PT GR rkT 171 [.ref 0, .int a1] S
noncomputable def R_isIn (a1 : Int32) (a2 : Int32) (a3 : Int32) (S : pS) : Option (Int32 × pS) := CallF PT GR rkT 158 [.ref 0, .int a1, .int a2, .int a3] S
noncomputable def R_isCard (a1 : Int32) (S : pS) : Option (Int32 × pS) := CallF PT GR rkT 170 [.ref 0, .int a1] S
noncomputable def R_types (a1 : Int32) (S : pS) : Option (Int32 × pS) := CallF PT GR rkT 177 [.ref 0, .int a1] S
noncomputable def R_types_c3 (l1 : Int32) (l2 : Int32) (S : pS) : Option (Int32 × pS) := Res PT GR (rkT 177) 177 (pCut cd177 3, [.ref 0, .int l1, .int l2], [], S)
noncomputable def R_readsText (a1 : Int32) (S : pS) : Option (Int32 × pS) := CallF PT GR rkT 210 [.ref 0, .int a1] S
noncomputable def R_takesLaw (a1 : Int32) (S : pS) : Option (Int32 × pS) := CallF PT GR rkT 200 [.ref 0, .int a1] S
noncomputable def R_takesLaw_c2 (l1 : Int32) (l2 : Int32) (S : pS) : Option (Int32 × pS) := Res PT GR (rkT 200) 200 (pCut cd200 2, [.ref 0, .int l1, .int l2], [], S)
noncomputable def R_takesLaw_c107 (l1 : Int32) (l2 : Int32) (S : pS) : Option (Int32 × pS) := Res PT GR (rkT 200) 200 (pCut cd200 107, [.ref 0, .int l1, .int l2], [], S)
noncomputable def R_takesOther (a1 : Int32) (a2 : Int32) (S : pS) : Option (Int32 × pS) := CallF PT GR rkT 211 [.ref 0, .int a1, .int a2] S
noncomputable def R_takesOther_c7 (l2 : Int32) (l3 : Int32) (S : pS) : Option (Int32 × pS) := Res PT GR (rkT 211) 211 (pCut cd211 7, [.ref 0, .null, .int l2, .int l3], [], S)
noncomputable def R_takesOther_c49 (l2 : Int32) (l3 : Int32) (S : pS) : Option (Int32 × pS) := Res PT GR (rkT 211) 211 (pCut cd211 49, [.ref 0, .null, .int l2, .int l3], [], S)
noncomputable def R_takesOther_c101 (l2 : Int32) (l3 : Int32) (S : pS) : Option (Int32 × pS) := Res PT GR (rkT 211) 211 (pCut cd211 101, [.ref 0, .null, .int l2, .int l3], [], S)
noncomputable def R_bestCard (a1 : Int32) (a2 : Int32) (S : pS) : Option (Int32 × pS) := CallF PT GR rkT 223 [.ref 0, .int a1, .int a2] S
noncomputable def R_bestCard_c5 (l1 : Int32) (l2 : Int32) (l3 : Int32) (l4 : Int32) (S : pS) : Option (Int32 × pS) := Res PT GR (rkT 223) 223 (pCut cd223 5, [.ref 0, .int l1, .int l2, .int l3, .int l4], [], S)
noncomputable def R_bestCard_c56 (l1 : Int32) (l2 : Int32) (l3 : Int32) (l4 : Int32) (S : pS) : Option (Int32 × pS) := Res PT GR (rkT 223) 223 (pCut cd223 56, [.ref 0, .int l1, .int l2, .int l3, .int l4], [], S)
noncomputable def R_keepsAhead (S : pS) : Option (Int32 × pS) := CallF PT GR rkT 164 [.ref 0] S
noncomputable def R_keepsAhead_c21 (l1 : Int32) (S : pS) : Option (Int32 × pS) := Res PT GR (rkT 164) 164 (pCut cd164 21, [.ref 0, .int l1], [], S)
noncomputable def R_keepsAhead_c55 (l1 : Int32) (S : pS) : Option (Int32 × pS) := Res PT GR (rkT 164) 164 (pCut cd164 55, [.ref 0, .int l1], [], S)
noncomputable def R_rings (a1 : Int32) (S : pS) : Option (Int32 × pS) := CallF PT GR rkT 225 [.ref 0, .int a1] S
noncomputable def R_rings_c71 (l2 : Int32) (l3 : Int32) (l4 : Int32) (S : pS) : Option (Int32 × pS) := Res PT GR (rkT 225) 225 (pCut cd225 71, [.ref 0, .null, .int l2, .int l3, .int l4], [], S)
noncomputable def R_rings_c82 (l2 : Int32) (l3 : Int32) (l4 : Int32) (s0 : Int32) (S : pS) : Option (Int32 × pS) := Res PT GR (rkT 225) 225 (pCut cd225 82, [.null, .null, .int l2, .int l3, .int l4], [.int s0, .ref 0], S)
noncomputable def R_throwsSome (a1 : Int32) (S : pS) : Option (Int32 × pS) := CallF PT GR rkT 227 [.ref 0, .int a1] S
noncomputable def R_throwsSome_c4 (l1 : Int32) (l2 : Int32) (l3 : Int32) (S : pS) : Option (Int32 × pS) := Res PT GR (rkT 227) 227 (pCut cd227 4, [.ref 0, .int l1, .int l2, .int l3, .null], [], S)
noncomputable def R_isKept (a1 : Int32) (S : pS) : Option (Int32 × pS) := CallF PT GR rkT 172 [.ref 0, .int a1] S
noncomputable def R_bends (a1 : Int32) (S : pS) : Option (Int32 × pS) := CallF PT GR rkT 228 [.ref 0, .int a1] S
noncomputable def R_finds (a1 : Int32) (S : pS) : Option (Int32 × pS) := CallF PT GR rkT 229 [.ref 0, .int a1] S
noncomputable def R_goesBy (S : pS) : Option (Int32 × pS) := CallF PT GR rkT 236 [.ref 0] S
noncomputable def R_goesBy_c2 (l1 : Int32) (S : pS) : Option (Int32 × pS) := Res PT GR (rkT 236) 236 (pCut cd236 2, [.ref 0, .int l1, .null], [], S)
noncomputable def R_goesBy_c47 (l1 : Int32) (l2 : Int32) (S : pS) : Option (Int32 × pS) := Res PT GR (rkT 236) 236 (pCut cd236 47, [.ref 0, .int l1, .int l2], [], S)
noncomputable def R_holdsOf (a1 : Int32) (S : pS) : Option (Int32 × pS) := CallF PT GR rkT 219 [.ref 0, .int a1] S
noncomputable def R_dustOf (a1 : Int32) (S : pS) : Option (Int32 × pS) := CallF PT GR rkT 220 [.ref 0, .int a1] S
noncomputable def R_worthOf (a1 : Int32) (S : pS) : Option (Int32 × pS) := CallF PT GR rkT 221 [.ref 0, .int a1] S
noncomputable def R_introducer (a1 : Int32) (S : pS) : Option (Int32 × pS) := CallF PT GR rkT 174 [.ref 0, .int a1] S
noncomputable def R_thinks (S : pS) : Option (Int32 × pS) := CallF PT GR rkT 166 [.ref 0] S
noncomputable def R_thinks_c2 (l1 : Int32) (S : pS) : Option (Int32 × pS) := Res PT GR (rkT 166) 166 (pCut cd166 2, [.ref 0, .int l1], [], S)
noncomputable def R_keptSet (S : pS) : Option (Int32 × pS) := CallF PT GR rkT 173 [.ref 0] S
noncomputable def R_keptSet_c4 (l1 : Int32) (l2 : Int32) (S : pS) : Option (Int32 × pS) := Res PT GR (rkT 173) 173 (pCut cd173 4, [.ref 0, .int l1, .int l2], [], S)
noncomputable def R_onesOf (a1 : Int32) (S : pS) : Option (Int32 × pS) := CallF PT GR rkT 162 [.ref 0, .int a1] S
noncomputable def R_onesOf_c4 (l2 : Int32) (l3 : Int32) (S : pS) : Option (Int32 × pS) := Res PT GR (rkT 162) 162 (pCut cd162 4, [.null, .null, .int l2, .int l3], [], S)
noncomputable def R_endsThought (S : pS) : Option (Int32 × pS) := CallF PT GR rkT 167 [.ref 0] S
noncomputable def R_endsThought_c2 (l1 : Int32) (S : pS) : Option (Int32 × pS) := Res PT GR (rkT 167) 167 (pCut cd167 2, [.ref 0, .int l1], [], S)
noncomputable def R_canBeDated (S : pS) : Option (Int32 × pS) := CallF PT GR rkT 244 [.ref 0] S
noncomputable def R_canBeDated_c2 (l1 : Int32) (S : pS) : Option (Int32 × pS) := Res PT GR (rkT 244) 244 (pCut cd244 2, [.ref 0, .int l1, .null], [], S)
noncomputable def R_canBeDated_c55 (l1 : Int32) (S : pS) : Option (Int32 × pS) := Res PT GR (rkT 244) 244 (pCut cd244 55, [.ref 0, .int l1, .null], [], S)
noncomputable def R_canBeDated_c65 (l1 : Int32) (l2 : Int32) (S : pS) : Option (Int32 × pS) := Res PT GR (rkT 244) 244 (pCut cd244 65, [.ref 0, .int l1, .int l2], [], S)
noncomputable def R_canBeDated_c161 (l1 : Int32) (S : pS) : Option (Int32 × pS) := Res PT GR (rkT 244) 244 (pCut cd244 161, [.ref 0, .int l1, .null], [], S)
noncomputable def R_ownersOf (a1 : Int32) (S : pS) : Option (Int32 × pS) := CallF PT GR rkT 249 [.ref 0, .int a1] S
noncomputable def R_ownersOf_c4 (l1 : Int32) (l2 : Int32) (l3 : Int32) (S : pS) : Option (Int32 × pS) := Res PT GR (rkT 249) 249 (pCut cd249 4, [.ref 0, .int l1, .int l2, .int l3], [], S)
noncomputable def R_besideAll (a1 : Int32) (S : pS) : Option (Int32 × pS) := CallF PT GR rkT 247 [.ref 0, .int a1] S
noncomputable def R_besideAll_c4 (l1 : Int32) (l2 : Int32) (l3 : Int32) (S : pS) : Option (Int32 × pS) := Res PT GR (rkT 247) 247 (pCut cd247 4, [.ref 0, .int l1, .int l2, .int l3], [], S)
noncomputable def R_lowest (a1 : Int32) (S : pS) : Option (Int32 × pS) := CallF PT GR rkT 248 [.ref 0, .int a1] S
noncomputable def R_lowest_c2 (l1 : Int32) (l2 : Int32) (S : pS) : Option (Int32 × pS) := Res PT GR (rkT 248) 248 (pCut cd248 2, [.ref 0, .int l1, .int l2], [], S)
noncomputable def R_ledBy (a1 : Int32) (S : pS) : Option (Int32 × pS) := CallF PT GR rkT 251 [.ref 0, .int a1] S
noncomputable def R_ledBy_c4 (l1 : Int32) (l2 : Int32) (l3 : Int32) (S : pS) : Option (Int32 × pS) := Res PT GR (rkT 251) 251 (pCut cd251 4, [.ref 0, .int l1, .int l2, .int l3, .null], [], S)
noncomputable def R_ledBy_c14 (l1 : Int32) (l2 : Int32) (l3 : Int32) (l4 : Int32) (S : pS) : Option (Int32 × pS) := Res PT GR (rkT 251) 251 (pCut cd251 14, [.ref 0, .int l1, .int l2, .int l3, .int l4], [], S)
noncomputable def R_ledBy_c55 (l1 : Int32) (l2 : Int32) (l3 : Int32) (l4 : Int32) (S : pS) : Option (Int32 × pS) := Res PT GR (rkT 251) 251 (pCut cd251 55, [.ref 0, .int l1, .int l2, .int l3, .int l4], [], S)
noncomputable def R_has (a1 : Int32) (a2 : Int32) (S : pS) : Option (Int32 × pS) := CallF PT GR rkT 163 [.ref 0, .int a1, .int a2] S
noncomputable def R_known (S : pS) : Option (Int32 × pS) := CallF PT GR rkT 254 [.ref 0] S
noncomputable def R_known_c4 (l1 : Int32) (l2 : Int32) (S : pS) : Option (Int32 × pS) := Res PT GR (rkT 254) 254 (pCut cd254 4, [.ref 0, .int l1, .int l2], [], S)
noncomputable def R_known_c39 (l1 : Int32) (l2 : Int32) (S : pS) : Option (Int32 × pS) := Res PT GR (rkT 254) 254 (pCut cd254 39, [.ref 0, .int l1, .int l2], [], S)
noncomputable def R_foundBy (a1 : Int32) (S : pS) : Option (Int32 × pS) := CallF PT GR rkT 260 [.ref 0, .int a1] S
noncomputable def R_foundBy_c4 (l1 : Int32) (l2 : Int32) (l3 : Int32) (S : pS) : Option (Int32 × pS) := Res PT GR (rkT 260) 260 (pCut cd260 4, [.ref 0, .int l1, .int l2, .int l3], [], S)
noncomputable def R_lookedAt (a1 : Int32) (S : pS) : Option (Int32 × pS) := CallF PT GR rkT 262 [.ref 0, .int a1] S
noncomputable def R_lookedAt_c4 (l1 : Int32) (l2 : Int32) (l3 : Int32) (S : pS) : Option (Int32 × pS) := Res PT GR (rkT 262) 262 (pCut cd262 4, [.ref 0, .int l1, .int l2, .int l3], [], S)
noncomputable def R_tellsApart (a1 : Int32) (S : pS) : Option (Int32 × pS) := CallF PT GR rkT 265 [.ref 0, .int a1] S
noncomputable def R_tellsApart_c2 (l1 : Int32) (l2 : Int32) (S : pS) : Option (Int32 × pS) := Res PT GR (rkT 265) 265 (pCut cd265 2, [.ref 0, .int l1, .int l2, .null], [], S)
noncomputable def R_tellsApart_c12 (l1 : Int32) (l2 : Int32) (l3 : Int32) (S : pS) : Option (Int32 × pS) := Res PT GR (rkT 265) 265 (pCut cd265 12, [.ref 0, .int l1, .int l2, .int l3], [], S)
noncomputable def R_isAhead (a1 : Int32) (a2 : Int32) (S : pS) : Option (Int32 × pS) := CallF PT GR rkT 267 [.ref 0, .int a1, .int a2] S
noncomputable def R_inCommon (a1 : Int32) (a2 : Int32) (S : pS) : Option (Int32 × pS) := CallF PT GR rkT 269 [.ref 0, .int a1, .int a2] S
noncomputable def R_inCommon_c5 (l1 : Int32) (l2 : Int32) (l3 : Int32) (l4 : Int32) (S : pS) : Option (Int32 × pS) := Res PT GR (rkT 269) 269 (pCut cd269 5, [.ref 0, .int l1, .int l2, .int l3, .int l4], [], S)
noncomputable def R_writers (S : pS) : Option (Int32 × pS) := CallF PT GR rkT 274 [.ref 0] S
noncomputable def R_writers_c4 (l1 : Int32) (l2 : Int32) (S : pS) : Option (Int32 × pS) := Res PT GR (rkT 274) 274 (pCut cd274 4, [.ref 0, .int l1, .int l2, .null, .null], [], S)
noncomputable def R_writers_c21 (l1 : Int32) (l2 : Int32) (l3 : Int32) (l4 : Int32) (S : pS) : Option (Int32 × pS) := Res PT GR (rkT 274) 274 (pCut cd274 21, [.ref 0, .int l1, .int l2, .int l3, .int l4], [], S)
noncomputable def R_greater (a1 : Int32) (a2 : Int32) (S : pS) : Option (Int32 × pS) := CallF PT GR rkT 160 [.ref 0, .int a1, .int a2] S
noncomputable def R_lesser (a1 : Int32) (a2 : Int32) (S : pS) : Option (Int32 × pS) := CallF PT GR rkT 161 [.ref 0, .int a1, .int a2] S
noncomputable def R_heapOf (a1 : Int32) (S : pS) : Option (Int32 × pS) := CallF PT GR rkT 277 [.ref 0, .int a1] S
noncomputable def R_heapOf_c4 (l1 : Int32) (l2 : Int32) (l3 : Int32) (S : pS) : Option (Int32 × pS) := Res PT GR (rkT 277) 277 (pCut cd277 4, [.ref 0, .int l1, .int l2, .int l3], [], S)
noncomputable def R_keepsOne (a1 : Int32) (S : pS) : Option (Int32 × pS) := CallF PT GR rkT 279 [.ref 0, .int a1] S
noncomputable def R_keepsTold (S : pS) : Option (Int32 × pS) := CallF PT GR rkT 282 [.ref 0] S
noncomputable def R_keepsTold_c50 (l1 : Int32) (S : pS) : Option (Int32 × pS) := Res PT GR (rkT 282) 282 (pCut cd282 50, [.ref 0, .int l1], [], S)
noncomputable def R_keepsTold_c112 (l1 : Int32) (S : pS) : Option (Int32 × pS) := Res PT GR (rkT 282) 282 (pCut cd282 112, [.ref 0, .int l1], [], S)
noncomputable def R_keepsTold_c158 (l1 : Int32) (S : pS) : Option (Int32 × pS) := Res PT GR (rkT 282) 282 (pCut cd282 158, [.ref 0, .int l1], [], S)
noncomputable def R_keepsTold_c204 (l1 : Int32) (S : pS) : Option (Int32 × pS) := Res PT GR (rkT 282) 282 (pCut cd282 204, [.ref 0, .int l1], [], S)
noncomputable def R_keepsTexts (S : pS) : Option (Int32 × pS) := CallF PT GR rkT 281 [.ref 0] S
noncomputable def R_keepsTexts_c38 (l1 : Int32) (S : pS) : Option (Int32 × pS) := Res PT GR (rkT 281) 281 (pCut cd281 38, [.ref 0, .int l1], [], S)
noncomputable def R_keepsTexts_c68 (l1 : Int32) (S : pS) : Option (Int32 × pS) := Res PT GR (rkT 281) 281 (pCut cd281 68, [.ref 0, .int l1], [], S)
noncomputable def R_keepsTexts_c114 (l1 : Int32) (S : pS) : Option (Int32 × pS) := Res PT GR (rkT 281) 281 (pCut cd281 114, [.ref 0, .int l1], [], S)
noncomputable def R_keepsLaw (S : pS) : Option (Int32 × pS) := CallF PT GR rkT 280 [.ref 0] S
noncomputable def R_keepsLaw_c18 (l1 : Int32) (S : pS) : Option (Int32 × pS) := Res PT GR (rkT 280) 280 (pCut cd280 18, [.ref 0, .int l1], [], S)
noncomputable def R_keepsLaw_c96 (l1 : Int32) (S : pS) : Option (Int32 × pS) := Res PT GR (rkT 280) 280 (pCut cd280 96, [.ref 0, .int l1], [], S)
noncomputable def R_reads (S : pS) : Option (Int32 × pS) := CallF PT GR rkT 185 [.ref 0] S
noncomputable def R_reads_c0 (S : pS) : Option (Int32 × pS) := Res PT GR (rkT 185) 185 (pCut cd185 0, [.ref 0, .null], [], S)
noncomputable def R_reads_c26 (S : pS) : Option (Int32 × pS) := Res PT GR (rkT 185) 185 (pCut cd185 26, [.ref 0, .null], [], S)
noncomputable def R_reads_c171 (S : pS) : Option (Int32 × pS) := Res PT GR (rkT 185) 185 (pCut cd185 171, [.ref 0, .null], [], S)
noncomputable def R_reads_c95 (S : pS) : Option (Int32 × pS) := Res PT GR (rkT 185) 185 (pCut cd185 95, [.ref 0, .null], [], S)
noncomputable def R_reads_c223 (s0 : Int32) (S : pS) : Option (Int32 × pS) := Res PT GR (rkT 185) 185 (pCut cd185 223, [.ref 0, .null], [.int s0, .ref 0], S)
noncomputable def R_readMet (S : pS) : Option (Int32 × pS) := CallF PT GR rkT 205 [.ref 0] S
noncomputable def R_readMet_c2 (l1 : Int32) (S : pS) : Option (Int32 × pS) := Res PT GR (rkT 205) 205 (pCut cd205 2, [.ref 0, .int l1], [], S)
noncomputable def R_readMet_c26 (l1 : Int32) (S : pS) : Option (Int32 × pS) := Res PT GR (rkT 205) 205 (pCut cd205 26, [.ref 0, .int l1], [], S)
noncomputable def R_readCalled (S : pS) : Option (Int32 × pS) := CallF PT GR rkT 207 [.ref 0] S
noncomputable def R_readCalled_c2 (l1 : Int32) (S : pS) : Option (Int32 × pS) := Res PT GR (rkT 207) 207 (pCut cd207 2, [.ref 0, .int l1], [], S)
noncomputable def R_readCalled_c36 (l1 : Int32) (S : pS) : Option (Int32 × pS) := Res PT GR (rkT 207) 207 (pCut cd207 36, [.ref 0, .int l1], [], S)
noncomputable def R_readPlan (S : pS) : Option (Int32 × pS) := CallF PT GR rkT 209 [.ref 0] S
noncomputable def R_readPlan_c2 (l1 : Int32) (S : pS) : Option (Int32 × pS) := Res PT GR (rkT 209) 209 (pCut cd209 2, [.ref 0, .int l1], [], S)
noncomputable def R_readLaw (S : pS) : Option (Int32 × pS) := CallF PT GR rkT 199 [.ref 0] S
noncomputable def R_readLaw_c2 (l1 : Int32) (S : pS) : Option (Int32 × pS) := Res PT GR (rkT 199) 199 (pCut cd199 2, [.ref 0, .int l1, .null], [], S)
noncomputable def R_readLaw_c92 (l1 : Int32) (l2 : Int32) (S : pS) : Option (Int32 × pS) := Res PT GR (rkT 199) 199 (pCut cd199 92, [.ref 0, .int l1, .int l2], [], S)
noncomputable def R_doesHold (a1 : Int32) (a2 : Int32) (S : pS) : Option (Int32 × pS) := CallF PT GR rkT 224 [.ref 0, .int a1, .int a2] S
noncomputable def R_notes (a1 : Int32) (a2 : Int32) (a3 : Int32) (S : pS) : Option (Int32 × pS) := CallF PT GR rkT 222 [.ref 0, .int a1, .int a2, .int a3] S
noncomputable def R_leastWorth (S : pS) : Option (Int32 × pS) := CallF PT GR rkT 226 [.ref 0] S
noncomputable def R_leastWorth_c4 (l1 : Int32) (l2 : Int32) (S : pS) : Option (Int32 × pS) := Res PT GR (rkT 226) 226 (pCut cd226 4, [.ref 0, .int l1, .int l2], [], S)
noncomputable def R_doesDeed (a1 : Int32) (S : pS) : Option (Int32 × pS) := CallF PT GR rkT 233 [.ref 0, .int a1] S
noncomputable def R_doesDeed_c26 (l1 : Int32) (l2 : Int32) (S : pS) : Option (Int32 × pS) := Res PT GR (rkT 233) 233 (pCut cd233 26, [.ref 0, .int l1, .int l2], [], S)
noncomputable def R_doesDeed_c54 (l1 : Int32) (l2 : Int32) (S : pS) : Option (Int32 × pS) := Res PT GR (rkT 233) 233 (pCut cd233 54, [.ref 0, .int l1, .int l2], [], S)
noncomputable def R_doesDeed_c71 (l1 : Int32) (l2 : Int32) (S : pS) : Option (Int32 × pS) := Res PT GR (rkT 233) 233 (pCut cd233 71, [.ref 0, .int l1, .int l2], [], S)
noncomputable def R_isServed (S : pS) : Option (Int32 × pS) := CallF PT GR rkT 234 [.ref 0] S
noncomputable def R_isServed_c25 (s0 : Int32) (S : pS) : Option (Int32 × pS) := Res PT GR (rkT 234) 234 (pCut cd234 25, [.ref 0, .null, .null, .null, .null, .null], [.int s0], S)
noncomputable def R_isServed_c86 (l2 : Int32) (l3 : Int32) (l4 : Int32) (s0 : Int32) (S : pS) : Option (Int32 × pS) := Res PT GR (rkT 234) 234 (pCut cd234 86, [.ref 0, .null, .int l2, .int l3, .int l4, .null], [.int s0], S)
noncomputable def R_isServed_c116 (l2 : Int32) (l3 : Int32) (l4 : Int32) (s0 : Int32) (S : pS) : Option (Int32 × pS) := Res PT GR (rkT 234) 234 (pCut cd234 116, [.null, .null, .int l2, .int l3, .int l4, .null], [.int s0, .ref 0], S)
noncomputable def R_wears (a1 : Int32) (S : pS) : Option (Int32 × pS) := CallF PT GR rkT 235 [.ref 0, .int a1] S
noncomputable def R_ageOf (a1 : Int32) (S : pS) : Option (Int32 × pS) := CallF PT GR rkT 218 [.ref 0, .int a1] S
noncomputable def R_lawTells (a1 : Int32) (a2 : Int32) (a3 : Int32) (a4 : Int32) (S : pS) : Option (Int32 × pS) := CallF PT GR rkT 217 [.ref 0, .int a1, .int a2, .int a3, .int a4] S
noncomputable def R_besideOf (a1 : Int32) (S : pS) : Option (Int32 × pS) := CallF PT GR rkT 246 [.ref 0, .int a1] S
noncomputable def R_besideOf_c23 (l1 : Int32) (l2 : Int32) (l3 : Int32) (S : pS) : Option (Int32 × pS) := Res PT GR (rkT 246) 246 (pCut cd246 23, [.ref 0, .int l1, .int l2, .int l3], [], S)
noncomputable def R_answersIn (a1 : Int32) (a2 : Int32) (S : pS) : Option (Int32 × pS) := CallF PT GR rkT 259 [.ref 0, .int a1, .int a2] S
noncomputable def R_answersIn_c5 (l1 : Int32) (l2 : Int32) (l3 : Int32) (l4 : Int32) (S : pS) : Option (Int32 × pS) := Res PT GR (rkT 259) 259 (pCut cd259 5, [.ref 0, .int l1, .int l2, .int l3, .int l4], [], S)
noncomputable def R_areAlike (a1 : Int32) (a2 : Int32) (a3 : Int32) (S : pS) : Option (Int32 × pS) := CallF PT GR rkT 264 [.ref 0, .int a1, .int a2, .int a3] S
noncomputable def R_areAlike_c3 (l1 : Int32) (l2 : Int32) (l3 : Int32) (l4 : Int32) (S : pS) : Option (Int32 × pS) := Res PT GR (rkT 264) 264 (pCut cd264 3, [.ref 0, .int l1, .int l2, .int l3, .int l4], [], S)
noncomputable def R_factOf (a1 : Int32) (a2 : Int32) (S : pS) : Option (Int32 × pS) := CallF PT GR rkT 258 [.ref 0, .int a1, .int a2] S
noncomputable def R_hasSuch (a1 : Int32) (a2 : Int32) (a3 : Int32) (S : pS) : Option (Int32 × pS) := CallF PT GR rkT 272 [.ref 0, .int a1, .int a2, .int a3] S
noncomputable def R_hasSuch_c3 (l1 : Int32) (l2 : Int32) (l3 : Int32) (l4 : Int32) (S : pS) : Option (Int32 × pS) := Res PT GR (rkT 272) 272 (pCut cd272 3, [.ref 0, .int l1, .int l2, .int l3, .int l4], [], S)
noncomputable def R_isNoted (a1 : Int32) (a2 : Int32) (S : pS) : Option (Int32 × pS) := CallF PT GR rkT 273 [.ref 0, .int a1, .int a2] S
noncomputable def R_isNoted_c59 (l2 : Int32) (s0 : Int32) (S : pS) : Option (Int32 × pS) := Res PT GR (rkT 273) 273 (pCut cd273 59, [.ref 0, .null, .int l2, .null, .null], [.int s0], S)
noncomputable def R_isNoted_c50 (l2 : Int32) (s0 : Int32) (s1 : Int32) (S : pS) : Option (Int32 × pS) := Res PT GR (rkT 273) 273 (pCut cd273 50, [.ref 0, .null, .int l2, .null, .null], [.int s0, .int s1, .ref 0], S)
noncomputable def R_raw (a1 : Int32) (S : pS) : Option (Int32 × pS) := CallF PT GR rkT 180 [.ref 0, .int a1] S
noncomputable def R_isLetter (a1 : Int32) (S : pS) : Option (Int32 × pS) := CallF PT GR rkT 181 [.ref 0, .int a1] S
noncomputable def R_isDigit (a1 : Int32) (S : pS) : Option (Int32 × pS) := CallF PT GR rkT 182 [.ref 0, .int a1] S
noncomputable def R_isMarkSign (a1 : Int32) (S : pS) : Option (Int32 × pS) := CallF PT GR rkT 183 [.ref 0, .int a1] S
noncomputable def R_wordAt (a1 : Int32) (a2 : Int32) (S : pS) : Option (Int32 × pS) := CallF PT GR rkT 184 [.ref 0, .int a1, .int a2] S
noncomputable def R_wordAt_c5 (l1 : Int32) (l2 : Int32) (l3 : Int32) (l4 : Int32) (S : pS) : Option (Int32 × pS) := Res PT GR (rkT 184) 184 (pCut cd184 5, [.ref 0, .int l1, .int l2, .int l3, .int l4, .null], [], S)
noncomputable def R_wordAt_c19 (l1 : Int32) (l2 : Int32) (l3 : Int32) (l4 : Int32) (l5 : Int32) (S : pS) : Option (Int32 × pS) := Res PT GR (rkT 184) 184 (pCut cd184 19, [.ref 0, .int l1, .int l2, .int l3, .int l4, .int l5], [], S)
noncomputable def R_wordAt_c60 (l1 : Int32) (l2 : Int32) (l3 : Int32) (l4 : Int32) (l5 : Int32) (S : pS) : Option (Int32 × pS) := Res PT GR (rkT 184) 184 (pCut cd184 60, [.ref 0, .int l1, .int l2, .int l3, .int l4, .int l5], [], S)
noncomputable def R_wordAt_c93 (l1 : Int32) (l2 : Int32) (l3 : Int32) (l4 : Int32) (S : pS) : Option (Int32 × pS) := Res PT GR (rkT 184) 184 (pCut cd184 93, [.ref 0, .int l1, .int l2, .int l3, .int l4, .null], [], S)
noncomputable def R_isWord (a1 : Int32) (S : pS) : Option (Int32 × pS) := CallF PT GR rkT 187 [.ref 0, .int a1] S
noncomputable def R_errs (a1 : Int32) (S : pS) : Option (Int32 × pS) := CallF PT GR rkT 186 [.ref 0, .int a1] S
noncomputable def R_readMetLine (S : pS) : Option (Int32 × pS) := CallF PT GR rkT 204 [.ref 0] S
noncomputable def R_readMetLine_c58 (l1 : Int32) (S : pS) : Option (Int32 × pS) := Res PT GR (rkT 204) 204 (pCut cd204 58, [.ref 0, .int l1, .null], [], S)
noncomputable def R_readCalledLine (S : pS) : Option (Int32 × pS) := CallF PT GR rkT 206 [.ref 0] S
noncomputable def R_readDeed (a1 : Int32) (S : pS) : Option (Int32 × pS) := CallF PT GR rkT 208 [.ref 0, .int a1] S
noncomputable def R_readDeed_c43 (l1 : Int32) (s0 : Int32) (S : pS) : Option (Int32 × pS) := Res PT GR (rkT 208) 208 (pCut cd208 43, [.ref 0, .int l1, .null], [.int s0], S)
noncomputable def R_readDeed_c123 (l1 : Int32) (s0 : Int32) (s1 : Int32) (S : pS) : Option (Int32 × pS) := Res PT GR (rkT 208) 208 (pCut cd208 123, [.ref 0, .int l1, .null], [.int s0, .int s1, .ref 21], S)
noncomputable def R_isLineWord (S : pS) : Option (Int32 × pS) := CallF PT GR rkT 198 [.ref 0] S
noncomputable def R_readSum (S : pS) : Option (Int32 × pS) := CallF PT GR rkT 193 [.ref 0] S
noncomputable def R_readSum_c10 (S : pS) : Option (Int32 × pS) := Res PT GR (rkT 193) 193 (pCut cd193 10, [.ref 0, .null], [], S)
noncomputable def R_readSum_c28 (S : pS) : Option (Int32 × pS) := Res PT GR (rkT 193) 193 (pCut cd193 28, [.ref 0, .null], [], S)
noncomputable def R_readSum_c42 (s0 : Int32) (S : pS) : Option (Int32 × pS) := Res PT GR (rkT 193) 193 (pCut cd193 42, [.ref 0, .null], [.int s0], S)
noncomputable def R_readAny (S : pS) : Option (Int32 × pS) := CallF PT GR rkT 197 [.ref 0] S
noncomputable def R_readAny_c9 (l1 : Int32) (l2 : Int32) (S : pS) : Option (Int32 × pS) := Res PT GR (rkT 197) 197 (pCut cd197 9, [.ref 0, .int l1, .int l2, .null], [], S)
noncomputable def R_readAny_c33 (l1 : Int32) (l2 : Int32) (l3 : Int32) (S : pS) : Option (Int32 × pS) := Res PT GR (rkT 197) 197 (pCut cd197 33, [.ref 0, .int l1, .int l2, .int l3], [], S)
noncomputable def R_readAny_c66 (l1 : Int32) (l2 : Int32) (l3 : Int32) (S : pS) : Option (Int32 × pS) := Res PT GR (rkT 197) 197 (pCut cd197 66, [.ref 0, .int l1, .int l2, .int l3], [], S)
noncomputable def R_isSign (a1 : Int32) (S : pS) : Option (Int32 × pS) := CallF PT GR rkT 188 [.ref 0, .int a1] S
noncomputable def R_draw (a1 : Int32) (S : pS) : Option (Int32 × pS) := CallF PT GR rkT 169 [.ref 0, .int a1] S
noncomputable def R_lineOf (a1 : Int32) (S : pS) : Option (Int32 × pS) := CallF PT GR rkT 216 [.ref 0, .int a1] S
noncomputable def R_lineOf_c2 (l1 : Int32) (l2 : Int32) (S : pS) : Option (Int32 × pS) := Res PT GR (rkT 216) 216 (pCut cd216 2, [.ref 0, .int l1, .int l2], [], S)
noncomputable def R_held (a1 : Int32) (a2 : Int32) (a3 : Int32) (S : pS) : Option (Int32 × pS) := CallF PT GR rkT 159 [.ref 0, .int a1, .int a2, .int a3] S
noncomputable def R_runs (a1 : Int32) (a2 : Int32) (a3 : Int32) (S : pS) : Option (Int32 × pS) := CallF PT GR rkT 215 [.ref 0, .int a1, .int a2, .int a3] S
noncomputable def R_runs_c12 (l1 : Int32) (l3 : Int32) (l4 : Int32) (l5 : Int32) (S : pS) : Option (Int32 × pS) := Res PT GR (rkT 215) 215 (pCut cd215 12, [.ref 0, .int l1, .null, .int l3, .int l4, .int l5], [], S)
noncomputable def R_runs_c45 (l1 : Int32) (l3 : Int32) (l4 : Int32) (l5 : Int32) (S : pS) : Option (Int32 × pS) := Res PT GR (rkT 215) 215 (pCut cd215 45, [.ref 0, .int l1, .null, .int l3, .int l4, .int l5], [], S)
noncomputable def R_runs_c83 (l1 : Int32) (l3 : Int32) (l4 : Int32) (l5 : Int32) (s0 : Int32) (s1 : Int32) (S : pS) : Option (Int32 × pS) := Res PT GR (rkT 215) 215 (pCut cd215 83, [.ref 0, .int l1, .null, .int l3, .int l4, .int l5], [.int s0, .int s1, .ref 23], S)
noncomputable def R_readTold (a1 : Int32) (a2 : Int32) (a3 : Int32) (S : pS) : Option (Int32 × pS) := CallF PT GR rkT 203 [.ref 0, .int a1, .int a2, .int a3] S
noncomputable def R_readNumber (a1 : Int32) (a2 : Int32) (S : pS) : Option (Int32 × pS) := CallF PT GR rkT 201 [.ref 0, .int a1, .int a2] S
noncomputable def R_readMark (a1 : Int32) (S : pS) : Option (Int32 × pS) := CallF PT GR rkT 202 [.ref 0, .int a1] S
noncomputable def R_readProduct (S : pS) : Option (Int32 × pS) := CallF PT GR rkT 192 [.ref 0] S
noncomputable def R_readProduct_c10 (S : pS) : Option (Int32 × pS) := Res PT GR (rkT 192) 192 (pCut cd192 10, [.ref 0, .null], [], S)
noncomputable def R_readProduct_c28 (S : pS) : Option (Int32 × pS) := Res PT GR (rkT 192) 192 (pCut cd192 28, [.ref 0, .null], [], S)
noncomputable def R_readProduct_c57 (l1 : Int32) (S : pS) : Option (Int32 × pS) := Res PT GR (rkT 192) 192 (pCut cd192 57, [.ref 0, .int l1], [], S)
noncomputable def R_readProduct_c74 (l1 : Int32) (S : pS) : Option (Int32 × pS) := Res PT GR (rkT 192) 192 (pCut cd192 74, [.ref 0, .int l1], [], S)
noncomputable def R_emits (a1 : Int32) (a2 : Int32) (S : pS) : Option (Int32 × pS) := CallF PT GR rkT 189 [.ref 0, .int a1, .int a2] S
noncomputable def R_settles (a1 : Int32) (S : pS) : Option (Int32 × pS) := CallF PT GR rkT 196 [.ref 0, .int a1] S
noncomputable def R_settles_c0 (l1 : Int32) (S : pS) : Option (Int32 × pS) := Res PT GR (rkT 196) 196 (pCut cd196 0, [.ref 0, .int l1], [], S)
noncomputable def R_waits (a1 : Int32) (S : pS) : Option (Int32 × pS) := CallF PT GR rkT 195 [.ref 0, .int a1] S
noncomputable def R_readCompared (S : pS) : Option (Int32 × pS) := CallF PT GR rkT 194 [.ref 0] S
noncomputable def R_readCompared_c43 (S : pS) : Option (Int32 × pS) := Res PT GR (rkT 194) 194 (pCut cd194 43, [.ref 0, .null], [], S)
noncomputable def R_readCompared_c73 (s0 : Int32) (S : pS) : Option (Int32 × pS) := Res PT GR (rkT 194) 194 (pCut cd194 73, [.ref 0, .null], [.int s0], S)
noncomputable def R_twoOf (a1 : Int32) (a2 : Int32) (a3 : Int32) (S : pS) : Option (Int32 × pS) := CallF PT GR rkT 214 [.ref 0, .int a1, .int a2, .int a3] S
noncomputable def R_readUnit (S : pS) : Option (Int32 × pS) := CallF PT GR rkT 191 [.ref 0] S
noncomputable def R_readUnit_c24 (s0 : Int32) (S : pS) : Option (Int32 × pS) := Res PT GR (rkT 191) 191 (pCut cd191 24, [.ref 0, .null], [.int s0], S)
noncomputable def R_readUnit_c43 (l1 : Int32) (S : pS) : Option (Int32 × pS) := Res PT GR (rkT 191) 191 (pCut cd191 43, [.ref 0, .int l1], [], S)
noncomputable def R_readUnit_c53 (l1 : Int32) (s0 : Int32) (S : pS) : Option (Int32 × pS) := Res PT GR (rkT 191) 191 (pCut cd191 53, [.ref 0, .int l1], [.int s0, .ref 0], S)
noncomputable def R_readUnit_c71 (s0 : Int32) (s1 : Int32) (S : pS) : Option (Int32 × pS) := Res PT GR (rkT 191) 191 (pCut cd191 71, [.ref 0, .null], [.int s0, .int s1, .ref 0], S)
noncomputable def R_canAsk (a1 : Int32) (S : pS) : Option (Int32 × pS) := CallF PT GR rkT 190 [.ref 0, .int a1] S
noncomputable def C_state (a1 : Int32) (S : pS) : Option (Int32 × pS) := CallF PT GX rkT 117 [.ref 0, .int a1] S
noncomputable def C_card (a1 : Int32) (a2 : Int32) (a3 : Int32) (a4 : Int32) (S : pS) : Option (Int32 × pS) := CallF PT GX rkT 118 [.ref 0, .int a1, .int a2, .int a3, .int a4] S
noncomputable def C_set (a1 : Int32) (a2 : Int32) (a3 : Int32) (S : pS) : Option (Int32 × pS) := CallF PT GX rkT 119 [.ref 0, .int a1, .int a2, .int a3] S
noncomputable def C_set_c13 (l1 : Int32) (l2 : Int32) (l3 : Int32) (s0 : Int32) (s1 : Int32) (S : pS) : Option (Int32 × pS) := Res PT GX (rkT 119) 119 (pCut cd119 13, [.ref 0, .int l1, .int l2, .int l3], [.int s0, .int s1], S)
noncomputable def C_set_c81 (S : pS) : Option (Int32 × pS) := Res PT GX (rkT 119) 119 (pCut cd119 81, [.ref 0, .null, .null, .null], [], S)
noncomputable def C_set_c46 (l1 : Int32) (l2 : Int32) (l3 : Int32) (S : pS) : Option (Int32 × pS) := Res PT GX (rkT 119) 119 (pCut cd119 46, [.ref 0, .int l1, .int l2, .int l3], [], S)
noncomputable def C_ring (a1 : Int32) (S : pS) : Option (Int32 × pS) := CallF PT GX rkT 120 [.ref 0, .int a1] S
noncomputable def C_toss (a1 : Int32) (S : pS) : Option (Int32 × pS) := CallF PT GX rkT 121 [.ref 0, .int a1] S
noncomputable def C_does (a1 : Int32) (a2 : Int32) (S : pS) : Option (Int32 × pS) := CallF PT GX rkT 122 [.ref 0, .int a1, .int a2] S
noncomputable def C_does_c28 (l1 : Int32) (l2 : Int32) (S : pS) : Option (Int32 × pS) := Res PT GX (rkT 122) 122 (pCut cd122 28, [.ref 0, .int l1, .int l2], [], S)
noncomputable def C_years (a1 : Int32) (S : pS) : Option (Int32 × pS) := CallF PT GX rkT 123 [.ref 0, .int a1] S
noncomputable def C_years_c37 (l1 : Int32) (l2 : Int32) (l3 : Int32) (S : pS) : Option (Int32 × pS) := Res PT GX (rkT 123) 123 (pCut cd123 37, [.ref 0, .int l1, .int l2, .int l3], [], S)
noncomputable def C_feed (a1 : Int32) (a2 : Int32) (a3 : Int32) (a4 : Int32) (a5 : Int32) (S : pS) : Option (Int32 × pS) := CallF PT GX rkT 124 [.ref 0, .int a1, .int a2, .int a3, .int a4, .int a5] S
noncomputable def C_end (a1 : Int32) (S : pS) : Option (Int32 × pS) := CallF PT GX rkT 125 [.ref 0, .int a1] S
noncomputable def C_text (d : Nat) (a1 : Int32) (S : pS) : Option (Int32 × pS) := Res PT GX d 126 (cd126, [.ref 0, .int a1, .null], [], S)
noncomputable def C_fault (a1 : Int32) (S : pS) : Option (Int32 × pS) := CallF PT GX rkT 127 [.ref 0, .int a1] S
noncomputable def C_of (a1 : Int32) (a2 : Int32) (S : pS) : Option (Int32 × pS) := CallF PT GX rkT 128 [.ref 0, .int a1, .int a2] S
noncomputable def C_met (a1 : Int32) (S : pS) : Option (Int32 × pS) := CallF PT GX rkT 129 [.ref 0, .int a1] S
noncomputable def C_called (a1 : Int32) (a2 : Int32) (S : pS) : Option (Int32 × pS) := CallF PT GX rkT 130 [.ref 0, .int a1, .int a2] S
noncomputable def C_book (a1 : Int32) (a2 : Int32) (S : pS) : Option (Int32 × pS) := CallF PT GX rkT 131 [.ref 0, .int a1, .int a2] S
noncomputable def C_goes (a1 : Int32) (a2 : Int32) (S : pS) : Option (Int32 × pS) := CallF PT GX rkT 132 [.ref 0, .int a1, .int a2] S
noncomputable def C_goes_c34 (l1 : Int32) (l2 : Int32) (l3 : Int32) (S : pS) : Option (Int32 × pS) := Res PT GX (rkT 132) 132 (pCut cd132 34, [.ref 0, .int l1, .int l2, .int l3], [], S)
noncomputable def C_ahead (a1 : Int32) (a2 : Int32) (S : pS) : Option (Int32 × pS) := CallF PT GX rkT 133 [.ref 0, .int a1, .int a2] S
noncomputable def C_dated (a1 : Int32) (a2 : Int32) (S : pS) : Option (Int32 × pS) := CallF PT GX rkT 134 [.ref 0, .int a1, .int a2] S
noncomputable def C_hands (a1 : Int32) (a2 : Int32) (S : pS) : Option (Int32 × pS) := CallF PT GX rkT 135 [.ref 0, .int a1, .int a2] S
noncomputable def C_led (a1 : Int32) (S : pS) : Option (Int32 × pS) := CallF PT GX rkT 136 [.ref 0, .int a1] S
noncomputable def C_root (a1 : Int32) (S : pS) : Option (Int32 × pS) := CallF PT GX rkT 137 [.ref 0, .int a1] S
noncomputable def C_tells (a1 : Int32) (S : pS) : Option (Int32 × pS) := CallF PT GX rkT 138 [.ref 0, .int a1] S
noncomputable def C_hears (a1 : Int32) (a2 : Int32) (S : pS) : Option (Int32 × pS) := CallF PT GX rkT 139 [.ref 0, .int a1, .int a2] S
noncomputable def C_asks (a1 : Int32) (a2 : Int32) (S : pS) : Option (Int32 × pS) := CallF PT GX rkT 140 [.ref 0, .int a1, .int a2] S
noncomputable def C_keeps (a1 : Int32) (a2 : Int32) (S : pS) : Option (Int32 × pS) := CallF PT GX rkT 141 [.ref 0, .int a1, .int a2] S
noncomputable def C_sorted (a1 : Int32) (S : pS) : Option (Int32 × pS) := CallF PT GX rkT 142 [.ref 0, .int a1] S
noncomputable def C_apart (S : pS) : Option (Int32 × pS) := CallF PT GX rkT 143 [.ref 0] S
noncomputable def C_seconds (S : pS) : Option (Int32 × pS) := CallF PT GX rkT 144 [.ref 0] S
noncomputable def C_beside (a1 : Int32) (a2 : Int32) (S : pS) : Option (Int32 × pS) := CallF PT GX rkT 145 [.ref 0, .int a1, .int a2] S
noncomputable def C_note (a1 : Int32) (a2 : Int32) (a3 : Int32) (S : pS) : Option (Int32 × pS) := CallF PT GX rkT 146 [.ref 0, .int a1, .int a2, .int a3] S
noncomputable def C_whose (a1 : Int32) (S : pS) : Option (Int32 × pS) := CallF PT GX rkT 147 [.ref 0, .int a1] S
noncomputable def C_uses (a1 : Int32) (S : pS) : Option (Int32 × pS) := CallF PT GX rkT 148 [.ref 0, .int a1] S
noncomputable def C_game (a1 : Int32) (S : pS) : Option (Int32 × pS) := CallF PT GX rkT 149 [.ref 0, .int a1] S
noncomputable def C_undo (S : pS) : Option (Int32 × pS) := CallF PT GX rkT 150 [.ref 0] S
noncomputable def C_image (a1 : Int32) (S : pS) : Option (Int32 × pS) := CallF PT GX rkT 151 [.ref 0, .int a1] S
noncomputable def C_look (a1 : Int32) (S : pS) : Option (Int32 × pS) := CallF PT GX rkT 152 [.ref 0, .int a1] S
noncomputable def Hi_forget_31 (S : pS) : Option (Int32 × pS) := CallF PT GX rkT 49 [.ref 31] S
noncomputable def C_within (a0 : Int32) (a1 : Int32) (S : pS) : Option (Int32 × pS) := CallF PT GX rkT 153 [.int a0, .int a1] S
noncomputable def Dr_put_1 (a1 : Int32) (a2 : Int32) (a3 : Int32) (a4 : Int32) (S : pS) : Option (Int32 × pS) := CallF PT GX rkT 42 [.ref 1, .int a1, .int a2, .int a3, .int a4] S
noncomputable def Dr_has_1 (a1 : Int32) (S : pS) : Option (Int32 × pS) := CallF PT GX rkT 38 [.ref 1, .int a1] S
noncomputable def Dr_write_1 (a1 : Int32) (a2 : Int32) (a3 : Int32) (S : pS) : Option (Int32 × pS) := CallF PT GX rkT 41 [.ref 1, .int a1, .int a2, .int a3] S
noncomputable def Dr_keptWith_1 (a1 : Int32) (a2 : Int32) (S : pS) : Option (Int32 × pS) := CallF PT GX rkT 45 [.ref 1, .int a1, .int a2] S
noncomputable def Dr_keptWith_1_c5 (l1 : Int32) (l2 : Int32) (l3 : Int32) (l4 : Int32) (S : pS) : Option (Int32 × pS) := Res PT GX (rkT 45) 45 (pCut cd45 5, [.ref 1, .int l1, .int l2, .int l3, .int l4], [], S)
noncomputable def Hi_remember_31_1 (a2 : Int32) (S : pS) : Option (Int32 × pS) := CallF PT GX rkT 50 [.ref 31, .ref 1, .int a2] S
noncomputable def Hi_remember_31_1_c13 (l2 : Int32) (S : pS) : Option (Int32 × pS) := Res PT GX (rkT 50) 50 (pCut cd50 13, [.ref 31, .ref 1, .int l2], [], S)
noncomputable def Ke_ringPerson_25 (a1 : Int32) (S : pS) : Option (Int32 × pS) := CallF PT GX rkT 58 [.ref 25, .int a1] S
noncomputable def Ke_ringPerson_25_c37 (l2 : Int32) (l3 : Int32) (s0 : Int32) (S : pS) : Option (Int32 × pS) := Res PT GX (rkT 58) 58 (pCut cd58 37, [.ref 25, .null, .int l2, .int l3], [.int s0, .ref 25], S)
noncomputable def Ke_throwCards_25 (a1 : Int32) (S : pS) : Option (Int32 × pS) := CallF PT GX rkT 59 [.ref 25, .int a1] S
noncomputable def Ke_throwCards_25_c4 (l1 : Int32) (l2 : Int32) (l3 : Int32) (S : pS) : Option (Int32 × pS) := Res PT GX (rkT 59) 59 (pCut cd59 4, [.ref 25, .int l1, .int l2, .int l3], [], S)
noncomputable def Dr_isKept_1 (a1 : Int32) (S : pS) : Option (Int32 × pS) := CallF PT GX rkT 39 [.ref 1, .int a1] S
noncomputable def Ke_bendCard_25 (a1 : Int32) (S : pS) : Option (Int32 × pS) := CallF PT GX rkT 61 [.ref 25, .int a1] S
noncomputable def Ke_findCard_25 (a1 : Int32) (S : pS) : Option (Int32 × pS) := CallF PT GX rkT 62 [.ref 25, .int a1] S
noncomputable def Ke_passYear_25 (S : pS) : Option (Int32 × pS) := CallF PT GX rkT 63 [.ref 25] S
noncomputable def Ke_passYear_25_c2 (l1 : Int32) (S : pS) : Option (Int32 × pS) := Res PT GX (rkT 63) 63 (pCut cd63 2, [.ref 25, .int l1], [], S)
noncomputable def Ke_passYear_25_c78 (l1 : Int32) (S : pS) : Option (Int32 × pS) := Res PT GX (rkT 63) 63 (pCut cd63 78, [.ref 25, .int l1], [], S)
noncomputable def Ta_hasRoom_46 (a1 : Int32) (S : pS) : Option (Int32 × pS) := CallF PT GX rkT 100 [.ref 46, .int a1] S
noncomputable def Ta_append_46 (a1 : Int32) (S : pS) : Option (Int32 × pS) := CallF PT GX rkT 101 [.ref 46, .int a1] S
noncomputable def Ta_append_46_c3 (l1 : Int32) (l2 : Int32) (S : pS) : Option (Int32 × pS) := Res PT GX (rkT 101) 101 (pCut cd101 3, [.ref 46, .int l1, .int l2], [], S)
noncomputable def Re_read_50 (d : Nat) (a1 : Int32) (a2 : Int32) (S : pS) : Option (Int32 × pS) := Res PT GX d 78 (cd78, [.ref 50, .int a1, .int a2, .null, .null], [], S)
noncomputable def Re_read_50_c70 (d : Nat) (l1 : Int32) (l2 : Int32) (l3 : Int32) (l4 : Int32) (S : pS) : Option (Int32 × pS) := Res PT GX d 78 (pCut cd78 70, [.ref 50, .int l1, .int l2, .int l3, .int l4], [], S)
noncomputable def Re_read_50_c146 (d : Nat) (l1 : Int32) (l2 : Int32) (l3 : Int32) (l4 : Int32) (S : pS) : Option (Int32 × pS) := Res PT GX d 78 (pCut cd78 146, [.ref 50, .int l1, .int l2, .int l3, .int l4], [], S)
noncomputable def To_take_3_50 (a1 : Int32) (S : pS) : Option (Int32 × pS) := CallF PT GX rkT 113 [.ref 3, .int a1, .ref 50] S
noncomputable def La_tell_4_1 (a2 : Int32) (a3 : Int32) (S : pS) : Option (Int32 × pS) := CallF PT GX rkT 72 [.ref 4, .ref 1, .int a2, .int a3] S
noncomputable def La_tell_4_1_c3 (l2 : Int32) (l3 : Int32) (l4 : Int32) (S : pS) : Option (Int32 × pS) := Res PT GX (rkT 72) 72 (pCut cd72 3, [.ref 4, .ref 1, .int l2, .int l3, .int l4, .null, .null, .null], [], S)
noncomputable def La_tell_4_1_c70 (l3 : Int32) (l4 : Int32) (l5 : Int32) (S : pS) : Option (Int32 × pS) := Res PT GX (rkT 72) 72 (pCut cd72 70, [.ref 4, .null, .null, .int l3, .int l4, .int l5, .null, .null], [], S)
noncomputable def La_tell_4_1_c126 (l3 : Int32) (l5 : Int32) (l6 : Int32) (S : pS) : Option (Int32 × pS) := Res PT GX (rkT 72) 72 (pCut cd72 126, [.ref 4, .null, .null, .int l3, .null, .int l5, .int l6, .null], [], S)
noncomputable def Dr_read_1 (a1 : Int32) (a2 : Int32) (S : pS) : Option (Int32 × pS) := CallF PT GX rkT 40 [.ref 1, .int a1, .int a2] S
noncomputable def Ro_at_23 (a1 : Int32) (a2 : Int32) (S : pS) : Option (Int32 × pS) := CallF PT GX rkT 97 [.ref 23, .int a1, .int a2] S
noncomputable def Dr_copyFrom_26_1 (S : pS) : Option (Int32 × pS) := CallF PT GX rkT 37 [.ref 26, .ref 1] S
noncomputable def Ke_passYear_28 (S : pS) : Option (Int32 × pS) := CallF PT GX rkT 63 [.ref 28] S
noncomputable def Ke_passYear_28_c2 (l1 : Int32) (S : pS) : Option (Int32 × pS) := Res PT GX (rkT 63) 63 (pCut cd63 2, [.ref 28, .int l1], [], S)
noncomputable def Ke_passYear_28_c78 (l1 : Int32) (S : pS) : Option (Int32 × pS) := Res PT GX (rkT 63) 63 (pCut cd63 78, [.ref 28, .int l1], [], S)
noncomputable def JX_bitCount (a0 : Int32) (S : pS) : Option (Int32 × pS) := CallF PT GX rkT 285 [.int a0] S
noncomputable def Ro_clear_17 (S : pS) : Option (Int32 × pS) := CallF PT GX rkT 96 [.ref 17] S
noncomputable def Ro_add_17 (a1 : Int32) (a2 : Int32) (a3 : Int32) (a4 : Int32) (S : pS) : Option (Int32 × pS) := CallF PT GX rkT 95 [.ref 17, .int a1, .int a2, .int a3, .int a4] S
noncomputable def Da_narrow_61 (S : pS) : Option (Int32 × pS) := CallF PT GX rkT 34 [.ref 61] S
noncomputable def Da_narrow_61_c2 (l1 : Int32) (S : pS) : Option (Int32 × pS) := Res PT GX (rkT 34) 34 (pCut cd34 2, [.ref 61, .int l1, .null], [], S)
noncomputable def Da_narrow_61_c61 (l1 : Int32) (S : pS) : Option (Int32 × pS) := Res PT GX (rkT 34) 34 (pCut cd34 61, [.ref 61, .int l1, .null], [], S)
noncomputable def Da_narrow_61_c69 (l1 : Int32) (l2 : Int32) (S : pS) : Option (Int32 × pS) := Res PT GX (rkT 34) 34 (pCut cd34 69, [.ref 61, .int l1, .int l2], [], S)
noncomputable def Da_narrow_61_c125 (l1 : Int32) (S : pS) : Option (Int32 × pS) := Res PT GX (rkT 34) 34 (pCut cd34 125, [.ref 61, .int l1, .null], [], S)
noncomputable def Ci_seek_64 (a1 : Int32) (S : pS) : Option (Int32 × pS) := CallF PT GX rkT 23 [.ref 64, .int a1] S
noncomputable def Ci_seek_64_c40 (l2 : Int32) (l3 : Int32) (S : pS) : Option (Int32 × pS) := Res PT GX (rkT 23) 23 (pCut cd23 40, [.ref 64, .null, .int l2, .int l3], [], S)
noncomputable def Ci_ledBy_64 (a1 : Int32) (S : pS) : Option (Int32 × pS) := CallF PT GX rkT 25 [.ref 64, .int a1] S
noncomputable def Ci_ledBy_64_c6 (l1 : Int32) (l2 : Int32) (l3 : Int32) (S : pS) : Option (Int32 × pS) := Res PT GX (rkT 25) 25 (pCut cd25 6, [.ref 64, .int l1, .int l2, .int l3, .null, .null], [], S)
noncomputable def Ci_ledBy_64_c15 (l1 : Int32) (l2 : Int32) (l3 : Int32) (l4 : Int32) (S : pS) : Option (Int32 × pS) := Res PT GX (rkT 25) 25 (pCut cd25 15, [.ref 64, .int l1, .int l2, .int l3, .int l4, .null], [], S)
noncomputable def Ci_rootOf_64 (a1 : Int32) (S : pS) : Option (Int32 × pS) := CallF PT GX rkT 26 [.ref 64, .int a1] S
noncomputable def Ci_rootOf_64_c7 (l2 : Int32) (l3 : Int32) (l4 : Int32) (S : pS) : Option (Int32 × pS) := Res PT GX (rkT 26) 26 (pCut cd26 7, [.ref 64, .null, .int l2, .int l3, .int l4, .null], [], S)
noncomputable def Ci_tellers_64 (S : pS) : Option (Int32 × pS) := CallF PT GX rkT 27 [.ref 64] S
noncomputable def Ci_tellers_64_c30 (l1 : Int32) (l2 : Int32) (l3 : Int32) (l4 : Int32) (S : pS) : Option (Int32 × pS) := Res PT GX (rkT 27) 27 (pCut cd27 30, [.ref 64, .int l1, .int l2, .int l3, .int l4], [], S)
noncomputable def Ci_tellers_64_c65 (l1 : Int32) (l2 : Int32) (l3 : Int32) (l4 : Int32) (S : pS) : Option (Int32 × pS) := Res PT GX (rkT 27) 27 (pCut cd27 65, [.ref 64, .int l1, .int l2, .int l3, .int l4], [], S)
noncomputable def C_holdsBit (a0 : Int32) (a1 : Int32) (S : pS) : Option (Int32 × pS) := CallF PT GX rkT 154 [.int a0, .int a1] S
noncomputable def Ci_hearers_64 (a1 : Int32) (a2 : Int32) (S : pS) : Option (Int32 × pS) := CallF PT GX rkT 29 [.ref 64, .int a1, .int a2] S
noncomputable def Ci_hearers_64_c12 (l1 : Int32) (l3 : Int32) (l4 : Int32) (S : pS) : Option (Int32 × pS) := Res PT GX (rkT 29) 29 (pCut cd29 12, [.ref 64, .int l1, .null, .int l3, .int l4], [], S)
noncomputable def Ro_clear_19 (S : pS) : Option (Int32 × pS) := CallF PT GX rkT 96 [.ref 19] S
noncomputable def C_kinds (a0 : Int32) (S : pS) : Option (Int32 × pS) := CallF PT GX rkT 155 [.int a0] S
noncomputable def Ro_add_19 (a1 : Int32) (a2 : Int32) (a3 : Int32) (a4 : Int32) (S : pS) : Option (Int32 × pS) := CallF PT GX rkT 95 [.ref 19, .int a1, .int a2, .int a3, .int a4] S
noncomputable def Ch_choose_67 (a1 : Int32) (S : pS) : Option (Int32 × pS) := CallF PT GX rkT 1 [.ref 67, .int a1] S
noncomputable def Ch_choose_67_c23 (l1 : Int32) (l2 : Int32) (l3 : Int32) (S : pS) : Option (Int32 × pS) := Res PT GX (rkT 1) 1 (pCut cd1 23, [.ref 67, .int l1, .int l2, .int l3, .null], [], S)
noncomputable def Ch_choose_67_c50 (l1 : Int32) (l2 : Int32) (l3 : Int32) (S : pS) : Option (Int32 × pS) := Res PT GX (rkT 1) 1 (pCut cd1 50, [.ref 67, .int l1, .int l2, .int l3, .null], [], S)
noncomputable def Ch_choose_67_c96 (l1 : Int32) (l2 : Int32) (l3 : Int32) (S : pS) : Option (Int32 × pS) := Res PT GX (rkT 1) 1 (pCut cd1 96, [.ref 67, .int l1, .int l2, .int l3, .null], [], S)
noncomputable def Ch_bestOrder_67 (S : pS) : Option (Int32 × pS) := CallF PT GX rkT 6 [.ref 67] S
noncomputable def Ch_bestOrder_67_c4 (l1 : Int32) (l2 : Int32) (S : pS) : Option (Int32 × pS) := Res PT GX (rkT 6) 6 (pCut cd6 4, [.ref 67, .int l1, .int l2], [], S)
noncomputable def Ch_lookedAt_67 (a1 : Int32) (S : pS) : Option (Int32 × pS) := CallF PT GX rkT 7 [.ref 67, .int a1] S
noncomputable def Ch_lookedAt_67_c4 (l1 : Int32) (l2 : Int32) (l3 : Int32) (S : pS) : Option (Int32 × pS) := Res PT GX (rkT 7) 7 (pCut cd7 4, [.ref 67, .int l1, .int l2, .int l3, .null, .null], [], S)
noncomputable def Ch_lookedAt_67_c69 (l1 : Int32) (l2 : Int32) (l3 : Int32) (s0 : Int32) (S : pS) : Option (Int32 × pS) := Res PT GX (rkT 7) 7 (pCut cd7 69, [.ref 67, .int l1, .int l2, .int l3, .null, .null], [.int s0], S)
noncomputable def Ch_fewestApart_67 (S : pS) : Option (Int32 × pS) := CallF PT GX rkT 8 [.ref 67] S
noncomputable def Ch_fewestApart_67_c4 (l1 : Int32) (l2 : Int32) (S : pS) : Option (Int32 × pS) := Res PT GX (rkT 8) 8 (pCut cd8 4, [.ref 67, .int l1, .int l2, .null], [], S)
noncomputable def Ch_fewestApart_67_c31 (l1 : Int32) (l2 : Int32) (s0 : Int32) (S : pS) : Option (Int32 × pS) := Res PT GX (rkT 8) 8 (pCut cd8 31, [.ref 67, .int l1, .int l2, .null], [.int s0], S)
noncomputable def Ch_secondOnes_67 (S : pS) : Option (Int32 × pS) := CallF PT GX rkT 11 [.ref 67] S
noncomputable def Ch_secondOnes_67_c4 (l1 : Int32) (l2 : Int32) (S : pS) : Option (Int32 × pS) := Res PT GX (rkT 11) 11 (pCut cd11 4, [.ref 67, .int l1, .int l2], [], S)
noncomputable def Ch_nearest_67 (a1 : Int32) (S : pS) : Option (Int32 × pS) := CallF PT GX rkT 13 [.ref 67, .int a1] S
noncomputable def Ch_nearest_67_c4 (l1 : Int32) (l2 : Int32) (l3 : Int32) (S : pS) : Option (Int32 × pS) := Res PT GX (rkT 13) 13 (pCut cd13 4, [.ref 67, .int l1, .int l2, .int l3], [], S)
noncomputable def Ch_inCommon_67 (a1 : Int32) (a2 : Int32) (S : pS) : Option (Int32 × pS) := CallF PT GX rkT 14 [.ref 67, .int a1, .int a2] S
noncomputable def Ch_inCommon_67_c5 (l1 : Int32) (l2 : Int32) (l3 : Int32) (l4 : Int32) (S : pS) : Option (Int32 × pS) := Res PT GX (rkT 14) 14 (pCut cd14 5, [.ref 67, .int l1, .int l2, .int l3, .int l4], [], S)
noncomputable def Ro_clear_21 (S : pS) : Option (Int32 × pS) := CallF PT GX rkT 96 [.ref 21] S
noncomputable def C_noteKinds (a0 : Int32) (S : pS) : Option (Int32 × pS) := CallF PT GX rkT 156 [.int a0] S
noncomputable def Ro_add_21 (a1 : Int32) (a2 : Int32) (a3 : Int32) (a4 : Int32) (S : pS) : Option (Int32 × pS) := CallF PT GX rkT 95 [.ref 21, .int a1, .int a2, .int a3, .int a4] S
noncomputable def Ci_writers_64 (S : pS) : Option (Int32 × pS) := CallF PT GX rkT 30 [.ref 64] S
noncomputable def Ci_writers_64_c17 (l1 : Int32) (l2 : Int32) (S : pS) : Option (Int32 × pS) := Res PT GX (rkT 30) 30 (pCut cd30 17, [.ref 64, .int l1, .int l2, .null], [], S)
noncomputable def Ci_askNext_64 (a1 : Int32) (S : pS) : Option (Int32 × pS) := CallF PT GX rkT 32 [.ref 64, .int a1] S
noncomputable def Ci_askNext_64_c22 (l1 : Int32) (l2 : Int32) (l3 : Int32) (l4 : Int32) (l5 : Int32) (S : pS) : Option (Int32 × pS) := Res PT GX (rkT 32) 32 (pCut cd32 22, [.ref 64, .int l1, .int l2, .int l3, .int l4, .int l5, .null, .null], [], S)
noncomputable def Ke_sumOfHolds_25 (S : pS) : Option (Int32 × pS) := CallF PT GX rkT 56 [.ref 25] S
noncomputable def Ke_sumOfHolds_25_c4 (l1 : Int32) (l2 : Int32) (S : pS) : Option (Int32 × pS) := Res PT GX (rkT 56) 56 (pCut cd56 4, [.ref 25, .int l1, .int l2], [], S)
noncomputable def Ke_likeliest_25 (a1 : Int32) (S : pS) : Option (Int32 × pS) := CallF PT GX rkT 55 [.ref 25, .int a1] S
noncomputable def Ke_likeliest_25_c9 (l1 : Int32) (l2 : Int32) (l3 : Int32) (S : pS) : Option (Int32 × pS) := Res PT GX (rkT 55) 55 (pCut cd55 9, [.ref 25, .int l1, .int l2, .int l3, .null], [], S)
noncomputable def Ch_firmToThrow_67 (S : pS) : Option (Int32 × pS) := CallF PT GX rkT 18 [.ref 67] S
noncomputable def Ch_firmToThrow_67_c2 (l1 : Int32) (S : pS) : Option (Int32 × pS) := Res PT GX (rkT 18) 18 (pCut cd18 2, [.ref 67, .int l1], [], S)
noncomputable def Ch_cardsToThrow_67 (a1 : Int32) (S : pS) : Option (Int32 × pS) := CallF PT GX rkT 17 [.ref 67, .int a1] S
noncomputable def Hi_goBack_31_1_23 (S : pS) : Option (Int32 × pS) := CallF PT GX rkT 52 [.ref 31, .ref 1, .ref 23] S
noncomputable def Dr_copyFrom_1_69 (S : pS) : Option (Int32 × pS) := CallF PT GX rkT 37 [.ref 1, .ref 69] S
noncomputable def To_copyFrom_3_71 (S : pS) : Option (Int32 × pS) := CallF PT GX rkT 112 [.ref 3, .ref 71] S
noncomputable def Ro_copyFrom_23_91 (S : pS) : Option (Int32 × pS) := CallF PT GX rkT 98 [.ref 23, .ref 91] S
noncomputable def Dr_copyFrom_69_1 (S : pS) : Option (Int32 × pS) := CallF PT GX rkT 37 [.ref 69, .ref 1] S
noncomputable def To_copyFrom_71_3 (S : pS) : Option (Int32 × pS) := CallF PT GX rkT 112 [.ref 71, .ref 3] S
noncomputable def Ro_copyFrom_91_23 (S : pS) : Option (Int32 × pS) := CallF PT GX rkT 98 [.ref 91, .ref 23] S
noncomputable def Hi_dropOldest_31 (S : pS) : Option (Int32 × pS) := CallF PT GX rkT 51 [.ref 31] S
noncomputable def Hi_dropOldest_31_c9 (l1 : Nat) (l2 : Int32) (S : pS) : Option (Int32 × pS) := Res PT GX (rkT 51) 51 (pCut cd51 9, [.ref 31, .ref l1, .int l2], [], S)
noncomputable def Ke_reaches_25 (a1 : Int32) (S : pS) : Option (Int32 × pS) := CallF PT GX rkT 57 [.ref 25, .int a1] S
noncomputable def Ke_enter_25 (a1 : Int32) (a2 : Int32) (a3 : Int32) (S : pS) : Option (Int32 × pS) := CallF PT GX rkT 54 [.ref 25, .int a1, .int a2, .int a3] S
noncomputable def Dr_wear_1 (a1 : Int32) (a2 : Int32) (S : pS) : Option (Int32 × pS) := CallF PT GX rkT 44 [.ref 1, .int a1, .int a2] S
noncomputable def Ke_throwLeast_25 (S : pS) : Option (Int32 × pS) := CallF PT GX rkT 60 [.ref 25] S
noncomputable def Ke_throwLeast_25_c6 (l1 : Int32) (l2 : Int32) (l3 : Int32) (S : pS) : Option (Int32 × pS) := Res PT GX (rkT 60) 60 (pCut cd60 6, [.ref 25, .int l1, .int l2, .int l3, .null], [], S)
noncomputable def Ro_at_15 (a1 : Int32) (a2 : Int32) (S : pS) : Option (Int32 × pS) := CallF PT GX rkT 97 [.ref 15, .int a1, .int a2] S
noncomputable def Ke_carryOut_25 (a1 : Int32) (a2 : Int32) (S : pS) : Option (Int32 × pS) := CallF PT GX rkT 64 [.ref 25, .int a1, .int a2] S
noncomputable def Ke_wantTrade_25 (S : pS) : Option (Int32 × pS) := CallF PT GX rkT 65 [.ref 25] S
noncomputable def Ke_wantTrade_25_c29 (s0 : Int32) (S : pS) : Option (Int32 × pS) := Res PT GX (rkT 65) 65 (pCut cd65 29, [.ref 25, .null, .null], [.int s0], S)
noncomputable def Ke_wearCard_25 (a1 : Int32) (S : pS) : Option (Int32 × pS) := CallF PT GX rkT 66 [.ref 25, .int a1] S
noncomputable def La_clear_51 (S : pS) : Option (Int32 × pS) := CallF PT GX rkT 69 [.ref 51] S
noncomputable def Ro_clear_59 (S : pS) : Option (Int32 × pS) := CallF PT GX rkT 96 [.ref 59] S
noncomputable def Ta_scan_46 (S : pS) : Option (Int32 × pS) := CallF PT GX rkT 102 [.ref 46] S
noncomputable def Ta_scan_46_c9 (l1 : Int32) (l2 : Int32) (S : pS) : Option (Int32 × pS) := Res PT GX (rkT 102) 102 (pCut cd102 9, [.ref 46, .int l1, .int l2, .null, .null], [], S)
noncomputable def Ta_scan_46_c135 (S : pS) : Option (Int32 × pS) := Res PT GX (rkT 102) 102 (pCut cd102 135, [.ref 46, .null, .null, .null, .null], [], S)
noncomputable def Re_planLine_50 (a1 : Int32) (S : pS) : Option (Int32 × pS) := CallF PT GX rkT 86 [.ref 50, .int a1] S
noncomputable def Re_planLine_50_c71 (l1 : Int32) (l2 : Int32) (l3 : Int32) (s0 : Int32) (S : pS) : Option (Int32 × pS) := Res PT GX (rkT 86) 86 (pCut cd86 71, [.ref 50, .int l1, .int l2, .int l3, .null, .null], [.int s0], S)
noncomputable def Re_planLine_50_c100 (l2 : Int32) (l3 : Int32) (l4 : Int32) (s0 : Int32) (S : pS) : Option (Int32 × pS) := Res PT GX (rkT 86) 86 (pCut cd86 100, [.ref 50, .null, .int l2, .int l3, .int l4, .null], [.int s0], S)
noncomputable def Re_calledLine_50 (S : pS) : Option (Int32 × pS) := CallF PT GX rkT 85 [.ref 50] S
noncomputable def Re_metLine_50 (S : pS) : Option (Int32 × pS) := CallF PT GX rkT 84 [.ref 50] S
noncomputable def Re_lawLine_50 (d : Nat) (S : pS) : Option (Int32 × pS) := Res PT GX d 87 (cd87, [.ref 50, .null, .null, .null], [], S)
noncomputable def Re_lawLine_50_c71 (d : Nat) (l1 : Int32) (l2 : Int32) (l3 : Int32) (S : pS) : Option (Int32 × pS) := Res PT GX d 87 (pCut cd87 71, [.ref 50, .int l1, .int l2, .int l3], [], S)
noncomputable def Ro_copyFrom_15_59 (S : pS) : Option (Int32 × pS) := CallF PT GX rkT 98 [.ref 15, .ref 59] S
noncomputable def To_takeCalled_3_59 (S : pS) : Option (Int32 × pS) := CallF PT GX rkT 115 [.ref 3, .ref 59] S
noncomputable def To_takeCalled_3_59_c2 (l2 : Int32) (S : pS) : Option (Int32 × pS) := Res PT GX (rkT 115) 115 (pCut cd115 2, [.ref 3, .ref 59, .int l2, .null], [], S)
noncomputable def To_takeCalled_3_59_c31 (l2 : Int32) (S : pS) : Option (Int32 × pS) := Res PT GX (rkT 115) 115 (pCut cd115 31, [.ref 3, .ref 59, .int l2, .null], [], S)
noncomputable def To_takeMet_3_59 (S : pS) : Option (Int32 × pS) := CallF PT GX rkT 114 [.ref 3, .ref 59] S
noncomputable def To_takeMet_3_59_c2 (l2 : Int32) (S : pS) : Option (Int32 × pS) := Res PT GX (rkT 114) 114 (pCut cd114 2, [.ref 3, .ref 59, .int l2, .null], [], S)
noncomputable def To_takeMet_3_59_c23 (l2 : Int32) (S : pS) : Option (Int32 × pS) := Res PT GX (rkT 114) 114 (pCut cd114 23, [.ref 3, .ref 59, .int l2, .null], [], S)
noncomputable def La_copyFrom_4_51 (S : pS) : Option (Int32 × pS) := CallF PT GX rkT 68 [.ref 4, .ref 51] S
noncomputable def La_run_4 (a1 : Int32) (a2 : Int32) (S : pS) : Option (Int32 × pS) := CallF PT GX rkT 75 [.ref 4, .int a1, .int a2] S
noncomputable def La_run_4_c5 (l2 : Int32) (l3 : Int32) (l4 : Int32) (S : pS) : Option (Int32 × pS) := Res PT GX (rkT 75) 75 (pCut cd75 5, [.ref 4, .null, .int l2, .int l3, .int l4, .null], [], S)
noncomputable def La_run_4_c93 (l2 : Int32) (l3 : Int32) (l4 : Int32) (l5 : Int32) (S : pS) : Option (Int32 × pS) := Res PT GX (rkT 75) 75 (pCut cd75 93, [.ref 4, .null, .int l2, .int l3, .int l4, .int l5], [], S)
noncomputable def La_run_4_c44 (l2 : Int32) (l3 : Int32) (l4 : Int32) (l5 : Int32) (S : pS) : Option (Int32 × pS) := Res PT GX (rkT 75) 75 (pCut cd75 44, [.ref 4, .null, .int l2, .int l3, .int l4, .int l5], [], S)
noncomputable def La_unlessTold (a0 : Int32) (a1 : Int32) (S : pS) : Option (Int32 × pS) := CallF PT GX rkT 73 [.int a0, .int a1] S
noncomputable def La_held (a0 : Int32) (a1 : Int32) (S : pS) : Option (Int32 × pS) := CallF PT GX rkT 74 [.int a0, .int a1] S
noncomputable def La_held_c23 (l1 : Int32) (s0 : Int32) (S : pS) : Option (Int32 × pS) := Res PT GX (rkT 74) 74 (pCut cd74 23, [.null, .int l1, .null], [.int s0], S)
noncomputable def Ke_carryOut_28 (a1 : Int32) (a2 : Int32) (S : pS) : Option (Int32 × pS) := CallF PT GX rkT 64 [.ref 28, .int a1, .int a2] S
noncomputable def Ke_wantTrade_28 (S : pS) : Option (Int32 × pS) := CallF PT GX rkT 65 [.ref 28] S
noncomputable def Ke_wantTrade_28_c29 (s0 : Int32) (S : pS) : Option (Int32 × pS) := Res PT GX (rkT 65) 65 (pCut cd65 29, [.ref 28, .null, .null], [.int s0], S)
noncomputable def Dr_isKept_26 (a1 : Int32) (S : pS) : Option (Int32 × pS) := CallF PT GX rkT 39 [.ref 26, .int a1] S
noncomputable def Ke_wearCard_28 (a1 : Int32) (S : pS) : Option (Int32 × pS) := CallF PT GX rkT 66 [.ref 28, .int a1] S
noncomputable def Ro_at_17 (a1 : Int32) (a2 : Int32) (S : pS) : Option (Int32 × pS) := CallF PT GX rkT 97 [.ref 17, .int a1, .int a2] S
noncomputable def Da_order_61 (a1 : Int32) (a2 : Int32) (S : pS) : Option (Int32 × pS) := CallF PT GX rkT 35 [.ref 61, .int a1, .int a2] S
noncomputable def Ci_learn_64 (S : pS) : Option (Int32 × pS) := CallF PT GX rkT 20 [.ref 64] S
noncomputable def Ci_learn_64_c2 (l1 : Int32) (S : pS) : Option (Int32 × pS) := Res PT GX (rkT 20) 20 (pCut cd20 2, [.ref 64, .int l1, .null, .null], [], S)
noncomputable def Ci_learn_64_c25 (l1 : Int32) (l2 : Int32) (S : pS) : Option (Int32 × pS) := Res PT GX (rkT 20) 20 (pCut cd20 25, [.ref 64, .int l1, .int l2, .null], [], S)
noncomputable def Ci_measure_64 (a1 : Int32) (S : pS) : Option (Int32 × pS) := CallF PT GX rkT 22 [.ref 64, .int a1] S
noncomputable def Ci_measure_64_c2 (l1 : Int32) (l2 : Int32) (S : pS) : Option (Int32 × pS) := Res PT GX (rkT 22) 22 (pCut cd22 2, [.ref 64, .int l1, .int l2, .null, .null, .null], [], S)
noncomputable def Ci_measure_64_c30 (l2 : Int32) (l3 : Int32) (l4 : Int32) (S : pS) : Option (Int32 × pS) := Res PT GX (rkT 22) 22 (pCut cd22 30, [.ref 64, .null, .int l2, .int l3, .int l4, .null], [], S)
noncomputable def Ci_measure_64_c40 (l2 : Int32) (l3 : Int32) (l4 : Int32) (l5 : Int32) (S : pS) : Option (Int32 × pS) := Res PT GX (rkT 22) 22 (pCut cd22 40, [.ref 64, .null, .int l2, .int l3, .int l4, .int l5], [], S)
noncomputable def Dr_peopleOn_1 (a1 : Int32) (S : pS) : Option (Int32 × pS) := CallF PT GX rkT 46 [.ref 1, .int a1] S
noncomputable def Dr_peopleOn_1_c4 (l1 : Int32) (l2 : Int32) (l3 : Int32) (S : pS) : Option (Int32 × pS) := Res PT GX (rkT 46) 46 (pCut cd46 4, [.ref 1, .int l1, .int l2, .int l3], [], S)
noncomputable def Ci_firstOnTheWay_64 (S : pS) : Option (Int32 × pS) := CallF PT GX rkT 24 [.ref 64] S
noncomputable def Ci_firstOnTheWay_64_c10 (l1 : Int32) (S : pS) : Option (Int32 × pS) := Res PT GX (rkT 24) 24 (pCut cd24 10, [.ref 64, .int l1], [], S)
noncomputable def Ci_isHeardByAll_64 (a1 : Int32) (a2 : Int32) (S : pS) : Option (Int32 × pS) := CallF PT GX rkT 28 [.ref 64, .int a1, .int a2] S
noncomputable def Ci_besideSome_64 (a1 : Int32) (S : pS) : Option (Int32 × pS) := CallF PT GX rkT 21 [.ref 64, .int a1] S
noncomputable def Ci_besideSome_64_c4 (l1 : Int32) (l2 : Int32) (l3 : Int32) (S : pS) : Option (Int32 × pS) := Res PT GX (rkT 21) 21 (pCut cd21 4, [.ref 64, .int l1, .int l2, .int l3], [], S)
noncomputable def Ch_tryCard_67 (a1 : Int32) (a2 : Int32) (S : pS) : Option (Int32 × pS) := CallF PT GX rkT 2 [.ref 67, .int a1, .int a2] S
noncomputable def Ch_tryCard_67_c14 (l1 : Int32) (l2 : Int32) (l3 : Int32) (l4 : Int32) (S : pS) : Option (Int32 × pS) := Res PT GX (rkT 2) 2 (pCut cd2 14, [.ref 67, .int l1, .int l2, .int l3, .int l4, .null, .null], [], S)
noncomputable def Ch_tryCard_67_c82 (l1 : Int32) (l2 : Int32) (l3 : Int32) (l4 : Int32) (l5 : Int32) (l6 : Int32) (S : pS) : Option (Int32 × pS) := Res PT GX (rkT 2) 2 (pCut cd2 82, [.ref 67, .int l1, .int l2, .int l3, .int l4, .int l5, .int l6], [], S)
noncomputable def Ch_takeIfBetter_67 (a1 : Int32) (a2 : Int32) (S : pS) : Option (Int32 × pS) := CallF PT GX rkT 3 [.ref 67, .int a1, .int a2] S
noncomputable def Ch_takeIfBetter_67_c27 (l1 : Int32) (l2 : Int32) (S : pS) : Option (Int32 × pS) := Res PT GX (rkT 3) 3 (pCut cd3 27, [.ref 67, .int l1, .int l2], [], S)
noncomputable def Ro_at_19 (a1 : Int32) (a2 : Int32) (S : pS) : Option (Int32 × pS) := CallF PT GX rkT 97 [.ref 19, .int a1, .int a2] S
noncomputable def Ch_tellsApart_67 (a1 : Int32) (S : pS) : Option (Int32 × pS) := CallF PT GX rkT 9 [.ref 67, .int a1] S
noncomputable def Ch_tellsApart_67_c2 (l1 : Int32) (l2 : Int32) (S : pS) : Option (Int32 × pS) := Res PT GX (rkT 9) 9 (pCut cd9 2, [.ref 67, .int l1, .int l2, .null], [], S)
noncomputable def Ch_tellsApart_67_c15 (l1 : Int32) (l2 : Int32) (l3 : Int32) (S : pS) : Option (Int32 × pS) := Res PT GX (rkT 9) 9 (pCut cd9 15, [.ref 67, .int l1, .int l2, .int l3], [], S)
noncomputable def Ch_hasSooner_67 (a1 : Int32) (S : pS) : Option (Int32 × pS) := CallF PT GX rkT 12 [.ref 67, .int a1] S
noncomputable def Ch_hasSooner_67_c12 (l1 : Int32) (l2 : Int32) (l3 : Int32) (S : pS) : Option (Int32 × pS) := Res PT GX (rkT 12) 12 (pCut cd12 12, [.ref 67, .int l1, .int l2, .int l3, .null], [], S)
noncomputable def Ro_at_21 (a1 : Int32) (a2 : Int32) (S : pS) : Option (Int32 × pS) := CallF PT GX rkT 97 [.ref 21, .int a1, .int a2] S
noncomputable def Ci_peopleFor_64 (a1 : Int32) (a2 : Int32) (S : pS) : Option (Int32 × pS) := CallF PT GX rkT 31 [.ref 64, .int a1, .int a2] S
noncomputable def Ch_pile_67 (a1 : Int32) (S : pS) : Option (Int32 × pS) := CallF PT GX rkT 15 [.ref 67, .int a1] S
noncomputable def Ch_leftToLose_67 (a1 : Int32) (S : pS) : Option (Int32 × pS) := CallF PT GX rkT 16 [.ref 67, .int a1] S
noncomputable def Ch_leftToLose_67_c4 (l1 : Int32) (l2 : Int32) (l3 : Int32) (S : pS) : Option (Int32 × pS) := Res PT GX (rkT 16) 16 (pCut cd16 4, [.ref 67, .int l1, .int l2, .int l3], [], S)
noncomputable def La_copyFrom_4_72 (S : pS) : Option (Int32 × pS) := CallF PT GX rkT 68 [.ref 4, .ref 72] S
noncomputable def Ro_copyFrom_15_83 (S : pS) : Option (Int32 × pS) := CallF PT GX rkT 98 [.ref 15, .ref 83] S
noncomputable def Ro_copyFrom_17_85 (S : pS) : Option (Int32 × pS) := CallF PT GX rkT 98 [.ref 17, .ref 85] S
noncomputable def Ro_copyFrom_19_87 (S : pS) : Option (Int32 × pS) := CallF PT GX rkT 98 [.ref 19, .ref 87] S
noncomputable def Ro_copyFrom_21_89 (S : pS) : Option (Int32 × pS) := CallF PT GX rkT 98 [.ref 21, .ref 89] S
noncomputable def La_copyFrom_72_4 (S : pS) : Option (Int32 × pS) := CallF PT GX rkT 68 [.ref 72, .ref 4] S
noncomputable def Ro_copyFrom_83_15 (S : pS) : Option (Int32 × pS) := CallF PT GX rkT 98 [.ref 83, .ref 15] S
noncomputable def Ro_copyFrom_85_17 (S : pS) : Option (Int32 × pS) := CallF PT GX rkT 98 [.ref 85, .ref 17] S
noncomputable def Ro_copyFrom_87_19 (S : pS) : Option (Int32 × pS) := CallF PT GX rkT 98 [.ref 87, .ref 19] S
noncomputable def Ro_copyFrom_89_21 (S : pS) : Option (Int32 × pS) := CallF PT GX rkT 98 [.ref 89, .ref 21] S
noncomputable def Dr_draw_1 (a1 : Int32) (S : pS) : Option (Int32 × pS) := CallF PT GX rkT 47 [.ref 1, .int a1] S
noncomputable def Ro_add_23 (a1 : Int32) (a2 : Int32) (a3 : Int32) (a4 : Int32) (S : pS) : Option (Int32 × pS) := CallF PT GX rkT 95 [.ref 23, .int a1, .int a2, .int a3, .int a4] S
noncomputable def Dr_drop_1 (a1 : Int32) (S : pS) : Option (Int32 × pS) := CallF PT GX rkT 43 [.ref 1, .int a1] S
noncomputable def Ta_isLetter (a0 : Int32) (S : pS) : Option (Int32 × pS) := CallF PT GX rkT 104 [.int a0] S
noncomputable def Ta_isLetter_c12 (l0 : Int32) (S : pS) : Option (Int32 × pS) := Res PT GX (rkT 104) 104 (pCut cd104 12, [.int l0], [], S)
noncomputable def Ta_isDigit (a0 : Int32) (S : pS) : Option (Int32 × pS) := CallF PT GX rkT 105 [.int a0] S
noncomputable def Ta_put_46 (a1 : Int32) (a2 : Int32) (S : pS) : Option (Int32 × pS) := CallF PT GX rkT 103 [.ref 46, .int a1, .int a2] S
noncomputable def Ta_pastDigits_46 (a1 : Int32) (S : pS) : Option (Int32 × pS) := CallF PT GX rkT 107 [.ref 46, .int a1] S
noncomputable def Ta_pastDigits_46_c2 (l2 : Int32) (S : pS) : Option (Int32 × pS) := Res PT GX (rkT 107) 107 (pCut cd107 2, [.ref 46, .null, .int l2], [], S)
noncomputable def Ta_numberAt_46 (a1 : Int32) (a2 : Int32) (S : pS) : Option (Int32 × pS) := CallF PT GX rkT 110 [.ref 46, .int a1, .int a2] S
noncomputable def Ta_numberAt_46_c14 (l2 : Int32) (l3 : Int32) (l4 : Int32) (S : pS) : Option (Int32 × pS) := Res PT GX (rkT 110) 110 (pCut cd110 14, [.ref 46, .null, .int l2, .int l3, .int l4], [], S)
noncomputable def Ta_pastLetters_46 (a1 : Int32) (S : pS) : Option (Int32 × pS) := CallF PT GX rkT 106 [.ref 46, .int a1] S
noncomputable def Ta_pastLetters_46_c2 (l2 : Int32) (S : pS) : Option (Int32 × pS) := Res PT GX (rkT 106) 106 (pCut cd106 2, [.ref 46, .null, .int l2], [], S)
noncomputable def Ta_wordAt_46 (a1 : Int32) (a2 : Int32) (S : pS) : Option (Int32 × pS) := CallF PT GX rkT 108 [.ref 46, .int a1, .int a2] S
noncomputable def Ta_wordAt_46_c12 (l1 : Int32) (l2 : Int32) (l3 : Int32) (S : pS) : Option (Int32 × pS) := Res PT GX (rkT 108) 108 (pCut cd108 12, [.ref 46, .int l1, .int l2, .int l3], [], S)
noncomputable def Re_opens_50 (a1 : Int32) (a2 : Int32) (S : pS) : Option (Int32 × pS) := CallF PT GX rkT 82 [.ref 50, .int a1, .int a2] S
noncomputable def Re_passesNumber_50 (a1 : Int32) (a2 : Int32) (S : pS) : Option (Int32 × pS) := CallF PT GX rkT 83 [.ref 50, .int a1, .int a2] S
noncomputable def Re_fails_50 (a1 : Int32) (S : pS) : Option (Int32 × pS) := CallF PT GX rkT 80 [.ref 50, .int a1] S
noncomputable def Re_advance_50 (S : pS) : Option (Int32 × pS) := CallF PT GX rkT 79 [.ref 50] S
noncomputable def Re_advance_50_c20 (S : pS) : Option (Int32 × pS) := Res PT GX (rkT 79) 79 (pCut cd79 20, [.ref 50], [], S)
noncomputable def Ro_add_59 (a1 : Int32) (a2 : Int32) (a3 : Int32) (a4 : Int32) (S : pS) : Option (Int32 × pS) := CallF PT GX rkT 95 [.ref 59, .int a1, .int a2, .int a3, .int a4] S
noncomputable def Re_passes_50 (a1 : Int32) (S : pS) : Option (Int32 × pS) := CallF PT GX rkT 81 [.ref 50, .int a1] S
noncomputable def Re_sum_50 (S : pS) : Option (Int32 × pS) := CallF PT GX rkT 90 [.ref 50] S
noncomputable def Re_sum_50_c14 (l1 : Int32) (l2 : Int32) (S : pS) : Option (Int32 × pS) := Res PT GX (rkT 90) 90 (pCut cd90 14, [.ref 50, .int l1, .int l2, .null, .null], [], S)
noncomputable def Re_sum_50_c110 (l1 : Int32) (S : pS) : Option (Int32 × pS) := Res PT GX (rkT 90) 90 (pCut cd90 110, [.ref 50, .int l1, .null, .null, .null], [], S)
noncomputable def Re_sum_50_c53 (l1 : Int32) (l2 : Int32) (l3 : Int32) (s0 : Int32) (S : pS) : Option (Int32 × pS) := Res PT GX (rkT 90) 90 (pCut cd90 53, [.ref 50, .int l1, .int l2, .int l3, .null], [.int s0], S)
noncomputable def Re_sum_50_c67 (l1 : Int32) (l2 : Int32) (l3 : Int32) (l4 : Int32) (S : pS) : Option (Int32 × pS) := Res PT GX (rkT 90) 90 (pCut cd90 67, [.ref 50, .int l1, .int l2, .int l3, .int l4], [], S)
noncomputable def Re_sum_50_c83 (l1 : Int32) (l2 : Int32) (l3 : Int32) (l4 : Int32) (s0 : Int32) (S : pS) : Option (Int32 × pS) := Res PT GX (rkT 90) 90 (pCut cd90 83, [.ref 50, .int l1, .int l2, .int l3, .int l4], [.int s0, .ref 50], S)
noncomputable def Re_either_50 (d : Nat) (a1 : Int32) (S : pS) : Option (Int32 × pS) := Res PT GX d 88 (cd88, [.ref 50, .int a1, .null, .null, .null], [], S)
noncomputable def Re_either_50_c14 (d : Nat) (l1 : Int32) (l2 : Int32) (l3 : Int32) (S : pS) : Option (Int32 × pS) := Res PT GX d 88 (pCut cd88 14, [.ref 50, .int l1, .int l2, .int l3, .null], [], S)
noncomputable def Re_either_50_c41 (d : Nat) (l1 : Int32) (l2 : Int32) (l3 : Int32) (S : pS) : Option (Int32 × pS) := Res PT GX d 88 (pCut cd88 41, [.ref 50, .int l1, .int l2, .int l3, .null], [], S)
noncomputable def Re_either_50_c123 (d : Nat) (l2 : Int32) (S : pS) : Option (Int32 × pS) := Res PT GX d 88 (pCut cd88 123, [.ref 50, .null, .int l2, .null, .null], [], S)
noncomputable def Re_either_50_c69 (d : Nat) (l1 : Int32) (l2 : Int32) (l3 : Int32) (l4 : Int32) (S : pS) : Option (Int32 × pS) := Res PT GX d 88 (pCut cd88 69, [.ref 50, .int l1, .int l2, .int l3, .int l4], [], S)
noncomputable def Re_either_50_c83 (d : Nat) (l1 : Int32) (l3 : Int32) (l4 : Int32) (s0 : Int32) (s1 : Int32) (S : pS) : Option (Int32 × pS) := Res PT GX d 88 (pCut cd88 83, [.ref 50, .int l1, .null, .int l3, .int l4], [.int s0, .int s1], S)
noncomputable def La_addLine_51 (a1 : Int32) (a2 : Int32) (a3 : Int32) (S : pS) : Option (Int32 × pS) := CallF PT GX rkT 71 [.ref 51, .int a1, .int a2, .int a3] S
noncomputable def Ro_at_59 (a1 : Int32) (a2 : Int32) (S : pS) : Option (Int32 × pS) := CallF PT GX rkT 97 [.ref 59, .int a1, .int a2] S
noncomputable def La_joined (a0 : Int32) (a1 : Int32) (a2 : Int32) (S : pS) : Option (Int32 × pS) := CallF PT GX rkT 76 [.int a0, .int a1, .int a2] S
noncomputable def Ke_throwCards_28 (a1 : Int32) (S : pS) : Option (Int32 × pS) := CallF PT GX rkT 59 [.ref 28, .int a1] S
noncomputable def Ke_throwCards_28_c4 (l1 : Int32) (l2 : Int32) (l3 : Int32) (S : pS) : Option (Int32 × pS) := Res PT GX (rkT 59) 59 (pCut cd59 4, [.ref 28, .int l1, .int l2, .int l3], [], S)
noncomputable def Ke_ringPerson_28 (a1 : Int32) (S : pS) : Option (Int32 × pS) := CallF PT GX rkT 58 [.ref 28, .int a1] S
noncomputable def Ke_ringPerson_28_c37 (l2 : Int32) (l3 : Int32) (s0 : Int32) (S : pS) : Option (Int32 × pS) := Res PT GX (rkT 58) 58 (pCut cd58 37, [.ref 28, .null, .int l2, .int l3], [.int s0, .ref 28], S)
noncomputable def Dr_has_26 (a1 : Int32) (S : pS) : Option (Int32 × pS) := CallF PT GX rkT 38 [.ref 26, .int a1] S
noncomputable def Ke_bendCard_28 (a1 : Int32) (S : pS) : Option (Int32 × pS) := CallF PT GX rkT 61 [.ref 28, .int a1] S
noncomputable def Ke_findCard_28 (a1 : Int32) (S : pS) : Option (Int32 × pS) := CallF PT GX rkT 62 [.ref 28, .int a1] S
noncomputable def Dr_draw_26 (a1 : Int32) (S : pS) : Option (Int32 × pS) := CallF PT GX rkT 47 [.ref 26, .int a1] S
noncomputable def Dr_keptWith_26 (a1 : Int32) (a2 : Int32) (S : pS) : Option (Int32 × pS) := CallF PT GX rkT 45 [.ref 26, .int a1, .int a2] S
noncomputable def Dr_keptWith_26_c5 (l1 : Int32) (l2 : Int32) (l3 : Int32) (l4 : Int32) (S : pS) : Option (Int32 × pS) := Res PT GX (rkT 45) 45 (pCut cd45 5, [.ref 26, .int l1, .int l2, .int l3, .int l4], [], S)
noncomputable def Ke_likeliest_28 (a1 : Int32) (S : pS) : Option (Int32 × pS) := CallF PT GX rkT 55 [.ref 28, .int a1] S
noncomputable def Ke_likeliest_28_c9 (l1 : Int32) (l2 : Int32) (l3 : Int32) (S : pS) : Option (Int32 × pS) := Res PT GX (rkT 55) 55 (pCut cd55 9, [.ref 28, .int l1, .int l2, .int l3, .null], [], S)
noncomputable def Ke_enter_28 (a1 : Int32) (a2 : Int32) (a3 : Int32) (S : pS) : Option (Int32 × pS) := CallF PT GX rkT 54 [.ref 28, .int a1, .int a2, .int a3] S
noncomputable def Ke_reaches_28 (a1 : Int32) (S : pS) : Option (Int32 × pS) := CallF PT GX rkT 57 [.ref 28, .int a1] S
noncomputable def Dr_read_26 (a1 : Int32) (a2 : Int32) (S : pS) : Option (Int32 × pS) := CallF PT GX rkT 40 [.ref 26, .int a1, .int a2] S
noncomputable def La_tell_4_26 (a2 : Int32) (a3 : Int32) (S : pS) : Option (Int32 × pS) := CallF PT GX rkT 72 [.ref 4, .ref 26, .int a2, .int a3] S
noncomputable def La_tell_4_26_c3 (l2 : Int32) (l3 : Int32) (l4 : Int32) (S : pS) : Option (Int32 × pS) := Res PT GX (rkT 72) 72 (pCut cd72 3, [.ref 4, .ref 26, .int l2, .int l3, .int l4, .null, .null, .null], [], S)
noncomputable def La_tell_4_26_c70 (l3 : Int32) (l4 : Int32) (l5 : Int32) (S : pS) : Option (Int32 × pS) := Res PT GX (rkT 72) 72 (pCut cd72 70, [.ref 4, .null, .null, .int l3, .int l4, .int l5, .null, .null], [], S)
noncomputable def La_tell_4_26_c126 (l3 : Int32) (l5 : Int32) (l6 : Int32) (S : pS) : Option (Int32 × pS) := Res PT GX (rkT 72) 72 (pCut cd72 126, [.ref 4, .null, .null, .int l3, .null, .int l5, .int l6, .null], [], S)
noncomputable def Dr_wear_26 (a1 : Int32) (a2 : Int32) (S : pS) : Option (Int32 × pS) := CallF PT GX rkT 44 [.ref 26, .int a1, .int a2] S
noncomputable def Dr_drop_26 (a1 : Int32) (S : pS) : Option (Int32 × pS) := CallF PT GX rkT 43 [.ref 26, .int a1] S
noncomputable def Ch_questionsFor_67 (a1 : Int32) (S : pS) : Option (Int32 × pS) := CallF PT GX rkT 5 [.ref 67, .int a1] S
noncomputable def Ch_questionsFor_67_c4 (l1 : Int32) (l2 : Int32) (l3 : Int32) (S : pS) : Option (Int32 × pS) := Res PT GX (rkT 5) 5 (pCut cd5 4, [.ref 67, .int l1, .int l2, .int l3], [], S)
noncomputable def Ch_isLess (a0 : Int32) (a1 : Int32) (S : pS) : Option (Int32 × pS) := CallF PT GX rkT 4 [.int a0, .int a1] S
noncomputable def Ch_isAlike_67 (a1 : Int32) (a2 : Int32) (a3 : Int32) (S : pS) : Option (Int32 × pS) := CallF PT GX rkT 10 [.ref 67, .int a1, .int a2, .int a3] S
noncomputable def Ch_isAlike_67_c3 (l1 : Int32) (l2 : Int32) (l3 : Int32) (l4 : Int32) (S : pS) : Option (Int32 × pS) := Res PT GX (rkT 10) 10 (pCut cd10 3, [.ref 67, .int l1, .int l2, .int l3, .int l4], [], S)
noncomputable def Ta_isWord_46 (a1 : Int32) (a2 : Int32) (a3 : Int32) (S : pS) : Option (Int32 × pS) := CallF PT GX rkT 109 [.ref 46, .int a1, .int a2, .int a3] S
noncomputable def Ta_isWord_46_c3 (l1 : Int32) (l2 : Int32) (l3 : Int32) (l4 : Int32) (S : pS) : Option (Int32 × pS) := Res PT GX (rkT 109) 109 (pCut cd109 3, [.ref 46, .int l1, .int l2, .int l3, .int l4, .null], [], S)
noncomputable def Ta_isWord_46_c32 (l1 : Int32) (l2 : Int32) (l3 : Int32) (l4 : Int32) (s0 : Int32) (S : pS) : Option (Int32 × pS) := Res PT GX (rkT 109) 109 (pCut cd109 32, [.ref 46, .int l1, .int l2, .int l3, .int l4, .null], [.int s0], S)
noncomputable def Re_unit_50 (a1 : Int32) (S : pS) : Option (Int32 × pS) := CallF PT GX rkT 93 [.ref 50, .int a1] S
noncomputable def Re_unit_50_c15 (l1 : Int32) (s0 : Int32) (S : pS) : Option (Int32 × pS) := Res PT GX (rkT 93) 93 (pCut cd93 15, [.ref 50, .int l1, .null, .null], [.int s0], S)
noncomputable def Re_unit_50_c41 (l1 : Int32) (l2 : Int32) (s0 : Int32) (S : pS) : Option (Int32 × pS) := Res PT GX (rkT 93) 93 (pCut cd93 41, [.ref 50, .int l1, .int l2, .null], [.int s0], S)
noncomputable def Re_unit_50_c60 (l1 : Int32) (S : pS) : Option (Int32 × pS) := Res PT GX (rkT 93) 93 (pCut cd93 60, [.ref 50, .int l1, .null, .null], [], S)
noncomputable def Re_unit_50_c80 (S : pS) : Option (Int32 × pS) := Res PT GX (rkT 93) 93 (pCut cd93 80, [.ref 50, .null, .null, .null], [], S)
noncomputable def Re_isJoint (a0 : Int32) (S : pS) : Option (Int32 × pS) := CallF PT GX rkT 91 [.int a0] S
noncomputable def Re_addIfSign_50 (a1 : Int32) (S : pS) : Option (Int32 × pS) := CallF PT GX rkT 92 [.ref 50, .int a1] S
noncomputable def La_add_51 (a1 : Int32) (S : pS) : Option (Int32 × pS) := CallF PT GX rkT 70 [.ref 51, .int a1] S
noncomputable def Re_condition_50 (d : Nat) (a1 : Int32) (S : pS) : Option (Int32 × pS) := Res PT GX d 89 (cd89, [.ref 50, .int a1, .null, .null], [], S)
noncomputable def Re_condition_50_c18 (d : Nat) (l1 : Int32) (l2 : Int32) (S : pS) : Option (Int32 × pS) := Res PT GX d 89 (pCut cd89 18, [.ref 50, .int l1, .int l2, .null], [], S)
noncomputable def Re_condition_50_c127 (d : Nat) (l3 : Int32) (S : pS) : Option (Int32 × pS) := Res PT GX d 89 (pCut cd89 127, [.ref 50, .null, .null, .int l3], [], S)
noncomputable def Ke_throwLeast_28 (S : pS) : Option (Int32 × pS) := CallF PT GX rkT 60 [.ref 28] S
noncomputable def Ke_throwLeast_28_c6 (l1 : Int32) (l2 : Int32) (l3 : Int32) (S : pS) : Option (Int32 × pS) := Res PT GX (rkT 60) 60 (pCut cd60 6, [.ref 28, .int l1, .int l2, .int l3, .null], [], S)
noncomputable def Dr_write_26 (a1 : Int32) (a2 : Int32) (a3 : Int32) (S : pS) : Option (Int32 × pS) := CallF PT GX rkT 41 [.ref 26, .int a1, .int a2, .int a3] S
noncomputable def Ro_add_29 (a1 : Int32) (a2 : Int32) (a3 : Int32) (a4 : Int32) (S : pS) : Option (Int32 × pS) := CallF PT GX rkT 95 [.ref 29, .int a1, .int a2, .int a3, .int a4] S
theorem R_card_eq (a1 : Int32) (a2 : Int32) (a3 : Int32) (a4 : Int32) (S : pS) : R_card a1 a2 a3 a4 S = (R_isPerson a1 (wF S 0 0 (0 : Int32))).bind (fun q1 => if q1.1 = 0 then (some ((-1 : Int32), q1.2)) else ((R_isIn a2 (0 : Int32) (7 : Int32) q1.2).bind (fun q2 => if q2.1 = 0 then (some ((-1 : Int32), q2.2)) else ((R_isIn a3 (0 : Int32) (5 : Int32) q2.2).bind (fun q3 => if q3.1 = 0 then (some ((-1 : Int32), q3.2)) else ((R_isIn a4 (0 : Int32) (99 : Int32) q3.2).bind (fun q4 => if q4.1 = 0 then (some ((-1 : Int32), q4.2)) else (if (rF q4.2 0 6) = (14 : Int32) then (some ((-1 : Int32), q4.2)) else (if inb (rF q4.2 0 6) 14 = true then (if inb (rF q4.2 0 6) 14 = true then (if inb (rF q4.2 0 6) 14 = true then (if inb ((6 : Int32) + (rF q4.2 0 6)) 76 = true then (if inb ((20 : Int32) + (rF q4.2 0 6)) 76 = true then (if inb ((34 : Int32) + (rF q4.2 0 6)) 76 = true then (if inb ((48 : Int32) + (rF q4.2 0 6)) 76 = true then (if inb ((62 : Int32) + (rF q4.2 0 6)) 76 = true then (some ((((rF q4.2 0 6) + (1 : Int32)) - (1 : Int32)), (wF (wF (wA (wA (wA (wA (wA (wA (wA (wA q4.2 4 (rF q4.2 0 6) a1) 5 (rF q4.2 0 6) a2) 6 (rF q4.2 0 6) a3) 1 ((6 : Int32) + (rF q4.2 0 6)) a4) 1 ((20 : Int32) + (rF q4.2 0 6)) (0 : Int32)) 1 ((34 : Int32) + (rF q4.2 0 6)) (0 : Int32)) 1 ((48 : Int32) + (rF q4.2 0 6)) (0 : Int32)) 1 ((62 : Int32) + (rF q4.2 0 6)) (0 : Int32)) 0 6 ((rF q4.2 0 6) + (1 : Int32))) 0 3 (0 : Int32)))) else (none)) else (none)) else (none)) else (none)) else (none)) else (none)) else (none)) else (none)))))))))) := by
  show Res PT GR (rkT 175) 175 (cd175, [.ref 0, .int a1, .int a2, .int a3, .int a4], [], S) = _
  refine (R_blk PT GR (k := 175) (code := cd175) rfl [] 400 _).trans ?_
  refine (R_cx PT GR hRk PT_171 rfl rfl rfl rfl rfl).trans ?_
  refine bind_cong (fun q1 => ?_)
  refine (R_blk PT GR (k := 175) (code := cd175) rfl [] 400 _).trans ?_
  refine ite_cong ?_ ?_
  · exact R_retI PT GR rfl rfl
  · refine (R_cx PT GR hRk PT_158 rfl rfl rfl rfl rfl).trans ?_
    refine bind_cong (fun q2 => ?_)
    refine (R_blk PT GR (k := 175) (code := cd175) rfl [] 400 _).trans ?_
    refine ite_cong ?_ ?_
    · exact R_retI PT GR rfl rfl
    · refine (R_cx PT GR hRk PT_158 rfl rfl rfl rfl rfl).trans ?_
      refine bind_cong (fun q3 => ?_)
      refine (R_blk PT GR (k := 175) (code := cd175) rfl [] 400 _).trans ?_
      refine ite_cong ?_ ?_
      · exact R_retI PT GR rfl rfl
      · refine (R_cx PT GR hRk PT_158 rfl rfl rfl rfl rfl).trans ?_
        refine bind_cong (fun q4 => ?_)
        refine (R_blk PT GR (k := 175) (code := cd175) rfl [] 400 _).trans ?_
        refine ite_cong ?_ ?_
        · exact R_retI PT GR rfl rfl
        · refine ite_cong ?_ ?_
          · exact R_retI PT GR rfl rfl
          · refine ite_cong ?_ ?_
            · refine ite_cong ?_ ?_
              · refine ite_cong ?_ ?_
                · refine ite_cong ?_ ?_
                  · refine ite_cong ?_ ?_
                    · refine ite_cong ?_ ?_
                      · refine ite_cong ?_ ?_
                        · refine ite_cong ?_ ?_
                          · exact R_retI PT GR rfl rfl
                          · rfl
                        · rfl
                      · rfl
                    · rfl
                  · rfl
                · rfl
              · rfl
            · rfl
theorem R_isIn_eq (a1 : Int32) (a2 : Int32) (a3 : Int32) (S : pS) : R_isIn a1 a2 a3 S = if a1 < a2 then (some ((0 : Int32), S)) else (if a1 ≤ a3 then (some ((1 : Int32), S)) else (some ((0 : Int32), S))) := by
  show Res PT GR (rkT 158) 158 (cd158, [.ref 0, .int a1, .int a2, .int a3], [], S) = _
  refine (R_blk PT GR (k := 158) (code := cd158) rfl [] 400 _).trans ?_
  refine ite_cong ?_ ?_
  · exact R_retI PT GR rfl rfl
  · refine ite_cong ?_ ?_
    · exact R_retI PT GR rfl rfl
    · exact R_retI PT GR rfl rfl
theorem R_isKept_eq (a1 : Int32) (S : pS) : R_isKept a1 S = if inb ((48 : Int32) + a1) 76 = true then (if (rA S 1 ((48 : Int32) + a1)) = 0 then (some ((1 : Int32), S)) else (some ((0 : Int32), S))) else (none) := by
  show Res PT GR (rkT 172) 172 (cd172, [.ref 0, .int a1], [], S) = _
  refine (R_blk PT GR (k := 172) (code := cd172) rfl [] 400 _).trans ?_
  refine ite_cong ?_ ?_
  · refine ite_cong ?_ ?_
    · exact R_retI PT GR rfl rfl
    · exact R_retI PT GR rfl rfl
  · rfl
theorem R_keptSet_eq (S : pS) : R_keptSet S = R_keptSet_c4 (0 : Int32) (0 : Int32) S := by
  show Res PT GR (rkT 173) 173 (cd173, [.ref 0, .null, .null], [], S) = _
  exact (R_blk PT GR (k := 173) (code := cd173) rfl [4] 400 _).trans rfl
theorem R_keptSet_c4_eq (l1 : Int32) (l2 : Int32) (S : pS) : R_keptSet_c4 l1 l2 S = if l2 < (rF S 0 6) then ((R_isKept l2 S).bind (fun q1 => if q1.1 = 0 then (R_keptSet_c4 l1 (l2 + (1 : Int32)) q1.2) else (R_keptSet_c4 (l1 ||| ((1 : Int32) <<< (l2 &&& 31))) (l2 + (1 : Int32)) q1.2))) else (some (l1, S)) := by
  show Res PT GR (rkT 173) 173 (pCut cd173 4, [.ref 0, .int l1, .int l2], [], S) = _
  refine (R_reg PT GR (k := 173) (code := cd173) rfl [4] 400).trans ?_
  refine ite_cong ?_ ?_
  · refine (R_cx PT GR hRk PT_172 rfl rfl rfl rfl rfl).trans ?_
    refine bind_cong (fun q1 => ?_)
    refine (R_blk PT GR (k := 173) (code := cd173) rfl [4] 400 _).trans ?_
    refine ite_cong ?_ ?_
    · rfl
    · rfl
  · exact R_retI PT GR rfl rfl
theorem R_onesOf_eq (a1 : Int32) (S : pS) : R_onesOf a1 S = R_onesOf_c4 (0 : Int32) a1 S := by
  show Res PT GR (rkT 162) 162 (cd162, [.ref 0, .int a1, .null, .null], [], S) = _
  exact (R_blk PT GR (k := 162) (code := cd162) rfl [4] 400 _).trans rfl
theorem R_onesOf_c4_eq (l2 : Int32) (l3 : Int32) (S : pS) : R_onesOf_c4 l2 l3 S = if l3 = 0 then (some (l2, S)) else (R_onesOf_c4 (l2 + (1 : Int32)) (l3 &&& (l3 - (1 : Int32))) S) := by
  show Res PT GR (rkT 162) 162 (pCut cd162 4, [.null, .null, .int l2, .int l3], [], S) = _
  refine (R_reg PT GR (k := 162) (code := cd162) rfl [4] 400).trans ?_
  refine ite_cong ?_ ?_
  · exact R_retI PT GR rfl rfl
  · rfl
theorem Dr_read_1_eq (a1 : Int32) (a2 : Int32) (S : pS) : Dr_read_1 a1 a2 S = if inb ((a2 * (14 : Int32)) + a1) 98 = true then (some ((rA S 2 ((a2 * (14 : Int32)) + a1)), S)) else (none) := by
  show Res PT GX (rkT 40) 40 (cd40, [.ref 1, .int a1, .int a2], [], S) = _
  refine (R_blk PT GX (k := 40) (code := cd40) rfl [] 400 _).trans ?_
  refine ite_cong ?_ ?_
  · exact R_retI PT GX rfl rfl
  · rfl
end
