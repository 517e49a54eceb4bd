section
-- ===== PART A: goes FIRST, ahead of the names: the tables' words, and 'selects' of the private methods out of them =====
/-- a private method of a class that the tables say can be made, by its rows of tables_1 -/
def lw_okq (q : MethodName × Nat) : Prop := (q.1.cls ≠ "java/lang/invoke/MethodHandle" ∧ q.1.cls ≠ "java/lang/invoke/VarHandle") ∧ Cond.instantiable q.1.cls q.2 ∈ tables_1 ∧ Cond.privateMethod q.1 ∈ tables_1 ∧ Cond.instanceMethod q.1 ∈ tables_1
theorem lw_p0 : lw_okq (⟨"CardDrawer$History", "dropOldest", "()V"⟩, 3) := ⟨⟨by decide +kernel, by decide +kernel⟩, List.mem_of_getElem? (i := 219) (by decide +kernel), List.mem_of_getElem? (i := 487) (by decide +kernel), List.mem_of_getElem? (i := 488) (by decide +kernel)⟩
theorem lw_p1 : lw_okq (⟨"CardDrawer$Law", "run", "(II)I"⟩, 9) := ⟨⟨by decide +kernel, by decide +kernel⟩, List.mem_of_getElem? (i := 87) (by decide +kernel), List.mem_of_getElem? (i := 516) (by decide +kernel), List.mem_of_getElem? (i := 517) (by decide +kernel)⟩
theorem lw_p2 : lw_okq (⟨"CardDrawer$Keeper", "reaches", "(I)Z"⟩, 5) := ⟨⟨by decide +kernel, by decide +kernel⟩, List.mem_of_getElem? (i := 197) (by decide +kernel), List.mem_of_getElem? (i := 532) (by decide +kernel), List.mem_of_getElem? (i := 533) (by decide +kernel)⟩
theorem lw_p3 : lw_okq (⟨"CardDrawer$Keeper", "enter", "(III)V"⟩, 5) := ⟨⟨by decide +kernel, by decide +kernel⟩, List.mem_of_getElem? (i := 197) (by decide +kernel), List.mem_of_getElem? (i := 544) (by decide +kernel), List.mem_of_getElem? (i := 545) (by decide +kernel)⟩
theorem lw_p4 : lw_okq (⟨"CardDrawer$Keeper", "throwLeast", "()Z"⟩, 5) := ⟨⟨by decide +kernel, by decide +kernel⟩, List.mem_of_getElem? (i := 197) (by decide +kernel), List.mem_of_getElem? (i := 565) (by decide +kernel), List.mem_of_getElem? (i := 566) (by decide +kernel)⟩
theorem lw_p5 : lw_okq (⟨"CardDrawer$Keeper", "carryOut", "(II)V"⟩, 5) := ⟨⟨by decide +kernel, by decide +kernel⟩, List.mem_of_getElem? (i := 197) (by decide +kernel), List.mem_of_getElem? (i := 600) (by decide +kernel), List.mem_of_getElem? (i := 601) (by decide +kernel)⟩
theorem lw_p6 : lw_okq (⟨"CardDrawer$Keeper", "wantTrade", "()V"⟩, 5) := ⟨⟨by decide +kernel, by decide +kernel⟩, List.mem_of_getElem? (i := 197) (by decide +kernel), List.mem_of_getElem? (i := 609) (by decide +kernel), List.mem_of_getElem? (i := 610) (by decide +kernel)⟩
theorem lw_p7 : lw_okq (⟨"CardDrawer$Keeper", "wearCard", "(I)V"⟩, 5) := ⟨⟨by decide +kernel, by decide +kernel⟩, List.mem_of_getElem? (i := 197) (by decide +kernel), List.mem_of_getElem? (i := 613) (by decide +kernel), List.mem_of_getElem? (i := 614) (by decide +kernel)⟩
theorem lw_p8 : lw_okq (⟨"CardDrawer$Tape", "pastLetters", "(I)I"⟩, 5) := ⟨⟨by decide +kernel, by decide +kernel⟩, List.mem_of_getElem? (i := 239) (by decide +kernel), List.mem_of_getElem? (i := 657) (by decide +kernel), List.mem_of_getElem? (i := 658) (by decide +kernel)⟩
theorem lw_p9 : lw_okq (⟨"CardDrawer$Tape", "wordAt", "(II)I"⟩, 5) := ⟨⟨by decide +kernel, by decide +kernel⟩, List.mem_of_getElem? (i := 239) (by decide +kernel), List.mem_of_getElem? (i := 661) (by decide +kernel), List.mem_of_getElem? (i := 662) (by decide +kernel)⟩
theorem lw_p10 : lw_okq (⟨"CardDrawer$Tape", "isWord", "(III)Z"⟩, 5) := ⟨⟨by decide +kernel, by decide +kernel⟩, List.mem_of_getElem? (i := 239) (by decide +kernel), List.mem_of_getElem? (i := 665) (by decide +kernel), List.mem_of_getElem? (i := 666) (by decide +kernel)⟩
theorem lw_p11 : lw_okq (⟨"CardDrawer$Tape", "put", "(II)V"⟩, 5) := ⟨⟨by decide +kernel, by decide +kernel⟩, List.mem_of_getElem? (i := 239) (by decide +kernel), List.mem_of_getElem? (i := 710) (by decide +kernel), List.mem_of_getElem? (i := 711) (by decide +kernel)⟩
theorem lw_p12 : lw_okq (⟨"CardDrawer$Tape", "pastDigits", "(I)I"⟩, 5) := ⟨⟨by decide +kernel, by decide +kernel⟩, List.mem_of_getElem? (i := 239) (by decide +kernel), List.mem_of_getElem? (i := 717) (by decide +kernel), List.mem_of_getElem? (i := 718) (by decide +kernel)⟩
theorem lw_p13 : lw_okq (⟨"CardDrawer$Tape", "numberAt", "(II)I"⟩, 5) := ⟨⟨by decide +kernel, by decide +kernel⟩, List.mem_of_getElem? (i := 239) (by decide +kernel), List.mem_of_getElem? (i := 721) (by decide +kernel), List.mem_of_getElem? (i := 722) (by decide +kernel)⟩
theorem lw_p14 : lw_okq (⟨"CardDrawer$Reader", "lawLine", "()Z"⟩, 9) := ⟨⟨by decide +kernel, by decide +kernel⟩, List.mem_of_getElem? (i := 264) (by decide +kernel), List.mem_of_getElem? (i := 788) (by decide +kernel), List.mem_of_getElem? (i := 789) (by decide +kernel)⟩
theorem lw_p15 : lw_okq (⟨"CardDrawer$Reader", "opens", "(II)Z"⟩, 9) := ⟨⟨by decide +kernel, by decide +kernel⟩, List.mem_of_getElem? (i := 264) (by decide +kernel), List.mem_of_getElem? (i := 792) (by decide +kernel), List.mem_of_getElem? (i := 793) (by decide +kernel)⟩
def lw_privs_1 : List (MethodName × Nat) := [(⟨"CardDrawer$History", "dropOldest", "()V"⟩, 3), (⟨"CardDrawer$Law", "run", "(II)I"⟩, 9), (⟨"CardDrawer$Keeper", "reaches", "(I)Z"⟩, 5), (⟨"CardDrawer$Keeper", "enter", "(III)V"⟩, 5), (⟨"CardDrawer$Keeper", "throwLeast", "()Z"⟩, 5), (⟨"CardDrawer$Keeper", "carryOut", "(II)V"⟩, 5), (⟨"CardDrawer$Keeper", "wantTrade", "()V"⟩, 5), (⟨"CardDrawer$Keeper", "wearCard", "(I)V"⟩, 5), (⟨"CardDrawer$Tape", "pastLetters", "(I)I"⟩, 5), (⟨"CardDrawer$Tape", "wordAt", "(II)I"⟩, 5), (⟨"CardDrawer$Tape", "isWord", "(III)Z"⟩, 5), (⟨"CardDrawer$Tape", "put", "(II)V"⟩, 5), (⟨"CardDrawer$Tape", "pastDigits", "(I)I"⟩, 5), (⟨"CardDrawer$Tape", "numberAt", "(II)I"⟩, 5), (⟨"CardDrawer$Reader", "lawLine", "()Z"⟩, 9), (⟨"CardDrawer$Reader", "opens", "(II)Z"⟩, 9)]
theorem lw_r1 : ∀ q ∈ lw_privs_1, lw_okq q := List.forall_mem_cons.mpr ⟨lw_p0, List.forall_mem_cons.mpr ⟨lw_p1, List.forall_mem_cons.mpr ⟨lw_p2, List.forall_mem_cons.mpr ⟨lw_p3, List.forall_mem_cons.mpr ⟨lw_p4, List.forall_mem_cons.mpr ⟨lw_p5, List.forall_mem_cons.mpr ⟨lw_p6, List.forall_mem_cons.mpr ⟨lw_p7, List.forall_mem_cons.mpr ⟨lw_p8, List.forall_mem_cons.mpr ⟨lw_p9, List.forall_mem_cons.mpr ⟨lw_p10, List.forall_mem_cons.mpr ⟨lw_p11, List.forall_mem_cons.mpr ⟨lw_p12, List.forall_mem_cons.mpr ⟨lw_p13, List.forall_mem_cons.mpr ⟨lw_p14, List.forall_mem_cons.mpr ⟨lw_p15, fun _ h => absurd h List.not_mem_nil⟩⟩⟩⟩⟩⟩⟩⟩⟩⟩⟩⟩⟩⟩⟩⟩
theorem lw_p16 : lw_okq (⟨"CardDrawer$Reader", "fails", "(I)Z"⟩, 9) := ⟨⟨by decide +kernel, by decide +kernel⟩, List.mem_of_getElem? (i := 264) (by decide +kernel), List.mem_of_getElem? (i := 796) (by decide +kernel), List.mem_of_getElem? (i := 797) (by decide +kernel)⟩
theorem lw_p17 : lw_okq (⟨"CardDrawer$Reader", "advance", "()V"⟩, 9) := ⟨⟨by decide +kernel, by decide +kernel⟩, List.mem_of_getElem? (i := 264) (by decide +kernel), List.mem_of_getElem? (i := 800) (by decide +kernel), List.mem_of_getElem? (i := 801) (by decide +kernel)⟩
theorem lw_p18 : lw_okq (⟨"CardDrawer$Reader", "sum", "()Z"⟩, 9) := ⟨⟨by decide +kernel, by decide +kernel⟩, List.mem_of_getElem? (i := 264) (by decide +kernel), List.mem_of_getElem? (i := 804) (by decide +kernel), List.mem_of_getElem? (i := 805) (by decide +kernel)⟩
theorem lw_p19 : lw_okq (⟨"CardDrawer$Reader", "unit", "(Z)Z"⟩, 9) := ⟨⟨by decide +kernel, by decide +kernel⟩, List.mem_of_getElem? (i := 264) (by decide +kernel), List.mem_of_getElem? (i := 808) (by decide +kernel), List.mem_of_getElem? (i := 809) (by decide +kernel)⟩
theorem lw_p20 : lw_okq (⟨"CardDrawer$Reader", "addIfSign", "(I)V"⟩, 9) := ⟨⟨by decide +kernel, by decide +kernel⟩, List.mem_of_getElem? (i := 264) (by decide +kernel), List.mem_of_getElem? (i := 819) (by decide +kernel), List.mem_of_getElem? (i := 820) (by decide +kernel)⟩
theorem lw_p21 : lw_okq (⟨"CardDrawer$Reader", "either", "(I)Z"⟩, 9) := ⟨⟨by decide +kernel, by decide +kernel⟩, List.mem_of_getElem? (i := 264) (by decide +kernel), List.mem_of_getElem? (i := 823) (by decide +kernel), List.mem_of_getElem? (i := 824) (by decide +kernel)⟩
theorem lw_p22 : lw_okq (⟨"CardDrawer$Reader", "condition", "(I)Z"⟩, 9) := ⟨⟨by decide +kernel, by decide +kernel⟩, List.mem_of_getElem? (i := 264) (by decide +kernel), List.mem_of_getElem? (i := 827) (by decide +kernel), List.mem_of_getElem? (i := 828) (by decide +kernel)⟩
theorem lw_p23 : lw_okq (⟨"CardDrawer$Reader", "passes", "(I)Z"⟩, 9) := ⟨⟨by decide +kernel, by decide +kernel⟩, List.mem_of_getElem? (i := 264) (by decide +kernel), List.mem_of_getElem? (i := 831) (by decide +kernel), List.mem_of_getElem? (i := 832) (by decide +kernel)⟩
theorem lw_p24 : lw_okq (⟨"CardDrawer$Reader", "metLine", "()Z"⟩, 9) := ⟨⟨by decide +kernel, by decide +kernel⟩, List.mem_of_getElem? (i := 264) (by decide +kernel), List.mem_of_getElem? (i := 839) (by decide +kernel), List.mem_of_getElem? (i := 840) (by decide +kernel)⟩
theorem lw_p25 : lw_okq (⟨"CardDrawer$Reader", "passesNumber", "(II)Z"⟩, 9) := ⟨⟨by decide +kernel, by decide +kernel⟩, List.mem_of_getElem? (i := 264) (by decide +kernel), List.mem_of_getElem? (i := 843) (by decide +kernel), List.mem_of_getElem? (i := 844) (by decide +kernel)⟩
theorem lw_p26 : lw_okq (⟨"CardDrawer$Reader", "calledLine", "()Z"⟩, 9) := ⟨⟨by decide +kernel, by decide +kernel⟩, List.mem_of_getElem? (i := 264) (by decide +kernel), List.mem_of_getElem? (i := 848) (by decide +kernel), List.mem_of_getElem? (i := 849) (by decide +kernel)⟩
theorem lw_p27 : lw_okq (⟨"CardDrawer$Reader", "planLine", "(I)Z"⟩, 9) := ⟨⟨by decide +kernel, by decide +kernel⟩, List.mem_of_getElem? (i := 264) (by decide +kernel), List.mem_of_getElem? (i := 852) (by decide +kernel), List.mem_of_getElem? (i := 853) (by decide +kernel)⟩
theorem lw_p28 : lw_okq (⟨"CardDrawer$Told", "takeMet", "(LCardDrawer$Rows;)V"⟩, 10) := ⟨⟨by decide +kernel, by decide +kernel⟩, List.mem_of_getElem? (i := 81) (by decide +kernel), List.mem_of_getElem? (i := 865) (by decide +kernel), List.mem_of_getElem? (i := 866) (by decide +kernel)⟩
theorem lw_p29 : lw_okq (⟨"CardDrawer$Told", "takeCalled", "(LCardDrawer$Rows;)V"⟩, 10) := ⟨⟨by decide +kernel, by decide +kernel⟩, List.mem_of_getElem? (i := 81) (by decide +kernel), List.mem_of_getElem? (i := 871) (by decide +kernel), List.mem_of_getElem? (i := 872) (by decide +kernel)⟩
theorem lw_p30 : lw_okq (⟨"CardDrawer$Dating", "order", "(II)V"⟩, 4) := ⟨⟨by decide +kernel, by decide +kernel⟩, List.mem_of_getElem? (i := 307) (by decide +kernel), List.mem_of_getElem? (i := 932) (by decide +kernel), List.mem_of_getElem? (i := 933) (by decide +kernel)⟩
theorem lw_p31 : lw_okq (⟨"CardDrawer$Circle", "learn", "()I"⟩, 7) := ⟨⟨by decide +kernel, by decide +kernel⟩, List.mem_of_getElem? (i := 328) (by decide +kernel), List.mem_of_getElem? (i := 947) (by decide +kernel), List.mem_of_getElem? (i := 948) (by decide +kernel)⟩
def lw_privs_2 : List (MethodName × Nat) := [(⟨"CardDrawer$Reader", "fails", "(I)Z"⟩, 9), (⟨"CardDrawer$Reader", "advance", "()V"⟩, 9), (⟨"CardDrawer$Reader", "sum", "()Z"⟩, 9), (⟨"CardDrawer$Reader", "unit", "(Z)Z"⟩, 9), (⟨"CardDrawer$Reader", "addIfSign", "(I)V"⟩, 9), (⟨"CardDrawer$Reader", "either", "(I)Z"⟩, 9), (⟨"CardDrawer$Reader", "condition", "(I)Z"⟩, 9), (⟨"CardDrawer$Reader", "passes", "(I)Z"⟩, 9), (⟨"CardDrawer$Reader", "metLine", "()Z"⟩, 9), (⟨"CardDrawer$Reader", "passesNumber", "(II)Z"⟩, 9), (⟨"CardDrawer$Reader", "calledLine", "()Z"⟩, 9), (⟨"CardDrawer$Reader", "planLine", "(I)Z"⟩, 9), (⟨"CardDrawer$Told", "takeMet", "(LCardDrawer$Rows;)V"⟩, 10), (⟨"CardDrawer$Told", "takeCalled", "(LCardDrawer$Rows;)V"⟩, 10), (⟨"CardDrawer$Dating", "order", "(II)V"⟩, 4), (⟨"CardDrawer$Circle", "learn", "()I"⟩, 7)]
theorem lw_r2 : ∀ q ∈ lw_privs_2, lw_okq q := List.forall_mem_cons.mpr ⟨lw_p16, List.forall_mem_cons.mpr ⟨lw_p17, List.forall_mem_cons.mpr ⟨lw_p18, List.forall_mem_cons.mpr ⟨lw_p19, List.forall_mem_cons.mpr ⟨lw_p20, List.forall_mem_cons.mpr ⟨lw_p21, List.forall_mem_cons.mpr ⟨lw_p22, List.forall_mem_cons.mpr ⟨lw_p23, List.forall_mem_cons.mpr ⟨lw_p24, List.forall_mem_cons.mpr ⟨lw_p25, List.forall_mem_cons.mpr ⟨lw_p26, List.forall_mem_cons.mpr ⟨lw_p27, List.forall_mem_cons.mpr ⟨lw_p28, List.forall_mem_cons.mpr ⟨lw_p29, List.forall_mem_cons.mpr ⟨lw_p30, List.forall_mem_cons.mpr ⟨lw_p31, fun _ h => absurd h List.not_mem_nil⟩⟩⟩⟩⟩⟩⟩⟩⟩⟩⟩⟩⟩⟩⟩⟩
theorem lw_p32 : lw_okq (⟨"CardDrawer$Circle", "measure", "(I)V"⟩, 7) := ⟨⟨by decide +kernel, by decide +kernel⟩, List.mem_of_getElem? (i := 328) (by decide +kernel), List.mem_of_getElem? (i := 952) (by decide +kernel), List.mem_of_getElem? (i := 953) (by decide +kernel)⟩
theorem lw_p33 : lw_okq (⟨"CardDrawer$Circle", "besideSome", "(I)I"⟩, 7) := ⟨⟨by decide +kernel, by decide +kernel⟩, List.mem_of_getElem? (i := 328) (by decide +kernel), List.mem_of_getElem? (i := 957) (by decide +kernel), List.mem_of_getElem? (i := 958) (by decide +kernel)⟩
theorem lw_p34 : lw_okq (⟨"CardDrawer$Circle", "firstOnTheWay", "()I"⟩, 7) := ⟨⟨by decide +kernel, by decide +kernel⟩, List.mem_of_getElem? (i := 328) (by decide +kernel), List.mem_of_getElem? (i := 966) (by decide +kernel), List.mem_of_getElem? (i := 967) (by decide +kernel)⟩
theorem lw_p35 : lw_okq (⟨"CardDrawer$Circle", "isHeardByAll", "(II)Z"⟩, 7) := ⟨⟨by decide +kernel, by decide +kernel⟩, List.mem_of_getElem? (i := 328) (by decide +kernel), List.mem_of_getElem? (i := 995) (by decide +kernel), List.mem_of_getElem? (i := 996) (by decide +kernel)⟩
theorem lw_p36 : lw_okq (⟨"CardDrawer$Chooser", "tryCard", "(II)V"⟩, 5) := ⟨⟨by decide +kernel, by decide +kernel⟩, List.mem_of_getElem? (i := 359) (by decide +kernel), List.mem_of_getElem? (i := 1025) (by decide +kernel), List.mem_of_getElem? (i := 1026) (by decide +kernel)⟩
theorem lw_p37 : lw_okq (⟨"CardDrawer$Chooser", "questionsFor", "(I)I"⟩, 5) := ⟨⟨by decide +kernel, by decide +kernel⟩, List.mem_of_getElem? (i := 359) (by decide +kernel), List.mem_of_getElem? (i := 1029) (by decide +kernel), List.mem_of_getElem? (i := 1030) (by decide +kernel)⟩
theorem lw_p38 : lw_okq (⟨"CardDrawer$Chooser", "takeIfBetter", "(II)V"⟩, 5) := ⟨⟨by decide +kernel, by decide +kernel⟩, List.mem_of_getElem? (i := 359) (by decide +kernel), List.mem_of_getElem? (i := 1039) (by decide +kernel), List.mem_of_getElem? (i := 1040) (by decide +kernel)⟩
theorem lw_p39 : lw_okq (⟨"CardDrawer$Chooser", "tellsApart", "(I)Z"⟩, 5) := ⟨⟨by decide +kernel, by decide +kernel⟩, List.mem_of_getElem? (i := 359) (by decide +kernel), List.mem_of_getElem? (i := 1065) (by decide +kernel), List.mem_of_getElem? (i := 1066) (by decide +kernel)⟩
theorem lw_p40 : lw_okq (⟨"CardDrawer$Chooser", "isAlike", "(III)Z"⟩, 5) := ⟨⟨by decide +kernel, by decide +kernel⟩, List.mem_of_getElem? (i := 359) (by decide +kernel), List.mem_of_getElem? (i := 1069) (by decide +kernel), List.mem_of_getElem? (i := 1070) (by decide +kernel)⟩
theorem lw_p41 : lw_okq (⟨"CardDrawer$Chooser", "hasSooner", "(I)Z"⟩, 5) := ⟨⟨by decide +kernel, by decide +kernel⟩, List.mem_of_getElem? (i := 359) (by decide +kernel), List.mem_of_getElem? (i := 1082) (by decide +kernel), List.mem_of_getElem? (i := 1083) (by decide +kernel)⟩
theorem lw_p42 : lw_okq (⟨"CardDrawer$Circle", "peopleFor", "(II)I"⟩, 7) := ⟨⟨by decide +kernel, by decide +kernel⟩, List.mem_of_getElem? (i := 328) (by decide +kernel), List.mem_of_getElem? (i := 1115) (by decide +kernel), List.mem_of_getElem? (i := 1116) (by decide +kernel)⟩
theorem lw_p43 : lw_okq (⟨"CardDrawer$Chooser", "pile", "(I)I"⟩, 5) := ⟨⟨by decide +kernel, by decide +kernel⟩, List.mem_of_getElem? (i := 359) (by decide +kernel), List.mem_of_getElem? (i := 1146) (by decide +kernel), List.mem_of_getElem? (i := 1147) (by decide +kernel)⟩
theorem lw_p44 : lw_okq (⟨"CardDrawer$Chooser", "leftToLose", "(I)I"⟩, 5) := ⟨⟨by decide +kernel, by decide +kernel⟩, List.mem_of_getElem? (i := 359) (by decide +kernel), List.mem_of_getElem? (i := 1150) (by decide +kernel), List.mem_of_getElem? (i := 1151) (by decide +kernel)⟩
theorem lw_p45 : lw_okq (⟨"CardDrawerModel", "isPerson", "(I)Z"⟩, 60) := ⟨⟨by decide +kernel, by decide +kernel⟩, List.mem_of_getElem? (i := 1177) (by decide +kernel), List.mem_of_getElem? (i := 1376) (by decide +kernel), List.mem_of_getElem? (i := 1377) (by decide +kernel)⟩
theorem lw_p46 : lw_okq (⟨"CardDrawerModel", "isIn", "(III)Z"⟩, 60) := ⟨⟨by decide +kernel, by decide +kernel⟩, List.mem_of_getElem? (i := 1177) (by decide +kernel), List.mem_of_getElem? (i := 1380) (by decide +kernel), List.mem_of_getElem? (i := 1381) (by decide +kernel)⟩
theorem lw_p47 : lw_okq (⟨"CardDrawerModel", "isCard", "(I)Z"⟩, 60) := ⟨⟨by decide +kernel, by decide +kernel⟩, List.mem_of_getElem? (i := 1177) (by decide +kernel), List.mem_of_getElem? (i := 1388) (by decide +kernel), List.mem_of_getElem? (i := 1389) (by decide +kernel)⟩
def lw_privs_3 : List (MethodName × Nat) := [(⟨"CardDrawer$Circle", "measure", "(I)V"⟩, 7), (⟨"CardDrawer$Circle", "besideSome", "(I)I"⟩, 7), (⟨"CardDrawer$Circle", "firstOnTheWay", "()I"⟩, 7), (⟨"CardDrawer$Circle", "isHeardByAll", "(II)Z"⟩, 7), (⟨"CardDrawer$Chooser", "tryCard", "(II)V"⟩, 5), (⟨"CardDrawer$Chooser", "questionsFor", "(I)I"⟩, 5), (⟨"CardDrawer$Chooser", "takeIfBetter", "(II)V"⟩, 5), (⟨"CardDrawer$Chooser", "tellsApart", "(I)Z"⟩, 5), (⟨"CardDrawer$Chooser", "isAlike", "(III)Z"⟩, 5), (⟨"CardDrawer$Chooser", "hasSooner", "(I)Z"⟩, 5), (⟨"CardDrawer$Circle", "peopleFor", "(II)I"⟩, 7), (⟨"CardDrawer$Chooser", "pile", "(I)I"⟩, 5), (⟨"CardDrawer$Chooser", "leftToLose", "(I)I"⟩, 5), (⟨"CardDrawerModel", "isPerson", "(I)Z"⟩, 60), (⟨"CardDrawerModel", "isIn", "(III)Z"⟩, 60), (⟨"CardDrawerModel", "isCard", "(I)Z"⟩, 60)]
theorem lw_r3 : ∀ q ∈ lw_privs_3, lw_okq q := List.forall_mem_cons.mpr ⟨lw_p32, List.forall_mem_cons.mpr ⟨lw_p33, List.forall_mem_cons.mpr ⟨lw_p34, List.forall_mem_cons.mpr ⟨lw_p35, List.forall_mem_cons.mpr ⟨lw_p36, List.forall_mem_cons.mpr ⟨lw_p37, List.forall_mem_cons.mpr ⟨lw_p38, List.forall_mem_cons.mpr ⟨lw_p39, List.forall_mem_cons.mpr ⟨lw_p40, List.forall_mem_cons.mpr ⟨lw_p41, List.forall_mem_cons.mpr ⟨lw_p42, List.forall_mem_cons.mpr ⟨lw_p43, List.forall_mem_cons.mpr ⟨lw_p44, List.forall_mem_cons.mpr ⟨lw_p45, List.forall_mem_cons.mpr ⟨lw_p46, List.forall_mem_cons.mpr ⟨lw_p47, fun _ h => absurd h List.not_mem_nil⟩⟩⟩⟩⟩⟩⟩⟩⟩⟩⟩⟩⟩⟩⟩⟩
theorem lw_p48 : lw_okq (⟨"CardDrawerModel", "types", "(I)V"⟩, 60) := ⟨⟨by decide +kernel, by decide +kernel⟩, List.mem_of_getElem? (i := 1177) (by decide +kernel), List.mem_of_getElem? (i := 1396) (by decide +kernel), List.mem_of_getElem? (i := 1397) (by decide +kernel)⟩
theorem lw_p49 : lw_okq (⟨"CardDrawerModel", "readsText", "(I)I"⟩, 60) := ⟨⟨by decide +kernel, by decide +kernel⟩, List.mem_of_getElem? (i := 1177) (by decide +kernel), List.mem_of_getElem? (i := 1408) (by decide +kernel), List.mem_of_getElem? (i := 1409) (by decide +kernel)⟩
theorem lw_p50 : lw_okq (⟨"CardDrawerModel", "reads", "()V"⟩, 60) := ⟨⟨by decide +kernel, by decide +kernel⟩, List.mem_of_getElem? (i := 1177) (by decide +kernel), List.mem_of_getElem? (i := 1412) (by decide +kernel), List.mem_of_getElem? (i := 1413) (by decide +kernel)⟩
theorem lw_p51 : lw_okq (⟨"CardDrawerModel", "raw", "(I)I"⟩, 60) := ⟨⟨by decide +kernel, by decide +kernel⟩, List.mem_of_getElem? (i := 1177) (by decide +kernel), List.mem_of_getElem? (i := 1416) (by decide +kernel), List.mem_of_getElem? (i := 1417) (by decide +kernel)⟩
theorem lw_p52 : lw_okq (⟨"CardDrawerModel", "isLetter", "(I)Z"⟩, 60) := ⟨⟨by decide +kernel, by decide +kernel⟩, List.mem_of_getElem? (i := 1177) (by decide +kernel), List.mem_of_getElem? (i := 1420) (by decide +kernel), List.mem_of_getElem? (i := 1421) (by decide +kernel)⟩
theorem lw_p53 : lw_okq (⟨"CardDrawerModel", "wordAt", "(II)I"⟩, 60) := ⟨⟨by decide +kernel, by decide +kernel⟩, List.mem_of_getElem? (i := 1177) (by decide +kernel), List.mem_of_getElem? (i := 1424) (by decide +kernel), List.mem_of_getElem? (i := 1425) (by decide +kernel)⟩
theorem lw_p54 : lw_okq (⟨"CardDrawerModel", "isDigit", "(I)Z"⟩, 60) := ⟨⟨by decide +kernel, by decide +kernel⟩, List.mem_of_getElem? (i := 1177) (by decide +kernel), List.mem_of_getElem? (i := 1428) (by decide +kernel), List.mem_of_getElem? (i := 1429) (by decide +kernel)⟩
theorem lw_p55 : lw_okq (⟨"CardDrawerModel", "isMarkSign", "(I)Z"⟩, 60) := ⟨⟨by decide +kernel, by decide +kernel⟩, List.mem_of_getElem? (i := 1177) (by decide +kernel), List.mem_of_getElem? (i := 1432) (by decide +kernel), List.mem_of_getElem? (i := 1433) (by decide +kernel)⟩
theorem lw_p56 : lw_okq (⟨"CardDrawerModel", "readMet", "()I"⟩, 60) := ⟨⟨by decide +kernel, by decide +kernel⟩, List.mem_of_getElem? (i := 1177) (by decide +kernel), List.mem_of_getElem? (i := 1436) (by decide +kernel), List.mem_of_getElem? (i := 1437) (by decide +kernel)⟩
theorem lw_p57 : lw_okq (⟨"CardDrawerModel", "isWord", "(I)Z"⟩, 60) := ⟨⟨by decide +kernel, by decide +kernel⟩, List.mem_of_getElem? (i := 1177) (by decide +kernel), List.mem_of_getElem? (i := 1440) (by decide +kernel), List.mem_of_getElem? (i := 1441) (by decide +kernel)⟩
theorem lw_p58 : lw_okq (⟨"CardDrawerModel", "errs", "(I)I"⟩, 60) := ⟨⟨by decide +kernel, by decide +kernel⟩, List.mem_of_getElem? (i := 1177) (by decide +kernel), List.mem_of_getElem? (i := 1444) (by decide +kernel), List.mem_of_getElem? (i := 1445) (by decide +kernel)⟩
theorem lw_p59 : lw_okq (⟨"CardDrawerModel", "readMetLine", "()I"⟩, 60) := ⟨⟨by decide +kernel, by decide +kernel⟩, List.mem_of_getElem? (i := 1177) (by decide +kernel), List.mem_of_getElem? (i := 1448) (by decide +kernel), List.mem_of_getElem? (i := 1449) (by decide +kernel)⟩
theorem lw_p60 : lw_okq (⟨"CardDrawerModel", "readTold", "(III)I"⟩, 60) := ⟨⟨by decide +kernel, by decide +kernel⟩, List.mem_of_getElem? (i := 1177) (by decide +kernel), List.mem_of_getElem? (i := 1452) (by decide +kernel), List.mem_of_getElem? (i := 1453) (by decide +kernel)⟩
theorem lw_p61 : lw_okq (⟨"CardDrawerModel", "readNumber", "(II)I"⟩, 60) := ⟨⟨by decide +kernel, by decide +kernel⟩, List.mem_of_getElem? (i := 1177) (by decide +kernel), List.mem_of_getElem? (i := 1456) (by decide +kernel), List.mem_of_getElem? (i := 1457) (by decide +kernel)⟩
theorem lw_p62 : lw_okq (⟨"CardDrawerModel", "readMark", "(I)I"⟩, 60) := ⟨⟨by decide +kernel, by decide +kernel⟩, List.mem_of_getElem? (i := 1177) (by decide +kernel), List.mem_of_getElem? (i := 1460) (by decide +kernel), List.mem_of_getElem? (i := 1461) (by decide +kernel)⟩
theorem lw_p63 : lw_okq (⟨"CardDrawerModel", "isSign", "(I)Z"⟩, 60) := ⟨⟨by decide +kernel, by decide +kernel⟩, List.mem_of_getElem? (i := 1177) (by decide +kernel), List.mem_of_getElem? (i := 1464) (by decide +kernel), List.mem_of_getElem? (i := 1465) (by decide +kernel)⟩
def lw_privs_4 : List (MethodName × Nat) := [(⟨"CardDrawerModel", "types", "(I)V"⟩, 60), (⟨"CardDrawerModel", "readsText", "(I)I"⟩, 60), (⟨"CardDrawerModel", "reads", "()V"⟩, 60), (⟨"CardDrawerModel", "raw", "(I)I"⟩, 60), (⟨"CardDrawerModel", "isLetter", "(I)Z"⟩, 60), (⟨"CardDrawerModel", "wordAt", "(II)I"⟩, 60), (⟨"CardDrawerModel", "isDigit", "(I)Z"⟩, 60), (⟨"CardDrawerModel", "isMarkSign", "(I)Z"⟩, 60), (⟨"CardDrawerModel", "readMet", "()I"⟩, 60), (⟨"CardDrawerModel", "isWord", "(I)Z"⟩, 60), (⟨"CardDrawerModel", "errs", "(I)I"⟩, 60), (⟨"CardDrawerModel", "readMetLine", "()I"⟩, 60), (⟨"CardDrawerModel", "readTold", "(III)I"⟩, 60), (⟨"CardDrawerModel", "readNumber", "(II)I"⟩, 60), (⟨"CardDrawerModel", "readMark", "(I)I"⟩, 60), (⟨"CardDrawerModel", "isSign", "(I)Z"⟩, 60)]
theorem lw_r4 : ∀ q ∈ lw_privs_4, lw_okq q := List.forall_mem_cons.mpr ⟨lw_p48, List.forall_mem_cons.mpr ⟨lw_p49, List.forall_mem_cons.mpr ⟨lw_p50, List.forall_mem_cons.mpr ⟨lw_p51, List.forall_mem_cons.mpr ⟨lw_p52, List.forall_mem_cons.mpr ⟨lw_p53, List.forall_mem_cons.mpr ⟨lw_p54, List.forall_mem_cons.mpr ⟨lw_p55, List.forall_mem_cons.mpr ⟨lw_p56, List.forall_mem_cons.mpr ⟨lw_p57, List.forall_mem_cons.mpr ⟨lw_p58, List.forall_mem_cons.mpr ⟨lw_p59, List.forall_mem_cons.mpr ⟨lw_p60, List.forall_mem_cons.mpr ⟨lw_p61, List.forall_mem_cons.mpr ⟨lw_p62, List.forall_mem_cons.mpr ⟨lw_p63, fun _ h => absurd h List.not_mem_nil⟩⟩⟩⟩⟩⟩⟩⟩⟩⟩⟩⟩⟩⟩⟩⟩
theorem lw_p64 : lw_okq (⟨"CardDrawerModel", "readCalled", "()I"⟩, 60) := ⟨⟨by decide +kernel, by decide +kernel⟩, List.mem_of_getElem? (i := 1177) (by decide +kernel), List.mem_of_getElem? (i := 1468) (by decide +kernel), List.mem_of_getElem? (i := 1469) (by decide +kernel)⟩
theorem lw_p65 : lw_okq (⟨"CardDrawerModel", "readCalledLine", "()I"⟩, 60) := ⟨⟨by decide +kernel, by decide +kernel⟩, List.mem_of_getElem? (i := 1177) (by decide +kernel), List.mem_of_getElem? (i := 1472) (by decide +kernel), List.mem_of_getElem? (i := 1473) (by decide +kernel)⟩
theorem lw_p66 : lw_okq (⟨"CardDrawerModel", "readPlan", "()I"⟩, 60) := ⟨⟨by decide +kernel, by decide +kernel⟩, List.mem_of_getElem? (i := 1177) (by decide +kernel), List.mem_of_getElem? (i := 1476) (by decide +kernel), List.mem_of_getElem? (i := 1477) (by decide +kernel)⟩
theorem lw_p67 : lw_okq (⟨"CardDrawerModel", "readDeed", "(I)I"⟩, 60) := ⟨⟨by decide +kernel, by decide +kernel⟩, List.mem_of_getElem? (i := 1177) (by decide +kernel), List.mem_of_getElem? (i := 1480) (by decide +kernel), List.mem_of_getElem? (i := 1481) (by decide +kernel)⟩
theorem lw_p68 : lw_okq (⟨"CardDrawerModel", "readLaw", "()I"⟩, 60) := ⟨⟨by decide +kernel, by decide +kernel⟩, List.mem_of_getElem? (i := 1177) (by decide +kernel), List.mem_of_getElem? (i := 1484) (by decide +kernel), List.mem_of_getElem? (i := 1485) (by decide +kernel)⟩
theorem lw_p69 : lw_okq (⟨"CardDrawerModel", "isLineWord", "()Z"⟩, 60) := ⟨⟨by decide +kernel, by decide +kernel⟩, List.mem_of_getElem? (i := 1177) (by decide +kernel), List.mem_of_getElem? (i := 1488) (by decide +kernel), List.mem_of_getElem? (i := 1489) (by decide +kernel)⟩
theorem lw_p70 : lw_okq (⟨"CardDrawerModel", "readSum", "()I"⟩, 60) := ⟨⟨by decide +kernel, by decide +kernel⟩, List.mem_of_getElem? (i := 1177) (by decide +kernel), List.mem_of_getElem? (i := 1492) (by decide +kernel), List.mem_of_getElem? (i := 1493) (by decide +kernel)⟩
theorem lw_p71 : lw_okq (⟨"CardDrawerModel", "readProduct", "()I"⟩, 60) := ⟨⟨by decide +kernel, by decide +kernel⟩, List.mem_of_getElem? (i := 1177) (by decide +kernel), List.mem_of_getElem? (i := 1496) (by decide +kernel), List.mem_of_getElem? (i := 1497) (by decide +kernel)⟩
theorem lw_p72 : lw_okq (⟨"CardDrawerModel", "readUnit", "()I"⟩, 60) := ⟨⟨by decide +kernel, by decide +kernel⟩, List.mem_of_getElem? (i := 1177) (by decide +kernel), List.mem_of_getElem? (i := 1500) (by decide +kernel), List.mem_of_getElem? (i := 1501) (by decide +kernel)⟩
theorem lw_p73 : lw_okq (⟨"CardDrawerModel", "canAsk", "(I)Z"⟩, 60) := ⟨⟨by decide +kernel, by decide +kernel⟩, List.mem_of_getElem? (i := 1177) (by decide +kernel), List.mem_of_getElem? (i := 1504) (by decide +kernel), List.mem_of_getElem? (i := 1505) (by decide +kernel)⟩
theorem lw_p74 : lw_okq (⟨"CardDrawerModel", "emits", "(II)V"⟩, 60) := ⟨⟨by decide +kernel, by decide +kernel⟩, List.mem_of_getElem? (i := 1177) (by decide +kernel), List.mem_of_getElem? (i := 1508) (by decide +kernel), List.mem_of_getElem? (i := 1509) (by decide +kernel)⟩
theorem lw_p75 : lw_okq (⟨"CardDrawerModel", "readAny", "()I"⟩, 60) := ⟨⟨by decide +kernel, by decide +kernel⟩, List.mem_of_getElem? (i := 1177) (by decide +kernel), List.mem_of_getElem? (i := 1512) (by decide +kernel), List.mem_of_getElem? (i := 1513) (by decide +kernel)⟩
theorem lw_p76 : lw_okq (⟨"CardDrawerModel", "waits", "(I)V"⟩, 60) := ⟨⟨by decide +kernel, by decide +kernel⟩, List.mem_of_getElem? (i := 1177) (by decide +kernel), List.mem_of_getElem? (i := 1516) (by decide +kernel), List.mem_of_getElem? (i := 1517) (by decide +kernel)⟩
theorem lw_p77 : lw_okq (⟨"CardDrawerModel", "readCompared", "()I"⟩, 60) := ⟨⟨by decide +kernel, by decide +kernel⟩, List.mem_of_getElem? (i := 1177) (by decide +kernel), List.mem_of_getElem? (i := 1520) (by decide +kernel), List.mem_of_getElem? (i := 1521) (by decide +kernel)⟩
theorem lw_p78 : lw_okq (⟨"CardDrawerModel", "settles", "(I)V"⟩, 60) := ⟨⟨by decide +kernel, by decide +kernel⟩, List.mem_of_getElem? (i := 1177) (by decide +kernel), List.mem_of_getElem? (i := 1524) (by decide +kernel), List.mem_of_getElem? (i := 1525) (by decide +kernel)⟩
theorem lw_p79 : lw_okq (⟨"CardDrawerModel", "takesLaw", "(I)V"⟩, 60) := ⟨⟨by decide +kernel, by decide +kernel⟩, List.mem_of_getElem? (i := 1177) (by decide +kernel), List.mem_of_getElem? (i := 1528) (by decide +kernel), List.mem_of_getElem? (i := 1529) (by decide +kernel)⟩
def lw_privs_5 : List (MethodName × Nat) := [(⟨"CardDrawerModel", "readCalled", "()I"⟩, 60), (⟨"CardDrawerModel", "readCalledLine", "()I"⟩, 60), (⟨"CardDrawerModel", "readPlan", "()I"⟩, 60), (⟨"CardDrawerModel", "readDeed", "(I)I"⟩, 60), (⟨"CardDrawerModel", "readLaw", "()I"⟩, 60), (⟨"CardDrawerModel", "isLineWord", "()Z"⟩, 60), (⟨"CardDrawerModel", "readSum", "()I"⟩, 60), (⟨"CardDrawerModel", "readProduct", "()I"⟩, 60), (⟨"CardDrawerModel", "readUnit", "()I"⟩, 60), (⟨"CardDrawerModel", "canAsk", "(I)Z"⟩, 60), (⟨"CardDrawerModel", "emits", "(II)V"⟩, 60), (⟨"CardDrawerModel", "readAny", "()I"⟩, 60), (⟨"CardDrawerModel", "waits", "(I)V"⟩, 60), (⟨"CardDrawerModel", "readCompared", "()I"⟩, 60), (⟨"CardDrawerModel", "settles", "(I)V"⟩, 60), (⟨"CardDrawerModel", "takesLaw", "(I)V"⟩, 60)]
theorem lw_r5 : ∀ q ∈ lw_privs_5, lw_okq q := List.forall_mem_cons.mpr ⟨lw_p64, List.forall_mem_cons.mpr ⟨lw_p65, List.forall_mem_cons.mpr ⟨lw_p66, List.forall_mem_cons.mpr ⟨lw_p67, List.forall_mem_cons.mpr ⟨lw_p68, List.forall_mem_cons.mpr ⟨lw_p69, List.forall_mem_cons.mpr ⟨lw_p70, List.forall_mem_cons.mpr ⟨lw_p71, List.forall_mem_cons.mpr ⟨lw_p72, List.forall_mem_cons.mpr ⟨lw_p73, List.forall_mem_cons.mpr ⟨lw_p74, List.forall_mem_cons.mpr ⟨lw_p75, List.forall_mem_cons.mpr ⟨lw_p76, List.forall_mem_cons.mpr ⟨lw_p77, List.forall_mem_cons.mpr ⟨lw_p78, List.forall_mem_cons.mpr ⟨lw_p79, fun _ h => absurd h List.not_mem_nil⟩⟩⟩⟩⟩⟩⟩⟩⟩⟩⟩⟩⟩⟩⟩⟩
theorem lw_p80 : lw_okq (⟨"CardDrawerModel", "takesOther", "(II)V"⟩, 60) := ⟨⟨by decide +kernel, by decide +kernel⟩, List.mem_of_getElem? (i := 1177) (by decide +kernel), List.mem_of_getElem? (i := 1532) (by decide +kernel), List.mem_of_getElem? (i := 1533) (by decide +kernel)⟩
theorem lw_p81 : lw_okq (⟨"CardDrawerModel", "bestCard", "(II)I"⟩, 60) := ⟨⟨by decide +kernel, by decide +kernel⟩, List.mem_of_getElem? (i := 1177) (by decide +kernel), List.mem_of_getElem? (i := 1544) (by decide +kernel), List.mem_of_getElem? (i := 1545) (by decide +kernel)⟩
theorem lw_p82 : lw_okq (⟨"CardDrawerModel", "isKept", "(I)Z"⟩, 60) := ⟨⟨by decide +kernel, by decide +kernel⟩, List.mem_of_getElem? (i := 1177) (by decide +kernel), List.mem_of_getElem? (i := 1548) (by decide +kernel), List.mem_of_getElem? (i := 1549) (by decide +kernel)⟩
theorem lw_p83 : lw_okq (⟨"CardDrawerModel", "holdsOf", "(I)I"⟩, 60) := ⟨⟨by decide +kernel, by decide +kernel⟩, List.mem_of_getElem? (i := 1177) (by decide +kernel), List.mem_of_getElem? (i := 1552) (by decide +kernel), List.mem_of_getElem? (i := 1553) (by decide +kernel)⟩
theorem lw_p84 : lw_okq (⟨"CardDrawerModel", "ageOf", "(I)I"⟩, 60) := ⟨⟨by decide +kernel, by decide +kernel⟩, List.mem_of_getElem? (i := 1177) (by decide +kernel), List.mem_of_getElem? (i := 1556) (by decide +kernel), List.mem_of_getElem? (i := 1557) (by decide +kernel)⟩
theorem lw_p85 : lw_okq (⟨"CardDrawerModel", "greater", "(II)I"⟩, 60) := ⟨⟨by decide +kernel, by decide +kernel⟩, List.mem_of_getElem? (i := 1177) (by decide +kernel), List.mem_of_getElem? (i := 1560) (by decide +kernel), List.mem_of_getElem? (i := 1561) (by decide +kernel)⟩
theorem lw_p86 : lw_okq (⟨"CardDrawerModel", "lawTells", "(IIII)I"⟩, 60) := ⟨⟨by decide +kernel, by decide +kernel⟩, List.mem_of_getElem? (i := 1177) (by decide +kernel), List.mem_of_getElem? (i := 1564) (by decide +kernel), List.mem_of_getElem? (i := 1565) (by decide +kernel)⟩
theorem lw_p87 : lw_okq (⟨"CardDrawerModel", "lineOf", "(I)I"⟩, 60) := ⟨⟨by decide +kernel, by decide +kernel⟩, List.mem_of_getElem? (i := 1177) (by decide +kernel), List.mem_of_getElem? (i := 1568) (by decide +kernel), List.mem_of_getElem? (i := 1569) (by decide +kernel)⟩
theorem lw_p88 : lw_okq (⟨"CardDrawerModel", "runs", "(III)I"⟩, 60) := ⟨⟨by decide +kernel, by decide +kernel⟩, List.mem_of_getElem? (i := 1177) (by decide +kernel), List.mem_of_getElem? (i := 1572) (by decide +kernel), List.mem_of_getElem? (i := 1573) (by decide +kernel)⟩
theorem lw_p89 : lw_okq (⟨"CardDrawerModel", "twoOf", "(III)I"⟩, 60) := ⟨⟨by decide +kernel, by decide +kernel⟩, List.mem_of_getElem? (i := 1177) (by decide +kernel), List.mem_of_getElem? (i := 1576) (by decide +kernel), List.mem_of_getElem? (i := 1577) (by decide +kernel)⟩
theorem lw_p90 : lw_okq (⟨"CardDrawerModel", "held", "(III)I"⟩, 60) := ⟨⟨by decide +kernel, by decide +kernel⟩, List.mem_of_getElem? (i := 1177) (by decide +kernel), List.mem_of_getElem? (i := 1580) (by decide +kernel), List.mem_of_getElem? (i := 1581) (by decide +kernel)⟩
theorem lw_p91 : lw_okq (⟨"CardDrawerModel", "keepsAhead", "()V"⟩, 60) := ⟨⟨by decide +kernel, by decide +kernel⟩, List.mem_of_getElem? (i := 1177) (by decide +kernel), List.mem_of_getElem? (i := 1584) (by decide +kernel), List.mem_of_getElem? (i := 1585) (by decide +kernel)⟩
theorem lw_p92 : lw_okq (⟨"CardDrawerModel", "rings", "(I)I"⟩, 60) := ⟨⟨by decide +kernel, by decide +kernel⟩, List.mem_of_getElem? (i := 1177) (by decide +kernel), List.mem_of_getElem? (i := 1588) (by decide +kernel), List.mem_of_getElem? (i := 1589) (by decide +kernel)⟩
theorem lw_p93 : lw_okq (⟨"CardDrawerModel", "doesHold", "(II)Z"⟩, 60) := ⟨⟨by decide +kernel, by decide +kernel⟩, List.mem_of_getElem? (i := 1177) (by decide +kernel), List.mem_of_getElem? (i := 1592) (by decide +kernel), List.mem_of_getElem? (i := 1593) (by decide +kernel)⟩
theorem lw_p94 : lw_okq (⟨"CardDrawerModel", "draw", "(I)I"⟩, 60) := ⟨⟨by decide +kernel, by decide +kernel⟩, List.mem_of_getElem? (i := 1177) (by decide +kernel), List.mem_of_getElem? (i := 1596) (by decide +kernel), List.mem_of_getElem? (i := 1597) (by decide +kernel)⟩
theorem lw_p95 : lw_okq (⟨"CardDrawerModel", "lesser", "(II)I"⟩, 60) := ⟨⟨by decide +kernel, by decide +kernel⟩, List.mem_of_getElem? (i := 1177) (by decide +kernel), List.mem_of_getElem? (i := 1602) (by decide +kernel), List.mem_of_getElem? (i := 1603) (by decide +kernel)⟩
def lw_privs_6 : List (MethodName × Nat) := [(⟨"CardDrawerModel", "takesOther", "(II)V"⟩, 60), (⟨"CardDrawerModel", "bestCard", "(II)I"⟩, 60), (⟨"CardDrawerModel", "isKept", "(I)Z"⟩, 60), (⟨"CardDrawerModel", "holdsOf", "(I)I"⟩, 60), (⟨"CardDrawerModel", "ageOf", "(I)I"⟩, 60), (⟨"CardDrawerModel", "greater", "(II)I"⟩, 60), (⟨"CardDrawerModel", "lawTells", "(IIII)I"⟩, 60), (⟨"CardDrawerModel", "lineOf", "(I)I"⟩, 60), (⟨"CardDrawerModel", "runs", "(III)I"⟩, 60), (⟨"CardDrawerModel", "twoOf", "(III)I"⟩, 60), (⟨"CardDrawerModel", "held", "(III)I"⟩, 60), (⟨"CardDrawerModel", "keepsAhead", "()V"⟩, 60), (⟨"CardDrawerModel", "rings", "(I)I"⟩, 60), (⟨"CardDrawerModel", "doesHold", "(II)Z"⟩, 60), (⟨"CardDrawerModel", "draw", "(I)I"⟩, 60), (⟨"CardDrawerModel", "lesser", "(II)I"⟩, 60)]
theorem lw_r6 : ∀ q ∈ lw_privs_6, lw_okq q := List.forall_mem_cons.mpr ⟨lw_p80, List.forall_mem_cons.mpr ⟨lw_p81, List.forall_mem_cons.mpr ⟨lw_p82, List.forall_mem_cons.mpr ⟨lw_p83, List.forall_mem_cons.mpr ⟨lw_p84, List.forall_mem_cons.mpr ⟨lw_p85, List.forall_mem_cons.mpr ⟨lw_p86, List.forall_mem_cons.mpr ⟨lw_p87, List.forall_mem_cons.mpr ⟨lw_p88, List.forall_mem_cons.mpr ⟨lw_p89, List.forall_mem_cons.mpr ⟨lw_p90, List.forall_mem_cons.mpr ⟨lw_p91, List.forall_mem_cons.mpr ⟨lw_p92, List.forall_mem_cons.mpr ⟨lw_p93, List.forall_mem_cons.mpr ⟨lw_p94, List.forall_mem_cons.mpr ⟨lw_p95, fun _ h => absurd h List.not_mem_nil⟩⟩⟩⟩⟩⟩⟩⟩⟩⟩⟩⟩⟩⟩⟩⟩
theorem lw_p96 : lw_okq (⟨"CardDrawerModel", "notes", "(III)V"⟩, 60) := ⟨⟨by decide +kernel, by decide +kernel⟩, List.mem_of_getElem? (i := 1177) (by decide +kernel), List.mem_of_getElem? (i := 1606) (by decide +kernel), List.mem_of_getElem? (i := 1607) (by decide +kernel)⟩
theorem lw_p97 : lw_okq (⟨"CardDrawerModel", "throwsSome", "(I)I"⟩, 60) := ⟨⟨by decide +kernel, by decide +kernel⟩, List.mem_of_getElem? (i := 1177) (by decide +kernel), List.mem_of_getElem? (i := 1614) (by decide +kernel), List.mem_of_getElem? (i := 1615) (by decide +kernel)⟩
theorem lw_p98 : lw_okq (⟨"CardDrawerModel", "leastWorth", "()I"⟩, 60) := ⟨⟨by decide +kernel, by decide +kernel⟩, List.mem_of_getElem? (i := 1177) (by decide +kernel), List.mem_of_getElem? (i := 1618) (by decide +kernel), List.mem_of_getElem? (i := 1619) (by decide +kernel)⟩
theorem lw_p99 : lw_okq (⟨"CardDrawerModel", "worthOf", "(I)I"⟩, 60) := ⟨⟨by decide +kernel, by decide +kernel⟩, List.mem_of_getElem? (i := 1177) (by decide +kernel), List.mem_of_getElem? (i := 1622) (by decide +kernel), List.mem_of_getElem? (i := 1623) (by decide +kernel)⟩
theorem lw_p100 : lw_okq (⟨"CardDrawerModel", "finds", "(I)V"⟩, 60) := ⟨⟨by decide +kernel, by decide +kernel⟩, List.mem_of_getElem? (i := 1177) (by decide +kernel), List.mem_of_getElem? (i := 1630) (by decide +kernel), List.mem_of_getElem? (i := 1631) (by decide +kernel)⟩
theorem lw_p101 : lw_okq (⟨"CardDrawerModel", "bends", "(I)V"⟩, 60) := ⟨⟨by decide +kernel, by decide +kernel⟩, List.mem_of_getElem? (i := 1177) (by decide +kernel), List.mem_of_getElem? (i := 1634) (by decide +kernel), List.mem_of_getElem? (i := 1635) (by decide +kernel)⟩
theorem lw_p102 : lw_okq (⟨"CardDrawerModel", "goesBy", "()I"⟩, 60) := ⟨⟨by decide +kernel, by decide +kernel⟩, List.mem_of_getElem? (i := 1177) (by decide +kernel), List.mem_of_getElem? (i := 1642) (by decide +kernel), List.mem_of_getElem? (i := 1643) (by decide +kernel)⟩
theorem lw_p103 : lw_okq (⟨"CardDrawerModel", "doesDeed", "(I)V"⟩, 60) := ⟨⟨by decide +kernel, by decide +kernel⟩, List.mem_of_getElem? (i := 1177) (by decide +kernel), List.mem_of_getElem? (i := 1646) (by decide +kernel), List.mem_of_getElem? (i := 1647) (by decide +kernel)⟩
theorem lw_p104 : lw_okq (⟨"CardDrawerModel", "isServed", "()Z"⟩, 60) := ⟨⟨by decide +kernel, by decide +kernel⟩, List.mem_of_getElem? (i := 1177) (by decide +kernel), List.mem_of_getElem? (i := 1650) (by decide +kernel), List.mem_of_getElem? (i := 1651) (by decide +kernel)⟩
theorem lw_p105 : lw_okq (⟨"CardDrawerModel", "wears", "(I)V"⟩, 60) := ⟨⟨by decide +kernel, by decide +kernel⟩, List.mem_of_getElem? (i := 1177) (by decide +kernel), List.mem_of_getElem? (i := 1654) (by decide +kernel), List.mem_of_getElem? (i := 1655) (by decide +kernel)⟩
theorem lw_p106 : lw_okq (⟨"CardDrawerModel", "dustOf", "(I)I"⟩, 60) := ⟨⟨by decide +kernel, by decide +kernel⟩, List.mem_of_getElem? (i := 1177) (by decide +kernel), List.mem_of_getElem? (i := 1658) (by decide +kernel), List.mem_of_getElem? (i := 1659) (by decide +kernel)⟩
theorem lw_p107 : lw_okq (⟨"CardDrawerModel", "introducer", "(I)I"⟩, 60) := ⟨⟨by decide +kernel, by decide +kernel⟩, List.mem_of_getElem? (i := 1177) (by decide +kernel), List.mem_of_getElem? (i := 1670) (by decide +kernel), List.mem_of_getElem? (i := 1671) (by decide +kernel)⟩
theorem lw_p108 : lw_okq (⟨"CardDrawerModel", "thinks", "()V"⟩, 60) := ⟨⟨by decide +kernel, by decide +kernel⟩, List.mem_of_getElem? (i := 1177) (by decide +kernel), List.mem_of_getElem? (i := 1686) (by decide +kernel), List.mem_of_getElem? (i := 1687) (by decide +kernel)⟩
theorem lw_p109 : lw_okq (⟨"CardDrawerModel", "keptSet", "()I"⟩, 60) := ⟨⟨by decide +kernel, by decide +kernel⟩, List.mem_of_getElem? (i := 1177) (by decide +kernel), List.mem_of_getElem? (i := 1690) (by decide +kernel), List.mem_of_getElem? (i := 1691) (by decide +kernel)⟩
theorem lw_p110 : lw_okq (⟨"CardDrawerModel", "onesOf", "(I)I"⟩, 60) := ⟨⟨by decide +kernel, by decide +kernel⟩, List.mem_of_getElem? (i := 1177) (by decide +kernel), List.mem_of_getElem? (i := 1694) (by decide +kernel), List.mem_of_getElem? (i := 1695) (by decide +kernel)⟩
theorem lw_p111 : lw_okq (⟨"CardDrawerModel", "endsThought", "()V"⟩, 60) := ⟨⟨by decide +kernel, by decide +kernel⟩, List.mem_of_getElem? (i := 1177) (by decide +kernel), List.mem_of_getElem? (i := 1698) (by decide +kernel), List.mem_of_getElem? (i := 1699) (by decide +kernel)⟩
def lw_privs_7 : List (MethodName × Nat) := [(⟨"CardDrawerModel", "notes", "(III)V"⟩, 60), (⟨"CardDrawerModel", "throwsSome", "(I)I"⟩, 60), (⟨"CardDrawerModel", "leastWorth", "()I"⟩, 60), (⟨"CardDrawerModel", "worthOf", "(I)I"⟩, 60), (⟨"CardDrawerModel", "finds", "(I)V"⟩, 60), (⟨"CardDrawerModel", "bends", "(I)V"⟩, 60), (⟨"CardDrawerModel", "goesBy", "()I"⟩, 60), (⟨"CardDrawerModel", "doesDeed", "(I)V"⟩, 60), (⟨"CardDrawerModel", "isServed", "()Z"⟩, 60), (⟨"CardDrawerModel", "wears", "(I)V"⟩, 60), (⟨"CardDrawerModel", "dustOf", "(I)I"⟩, 60), (⟨"CardDrawerModel", "introducer", "(I)I"⟩, 60), (⟨"CardDrawerModel", "thinks", "()V"⟩, 60), (⟨"CardDrawerModel", "keptSet", "()I"⟩, 60), (⟨"CardDrawerModel", "onesOf", "(I)I"⟩, 60), (⟨"CardDrawerModel", "endsThought", "()V"⟩, 60)]
theorem lw_r7 : ∀ q ∈ lw_privs_7, lw_okq q := List.forall_mem_cons.mpr ⟨lw_p96, List.forall_mem_cons.mpr ⟨lw_p97, List.forall_mem_cons.mpr ⟨lw_p98, List.forall_mem_cons.mpr ⟨lw_p99, List.forall_mem_cons.mpr ⟨lw_p100, List.forall_mem_cons.mpr ⟨lw_p101, List.forall_mem_cons.mpr ⟨lw_p102, List.forall_mem_cons.mpr ⟨lw_p103, List.forall_mem_cons.mpr ⟨lw_p104, List.forall_mem_cons.mpr ⟨lw_p105, List.forall_mem_cons.mpr ⟨lw_p106, List.forall_mem_cons.mpr ⟨lw_p107, List.forall_mem_cons.mpr ⟨lw_p108, List.forall_mem_cons.mpr ⟨lw_p109, List.forall_mem_cons.mpr ⟨lw_p110, List.forall_mem_cons.mpr ⟨lw_p111, fun _ h => absurd h List.not_mem_nil⟩⟩⟩⟩⟩⟩⟩⟩⟩⟩⟩⟩⟩⟩⟩⟩
theorem lw_p112 : lw_okq (⟨"CardDrawerModel", "canBeDated", "()Z"⟩, 60) := ⟨⟨by decide +kernel, by decide +kernel⟩, List.mem_of_getElem? (i := 1177) (by decide +kernel), List.mem_of_getElem? (i := 1710) (by decide +kernel), List.mem_of_getElem? (i := 1711) (by decide +kernel)⟩
theorem lw_p113 : lw_okq (⟨"CardDrawerModel", "ownersOf", "(I)I"⟩, 60) := ⟨⟨by decide +kernel, by decide +kernel⟩, List.mem_of_getElem? (i := 1177) (by decide +kernel), List.mem_of_getElem? (i := 1718) (by decide +kernel), List.mem_of_getElem? (i := 1719) (by decide +kernel)⟩
theorem lw_p114 : lw_okq (⟨"CardDrawerModel", "besideAll", "(I)I"⟩, 60) := ⟨⟨by decide +kernel, by decide +kernel⟩, List.mem_of_getElem? (i := 1177) (by decide +kernel), List.mem_of_getElem? (i := 1722) (by decide +kernel), List.mem_of_getElem? (i := 1723) (by decide +kernel)⟩
theorem lw_p115 : lw_okq (⟨"CardDrawerModel", "has", "(II)Z"⟩, 60) := ⟨⟨by decide +kernel, by decide +kernel⟩, List.mem_of_getElem? (i := 1177) (by decide +kernel), List.mem_of_getElem? (i := 1726) (by decide +kernel), List.mem_of_getElem? (i := 1727) (by decide +kernel)⟩
theorem lw_p116 : lw_okq (⟨"CardDrawerModel", "besideOf", "(I)I"⟩, 60) := ⟨⟨by decide +kernel, by decide +kernel⟩, List.mem_of_getElem? (i := 1177) (by decide +kernel), List.mem_of_getElem? (i := 1730) (by decide +kernel), List.mem_of_getElem? (i := 1731) (by decide +kernel)⟩
theorem lw_p117 : lw_okq (⟨"CardDrawerModel", "lowest", "(I)I"⟩, 60) := ⟨⟨by decide +kernel, by decide +kernel⟩, List.mem_of_getElem? (i := 1177) (by decide +kernel), List.mem_of_getElem? (i := 1734) (by decide +kernel), List.mem_of_getElem? (i := 1735) (by decide +kernel)⟩
theorem lw_p118 : lw_okq (⟨"CardDrawerModel", "ledBy", "(I)I"⟩, 60) := ⟨⟨by decide +kernel, by decide +kernel⟩, List.mem_of_getElem? (i := 1177) (by decide +kernel), List.mem_of_getElem? (i := 1742) (by decide +kernel), List.mem_of_getElem? (i := 1743) (by decide +kernel)⟩
theorem lw_p119 : lw_okq (⟨"CardDrawerModel", "known", "()I"⟩, 60) := ⟨⟨by decide +kernel, by decide +kernel⟩, List.mem_of_getElem? (i := 1177) (by decide +kernel), List.mem_of_getElem? (i := 1754) (by decide +kernel), List.mem_of_getElem? (i := 1755) (by decide +kernel)⟩
theorem lw_p120 : lw_okq (⟨"CardDrawerModel", "foundBy", "(I)I"⟩, 60) := ⟨⟨by decide +kernel, by decide +kernel⟩, List.mem_of_getElem? (i := 1177) (by decide +kernel), List.mem_of_getElem? (i := 1770) (by decide +kernel), List.mem_of_getElem? (i := 1771) (by decide +kernel)⟩
theorem lw_p121 : lw_okq (⟨"CardDrawerModel", "answersIn", "(II)I"⟩, 60) := ⟨⟨by decide +kernel, by decide +kernel⟩, List.mem_of_getElem? (i := 1177) (by decide +kernel), List.mem_of_getElem? (i := 1774) (by decide +kernel), List.mem_of_getElem? (i := 1775) (by decide +kernel)⟩
theorem lw_p122 : lw_okq (⟨"CardDrawerModel", "factOf", "(II)I"⟩, 60) := ⟨⟨by decide +kernel, by decide +kernel⟩, List.mem_of_getElem? (i := 1177) (by decide +kernel), List.mem_of_getElem? (i := 1778) (by decide +kernel), List.mem_of_getElem? (i := 1779) (by decide +kernel)⟩
theorem lw_p123 : lw_okq (⟨"CardDrawerModel", "lookedAt", "(I)I"⟩, 60) := ⟨⟨by decide +kernel, by decide +kernel⟩, List.mem_of_getElem? (i := 1177) (by decide +kernel), List.mem_of_getElem? (i := 1786) (by decide +kernel), List.mem_of_getElem? (i := 1787) (by decide +kernel)⟩
theorem lw_p124 : lw_okq (⟨"CardDrawerModel", "tellsApart", "(I)Z"⟩, 60) := ⟨⟨by decide +kernel, by decide +kernel⟩, List.mem_of_getElem? (i := 1177) (by decide +kernel), List.mem_of_getElem? (i := 1794) (by decide +kernel), List.mem_of_getElem? (i := 1795) (by decide +kernel)⟩
theorem lw_p125 : lw_okq (⟨"CardDrawerModel", "areAlike", "(III)Z"⟩, 60) := ⟨⟨by decide +kernel, by decide +kernel⟩, List.mem_of_getElem? (i := 1177) (by decide +kernel), List.mem_of_getElem? (i := 1798) (by decide +kernel), List.mem_of_getElem? (i := 1799) (by decide +kernel)⟩
theorem lw_p126 : lw_okq (⟨"CardDrawerModel", "isAhead", "(II)Z"⟩, 60) := ⟨⟨by decide +kernel, by decide +kernel⟩, List.mem_of_getElem? (i := 1177) (by decide +kernel), List.mem_of_getElem? (i := 1806) (by decide +kernel), List.mem_of_getElem? (i := 1807) (by decide +kernel)⟩
theorem lw_p127 : lw_okq (⟨"CardDrawerModel", "inCommon", "(II)I"⟩, 60) := ⟨⟨by decide +kernel, by decide +kernel⟩, List.mem_of_getElem? (i := 1177) (by decide +kernel), List.mem_of_getElem? (i := 1814) (by decide +kernel), List.mem_of_getElem? (i := 1815) (by decide +kernel)⟩
def lw_privs_8 : List (MethodName × Nat) := [(⟨"CardDrawerModel", "canBeDated", "()Z"⟩, 60), (⟨"CardDrawerModel", "ownersOf", "(I)I"⟩, 60), (⟨"CardDrawerModel", "besideAll", "(I)I"⟩, 60), (⟨"CardDrawerModel", "has", "(II)Z"⟩, 60), (⟨"CardDrawerModel", "besideOf", "(I)I"⟩, 60), (⟨"CardDrawerModel", "lowest", "(I)I"⟩, 60), (⟨"CardDrawerModel", "ledBy", "(I)I"⟩, 60), (⟨"CardDrawerModel", "known", "()I"⟩, 60), (⟨"CardDrawerModel", "foundBy", "(I)I"⟩, 60), (⟨"CardDrawerModel", "answersIn", "(II)I"⟩, 60), (⟨"CardDrawerModel", "factOf", "(II)I"⟩, 60), (⟨"CardDrawerModel", "lookedAt", "(I)I"⟩, 60), (⟨"CardDrawerModel", "tellsApart", "(I)Z"⟩, 60), (⟨"CardDrawerModel", "areAlike", "(III)Z"⟩, 60), (⟨"CardDrawerModel", "isAhead", "(II)Z"⟩, 60), (⟨"CardDrawerModel", "inCommon", "(II)I"⟩, 60)]
theorem lw_r8 : ∀ q ∈ lw_privs_8, lw_okq q := List.forall_mem_cons.mpr ⟨lw_p112, List.forall_mem_cons.mpr ⟨lw_p113, List.forall_mem_cons.mpr ⟨lw_p114, List.forall_mem_cons.mpr ⟨lw_p115, List.forall_mem_cons.mpr ⟨lw_p116, List.forall_mem_cons.mpr ⟨lw_p117, List.forall_mem_cons.mpr ⟨lw_p118, List.forall_mem_cons.mpr ⟨lw_p119, List.forall_mem_cons.mpr ⟨lw_p120, List.forall_mem_cons.mpr ⟨lw_p121, List.forall_mem_cons.mpr ⟨lw_p122, List.forall_mem_cons.mpr ⟨lw_p123, List.forall_mem_cons.mpr ⟨lw_p124, List.forall_mem_cons.mpr ⟨lw_p125, List.forall_mem_cons.mpr ⟨lw_p126, List.forall_mem_cons.mpr ⟨lw_p127, fun _ h => absurd h List.not_mem_nil⟩⟩⟩⟩⟩⟩⟩⟩⟩⟩⟩⟩⟩⟩⟩⟩
theorem lw_p128 : lw_okq (⟨"CardDrawerModel", "writers", "()I"⟩, 60) := ⟨⟨by decide +kernel, by decide +kernel⟩, List.mem_of_getElem? (i := 1177) (by decide +kernel), List.mem_of_getElem? (i := 1826) (by decide +kernel), List.mem_of_getElem? (i := 1827) (by decide +kernel)⟩
theorem lw_p129 : lw_okq (⟨"CardDrawerModel", "hasSuch", "(III)Z"⟩, 60) := ⟨⟨by decide +kernel, by decide +kernel⟩, List.mem_of_getElem? (i := 1177) (by decide +kernel), List.mem_of_getElem? (i := 1830) (by decide +kernel), List.mem_of_getElem? (i := 1831) (by decide +kernel)⟩
theorem lw_p130 : lw_okq (⟨"CardDrawerModel", "isNoted", "(II)Z"⟩, 60) := ⟨⟨by decide +kernel, by decide +kernel⟩, List.mem_of_getElem? (i := 1177) (by decide +kernel), List.mem_of_getElem? (i := 1834) (by decide +kernel), List.mem_of_getElem? (i := 1835) (by decide +kernel)⟩
theorem lw_p131 : lw_okq (⟨"CardDrawerModel", "heapOf", "(I)I"⟩, 60) := ⟨⟨by decide +kernel, by decide +kernel⟩, List.mem_of_getElem? (i := 1177) (by decide +kernel), List.mem_of_getElem? (i := 1847) (by decide +kernel), List.mem_of_getElem? (i := 1848) (by decide +kernel)⟩
theorem lw_p132 : lw_okq (⟨"CardDrawerModel", "keepsOne", "(I)I"⟩, 60) := ⟨⟨by decide +kernel, by decide +kernel⟩, List.mem_of_getElem? (i := 1177) (by decide +kernel), List.mem_of_getElem? (i := 1855) (by decide +kernel), List.mem_of_getElem? (i := 1856) (by decide +kernel)⟩
theorem lw_p133 : lw_okq (⟨"CardDrawerModel", "keepsTold", "()V"⟩, 60) := ⟨⟨by decide +kernel, by decide +kernel⟩, List.mem_of_getElem? (i := 1177) (by decide +kernel), List.mem_of_getElem? (i := 1859) (by decide +kernel), List.mem_of_getElem? (i := 1860) (by decide +kernel)⟩
theorem lw_p134 : lw_okq (⟨"CardDrawerModel", "keepsTexts", "()V"⟩, 60) := ⟨⟨by decide +kernel, by decide +kernel⟩, List.mem_of_getElem? (i := 1177) (by decide +kernel), List.mem_of_getElem? (i := 1863) (by decide +kernel), List.mem_of_getElem? (i := 1864) (by decide +kernel)⟩
theorem lw_p135 : lw_okq (⟨"CardDrawerModel", "keepsLaw", "()V"⟩, 60) := ⟨⟨by decide +kernel, by decide +kernel⟩, List.mem_of_getElem? (i := 1177) (by decide +kernel), List.mem_of_getElem? (i := 1867) (by decide +kernel), List.mem_of_getElem? (i := 1868) (by decide +kernel)⟩
def lw_privs_9 : List (MethodName × Nat) := [(⟨"CardDrawerModel", "writers", "()I"⟩, 60), (⟨"CardDrawerModel", "hasSuch", "(III)Z"⟩, 60), (⟨"CardDrawerModel", "isNoted", "(II)Z"⟩, 60), (⟨"CardDrawerModel", "heapOf", "(I)I"⟩, 60), (⟨"CardDrawerModel", "keepsOne", "(I)I"⟩, 60), (⟨"CardDrawerModel", "keepsTold", "()V"⟩, 60), (⟨"CardDrawerModel", "keepsTexts", "()V"⟩, 60), (⟨"CardDrawerModel", "keepsLaw", "()V"⟩, 60)]
theorem lw_r9 : ∀ q ∈ lw_privs_9, lw_okq q := List.forall_mem_cons.mpr ⟨lw_p128, List.forall_mem_cons.mpr ⟨lw_p129, List.forall_mem_cons.mpr ⟨lw_p130, List.forall_mem_cons.mpr ⟨lw_p131, List.forall_mem_cons.mpr ⟨lw_p132, List.forall_mem_cons.mpr ⟨lw_p133, List.forall_mem_cons.mpr ⟨lw_p134, List.forall_mem_cons.mpr ⟨lw_p135, fun _ h => absurd h List.not_mem_nil⟩⟩⟩⟩⟩⟩⟩⟩
def lw_privs : List (MethodName × Nat) := lw_privs_1 ++ (lw_privs_2 ++ (lw_privs_3 ++ (lw_privs_4 ++ (lw_privs_5 ++ (lw_privs_6 ++ (lw_privs_7 ++ (lw_privs_8 ++ (lw_privs_9))))))))
def lw_tbl : List Cond := k2_sels lw_privs ++ tables_1
theorem lw_privs_ok : ∀ q ∈ lw_privs, lw_okq q := by
  show ∀ q ∈ lw_privs_1 ++ (lw_privs_2 ++ (lw_privs_3 ++ (lw_privs_4 ++ (lw_privs_5 ++ (lw_privs_6 ++ (lw_privs_7 ++ (lw_privs_8 ++ (lw_privs_9)))))))), lw_okq q
  exact List.forall_mem_append.mpr ⟨lw_r1, List.forall_mem_append.mpr ⟨lw_r2, List.forall_mem_append.mpr ⟨lw_r3, List.forall_mem_append.mpr ⟨lw_r4, List.forall_mem_append.mpr ⟨lw_r5, List.forall_mem_append.mpr ⟨lw_r6, List.forall_mem_append.mpr ⟨lw_r7, List.forall_mem_append.mpr ⟨lw_r8, lw_r9⟩⟩⟩⟩⟩⟩⟩⟩
end
section
/-! A small machine of plain numbers, beside the machine itself: cells are shapes (fixed) and numbers (functions). -/
/-- a cell's shape: an object (its number in 'classes', of each field none: a number, some r: a reference), a row of numbers, a row of references -/
abbrev pSh : Type := (Nat × List (Option (Option Nat))) ⊕ (Nat ⊕ Nat)
/-- numbers: of fields, of rows, of rows of references -/
abbrev pS : Type := (Nat → Nat → Int32) × (Nat → Nat → Int32) × (Nat → Nat → Option Nat)
/-- an instruction: its pc, itself, two numbers and a constant that were looked up, the place of its link -/
abbrev pI : Type := Nat × Instr × Nat × Nat × Int32 × Nat
/-- a method: how many arguments (its object too), how many places, whose object (number + 1; 0: none asked), its code -/
abbrev pM : Type := Nat × Nat × Nat × List pI
def sA (A : Nat → Nat → Int32) (i j : Nat) (v : Int32) : Nat → Nat → Int32 := fun a => if a = i then upd (A i) j v else A a
def sR (A : Nat → Nat → Option Nat) (i j : Nat) (v : Option Nat) : Nat → Nat → Option Nat := fun a => if a = i then va_up (A i) j v else A a
def sW (A : Nat → Nat → Int32) (i : Nat) (f : Nat → Int32) : Nat → Nat → Int32 := fun a => if a = i then f else A a
def inb (i : Int32) (n : Nat) : Bool := decide (0 ≤ i) && decide (i.toNatClampNeg < n)
theorem inb_in {i : Int32} {n : Nat} (h : inb i n = true) : vp_in i n := by
  unfold inb at h
  simp only [Bool.and_eq_true, decide_eq_true_eq] at h
  intro q
  rcases q with q | q
  · exact absurd h.1 (Int32.not_le.mpr q)
  · omega
abbrev pO : Type := Option Nat × List Value × List Value × pS
def pPairs (lo : Int) : List Int → List (Int × Int)
  | [] => []
  | o :: r => (lo, o) :: pPairs (lo + 1) r
def pSw (pc : Nat) (ls st : List Value) (S : pS) (x : Int32) (d : Int) : List (Int × Int) → Option pO
  | [] => some (some ((pc : Int) + d).toNat, ls, st, S)
  | (v, o) :: r => if x = Int32.ofInt v then some (some ((pc : Int) + o).toNat, ls, st, S) else pSw pc ls st S x d r
/-- the texts that are constants: their signs -/
def pTx : Nat → List Int32
  | 0 => [104, 111, 108, 100, 115, 32, 100, 117, 115, 116, 32, 32, 119, 111, 114, 116, 104, 32, 119, 104, 101, 110, 32, 32, 111, 114, 32, 32, 32, 32, 97, 110, 100, 32, 32, 32, 110, 111, 116, 32, 32, 32, 112, 101, 114, 115, 111, 110, 102, 105, 114, 109, 32, 32, 116, 114, 97, 100, 101, 32, 121, 101, 97, 114, 32, 32, 98, 101, 110, 116, 32, 32, 119, 111, 114, 110, 32, 32, 114, 117, 110, 103, 32, 32, 97, 103, 101, 32, 32, 32, 110, 111, 119, 32, 32, 32, 98, 121, 32, 32, 32, 32, 102, 114, 111, 109, 32, 32, 116, 111, 32, 32, 32, 32, 105, 110, 32, 32, 32, 32, 116, 104, 114, 111, 119, 32, 114, 105, 110, 103, 32, 32, 98, 101, 110, 100, 32, 32, 102, 105, 110, 100, 32, 32]
  | _ => [59, 43, 45, 42, 47, 40, 41, 60, 61, 62]
def pIx (c : Int32) : List Int32 → Nat → Int32
  | [], _ => -1
  | b :: l, k => if b = c then nI k else pIx c l (k + 1)
/-- one instruction that neither calls, returns, nor makes a cell: where it jumps (a pc; none: on), and what is then -/
def pStep (G : List pSh) (ls st : List Value) (S : pS) : pI → Option pO
  | (_, .nop, a, _, _, _) => some (none, ls.set a .null, st, S)
  | (_, .iconst _, _, _, c, _) => some (none, ls, .int c :: st, S)
  | (_, .bipush _, _, _, c, _) => some (none, ls, .int c :: st, S)
  | (_, .sipush _, _, _, c, _) => some (none, ls, .int c :: st, S)
  | (_, .ldc _, a, b, c, _) => if b = 0 then some (none, ls, .int c :: st, S) else some (none, ls, .float (UInt32.ofNat a) :: st, S)
  | (_, .ldc_w _, _, _, c, _) => some (none, ls, .int c :: st, S)
  | (_, .iload_n _, a, _, _, _) => match ls[a]? with
    | some (.int x) => some (none, ls, .int x :: st, S)
    | _ => none
  | (_, .iload _, a, _, _, _) => match ls[a]? with
    | some (.int x) => some (none, ls, .int x :: st, S)
    | _ => none
  | (_, .aload_n _, a, _, _, _) => match ls[a]? with
    | some (.ref x) => some (none, ls, .ref x :: st, S)
    | _ => none
  | (_, .istore_n _, a, _, _, _) => match st with
    | .int x :: st => some (none, ls.set a (.int x), st, S)
    | _ => none
  | (_, .istore _, a, _, _, _) => match st with
    | .int x :: st => some (none, ls.set a (.int x), st, S)
    | _ => none
  | (_, .astore_n _, a, _, _, _) => match st with
    | .ref x :: st => some (none, ls.set a (.ref x), st, S)
    | _ => none
  | (_, .iinc _ _, a, _, c, _) => match ls[a]? with
    | some (.int x) => some (none, ls.set a (.int (x + c)), st, S)
    | _ => none
  | (_, .iadd, _, _, _, _) => match st with
    | .int y :: .int x :: st => some (none, ls, .int (x + y) :: st, S)
    | _ => none
  | (_, .isub, _, _, _, _) => match st with
    | .int y :: .int x :: st => some (none, ls, .int (x - y) :: st, S)
    | _ => none
  | (_, .imul, _, _, _, _) => match st with
    | .int y :: .int x :: st => some (none, ls, .int (x * y) :: st, S)
    | _ => none
  | (_, .idiv, _, _, _, _) => match st with
    | .int y :: .int x :: st => if y = 0 then none else some (none, ls, .int (x / y) :: st, S)
    | _ => none
  | (_, .irem, _, _, _, _) => match st with
    | .int y :: .int x :: st => if y = 0 then none else some (none, ls, .int (x - x / y * y) :: st, S)
    | _ => none
  | (_, .iand, _, _, _, _) => match st with
    | .int y :: .int x :: st => some (none, ls, .int (x &&& y) :: st, S)
    | _ => none
  | (_, .ior, _, _, _, _) => match st with
    | .int y :: .int x :: st => some (none, ls, .int (x ||| y) :: st, S)
    | _ => none
  | (_, .ixor, _, _, _, _) => match st with
    | .int y :: .int x :: st => some (none, ls, .int (x ^^^ y) :: st, S)
    | _ => none
  | (_, .ishl, _, _, _, _) => match st with
    | .int y :: .int x :: st => some (none, ls, .int (x <<< (y &&& 31)) :: st, S)
    | _ => none
  | (_, .ishr, _, _, _, _) => match st with
    | .int y :: .int x :: st => some (none, ls, .int (x >>> (y &&& 31)) :: st, S)
    | _ => none
  | (_, .iushr, _, _, _, _) => match st with
    | .int y :: .int x :: st => some (none, ls, .int ((x.toUInt32 >>> (y.toUInt32 &&& Int32.toUInt32 31)).toInt32) :: st, S)
    | _ => none
  | (_, .i2c, _, _, _, _) => match st with
    | .int x :: st => some (none, ls, .int ((x.toUInt32 % 65536).toInt32) :: st, S)
    | _ => none
  | (_, .dup, _, _, _, _) => match st with
    | v :: st => some (none, ls, v :: v :: st, S)
    | _ => none
  | (_, .dup2, _, _, _, _) => match st with
    | v :: w :: st => some (none, ls, v :: w :: v :: w :: st, S)
    | _ => none
  | (_, .pop, _, _, _, _) => match st with
    | _ :: st => some (none, ls, st, S)
    | _ => none
  | (_, .goto _, a, _, _, _) => some (some a, ls, st, S)
  | (_, .ifCond .eq _, a, _, _, _) => match st with
    | .int x :: st => if x = 0 then some (some a, ls, st, S) else some (none, ls, st, S)
    | _ => none
  | (_, .ifCond .ne _, a, _, _, _) => match st with
    | .int x :: st => if x = 0 then some (none, ls, st, S) else some (some a, ls, st, S)
    | _ => none
  | (_, .ifCond .lt _, a, _, _, _) => match st with
    | .int x :: st => if x < 0 then some (some a, ls, st, S) else some (none, ls, st, S)
    | _ => none
  | (_, .ifCond .ge _, a, _, _, _) => match st with
    | .int x :: st => if x < 0 then some (none, ls, st, S) else some (some a, ls, st, S)
    | _ => none
  | (_, .ifCond .gt _, a, _, _, _) => match st with
    | .int x :: st => if x ≤ 0 then some (none, ls, st, S) else some (some a, ls, st, S)
    | _ => none
  | (_, .ifCond .le _, a, _, _, _) => match st with
    | .int x :: st => if x ≤ 0 then some (some a, ls, st, S) else some (none, ls, st, S)
    | _ => none
  | (_, .if_icmp .eq _, a, _, _, _) => match st with
    | .int y :: .int x :: st => if x = y then some (some a, ls, st, S) else some (none, ls, st, S)
    | _ => none
  | (_, .if_icmp .ne _, a, _, _, _) => match st with
    | .int y :: .int x :: st => if x = y then some (none, ls, st, S) else some (some a, ls, st, S)
    | _ => none
  | (_, .if_icmp .lt _, a, _, _, _) => match st with
    | .int y :: .int x :: st => if x < y then some (some a, ls, st, S) else some (none, ls, st, S)
    | _ => none
  | (_, .if_icmp .ge _, a, _, _, _) => match st with
    | .int y :: .int x :: st => if x < y then some (none, ls, st, S) else some (some a, ls, st, S)
    | _ => none
  | (_, .if_icmp .gt _, a, _, _, _) => match st with
    | .int y :: .int x :: st => if x ≤ y then some (none, ls, st, S) else some (some a, ls, st, S)
    | _ => none
  | (_, .if_icmp .le _, a, _, _, _) => match st with
    | .int y :: .int x :: st => if x ≤ y then some (some a, ls, st, S) else some (none, ls, st, S)
    | _ => none
  | (pc, .tableswitch d lo _ offs, _, _, _, _) => match st with
    | .int x :: st => pSw pc ls st S x d (pPairs lo offs.toList)
    | _ => none
  | (pc, .lookupswitch d ps, _, _, _, _) => match st with
    | .int x :: st => pSw pc ls st S x d ps.toList
    | _ => none
  | (_, .getfield _, a, b, _, _) => match st with
    | .ref o :: st => match G[o]? with
      | some (.inl (ci, fl)) => if ci = b then (match fl[a]? with
        | some none => some (none, ls, .int (S.1 o a) :: st, S)
        | some (some (some j)) => some (none, ls, .ref j :: st, S)
        | _ => none) else none
      | _ => none
    | _ => none
  | (_, .putfield _, a, b, c, _) => match st with
    | .int v :: .ref o :: st => match G[o]? with
      | some (.inl (ci, fl)) => if ci = b then (match fl[a]? with
        | some none => if c = 0 ∨ v = 0 ∨ v = 1 then some (none, ls, st, (sA S.1 o a v, S.2.1, S.2.2)) else none
        | _ => none) else none
      | _ => none
    | _ => none
  | (_, .iaload, _, _, _, _) => match st with
    | .int i :: .ref o :: st => match G[o]? with
      | some (.inr (.inl n)) => if inb i n then some (none, ls, .int (S.2.1 o i.toNatClampNeg) :: st, S) else none
      | _ => none
    | _ => none
  | (_, .iastore, _, _, _, _) => match st with
    | .int v :: .int i :: .ref o :: st => match G[o]? with
      | some (.inr (.inl n)) => if inb i n then some (none, ls, st, (S.1, sA S.2.1 o i.toNatClampNeg v, S.2.2)) else none
      | _ => none
    | _ => none
  | (_, .arraylength, _, _, _, _) => match st with
    | .ref o :: st => match G[o]? with
      | some (.inr (.inl n)) => some (none, ls, .int (nI n) :: st, S)
      | some (.inr (.inr n)) => some (none, ls, .int (nI n) :: st, S)
      | _ => none
    | _ => none
  | (_, .aaload, _, _, _, _) => match st with
    | .int i :: .ref o :: st => match G[o]? with
      | some (.inr (.inr n)) => if inb i n then (match S.2.2 o i.toNatClampNeg with
        | some j => some (none, ls, .ref j :: st, S)
        | none => none) else none
      | _ => none
    | _ => none
  | (_, .aastore, _, b, _, _) => match st with
    | .ref j :: .int i :: .ref o :: st => match G[o]?, G[j]? with
      | some (.inr (.inr n)), some (.inl (ci, _)) => if ci = b then (if inb i n then some (none, ls, st, (S.1, S.2.1, sR S.2.2 o i.toNatClampNeg (some j))) else none) else none
      | _, _ => none
    | _ => none
  | (_, .invokespecial _, a, _, _, _) => if a = 9000 then (match st with
    | .ref _ :: st => if st.length ≤ 8 then some (none, ls, st, S) else none
    | _ => none) else none
  | (_, .invokestatic _, a, _, _, _) => if a = 9001 then (match st with
    | .int n :: .int dp :: .ref o1 :: .int sp :: .ref o0 :: st => match G[o0]?, G[o1]? with
      | some (.inr (.inl n0)), some (.inr (.inl n1)) =>
        if 0 ≤ sp ∧ 0 ≤ dp ∧ 0 ≤ n ∧ sp.toNatClampNeg + n.toNatClampNeg ≤ n0 ∧ dp.toNatClampNeg + n.toNatClampNeg ≤ n1 ∧ st.length ≤ 8 then
          some (none, ls, st, (S.1, sW S.2.1 o1 (va_cpy (S.2.1 o0) (S.2.1 o1) sp.toNatClampNeg dp.toNatClampNeg n.toNatClampNeg), S.2.2)) else none
      | _, _ => none
    | _ => none) else if a = 9004 then (match st with
    | .int y :: .int x :: st => if st.length ≤ 8 then some (none, ls, .int (if x < y then y else x) :: st, S) else none
    | _ => none) else if a = 9005 then (match st with
    | .int y :: .int x :: st => if st.length ≤ 8 then some (none, ls, .int (if y < x then y else x) :: st, S) else none
    | _ => none) else none
  | (_, .invokevirtual _, a, _, _, _) => match st with
    | .int i :: .float w :: st => if a = 9002 then (if inb i (pTx w.toNat).length ∧ st.length ≤ 8 then some (none, ls, .int ((pTx w.toNat).getD i.toNatClampNeg 0) :: st, S) else none)
      else if a = 9003 then (if st.length ≤ 8 then some (none, ls, .int (pIx i (pTx w.toNat) 0) :: st, S) else none) else none
    | _ => none
  | _ => none
/-- of what kind an instruction is: 0 a plain one, 1 a return of a number, 2 of nothing, 3 a call, 4 one that makes a cell or puts a reference -/
def pKind : pI → Nat
  | (_, .ireturn, _) => 1
  | (_, .return_, _) => 2
  | (_, .invokevirtual _, a, _) => if a < 9000 then 3 else 0
  | (_, .invokestatic _, a, _) => if a < 9000 then 3 else 0
  | (_, .invokespecial _, a, _) => if a < 9000 then 3 else 0
  | (_, .new _, _) => 4
  | (_, .newarray _, _) => 4
  | (_, .anewarray _, _) => 4
  | (_, .putfield _, _, _, c, _) => if c = 2 then 4 else 0
  | _ => 0
/-- the code from a pc on -/
def pJmp (code : List pI) (pc : Nat) : List pI := code.dropWhile (fun e => e.1 != pc)
def pNext (code is : List pI) : Option Nat → List pI
  | none => is
  | some t => pJmp code t
/-- is the object that is called of the right kind -/
def pRcv (G : List pSh) (r : Nat) (As : List Value) : Bool := if r = 0 then true else match As with
  | .ref o :: _ => match G[o]? with
    | some (.inl (ci, _)) => decide (ci + 1 = r)
    | _ => false
  | _ => false
def pArgs (n : Nat) (st : List Value) : List Value := (st.take n).reverse
def pLs (m : pM) (As : List Value) : List Value := As ++ List.replicate (m.2.1 - m.1) .null
def pPush (b : Nat) (x : Int32) (st : List Value) : List Value := if b = 1 then .int x :: st else st
def pBool (a : Nat) (x : Int32) : Bool := a == 0 || x == 0 || x == 1
/-- a run without a new cell: d how deep calls may go, n how many steps at most -/
def exf (P : Nat → pM) (G : List pSh) : Nat → Nat → Nat → List pI → List Value → List Value → pS → Option (Int32 × pS)
  | 0, _, _, _, _, _, _ => none
  | _ + 1, _, _, [], _, _, _ => none
  | n + 1, d, k, e :: is, ls, st, S =>
    match pKind e with
    | 0 => match pStep G ls st S e with
      | none => none
      | some (j, ls', st', S') => exf P G n d k (pNext (P k).2.2.2 is j) ls' st' S'
    | 1 => match st with
      | [.int x] => if pBool e.2.2.1 x then some (x, S) else none
      | _ => none
    | 2 => match st with
      | [] => some (0, S)
      | _ => none
    | 3 => if 0 < d ∧ (P e.2.2.1).1 ≤ st.length ∧ st.length ≤ (P e.2.2.1).1 + 8 ∧ pRcv G (P e.2.2.1).2.2.1 (pArgs (P e.2.2.1).1 st) = true then
        (match exf P G n (d - 1) e.2.2.1 (P e.2.2.1).2.2.2 (pLs (P e.2.2.1) (pArgs (P e.2.2.1).1 st)) [] S with
          | none => none
          | some (x, S') => exf P G n d k is ls (pPush e.2.2.2.1 x (st.drop (P e.2.2.1).1)) S')
        else none
    | _ => none
theorem exf_cons (P : Nat → pM) (G : List pSh) (n d k : Nat) (e : pI) (is : List pI) (ls st : List Value) (S : pS) : exf P G (n + 1) d k (e :: is) ls st S =
    (match pKind e with
    | 0 => (match pStep G ls st S e with
      | none => none
      | some (j, ls', st', S') => exf P G n d k (pNext (P k).2.2.2 is j) ls' st' S')
    | 1 => (match st with
      | [.int x] => if pBool e.2.2.1 x then some (x, S) else none
      | _ => none)
    | 2 => (match st with
      | [] => some (0, S)
      | _ => none)
    | 3 => if 0 < d ∧ (P e.2.2.1).1 ≤ st.length ∧ st.length ≤ (P e.2.2.1).1 + 8 ∧ pRcv G (P e.2.2.1).2.2.1 (pArgs (P e.2.2.1).1 st) = true then
        (match exf P G n (d - 1) e.2.2.1 (P e.2.2.1).2.2.2 (pLs (P e.2.2.1) (pArgs (P e.2.2.1).1 st)) [] S with
          | none => none
          | some (x, S') => exf P G n d k is ls (pPush e.2.2.2.1 x (st.drop (P e.2.2.1).1)) S')
        else none
    | _ => none) := by
  conv => lhs; unfold exf
theorem exf_zero (P : Nat → pM) (G : List pSh) (d k : Nat) (is : List pI) (ls st : List Value) (S : pS) : exf P G 0 d k is ls st S = none := by
  conv => lhs; unfold exf
theorem exf_nil (P : Nat → pM) (G : List pSh) (n d k : Nat) (ls st : List Value) (S : pS) : exf P G n d k [] ls st S = none := by
  cases n with
  | zero => exact exf_zero ..
  | succ n => conv => lhs; unfold exf
end
section
/-! What the small machine does, the machine itself does: plain instructions. -/
/-- a value of the small machine, as the machine has it: ad the address of each cell, tk of each constant text -/
def pV (ad tk : Nat → Nat) : Value → Value
  | .int x => .int x
  | .ref i => .ref (ad i)
  | .float w => .ref (tk w.toNat)
  | _ => .null
theorem pV_cat (ad tk : Nat → Nat) (v : Value) : (pV ad tk v).category = 1 := by cases v <;> rfl
def pFld (ad : Nat → Nat) (f : Nat → Int32) (k : Nat) : Option (Option Nat) → Value
  | none => .int (f k)
  | some none => .null
  | some (some j) => .ref (ad j)
def pCell (cI cD : ClassId) (ad : Nat → Nat) (S : pS) (i : Nat) : pSh → va_E
  | .inl (ci, fl) => .inr (ci, fl.mapIdx (pFld ad (S.1 i)))
  | .inr (.inl n) => .inl (cI, n, .inl (S.2.1 i))
  | .inr (.inr n) => .inl (cD, n, .inr (.inr (.inr (.inr (fun k => (S.2.2 i k).map ad)))))
def pWld (cI cD : ClassId) (ad : Nat → Nat) (G : List pSh) (S : pS) : va_W := G.mapIdx (fun i sh => (ad i, pCell cI cD ad S i sh))
theorem pWld_at {cI cD : ClassId} {ad : Nat → Nat} {G : List pSh} {S : pS} {i : Nat} {sh : pSh} (h : G[i]? = some sh) : (pWld cI cD ad G S)[i]? = some (ad i, pCell cI cD ad S i sh) := by
  unfold pWld
  rw [List.getElem?_mapIdx, h]
  rfl
theorem pWld_set {cI cD : ClassId} {ad : Nat → Nat} {G : List pSh} {S S' : pS} {i : Nat} {sh : pSh} {x : va_E} (h : G[i]? = some sh) (hx : pCell cI cD ad S' i sh = x) (ho : ∀ j sh', j ≠ i → G[j]? = some sh' → pCell cI cD ad S' j sh' = pCell cI cD ad S j sh') : (pWld cI cD ad G S).set i (ad i, x) = pWld cI cD ad G S' := by
  apply List.ext_getElem?
  intro j
  unfold pWld
  rw [List.getElem?_set, List.getElem?_mapIdx, List.getElem?_mapIdx]
  by_cases hj : i = j
  · subst hj
    have hl : i < G.length := (List.getElem?_eq_some_iff.mp h).1
    simp only [if_true, List.length_mapIdx, hl, h, Option.map_some, hx]
  · simp only [hj, if_false]
    cases hg : G[j]? with
    | none => rfl
    | some sh' => simp [ho j sh' (fun q => hj q.symm) hg]
/-- the machine's places hold what the small machine's do (a null there says nothing) -/
def pHas (ad tk : Nat → Nat) (lsA : Array Slot) (nL : Nat) (ls : List Value) : Prop := lsA.size = nL ∧ lv_wf lsA ∧ ∀ (i : Nat) (v : Value), ls[i]? = some v → v ≠ .null → lsA[i]? = some (.val (pV ad tk v))
def pLv (ad tk : Nat → Nat) (ls : List Value) : List (Nat × Value) := (ls.mapIdx (fun i v => (i, v))).filterMap (fun q => if q.2 = .null then none else some (q.1, pV ad tk q.2))
theorem pLv_mem {ad tk : Nat → Nat} {ls : List Value} {q : Nat × Value} : q ∈ pLv ad tk ls ↔ ∃ v, ls[q.1]? = some v ∧ v ≠ .null ∧ q.2 = pV ad tk v := by
  unfold pLv
  rw [List.mem_filterMap]
  constructor
  · rintro ⟨⟨i, v⟩, h1, h2⟩
    obtain ⟨j, hj⟩ := List.getElem?_of_mem h1
    rw [List.getElem?_mapIdx] at hj
    cases hv : ls[j]? with
    | none => simp [hv] at hj
    | some w =>
      simp only [hv, Option.map_some, Option.some.injEq, Prod.mk.injEq] at hj
      obtain ⟨rfl, rfl⟩ := hj
      dsimp only at h2
      by_cases hn : w = .null
      · simp [hn] at h2
      · rw [if_neg hn] at h2
        cases h2
        exact ⟨w, hv, hn, rfl⟩
  · rintro ⟨v, h1, h2, h3⟩
    refine ⟨(q.1, v), List.mem_of_getElem? (i := q.1) (by rw [List.getElem?_mapIdx, h1]; rfl), ?_⟩
    rw [if_neg h2, ← h3]
theorem pHas.lv {ad tk : Nat → Nat} {lsA : Array Slot} {nL : Nat} {ls : List Value} (h : pHas ad tk lsA nL ls) : lv_has lsA nL (pLv ad tk ls) := by
  refine ⟨h.1, h.2.1, fun q hq => ?_⟩
  obtain ⟨v, h1, h2, h3⟩ := pLv_mem.mp hq
  rw [h3]
  exact h.2.2 _ v h1 h2
theorem pHas.store {ad tk : Nat → Nat} {lsA : Array Slot} {nL i : Nat} {ls : List Value} {v : Value} (h : lv_has lsA nL ((i, pV ad tk v) :: (pLv ad tk ls).filter (fun q => !(q.1 == i) && !(q.1 + 1 == i && q.2.category == 2)))) : pHas ad tk lsA nL (ls.set i v) := by
  refine ⟨h.1, h.2.1, fun j w hj hw => ?_⟩
  rw [List.getElem?_set] at hj
  by_cases hij : i = j
  · subst hij
    by_cases hl : i < ls.length
    · simp only [if_true, hl] at hj
      cases hj
      exact h.2.2 (i, _) List.mem_cons_self
    · simp [hl] at hj
  · simp only [hij, if_false] at hj
    refine h.2.2 (j, pV ad tk w) (List.mem_cons_of_mem _ (List.mem_filter.mpr ⟨pLv_mem.mpr ⟨w, hj, hw, rfl⟩, ?_⟩))
    have h1 : (j == i) = false := by simpa using fun q => hij q.symm
    simp [h1, pV_cat]
theorem pHas.kill {ad tk : Nat → Nat} {lsA : Array Slot} {nL i : Nat} {ls : List Value} (h : pHas ad tk lsA nL ls) : pHas ad tk lsA nL (ls.set i .null) := by
  refine ⟨h.1, h.2.1, fun j w hj hw => ?_⟩
  rw [List.getElem?_set] at hj
  by_cases hij : i = j
  · subst hij
    by_cases hl : i < ls.length
    · simp only [if_true, hl] at hj
      cases hj
      exact absurd rfl hw
    · simp [hl] at hj
  · simp only [hij, if_false] at hj
    exact h.2.2 j w hj hw
theorem pFld_set {ad : Nat → Nat} {f : Nat → Int32} {fl : List (Option (Option Nat))} {a : Nat} {v : Int32} (h : fl[a]? = some none) : (fl.mapIdx (pFld ad f)).set a (.int v) = fl.mapIdx (pFld ad (upd f a v)) := by
  apply List.ext_getElem?
  intro j
  rw [List.getElem?_set, List.getElem?_mapIdx, List.getElem?_mapIdx, List.length_mapIdx]
  by_cases hj : a = j
  · subst hj
    have hl : a < fl.length := (List.getElem?_eq_some_iff.mp h).1
    simp only [if_true, hl, h, Option.map_some, pFld, upd]
  · simp only [hj, if_false]
    cases hg : fl[j]? with
    | none => rfl
    | some o =>
      have hj' : j ≠ a := fun q => hj q.symm
      cases o with
      | none => simp [pFld, upd, hj']
      | some o => cases o <;> simp [pFld]
theorem pSw_spec {pc : Nat} {ls st : List Value} {S : pS} {x : Int32} {d : Int} {r : List (Int × Int)} {z : pO} (h : pSw pc ls st S x d r = some z) : ∃ off, z = (some ((pc : Int) + off).toNat, ls, st, S) ∧ (((∀ q ∈ r, x ≠ Int32.ofInt q.1) ∧ off = d) ∨ ∃ i : Nat, ∃ q, r[i]? = some q ∧ x = Int32.ofInt q.1 ∧ off = q.2 ∧ ∀ j, j < i → ∀ q', r[j]? = some q' → x ≠ Int32.ofInt q'.1) := by
  induction r with
  | nil =>
    rw [pSw] at h
    cases h
    exact ⟨d, rfl, Or.inl ⟨fun q hq => absurd hq List.not_mem_nil, rfl⟩⟩
  | cons q r ih =>
    obtain ⟨v, o⟩ := q
    rw [pSw] at h
    by_cases hx : x = Int32.ofInt v
    · rw [if_pos hx] at h
      cases h
      exact ⟨o, rfl, Or.inr ⟨0, (v, o), rfl, hx, rfl, fun j hj => absurd hj (Nat.not_lt_zero j)⟩⟩
    · rw [if_neg hx] at h
      obtain ⟨off, h1, h2⟩ := ih h
      refine ⟨off, h1, ?_⟩
      rcases h2 with ⟨h2, h3⟩ | ⟨i, q, h2, h3, h4, h5⟩
      · refine Or.inl ⟨fun q hq => ?_, h3⟩
        rcases List.mem_cons.mp hq with rfl | hq
        · exact hx
        · exact h2 q hq
      · refine Or.inr ⟨i + 1, q, h2, h3, h4, fun j hj q' hq' => ?_⟩
        cases j with
        | zero => cases hq'; exact hx
        | succ j => exact h5 j (by omega) q' hq'
end
section
/-- what a plain instruction's row asks for: its bytes, what was looked up, where it goes on -/
def EOk (cl : List vw_C) (tys : List (ClassId × FieldType)) (cD : ClassId) (GW : List Cond) (own : String) (bytes : ByteArray) (nL : Nat) (ini : Bool) (nx : Option Nat) : pI → Prop
  | (pc, .nop, _, _, _, _) => nx = some pc
  | (pc, .iconst i, _, _, c, _) => decode bytes pc = .ok (.iconst i, 1) ∧ Int32.ofInt i = c ∧ nx = some (pc + 1)
  | (pc, .bipush i, _, _, c, _) => decode bytes pc = .ok (.bipush i, 2) ∧ (Int8.ofInt i).toInt32 = c ∧ nx = some (pc + 2)
  | (pc, .sipush i, _, _, c, _) => decode bytes pc = .ok (.sipush i, 3) ∧ (Int16.ofInt i).toInt32 = c ∧ nx = some (pc + 3)
  | (pc, .ldc i, _, b, c, _) => decode bytes pc = .ok (.ldc i, 2) ∧ nx = some (pc + 2) ∧ b = 0 ∧ Cond.constant own i c ∈ GW
  | (pc, .ldc_w i, _, _, c, _) => decode bytes pc = .ok (.ldc_w i, 3) ∧ nx = some (pc + 3) ∧ Cond.constant own i c ∈ GW
  | (pc, .iload_n k, a, _, _, _) => decode bytes pc = .ok (.iload_n k, 1) ∧ nx = some (pc + 1) ∧ (k : Nat) = a
  | (pc, .iload k, a, _, _, _) => decode bytes pc = .ok (.iload k, 2) ∧ nx = some (pc + 2) ∧ k = a
  | (pc, .aload_n k, a, _, _, _) => decode bytes pc = .ok (.aload_n k, 1) ∧ nx = some (pc + 1) ∧ (k : Nat) = a
  | (pc, .istore_n k, a, _, _, _) => decode bytes pc = .ok (.istore_n k, 1) ∧ nx = some (pc + 1) ∧ (k : Nat) = a ∧ a < nL
  | (pc, .istore k, a, _, _, _) => decode bytes pc = .ok (.istore k, 2) ∧ nx = some (pc + 2) ∧ k = a ∧ a < nL
  | (pc, .astore_n k, a, _, _, _) => decode bytes pc = .ok (.astore_n k, 1) ∧ nx = some (pc + 1) ∧ (k : Nat) = a ∧ a < nL
  | (pc, .iinc k n, a, _, c, _) => decode bytes pc = .ok (.iinc k n, 3) ∧ nx = some (pc + 3) ∧ k = a ∧ a < nL ∧ Int32.ofInt n = c
  | (pc, .iadd, _, _, _, _) => decode bytes pc = .ok (.iadd, 1) ∧ nx = some (pc + 1)
  | (pc, .isub, _, _, _, _) => decode bytes pc = .ok (.isub, 1) ∧ nx = some (pc + 1)
  | (pc, .imul, _, _, _, _) => decode bytes pc = .ok (.imul, 1) ∧ nx = some (pc + 1)
  | (pc, .iand, _, _, _, _) => decode bytes pc = .ok (.iand, 1) ∧ nx = some (pc + 1)
  | (pc, .ior, _, _, _, _) => decode bytes pc = .ok (.ior, 1) ∧ nx = some (pc + 1)
  | (pc, .ixor, _, _, _, _) => decode bytes pc = .ok (.ixor, 1) ∧ nx = some (pc + 1)
  | (pc, .ishl, _, _, _, _) => decode bytes pc = .ok (.ishl, 1) ∧ nx = some (pc + 1)
  | (pc, .ishr, _, _, _, _) => decode bytes pc = .ok (.ishr, 1) ∧ nx = some (pc + 1)
  | (pc, .idiv, _, _, _, _) => decode bytes pc = .ok (.idiv, 1) ∧ nx = some (pc + 1)
  | (pc, .irem, _, _, _, _) => decode bytes pc = .ok (.irem, 1) ∧ nx = some (pc + 1)
  | (pc, .iushr, _, _, _, _) => decode bytes pc = .ok (.iushr, 1) ∧ nx = some (pc + 1)
  | (pc, .i2c, _, _, _, _) => decode bytes pc = .ok (.i2c, 1) ∧ nx = some (pc + 1)
  | (pc, .dup, _, _, _, _) => decode bytes pc = .ok (.dup, 1) ∧ nx = some (pc + 1)
  | (pc, .dup2, _, _, _, _) => decode bytes pc = .ok (.dup2, 1) ∧ nx = some (pc + 1)
  | (pc, .pop, _, _, _, _) => decode bytes pc = .ok (.pop, 1) ∧ nx = some (pc + 1)
  | (pc, .iaload, _, _, _, _) => decode bytes pc = .ok (.iaload, 1) ∧ nx = some (pc + 1)
  | (pc, .iastore, _, _, _, _) => decode bytes pc = .ok (.iastore, 1) ∧ nx = some (pc + 1)
  | (pc, .arraylength, _, _, _, _) => decode bytes pc = .ok (.arraylength, 1) ∧ nx = some (pc + 1)
  | (pc, .aaload, _, _, _, _) => decode bytes pc = .ok (.aaload, 1) ∧ nx = some (pc + 1)
  | (pc, .aastore, _, b, _, _) => decode bytes pc = .ok (.aastore, 1) ∧ nx = some (pc + 1) ∧ ∃ r, cl[b]? = some r ∧ tys[1]? = some (cD, .object r.1)
  | (pc, .goto off, a, _, _, _) => decode bytes pc = .ok (.goto off, 3) ∧ (pc : Int) + off = (a : Int)
  | (pc, .ifCond co off, a, _, _, _) => decode bytes pc = .ok (.ifCond co off, 3) ∧ nx = some (pc + 3) ∧ (pc : Int) + off = (a : Int)
  | (pc, .if_icmp co off, a, _, _, _) => decode bytes pc = .ok (.if_icmp co off, 3) ∧ nx = some (pc + 3) ∧ (pc : Int) + off = (a : Int)
  | (pc, .tableswitch d lo hi offs, _, _, _, _) => (∃ len, decode bytes pc = .ok (.tableswitch d lo hi offs, len)) ∧ 0 ≤ (pc : Int) + d ∧ (∀ o ∈ offs.toList, 0 ≤ (pc : Int) + o) ∧ hi = lo + offs.toList.length - 1 ∧ -2147483648 ≤ lo ∧ hi ≤ 2147483647
  | (pc, .lookupswitch d ps, _, _, _, _) => (∃ len, decode bytes pc = .ok (.lookupswitch d ps, len)) ∧ (ps.toList.zip (ps.toList.drop 1)).all (fun (a, next) => a.1 < next.1) = true ∧ 0 ≤ (pc : Int) + d ∧ ∀ q ∈ ps.toList, 0 ≤ (pc : Int) + q.2 ∧ -2147483648 ≤ q.1 ∧ q.1 ≤ 2147483647
  | (pc, .getfield i, a, b, _, _) => decode bytes pc = .ok (.getfield i, 3) ∧ nx = some (pc + 3) ∧ ∃ (C : String) (T : u_T) (N : Nat), cl[b]? = some (C, T, N) ∧ a < N ∧ (∀ w ∈ u_ws C T N, w ∈ GW) ∧ Cond.fieldLink own i (T a).1 (T a).2.1 (T a).2.2.1 ∈ GW
  | (pc, .putfield i, a, b, c, _) => decode bytes pc = .ok (.putfield i, 3) ∧ nx = some (pc + 3) ∧ ∃ (C : String) (T : u_T) (N : Nat) (ty : Nat → FieldType), cl[b]? = some (C, T, N) ∧ a < N ∧ (∀ w ∈ u_ws C T N, w ∈ GW) ∧ Cond.fieldLink own i (T a).1 (T a).2.1 (T a).2.2.1 ∈ GW ∧ (∀ k, k < N → parseFieldDescriptor (T k).2.2.1 = some (ty k)) ∧ (∀ x, x < N → ∀ y, y < N → x ≠ y → (T x).2.1 ≠ (T y).2.1) ∧ ((c = 0 ∧ ty a = .int) ∨ (c = 1 ∧ ty a = .boolean) ∨ (c = 2 ∧ ((∃ n, ty a = .object n) ∨ ∃ t, ty a = .array t))) ∧ ((T a).2.2.2 = false ∨ ((T a).2.2.2 = true ∧ ini = true ∧ (T a).1 = own))
  | (pc, .invokespecial i, a, _, _, _) => a = 9000 ∧ decode bytes pc = .ok (.invokespecial i, 3) ∧ nx = some (pc + 3) ∧ Cond.methodLink own i Lib.objectInit ∈ GW ∧ Cond.instanceMethod Lib.objectInit ∈ GW ∧ Cond.code Lib.objectInit ⟨#[0xb1]⟩ 1 none ∈ GW
  | (pc, .invokestatic i, a, _, _, _) => decode bytes pc = .ok (.invokestatic i, 3) ∧ nx = some (pc + 3) ∧ ((a = 9001 ∧ Cond.methodLink own i arraycopyName ∈ GW ∧ Cond.native arraycopyName ∈ GW ∧ Cond.static arraycopyName ∈ GW ∧ Cond.initialized "java/lang/System" ∈ GW) ∨
      (a = 9004 ∧ Cond.methodLink own i Lib.Math.max.name ∈ GW ∧ Cond.static Lib.Math.max.name ∈ GW ∧ Cond.initialized "java/lang/Math" ∈ GW ∧ Cond.code Lib.Math.max.name Lib.Math.max.code 2 (some .int) ∈ GW) ∨
      (a = 9005 ∧ Cond.methodLink own i Lib.Math.min.name ∈ GW ∧ Cond.static Lib.Math.min.name ∈ GW ∧ Cond.initialized "java/lang/Math" ∈ GW ∧ Cond.code Lib.Math.min.name Lib.Math.min.code 2 (some .int) ∈ GW))
  | _ => False
def pTo (nx : Option Nat) (pc : Nat) : Option Nat → Prop
  | none => nx = some pc
  | some t => pc = t
theorem pV_sum (ad tk : Nat → Nat) (st : List Value) : ((st.map (pV ad tk)).map fun v => v.category).sum = st.length := by
  induction st with
  | nil => rfl
  | cons v st ih => simp only [List.map_cons, List.sum_cons, pV_cat, ih, List.length_cons]; omega
theorem pPairs_get : ∀ (offs : List Int) (lo : Int) (i : Nat) (q : Int × Int), (pPairs lo offs)[i]? = some q → q.1 = lo + i ∧ offs[i]? = some q.2
  | [], lo, i, q, h => by simp [pPairs] at h
  | o :: r, lo, 0, q, h => by simp [pPairs] at h; subst h; simp
  | o :: r, lo, i + 1, q, h => by
    have h' : (pPairs (lo + 1) r)[i]? = some q := by simpa [pPairs] using h
    obtain ⟨h1, h2⟩ := pPairs_get r (lo + 1) i q h'
    refine ⟨?_, by simpa using h2⟩
    rw [h1]
    push_cast
    omega
theorem pPairs_in : ∀ (offs : List Int) (lo : Int) (i : Nat), i < offs.length → ∃ o, offs[i]? = some o ∧ (pPairs lo offs)[i]? = some (lo + i, o)
  | [], lo, i, h => absurd h (Nat.not_lt_zero i)
  | o :: r, lo, 0, _ => ⟨o, rfl, by simp [pPairs]⟩
  | o :: r, lo, i + 1, h => by
    obtain ⟨o', h1, h2⟩ := pPairs_in r (lo + 1) i (by simpa using h)
    refine ⟨o', by simpa using h1, ?_⟩
    show (pPairs (lo + 1) r)[i]? = _
    rw [h2]
    congr 2
    push_cast
    omega
theorem i32_ofInt {x : Int32} {v : Int} (h1 : -2147483648 ≤ v) (h2 : v ≤ 2147483647) : x = Int32.ofInt v ↔ x.toInt = v := by
  constructor
  · intro h
    rw [h, Int32.toInt_ofInt_of_le h1 (by omega)]
  · intro h
    rw [← h, Int32.ofInt_toInt]
theorem lk_off : ∀ (ps : List (Int × Int)) (d v : Int), Op.lookupswitch.offset ps d v = ((ps.find? (fun q => q.1 == v)).map (·.2)).getD d
  | [], d, v => by simp [Op.lookupswitch.offset]
  | (a, o) :: r, d, v => by
    by_cases h : a = v
    · simp [Op.lookupswitch.offset, h]
    · simp [Op.lookupswitch.offset, h]
      exact lk_off r d v
set_option maxHeartbeats 4000000 in
theorem pw_step {p : Program} {l : Launch} {e : Env} {R : Room} {s : State} {m : MethodId} {args : Array Value} {below : List Frame} {meth : Method} {c : Code} {cells slots : Nat} {Q : State → Prop} {D : va_G} {cl : List vw_C} {tys : List (ClassId × FieldType)} {cI cD : ClassId} {ad tk : Nat → Nat} {A : Nat → Prop} {H0 : Heap} {GW : List Cond} {own : String} {bytes : ByteArray} {nL : Nat} {ini : Bool}
    (hx : p.tables.exec = Jvm.exec) (hb : c.code = bytes) (hml : c.maxLocals = nL) (hts : ∀ w ∈ GW, w.before args s = true) (hown : s.vm.findClass own = some m.cls) (hini : ini = true → meth.name = "<init>") (hK : va_K D cl tys s) (ht0 : tys[0]? = some (cI, .int)) {CD : String} (ht1 : tys[1]? = some (cD, .object CD)) (hRf : 1 ≤ R.frames) (hRl : 2000 ≤ R.locals) (hRc : cells ≤ R.cells ∧ slots ≤ R.slots)
    {en : pI} {nx : Option Nat} (hk : pKind en = 0) (hE : EOk cl tys cD GW own bytes nL ini nx en) {G : List pSh} {S S' : pS} {ls ls' st st' : List Value} {j : Option Nat} (hs : pStep G ls st S en = some (j, ls', st', S'))
    {H : Heap} {locs : List Loc} {lsA : Array Slot} (hl : pHas ad tk lsA nL ls) (hP : va_P D cl (pWld cI cD ad G S) H) (hD : va_D A (pWld cI cD ad G S)) (hS : va_S A H0 H locs)
    (kk : ∀ (H1 : Heap) (locs1 : List Loc) (lsA1 : Array Slot) (pc1 : Nat), pTo nx pc1 j → pHas ad tk lsA1 nL ls' → va_P D cl (pWld cI cD ad G S') H1 → va_D A (pWld cI cD ad G S') → va_S A H0 H1 locs1 → W p l e R s m args below meth c H1 locs1 cells slots Q (F0 m pc1 lsA1 (st'.map (pV ad tk)))) :
    W p l e R s m args below meth c H locs cells slots Q (F0 m en.1 lsA (st.map (pV ad tk))) := by
  obtain ⟨pc, ins, a, b, cc, w⟩ := en
  show W p l e R s m args below meth c H locs cells slots Q (F0 m pc lsA (st.map (pV ad tk)))
  cases ins with
  | nop =>
    simp only [pStep] at hs
    cases hs
    exact kk H locs lsA pc hE hl.kill hP hD hS
  | iconst i =>
    obtain ⟨hd, hc, hn⟩ := hE
    simp only [pStep] at hs
    cases hs
    exact lv_iconst hx hb hd hc (kk H locs lsA _ hn hl hP hD hS)
  | bipush i =>
    obtain ⟨hd, hc, hn⟩ := hE
    simp only [pStep] at hs
    cases hs
    exact lv_bipush hx hb hd hc (kk H locs lsA _ hn hl hP hD hS)
  | sipush i =>
    obtain ⟨hd, hc, hn⟩ := hE
    simp only [pStep] at hs
    cases hs
    exact lv_sipush hx hb hd hc (kk H locs lsA _ hn hl hP hD hS)
  | ldc i =>
    obtain ⟨hd, hn, h0, hc⟩ := hE
    subst h0
    simp only [pStep, if_true] at hs
    cases hs
    exact lv_ldc hx hb hown (hts _ hc) hd (kk H locs lsA _ hn hl hP hD hS)
  | ldc_w i =>
    obtain ⟨hd, hn, hc⟩ := hE
    simp only [pStep] at hs
    cases hs
    exact lv_ldcw hx hb hown (hts _ hc) hd (kk H locs lsA _ hn hl hP hD hS)
  | iload_n k =>
    obtain ⟨hd, hn, ha⟩ := hE
    subst ha
    simp only [pStep] at hs
    split at hs
    · rename_i x hq
      cases hs
      exact lv_iload_n hx hb hd rfl (hl.2.2 _ _ hq (by simp)) (kk H locs lsA _ hn hl hP hD hS)
    · cases hs
  | iload k =>
    obtain ⟨hd, hn, ha⟩ := hE
    subst ha
    simp only [pStep] at hs
    split at hs
    · rename_i x hq
      cases hs
      exact lv_iload hx hb hd (hl.2.2 _ _ hq (by simp)) (kk H locs lsA _ hn hl hP hD hS)
    · cases hs
  | aload_n k =>
    obtain ⟨hd, hn, ha⟩ := hE
    subst ha
    simp only [pStep] at hs
    split at hs
    · rename_i x hq
      cases hs
      exact lv_aload_n hx hb hd rfl (hl.2.2 _ _ hq (by simp)) (kk H locs lsA _ hn hl hP hD hS)
    · cases hs
  | istore_n k =>
    obtain ⟨hd, hn, ha, hlt⟩ := hE
    subst ha
    simp only [pStep] at hs
    split at hs
    · cases hs
      exact lv_istore_n hx hb hd rfl hl.lv hlt rfl (fun lsA1 h1 => kk H locs lsA1 _ hn (pHas.store h1) hP hD hS)
    · cases hs
  | istore k =>
    obtain ⟨hd, hn, ha, hlt⟩ := hE
    subst ha
    simp only [pStep] at hs
    split at hs
    · cases hs
      exact lv_istore hx hb hd hl.lv hlt rfl (fun lsA1 h1 => kk H locs lsA1 _ hn (pHas.store h1) hP hD hS)
    · cases hs
  | astore_n k =>
    obtain ⟨hd, hn, ha, hlt⟩ := hE
    subst ha
    simp only [pStep] at hs
    split at hs
    · cases hs
      exact lv_astore_n hx hb hd rfl hl.lv hlt rfl (fun lsA1 h1 => kk H locs lsA1 _ hn (pHas.store h1) hP hD hS)
    · cases hs
  | iinc k n =>
    obtain ⟨hd, hn, ha, hlt, hc⟩ := hE
    subst ha
    simp only [pStep] at hs
    split at hs
    · rename_i x hq
      cases hs
      obtain ⟨q, hq2⟩ := List.getElem?_of_mem (pLv_mem (ad := ad) (tk := tk) (q := (k, Value.int x)) |>.mpr ⟨.int x, hq, by simp, rfl⟩)
      exact lv_iinc hx hb hd hl.lv (k := q) hq2 (by rw [hc]) hlt rfl (fun lsA1 h1 => kk H locs lsA1 _ hn (pHas.store h1) hP hD hS)
    · cases hs
  | iadd =>
    obtain ⟨hd, hn⟩ := hE
    simp only [pStep] at hs
    split at hs
    · cases hs
      exact lv_iadd hx hb hd (kk H locs lsA _ hn hl hP hD hS)
    · cases hs
  | isub =>
    obtain ⟨hd, hn⟩ := hE
    simp only [pStep] at hs
    split at hs
    · cases hs
      exact lv_isub hx hb hd (kk H locs lsA _ hn hl hP hD hS)
    · cases hs
  | imul =>
    obtain ⟨hd, hn⟩ := hE
    simp only [pStep] at hs
    split at hs
    · cases hs
      exact lv_imul hx hb hd (kk H locs lsA _ hn hl hP hD hS)
    · cases hs
  | iand =>
    obtain ⟨hd, hn⟩ := hE
    simp only [pStep] at hs
    split at hs
    · cases hs
      exact lv_iand hx hb hd (kk H locs lsA _ hn hl hP hD hS)
    · cases hs
  | ior =>
    obtain ⟨hd, hn⟩ := hE
    simp only [pStep] at hs
    split at hs
    · cases hs
      exact lv_ior hx hb hd (kk H locs lsA _ hn hl hP hD hS)
    · cases hs
  | ixor =>
    obtain ⟨hd, hn⟩ := hE
    simp only [pStep] at hs
    split at hs
    · cases hs
      exact lv_ixor hx hb hd (kk H locs lsA _ hn hl hP hD hS)
    · cases hs
  | ishl =>
    obtain ⟨hd, hn⟩ := hE
    simp only [pStep] at hs
    split at hs
    · cases hs
      exact lv_ishl hx hb hd (kk H locs lsA _ hn hl hP hD hS)
    · cases hs
  | ishr =>
    obtain ⟨hd, hn⟩ := hE
    simp only [pStep] at hs
    split at hs
    · cases hs
      exact lv_ishr hx hb hd (kk H locs lsA _ hn hl hP hD hS)
    · cases hs
  | idiv =>
    obtain ⟨hd, hn⟩ := hE
    simp only [pStep] at hs
    split at hs
    · split at hs
      · cases hs
      · rename_i h0
        cases hs
        exact lv_idiv hx hb hd h0 (kk H locs lsA _ hn hl hP hD hS)
    · cases hs
  | irem =>
    obtain ⟨hd, hn⟩ := hE
    simp only [pStep] at hs
    split at hs
    · split at hs
      · cases hs
      · rename_i h0
        cases hs
        exact lv_irem hx hb hd h0 (kk H locs lsA _ hn hl hP hD hS)
    · cases hs
  | iushr =>
    obtain ⟨hd, hn⟩ := hE
    simp only [pStep] at hs
    split at hs
    · cases hs
      exact lv_iushr hx hb hd rfl (kk H locs lsA _ hn hl hP hD hS)
    · cases hs
  | i2c =>
    obtain ⟨hd, hn⟩ := hE
    simp only [pStep] at hs
    split at hs
    · cases hs
      exact lv_i2c hx hb hd rfl (kk H locs lsA _ hn hl hP hD hS)
    · cases hs
  | dup =>
    obtain ⟨hd, hn⟩ := hE
    simp only [pStep] at hs
    split at hs
    · cases hs
      exact lv_dup hx hb hd (pV_cat _ _ _) (kk H locs lsA _ hn hl hP hD hS)
    · cases hs
  | dup2 =>
    obtain ⟨hd, hn⟩ := hE
    simp only [pStep] at hs
    split at hs
    · cases hs
      exact lv_dup2_11 hx hb hd (pV_cat _ _ _) (pV_cat _ _ _) (kk H locs lsA _ hn hl hP hD hS)
    · cases hs
  | pop =>
    obtain ⟨hd, hn⟩ := hE
    simp only [pStep] at hs
    split at hs
    · cases hs
      exact lv_pop hx hb hd (pV_cat _ _ _) (kk H locs lsA _ hn hl hP hD hS)
    · cases hs
  | goto off =>
    obtain ⟨hd, ht⟩ := hE
    simp only [pStep] at hs
    cases hs
    exact lv_goto hx hb hd ht (kk H locs lsA _ rfl hl hP hD hS)
  | ifCond co off =>
    obtain ⟨hd, hn, ht⟩ := hE
    cases co
    · simp only [pStep] at hs
      split at hs
      · rename_i hst
        refine lv_if_eq hx hb hd ht (fun hc => ?_) (fun hc => ?_)
        · have hc := hc
          simp only [hc, if_true, if_false] at hs
          cases hs
          exact kk H locs lsA _ rfl hl hP hD hS
        · have hc := hc
          simp only [hc, if_true, if_false] at hs
          cases hs
          exact kk H locs lsA _ hn hl hP hD hS
      · cases hs
    · simp only [pStep] at hs
      split at hs
      · rename_i hst
        refine lv_if_ne hx hb hd ht (fun hc => ?_) (fun hc => ?_)
        · have hc := hc
          simp only [hc, if_true, if_false] at hs
          cases hs
          exact kk H locs lsA _ rfl hl hP hD hS
        · have hc := hc
          simp only [hc, if_true, if_false] at hs
          cases hs
          exact kk H locs lsA _ hn hl hP hD hS
      · cases hs
    · simp only [pStep] at hs
      split at hs
      · rename_i hst
        refine lv_if_lt hx hb hd ht (fun hc => ?_) (fun hc => ?_)
        · have hc := hc
          simp only [hc, if_true, if_false] at hs
          cases hs
          exact kk H locs lsA _ rfl hl hP hD hS
        · have hc := hc
          simp only [hc, if_true, if_false] at hs
          cases hs
          exact kk H locs lsA _ hn hl hP hD hS
      · cases hs
    · simp only [pStep] at hs
      split at hs
      · rename_i hst
        refine lv_if_ge hx hb hd ht (fun hc => ?_) (fun hc => ?_)
        · have hc := (Int32.not_lt.mpr hc)
          simp only [hc, if_true, if_false] at hs
          cases hs
          exact kk H locs lsA _ rfl hl hP hD hS
        · have hc := (Int32.not_le.mp hc)
          simp only [hc, if_true, if_false] at hs
          cases hs
          exact kk H locs lsA _ hn hl hP hD hS
      · cases hs
    · simp only [pStep] at hs
      split at hs
      · rename_i hst
        refine lv_if_gt hx hb hd ht (fun hc => ?_) (fun hc => ?_)
        · have hc := (Int32.not_le.mpr hc)
          simp only [hc, if_true, if_false] at hs
          cases hs
          exact kk H locs lsA _ rfl hl hP hD hS
        · have hc := (Int32.not_lt.mp hc)
          simp only [hc, if_true, if_false] at hs
          cases hs
          exact kk H locs lsA _ hn hl hP hD hS
      · cases hs
    · simp only [pStep] at hs
      split at hs
      · rename_i hst
        refine lv_if_le hx hb hd ht (fun hc => ?_) (fun hc => ?_)
        · have hc := hc
          simp only [hc, if_true, if_false] at hs
          cases hs
          exact kk H locs lsA _ rfl hl hP hD hS
        · have hc := hc
          simp only [hc, if_true, if_false] at hs
          cases hs
          exact kk H locs lsA _ hn hl hP hD hS
      · cases hs
  | if_icmp co off =>
    obtain ⟨hd, hn, ht⟩ := hE
    cases co
    · simp only [pStep] at hs
      split at hs
      · rename_i hst
        refine lv_icmp_eq hx hb hd ht (fun hc => ?_) (fun hc => ?_)
        · have hc := hc
          simp only [hc, if_true, if_false] at hs
          cases hs
          exact kk H locs lsA _ rfl hl hP hD hS
        · have hc := hc
          simp only [hc, if_true, if_false] at hs
          cases hs
          exact kk H locs lsA _ hn hl hP hD hS
      · cases hs
    · simp only [pStep] at hs
      split at hs
      · rename_i hst
        refine lv_icmp_ne hx hb hd ht (fun hc => ?_) (fun hc => ?_)
        · have hc := hc
          simp only [hc, if_true, if_false] at hs
          cases hs
          exact kk H locs lsA _ rfl hl hP hD hS
        · have hc := hc
          simp only [hc, if_true, if_false] at hs
          cases hs
          exact kk H locs lsA _ hn hl hP hD hS
      · cases hs
    · simp only [pStep] at hs
      split at hs
      · rename_i hst
        refine lv_icmp_lt hx hb hd ht (fun hc => ?_) (fun hc => ?_)
        · have hc := hc
          simp only [hc, if_true, if_false] at hs
          cases hs
          exact kk H locs lsA _ rfl hl hP hD hS
        · have hc := hc
          simp only [hc, if_true, if_false] at hs
          cases hs
          exact kk H locs lsA _ hn hl hP hD hS
      · cases hs
    · simp only [pStep] at hs
      split at hs
      · rename_i hst
        refine lv_icmp_ge hx hb hd ht (fun hc => ?_) (fun hc => ?_)
        · have hc := (Int32.not_lt.mpr hc)
          simp only [hc, if_true, if_false] at hs
          cases hs
          exact kk H locs lsA _ rfl hl hP hD hS
        · have hc := (Int32.not_le.mp hc)
          simp only [hc, if_true, if_false] at hs
          cases hs
          exact kk H locs lsA _ hn hl hP hD hS
      · cases hs
    · simp only [pStep] at hs
      split at hs
      · rename_i hst
        refine lv_icmp_gt hx hb hd ht (fun hc => ?_) (fun hc => ?_)
        · have hc := (Int32.not_le.mpr hc)
          simp only [hc, if_true, if_false] at hs
          cases hs
          exact kk H locs lsA _ rfl hl hP hD hS
        · have hc := (Int32.not_lt.mp hc)
          simp only [hc, if_true, if_false] at hs
          cases hs
          exact kk H locs lsA _ hn hl hP hD hS
      · cases hs
    · simp only [pStep] at hs
      split at hs
      · rename_i hst
        refine lv_icmp_le hx hb hd ht (fun hc => ?_) (fun hc => ?_)
        · have hc := hc
          simp only [hc, if_true, if_false] at hs
          cases hs
          exact kk H locs lsA _ rfl hl hP hD hS
        · have hc := hc
          simp only [hc, if_true, if_false] at hs
          cases hs
          exact kk H locs lsA _ hn hl hP hD hS
      · cases hs
  | tableswitch d lo hi offs =>
    obtain ⟨⟨len, hd⟩, h0, h1, h2, h3, h4⟩ := hE
    simp only [pStep] at hs
    split at hs
    · rename_i x st0
      obtain ⟨off, hz, hq⟩ := pSw_spec hs
      cases hz
      have hlen : ∀ i : Nat, i < offs.toList.length → (-2147483648 ≤ lo + (i : Int) ∧ lo + (i : Int) ≤ 2147483647) := fun i hi => by omega
      rcases hq with ⟨hq, rfl⟩ | ⟨i, q, hq1, hq2, rfl, -⟩
      · refine lv_tableOut hx hb hd ?_ (Int.toNat_of_nonneg h0).symm (kk H locs lsA _ rfl hl hP hD hS)
        by_cases hlo : x.toInt < lo
        · exact Or.inl hlo
        · refine Or.inr (Int.not_le.mp fun hhi => ?_)
          obtain ⟨o, ho1, ho2⟩ := pPairs_in offs.toList lo (x.toInt - lo).toNat (by omega)
          refine hq _ (List.mem_of_getElem? ho2) ((i32_ofInt (hlen _ (by omega)).1 (hlen _ (by omega)).2).mpr ?_)
          show x.toInt = lo + ((x.toInt - lo).toNat : Int)
          omega
      · obtain ⟨e1, e2⟩ := pPairs_get _ _ _ _ hq1
        have hi : i < offs.toList.length := (List.getElem?_eq_some_iff.mp e2).1
        rw [e1] at hq2
        have hx2 : x.toInt = lo + i := (i32_ofInt (hlen i hi).1 (hlen i hi).2).mp hq2
        refine lv_tableIn hx hb hd (by omega) (by omega) (off := q.2) ?_ (Int.toNat_of_nonneg (h1 _ (List.mem_of_getElem? e2))).symm (kk H locs lsA _ rfl hl hP hD hS)
        rw [show (x.toInt - lo).toNat = i by omega, ← Array.getElem?_toList]
        exact e2
    · cases hs
  | lookupswitch d ps =>
    obtain ⟨⟨len, hd⟩, hsort, h0, h1⟩ := hE
    simp only [pStep] at hs
    split at hs
    · rename_i x st0
      obtain ⟨off, hz, hq⟩ := pSw_spec hs
      cases hz
      have key : Op.lookupswitch.offset ps.toList d x.toInt = off ∧ 0 ≤ (pc : Int) + off := by
        rw [lk_off]
        rcases hq with ⟨hq, rfl⟩ | ⟨i, q, hq1, hq2, rfl, hq3⟩
        · refine ⟨?_, h0⟩
          rw [List.find?_eq_none.mpr]
          · rfl
          · intro q hqm hqe
            have hqe : q.1 = x.toInt := by simpa using hqe
            exact hq q hqm ((i32_ofInt (h1 q hqm).2.1 (h1 q hqm).2.2).mpr hqe.symm)
        · have hqm := List.mem_of_getElem? hq1
          refine ⟨?_, (h1 q hqm).1⟩
          have hqx : x.toInt = q.1 := (i32_ofInt (h1 q hqm).2.1 (h1 q hqm).2.2).mp hq2
          have : ps.toList.find? (fun z => z.1 == x.toInt) = some q := by
            obtain ⟨hi, hge⟩ := List.getElem?_eq_some_iff.mp hq1
            rw [List.find?_eq_some_iff_getElem]
            refine ⟨by simp [hqx], i, hi, hge, fun j hj => ?_⟩
            have hjm : ps.toList[j]? = some ps.toList[j] := List.getElem?_eq_getElem (by omega)
            have hjn := hq3 j hj _ hjm
            have hjM := List.mem_of_getElem? hjm
            have : ¬ (ps.toList[j]).1 = x.toInt := fun hz => hjn ((i32_ofInt (h1 _ hjM).2.1 (h1 _ hjM).2.2).mpr hz.symm)
            simpa using this
          rw [this]
          rfl
      exact lv_lookup hx hb hd hsort key.1 (Int.toNat_of_nonneg key.2).symm (kk H locs lsA _ rfl hl hP hD hS)
    · cases hs
  | getfield i =>
    obtain ⟨hd, hn, C, T, N, hc, hN, hin, hlk⟩ := hE
    simp only [pStep] at hs
    split at hs
    · rename_i o st0
      split at hs
      · rename_i ci fl hg
        split at hs
        · rename_i hci
          subst hci
          split at hs
          · rename_i hf
            cases hs
            exact va_get hx hb hts hin hown hK hP o (pWld_at hg) hc a hN (hts _ hlk) (fun _ h => h) (v := .int (S.1 o a)) (by simp [List.getElem?_mapIdx, hf, pFld]) hd (kk H locs lsA _ hn hl hP hD hS)
          · rename_i j0 hf
            cases hs
            exact va_get hx hb hts hin hown hK hP o (pWld_at hg) hc a hN (hts _ hlk) (fun _ h => h) (v := .ref (ad j0)) (by simp [List.getElem?_mapIdx, hf, pFld]) hd (kk H locs lsA _ hn hl hP hD hS)
          · cases hs
        · cases hs
      · cases hs
    · cases hs
  | putfield i =>
    obtain ⟨hd, hn, C, T, N, ty, hc, hN, hin, hlk, hty, hnm, ht, hfin⟩ := hE
    have hc2 : ¬ cc = 2 := fun h => by subst h; simp [pKind] at hk
    simp only [pStep] at hs
    split at hs
    · rename_i v o st0
      split at hs
      · rename_i ci fl hg
        split at hs
        · rename_i hci
          subst hci
          split at hs
          · rename_i hf
            split at hs
            · rename_i hv
              cases hs
              have hfl : a < fl.length := (List.getElem?_eq_some_iff.mp hf).1
              have hnf : narrow (ty a) (.int v) = .int v ∧ fits (ty a) (.int v) = true := by
                rcases ht with ⟨-, h⟩ | ⟨h1, h⟩ | ⟨h, -⟩
                · rw [h]; exact ⟨rfl, rfl⟩
                · rw [h]
                  have hv2 : v = 0 ∨ v = 1 := by
                    rcases hv with h3 | h3
                    · rw [h1] at h3; exact absurd h3 (by decide)
                    · exact h3
                  rcases hv2 with rfl | rfl <;> exact ⟨by decide, by decide⟩
                · exact absurd h hc2
              have hcell : pCell cI cD ad (sA S.1 o a v, S.2.1, S.2.2) o (.inl (ci, fl)) = .inr (ci, (fl.mapIdx (pFld ad (S.1 o))).set a (.int v)) := by
                simp only [pCell, sA, if_true]
                rw [pFld_set hf]
              have hset := pWld_set (cI := cI) (cD := cD) (ad := ad) (S := S) (S' := (sA S.1 o a v, S.2.1, S.2.2)) hg hcell (fun j sh' hj _ => by
                rcases sh' with ⟨ci', fl'⟩ | n | n
                · simp [pCell, sA, hj]
                · rfl
                · rfl)
              rcases hfin with hfin | ⟨hfin, hi1, hown2⟩
              · refine va_put hx hb hts hin ty hty hnm hown hK hP hD hS o (pWld_at hg) hc a hN (hts _ hlk) (fun _ h => h) hfin (hty a hN) hnf.1 hnf.2 (by simpa using hfl) hd (fun H1 locs1 q1 q2 q3 => ?_)
                have q1 := q1
                simp only [pV] at q1 q2
                rw [hset] at q1 q2
                exact kk H1 locs1 lsA _ hn hl q1 q2 q3
              · refine va_putF hx hb hts hin ty hty hnm hown hK hP hD hS o (pWld_at hg) hc a hN (hts _ hlk) (fun _ h => h) hfin (hini hi1) hown2 (hty a hN) hnf.1 hnf.2 (by simpa using hfl) hd (fun H1 locs1 q1 q2 q3 => ?_)
                simp only [pV] at q1 q2
                rw [hset] at q1 q2
                exact kk H1 locs1 lsA _ hn hl q1 q2 q3
            · cases hs
          · cases hs
        · cases hs
      · cases hs
    · cases hs
  | iaload =>
    obtain ⟨hd, hn⟩ := hE
    simp only [pStep] at hs
    split at hs
    · rename_i i o st0
      split at hs
      · rename_i n hg
        split at hs
        · rename_i hi
          cases hs
          exact va_iald hx hb hK hP o 0 (pWld_at hg) ht0 (inb_in hi) hd (kk H locs lsA _ hn hl hP hD hS)
        · cases hs
      · cases hs
    · cases hs
  | iastore =>
    obtain ⟨hd, hn⟩ := hE
    simp only [pStep] at hs
    split at hs
    · rename_i v i o st0
      split at hs
      · rename_i n hg
        split at hs
        · rename_i hi
          cases hs
          have hset := pWld_set (cI := cI) (cD := cD) (ad := ad) (S := S) (S' := (S.1, sA S.2.1 o i.toNatClampNeg v, S.2.2)) (x := .inl (cI, n, .inl (upd (S.2.1 o) i.toNatClampNeg v))) hg (by simp [pCell, sA]) (fun j sh' hj _ => by
            rcases sh' with ⟨ci', fl'⟩ | n | n
            · rfl
            · simp [pCell, sA, hj]
            · rfl)
          refine va_iast hx hb hK hP hD hS o 0 (pWld_at hg) ht0 (inb_in hi) hd (fun H1 locs1 q1 q2 q3 => ?_)
          rw [hset] at q1 q2
          exact kk H1 locs1 lsA _ hn hl q1 q2 q3
        · cases hs
      · cases hs
    · cases hs
  | arraylength =>
    obtain ⟨hd, hn⟩ := hE
    simp only [pStep] at hs
    split at hs
    · rename_i o st0
      split at hs
      · rename_i n hg
        cases hs
        exact va_alen hx hb hK hP o 0 (pWld_at hg) ht0 rfl hd (kk H locs lsA _ hn hl hP hD hS)
      · rename_i n hg
        cases hs
        exact va_alen hx hb hK hP o 1 (pWld_at hg) ht1 rfl hd (kk H locs lsA _ hn hl hP hD hS)
      · cases hs
    · cases hs
  | aaload =>
    obtain ⟨hd, hn⟩ := hE
    simp only [pStep] at hs
    split at hs
    · rename_i i o st0
      split at hs
      · rename_i n hg
        split at hs
        · rename_i hi
          split at hs
          · rename_i j0 hj0
            cases hs
            refine va_aldq hx hb hK hP o 1 (pWld_at hg) ht1 (inb_in hi) hd ?_
            rw [hj0]
            exact kk H locs lsA _ hn hl hP hD hS
          · cases hs
        · cases hs
      · cases hs
    · cases hs
  | aastore =>
    obtain ⟨hd, hn, r, hr, ht1'⟩ := hE
    simp only [pStep] at hs
    split at hs
    · rename_i j0 i o st0
      split at hs
      · rename_i n ci fl hg hgj
        split at hs
        · rename_i hci
          subst hci
          split at hs
          · rename_i hi
            cases hs
            have hset := pWld_set (cI := cI) (cD := cD) (ad := ad) (S := S) (S' := (S.1, S.2.1, sR S.2.2 o i.toNatClampNeg (some j0))) (x := .inl (cD, n, .inr (.inr (.inr (.inr (va_up (fun k => (S.2.2 o k).map ad) i.toNatClampNeg (some (ad j0)))))))) hg (by
              simp only [pCell, sR, if_true]
              congr 7
              funext k
              by_cases hk2 : k = i.toNatClampNeg
              · simp [va_up, hk2]
              · simp [va_up, hk2]) (fun j sh' hj _ => by
              rcases sh' with ⟨ci', fl'⟩ | n | n
              · rfl
              · rfl
              · simp [pCell, sR, hj])
            refine va_astq hx hb hK hP hD hS o 1 j0 ci (pWld_at hg) ht1' (pWld_at hgj) hr (inb_in hi) hd (fun H1 locs1 q1 q2 q3 => ?_)
            rw [hset] at q1 q2
            exact kk H1 locs1 lsA _ hn hl q1 q2 q3
          · cases hs
        · cases hs
      · cases hs
    · cases hs
  | invokespecial i =>
    obtain ⟨ha, hd, hn, h1, h2, h3⟩ := hE
    subst ha
    simp only [pStep, if_true] at hs
    split at hs
    · rename_i o st0
      split at hs
      · rename_i hlen
        cases hs
        refine W.objInit hx hb hown (hts _ h1) (hts _ h2) (hts _ h3) rfl (by rw [hml]; exact hl.1) (a := ad o) (rest := st'.map (pV ad tk)) rfl hd hRf ?_ (kk H locs lsA _ hn hl hP hD hS)
        rw [pV_sum]
        show 2 * 0 + _ + 12 ≤ _
        omega
      · cases hs
    · cases hs
  | invokestatic i =>
    obtain ⟨hd, hn, h1⟩ := hE
    rcases h1 with ⟨rfl, h1, h2, h3, h4⟩ | ⟨rfl, h1, h2, h3, h4⟩ | ⟨rfl, h1, h2, h3, h4⟩
    · simp only [pStep, if_true] at hs
      split at hs
      · rename_i n dp o1 sp o0 st0
        split at hs
        · rename_i n0 n1 hg0 hg1
          split at hs
          · rename_i hcnd
            obtain ⟨c1, c2, c3, c4, c5, c6⟩ := hcnd
            cases hs
            have hset := pWld_set (cI := cI) (cD := cD) (ad := ad) (S := S) (S' := (S.1, sW S.2.1 o1 (va_cpy (S.2.1 o0) (S.2.1 o1) sp.toNatClampNeg dp.toNatClampNeg n.toNatClampNeg), S.2.2)) (x := .inl (cI, n1, .inl (va_cpy (S.2.1 o0) (S.2.1 o1) sp.toNatClampNeg dp.toNatClampNeg n.toNatClampNeg))) hg1 (by simp [pCell, sW]) (fun j sh' hj _ => by
              rcases sh' with ⟨ci', fl'⟩ | n | n
              · rfl
              · simp [pCell, sW, hj]
              · rfl)
            refine va_copyi hx hb (by rw [hml]; exact hl.1.symm) hown (hts _ h1) (hts _ h2) (hts _ h3) (hts _ h4) hK hP hD hS o0 o1 0 0 (pWld_at hg0) (pWld_at hg1) ht0 ht0 rfl (Int32.not_lt.mpr c1) (Int32.not_lt.mpr c2) (Int32.not_lt.mpr c3) c4 c5 (fun _ _ => rfl) hRf ?_ hd (fun H1 locs1 q1 q2 q3 => ?_)
            · rw [pV_sum]
              show _ + (5 + 2 + 11) ≤ _
              omega
            · rw [hset] at q1 q2
              exact kk H1 locs1 lsA _ hn hl q1 q2 q3
          · cases hs
        · cases hs
      · cases hs
    · simp only [pStep, if_true, show ¬ (9004 : Nat) = 9001 by decide, if_false] at hs
      split at hs
      · split at hs
        · rename_i hlen
          cases hs
          refine va_mmax hx hb (by rw [hml]; exact hl.1.symm) hown (hts _ h1) (hts _ h2) (hts _ h3) (hts _ h4) hRf ?_ hRc.1 hRc.2 hd (kk H locs lsA _ hn hl hP hD hS)
          rw [pV_sum]
          omega
        · cases hs
      · cases hs
    · simp only [pStep, if_true, show ¬ (9005 : Nat) = 9001 by decide, show ¬ (9005 : Nat) = 9004 by decide, if_false] at hs
      split at hs
      · split at hs
        · rename_i hlen
          cases hs
          refine va_mmin hx hb (by rw [hml]; exact hl.1.symm) hown (hts _ h1) (hts _ h2) (hts _ h3) (hts _ h4) hRf ?_ hRc.1 hRc.2 hd (kk H locs lsA _ hn hl hP hD hS)
          rw [pV_sum]
          omega
        · cases hs
      · cases hs
  | _ => exact hE.elim
end
section
/-! What the small machine runs without a new cell, the machine itself runs: methods by contract. -/
/-- a method's name, bytes, places, what it returns, and how it is called: 0 on an object, 1 static, 2 a constructor -/
abbrev pN : Type := MethodName × ByteArray × Nat × Option FieldType × Nat
def pRm (d mc ms : Nat) : Room := { frames := d + 10, cells := mc, slots := ms, locals := 400 * d + 3000 }
def pWs (GW : List Cond) (I : Nat → pN) (a : Nat) : List Cond := Cond.code (I a).1 (I a).2.1 (I a).2.2.1 (I a).2.2.2.1 :: GW
def rtOk (b : Nat) (r : Option FieldType) : Prop := (b = 1 ∧ ∃ ty, r = some ty) ∨ (b = 0 ∧ r = none)
/-- a call's row -/
def COk (GW : List Cond) (I : Nat → pN) (own : String) (bytes : ByteArray) (nx : Option Nat) : pI → Prop
  | (pc, .invokevirtual i, a, b, _, _) => decode bytes pc = .ok (.invokevirtual i, 3) ∧ nx = some (pc + 3) ∧ rtOk b (I a).2.2.2.1 ∧ (I a).2.2.2.2 = 0 ∧ Cond.methodLink own i (I a).1 ∈ GW
  | (pc, .invokestatic i, a, b, _, _) => decode bytes pc = .ok (.invokestatic i, 3) ∧ nx = some (pc + 3) ∧ rtOk b (I a).2.2.2.1 ∧ (I a).2.2.2.2 = 1 ∧ (Cond.methodLink own i (I a).1 ∈ GW ∨ ∃ host, Cond.methodLinkNest own i (I a).1 host ∈ GW)
  | _ => False
/-- a return's row -/
def ROk (bytes : ByteArray) (ret : Option FieldType) : pI → Prop
  | (pc, .ireturn, a, _, _, _) => decode bytes pc = .ok (.ireturn, 1) ∧ ((a = 0 ∧ ret = some .int) ∨ (a = 1 ∧ ret = some .boolean))
  | (pc, .return_, _, _, _, _) => decode bytes pc = .ok (.return_, 1) ∧ ret = none
  | _ => False
section RUN
variable {P : Nat → pM} {I : Nat → pN} {G : List pSh} {GW : List Cond} {D : va_G} {cl : List vw_C} {tys : List (ClassId × FieldType)} {cI cD : ClassId} {ad tk : Nat → Nat} {Xt : (Nat → Prop) → State → Prop}
/-- a row of method k -/
def AOk (I : Nat → pN) (GW : List Cond) (cl : List vw_C) (tys : List (ClassId × FieldType)) (cD : ClassId) (k : Nat) (nx : Option Nat) (e : pI) : Prop :=
  (pKind e = 0 → EOk cl tys cD GW (I k).1.cls (I k).2.1 (I k).2.2.1 (decide ((I k).1.name = "<init>")) nx e) ∧ ((pKind e = 1 ∨ pKind e = 2) → ROk (I k).2.1 (I k).2.2.2.1 e) ∧ (pKind e = 3 → COk GW I (I k).1.cls (I k).2.1 nx e)
def LOk (I : Nat → pN) (GW : List Cond) (cl : List vw_C) (tys : List (ClassId × FieldType)) (cD : ClassId) (k : Nat) : List pI → Prop
  | [] => True
  | e :: is => AOk I GW cl tys cD k (is.head?.map (·.1)) e ∧ LOk I GW cl tys cD k is
theorem LOk.drop {k pc : Nat} {is : List pI} (h : LOk I GW cl tys cD k is) : LOk I GW cl tys cD k (pJmp is pc) := by
  induction is with
  | nil => exact h
  | cons e is ih =>
    unfold pJmp
    rw [List.dropWhile_cons]
    split
    · exact ih h.2
    · exact h
theorem pJmp_head {is : List pI} {pc : Nat} {e : pI} {r : List pI} (h : pJmp is pc = e :: r) : e.1 = pc := by
  induction is with
  | nil => simp [pJmp] at h
  | cons e' is ih =>
    unfold pJmp at h
    rw [List.dropWhile_cons] at h
    split at h
    · exact ih h
    · rename_i hn
      cases h
      simpa using hn
/-- what is asked of a method: its words, its rows -/
def MOk (P : Nat → pM) (I : Nat → pN) (GW : List Cond) (cl : List vw_C) (tys : List (ClassId × FieldType)) (cD : ClassId) (a : Nat) : Prop :=
  Cond.code (I a).1 (I a).2.1 (I a).2.2.1 (I a).2.2.2.1 ∈ GW ∧ Cond.initialized (I a).1.cls ∈ GW ∧ plainName (I a).1.cls = true ∧ ((I a).1.cls ≠ "java/lang/invoke/MethodHandle" ∧ (I a).1.cls ≠ "java/lang/invoke/VarHandle") ∧
  (I a).2.2.1 ≤ 300 ∧ (P a).2.1 = (I a).2.2.1 ∧ (P a).1 ≤ (P a).2.1 ∧ (P a).2.2.2.head?.map (·.1) = some 0 ∧ LOk I GW cl tys cD a (P a).2.2.2 ∧
  (((I a).2.2.2.2 = 0 ∧ (parseMethodDescriptor (I a).1.desc).map (fun d => d.parameters.length + 1) = some (P a).1 ∧ Cond.instanceMethod (I a).1 ∈ GW ∧ Cond.selects (I a).1.cls (I a).1 (I a).1 ∈ GW ∧ ∃ ci T N, (P a).2.2.1 = ci + 1 ∧ cl[ci]? = some ((I a).1.cls, T, N)) ∨
   ((I a).2.2.2.2 = 1 ∧ (parseMethodDescriptor (I a).1.desc).map (fun d => d.parameters.length) = some (P a).1 ∧ Cond.static (I a).1 ∈ GW) ∨
   ((I a).2.2.2.2 = 2 ∧ (parseMethodDescriptor (I a).1.desc).map (fun d => d.parameters.length + 1) = some (P a).1 ∧ Cond.instanceMethod (I a).1 ∈ GW ∧ (I a).1.name = "<init>"))
def pPre (D : va_G) (cl : List vw_C) (tys : List (ClassId × FieldType)) (cI cD : ClassId) (ad : Nat → Nat) (Xt : (Nat → Prop) → State → Prop) (G : List pSh) (S : pS) (sz : Nat) (U : State) : Prop :=
  U.heap.size = sz ∧ va_P D cl (pWld cI cD ad G S) U.heap ∧ va_K D cl tys U ∧ va_D (fun _ => True) (pWld cI cD ad G S) ∧ Xt (va_A (pWld cI cD ad G S) sz) U
def pBw (D : va_G) (cl : List vw_C) (tys : List (ClassId × FieldType)) (cI cD : ClassId) (ad : Nat → Nat) (G : List pSh) (S : pS) (A : Nat → Prop) (t : State) : Prop :=
  va_P D cl (pWld cI cD ad G S) t.heap ∧ va_K D cl tys t ∧ va_D A (pWld cI cD ad G S)
def pQ (x : Int32) (Bw : State → Prop) (A : Nat → Prop) : Option FieldType → Array Value → State → Outcome → State → Prop
  | none => va_Qv (fun _ : Unit => True) (fun _ => Bw) A
  | some _ => va_Qi (fun r (_ : Unit) => r = x) (fun _ => Bw) A
/-- the frame of a method -/
def FrOk (I : Nat → pN) (GW : List Cond) (D : va_G) (cl : List vw_C) (tys : List (ClassId × FieldType)) (Xt : (Nat → Prop) → State → Prop) (k : Nat) (p : Program) (s : State) (m : MethodId) (args : Array Value) (meth : Method) (c : Code) (A : Nat → Prop) : Prop :=
  p.tables.exec = Jvm.exec ∧ c.code = (I k).2.1 ∧ c.maxLocals = (I k).2.2.1 ∧ (∀ w ∈ GW, w.before args s = true) ∧ s.vm.findClass (I k).1.cls = some m.cls ∧ meth.sig.returnType = (I k).2.2.2.1 ∧ meth.locks = false ∧ ((I k).1.name = "<init>" → meth.name = "<init>") ∧ va_K D cl tys s ∧ Xt A s ∧ (∀ q, s.heap.size ≤ q → A q)
theorem lva_mem {vs : List Value} (hc : ∀ v ∈ vs, v.category = 1) : ∀ {o i : Nat} {v : Value}, vs[i]? = some v → (o + i, v) ∈ lv_args o vs := by
  induction vs with
  | nil => intro o i v h; simp at h
  | cons w vs ih =>
    intro o i v h
    rw [lv_args]
    cases i with
    | zero => simp at h; subst h; exact List.mem_cons_self
    | succ i =>
      have hw : ¬ w.category = 2 := by rw [hc w List.mem_cons_self]; decide
      rw [if_neg hw]
      have := ih (fun v hv => hc v (List.mem_cons_of_mem _ hv)) (o := o + 1) (i := i) (v := v) (by simpa using h)
      exact List.mem_cons_of_mem _ (by rw [show o + (i + 1) = o + 1 + i by omega]; exact this)
theorem lg_len {vs : List Value} (hc : ∀ v ∈ vs, v.category = 1) : (lg_sl vs).length = vs.length := by
  induction vs with
  | nil => rfl
  | cons w vs ih =>
    have hw : ¬ w.category = 2 := by rw [hc w List.mem_cons_self]; decide
    have := ih (fun v hv => hc v (List.mem_cons_of_mem _ hv))
    simp only [lg_sl, List.flatMap_cons, if_neg hw, List.length_append, List.length_cons, List.length_nil] at this ⊢
    omega
theorem pHas.entry {As : List Value} {nL n : Nat} (h : As.length ≤ nL) : pHas ad tk ((lg_sl (As.map (pV ad tk)) ++ List.replicate (nL - (lg_sl (As.map (pV ad tk))).length) Slot.unset).toArray) nL (As ++ List.replicate n .null) := by
  have hc : ∀ v ∈ As.map (pV ad tk), v.category = 1 := by
    intro v hv
    obtain ⟨w, -, rfl⟩ := List.mem_map.mp hv
    exact pV_cat _ _ _
  have hle : (lg_sl (As.map (pV ad tk))).length ≤ nL := by rw [lg_len hc, List.length_map]; exact h
  have hl := lv_entry (As.map (pV ad tk)) (n := nL) hle
  refine ⟨hl.1, hl.2.1, fun i v hi hv => ?_⟩
  have hlt : i < As.length := by
    rcases Nat.lt_or_ge i As.length with q | q
    · exact q
    · rw [List.getElem?_append_right q, List.getElem?_replicate] at hi
      split at hi
      · cases hi; exact absurd rfl hv
      · cases hi
  rw [List.getElem?_append_left hlt] at hi
  have := hl.2.2 (0 + i, pV ad tk v) (lva_mem hc (by rw [List.getElem?_map, hi]; rfl))
  simpa using this
/-- what a method's run says, as its contract -/
theorem met_of {l : Launch} {d a : Nat} {x : Int32} {S S' : pS} {As : List Value} {sz : Nat} (hM : MOk P I GW cl tys cD a) (hAs : As.length = (P a).1)
    (hW : ∀ {p : Program} {e : Env} {s : State} {m : MethodId} {args : Array Value} {below : List Frame} {meth : Method} {c : Code} {A : Nat → Prop} {lsA : Array Slot}, FrOk I GW D cl tys Xt a p s m args meth c A → pHas ad tk lsA (I a).2.2.1 (pLs (P a) As) → va_P D cl (pWld cI cD ad G S) s.heap → va_D A (pWld cI cD ad G S) → W p l e (pRm d 0 0) s m args below meth c s.heap [] 0 0 (MQ below (pQ x (pBw D cl tys cI cD ad G S' A) A (I a).2.2.2.1) args s 0 0 A) (F0 m 0 lsA [])) :
    Met l (I a).1 (pWs GW I a) (pRm d 0 0) (va_Pc (As.map (pV ad tk)) (pPre D cl tys cI cD ad Xt G S sz)) (pQ x (pBw D cl tys cI cD ad G S' (va_A (pWld cI cD ad G S) sz)) (va_A (pWld cI cD ad G S) sz) (I a).2.2.2.1) 0 0 (va_A (pWld cI cD ad G S) sz) := by
  obtain ⟨hcode, hini, hpl, hne, h300, hpl2, hargs, h0, hL, hkind⟩ := hM
  refine Met.ofW (cc := (I a).2.1) (maxL := (I a).2.2.1) (ret := (I a).2.2.2.1) hpl rfl ?_
  intro p e s m args below meth c s₁ B hml hv
  obtain ⟨rfl, rfl, hP, hK, hD, hX⟩ := hv
  have hts : ∀ w ∈ pWs GW I a, w.before (As.map (pV ad tk)).toArray s = true := atoms_spec (ws := pWs GW I a) B.pre
  have hown : s.vm.findClass (I a).1.cls = some m.cls := findClass_of_methodNamed B.named
  have hin : meth.name = (I a).1.name := (name_of_methodNamed B.named B.method).1
  rw [lg_entry_eq]
  exact hW ⟨B.exec, B.bytes, hml, fun w h => hts w (List.mem_cons_of_mem _ h), hown, B.returns, B.notSynchronized, fun h => hin.trans h, hK, hX, fun q h => Or.inr h⟩ (pHas.entry (by omega)) hP hD.self
set_option maxHeartbeats 4000000 in
/-- THE RUN: what exf answers, the machine does -/
theorem exf_W {l : Launch} (hG : ∀ w ∈ GW, goodWord w = true) (ht0 : tys[0]? = some (cI, .int)) {CD : String} (ht1 : tys[1]? = some (cD, .object CD)) (hM : ∀ a, (∃ e : pI, pKind e = 3 ∧ e.2.2.1 = a) → (P a).2.2.2 ≠ [] → MOk P I GW cl tys cD a)
    (hXc : ∀ {A A' : Nat → Prop} {s U : State}, Xt A s → s.WarmedH U.vm → (∀ q, q < s.heap.size → ¬ A q → U.heap[q]? = s.heap[q]?) → (∀ q, A' q → A q) → Xt A' U) (hXb : ∀ {A : Nat → Prop} {U : State} {g : JFrame} {mk : MethodId} {a : Array Value}, Xt A U → Xt A (U.calling g mk a)) :
    ∀ (n d k : Nat) (is : List pI) (ls st : List Value) (S S' : pS) (x : Int32), exf P G n d k is ls st S = some (x, S') → LOk I GW cl tys cD k is → LOk I GW cl tys cD k (P k).2.2.2 →
    ∀ {p : Program} {e : Env} {s : State} {m : MethodId} {args : Array Value} {below : List Frame} {meth : Method} {c : Code} {A : Nat → Prop} {H : Heap} {locs : List Loc} {lsA : Array Slot} {pc : Nat}, FrOk I GW D cl tys Xt k p s m args meth c A → is.head?.map (·.1) = some pc → pHas ad tk lsA (I k).2.2.1 ls → va_P D cl (pWld cI cD ad G S) H → va_D A (pWld cI cD ad G S) → va_S A s.heap H locs →
      W p l e (pRm d 0 0) s m args below meth c H locs 0 0 (MQ below (pQ x (pBw D cl tys cI cD ad G S' A) A (I k).2.2.2.1) args s 0 0 A) (F0 m pc lsA (st.map (pV ad tk))) := by
  intro n
  induction n with
  | zero => intro d k is ls st S S' x h; rw [exf_zero] at h; cases h
  | succ n ih =>
    intro d k is ls st S S' x h hL hLk p e s m args below meth c A H locs lsA pc hF hpc hl hP hD hS
    cases is with
    | nil => rw [exf_nil] at h; cases h
    | cons en is =>
      have hpc : pc = en.1 := by simpa using hpc.symm
      subst hpc
      obtain ⟨hA1, hL⟩ := hL
      obtain ⟨hE0, hE1, hE3⟩ := hA1
      obtain ⟨hx, hb, hml, hts, hown, hr, hlocks, hin, hK, hX, hA⟩ := id hF
      rw [exf_cons] at h
      split at h
      · -- a plain instruction
        rename_i hk
        split at h
        · cases h
        · rename_i j ls' st' S1 hs
          refine pw_step hx hb hml hts hown (fun q => hin (by simpa using q)) hK ht0 ht1 (by show 1 ≤ d + 10; omega) (by show 2000 ≤ 400 * d + 3000; omega) ⟨Nat.zero_le _, Nat.zero_le _⟩ hk (hE0 hk) hs hl hP hD hS ?_
          intro H1 locs1 lsA1 pc1 hto hl1 hP1 hD1 hS1
          cases hn : pNext (P k).2.2.2 is j with
          | nil => rw [hn, exf_nil] at h; cases h
          | cons e2 is2 =>
            refine ih d k _ ls' st' S1 S' x h ?_ hLk hF ?_ hl1 hP1 hD1 hS1
            · cases j with
              | none => exact hL
              | some t => exact LOk.drop hLk
            · rw [hn]
              cases j with
              | none =>
                have hn : is = e2 :: is2 := hn
                have hto : is.head?.map (·.1) = some pc1 := hto
                rw [hn] at hto
                exact hto
              | some t =>
                have hto : pc1 = t := hto
                rw [hto, ← pJmp_head (hn : pJmp _ t = e2 :: is2)]
                rfl
      · -- a number is returned
        rename_i hk
        have hE := hE1 (Or.inl hk)
        split at h
        · rename_i x0
          split at h
          · rename_i hbx
            cases h
            obtain ⟨pc, ins, a, b, cc, w⟩ := en
            cases ins with
            | ireturn =>
              obtain ⟨hd, hret⟩ := hE
              have hnar : ∃ ty, (I k).2.2.2.1 = some ty ∧ narrow ty (.int x) = .int x := by
                rcases hret with ⟨-, h2⟩ | ⟨h1, h2⟩
                · exact ⟨_, h2, rfl⟩
                · refine ⟨_, h2, ?_⟩
                  have hbx : pBool a x = true := hbx
                  rw [h1] at hbx
                  have : x = 0 ∨ x = 1 := by simpa [pBool] using hbx
                  rcases this with rfl | rfl <;> decide
              obtain ⟨ty, hty, hnar⟩ := hnar
              refine W.zret hx hb (hr.trans hty) hnar (fun t ht hW => ?_) hS.2.2 hd hlocks
              rw [hty]
              exact ⟨⟨x, (), rfl, rfl, by rw [ht]; exact hP, va_K.moved hW.alike hK, hD⟩, hS.F ht⟩
            | return_ => cases hk
            | _ => exact hE.elim
          · cases h
        · cases h
      · -- nothing is returned
        rename_i hk
        have hE := hE1 (Or.inr hk)
        split at h
        · cases h
          obtain ⟨pc, ins, a, b, cc, w⟩ := en
          cases ins with
          | return_ =>
            obtain ⟨hd, hret⟩ := hE
            refine W.vret hx hb (hr.trans hret) (fun t ht hW => ?_) hS.2.2 hd hlocks
            rw [hret]
            exact ⟨⟨(), rfl, trivial, by rw [ht]; exact hP, va_K.moved hW.alike hK, hD⟩, hS.F ht⟩
          | ireturn => cases hk
          | _ => exact hE.elim
        · cases h
      · -- a call
        rename_i hk
        have hE := hE3 hk
        split at h
        · rename_i hg
          obtain ⟨hd0, hge, hle, hrc⟩ := hg
          split at h
          · cases h
          · rename_i x1 S1 hcall
            obtain ⟨d, rfl⟩ : ∃ d', d = d' + 1 := ⟨d - 1, by omega⟩
            simp only [Nat.add_sub_cancel] at hcall
            have hnil : (P en.2.2.1).2.2.2 ≠ [] := fun q => by rw [q, exf_nil] at hcall; cases hcall
            have hMa := hM en.2.2.1 ⟨en, hk, rfl⟩ hnil
            obtain ⟨hcode, hiniw, hpl, hne, h300, hpl2, hargs, h0, hLa, hkind⟩ := id hMa
            have hAl : (pArgs (P en.2.2.1).1 st).length = (P en.2.2.1).1 := by simp [pArgs]; omega
            have hmet : Met l (I en.2.2.1).1 (pWs GW I en.2.2.1) (pRm d 0 0) (va_Pc ((pArgs (P en.2.2.1).1 st).map (pV ad tk)) (pPre D cl tys cI cD ad Xt G S H.size)) (pQ x1 (pBw D cl tys cI cD ad G S1 (va_A (pWld cI cD ad G S) H.size)) (va_A (pWld cI cD ad G S) H.size) (I en.2.2.1).2.2.2.1) 0 0 (va_A (pWld cI cD ad G S) H.size) :=
              met_of hMa hAl (fun hF2 hl2 hP2 hD2 => ih d en.2.2.1 _ _ [] S S1 x1 hcall hLa hLa hF2 h0 hl2 hP2 hD2 va_S.rf)
            have hAA : ∀ q, va_A (pWld cI cD ad G S) H.size q → A q := by
              rintro q (⟨k2, e2, h2⟩ | h2)
              · exact hD.2 k2 (q, e2) h2
              · exact hA q (Nat.le_trans hS.1 h2)
            have hblind : FrameBlind (va_Pc ((pArgs (P en.2.2.1).1 st).map (pV ad tk)) (pPre D cl tys cI cD ad Xt G S H.size)) := by
              rintro a U g mk ⟨q0, q1, q2, q3, q4, q5⟩
              exact ⟨q0, q1, q2, va_K.moved (u := U) (U := U.calling g mk a) (Vm.Alike.refl U.vm) q3, q4, hXb q5⟩
            have hpre : ∀ U : State, U.heap = H → s.WarmedH U.vm → pPre D cl tys cI cD ad Xt G S H.size U := by
              intro U hU hW
              refine ⟨by rw [hU], by rw [hU]; exact hP, va_K.moved hW.alike hK, hD.weaken (fun _ _ _ _ => trivial), hXc hX hW ?_ hAA⟩
              rw [hU]
              exact hS.2.1
            have hgood : GoodIn GW (pWs GW I en.2.2.1) := by
              intro w hw
              rcases List.mem_cons.mp hw with rfl | hw
              · exact ⟨hcode, good_of_word (hG _ hcode)⟩
              · exact ⟨hw, good_of_word (hG _ hw)⟩
            have hroom : (pRm d 0 0).frames + 1 ≤ (pRm (d + 1) 0 0).frames ∧ 8 + ((I en.2.2.1).2.2.1 + 11) + (pRm d 0 0).locals ≤ (pRm (d + 1) 0 0).locals := by
              constructor
              · show d + 10 + 1 ≤ d + 1 + 10; omega
              · show 8 + ((I en.2.2.1).2.2.1 + 11) + (400 * d + 3000) ≤ 400 * (d + 1) + 3000; omega
            have hrest : (((st.drop (P en.2.2.1).1).map (pV ad tk)).map fun v => v.category).sum ≤ 8 := by
              rw [pV_sum, List.length_drop]; omega
            have hstk : st.map (pV ad tk) = ((pArgs (P en.2.2.1).1 st).map (pV ad tk)).reverse ++ (st.drop (P en.2.2.1).1).map (pV ad tk) := by
              rw [← List.map_reverse, pArgs, List.reverse_reverse, ← List.map_append, List.take_append_drop]
            -- what comes behind the call
            have hgo : ∀ (t : State) (H1 : Heap) (locs1 : List Loc), t.heap = H1 → pBw D cl tys cI cD ad G S1 (va_A (pWld cI cD ad G S) H.size) t → va_S A s.heap H1 locs1 → ∀ pc1, is.head?.map (·.1) = some pc1 →
                W p l e (pRm (d + 1) 0 0) s m args below meth c H1 locs1 0 0 (MQ below (pQ x (pBw D cl tys cI cD ad G S' A) A (I k).2.2.2.1) args s 0 0 A) (F0 m pc1 lsA ((pPush en.2.2.2.1 x1 (st.drop (P en.2.2.1).1)).map (pV ad tk))) := by
              intro t H1 locs1 ht hB hS1 pc1 hpc1
              obtain ⟨b1, b2, b3⟩ := hB
              rw [ht] at b1
              exact ih (d + 1) k is ls _ S1 S' x h hL hLk hF hpc1 hl b1 (b3.weaken (fun _ q _ h2 => hAA _ h2)) hS1
            have hlim : (0 : Nat) + 0 ≤ (pRm (d + 1) 0 0).cells ∧ (0 : Nat) + 0 ≤ (pRm (d + 1) 0 0).slots := ⟨Nat.le_refl _, Nat.le_refl _⟩
            generalize hAs : pArgs (P en.2.2.1).1 st = As at hAl hmet hblind hrc hstk
            obtain ⟨pc, ins, a, b, cc, w⟩ := en
            -- the three ways back
            have hret : ∀ g, rtOk b (I a).2.2.2.1 → is.head?.map (·.1) = some (pc + 3) → va_Run p l e (pRm (d + 1) 0 0) s m args below meth c H locs 0 0 0 0 (F0 m pc lsA g) ((st.drop (P a).1).map (pV ad tk)) (pQ x1 (pBw D cl tys cI cD ad G S1 (va_A (pWld cI cD ad G S) H.size)) (va_A (pWld cI cD ad G S) H.size) (I a).2.2.2.1 (As.map (pV ad tk)).toArray) (va_A (pWld cI cD ad G S) H.size) →
                W p l e (pRm (d + 1) 0 0) s m args below meth c H locs 0 0 (MQ below (pQ x (pBw D cl tys cI cD ad G S' A) A (I k).2.2.2.1) args s 0 0 A) (F0 m pc lsA g) := by
              intro g hrt hnx hrun
              rcases hrt with ⟨hb1, ty, hty⟩ | ⟨hb0, hty⟩
              · rw [hty] at hrun
                refine va_calli (a := (As.map (pV ad tk)).toArray) hrun hS (fun q _ h2 => hAA q h2) hAA (fun r u t H1 locs1 ht hvm hp1 hB1 hz1 hk1 hS1 => ?_)
                have hp1 : r = x1 := hp1
                subst hp1
                have := hgo t H1 locs1 ht hB1 hS1 _ hnx
                rw [show pPush (pc, ins, a, b, cc, w).2.2.2.1 r (st.drop (P a).1) = .int r :: st.drop (P a).1 from by show pPush b _ _ = _; rw [hb1]; rfl] at this
                exact this
              · rw [hty] at hrun
                refine va_callv (a := (As.map (pV ad tk)).toArray) hrun hS (fun q _ h2 => hAA q h2) hAA (fun u t H1 locs1 ht hvm hp1 hB1 hz1 hk1 hS1 => ?_)
                have := hgo t H1 locs1 ht hB1 hS1 _ hnx
                rw [show pPush (pc, ins, a, b, cc, w).2.2.2.1 x1 (st.drop (P a).1) = st.drop (P a).1 from by show pPush b _ _ = _; rw [hb0]; rfl] at this
                exact this
            have hmh : ∀ n', (parseMethodDescriptor (I a).1.desc).map (fun d => d.parameters.length + 1) = some n' → (parseMethodDescriptor (I a).1.desc).map (fun d => d.parameters.length) = some (n' - 1) := by
              intro n' hn'
              cases hq : parseMethodDescriptor (I a).1.desc with
              | none => rw [hq] at hn'; cases hn'
              | some sg => rw [hq] at hn'; cases hn'; rfl
            cases ins with
            | invokevirtual i =>
              obtain ⟨hd, hnx, hrt, hk0, hlk⟩ := hE
              rcases hkind with ⟨-, hdesc, hinst, hsel, ci, T, N, hci, hcl⟩ | ⟨hk1, -⟩ | ⟨hk2, -⟩
              · have hrc : pRcv G (P a).2.2.1 As = true := hrc
                rw [hci] at hrc
                unfold pRcv at hrc
                rw [if_neg (Nat.succ_ne_zero ci)] at hrc
                split at hrc
                · rename_i o As' hrc0
                  split at hrc
                  · rename_i ci' fl hg
                    have hcc : ci' = ci := by simpa using hrc
                    subst hcc
                    refine hret _ hrt hnx ?_
                    refine va_runV (As := As'.map (pV ad tk)) (b := ad o) (C := (I a).1.cls) (n := (P a).1 - 1) ⟨hx, hb, hml, hown, hts⟩ hmet ⟨callB_of _ hts hgood rfl rfl rfl (hts _ hiniw) (hts _ hlk) ⟨hne.1, hne.2, hmh _ hdesc⟩ hroom, hts _ hinst, hts _ hsel⟩ ⟨hblind, ?_, fun U hU hW => ⟨rfl, hpre U hU hW⟩⟩ rfl ?_ hl.1 ?_ (lv_room hrest) hd hlim
                    · exact va_recv hK hP hcl (pWld_at hg)
                    · simp only [List.length_map]
                      simp only [List.length_cons] at hAl
                      show As'.length = (P a).1 - 1
                      have hAl : As'.length + 1 = (P a).1 := hAl
                      omega
                    · show st.map (pV ad tk) = _
                      rw [hstk]
                      simp [pV]
                  · cases hrc
                · cases hrc
              · exact absurd (hk0.symm.trans hk1) (by decide)
              · exact absurd (hk0.symm.trans hk2) (by decide)
            | invokestatic i =>
              obtain ⟨hd, hnx, hrt, hk0, hlk⟩ := hE
              rcases hkind with ⟨hk1, -⟩ | ⟨-, hdesc, hstat⟩ | ⟨hk2, -⟩
              · exact absurd (hk1.symm.trans hk0) (by decide)
              · refine hret _ hrt hnx ?_
                rcases hlk with hlk | ⟨host, hlk⟩
                · exact va_runS (As := As.map (pV ad tk)) (n := (P a).1) ⟨hx, hb, hml, hown, hts⟩ hmet ⟨callB_of _ hts hgood rfl rfl rfl (hts _ hiniw) (hts _ hlk) ⟨hne.1, hne.2, hdesc⟩ hroom, hts _ hstat⟩ ⟨hblind, fun U hU hW => ⟨rfl, hpre U hU hW⟩⟩ rfl (by rw [List.length_map]; exact hAl) hl.1 hstk (lv_room hrest) hd hlim
                · exact va_runSN (As := As.map (pV ad tk)) (n := (P a).1) ⟨hx, hb, hml, hown, hts⟩ hmet ⟨va_cnB _ hts hgood rfl rfl rfl (va_any rfl (hts _ hlk)) (hts _ hiniw) ⟨hne.1, hne.2, hdesc⟩ hroom, hts _ hstat, trivial⟩ ⟨hblind, fun U hU hW => ⟨rfl, hpre U hU hW⟩⟩ rfl (by rw [List.length_map]; exact hAl) hl.1 hstk (lv_room hrest) hd hlim
              · exact absurd (hk0.symm.trans hk2) (by decide)
            | _ => exact hE.elim
        · cases h
      · cases h
end RUN
end
section
/-! The equations of the small machine's runs. -/
def pSwK {ρ : Type} (pc : Nat) (ls st : List Value) (S : pS) (K : pO → Option ρ) (x : Int32) (d : Int) : List (Int × Int) → Option ρ
  | [] => K (some ((pc : Int) + d).toNat, ls, st, S)
  | (v, o) :: r => if x = Int32.ofInt v then K (some ((pc : Int) + o).toNat, ls, st, S) else pSwK pc ls st S K x d r
theorem pSwK_eq {ρ : Type} (pc : Nat) (ls st : List Value) (S : pS) (K : pO → Option ρ) (x : Int32) (d : Int) (r : List (Int × Int)) : pSwK pc ls st S K x d r = (pSw pc ls st S x d r).bind K := by
  induction r with
  | nil => rfl
  | cons q r ih =>
    obtain ⟨v, o⟩ := q
    rw [pSwK, pSw]
    split
    · rfl
    · exact ih
def pStepK {ρ : Type} (G : List pSh) (ls st : List Value) (S : pS) (K : pO → Option ρ) : pI → Option ρ
  | (_, .nop, a, _, _, _) => K (none, ls.set a .null, st, S)
  | (_, .iconst _, _, _, c, _) => K (none, ls, .int c :: st, S)
  | (_, .bipush _, _, _, c, _) => K (none, ls, .int c :: st, S)
  | (_, .sipush _, _, _, c, _) => K (none, ls, .int c :: st, S)
  | (_, .ldc _, a, b, c, _) => if b = 0 then K (none, ls, .int c :: st, S) else K (none, ls, .float (UInt32.ofNat a) :: st, S)
  | (_, .ldc_w _, _, _, c, _) => K (none, ls, .int c :: st, S)
  | (_, .iload_n _, a, _, _, _) => match ls[a]? with
    | some (.int x) => K (none, ls, .int x :: st, S)
    | _ => none
  | (_, .iload _, a, _, _, _) => match ls[a]? with
    | some (.int x) => K (none, ls, .int x :: st, S)
    | _ => none
  | (_, .aload_n _, a, _, _, _) => match ls[a]? with
    | some (.ref x) => K (none, ls, .ref x :: st, S)
    | _ => none
  | (_, .istore_n _, a, _, _, _) => match st with
    | .int x :: st => K (none, ls.set a (.int x), st, S)
    | _ => none
  | (_, .istore _, a, _, _, _) => match st with
    | .int x :: st => K (none, ls.set a (.int x), st, S)
    | _ => none
  | (_, .astore_n _, a, _, _, _) => match st with
    | .ref x :: st => K (none, ls.set a (.ref x), st, S)
    | _ => none
  | (_, .iinc _ _, a, _, c, _) => match ls[a]? with
    | some (.int x) => K (none, ls.set a (.int (x + c)), st, S)
    | _ => none
  | (_, .iadd, _, _, _, _) => match st with
    | .int y :: .int x :: st => K (none, ls, .int (x + y) :: st, S)
    | _ => none
  | (_, .isub, _, _, _, _) => match st with
    | .int y :: .int x :: st => K (none, ls, .int (x - y) :: st, S)
    | _ => none
  | (_, .imul, _, _, _, _) => match st with
    | .int y :: .int x :: st => K (none, ls, .int (x * y) :: st, S)
    | _ => none
  | (_, .idiv, _, _, _, _) => match st with
    | .int y :: .int x :: st => if y = 0 then none else K (none, ls, .int (x / y) :: st, S)
    | _ => none
  | (_, .irem, _, _, _, _) => match st with
    | .int y :: .int x :: st => if y = 0 then none else K (none, ls, .int (x - x / y * y) :: st, S)
    | _ => none
  | (_, .iand, _, _, _, _) => match st with
    | .int y :: .int x :: st => K (none, ls, .int (x &&& y) :: st, S)
    | _ => none
  | (_, .ior, _, _, _, _) => match st with
    | .int y :: .int x :: st => K (none, ls, .int (x ||| y) :: st, S)
    | _ => none
  | (_, .ixor, _, _, _, _) => match st with
    | .int y :: .int x :: st => K (none, ls, .int (x ^^^ y) :: st, S)
    | _ => none
  | (_, .ishl, _, _, _, _) => match st with
    | .int y :: .int x :: st => K (none, ls, .int (x <<< (y &&& 31)) :: st, S)
    | _ => none
  | (_, .ishr, _, _, _, _) => match st with
    | .int y :: .int x :: st => K (none, ls, .int (x >>> (y &&& 31)) :: st, S)
    | _ => none
  | (_, .iushr, _, _, _, _) => match st with
    | .int y :: .int x :: st => K (none, ls, .int ((x.toUInt32 >>> (y.toUInt32 &&& Int32.toUInt32 31)).toInt32) :: st, S)
    | _ => none
  | (_, .i2c, _, _, _, _) => match st with
    | .int x :: st => K (none, ls, .int ((x.toUInt32 % 65536).toInt32) :: st, S)
    | _ => none
  | (_, .dup, _, _, _, _) => match st with
    | v :: st => K (none, ls, v :: v :: st, S)
    | _ => none
  | (_, .dup2, _, _, _, _) => match st with
    | v :: w :: st => K (none, ls, v :: w :: v :: w :: st, S)
    | _ => none
  | (_, .pop, _, _, _, _) => match st with
    | _ :: st => K (none, ls, st, S)
    | _ => none
  | (_, .goto _, a, _, _, _) => K (some a, ls, st, S)
  | (_, .ifCond .eq _, a, _, _, _) => match st with
    | .int x :: st => if x = 0 then K (some a, ls, st, S) else K (none, ls, st, S)
    | _ => none
  | (_, .ifCond .ne _, a, _, _, _) => match st with
    | .int x :: st => if x = 0 then K (none, ls, st, S) else K (some a, ls, st, S)
    | _ => none
  | (_, .ifCond .lt _, a, _, _, _) => match st with
    | .int x :: st => if x < 0 then K (some a, ls, st, S) else K (none, ls, st, S)
    | _ => none
  | (_, .ifCond .ge _, a, _, _, _) => match st with
    | .int x :: st => if x < 0 then K (none, ls, st, S) else K (some a, ls, st, S)
    | _ => none
  | (_, .ifCond .gt _, a, _, _, _) => match st with
    | .int x :: st => if x ≤ 0 then K (none, ls, st, S) else K (some a, ls, st, S)
    | _ => none
  | (_, .ifCond .le _, a, _, _, _) => match st with
    | .int x :: st => if x ≤ 0 then K (some a, ls, st, S) else K (none, ls, st, S)
    | _ => none
  | (_, .if_icmp .eq _, a, _, _, _) => match st with
    | .int y :: .int x :: st => if x = y then K (some a, ls, st, S) else K (none, ls, st, S)
    | _ => none
  | (_, .if_icmp .ne _, a, _, _, _) => match st with
    | .int y :: .int x :: st => if x = y then K (none, ls, st, S) else K (some a, ls, st, S)
    | _ => none
  | (_, .if_icmp .lt _, a, _, _, _) => match st with
    | .int y :: .int x :: st => if x < y then K (some a, ls, st, S) else K (none, ls, st, S)
    | _ => none
  | (_, .if_icmp .ge _, a, _, _, _) => match st with
    | .int y :: .int x :: st => if x < y then K (none, ls, st, S) else K (some a, ls, st, S)
    | _ => none
  | (_, .if_icmp .gt _, a, _, _, _) => match st with
    | .int y :: .int x :: st => if x ≤ y then K (none, ls, st, S) else K (some a, ls, st, S)
    | _ => none
  | (_, .if_icmp .le _, a, _, _, _) => match st with
    | .int y :: .int x :: st => if x ≤ y then K (some a, ls, st, S) else K (none, ls, st, S)
    | _ => none
  | (pc, .tableswitch d lo _ offs, _, _, _, _) => match st with
    | .int x :: st => pSwK pc ls st S K x d (pPairs lo offs.toList)
    | _ => none
  | (pc, .lookupswitch d ps, _, _, _, _) => match st with
    | .int x :: st => pSwK pc ls st S K x d ps.toList
    | _ => none
  | (_, .getfield _, a, b, _, _) => match st with
    | .ref o :: st => match G[o]? with
      | some (.inl (ci, fl)) => if ci = b then (match fl[a]? with
        | some none => K (none, ls, .int (S.1 o a) :: st, S)
        | some (some (some j)) => K (none, ls, .ref j :: st, S)
        | _ => none) else none
      | _ => none
    | _ => none
  | (_, .putfield _, a, b, c, _) => match st with
    | .int v :: .ref o :: st => match G[o]? with
      | some (.inl (ci, fl)) => if ci = b then (match fl[a]? with
        | some none => if c = 0 ∨ v = 0 ∨ v = 1 then K (none, ls, st, (sA S.1 o a v, S.2.1, S.2.2)) else none
        | _ => none) else none
      | _ => none
    | _ => none
  | (_, .iaload, _, _, _, _) => match st with
    | .int i :: .ref o :: st => match G[o]? with
      | some (.inr (.inl n)) => if inb i n then K (none, ls, .int (S.2.1 o i.toNatClampNeg) :: st, S) else none
      | _ => none
    | _ => none
  | (_, .iastore, _, _, _, _) => match st with
    | .int v :: .int i :: .ref o :: st => match G[o]? with
      | some (.inr (.inl n)) => if inb i n then K (none, ls, st, (S.1, sA S.2.1 o i.toNatClampNeg v, S.2.2)) else none
      | _ => none
    | _ => none
  | (_, .arraylength, _, _, _, _) => match st with
    | .ref o :: st => match G[o]? with
      | some (.inr (.inl n)) => K (none, ls, .int (nI n) :: st, S)
      | some (.inr (.inr n)) => K (none, ls, .int (nI n) :: st, S)
      | _ => none
    | _ => none
  | (_, .aaload, _, _, _, _) => match st with
    | .int i :: .ref o :: st => match G[o]? with
      | some (.inr (.inr n)) => if inb i n then ((S.2.2 o i.toNatClampNeg).bind (fun j => K (none, ls, .ref j :: st, S))) else none
      | _ => none
    | _ => none
  | (_, .aastore, _, b, _, _) => match st with
    | .ref j :: .int i :: .ref o :: st => match G[o]?, G[j]? with
      | some (.inr (.inr n)), some (.inl (ci, _)) => if ci = b then (if inb i n then K (none, ls, st, (S.1, S.2.1, sR S.2.2 o i.toNatClampNeg (some j))) else none) else none
      | _, _ => none
    | _ => none
  | (_, .invokespecial _, a, _, _, _) => if a = 9000 then (match st with
    | .ref _ :: st => if st.length ≤ 8 then K (none, ls, st, S) else none
    | _ => none) else none
  | (_, .invokestatic _, a, _, _, _) => if a = 9001 then (match st with
    | .int n :: .int dp :: .ref o1 :: .int sp :: .ref o0 :: st => match G[o0]?, G[o1]? with
      | some (.inr (.inl n0)), some (.inr (.inl n1)) =>
        if 0 ≤ sp ∧ 0 ≤ dp ∧ 0 ≤ n ∧ sp.toNatClampNeg + n.toNatClampNeg ≤ n0 ∧ dp.toNatClampNeg + n.toNatClampNeg ≤ n1 ∧ st.length ≤ 8 then
          K (none, ls, st, (S.1, sW S.2.1 o1 (va_cpy (S.2.1 o0) (S.2.1 o1) sp.toNatClampNeg dp.toNatClampNeg n.toNatClampNeg), S.2.2)) else none
      | _, _ => none
    | _ => none) else if a = 9004 then (match st with
    | .int y :: .int x :: st => if st.length ≤ 8 then K (none, ls, .int (if x < y then y else x) :: st, S) else none
    | _ => none) else if a = 9005 then (match st with
    | .int y :: .int x :: st => if st.length ≤ 8 then K (none, ls, .int (if y < x then y else x) :: st, S) else none
    | _ => none) else none
  | (_, .invokevirtual _, a, _, _, _) => match st with
    | .int i :: .float w :: st => if a = 9002 then (if inb i (pTx w.toNat).length ∧ st.length ≤ 8 then K (none, ls, .int ((pTx w.toNat).getD i.toNatClampNeg 0) :: st, S) else none)
      else if a = 9003 then (if st.length ≤ 8 then K (none, ls, .int (pIx i (pTx w.toNat) 0) :: st, S) else none) else none
    | _ => none
  | _ => none
set_option maxHeartbeats 4000000 in
theorem pStepK_eq {ρ : Type} (G : List pSh) (ls st : List Value) (S : pS) (K : pO → Option ρ) (e : pI) : pStepK G ls st S K e = (pStep G ls st S e).bind K := by
  obtain ⟨pc, ins, a, b, c, w⟩ := e
  cases ins with
  | ifCond co off => cases co <;> (rcases st with _ | ⟨v, st⟩ <;> first | rfl | (cases v <;> first | rfl | (simp only [pStepK, pStep]; split <;> rfl)))
  | if_icmp co off => cases co <;> (rcases st with _ | ⟨v, _ | ⟨v2, st⟩⟩ <;> first | rfl | (cases v <;> first | rfl | (cases v2 <;> first | rfl | (simp only [pStepK, pStep]; split <;> rfl))))
  | tableswitch d lo hi offs => rcases st with _ | ⟨v, st⟩ <;> first | rfl | (cases v <;> first | rfl | exact pSwK_eq ..)
  | lookupswitch d ps => rcases st with _ | ⟨v, st⟩ <;> first | rfl | (cases v <;> first | rfl | exact pSwK_eq ..)
  | idiv => rcases st with _ | ⟨v, _ | ⟨v2, st⟩⟩ <;> first | rfl | (cases v <;> first | rfl | (cases v2 <;> first | rfl | (simp only [pStepK, pStep]; split <;> rfl)))
  | irem => rcases st with _ | ⟨v, _ | ⟨v2, st⟩⟩ <;> first | rfl | (cases v <;> first | rfl | (cases v2 <;> first | rfl | (simp only [pStepK, pStep]; split <;> rfl)))
  | ldc i => simp only [pStepK, pStep]; split <;> rfl
  | iload_n i => simp only [pStepK, pStep]; rcases ls[a]? with _ | v <;> first | rfl | (cases v <;> rfl)
  | iload i => simp only [pStepK, pStep]; rcases ls[a]? with _ | v <;> first | rfl | (cases v <;> rfl)
  | aload_n i => simp only [pStepK, pStep]; rcases ls[a]? with _ | v <;> first | rfl | (cases v <;> rfl)
  | iinc i n => simp only [pStepK, pStep]; rcases ls[a]? with _ | v <;> first | rfl | (cases v <;> rfl)
  | getfield i =>
    rcases st with _ | ⟨v, st⟩ <;> first | rfl | skip
    cases v <;> first | rfl | skip
    simp only [pStepK, pStep]
    rcases G[_]? with _ | ⟨ci, fl⟩ | n <;> first | rfl | skip
    dsimp only
    by_cases h : ci = b
    · simp only [h, if_true]
      rcases fl[a]? with _ | _ | _ | j <;> rfl
    · simp only [h, if_false]
      rfl
  | putfield i =>
    rcases st with _ | ⟨v, _ | ⟨v2, st⟩⟩ <;> first | rfl | (cases v <;> rfl) | skip
    cases v <;> first | rfl | skip
    cases v2 <;> first | rfl | skip
    simp only [pStepK, pStep]
    rcases G[_]? with _ | ⟨ci, fl⟩ | n <;> first | rfl | skip
    dsimp only
    by_cases h : ci = b
    · simp only [h, if_true]
      rcases fl[a]? with _ | _ | _ <;> first | rfl | skip
      dsimp only
      split <;> rfl
    · simp only [h, if_false]
      rfl
  | iaload =>
    rcases st with _ | ⟨v, _ | ⟨v2, st⟩⟩ <;> first | rfl | (cases v <;> rfl) | skip
    cases v <;> first | rfl | skip
    cases v2 <;> first | rfl | skip
    simp only [pStepK, pStep]
    rcases G[_]? with _ | ⟨ci, fl⟩ | n | n <;> first | rfl | skip
    dsimp only
    split <;> rfl
  | iastore =>
    rcases st with _ | ⟨v, _ | ⟨v2, _ | ⟨v3, st⟩⟩⟩ <;> first | rfl | (cases v <;> rfl) | (cases v <;> first | rfl | (cases v2 <;> rfl)) | skip
    cases v <;> first | rfl | skip
    cases v2 <;> first | rfl | skip
    cases v3 <;> first | rfl | skip
    simp only [pStepK, pStep]
    rcases G[_]? with _ | ⟨ci, fl⟩ | n | n <;> first | rfl | skip
    dsimp only
    split <;> rfl
  | arraylength =>
    rcases st with _ | ⟨v, st⟩ <;> first | rfl | skip
    cases v <;> first | rfl | skip
    simp only [pStepK, pStep]
    rcases G[_]? with _ | ⟨ci, fl⟩ | n | n <;> rfl
  | aaload =>
    rcases st with _ | ⟨v, _ | ⟨v2, st⟩⟩ <;> first | rfl | (cases v <;> rfl) | skip
    cases v <;> first | rfl | skip
    cases v2 <;> first | rfl | skip
    simp only [pStepK, pStep]
    rcases G[_]? with _ | ⟨ci, fl⟩ | n | n <;> first | rfl | skip
    dsimp only
    split
    · rcases S.2.2 _ _ with _ | j <;> rfl
    · rfl
  | aastore =>
    rcases st with _ | ⟨v, _ | ⟨v2, _ | ⟨v3, st⟩⟩⟩ <;> first | rfl | (cases v <;> rfl) | (cases v <;> first | rfl | (cases v2 <;> rfl)) | skip
    cases v <;> first | rfl | skip
    cases v2 <;> first | rfl | skip
    cases v3 <;> first | rfl | skip
    rename_i j i o
    simp only [pStepK, pStep]
    rcases G[o]? with _ | ⟨ci, fl⟩ | n | n <;> first | rfl | skip
    rcases G[j]? with _ | ⟨ci, fl⟩ | n <;> first | rfl | skip
    dsimp only
    by_cases h : ci = b
    · simp only [h, if_true]
      split <;> rfl
    · simp only [h, if_false]
      rfl
  | invokespecial i =>
    simp only [pStepK, pStep]
    by_cases h : a = 9000
    · simp only [h, if_true]
      rcases st with _ | ⟨v, st⟩ <;> first | rfl | skip
      cases v <;> first | rfl | skip
      dsimp only
      split <;> rfl
    · simp only [h, if_false]
      rfl
  | invokestatic i =>
    simp only [pStepK, pStep]
    by_cases h : a = 9001
    · simp only [h, if_true]
      rcases st with _ | ⟨v, _ | ⟨v2, _ | ⟨v3, _ | ⟨v4, _ | ⟨v5, st⟩⟩⟩⟩⟩ <;> first | rfl | (cases v <;> first | rfl | (cases v2 <;> first | rfl | (cases v3 <;> first | rfl | (cases v4 <;> rfl)))) | skip
      cases v <;> first | rfl | skip
      cases v2 <;> first | rfl | skip
      cases v3 <;> first | rfl | skip
      cases v4 <;> first | rfl | skip
      cases v5 <;> first | rfl | skip
      dsimp only
      rename_i o1 sp o0
      rcases G[o0]? with _ | ⟨ci, fl⟩ | n | n <;> first | rfl | skip
      rcases G[o1]? with _ | ⟨ci, fl⟩ | n | n <;> first | rfl | skip
      dsimp only
      split <;> rfl
    · simp only [h, if_false]
      by_cases h : a = 9004
      · simp only [h, if_true]
        rcases st with _ | ⟨v, _ | ⟨v2, st⟩⟩ <;> first | rfl | (cases v <;> rfl) | skip
        cases v <;> first | rfl | skip
        cases v2 <;> first | rfl | skip
        dsimp only
        split <;> rfl
      · simp only [h, if_false]
        by_cases h : a = 9005
        · simp only [h, if_true]
          rcases st with _ | ⟨v, _ | ⟨v2, st⟩⟩ <;> first | rfl | (cases v <;> rfl) | skip
          cases v <;> first | rfl | skip
          cases v2 <;> first | rfl | skip
          dsimp only
          split <;> rfl
        · simp only [h, if_false]
          rfl
  | invokevirtual i =>
    rcases st with _ | ⟨v, _ | ⟨v2, st⟩⟩ <;> first | rfl | (cases v <;> rfl) | skip
    cases v <;> first | rfl | skip
    cases v2 <;> first | rfl | skip
    simp only [pStepK, pStep]
    by_cases h : a = 9002
    · simp only [h, if_true]
      split <;> rfl
    · simp only [h, if_false]
      by_cases h : a = 9003
      · simp only [h, if_true]
        split <;> rfl
      · simp only [h, if_false]
        rfl
  | istore_n i => rcases st with _ | ⟨v, st⟩ <;> first | rfl | (cases v <;> rfl)
  | istore i => rcases st with _ | ⟨v, st⟩ <;> first | rfl | (cases v <;> rfl)
  | astore_n i => rcases st with _ | ⟨v, st⟩ <;> first | rfl | (cases v <;> rfl)
  | dup => rcases st with _ | ⟨v, st⟩ <;> rfl
  | pop => rcases st with _ | ⟨v, st⟩ <;> rfl
  | dup2 => rcases st with _ | ⟨v, _ | ⟨v2, st⟩⟩ <;> rfl
  | i2c => rcases st with _ | ⟨v, st⟩ <;> first | rfl | (cases v <;> rfl)
  | iadd => rcases st with _ | ⟨v, _ | ⟨v2, st⟩⟩ <;> first | rfl | (cases v <;> first | rfl | (cases v2 <;> rfl))
  | isub => rcases st with _ | ⟨v, _ | ⟨v2, st⟩⟩ <;> first | rfl | (cases v <;> first | rfl | (cases v2 <;> rfl))
  | imul => rcases st with _ | ⟨v, _ | ⟨v2, st⟩⟩ <;> first | rfl | (cases v <;> first | rfl | (cases v2 <;> rfl))
  | iand => rcases st with _ | ⟨v, _ | ⟨v2, st⟩⟩ <;> first | rfl | (cases v <;> first | rfl | (cases v2 <;> rfl))
  | ior => rcases st with _ | ⟨v, _ | ⟨v2, st⟩⟩ <;> first | rfl | (cases v <;> first | rfl | (cases v2 <;> rfl))
  | ixor => rcases st with _ | ⟨v, _ | ⟨v2, st⟩⟩ <;> first | rfl | (cases v <;> first | rfl | (cases v2 <;> rfl))
  | ishl => rcases st with _ | ⟨v, _ | ⟨v2, st⟩⟩ <;> first | rfl | (cases v <;> first | rfl | (cases v2 <;> rfl))
  | ishr => rcases st with _ | ⟨v, _ | ⟨v2, st⟩⟩ <;> first | rfl | (cases v <;> first | rfl | (cases v2 <;> rfl))
  | iushr => rcases st with _ | ⟨v, _ | ⟨v2, st⟩⟩ <;> first | rfl | (cases v <;> first | rfl | (cases v2 <;> rfl))
  | _ => rfl
/-- a state of a run -/
abbrev pSt : Type := List pI × List Value × List Value × pS
section RES
variable (P : Nat → pM) (G : List pSh)
theorem exf_up : ∀ (n d k : Nat) (is : List pI) (ls st : List Value) (S : pS) (r : Int32 × pS), exf P G n d k is ls st S = some r → exf P G (n + 1) d k is ls st S = some r := by
  intro n
  induction n with
  | zero => intro d k is ls st S r h; rw [exf_zero] at h; cases h
  | succ n ih =>
    intro d k is ls st S r h
    cases is with
    | nil => rw [exf_nil] at h; cases h
    | cons e is =>
      rw [exf_cons] at h ⊢
      split at h
      · split at h
        · cases h
        · exact ih _ _ _ _ _ _ _ h
      · exact h
      · exact h
      · split at h
        · rename_i hg
          rw [if_pos hg]
          split at h
          · cases h
          · rename_i x S1 hc
            rw [ih _ _ _ _ _ _ _ hc]
            exact ih _ _ _ _ _ _ _ h
        · cases h
      · cases h
theorem exf_le {n m d k : Nat} {is : List pI} {ls st : List Value} {S : pS} {r : Int32 × pS} (hnm : n ≤ m) (h : exf P G n d k is ls st S = some r) : exf P G m d k is ls st S = some r := by
  induction hnm with
  | refl => exact h
  | step _ ih => exact exf_up P G _ _ _ _ _ _ _ _ ih
/-- what a run answers at its end, if it has one -/
noncomputable def Res (d k : Nat) (σ : pSt) : Option (Int32 × pS) := @dite _ (∃ r, ∃ n, exf P G n d k σ.1 σ.2.1 σ.2.2.1 σ.2.2.2 = some r) (Classical.propDecidable _) (fun h => some h.choose) (fun _ => none)
theorem Res_iff {d k : Nat} {σ : pSt} {r : Int32 × pS} : Res P G d k σ = some r ↔ ∃ n, exf P G n d k σ.1 σ.2.1 σ.2.2.1 σ.2.2.2 = some r := by
  unfold Res
  by_cases h : ∃ r, ∃ n, exf P G n d k σ.1 σ.2.1 σ.2.2.1 σ.2.2.2 = some r
  · rw [dif_pos h]
    obtain ⟨n, hn⟩ := h.choose_spec
    constructor
    · intro e
      rw [Option.some.inj e] at hn
      exact ⟨n, hn⟩
    · rintro ⟨m, hm⟩
      have h1 := exf_le P G (Nat.le_max_left n m) hn
      have h2 := exf_le P G (Nat.le_max_right n m) hm
      rw [h1] at h2
      exact h2
  · rw [dif_neg h]
    constructor
    · intro e; cases e
    · rintro ⟨m, hm⟩; exact absurd ⟨r, m, hm⟩ h
theorem Res_ext {d k d' k' : Nat} {σ σ' : pSt} (h : ∀ r, (∃ n, exf P G n d k σ.1 σ.2.1 σ.2.2.1 σ.2.2.2 = some r) ↔ ∃ n, exf P G n d' k' σ'.1 σ'.2.1 σ'.2.2.1 σ'.2.2.2 = some r) : Res P G d k σ = Res P G d' k' σ' := by
  apply Option.ext
  intro r
  rw [Res_iff, Res_iff]
  exact h r
theorem Res_none {d k : Nat} {σ : pSt} (h : ∀ n r, exf P G n d k σ.1 σ.2.1 σ.2.2.1 σ.2.2.2 ≠ some r) : Res P G d k σ = none := by
  cases hr : Res P G d k σ with
  | none => rfl
  | some r =>
    obtain ⟨n, hn⟩ := (Res_iff P G).mp hr
    exact absurd hn (h n r)
theorem R_step {d k : Nat} {e : pI} {is : List pI} {ls st : List Value} {S : pS} (hk : pKind e = 0) : Res P G d k (e :: is, ls, st, S) = pStepK G ls st S (fun o => Res P G d k (pNext (P k).2.2.2 is o.1, o.2.1, o.2.2.1, o.2.2.2)) e := by
  rw [pStepK_eq]
  cases hs : pStep G ls st S e with
  | none =>
    refine Res_none P G (fun n r h => ?_)
    cases n with
    | zero => rw [exf_zero] at h; cases h
    | succ n => rw [exf_cons, hk] at h; dsimp only at h; rw [hs] at h; cases h
  | some o =>
    obtain ⟨j, ls', st', S'⟩ := o
    show _ = Res P G d k _
    refine Res_ext P G (fun r => ⟨?_, ?_⟩)
    · rintro ⟨n, h⟩
      cases n with
      | zero => rw [exf_zero] at h; cases h
      | succ n => rw [exf_cons, hk] at h; dsimp only at h; rw [hs] at h; exact ⟨n, h⟩
    · rintro ⟨n, h⟩
      refine ⟨n + 1, ?_⟩
      rw [exf_cons, hk]
      dsimp only
      rw [hs]
      exact h
def pIn (n : Nat) : List Nat → Bool
  | [] => false
  | a :: r => Nat.beq a n || pIn n r
/-- plain instructions one behind another, till one is reached that isn't plain or at which one stops -/
def pBlk {ρ : Type} (code : List pI) (stops : List Nat) (K : pSt → Option ρ) : Nat → pSt → Option ρ
  | 0, σ => K σ
  | n + 1, (is, ls, st, S) => match is with
    | [] => K (is, ls, st, S)
    | e :: r => match pKind e with
      | 0 => match pIn e.1 stops with
        | true => K (is, ls, st, S)
        | false => pStepK G ls st S (fun o => pBlk code stops K n (pNext code r o.1, o.2.1, o.2.2.1, o.2.2.2)) e
      | _ => K (is, ls, st, S)
theorem R_blk {code : List pI} {d k : Nat} (hc : (P k).2.2.2 = code) (stops : List Nat) : ∀ (n : Nat) (σ : pSt), Res P G d k σ = pBlk G code stops (Res P G d k) n σ
  | 0, σ => rfl
  | n + 1, (is, ls, st, S) => by
    unfold pBlk
    split
    · rfl
    · rename_i e r
      split
      · rename_i hk
        split
        · rfl
        · rw [R_step P G hk, hc]
          congr 1
          funext o
          exact R_blk hc stops n _
      · rfl
/-- a first step, where the run stands at a place at which one stops -/
def pReg {ρ : Type} (code : List pI) (stops : List Nat) (K : pSt → Option ρ) (n : Nat) (is : List pI) (ls st : List Value) (S : pS) : Option ρ := match is with
    | [] => K (is, ls, st, S)
    | e :: r => match pKind e with
      | 0 => pStepK G ls st S (fun o => pBlk G code stops K n (pNext code r o.1, o.2.1, o.2.2.1, o.2.2.2)) e
      | _ => K (is, ls, st, S)
theorem R_reg {code : List pI} {d k : Nat} (hc : (P k).2.2.2 = code) (stops : List Nat) (n : Nat) {is : List pI} {ls st : List Value} {S : pS} : Res P G d k (is, ls, st, S) = pReg G code stops (Res P G d k) n is ls st S := by
  unfold pReg
  split
  · rfl
  · rename_i e r
    split
    · rename_i hk
      rw [R_step P G hk, hc]
      congr 1
      funext o
      exact R_blk P G hc stops n _
    · rfl
theorem R_ret {d k : Nat} {e : pI} {is : List pI} {ls : List Value} {x : Int32} {S : pS} (hk : pKind e = 1) : Res P G d k (e :: is, ls, [.int x], S) = if pBool e.2.2.1 x = true then some (x, S) else none := by
  by_cases hb : pBool e.2.2.1 x = true
  · rw [if_pos hb]
    exact (Res_iff P G).mpr ⟨1, by rw [exf_cons, hk]; exact if_pos hb⟩
  · rw [if_neg hb]
    refine Res_none P G (fun n r h => ?_)
    cases n with
    | zero => rw [exf_zero] at h; cases h
    | succ n => rw [exf_cons, hk] at h; change (if _ then _ else _) = _ at h; rw [if_neg hb] at h; cases h
theorem R_retI {d k : Nat} {e : pI} {is : List pI} {ls : List Value} {x : Int32} {S : pS} (hk : pKind e = 1) (ha : pBool e.2.2.1 x = true) : Res P G d k (e :: is, ls, [.int x], S) = some (x, S) := by
  rw [R_ret P G hk, if_pos ha]
theorem R_retV {d k : Nat} {e : pI} {is : List pI} {ls : List Value} {S : pS} (hk : pKind e = 2) : Res P G d k (e :: is, ls, [], S) = some (0, S) :=
  (Res_iff P G).mpr ⟨1, by rw [exf_cons, hk]; rfl⟩
/-- how deep the calls of a method go: a table in which each callee's number is less than its caller's -/
def Ranked (rk : Nat → Nat) : Prop := ∀ (k : Nat) (e : pI), e ∈ (P k).2.2.2 → pKind e = 3 → rk e.2.2.1 < rk k
theorem pJmp_sub {is : List pI} {pc : Nat} : ∀ e ∈ pJmp is pc, e ∈ is := fun e h => (List.dropWhile_sublist _).subset h
theorem exf_deep {rk : Nat → Nat} (hr : Ranked P rk) : ∀ (n d d' k : Nat) (is : List pI) (ls st : List Value) (S : pS), rk k ≤ d → rk k ≤ d' → (∀ e ∈ is, e ∈ (P k).2.2.2) → exf P G n d k is ls st S = exf P G n d' k is ls st S := by
  intro n
  induction n with
  | zero => intros; rw [exf_zero, exf_zero]
  | succ n ih =>
    intro d d' k is ls st S h h' hs
    cases is with
    | nil => rw [exf_nil, exf_nil]
    | cons e is =>
      rw [exf_cons, exf_cons]
      split
      · split
        · rfl
        · rename_i j ls' st' S' hst
          refine ih d d' k _ ls' st' S' h h' ?_
          cases j with
          | none => exact fun e' he' => hs e' (List.mem_cons_of_mem _ he')
          | some t => exact pJmp_sub
      · rfl
      · rfl
      · rename_i hk
        have hlt := hr k e (hs e List.mem_cons_self) hk
        have e1 : ∀ S, exf P G n (d - 1) e.2.2.1 (P e.2.2.1).2.2.2 (pLs (P e.2.2.1) (pArgs (P e.2.2.1).1 st)) [] S = exf P G n (d' - 1) e.2.2.1 (P e.2.2.1).2.2.2 (pLs (P e.2.2.1) (pArgs (P e.2.2.1).1 st)) [] S := fun S => ih _ _ _ _ _ _ S (by omega) (by omega) (fun _ h => h)
        have hd : (0 < d) = (0 < d') := by apply propext; omega
        simp only [hd, e1]
        split
        · split
          · rfl
          · exact ih d d' k _ _ _ _ h h' (fun e' he' => hs e' (List.mem_cons_of_mem _ he'))
        · rfl
      · rfl
theorem Res_deep {rk : Nat → Nat} (hr : Ranked P rk) {d d' k : Nat} {ls st : List Value} {S : pS} (h : rk k ≤ d) (h' : rk k ≤ d') : Res P G d k ((P k).2.2.2, ls, st, S) = Res P G d' k ((P k).2.2.2, ls, st, S) := by
  refine Res_ext P G (fun r => ?_)
  simp only [exf_deep P G hr _ d d' k _ ls st S h h' (fun _ h => h)]
/-- a call from outside: as deep as its number says -/
noncomputable def CallF (rk : Nat → Nat) (a : Nat) (As : List Value) (S : pS) : Option (Int32 × pS) := Res P G (rk a) a ((P a).2.2.2, pLs (P a) As, [], S)
theorem R_call0 {d k : Nat} {e : pI} {is : List pI} {ls st : List Value} {S : pS} (hk : pKind e = 3) (hg : 0 < d ∧ (P e.2.2.1).1 ≤ st.length ∧ st.length ≤ (P e.2.2.1).1 + 8 ∧ pRcv G (P e.2.2.1).2.2.1 (pArgs (P e.2.2.1).1 st) = true) :
    Res P G d k (e :: is, ls, st, S) = (Res P G (d - 1) e.2.2.1 ((P e.2.2.1).2.2.2, pLs (P e.2.2.1) (pArgs (P e.2.2.1).1 st), [], S)).bind (fun q => Res P G d k (is, ls, pPush e.2.2.2.1 q.1 (st.drop (P e.2.2.1).1), q.2)) := by
  apply Option.ext
  intro r
  rw [Res_iff, Option.bind_eq_some_iff]
  constructor
  · rintro ⟨n, h⟩
    cases n with
    | zero => rw [exf_zero] at h; cases h
    | succ n =>
      rw [exf_cons, hk] at h
      change (if _ then _ else _) = _ at h
      rw [if_pos hg] at h
      split at h
      · cases h
      · rename_i x S1 hc
        exact ⟨(x, S1), (Res_iff P G).mpr ⟨n, hc⟩, (Res_iff P G).mpr ⟨n, h⟩⟩
  · rintro ⟨⟨x, S1⟩, h1, h2⟩
    obtain ⟨n, h1⟩ := (Res_iff P G).mp h1
    obtain ⟨m, h2⟩ := (Res_iff P G).mp h2
    refine ⟨max n m + 1, ?_⟩
    rw [exf_cons, hk]
    change (if _ then _ else _) = _
    rw [if_pos hg, exf_le P G (Nat.le_max_left n m) h1]
    exact exf_le P G (Nat.le_max_right n m) h2
theorem R_call {rk : Nat → Nat} (hr : Ranked P rk) {d k : Nat} {e : pI} {is : List pI} {ls st : List Value} {S : pS} (hk : pKind e = 3) (hd : rk e.2.2.1 < d) (hg : (P e.2.2.1).1 ≤ st.length ∧ st.length ≤ (P e.2.2.1).1 + 8 ∧ pRcv G (P e.2.2.1).2.2.1 (pArgs (P e.2.2.1).1 st) = true) :
    Res P G d k (e :: is, ls, st, S) = (CallF P G rk e.2.2.1 (pArgs (P e.2.2.1).1 st) S).bind (fun q => Res P G d k (is, ls, pPush e.2.2.2.1 q.1 (st.drop (P e.2.2.1).1), q.2)) := by
  rw [R_call0 P G hk ⟨by omega, hg⟩]
  congr 1
  exact Res_deep P G hr (by omega) (Nat.le_refl _)
end RES
theorem ite_cong {α : Type} {c : Prop} {ic : Decidable c} {x y x' y' : α} (h1 : x = x') (h2 : y = y') : @ite α c ic x y = @ite α c ic x' y' := by rw [h1, h2]
theorem bind_cong {α β : Type} {x : Option α} {f g : α → Option β} (h : ∀ q, f q = g q) : x.bind f = x.bind g := by rw [funext h]
end
