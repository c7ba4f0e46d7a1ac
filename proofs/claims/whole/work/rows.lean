section
-- ===== PART A: goes FIRST, ahead of the names: the tables' words, and 'selects' of the private methods out of them =====
/-- a private method of a class that the tables say can be made, by its rows of tables_1 -/
def lw_okq (q : MethodName × Nat) : Prop := (q.1.cls ≠ "java/lang/invoke/MethodHandle" ∧ q.1.cls ≠ "java/lang/invoke/VarHandle") ∧ Cond.instantiable q.1.cls q.2 ∈ tables_1 ∧ Cond.privateMethod q.1 ∈ tables_1 ∧ Cond.instanceMethod q.1 ∈ tables_1
theorem lw_p0 : lw_okq (⟨"NymphRota$Rules", "holds", "(II)Z"⟩, 10) := ⟨⟨by decide +kernel, by decide +kernel⟩, List.mem_of_getElem? (i := 60) (by decide +kernel), List.mem_of_getElem? (i := 484) (by decide +kernel), List.mem_of_getElem? (i := 485) (by decide +kernel)⟩
theorem lw_p1 : lw_okq (⟨"NymphRota", "changeRelieved", "(IZ)I"⟩, 10) := ⟨⟨by decide +kernel, by decide +kernel⟩, List.mem_of_getElem? (i := 22) (by decide +kernel), List.mem_of_getElem? (i := 496) (by decide +kernel), List.mem_of_getElem? (i := 497) (by decide +kernel)⟩
theorem lw_p2 : lw_okq (⟨"NymphRota$Tape", "split", "()V"⟩, 9) := ⟨⟨by decide +kernel, by decide +kernel⟩, List.mem_of_getElem? (i := 205) (by decide +kernel), List.mem_of_getElem? (i := 558) (by decide +kernel), List.mem_of_getElem? (i := 559) (by decide +kernel)⟩
theorem lw_p3 : lw_okq (⟨"NymphRota$Tape", "goesOn", "(I)Z"⟩, 9) := ⟨⟨by decide +kernel, by decide +kernel⟩, List.mem_of_getElem? (i := 205) (by decide +kernel), List.mem_of_getElem? (i := 562) (by decide +kernel), List.mem_of_getElem? (i := 563) (by decide +kernel)⟩
theorem lw_p4 : lw_okq (⟨"NymphRota$Tape", "tokenAt", "(I)I"⟩, 9) := ⟨⟨by decide +kernel, by decide +kernel⟩, List.mem_of_getElem? (i := 205) (by decide +kernel), List.mem_of_getElem? (i := 572) (by decide +kernel), List.mem_of_getElem? (i := 573) (by decide +kernel)⟩
theorem lw_p5 : lw_okq (⟨"NymphRota$Tape", "endOf", "(I)I"⟩, 9) := ⟨⟨by decide +kernel, by decide +kernel⟩, List.mem_of_getElem? (i := 205) (by decide +kernel), List.mem_of_getElem? (i := 576) (by decide +kernel), List.mem_of_getElem? (i := 577) (by decide +kernel)⟩
theorem lw_p6 : lw_okq (⟨"NymphRota$Tape", "wordAt", "(II)I"⟩, 9) := ⟨⟨by decide +kernel, by decide +kernel⟩, List.mem_of_getElem? (i := 205) (by decide +kernel), List.mem_of_getElem? (i := 580) (by decide +kernel), List.mem_of_getElem? (i := 581) (by decide +kernel)⟩
theorem lw_p7 : lw_okq (⟨"NymphRota$Tape", "addToken", "(II)V"⟩, 9) := ⟨⟨by decide +kernel, by decide +kernel⟩, List.mem_of_getElem? (i := 205) (by decide +kernel), List.mem_of_getElem? (i := 636) (by decide +kernel), List.mem_of_getElem? (i := 637) (by decide +kernel)⟩
theorem lw_p8 : lw_okq (⟨"NymphRota$Tape", "numberAt", "(I)I"⟩, 9) := ⟨⟨by decide +kernel, by decide +kernel⟩, List.mem_of_getElem? (i := 205) (by decide +kernel), List.mem_of_getElem? (i := 640) (by decide +kernel), List.mem_of_getElem? (i := 641) (by decide +kernel)⟩
theorem lw_p9 : lw_okq (⟨"NymphRota$Tape", "readRule", "()Z"⟩, 9) := ⟨⟨by decide +kernel, by decide +kernel⟩, List.mem_of_getElem? (i := 205) (by decide +kernel), List.mem_of_getElem? (i := 648) (by decide +kernel), List.mem_of_getElem? (i := 649) (by decide +kernel)⟩
theorem lw_p10 : lw_okq (⟨"NymphRota$Tape", "pass", "()V"⟩, 9) := ⟨⟨by decide +kernel, by decide +kernel⟩, List.mem_of_getElem? (i := 205) (by decide +kernel), List.mem_of_getElem? (i := 655) (by decide +kernel), List.mem_of_getElem? (i := 656) (by decide +kernel)⟩
theorem lw_p11 : lw_okq (⟨"NymphRota$Tape", "passes", "(I)Z"⟩, 9) := ⟨⟨by decide +kernel, by decide +kernel⟩, List.mem_of_getElem? (i := 205) (by decide +kernel), List.mem_of_getElem? (i := 659) (by decide +kernel), List.mem_of_getElem? (i := 660) (by decide +kernel)⟩
theorem lw_p12 : lw_okq (⟨"NymphRota$Tape", "readCondition", "(I)Z"⟩, 9) := ⟨⟨by decide +kernel, by decide +kernel⟩, List.mem_of_getElem? (i := 205) (by decide +kernel), List.mem_of_getElem? (i := 663) (by decide +kernel), List.mem_of_getElem? (i := 664) (by decide +kernel)⟩
theorem lw_p13 : lw_okq (⟨"NymphRota$Tape", "readAll", "(I)Z"⟩, 9) := ⟨⟨by decide +kernel, by decide +kernel⟩, List.mem_of_getElem? (i := 205) (by decide +kernel), List.mem_of_getElem? (i := 667) (by decide +kernel), List.mem_of_getElem? (i := 668) (by decide +kernel)⟩
theorem lw_p14 : lw_okq (⟨"NymphRota$Tape", "readOne", "(I)Z"⟩, 9) := ⟨⟨by decide +kernel, by decide +kernel⟩, List.mem_of_getElem? (i := 205) (by decide +kernel), List.mem_of_getElem? (i := 671) (by decide +kernel), List.mem_of_getElem? (i := 672) (by decide +kernel)⟩
theorem lw_p15 : lw_okq (⟨"NymphRota$Tape", "readComparison", "()Z"⟩, 9) := ⟨⟨by decide +kernel, by decide +kernel⟩, List.mem_of_getElem? (i := 205) (by decide +kernel), List.mem_of_getElem? (i := 675) (by decide +kernel), List.mem_of_getElem? (i := 676) (by decide +kernel)⟩
def lw_privs_1 : List (MethodName × Nat) := [(⟨"NymphRota$Rules", "holds", "(II)Z"⟩, 10), (⟨"NymphRota", "changeRelieved", "(IZ)I"⟩, 10), (⟨"NymphRota$Tape", "split", "()V"⟩, 9), (⟨"NymphRota$Tape", "goesOn", "(I)Z"⟩, 9), (⟨"NymphRota$Tape", "tokenAt", "(I)I"⟩, 9), (⟨"NymphRota$Tape", "endOf", "(I)I"⟩, 9), (⟨"NymphRota$Tape", "wordAt", "(II)I"⟩, 9), (⟨"NymphRota$Tape", "addToken", "(II)V"⟩, 9), (⟨"NymphRota$Tape", "numberAt", "(I)I"⟩, 9), (⟨"NymphRota$Tape", "readRule", "()Z"⟩, 9), (⟨"NymphRota$Tape", "pass", "()V"⟩, 9), (⟨"NymphRota$Tape", "passes", "(I)Z"⟩, 9), (⟨"NymphRota$Tape", "readCondition", "(I)Z"⟩, 9), (⟨"NymphRota$Tape", "readAll", "(I)Z"⟩, 9), (⟨"NymphRota$Tape", "readOne", "(I)Z"⟩, 9), (⟨"NymphRota$Tape", "readComparison", "()Z"⟩, 9)]
theorem lw_r1 : ∀ q ∈ lw_privs_1, lw_okq q := List.forall_mem_cons.mpr ⟨lw_p0, List.forall_mem_cons.mpr ⟨lw_p1, List.forall_mem_cons.mpr ⟨lw_p2, List.forall_mem_cons.mpr ⟨lw_p3, List.forall_mem_cons.mpr ⟨lw_p4, List.forall_mem_cons.mpr ⟨lw_p5, List.forall_mem_cons.mpr ⟨lw_p6, List.forall_mem_cons.mpr ⟨lw_p7, List.forall_mem_cons.mpr ⟨lw_p8, List.forall_mem_cons.mpr ⟨lw_p9, List.forall_mem_cons.mpr ⟨lw_p10, List.forall_mem_cons.mpr ⟨lw_p11, List.forall_mem_cons.mpr ⟨lw_p12, List.forall_mem_cons.mpr ⟨lw_p13, List.forall_mem_cons.mpr ⟨lw_p14, List.forall_mem_cons.mpr ⟨lw_p15, fun _ h => absurd h List.not_mem_nil⟩⟩⟩⟩⟩⟩⟩⟩⟩⟩⟩⟩⟩⟩⟩⟩
theorem lw_p16 : lw_okq (⟨"NymphRota$Tape", "placeOfValue", "()I"⟩, 9) := ⟨⟨by decide +kernel, by decide +kernel⟩, List.mem_of_getElem? (i := 205) (by decide +kernel), List.mem_of_getElem? (i := 679) (by decide +kernel), List.mem_of_getElem? (i := 680) (by decide +kernel)⟩
theorem lw_p17 : lw_okq (⟨"NymphRota", "goOn", "(I)I"⟩, 10) := ⟨⟨by decide +kernel, by decide +kernel⟩, List.mem_of_getElem? (i := 22) (by decide +kernel), List.mem_of_getElem? (i := 712) (by decide +kernel), List.mem_of_getElem? (i := 713) (by decide +kernel)⟩
theorem lw_p18 : lw_okq (⟨"NymphRota$Basin", "closeTo", "(II)I"⟩, 14) := ⟨⟨by decide +kernel, by decide +kernel⟩, List.mem_of_getElem? (i := 30) (by decide +kernel), List.mem_of_getElem? (i := 795) (by decide +kernel), List.mem_of_getElem? (i := 796) (by decide +kernel)⟩
theorem lw_p19 : lw_okq (⟨"NymphRota$Basin", "areClose", "(II)Z"⟩, 14) := ⟨⟨by decide +kernel, by decide +kernel⟩, List.mem_of_getElem? (i := 30) (by decide +kernel), List.mem_of_getElem? (i := 799) (by decide +kernel), List.mem_of_getElem? (i := 800) (by decide +kernel)⟩
theorem lw_p20 : lw_okq (⟨"NymphRota$Plans", "start", "(LNymphRota$Basin;I)V"⟩, 10) := ⟨⟨by decide +kernel, by decide +kernel⟩, List.mem_of_getElem? (i := 243) (by decide +kernel), List.mem_of_getElem? (i := 823) (by decide +kernel), List.mem_of_getElem? (i := 824) (by decide +kernel)⟩
theorem lw_p21 : lw_okq (⟨"NymphRota$Plans", "tryFrom", "(LNymphRota$Basin;III)V"⟩, 10) := ⟨⟨by decide +kernel, by decide +kernel⟩, List.mem_of_getElem? (i := 243) (by decide +kernel), List.mem_of_getElem? (i := 830) (by decide +kernel), List.mem_of_getElem? (i := 831) (by decide +kernel)⟩
theorem lw_p22 : lw_okq (⟨"NymphRota$Plans", "noteWorth", "(I)V"⟩, 10) := ⟨⟨by decide +kernel, by decide +kernel⟩, List.mem_of_getElem? (i := 243) (by decide +kernel), List.mem_of_getElem? (i := 834) (by decide +kernel), List.mem_of_getElem? (i := 835) (by decide +kernel)⟩
theorem lw_p23 : lw_okq (⟨"NymphRota$Plans", "noteRelieved", "(II)V"⟩, 10) := ⟨⟨by decide +kernel, by decide +kernel⟩, List.mem_of_getElem? (i := 243) (by decide +kernel), List.mem_of_getElem? (i := 839) (by decide +kernel), List.mem_of_getElem? (i := 840) (by decide +kernel)⟩
theorem lw_p24 : lw_okq (⟨"NymphRota$Plans", "valueFrom", "(LNymphRota$Basin;I)I"⟩, 10) := ⟨⟨by decide +kernel, by decide +kernel⟩, List.mem_of_getElem? (i := 243) (by decide +kernel), List.mem_of_getElem? (i := 872) (by decide +kernel), List.mem_of_getElem? (i := 873) (by decide +kernel)⟩
theorem lw_p25 : lw_okq (⟨"NymphRota$Reports", "tryOne", "(LNymphRota$Basin;III)V"⟩, 10) := ⟨⟨by decide +kernel, by decide +kernel⟩, List.mem_of_getElem? (i := 100) (by decide +kernel), List.mem_of_getElem? (i := 900) (by decide +kernel), List.mem_of_getElem? (i := 901) (by decide +kernel)⟩
theorem lw_p26 : lw_okq (⟨"NymphRota$Reports", "wrongBy", "(LNymphRota$Basin;III)I"⟩, 10) := ⟨⟨by decide +kernel, by decide +kernel⟩, List.mem_of_getElem? (i := 100) (by decide +kernel), List.mem_of_getElem? (i := 904) (by decide +kernel), List.mem_of_getElem? (i := 905) (by decide +kernel)⟩
theorem lw_p27 : lw_okq (⟨"NymphRota$Reports", "wrongBehind", "(III)I"⟩, 10) := ⟨⟨by decide +kernel, by decide +kernel⟩, List.mem_of_getElem? (i := 100) (by decide +kernel), List.mem_of_getElem? (i := 908) (by decide +kernel), List.mem_of_getElem? (i := 909) (by decide +kernel)⟩
theorem lw_p28 : lw_okq (⟨"NymphRota", "isInRow", "(II)Z"⟩, 10) := ⟨⟨by decide +kernel, by decide +kernel⟩, List.mem_of_getElem? (i := 22) (by decide +kernel), List.mem_of_getElem? (i := 956) (by decide +kernel), List.mem_of_getElem? (i := 957) (by decide +kernel)⟩
theorem lw_p29 : lw_okq (⟨"NymphRota", "refusalOfActs", "(II)I"⟩, 10) := ⟨⟨by decide +kernel, by decide +kernel⟩, List.mem_of_getElem? (i := 22) (by decide +kernel), List.mem_of_getElem? (i := 1008) (by decide +kernel), List.mem_of_getElem? (i := 1009) (by decide +kernel)⟩
theorem lw_p30 : lw_okq (⟨"NymphRota$Acting", "ran", "(I)V"⟩, 6) := ⟨⟨by decide +kernel, by decide +kernel⟩, List.mem_of_getElem? (i := 296) (by decide +kernel), List.mem_of_getElem? (i := 1060) (by decide +kernel), List.mem_of_getElem? (i := 1061) (by decide +kernel)⟩
theorem lw_p31 : lw_okq (⟨"NymphRota$Acting", "figurePoses", "(I)I"⟩, 6) := ⟨⟨by decide +kernel, by decide +kernel⟩, List.mem_of_getElem? (i := 296) (by decide +kernel), List.mem_of_getElem? (i := 1064) (by decide +kernel), List.mem_of_getElem? (i := 1065) (by decide +kernel)⟩
def lw_privs_2 : List (MethodName × Nat) := [(⟨"NymphRota$Tape", "placeOfValue", "()I"⟩, 9), (⟨"NymphRota", "goOn", "(I)I"⟩, 10), (⟨"NymphRota$Basin", "closeTo", "(II)I"⟩, 14), (⟨"NymphRota$Basin", "areClose", "(II)Z"⟩, 14), (⟨"NymphRota$Plans", "start", "(LNymphRota$Basin;I)V"⟩, 10), (⟨"NymphRota$Plans", "tryFrom", "(LNymphRota$Basin;III)V"⟩, 10), (⟨"NymphRota$Plans", "noteWorth", "(I)V"⟩, 10), (⟨"NymphRota$Plans", "noteRelieved", "(II)V"⟩, 10), (⟨"NymphRota$Plans", "valueFrom", "(LNymphRota$Basin;I)I"⟩, 10), (⟨"NymphRota$Reports", "tryOne", "(LNymphRota$Basin;III)V"⟩, 10), (⟨"NymphRota$Reports", "wrongBy", "(LNymphRota$Basin;III)I"⟩, 10), (⟨"NymphRota$Reports", "wrongBehind", "(III)I"⟩, 10), (⟨"NymphRota", "isInRow", "(II)Z"⟩, 10), (⟨"NymphRota", "refusalOfActs", "(II)I"⟩, 10), (⟨"NymphRota$Acting", "ran", "(I)V"⟩, 6), (⟨"NymphRota$Acting", "figurePoses", "(I)I"⟩, 6)]
theorem lw_r2 : ∀ q ∈ lw_privs_2, lw_okq q := List.forall_mem_cons.mpr ⟨lw_p16, List.forall_mem_cons.mpr ⟨lw_p17, List.forall_mem_cons.mpr ⟨lw_p18, List.forall_mem_cons.mpr ⟨lw_p19, List.forall_mem_cons.mpr ⟨lw_p20, List.forall_mem_cons.mpr ⟨lw_p21, List.forall_mem_cons.mpr ⟨lw_p22, List.forall_mem_cons.mpr ⟨lw_p23, List.forall_mem_cons.mpr ⟨lw_p24, List.forall_mem_cons.mpr ⟨lw_p25, List.forall_mem_cons.mpr ⟨lw_p26, List.forall_mem_cons.mpr ⟨lw_p27, List.forall_mem_cons.mpr ⟨lw_p28, List.forall_mem_cons.mpr ⟨lw_p29, List.forall_mem_cons.mpr ⟨lw_p30, List.forall_mem_cons.mpr ⟨lw_p31, fun _ h => absurd h List.not_mem_nil⟩⟩⟩⟩⟩⟩⟩⟩⟩⟩⟩⟩⟩⟩⟩⟩
theorem lw_p32 : lw_okq (⟨"NymphRota$Acting", "figureDrips", "(I)I"⟩, 6) := ⟨⟨by decide +kernel, by decide +kernel⟩, List.mem_of_getElem? (i := 296) (by decide +kernel), List.mem_of_getElem? (i := 1072) (by decide +kernel), List.mem_of_getElem? (i := 1073) (by decide +kernel)⟩
theorem lw_p33 : lw_okq (⟨"NymphRota$Acting", "noviceGlances", "(I)I"⟩, 6) := ⟨⟨by decide +kernel, by decide +kernel⟩, List.mem_of_getElem? (i := 296) (by decide +kernel), List.mem_of_getElem? (i := 1081) (by decide +kernel), List.mem_of_getElem? (i := 1082) (by decide +kernel)⟩
theorem lw_p34 : lw_okq (⟨"NymphRota$Acting", "figureGlances", "(I)I"⟩, 6) := ⟨⟨by decide +kernel, by decide +kernel⟩, List.mem_of_getElem? (i := 296) (by decide +kernel), List.mem_of_getElem? (i := 1085) (by decide +kernel), List.mem_of_getElem? (i := 1086) (by decide +kernel)⟩
theorem lw_p35 : lw_okq (⟨"NymphRota$Acting", "figureLeaves", "(I)I"⟩, 6) := ⟨⟨by decide +kernel, by decide +kernel⟩, List.mem_of_getElem? (i := 296) (by decide +kernel), List.mem_of_getElem? (i := 1093) (by decide +kernel), List.mem_of_getElem? (i := 1094) (by decide +kernel)⟩
theorem lw_p36 : lw_okq (⟨"NymphRotaModel", "isOne", "(I)Z"⟩, 40) := ⟨⟨by decide +kernel, by decide +kernel⟩, List.mem_of_getElem? (i := 1132) (by decide +kernel), List.mem_of_getElem? (i := 1276) (by decide +kernel), List.mem_of_getElem? (i := 1277) (by decide +kernel)⟩
theorem lw_p37 : lw_okq (⟨"NymphRotaModel", "wearied", "(I)I"⟩, 40) := ⟨⟨by decide +kernel, by decide +kernel⟩, List.mem_of_getElem? (i := 1132) (by decide +kernel), List.mem_of_getElem? (i := 1280) (by decide +kernel), List.mem_of_getElem? (i := 1281) (by decide +kernel)⟩
theorem lw_p38 : lw_okq (⟨"NymphRotaModel", "its", "(II)I"⟩, 40) := ⟨⟨by decide +kernel, by decide +kernel⟩, List.mem_of_getElem? (i := 1132) (by decide +kernel), List.mem_of_getElem? (i := 1284) (by decide +kernel), List.mem_of_getElem? (i := 1285) (by decide +kernel)⟩
theorem lw_p39 : lw_okq (⟨"NymphRotaModel", "weatherOf", "(I)I"⟩, 40) := ⟨⟨by decide +kernel, by decide +kernel⟩, List.mem_of_getElem? (i := 1132) (by decide +kernel), List.mem_of_getElem? (i := 1288) (by decide +kernel), List.mem_of_getElem? (i := 1289) (by decide +kernel)⟩
theorem lw_p40 : lw_okq (⟨"NymphRotaModel", "shown", "(I)I"⟩, 40) := ⟨⟨by decide +kernel, by decide +kernel⟩, List.mem_of_getElem? (i := 1132) (by decide +kernel), List.mem_of_getElem? (i := 1298) (by decide +kernel), List.mem_of_getElem? (i := 1299) (by decide +kernel)⟩
theorem lw_p41 : lw_okq (⟨"NymphRotaModel", "isUp", "(I)Z"⟩, 40) := ⟨⟨by decide +kernel, by decide +kernel⟩, List.mem_of_getElem? (i := 1132) (by decide +kernel), List.mem_of_getElem? (i := 1302) (by decide +kernel), List.mem_of_getElem? (i := 1303) (by decide +kernel)⟩
theorem lw_p42 : lw_okq (⟨"NymphRotaModel", "pays", "(I)I"⟩, 40) := ⟨⟨by decide +kernel, by decide +kernel⟩, List.mem_of_getElem? (i := 1132) (by decide +kernel), List.mem_of_getElem? (i := 1312) (by decide +kernel), List.mem_of_getElem? (i := 1313) (by decide +kernel)⟩
theorem lw_p43 : lw_okq (⟨"NymphRotaModel", "mayBe", "(I)Z"⟩, 40) := ⟨⟨by decide +kernel, by decide +kernel⟩, List.mem_of_getElem? (i := 1132) (by decide +kernel), List.mem_of_getElem? (i := 1316) (by decide +kernel), List.mem_of_getElem? (i := 1317) (by decide +kernel)⟩
theorem lw_p44 : lw_okq (⟨"NymphRotaModel", "will", "(I)I"⟩, 40) := ⟨⟨by decide +kernel, by decide +kernel⟩, List.mem_of_getElem? (i := 1132) (by decide +kernel), List.mem_of_getElem? (i := 1320) (by decide +kernel), List.mem_of_getElem? (i := 1321) (by decide +kernel)⟩
theorem lw_p45 : lw_okq (⟨"NymphRotaModel", "holds", "(II)Z"⟩, 40) := ⟨⟨by decide +kernel, by decide +kernel⟩, List.mem_of_getElem? (i := 1132) (by decide +kernel), List.mem_of_getElem? (i := 1327) (by decide +kernel), List.mem_of_getElem? (i := 1328) (by decide +kernel)⟩
theorem lw_p46 : lw_okq (⟨"NymphRotaModel", "valueOf", "(II)I"⟩, 40) := ⟨⟨by decide +kernel, by decide +kernel⟩, List.mem_of_getElem? (i := 1132) (by decide +kernel), List.mem_of_getElem? (i := 1331) (by decide +kernel), List.mem_of_getElem? (i := 1332) (by decide +kernel)⟩
theorem lw_p47 : lw_okq (⟨"NymphRotaModel", "becomes", "(II)I"⟩, 40) := ⟨⟨by decide +kernel, by decide +kernel⟩, List.mem_of_getElem? (i := 1132) (by decide +kernel), List.mem_of_getElem? (i := 1345) (by decide +kernel), List.mem_of_getElem? (i := 1346) (by decide +kernel)⟩
def lw_privs_3 : List (MethodName × Nat) := [(⟨"NymphRota$Acting", "figureDrips", "(I)I"⟩, 6), (⟨"NymphRota$Acting", "noviceGlances", "(I)I"⟩, 6), (⟨"NymphRota$Acting", "figureGlances", "(I)I"⟩, 6), (⟨"NymphRota$Acting", "figureLeaves", "(I)I"⟩, 6), (⟨"NymphRotaModel", "isOne", "(I)Z"⟩, 40), (⟨"NymphRotaModel", "wearied", "(I)I"⟩, 40), (⟨"NymphRotaModel", "its", "(II)I"⟩, 40), (⟨"NymphRotaModel", "weatherOf", "(I)I"⟩, 40), (⟨"NymphRotaModel", "shown", "(I)I"⟩, 40), (⟨"NymphRotaModel", "isUp", "(I)Z"⟩, 40), (⟨"NymphRotaModel", "pays", "(I)I"⟩, 40), (⟨"NymphRotaModel", "mayBe", "(I)Z"⟩, 40), (⟨"NymphRotaModel", "will", "(I)I"⟩, 40), (⟨"NymphRotaModel", "holds", "(II)Z"⟩, 40), (⟨"NymphRotaModel", "valueOf", "(II)I"⟩, 40), (⟨"NymphRotaModel", "becomes", "(II)I"⟩, 40)]
theorem lw_r3 : ∀ q ∈ lw_privs_3, lw_okq q := List.forall_mem_cons.mpr ⟨lw_p32, List.forall_mem_cons.mpr ⟨lw_p33, List.forall_mem_cons.mpr ⟨lw_p34, List.forall_mem_cons.mpr ⟨lw_p35, List.forall_mem_cons.mpr ⟨lw_p36, List.forall_mem_cons.mpr ⟨lw_p37, List.forall_mem_cons.mpr ⟨lw_p38, List.forall_mem_cons.mpr ⟨lw_p39, List.forall_mem_cons.mpr ⟨lw_p40, List.forall_mem_cons.mpr ⟨lw_p41, List.forall_mem_cons.mpr ⟨lw_p42, List.forall_mem_cons.mpr ⟨lw_p43, List.forall_mem_cons.mpr ⟨lw_p44, List.forall_mem_cons.mpr ⟨lw_p45, List.forall_mem_cons.mpr ⟨lw_p46, List.forall_mem_cons.mpr ⟨lw_p47, fun _ h => absurd h List.not_mem_nil⟩⟩⟩⟩⟩⟩⟩⟩⟩⟩⟩⟩⟩⟩⟩⟩
theorem lw_p48 : lw_okq (⟨"NymphRotaModel", "isOver", "()Z"⟩, 40) := ⟨⟨by decide +kernel, by decide +kernel⟩, List.mem_of_getElem? (i := 1132) (by decide +kernel), List.mem_of_getElem? (i := 1379) (by decide +kernel), List.mem_of_getElem? (i := 1380) (by decide +kernel)⟩
theorem lw_p49 : lw_okq (⟨"NymphRotaModel", "relievedOnes", "()I"⟩, 40) := ⟨⟨by decide +kernel, by decide +kernel⟩, List.mem_of_getElem? (i := 1132) (by decide +kernel), List.mem_of_getElem? (i := 1383) (by decide +kernel), List.mem_of_getElem? (i := 1384) (by decide +kernel)⟩
theorem lw_p50 : lw_okq (⟨"NymphRotaModel", "thoseUp", "()I"⟩, 40) := ⟨⟨by decide +kernel, by decide +kernel⟩, List.mem_of_getElem? (i := 1132) (by decide +kernel), List.mem_of_getElem? (i := 1387) (by decide +kernel), List.mem_of_getElem? (i := 1388) (by decide +kernel)⟩
theorem lw_p51 : lw_okq (⟨"NymphRotaModel", "nextToken", "()V"⟩, 40) := ⟨⟨by decide +kernel, by decide +kernel⟩, List.mem_of_getElem? (i := 1132) (by decide +kernel), List.mem_of_getElem? (i := 1401) (by decide +kernel), List.mem_of_getElem? (i := 1402) (by decide +kernel)⟩
theorem lw_p52 : lw_okq (⟨"NymphRotaModel", "byteAt", "(I)I"⟩, 40) := ⟨⟨by decide +kernel, by decide +kernel⟩, List.mem_of_getElem? (i := 1132) (by decide +kernel), List.mem_of_getElem? (i := 1405) (by decide +kernel), List.mem_of_getElem? (i := 1406) (by decide +kernel)⟩
theorem lw_p53 : lw_okq (⟨"NymphRotaModel", "ruleHere", "()V"⟩, 40) := ⟨⟨by decide +kernel, by decide +kernel⟩, List.mem_of_getElem? (i := 1132) (by decide +kernel), List.mem_of_getElem? (i := 1415) (by decide +kernel), List.mem_of_getElem? (i := 1416) (by decide +kernel)⟩
theorem lw_p54 : lw_okq (⟨"NymphRotaModel", "kindHere", "()I"⟩, 40) := ⟨⟨by decide +kernel, by decide +kernel⟩, List.mem_of_getElem? (i := 1132) (by decide +kernel), List.mem_of_getElem? (i := 1419) (by decide +kernel), List.mem_of_getElem? (i := 1420) (by decide +kernel)⟩
theorem lw_p55 : lw_okq (⟨"NymphRotaModel", "isName", "(IIIII)Z"⟩, 40) := ⟨⟨by decide +kernel, by decide +kernel⟩, List.mem_of_getElem? (i := 1132) (by decide +kernel), List.mem_of_getElem? (i := 1423) (by decide +kernel), List.mem_of_getElem? (i := 1424) (by decide +kernel)⟩
theorem lw_p56 : lw_okq (⟨"NymphRotaModel", "isSame", "(IIII)Z"⟩, 40) := ⟨⟨by decide +kernel, by decide +kernel⟩, List.mem_of_getElem? (i := 1132) (by decide +kernel), List.mem_of_getElem? (i := 1427) (by decide +kernel), List.mem_of_getElem? (i := 1428) (by decide +kernel)⟩
theorem lw_p57 : lw_okq (⟨"NymphRotaModel", "needs", "(Z)V"⟩, 40) := ⟨⟨by decide +kernel, by decide +kernel⟩, List.mem_of_getElem? (i := 1132) (by decide +kernel), List.mem_of_getElem? (i := 1431) (by decide +kernel), List.mem_of_getElem? (i := 1432) (by decide +kernel)⟩
theorem lw_p58 : lw_okq (⟨"NymphRotaModel", "isTwo", "(II)Z"⟩, 40) := ⟨⟨by decide +kernel, by decide +kernel⟩, List.mem_of_getElem? (i := 1132) (by decide +kernel), List.mem_of_getElem? (i := 1435) (by decide +kernel), List.mem_of_getElem? (i := 1436) (by decide +kernel)⟩
theorem lw_p59 : lw_okq (⟨"NymphRotaModel", "condHere", "()V"⟩, 40) := ⟨⟨by decide +kernel, by decide +kernel⟩, List.mem_of_getElem? (i := 1132) (by decide +kernel), List.mem_of_getElem? (i := 1439) (by decide +kernel), List.mem_of_getElem? (i := 1440) (by decide +kernel)⟩
theorem lw_p60 : lw_okq (⟨"NymphRotaModel", "allHere", "()V"⟩, 40) := ⟨⟨by decide +kernel, by decide +kernel⟩, List.mem_of_getElem? (i := 1132) (by decide +kernel), List.mem_of_getElem? (i := 1443) (by decide +kernel), List.mem_of_getElem? (i := 1444) (by decide +kernel)⟩
theorem lw_p61 : lw_okq (⟨"NymphRotaModel", "oneHere", "()V"⟩, 40) := ⟨⟨by decide +kernel, by decide +kernel⟩, List.mem_of_getElem? (i := 1132) (by decide +kernel), List.mem_of_getElem? (i := 1447) (by decide +kernel), List.mem_of_getElem? (i := 1448) (by decide +kernel)⟩
theorem lw_p62 : lw_okq (⟨"NymphRotaModel", "isByte", "(I)Z"⟩, 40) := ⟨⟨by decide +kernel, by decide +kernel⟩, List.mem_of_getElem? (i := 1132) (by decide +kernel), List.mem_of_getElem? (i := 1451) (by decide +kernel), List.mem_of_getElem? (i := 1452) (by decide +kernel)⟩
theorem lw_p63 : lw_okq (⟨"NymphRotaModel", "comparesHere", "()V"⟩, 40) := ⟨⟨by decide +kernel, by decide +kernel⟩, List.mem_of_getElem? (i := 1132) (by decide +kernel), List.mem_of_getElem? (i := 1455) (by decide +kernel), List.mem_of_getElem? (i := 1456) (by decide +kernel)⟩
def lw_privs_4 : List (MethodName × Nat) := [(⟨"NymphRotaModel", "isOver", "()Z"⟩, 40), (⟨"NymphRotaModel", "relievedOnes", "()I"⟩, 40), (⟨"NymphRotaModel", "thoseUp", "()I"⟩, 40), (⟨"NymphRotaModel", "nextToken", "()V"⟩, 40), (⟨"NymphRotaModel", "byteAt", "(I)I"⟩, 40), (⟨"NymphRotaModel", "ruleHere", "()V"⟩, 40), (⟨"NymphRotaModel", "kindHere", "()I"⟩, 40), (⟨"NymphRotaModel", "isName", "(IIIII)Z"⟩, 40), (⟨"NymphRotaModel", "isSame", "(IIII)Z"⟩, 40), (⟨"NymphRotaModel", "needs", "(Z)V"⟩, 40), (⟨"NymphRotaModel", "isTwo", "(II)Z"⟩, 40), (⟨"NymphRotaModel", "condHere", "()V"⟩, 40), (⟨"NymphRotaModel", "allHere", "()V"⟩, 40), (⟨"NymphRotaModel", "oneHere", "()V"⟩, 40), (⟨"NymphRotaModel", "isByte", "(I)Z"⟩, 40), (⟨"NymphRotaModel", "comparesHere", "()V"⟩, 40)]
theorem lw_r4 : ∀ q ∈ lw_privs_4, lw_okq q := List.forall_mem_cons.mpr ⟨lw_p48, List.forall_mem_cons.mpr ⟨lw_p49, List.forall_mem_cons.mpr ⟨lw_p50, List.forall_mem_cons.mpr ⟨lw_p51, List.forall_mem_cons.mpr ⟨lw_p52, List.forall_mem_cons.mpr ⟨lw_p53, List.forall_mem_cons.mpr ⟨lw_p54, List.forall_mem_cons.mpr ⟨lw_p55, List.forall_mem_cons.mpr ⟨lw_p56, List.forall_mem_cons.mpr ⟨lw_p57, List.forall_mem_cons.mpr ⟨lw_p58, List.forall_mem_cons.mpr ⟨lw_p59, List.forall_mem_cons.mpr ⟨lw_p60, List.forall_mem_cons.mpr ⟨lw_p61, List.forall_mem_cons.mpr ⟨lw_p62, List.forall_mem_cons.mpr ⟨lw_p63, fun _ h => absurd h List.not_mem_nil⟩⟩⟩⟩⟩⟩⟩⟩⟩⟩⟩⟩⟩⟩⟩⟩
theorem lw_p64 : lw_okq (⟨"NymphRotaModel", "valueHere", "()I"⟩, 40) := ⟨⟨by decide +kernel, by decide +kernel⟩, List.mem_of_getElem? (i := 1132) (by decide +kernel), List.mem_of_getElem? (i := 1459) (by decide +kernel), List.mem_of_getElem? (i := 1460) (by decide +kernel)⟩
theorem lw_p65 : lw_okq (⟨"NymphRotaModel", "factHere", "()I"⟩, 40) := ⟨⟨by decide +kernel, by decide +kernel⟩, List.mem_of_getElem? (i := 1132) (by decide +kernel), List.mem_of_getElem? (i := 1463) (by decide +kernel), List.mem_of_getElem? (i := 1464) (by decide +kernel)⟩
theorem lw_p66 : lw_okq (⟨"NymphRotaModel", "steps", "(III)V"⟩, 40) := ⟨⟨by decide +kernel, by decide +kernel⟩, List.mem_of_getElem? (i := 1132) (by decide +kernel), List.mem_of_getElem? (i := 1467) (by decide +kernel), List.mem_of_getElem? (i := 1468) (by decide +kernel)⟩
theorem lw_p67 : lw_okq (⟨"NymphRotaModel", "doHere", "()I"⟩, 40) := ⟨⟨by decide +kernel, by decide +kernel⟩, List.mem_of_getElem? (i := 1132) (by decide +kernel), List.mem_of_getElem? (i := 1471) (by decide +kernel), List.mem_of_getElem? (i := 1472) (by decide +kernel)⟩
theorem lw_p68 : lw_okq (⟨"NymphRotaModel", "restAct", "()I"⟩, 40) := ⟨⟨by decide +kernel, by decide +kernel⟩, List.mem_of_getElem? (i := 1132) (by decide +kernel), List.mem_of_getElem? (i := 1479) (by decide +kernel), List.mem_of_getElem? (i := 1480) (by decide +kernel)⟩
theorem lw_p69 : lw_okq (⟨"NymphRotaModel", "goesWith", "(I)I"⟩, 40) := ⟨⟨by decide +kernel, by decide +kernel⟩, List.mem_of_getElem? (i := 1132) (by decide +kernel), List.mem_of_getElem? (i := 1483) (by decide +kernel), List.mem_of_getElem? (i := 1484) (by decide +kernel)⟩
theorem lw_p70 : lw_okq (⟨"NymphRotaModel", "onBy", "(I)I"⟩, 40) := ⟨⟨by decide +kernel, by decide +kernel⟩, List.mem_of_getElem? (i := 1132) (by decide +kernel), List.mem_of_getElem? (i := 1491) (by decide +kernel), List.mem_of_getElem? (i := 1492) (by decide +kernel)⟩
theorem lw_p71 : lw_okq (⟨"NymphRotaModel", "laysAside", "(I)V"⟩, 40) := ⟨⟨by decide +kernel, by decide +kernel⟩, List.mem_of_getElem? (i := 1132) (by decide +kernel), List.mem_of_getElem? (i := 1495) (by decide +kernel), List.mem_of_getElem? (i := 1496) (by decide +kernel)⟩
theorem lw_p72 : lw_okq (⟨"NymphRotaModel", "laysBack", "(I)V"⟩, 40) := ⟨⟨by decide +kernel, by decide +kernel⟩, List.mem_of_getElem? (i := 1132) (by decide +kernel), List.mem_of_getElem? (i := 1499) (by decide +kernel), List.mem_of_getElem? (i := 1500) (by decide +kernel)⟩
theorem lw_p73 : lw_okq (⟨"NymphRotaModel", "valueFor", "(II)I"⟩, 40) := ⟨⟨by decide +kernel, by decide +kernel⟩, List.mem_of_getElem? (i := 1132) (by decide +kernel), List.mem_of_getElem? (i := 1511) (by decide +kernel), List.mem_of_getElem? (i := 1512) (by decide +kernel)⟩
theorem lw_p74 : lw_okq (⟨"NymphRotaModel", "ringOf", "(I)I"⟩, 40) := ⟨⟨by decide +kernel, by decide +kernel⟩, List.mem_of_getElem? (i := 1132) (by decide +kernel), List.mem_of_getElem? (i := 1531) (by decide +kernel), List.mem_of_getElem? (i := 1532) (by decide +kernel)⟩
theorem lw_p75 : lw_okq (⟨"NymphRotaModel", "areClose", "(II)Z"⟩, 40) := ⟨⟨by decide +kernel, by decide +kernel⟩, List.mem_of_getElem? (i := 1132) (by decide +kernel), List.mem_of_getElem? (i := 1535) (by decide +kernel), List.mem_of_getElem? (i := 1536) (by decide +kernel)⟩
theorem lw_p76 : lw_okq (⟨"NymphRotaModel", "stepsBy", "(IIII)I"⟩, 40) := ⟨⟨by decide +kernel, by decide +kernel⟩, List.mem_of_getElem? (i := 1132) (by decide +kernel), List.mem_of_getElem? (i := 1543) (by decide +kernel), List.mem_of_getElem? (i := 1544) (by decide +kernel)⟩
theorem lw_p77 : lw_okq (⟨"NymphRotaModel", "findsPlans", "(II)V"⟩, 40) := ⟨⟨by decide +kernel, by decide +kernel⟩, List.mem_of_getElem? (i := 1132) (by decide +kernel), List.mem_of_getElem? (i := 1554) (by decide +kernel), List.mem_of_getElem? (i := 1555) (by decide +kernel)⟩
theorem lw_p78 : lw_okq (⟨"NymphRotaModel", "plans", "(IIII)V"⟩, 40) := ⟨⟨by decide +kernel, by decide +kernel⟩, List.mem_of_getElem? (i := 1132) (by decide +kernel), List.mem_of_getElem? (i := 1558) (by decide +kernel), List.mem_of_getElem? (i := 1559) (by decide +kernel)⟩
theorem lw_p79 : lw_okq (⟨"NymphRotaModel", "isSet", "(I)Z"⟩, 40) := ⟨⟨by decide +kernel, by decide +kernel⟩, List.mem_of_getElem? (i := 1132) (by decide +kernel), List.mem_of_getElem? (i := 1575) (by decide +kernel), List.mem_of_getElem? (i := 1576) (by decide +kernel)⟩
def lw_privs_5 : List (MethodName × Nat) := [(⟨"NymphRotaModel", "valueHere", "()I"⟩, 40), (⟨"NymphRotaModel", "factHere", "()I"⟩, 40), (⟨"NymphRotaModel", "steps", "(III)V"⟩, 40), (⟨"NymphRotaModel", "doHere", "()I"⟩, 40), (⟨"NymphRotaModel", "restAct", "()I"⟩, 40), (⟨"NymphRotaModel", "goesWith", "(I)I"⟩, 40), (⟨"NymphRotaModel", "onBy", "(I)I"⟩, 40), (⟨"NymphRotaModel", "laysAside", "(I)V"⟩, 40), (⟨"NymphRotaModel", "laysBack", "(I)V"⟩, 40), (⟨"NymphRotaModel", "valueFor", "(II)I"⟩, 40), (⟨"NymphRotaModel", "ringOf", "(I)I"⟩, 40), (⟨"NymphRotaModel", "areClose", "(II)Z"⟩, 40), (⟨"NymphRotaModel", "stepsBy", "(IIII)I"⟩, 40), (⟨"NymphRotaModel", "findsPlans", "(II)V"⟩, 40), (⟨"NymphRotaModel", "plans", "(IIII)V"⟩, 40), (⟨"NymphRotaModel", "isSet", "(I)Z"⟩, 40)]
theorem lw_r5 : ∀ q ∈ lw_privs_5, lw_okq q := List.forall_mem_cons.mpr ⟨lw_p64, List.forall_mem_cons.mpr ⟨lw_p65, List.forall_mem_cons.mpr ⟨lw_p66, List.forall_mem_cons.mpr ⟨lw_p67, List.forall_mem_cons.mpr ⟨lw_p68, List.forall_mem_cons.mpr ⟨lw_p69, List.forall_mem_cons.mpr ⟨lw_p70, List.forall_mem_cons.mpr ⟨lw_p71, List.forall_mem_cons.mpr ⟨lw_p72, List.forall_mem_cons.mpr ⟨lw_p73, List.forall_mem_cons.mpr ⟨lw_p74, List.forall_mem_cons.mpr ⟨lw_p75, List.forall_mem_cons.mpr ⟨lw_p76, List.forall_mem_cons.mpr ⟨lw_p77, List.forall_mem_cons.mpr ⟨lw_p78, List.forall_mem_cons.mpr ⟨lw_p79, fun _ h => absurd h List.not_mem_nil⟩⟩⟩⟩⟩⟩⟩⟩⟩⟩⟩⟩⟩⟩⟩⟩
theorem lw_p80 : lw_okq (⟨"NymphRotaModel", "valueFrom", "(II)I"⟩, 40) := ⟨⟨by decide +kernel, by decide +kernel⟩, List.mem_of_getElem? (i := 1132) (by decide +kernel), List.mem_of_getElem? (i := 1587) (by decide +kernel), List.mem_of_getElem? (i := 1588) (by decide +kernel)⟩
theorem lw_p81 : lw_okq (⟨"NymphRotaModel", "findsFits", "(I)V"⟩, 40) := ⟨⟨by decide +kernel, by decide +kernel⟩, List.mem_of_getElem? (i := 1132) (by decide +kernel), List.mem_of_getElem? (i := 1607) (by decide +kernel), List.mem_of_getElem? (i := 1608) (by decide +kernel)⟩
theorem lw_p82 : lw_okq (⟨"NymphRotaModel", "stands", "(III)V"⟩, 40) := ⟨⟨by decide +kernel, by decide +kernel⟩, List.mem_of_getElem? (i := 1132) (by decide +kernel), List.mem_of_getElem? (i := 1611) (by decide +kernel), List.mem_of_getElem? (i := 1612) (by decide +kernel)⟩
theorem lw_p83 : lw_okq (⟨"NymphRotaModel", "isFit", "(I)Z"⟩, 40) := ⟨⟨by decide +kernel, by decide +kernel⟩, List.mem_of_getElem? (i := 1132) (by decide +kernel), List.mem_of_getElem? (i := 1615) (by decide +kernel), List.mem_of_getElem? (i := 1616) (by decide +kernel)⟩
theorem lw_p84 : lw_okq (⟨"NymphRotaModel", "goesByLot", "()I"⟩, 40) := ⟨⟨by decide +kernel, by decide +kernel⟩, List.mem_of_getElem? (i := 1132) (by decide +kernel), List.mem_of_getElem? (i := 1631) (by decide +kernel), List.mem_of_getElem? (i := 1632) (by decide +kernel)⟩
theorem lw_p85 : lw_okq (⟨"NymphRotaModel", "isRow", "(II)Z"⟩, 40) := ⟨⟨by decide +kernel, by decide +kernel⟩, List.mem_of_getElem? (i := 1132) (by decide +kernel), List.mem_of_getElem? (i := 1650) (by decide +kernel), List.mem_of_getElem? (i := 1651) (by decide +kernel)⟩
theorem lw_p86 : lw_okq (⟨"NymphRotaModel", "isAct", "(I)Z"⟩, 40) := ⟨⟨by decide +kernel, by decide +kernel⟩, List.mem_of_getElem? (i := 1132) (by decide +kernel), List.mem_of_getElem? (i := 1662) (by decide +kernel), List.mem_of_getElem? (i := 1663) (by decide +kernel)⟩
theorem lw_p87 : lw_okq (⟨"NymphRotaModel", "lacks", "(II)I"⟩, 40) := ⟨⟨by decide +kernel, by decide +kernel⟩, List.mem_of_getElem? (i := 1132) (by decide +kernel), List.mem_of_getElem? (i := 1682) (by decide +kernel), List.mem_of_getElem? (i := 1683) (by decide +kernel)⟩
theorem lw_p88 : lw_okq (⟨"NymphRotaModel", "sumBy", "(III)I"⟩, 40) := ⟨⟨by decide +kernel, by decide +kernel⟩, List.mem_of_getElem? (i := 1132) (by decide +kernel), List.mem_of_getElem? (i := 1695) (by decide +kernel), List.mem_of_getElem? (i := 1696) (by decide +kernel)⟩
theorem lw_p89 : lw_okq (⟨"NymphRotaModel", "heldOn", "(I)I"⟩, 40) := ⟨⟨by decide +kernel, by decide +kernel⟩, List.mem_of_getElem? (i := 1132) (by decide +kernel), List.mem_of_getElem? (i := 1712) (by decide +kernel), List.mem_of_getElem? (i := 1713) (by decide +kernel)⟩
theorem lw_p90 : lw_okq (⟨"NymphRotaModel", "poses", "(I)I"⟩, 40) := ⟨⟨by decide +kernel, by decide +kernel⟩, List.mem_of_getElem? (i := 1132) (by decide +kernel), List.mem_of_getElem? (i := 1720) (by decide +kernel), List.mem_of_getElem? (i := 1721) (by decide +kernel)⟩
theorem lw_p91 : lw_okq (⟨"NymphRotaModel", "runs", "(I)V"⟩, 40) := ⟨⟨by decide +kernel, by decide +kernel⟩, List.mem_of_getElem? (i := 1132) (by decide +kernel), List.mem_of_getElem? (i := 1724) (by decide +kernel), List.mem_of_getElem? (i := 1725) (by decide +kernel)⟩
theorem lw_p92 : lw_okq (⟨"NymphRotaModel", "posesPlain", "(I)I"⟩, 40) := ⟨⟨by decide +kernel, by decide +kernel⟩, List.mem_of_getElem? (i := 1132) (by decide +kernel), List.mem_of_getElem? (i := 1728) (by decide +kernel), List.mem_of_getElem? (i := 1729) (by decide +kernel)⟩
theorem lw_p93 : lw_okq (⟨"NymphRotaModel", "drips", "(I)I"⟩, 40) := ⟨⟨by decide +kernel, by decide +kernel⟩, List.mem_of_getElem? (i := 1132) (by decide +kernel), List.mem_of_getElem? (i := 1732) (by decide +kernel), List.mem_of_getElem? (i := 1733) (by decide +kernel)⟩
theorem lw_p94 : lw_okq (⟨"NymphRotaModel", "dripsPlain", "(I)I"⟩, 40) := ⟨⟨by decide +kernel, by decide +kernel⟩, List.mem_of_getElem? (i := 1132) (by decide +kernel), List.mem_of_getElem? (i := 1736) (by decide +kernel), List.mem_of_getElem? (i := 1737) (by decide +kernel)⟩
theorem lw_p95 : lw_okq (⟨"NymphRotaModel", "glances", "(I)I"⟩, 40) := ⟨⟨by decide +kernel, by decide +kernel⟩, List.mem_of_getElem? (i := 1132) (by decide +kernel), List.mem_of_getElem? (i := 1740) (by decide +kernel), List.mem_of_getElem? (i := 1741) (by decide +kernel)⟩
def lw_privs_6 : List (MethodName × Nat) := [(⟨"NymphRotaModel", "valueFrom", "(II)I"⟩, 40), (⟨"NymphRotaModel", "findsFits", "(I)V"⟩, 40), (⟨"NymphRotaModel", "stands", "(III)V"⟩, 40), (⟨"NymphRotaModel", "isFit", "(I)Z"⟩, 40), (⟨"NymphRotaModel", "goesByLot", "()I"⟩, 40), (⟨"NymphRotaModel", "isRow", "(II)Z"⟩, 40), (⟨"NymphRotaModel", "isAct", "(I)Z"⟩, 40), (⟨"NymphRotaModel", "lacks", "(II)I"⟩, 40), (⟨"NymphRotaModel", "sumBy", "(III)I"⟩, 40), (⟨"NymphRotaModel", "heldOn", "(I)I"⟩, 40), (⟨"NymphRotaModel", "poses", "(I)I"⟩, 40), (⟨"NymphRotaModel", "runs", "(I)V"⟩, 40), (⟨"NymphRotaModel", "posesPlain", "(I)I"⟩, 40), (⟨"NymphRotaModel", "drips", "(I)I"⟩, 40), (⟨"NymphRotaModel", "dripsPlain", "(I)I"⟩, 40), (⟨"NymphRotaModel", "glances", "(I)I"⟩, 40)]
theorem lw_r6 : ∀ q ∈ lw_privs_6, lw_okq q := List.forall_mem_cons.mpr ⟨lw_p80, List.forall_mem_cons.mpr ⟨lw_p81, List.forall_mem_cons.mpr ⟨lw_p82, List.forall_mem_cons.mpr ⟨lw_p83, List.forall_mem_cons.mpr ⟨lw_p84, List.forall_mem_cons.mpr ⟨lw_p85, List.forall_mem_cons.mpr ⟨lw_p86, List.forall_mem_cons.mpr ⟨lw_p87, List.forall_mem_cons.mpr ⟨lw_p88, List.forall_mem_cons.mpr ⟨lw_p89, List.forall_mem_cons.mpr ⟨lw_p90, List.forall_mem_cons.mpr ⟨lw_p91, List.forall_mem_cons.mpr ⟨lw_p92, List.forall_mem_cons.mpr ⟨lw_p93, List.forall_mem_cons.mpr ⟨lw_p94, List.forall_mem_cons.mpr ⟨lw_p95, fun _ h => absurd h List.not_mem_nil⟩⟩⟩⟩⟩⟩⟩⟩⟩⟩⟩⟩⟩⟩⟩⟩
theorem lw_p96 : lw_okq (⟨"NymphRotaModel", "glancesOfNovice", "(I)I"⟩, 40) := ⟨⟨by decide +kernel, by decide +kernel⟩, List.mem_of_getElem? (i := 1132) (by decide +kernel), List.mem_of_getElem? (i := 1744) (by decide +kernel), List.mem_of_getElem? (i := 1745) (by decide +kernel)⟩
theorem lw_p97 : lw_okq (⟨"NymphRotaModel", "glancesPlain", "(I)I"⟩, 40) := ⟨⟨by decide +kernel, by decide +kernel⟩, List.mem_of_getElem? (i := 1132) (by decide +kernel), List.mem_of_getElem? (i := 1748) (by decide +kernel), List.mem_of_getElem? (i := 1749) (by decide +kernel)⟩
theorem lw_p98 : lw_okq (⟨"NymphRotaModel", "leaves", "(I)I"⟩, 40) := ⟨⟨by decide +kernel, by decide +kernel⟩, List.mem_of_getElem? (i := 1132) (by decide +kernel), List.mem_of_getElem? (i := 1752) (by decide +kernel), List.mem_of_getElem? (i := 1753) (by decide +kernel)⟩
theorem lw_p99 : lw_okq (⟨"NymphRotaModel", "leavesPlain", "(I)I"⟩, 40) := ⟨⟨by decide +kernel, by decide +kernel⟩, List.mem_of_getElem? (i := 1132) (by decide +kernel), List.mem_of_getElem? (i := 1756) (by decide +kernel), List.mem_of_getElem? (i := 1757) (by decide +kernel)⟩
def lw_privs_7 : List (MethodName × Nat) := [(⟨"NymphRotaModel", "glancesOfNovice", "(I)I"⟩, 40), (⟨"NymphRotaModel", "glancesPlain", "(I)I"⟩, 40), (⟨"NymphRotaModel", "leaves", "(I)I"⟩, 40), (⟨"NymphRotaModel", "leavesPlain", "(I)I"⟩, 40)]
theorem lw_r7 : ∀ q ∈ lw_privs_7, lw_okq q := List.forall_mem_cons.mpr ⟨lw_p96, List.forall_mem_cons.mpr ⟨lw_p97, List.forall_mem_cons.mpr ⟨lw_p98, List.forall_mem_cons.mpr ⟨lw_p99, fun _ h => absurd h List.not_mem_nil⟩⟩⟩⟩
def lw_privs : List (MethodName × Nat) := lw_privs_1 ++ (lw_privs_2 ++ (lw_privs_3 ++ (lw_privs_4 ++ (lw_privs_5 ++ (lw_privs_6 ++ (lw_privs_7))))))
def lw_tbl : List Cond := k2_sels lw_privs ++ tables_1
theorem lw_privs_ok : ∀ q ∈ lw_privs, lw_okq q := by
  show ∀ q ∈ lw_privs_1 ++ (lw_privs_2 ++ (lw_privs_3 ++ (lw_privs_4 ++ (lw_privs_5 ++ (lw_privs_6 ++ (lw_privs_7)))))), lw_okq q
  exact List.forall_mem_append.mpr ⟨lw_r1, List.forall_mem_append.mpr ⟨lw_r2, List.forall_mem_append.mpr ⟨lw_r3, List.forall_mem_append.mpr ⟨lw_r4, List.forall_mem_append.mpr ⟨lw_r5, List.forall_mem_append.mpr ⟨lw_r6, lw_r7⟩⟩⟩⟩⟩⟩
end
section
/-! classes, fields, names (written by wip/whole/gen_tbl.py out of the tables) -/
abbrev ny_Op : Type := Nat × Nat × Instr × Nat × Nat × Int32 × Int64
def ny_o (pc len : Nat) (i : Instr) : ny_Op := (pc, len, i, 0, 0, 0, 0)
def ny_o1 (pc len : Nat) (i : Instr) (a b : Nat) : ny_Op := (pc, len, i, a, b, 0, 0)
def ny_o2 (pc len : Nat) (i : Instr) (v : Int32) : ny_Op := (pc, len, i, 0, 0, v, 0)
def ny_o3 (pc len : Nat) (i : Instr) (w : Int64) : ny_Op := (pc, len, i, 0, 0, 0, w)
/-- a method: name, code, how many locals, what it returns, whether it is a constructor, its instructions -/
abbrev ny_M : Type := MethodName × ByteArray × Nat × Option FieldType × Bool × List ny_Op
def ny_cn : List String := ["NymphRota$Acting", "NymphRota$Basin", "NymphRota$Moment", "NymphRota$Plans", "NymphRota$Reports", "NymphRota$Rules", "NymphRota$Sheet", "NymphRota$Shelf", "NymphRota$Tape", "NymphRota", "NymphRotaModel", "java/lang/String", "NymphRota$Kinds", "NymphRotaLaw", "java/lang/Integer", "java/util/Arrays", "java/lang/StringLatin1", "jdk/internal/util/Preconditions"]
def ny_F0 : List (String × String × String × Bool) := [("NymphRota$Acting", "trace", "[I", true), ("NymphRota$Acting", "count", "I", false), ("NymphRota$Acting", "isParted", "Z", false), ("NymphRota$Acting", "kind", "I", false), ("NymphRota$Acting", "number", "I", false), ("NymphRota$Acting", "niche", "I", false)]
def ny_K0 : List Nat := [1, 0, 2, 0, 0, 0]
def ny_F1 : List (String × String × String × Bool) := [("NymphRota$Basin", "now", "LNymphRota$Moment;", true), ("NymphRota$Basin", "kind", "[I", true), ("NymphRota$Basin", "grace", "[I", true), ("NymphRota$Basin", "niche", "[I", true), ("NymphRota$Basin", "count", "I", false), ("NymphRota$Basin", "weather", "[I", true), ("NymphRota$Basin", "shade", "[I", true), ("NymphRota$Basin", "wet", "[I", true), ("NymphRota$Basin", "end", "I", false), ("NymphRota$Basin", "score", "I", false), ("NymphRota$Basin", "z", "I", false), ("NymphRota$Basin", "rules", "LNymphRota$Rules;", true), ("NymphRota$Basin", "reports", "LNymphRota$Reports;", true), ("NymphRota$Basin", "then", "LNymphRota$Moment;", true)]
def ny_K1 : List Nat := [1, 1, 1, 1, 0, 1, 1, 1, 0, 0, 0, 1, 1, 1]
def ny_F2 : List (String × String × String × Bool) := [("NymphRota$Moment", "tired", "[I", true), ("NymphRota$Moment", "relieved", "I", false), ("NymphRota$Moment", "bell", "I", false)]
def ny_K2 : List Nat := [1, 0, 0]
def ny_F3 : List (String × String × String × Bool) := [("NymphRota$Plans", "behind", "[LNymphRota$Moment;", true), ("NymphRota$Plans", "acts", "[I", true), ("NymphRota$Plans", "wanted", "I", false), ("NymphRota$Plans", "length", "I", false), ("NymphRota$Plans", "worth", "I", false), ("NymphRota$Plans", "ways", "I", false), ("NymphRota$Plans", "first", "[I", true), ("NymphRota$Plans", "fewest", "I", false), ("NymphRota$Plans", "reached", "I", false), ("NymphRota$Plans", "opening", "I", false)]
def ny_K3 : List Nat := [1, 1, 0, 0, 0, 0, 1, 0, 0, 0]
def ny_F4 : List (String × String × String × Bool) := [("NymphRota$Reports", "count", "I", false), ("NymphRota$Reports", "bells", "[I", true), ("NymphRota$Reports", "asked", "[I", true), ("NymphRota$Reports", "least", "[I", true), ("NymphRota$Reports", "most", "[I", true), ("NymphRota$Reports", "fits", "I", false), ("NymphRota$Reports", "fitKind", "I", false), ("NymphRota$Reports", "fitGrace", "I", false), ("NymphRota$Reports", "fitTired", "I", false), ("NymphRota$Reports", "liar", "I", false)]
def ny_K4 : List Nat := [0, 1, 1, 1, 1, 0, 0, 0, 0, 0]
def ny_F5 : List (String × String × String × Bool) := [("NymphRota$Rules", "count", "I", false), ("NymphRota$Rules", "kind", "[I", true), ("NymphRota$Rules", "will", "[I", true), ("NymphRota$Rules", "endOf", "[I", true), ("NymphRota$Rules", "steps", "I", false), ("NymphRota$Rules", "sort", "[I", true), ("NymphRota$Rules", "left", "[I", true), ("NymphRota$Rules", "right", "[I", true), ("NymphRota$Rules", "valueCount", "I", false), ("NymphRota$Rules", "values", "[I", true)]
def ny_K5 : List Nat := [0, 1, 1, 1, 0, 1, 1, 1, 0, 1]
def ny_F6 : List (String × String × String × Bool) := [("NymphRota$Sheet", "sort", "I", false), ("NymphRota$Sheet", "length", "I", false), ("NymphRota$Sheet", "items", "[I", true)]
def ny_K6 : List Nat := [0, 0, 1]
def ny_F7 : List (String × String × String × Bool) := [("NymphRota$Shelf", "figure", "I", false), ("NymphRota$Shelf", "sort", "I", false), ("NymphRota$Shelf", "length", "I", false)]
def ny_K7 : List Nat := [0, 0, 0]
def ny_F8 : List (String × String × String × Bool) := [("NymphRota$Tape", "bytes", "[B", true), ("NymphRota$Tape", "size", "I", false), ("NymphRota$Tape", "token", "[I", true), ("NymphRota$Tape", "number", "[I", true), ("NymphRota$Tape", "place", "[I", true), ("NymphRota$Tape", "tokens", "I", false), ("NymphRota$Tape", "at", "I", false), ("NymphRota$Tape", "sight", "I", false), ("NymphRota$Tape", "spare", "LNymphRota$Rules;", true)]
def ny_K8 : List Nat := [1, 0, 1, 1, 1, 0, 0, 0, 1]
def ny_F9 : List (String × String × String × Bool) := [("NymphRota", "basin", "LNymphRota$Basin;", true), ("NymphRota", "kept", "LNymphRota$Basin;", true), ("NymphRota", "isKept", "Z", false), ("NymphRota", "tape", "LNymphRota$Tape;", true), ("NymphRota", "plans", "LNymphRota$Plans;", true), ("NymphRota", "rows", "[[I", true), ("NymphRota", "rowCount", "I", false), ("NymphRota", "sheets", "[LNymphRota$Sheet;", true), ("NymphRota", "shelves", "[LNymphRota$Shelf;", true), ("NymphRota", "acting", "LNymphRota$Acting;", true)]
def ny_K9 : List Nat := [1, 1, 2, 1, 1, 1, 0, 1, 1, 1]
def ny_F10 : List (String × String × String × Bool) := [("NymphRotaModel", "s", "[I", true), ("NymphRotaModel", "held", "[I", true), ("NymphRotaModel", "isHeld", "Z", false), ("NymphRotaModel", "aside", "[I", true), ("NymphRotaModel", "tape", "[I", true), ("NymphRotaModel", "taped", "I", false), ("NymphRotaModel", "token", "I", false), ("NymphRotaModel", "from", "I", false), ("NymphRotaModel", "to", "I", false), ("NymphRotaModel", "value", "I", false), ("NymphRotaModel", "isWrong", "Z", false), ("NymphRotaModel", "open", "I", false), ("NymphRotaModel", "before", "[I", true), ("NymphRotaModel", "acts", "[I", true), ("NymphRotaModel", "firstActs", "[I", true), ("NymphRotaModel", "bestWorth", "I", false), ("NymphRotaModel", "bestMany", "I", false), ("NymphRotaModel", "firstLong", "I", false), ("NymphRotaModel", "wanted", "I", false), ("NymphRotaModel", "fewestActs", "I", false), ("NymphRotaModel", "relievedEver", "I", false), ("NymphRotaModel", "firstAct", "I", false), ("NymphRotaModel", "tireds", "[I", true), ("NymphRotaModel", "showns", "[I", true), ("NymphRotaModel", "fits", "I", false), ("NymphRotaModel", "firstFit", "I", false), ("NymphRotaModel", "rows", "[I", true), ("NymphRotaModel", "rowN", "I", false), ("NymphRotaModel", "sortOf", "[I", true), ("NymphRotaModel", "sizeOf", "[I", true), ("NymphRotaModel", "numbers", "[I", true), ("NymphRotaModel", "holdsWhat", "[I", true), ("NymphRotaModel", "holdsWhich", "[I", true), ("NymphRotaModel", "holdsMany", "[I", true), ("NymphRotaModel", "bodies", "[I", true), ("NymphRotaModel", "ran", "I", false), ("NymphRotaModel", "actKind", "I", false), ("NymphRotaModel", "actN", "I", false), ("NymphRotaModel", "actA", "I", false), ("NymphRotaModel", "isParted", "Z", false)]
def ny_K10 : List Nat := [1, 1, 2, 1, 1, 0, 0, 0, 0, 0, 2, 0, 1, 1, 1, 0, 0, 0, 0, 0, 0, 0, 1, 1, 0, 0, 1, 0, 1, 1, 1, 1, 1, 1, 1, 0, 0, 0, 0, 2]
def ny_Fs : List (List (String × String × String × Bool)) := [ny_F0, ny_F1, ny_F2, ny_F3, ny_F4, ny_F5, ny_F6, ny_F7, ny_F8, ny_F9, ny_F10]
/-- what a field holds: 0 an int, 1 a reference, 2 a boolean -/
def ny_Ks : List (List Nat) := [ny_K0, ny_K1, ny_K2, ny_K3, ny_K4, ny_K5, ny_K6, ny_K7, ny_K8, ny_K9, ny_K10]
def ny_T (ci : Nat) : u_T := fun k => ((ny_Fs.getD ci []).getD k ("", "", "", false))
def ny_cls : List vw_C := [("NymphRota$Acting", ny_T 0, 6), ("NymphRota$Basin", ny_T 1, 14), ("NymphRota$Moment", ny_T 2, 3), ("NymphRota$Plans", ny_T 3, 10), ("NymphRota$Reports", ny_T 4, 10), ("NymphRota$Rules", ny_T 5, 10), ("NymphRota$Sheet", ny_T 6, 3), ("NymphRota$Shelf", ny_T 7, 3), ("NymphRota$Tape", ny_T 8, 9), ("NymphRota", ny_T 9, 10), ("NymphRotaModel", ny_T 10, 40)]
/-- the pool's field entries: by class: entry, class of the field, its place -/
def ny_L0 : List (Nat × Nat × Nat) := [(9, 0, 1), (13, 0, 3), (17, 0, 8), (21, 0, 9), (24, 0, 12), (27, 0, 15)]
def ny_L1 : List (Nat × Nat × Nat) := [(12, 1, 1), (18, 1, 4), (22, 1, 7), (25, 1, 10), (28, 1, 12), (32, 1, 16), (35, 1, 19), (38, 1, 22), (41, 1, 24), (44, 1, 27), (47, 1, 30), (53, 1, 34), (60, 1, 37), (64, 1, 40), (89, 2, 6), (103, 2, 1), (132, 5, 28)]
def ny_L2 : List (Nat × Nat × Nat) := [(9, 2, 1), (15, 2, 3), (19, 2, 6)]
def ny_L3 : List (Nat × Nat × Nat) := [(11, 3, 1), (17, 3, 4), (21, 3, 6), (25, 3, 9), (28, 3, 12), (31, 3, 15), (34, 3, 19), (37, 3, 21), (40, 3, 24), (43, 3, 27), (53, 1, 24), (58, 1, 1), (62, 2, 6), (84, 2, 3), (91, 1, 12)]
def ny_L4 : List (Nat × Nat × Nat) := [(9, 4, 0), (15, 4, 4), (19, 4, 7), (22, 4, 10), (25, 4, 13), (28, 4, 15), (31, 4, 18), (34, 4, 21), (37, 4, 24), (40, 4, 27)]
def ny_L5 : List (Nat × Nat × Nat) := [(13, 5, 0), (17, 5, 4), (21, 5, 7), (24, 5, 10), (27, 5, 12), (30, 5, 16), (33, 5, 19), (36, 5, 22), (39, 5, 24), (42, 5, 28)]
def ny_L6 : List (Nat × Nat × Nat) := [(11, 6, 0), (15, 6, 3), (18, 6, 7)]
def ny_L7 : List (Nat × Nat × Nat) := [(9, 7, 0), (17, 7, 3), (20, 7, 6)]
def ny_L8 : List (Nat × Nat × Nat) := [(11, 8, 1), (15, 8, 3), (19, 8, 7), (23, 8, 10), (26, 8, 13), (29, 8, 15), (32, 8, 18), (35, 8, 21), (41, 8, 25), (59, 5, 0)]
def ny_L9 : List (Nat × Nat × Nat) := [(10, 9, 1), (16, 9, 4), (19, 9, 8), (26, 9, 10), (33, 9, 13), (39, 9, 16), (42, 9, 18), (48, 9, 22), (54, 9, 25), (61, 9, 28), (80, 1, 12), (83, 1, 4), (87, 1, 7), (90, 1, 10), (93, 1, 1), (97, 2, 1), (141, 1, 16), (144, 1, 19), (147, 1, 22), (150, 2, 6), (153, 1, 24), (159, 1, 27), (166, 2, 3), (181, 8, 3), (184, 1, 34), (231, 3, 12), (234, 3, 9), (237, 3, 19), (240, 3, 15), (246, 3, 21), (249, 3, 24), (256, 3, 27), (259, 1, 37), (268, 4, 0), (272, 4, 15), (275, 4, 18), (278, 4, 21), (281, 4, 24), (284, 4, 27), (287, 1, 30), (321, 6, 0), (327, 6, 7), (343, 6, 3), (357, 7, 3), (358, 7, 6), (359, 7, 0), (382, 0, 8), (385, 0, 3), (386, 0, 1), (389, 5, 0)]
def ny_L10 : List (Nat × Nat × Nat) := [(7, 10, 1), (13, 10, 4), (16, 10, 10), (19, 10, 13), (22, 10, 37), (25, 10, 40), (28, 10, 43), (31, 10, 67), (34, 10, 70), (37, 10, 79), (40, 10, 85), (43, 10, 88), (46, 10, 91), (49, 10, 94), (52, 10, 97), (55, 10, 100), (58, 10, 103), (157, 10, 15), (163, 10, 24), (166, 10, 21), (178, 10, 18), (181, 10, 27), (184, 10, 32), (216, 10, 33), (271, 10, 45), (274, 10, 48), (277, 10, 51), (280, 10, 60), (283, 10, 54), (286, 10, 57), (308, 10, 63), (311, 10, 72), (314, 10, 75), (334, 10, 81), (366, 10, 105), (372, 10, 111), (375, 10, 108), (384, 10, 114), (390, 10, 119), (414, 10, 8)]
def ny_L11 : List (Nat × Nat × Nat) := []
def ny_L12 : List (Nat × Nat × Nat) := []
def ny_L13 : List (Nat × Nat × Nat) := []
def ny_L14 : List (Nat × Nat × Nat) := []
def ny_L15 : List (Nat × Nat × Nat) := []
def ny_L16 : List (Nat × Nat × Nat) := []
def ny_L17 : List (Nat × Nat × Nat) := []
def ny_FL : List (List (Nat × Nat × Nat)) := [ny_L0, ny_L1, ny_L2, ny_L3, ny_L4, ny_L5, ny_L6, ny_L7, ny_L8, ny_L9, ny_L10, ny_L11, ny_L12, ny_L13, ny_L14, ny_L15, ny_L16, ny_L17]
end
section
/-! the methods (written by wip/whole/gen_tbl.py out of the decode rows) -/
def pg_Ac_init : List ny_Op := [ny_o 0 1 (.aload_n 0), ny_o 1 3 (.invokespecial 1), ny_o 4 1 (.aload_n 0), ny_o2 5 2 (.bipush 30) 30, ny_o 7 2 (.newarray .int), ny_o1 9 3 (.putfield 9) 0 1, ny_o 12 1 (.aload_n 0), ny_o2 13 1 (.iconst 0) 0, ny_o1 14 3 (.putfield 13) 0 3, ny_o 17 1 (.aload_n 0), ny_o2 18 1 (.iconst 0) 0, ny_o1 19 3 (.putfield 17) 0 8, ny_o 22 1 (.aload_n 0), ny_o2 23 1 (.iconst 0) 0, ny_o1 24 3 (.putfield 21) 0 9, ny_o 27 1 (.aload_n 0), ny_o2 28 1 (.iconst 0) 0, ny_o1 29 3 (.putfield 24) 0 12, ny_o 32 1 (.aload_n 0), ny_o2 33 1 (.iconst 0) 0, ny_o1 34 3 (.putfield 27) 0 15, ny_o 37 1 .return_]
def m_Ac_init : ny_M := (⟨"NymphRota$Acting", "<init>", "()V"⟩, prog_2_method_1_code, 1, none, true, pg_Ac_init)
def pg_Ac_clear : List ny_Op := [ny_o 0 1 (.aload_n 0), ny_o2 1 1 (.iconst 0) 0, ny_o1 2 3 (.putfield 13) 0 3, ny_o 5 1 (.aload_n 0), ny_o2 6 1 (.iconst 0) 0, ny_o1 7 3 (.putfield 17) 0 8, ny_o 10 1 .return_]
def m_Ac_clear : ny_M := (⟨"NymphRota$Acting", "clear", "()V"⟩, prog_2_method_2_code, 1, none, false, pg_Ac_clear)
def pg_Ac_begin : List ny_Op := [ny_o 0 1 (.aload_n 0), ny_o 1 1 (.iload_n 1), ny_o1 2 3 (.putfield 21) 0 9, ny_o 5 1 (.aload_n 0), ny_o 6 1 (.iload_n 2), ny_o1 7 3 (.putfield 24) 0 12, ny_o 10 1 (.aload_n 0), ny_o 11 1 (.iload_n 3), ny_o1 12 3 (.putfield 27) 0 15, ny_o 15 1 .return_]
def m_Ac_begin : ny_M := (⟨"NymphRota$Acting", "begin", "(III)V"⟩, prog_2_method_3_code, 4, none, false, pg_Ac_begin)
def pg_Ac_ran : List ny_Op := [ny_o 0 1 (.aload_n 0), ny_o1 1 3 (.getfield 17) 0 8, ny_o 4 3 (.ifCond .ne 32), ny_o 7 1 (.aload_n 0), ny_o1 8 3 (.getfield 13) 0 3, ny_o2 11 2 (.bipush 30) 30, ny_o 13 3 (.if_icmp .ge 23), ny_o 16 1 (.aload_n 0), ny_o1 17 3 (.getfield 9) 0 1, ny_o 20 1 (.aload_n 0), ny_o1 21 3 (.getfield 13) 0 3, ny_o 24 1 (.iload_n 1), ny_o 25 1 .iastore, ny_o 26 1 (.aload_n 0), ny_o 27 1 .dup, ny_o1 28 3 (.getfield 13) 0 3, ny_o2 31 1 (.iconst 1) 1, ny_o 32 1 .iadd, ny_o1 33 3 (.putfield 13) 0 3, ny_o 36 1 .return_]
def m_Ac_ran : ny_M := (⟨"NymphRota$Acting", "ran", "(I)V"⟩, prog_2_method_4_code, 2, none, false, pg_Ac_ran)
def pg_Ac_poses : List ny_Op := [ny_o 0 1 (.aload_n 0), ny_o1 1 3 (.getfield 21) 0 9, ny_o 4 28 (.lookupswitch 58 #[(1, 28), (3, 43)]), ny_o 32 1 (.aload_n 0), ny_o2 33 2 (.bipush 20) 20, ny_o 35 3 (.invokevirtual 30), ny_o 38 1 (.aload_n 0), ny_o 39 1 (.iload_n 1), ny_o 40 3 (.invokevirtual 34), ny_o2 43 2 (.bipush 7) 7, ny_o 45 1 .ixor, ny_o 46 1 .ireturn, ny_o 47 1 (.aload_n 0), ny_o2 48 2 (.bipush 50) 50, ny_o 50 3 (.invokevirtual 30), ny_o 53 1 (.aload_n 0), ny_o 54 1 (.iload_n 1), ny_o2 55 2 (.bipush 8) 8, ny_o 57 1 .iadd, ny_o 58 3 (.invokevirtual 34), ny_o 61 1 .ireturn, ny_o 62 1 (.aload_n 0), ny_o 63 1 (.iload_n 1), ny_o 64 3 (.invokevirtual 34), ny_o 67 1 .ireturn]
def m_Ac_poses : ny_M := (⟨"NymphRota$Acting", "poses", "(I)I"⟩, prog_2_method_5_code, 2, (Option.some Jvm.ClassFile.FieldType.int), false, pg_Ac_poses)
def pg_Ac_drips : List ny_Op := [ny_o 0 1 (.aload_n 0), ny_o1 1 3 (.getfield 21) 0 9, ny_o 4 32 (.tableswitch 60 2 5 #[32, 32, 60, 46]), ny_o 36 1 (.aload_n 0), ny_o2 37 2 (.bipush 30) 30, ny_o 39 3 (.invokevirtual 30), ny_o 42 1 (.aload_n 0), ny_o 43 1 (.iload_n 1), ny_o 44 3 (.invokevirtual 38), ny_o2 47 1 (.iconst 3) 3, ny_o 48 1 .imul, ny_o 49 1 .ireturn, ny_o 50 1 (.aload_n 0), ny_o2 51 2 (.bipush 60) 60, ny_o 53 3 (.invokevirtual 30), ny_o2 56 1 (.iconst 0) 0, ny_o 57 1 (.aload_n 0), ny_o 58 1 (.iload_n 1), ny_o 59 3 (.invokevirtual 38), ny_o 62 1 .isub, ny_o 63 1 .ireturn, ny_o 64 1 (.aload_n 0), ny_o 65 1 (.iload_n 1), ny_o 66 3 (.invokevirtual 38), ny_o 69 1 .ireturn]
def m_Ac_drips : ny_M := (⟨"NymphRota$Acting", "drips", "(I)I"⟩, prog_2_method_6_code, 2, (Option.some Jvm.ClassFile.FieldType.int), false, pg_Ac_drips)
def pg_Ac_glances : List ny_Op := [ny_o 0 1 (.aload_n 0), ny_o1 1 3 (.getfield 21) 0 9, ny_o 4 28 (.lookupswitch 55 #[(4, 28), (5, 34)]), ny_o 32 1 (.aload_n 0), ny_o 33 1 (.iload_n 1), ny_o 34 3 (.invokevirtual 41), ny_o 37 1 .ireturn, ny_o 38 1 (.aload_n 0), ny_o2 39 2 (.bipush 61) 61, ny_o 41 3 (.invokevirtual 30), ny_o 44 1 (.aload_n 0), ny_o 45 1 (.iload_n 1), ny_o 46 3 (.invokevirtual 41), ny_o 49 1 (.aload_n 0), ny_o 50 1 (.aload_n 0), ny_o1 51 3 (.getfield 24) 0 12, ny_o 54 3 (.invokevirtual 44), ny_o 57 1 .ixor, ny_o 58 1 .ireturn, ny_o 59 1 (.aload_n 0), ny_o 60 1 (.iload_n 1), ny_o 61 3 (.invokevirtual 47), ny_o 64 1 .ireturn]
def m_Ac_glances : ny_M := (⟨"NymphRota$Acting", "glances", "(I)I"⟩, prog_2_method_7_code, 2, (Option.some Jvm.ClassFile.FieldType.int), false, pg_Ac_glances)
def pg_Ac_leaves : List ny_Op := [ny_o 0 1 (.aload_n 0), ny_o1 1 3 (.getfield 21) 0 9, ny_o2 4 1 (.iconst 3) 3, ny_o 5 3 (.if_icmp .ne 24), ny_o 8 1 (.aload_n 0), ny_o2 9 2 (.bipush 51) 51, ny_o 11 3 (.invokevirtual 30), ny_o 14 1 (.aload_n 0), ny_o 15 1 (.iload_n 1), ny_o 16 3 (.invokevirtual 52), ny_o 19 1 (.aload_n 0), ny_o 20 1 (.aload_n 0), ny_o1 21 3 (.getfield 27) 0 15, ny_o 24 3 (.invokevirtual 55), ny_o 27 1 .iadd, ny_o 28 1 .ireturn, ny_o 29 1 (.aload_n 0), ny_o 30 1 (.iload_n 1), ny_o 31 3 (.invokevirtual 52), ny_o 34 1 .ireturn]
def m_Ac_leaves : ny_M := (⟨"NymphRota$Acting", "leaves", "(I)I"⟩, prog_2_method_8_code, 2, (Option.some Jvm.ClassFile.FieldType.int), false, pg_Ac_leaves)
def pg_Ac_figurePoses : List ny_Op := [ny_o 0 1 (.aload_n 0), ny_o2 1 2 (.bipush 10) 10, ny_o 3 3 (.invokevirtual 30), ny_o 6 1 (.iload_n 1), ny_o2 7 1 (.iconst 3) 3, ny_o 8 1 .imul, ny_o 9 1 (.aload_n 0), ny_o1 10 3 (.getfield 24) 0 12, ny_o 13 1 .iadd, ny_o 14 1 .ireturn]
def m_Ac_figurePoses : ny_M := (⟨"NymphRota$Acting", "figurePoses", "(I)I"⟩, prog_2_method_9_code, 2, (Option.some Jvm.ClassFile.FieldType.int), false, pg_Ac_figurePoses)
def pg_Ac_figureDrips : List ny_Op := [ny_o 0 1 (.aload_n 0), ny_o2 1 2 (.bipush 11) 11, ny_o 3 3 (.invokevirtual 30), ny_o 6 1 (.aload_n 0), ny_o 7 1 (.iload_n 1), ny_o 8 3 (.invokevirtual 44), ny_o2 11 1 (.iconst 2) 2, ny_o 12 1 (.aload_n 0), ny_o1 13 3 (.getfield 27) 0 15, ny_o 16 1 .imul, ny_o 17 1 .isub, ny_o 18 1 .ireturn]
def m_Ac_figureDrips : ny_M := (⟨"NymphRota$Acting", "figureDrips", "(I)I"⟩, prog_2_method_10_code, 2, (Option.some Jvm.ClassFile.FieldType.int), false, pg_Ac_figureDrips)
def pg_Ac_figureGlances : List ny_Op := [ny_o 0 1 (.aload_n 0), ny_o2 1 2 (.bipush 12) 12, ny_o 3 3 (.invokevirtual 30), ny_o 6 1 (.aload_n 0), ny_o1 7 3 (.getfield 24) 0 12, ny_o 10 1 (.aload_n 0), ny_o1 11 3 (.getfield 27) 0 15, ny_o 14 1 .isub, ny_o2 15 1 (.iconst 3) 3, ny_o 16 1 .iadd, ny_o 17 1 (.istore_n 2), ny_o 18 1 (.iload_n 2), ny_o 19 3 (.ifCond .ne 10), ny_o 22 1 (.aload_n 0), ny_o2 23 1 (.iconst 1) 1, ny_o1 24 3 (.putfield 17) 0 8, ny_o2 27 1 (.iconst 0) 0, ny_o 28 1 .ireturn, ny_o 29 1 (.iload_n 1), ny_o 30 1 (.iload_n 2), ny_o 31 1 .idiv, ny_o 32 1 .ireturn]
def m_Ac_figureGlances : ny_M := (⟨"NymphRota$Acting", "figureGlances", "(I)I"⟩, prog_2_method_11_code, 3, (Option.some Jvm.ClassFile.FieldType.int), false, pg_Ac_figureGlances)
def pg_Ac_noviceGlances : List ny_Op := [ny_o 0 1 (.aload_n 0), ny_o2 1 2 (.bipush 40) 40, ny_o 3 3 (.invokevirtual 30), ny_o 6 1 (.aload_n 0), ny_o 7 1 (.iload_n 1), ny_o 8 3 (.invokevirtual 47), ny_o2 11 1 (.iconst 1) 1, ny_o 12 1 .isub, ny_o 13 1 .ireturn]
def m_Ac_noviceGlances : ny_M := (⟨"NymphRota$Acting", "noviceGlances", "(I)I"⟩, prog_2_method_12_code, 2, (Option.some Jvm.ClassFile.FieldType.int), false, pg_Ac_noviceGlances)
def pg_Ac_figureLeaves : List ny_Op := [ny_o 0 1 (.aload_n 0), ny_o2 1 2 (.bipush 13) 13, ny_o 3 3 (.invokevirtual 30), ny_o 6 1 (.aload_n 0), ny_o 7 1 (.iload_n 1), ny_o 8 3 (.invokevirtual 55), ny_o 11 1 (.aload_n 0), ny_o 12 1 (.iload_n 1), ny_o 13 3 (.invokevirtual 58), ny_o 16 1 .isub, ny_o 17 1 .ireturn]
def m_Ac_figureLeaves : ny_M := (⟨"NymphRota$Acting", "figureLeaves", "(I)I"⟩, prog_2_method_13_code, 2, (Option.some Jvm.ClassFile.FieldType.int), false, pg_Ac_figureLeaves)
def pg_Ba_init : List ny_Op := [ny_o 0 1 (.aload_n 0), ny_o 1 3 (.invokespecial 3), ny_o 4 1 (.aload_n 0), ny_o1 5 3 (.new 9) 2 0, ny_o 8 1 .dup, ny_o 9 3 (.invokespecial 11), ny_o1 12 3 (.putfield 12) 1 1, ny_o 15 1 (.aload_n 0), ny_o2 16 2 (.bipush 6) 6, ny_o 18 2 (.newarray .int), ny_o1 20 3 (.putfield 18) 1 4, ny_o 23 1 (.aload_n 0), ny_o2 24 2 (.bipush 6) 6, ny_o 26 2 (.newarray .int), ny_o1 28 3 (.putfield 22) 1 7, ny_o 31 1 (.aload_n 0), ny_o2 32 2 (.bipush 6) 6, ny_o 34 2 (.newarray .int), ny_o1 36 3 (.putfield 25) 1 10, ny_o 39 1 (.aload_n 0), ny_o2 40 1 (.iconst 0) 0, ny_o1 41 3 (.putfield 28) 1 12, ny_o 44 1 (.aload_n 0), ny_o2 45 2 (.bipush 16) 16, ny_o 47 2 (.newarray .int), ny_o1 49 3 (.putfield 32) 1 16, ny_o 52 1 (.aload_n 0), ny_o2 53 2 (.bipush 6) 6, ny_o 55 2 (.newarray .int), ny_o1 57 3 (.putfield 35) 1 19, ny_o 60 1 (.aload_n 0), ny_o2 61 2 (.bipush 6) 6, ny_o 63 2 (.newarray .int), ny_o1 65 3 (.putfield 38) 1 22, ny_o 68 1 (.aload_n 0), ny_o2 69 2 (.bipush 12) 12, ny_o1 71 3 (.putfield 41) 1 24, ny_o 74 1 (.aload_n 0), ny_o2 75 1 (.iconst 0) 0, ny_o1 76 3 (.putfield 44) 1 27, ny_o 79 1 (.aload_n 0), ny_o2 80 1 (.iconst 1) 1, ny_o1 81 3 (.putfield 47) 1 30, ny_o 84 1 (.aload_n 0), ny_o1 85 3 (.new 50) 5 0, ny_o 88 1 .dup, ny_o 89 3 (.invokespecial 52), ny_o1 92 3 (.putfield 53) 1 34, ny_o 95 1 (.aload_n 0), ny_o1 96 3 (.new 57) 4 0, ny_o 99 1 .dup, ny_o 100 3 (.invokespecial 59), ny_o1 103 3 (.putfield 60) 1 37, ny_o 106 1 (.aload_n 0), ny_o1 107 3 (.new 9) 2 0, ny_o 110 1 .dup, ny_o 111 3 (.invokespecial 11), ny_o1 114 3 (.putfield 64) 1 40, ny_o 117 1 (.aload_n 0), ny_o1 118 3 (.getfield 32) 1 16, ny_o2 121 1 (.iconst 5) 5, ny_o 122 3 (.invokestatic 67), ny_o 125 1 .return_]
def m_Ba_init : ny_M := (⟨"NymphRota$Basin", "<init>", "()V"⟩, prog_3_method_1_code, 1, none, true, pg_Ba_init)
def pg_Ba_become : List ny_Op := [ny_o 0 1 (.aload_n 0), ny_o1 1 3 (.getfield 12) 1 1, ny_o 4 1 (.aload_n 1), ny_o1 5 3 (.getfield 12) 1 1, ny_o 8 3 (.invokevirtual 73), ny_o 11 1 (.aload_n 1), ny_o1 12 3 (.getfield 18) 1 4, ny_o2 15 1 (.iconst 0) 0, ny_o 16 1 (.aload_n 0), ny_o1 17 3 (.getfield 18) 1 4, ny_o2 20 1 (.iconst 0) 0, ny_o2 21 2 (.bipush 6) 6, ny_o1 23 3 (.invokestatic 77) 4 0, ny_o 26 1 (.aload_n 1), ny_o1 27 3 (.getfield 22) 1 7, ny_o2 30 1 (.iconst 0) 0, ny_o 31 1 (.aload_n 0), ny_o1 32 3 (.getfield 22) 1 7, ny_o2 35 1 (.iconst 0) 0, ny_o2 36 2 (.bipush 6) 6, ny_o1 38 3 (.invokestatic 77) 4 0, ny_o 41 1 (.aload_n 1), ny_o1 42 3 (.getfield 25) 1 10, ny_o2 45 1 (.iconst 0) 0, ny_o 46 1 (.aload_n 0), ny_o1 47 3 (.getfield 25) 1 10, ny_o2 50 1 (.iconst 0) 0, ny_o2 51 2 (.bipush 6) 6, ny_o1 53 3 (.invokestatic 77) 4 0, ny_o 56 1 (.aload_n 0), ny_o 57 1 (.aload_n 1), ny_o1 58 3 (.getfield 28) 1 12, ny_o1 61 3 (.putfield 28) 1 12, ny_o 64 1 (.aload_n 1), ny_o1 65 3 (.getfield 32) 1 16, ny_o2 68 1 (.iconst 0) 0, ny_o 69 1 (.aload_n 0), ny_o1 70 3 (.getfield 32) 1 16, ny_o2 73 1 (.iconst 0) 0, ny_o2 74 2 (.bipush 16) 16, ny_o1 76 3 (.invokestatic 77) 4 0, ny_o 79 1 (.aload_n 1), ny_o1 80 3 (.getfield 35) 1 19, ny_o2 83 1 (.iconst 0) 0, ny_o 84 1 (.aload_n 0), ny_o1 85 3 (.getfield 35) 1 19, ny_o2 88 1 (.iconst 0) 0, ny_o2 89 2 (.bipush 6) 6, ny_o1 91 3 (.invokestatic 77) 4 0, ny_o 94 1 (.aload_n 1), ny_o1 95 3 (.getfield 38) 1 22, ny_o2 98 1 (.iconst 0) 0, ny_o 99 1 (.aload_n 0), ny_o1 100 3 (.getfield 38) 1 22, ny_o2 103 1 (.iconst 0) 0, ny_o2 104 2 (.bipush 6) 6, ny_o1 106 3 (.invokestatic 77) 4 0, ny_o 109 1 (.aload_n 0), ny_o 110 1 (.aload_n 1), ny_o1 111 3 (.getfield 41) 1 24, ny_o1 114 3 (.putfield 41) 1 24, ny_o 117 1 (.aload_n 0), ny_o 118 1 (.aload_n 1), ny_o1 119 3 (.getfield 44) 1 27, ny_o1 122 3 (.putfield 44) 1 27, ny_o 125 1 (.aload_n 0), ny_o 126 1 (.aload_n 1), ny_o1 127 3 (.getfield 47) 1 30, ny_o1 130 3 (.putfield 47) 1 30, ny_o 133 1 (.aload_n 0), ny_o1 134 3 (.getfield 53) 1 34, ny_o 137 1 (.aload_n 1), ny_o1 138 3 (.getfield 53) 1 34, ny_o 141 3 (.invokevirtual 83), ny_o 144 1 (.aload_n 0), ny_o1 145 3 (.getfield 60) 1 37, ny_o 148 1 (.aload_n 1), ny_o1 149 3 (.getfield 60) 1 37, ny_o 152 3 (.invokevirtual 86), ny_o 155 1 .return_]
def m_Ba_become : ny_M := (⟨"NymphRota$Basin", "become", "(LNymphRota$Basin;)V"⟩, prog_3_method_2_code, 2, none, false, pg_Ba_become)
def pg_Ba_copyOfNow : List ny_Op := [ny_o 0 1 (.aload_n 0), ny_o1 1 3 (.getfield 64) 1 40, ny_o 4 1 (.aload_n 0), ny_o1 5 3 (.getfield 12) 1 1, ny_o 8 3 (.invokevirtual 73), ny_o 11 1 (.aload_n 0), ny_o1 12 3 (.getfield 64) 1 40, ny_o 15 1 .areturn]
def m_Ba_copyOfNow : ny_M := (⟨"NymphRota$Basin", "copyOfNow", "()LNymphRota$Moment;"⟩, prog_3_method_3_code, 1, (some (.object "NymphRota$Moment")), false, pg_Ba_copyOfNow)
def pg_Ba_isFigure : List ny_Op := [ny_o 0 1 (.iload_n 1), ny_o 1 3 (.ifCond .lt 15), ny_o 4 1 (.iload_n 1), ny_o 5 1 (.aload_n 0), ny_o1 6 3 (.getfield 28) 1 12, ny_o 9 3 (.if_icmp .ge 7), ny_o2 12 1 (.iconst 1) 1, ny_o 13 3 (.goto 4), ny_o2 16 1 (.iconst 0) 0, ny_o 17 1 .ireturn]
def m_Ba_isFigure : ny_M := (⟨"NymphRota$Basin", "isFigure", "(I)Z"⟩, prog_3_method_4_code, 2, (Option.some Jvm.ClassFile.FieldType.boolean), false, pg_Ba_isFigure)
def pg_Ba_isAct : List ny_Op := [ny_o 0 1 (.iload_n 1), ny_o 1 3 (.ifCond .lt 15), ny_o 4 1 (.iload_n 1), ny_o 5 1 (.aload_n 0), ny_o1 6 3 (.getfield 28) 1 12, ny_o 9 3 (.if_icmp .gt 7), ny_o2 12 1 (.iconst 1) 1, ny_o 13 3 (.goto 4), ny_o2 16 1 (.iconst 0) 0, ny_o 17 1 .ireturn]
def m_Ba_isAct : ny_M := (⟨"NymphRota$Basin", "isAct", "(I)Z"⟩, prog_3_method_5_code, 2, (Option.some Jvm.ClassFile.FieldType.boolean), false, pg_Ba_isAct)
def pg_Ba_isSet : List ny_Op := [ny_o 0 1 (.iload_n 1), ny_o2 1 1 (.iconst (-1)) (-1), ny_o 2 1 (.aload_n 0), ny_o1 3 3 (.getfield 28) 1 12, ny_o 6 1 .ishl, ny_o 7 1 .iand, ny_o 8 3 (.ifCond .ne 7), ny_o2 11 1 (.iconst 1) 1, ny_o 12 3 (.goto 4), ny_o2 15 1 (.iconst 0) 0, ny_o 16 1 .ireturn]
def m_Ba_isSet : ny_M := (⟨"NymphRota$Basin", "isSet", "(I)Z"⟩, prog_3_method_6_code, 2, (Option.some Jvm.ClassFile.FieldType.boolean), false, pg_Ba_isSet)
def pg_Ba_isOver : List ny_Op := [ny_o 0 1 (.aload_n 1), ny_o1 1 3 (.getfield 89) 2 6, ny_o 4 1 (.aload_n 0), ny_o1 5 3 (.getfield 41) 1 24, ny_o 8 3 (.if_icmp .lt 7), ny_o2 11 1 (.iconst 1) 1, ny_o 12 3 (.goto 4), ny_o2 15 1 (.iconst 0) 0, ny_o 16 1 .ireturn]
def m_Ba_isOver : ny_M := (⟨"NymphRota$Basin", "isOver", "(LNymphRota$Moment;)Z"⟩, prog_3_method_7_code, 2, (Option.some Jvm.ClassFile.FieldType.boolean), false, pg_Ba_isOver)
def pg_Ba_weatherOf : List ny_Op := [ny_o 0 1 (.iload_n 1), ny_o 1 3 (.ifCond .lt 18), ny_o 4 1 (.iload_n 1), ny_o2 5 2 (.bipush 16) 16, ny_o 7 3 (.if_icmp .ge 12), ny_o 10 1 (.aload_n 0), ny_o1 11 3 (.getfield 32) 1 16, ny_o 14 1 (.iload_n 1), ny_o 15 1 .iaload, ny_o 16 3 (.goto 4), ny_o2 19 1 (.iconst 0) 0, ny_o 20 1 .ireturn]
def m_Ba_weatherOf : ny_M := (⟨"NymphRota$Basin", "weatherOf", "(I)I"⟩, prog_3_method_8_code, 2, (Option.some Jvm.ClassFile.FieldType.int), false, pg_Ba_weatherOf)
def pg_Ba_sunOf : List ny_Op := [ny_o 0 1 (.aload_n 0), ny_o 1 1 (.iload_n 1), ny_o 2 3 (.invokevirtual 92), ny_o2 5 1 (.iconst 4) 4, ny_o 6 1 .idiv, ny_o 7 1 .ireturn]
def m_Ba_sunOf : ny_M := (⟨"NymphRota$Basin", "sunOf", "(I)I"⟩, prog_3_method_9_code, 2, (Option.some Jvm.ClassFile.FieldType.int), false, pg_Ba_sunOf)
def pg_Ba_guestsOf : List ny_Op := [ny_o 0 1 (.aload_n 0), ny_o 1 1 (.iload_n 1), ny_o 2 3 (.invokevirtual 92), ny_o2 5 1 (.iconst 4) 4, ny_o 6 1 .irem, ny_o 7 1 .ireturn]
def m_Ba_guestsOf : ny_M := (⟨"NymphRota$Basin", "guestsOf", "(I)I"⟩, prog_3_method_10_code, 2, (Option.some Jvm.ClassFile.FieldType.int), false, pg_Ba_guestsOf)
def pg_Ba_isUp : List ny_Op := [ny_o 0 1 (.aload_n 0), ny_o 1 1 (.iload_n 2), ny_o 2 3 (.invokevirtual 96), ny_o 5 3 (.ifCond .eq 26), ny_o 8 1 (.aload_n 1), ny_o 9 1 (.iload_n 2), ny_o 10 3 (.invokevirtual 100), ny_o 13 3 (.ifCond .ne 18), ny_o 16 1 (.aload_n 1), ny_o1 17 3 (.getfield 103) 2 1, ny_o 20 1 (.iload_n 2), ny_o 21 1 .iaload, ny_o2 22 2 (.bipush 60) 60, ny_o 24 3 (.if_icmp .ge 7), ny_o2 27 1 (.iconst 1) 1, ny_o 28 3 (.goto 4), ny_o2 31 1 (.iconst 0) 0, ny_o 32 1 .ireturn]
def m_Ba_isUp : ny_M := (⟨"NymphRota$Basin", "isUp", "(LNymphRota$Moment;I)Z"⟩, prog_3_method_11_code, 3, (Option.some Jvm.ClassFile.FieldType.boolean), false, pg_Ba_isUp)
def pg_Ba_upSet : List ny_Op := [ny_o2 0 1 (.iconst 0) 0, ny_o 1 1 (.istore_n 2), ny_o2 2 1 (.iconst 0) 0, ny_o 3 1 (.istore_n 3), ny_o 4 1 (.iload_n 3), ny_o 5 1 (.aload_n 0), ny_o1 6 3 (.getfield 28) 1 12, ny_o 9 3 (.if_icmp .ge 24), ny_o 12 1 (.aload_n 0), ny_o 13 1 (.aload_n 1), ny_o 14 1 (.iload_n 3), ny_o 15 3 (.invokevirtual 106), ny_o 18 3 (.ifCond .eq 9), ny_o 21 1 (.iload_n 2), ny_o2 22 1 (.iconst 1) 1, ny_o 23 1 (.iload_n 3), ny_o 24 1 .ishl, ny_o 25 1 .ior, ny_o 26 1 (.istore_n 2), ny_o2 27 3 (.iinc 3 1) 1, ny_o 30 3 (.goto (-26)), ny_o 33 1 (.iload_n 2), ny_o 34 1 .ireturn]
def m_Ba_upSet : ny_M := (⟨"NymphRota$Basin", "upSet", "(LNymphRota$Moment;)I"⟩, prog_3_method_12_code, 4, (Option.some Jvm.ClassFile.FieldType.int), false, pg_Ba_upSet)
def pg_Ba_wearies : List ny_Op := [ny_o2 0 1 (.iconst 0) 0, ny_o 1 1 (.aload_n 0), ny_o1 2 3 (.getfield 18) 1 4, ny_o 5 1 (.iload_n 2), ny_o 6 1 .iaload, ny_o 7 1 (.aload_n 0), ny_o 8 1 (.aload_n 1), ny_o1 9 3 (.getfield 89) 2 6, ny_o 12 3 (.invokevirtual 110), ny_o 15 1 (.aload_n 1), ny_o1 16 3 (.getfield 89) 2 6, ny_o 19 3 (.invokestatic 113), ny_o 22 1 (.aload_n 0), ny_o1 23 3 (.getfield 35) 1 19, ny_o 26 1 (.aload_n 0), ny_o1 27 3 (.getfield 25) 1 10, ny_o 30 1 (.iload_n 2), ny_o 31 1 .iaload, ny_o 32 1 .iaload, ny_o 33 1 .isub, ny_o1 34 3 (.invokestatic 119) 1 0, ny_o 37 1 .ireturn]
def m_Ba_wearies : ny_M := (⟨"NymphRota$Basin", "wearies", "(LNymphRota$Moment;I)I"⟩, prog_3_method_13_code, 3, (Option.some Jvm.ClassFile.FieldType.int), false, pg_Ba_wearies)
def pg_Ba_shows : List ny_Op := [ny_o 0 1 (.aload_n 0), ny_o 1 1 (.aload_n 1), ny_o 2 1 (.iload_n 2), ny_o 3 3 (.invokevirtual 106), ny_o 6 3 (.ifCond .eq 30), ny_o 9 1 (.aload_n 0), ny_o1 10 3 (.getfield 18) 1 4, ny_o 13 1 (.iload_n 2), ny_o 14 1 .iaload, ny_o 15 1 (.aload_n 0), ny_o1 16 3 (.getfield 22) 1 7, ny_o 19 1 (.iload_n 2), ny_o 20 1 .iaload, ny_o 21 1 (.aload_n 0), ny_o 22 1 (.aload_n 1), ny_o1 23 3 (.getfield 89) 2 6, ny_o 26 3 (.invokevirtual 125), ny_o 29 1 (.iload_n 2), ny_o 30 3 (.invokestatic 128), ny_o 33 3 (.goto 4), ny_o2 36 1 (.iconst 0) 0, ny_o 37 1 .ireturn]
def m_Ba_shows : ny_M := (⟨"NymphRota$Basin", "shows", "(LNymphRota$Moment;I)I"⟩, prog_3_method_14_code, 3, (Option.some Jvm.ClassFile.FieldType.int), false, pg_Ba_shows)
def pg_Ba_pays : List ny_Op := [ny_o 0 1 (.aload_n 0), ny_o 1 1 (.aload_n 1), ny_o 2 1 (.iload_n 2), ny_o 3 3 (.invokevirtual 106), ny_o 6 3 (.ifCond .eq 29), ny_o2 9 1 (.iconst 0) 0, ny_o2 10 2 (.bipush 10) 10, ny_o 12 1 (.aload_n 0), ny_o1 13 3 (.getfield 22) 1 7, ny_o 16 1 (.iload_n 2), ny_o 17 1 .iaload, ny_o 18 1 .iadd, ny_o 19 1 (.aload_n 1), ny_o1 20 3 (.getfield 103) 2 1, ny_o 23 1 (.iload_n 2), ny_o 24 1 .iaload, ny_o2 25 2 (.bipush 8) 8, ny_o 27 1 .idiv, ny_o 28 1 .isub, ny_o1 29 3 (.invokestatic 119) 1 0, ny_o 32 3 (.goto 4), ny_o2 35 1 (.iconst 0) 0, ny_o 36 1 .ireturn]
def m_Ba_pays : ny_M := (⟨"NymphRota$Basin", "pays", "(LNymphRota$Moment;I)I"⟩, prog_3_method_15_code, 3, (Option.some Jvm.ClassFile.FieldType.int), false, pg_Ba_pays)
def pg_Ba_will : List ny_Op := [ny_o 0 1 (.aload_n 0), ny_o1 1 3 (.getfield 53) 1 34, ny_o1 4 3 (.getfield 132) 5 28, ny_o 7 1 (.astore_n 3), ny_o 8 1 (.aload_n 3), ny_o2 9 1 (.iconst 0) 0, ny_o 10 1 (.aload_n 1), ny_o1 11 3 (.getfield 89) 2 6, ny_o 14 1 .iastore, ny_o 15 1 (.aload_n 3), ny_o2 16 1 (.iconst 1) 1, ny_o 17 1 (.aload_n 1), ny_o1 18 3 (.getfield 103) 2 1, ny_o 21 1 (.iload_n 2), ny_o 22 1 .iaload, ny_o 23 1 .iastore, ny_o 24 1 (.aload_n 3), ny_o2 25 1 (.iconst 2) 2, ny_o 26 1 (.aload_n 0), ny_o1 27 3 (.getfield 22) 1 7, ny_o 30 1 (.iload_n 2), ny_o 31 1 .iaload, ny_o 32 1 .iastore, ny_o 33 1 (.aload_n 3), ny_o2 34 1 (.iconst 3) 3, ny_o 35 1 (.aload_n 0), ny_o 36 1 (.aload_n 1), ny_o1 37 3 (.getfield 89) 2 6, ny_o 40 3 (.invokevirtual 125), ny_o 43 1 .iastore, ny_o 44 1 (.aload_n 3), ny_o2 45 1 (.iconst 4) 4, ny_o 46 1 (.iload_n 2), ny_o 47 1 .iastore, ny_o 48 1 (.aload_n 0), ny_o1 49 3 (.getfield 53) 1 34, ny_o 52 1 (.aload_n 0), ny_o1 53 3 (.getfield 18) 1 4, ny_o 56 1 (.iload_n 2), ny_o 57 1 .iaload, ny_o 58 3 (.invokevirtual 135), ny_o 61 1 .ireturn]
def m_Ba_will : ny_M := (⟨"NymphRota$Basin", "will", "(LNymphRota$Moment;I)I"⟩, prog_3_method_16_code, 4, (Option.some Jvm.ClassFile.FieldType.int), false, pg_Ba_will)
def pg_Ba_mayBeRelieved : List ny_Op := [ny_o 0 1 (.aload_n 0), ny_o 1 1 (.aload_n 1), ny_o 2 1 (.iload_n 2), ny_o 3 3 (.invokevirtual 138), ny_o 6 3 (.ifCond .le 16), ny_o 9 1 (.aload_n 0), ny_o 10 1 (.aload_n 1), ny_o 11 1 (.iload_n 2), ny_o 12 3 (.invokevirtual 142), ny_o 15 3 (.ifCond .ne 7), ny_o2 18 1 (.iconst 1) 1, ny_o 19 3 (.goto 4), ny_o2 22 1 (.iconst 0) 0, ny_o 23 1 .ireturn]
def m_Ba_mayBeRelieved : ny_M := (⟨"NymphRota$Basin", "mayBeRelieved", "(LNymphRota$Moment;I)Z"⟩, prog_3_method_17_code, 3, (Option.some Jvm.ClassFile.FieldType.boolean), false, pg_Ba_mayBeRelieved)
def pg_Ba_goBy : List ny_Op := [ny_o 0 1 (.iload_n 2), ny_o2 1 1 (.iconst 1) 1, ny_o 2 1 .isub, ny_o 3 1 (.istore_n 3), ny_o2 4 2 (.bipush (-3)) (-3), ny_o 6 2 (.istore 4), ny_o2 8 1 (.iconst 0) 0, ny_o 9 2 (.istore 5), ny_o 11 1 (.aload_n 0), ny_o 12 1 (.aload_n 1), ny_o 13 1 (.iload_n 3), ny_o 14 3 (.invokevirtual 106), ny_o 17 3 (.ifCond .eq 70), ny_o 20 1 (.aload_n 0), ny_o 21 1 (.aload_n 1), ny_o 22 1 (.iload_n 3), ny_o 23 3 (.invokevirtual 142), ny_o 26 2 (.istore 6), ny_o 28 2 (.iload 6), ny_o 30 3 (.ifCond .ne 29), ny_o 33 1 (.aload_n 0), ny_o 34 1 (.aload_n 1), ny_o 35 1 (.iload_n 3), ny_o 36 3 (.invokevirtual 138), ny_o 39 2 (.istore 5), ny_o 41 1 (.aload_n 1), ny_o 42 1 (.iload_n 3), ny_o 43 2 (.iload 5), ny_o 45 3 (.ifCond .le 7), ny_o2 48 1 (.iconst 1) 1, ny_o 49 3 (.goto 4), ny_o2 52 1 (.iconst 0) 0, ny_o 53 3 (.invokevirtual 145), ny_o 56 3 (.goto 31), ny_o 59 2 (.iload 6), ny_o2 61 1 (.iconst 2) 2, ny_o 62 3 (.if_icmp .ne 25), ny_o 65 1 (.aload_n 1), ny_o1 66 3 (.getfield 103) 2 1, ny_o 69 1 (.iload_n 3), ny_o2 70 1 (.iconst 0) 0, ny_o 71 1 (.aload_n 1), ny_o1 72 3 (.getfield 103) 2 1, ny_o 75 1 (.iload_n 3), ny_o 76 1 .iaload, ny_o2 77 2 (.bipush 25) 25, ny_o 79 1 .isub, ny_o1 80 3 (.invokestatic 119) 1 0, ny_o 83 1 .iastore, ny_o 84 1 (.iload_n 3), ny_o 85 2 (.istore 4), ny_o2 87 1 (.iconst 0) 0, ny_o 88 2 (.istore 6), ny_o 90 2 (.iload 6), ny_o 92 1 (.aload_n 0), ny_o1 93 3 (.getfield 28) 1 12, ny_o 96 3 (.if_icmp .ge 64), ny_o 99 2 (.iload 6), ny_o 101 2 (.iload 4), ny_o 103 3 (.if_icmp .eq 51), ny_o 106 1 (.aload_n 1), ny_o 107 2 (.iload 6), ny_o 109 3 (.invokevirtual 100), ny_o 112 3 (.ifCond .ne 42), ny_o 115 2 (.iload 5), ny_o 117 1 (.aload_n 0), ny_o 118 1 (.aload_n 1), ny_o 119 2 (.iload 6), ny_o 121 3 (.invokevirtual 149), ny_o 124 1 .iadd, ny_o 125 2 (.istore 5), ny_o 127 1 (.aload_n 1), ny_o1 128 3 (.getfield 103) 2 1, ny_o 131 2 (.iload 6), ny_o2 133 2 (.bipush 99) 99, ny_o 135 1 (.aload_n 1), ny_o1 136 3 (.getfield 103) 2 1, ny_o 139 2 (.iload 6), ny_o 141 1 .iaload, ny_o 142 1 (.aload_n 0), ny_o 143 1 (.aload_n 1), ny_o 144 2 (.iload 6), ny_o 146 3 (.invokevirtual 151), ny_o 149 1 .iadd, ny_o1 150 3 (.invokestatic 153) 2 0, ny_o 153 1 .iastore, ny_o2 154 3 (.iinc 6 1) 1, ny_o 157 3 (.goto (-67)), ny_o 160 1 (.aload_n 1), ny_o 161 1 .dup, ny_o1 162 3 (.getfield 89) 2 6, ny_o2 165 1 (.iconst 1) 1, ny_o 166 1 .iadd, ny_o1 167 3 (.putfield 89) 2 6, ny_o 170 2 (.iload 5), ny_o 172 1 .ireturn]
def m_Ba_goBy : ny_M := (⟨"NymphRota$Basin", "goBy", "(LNymphRota$Moment;I)I"⟩, prog_3_method_18_code, 7, (Option.some Jvm.ClassFile.FieldType.int), false, pg_Ba_goBy)
def pg_Ba_restAct : List ny_Op := [ny_o2 0 1 (.iconst 0) 0, ny_o 1 1 (.istore_n 2), ny_o 2 1 (.iload_n 2), ny_o 3 1 (.aload_n 0), ny_o1 4 3 (.getfield 28) 1 12, ny_o 7 3 (.if_icmp .ge 22), ny_o 10 1 (.aload_n 0), ny_o 11 1 (.aload_n 1), ny_o 12 1 (.iload_n 2), ny_o 13 3 (.invokevirtual 156), ny_o 16 3 (.ifCond .eq 7), ny_o 19 1 (.iload_n 2), ny_o2 20 1 (.iconst 1) 1, ny_o 21 1 .iadd, ny_o 22 1 .ireturn, ny_o2 23 3 (.iinc 2 1) 1, ny_o 26 3 (.goto (-24)), ny_o2 29 1 (.iconst 0) 0, ny_o 30 1 .ireturn]
def m_Ba_restAct : ny_M := (⟨"NymphRota$Basin", "restAct", "(LNymphRota$Moment;)I"⟩, prog_3_method_19_code, 3, (Option.some Jvm.ClassFile.FieldType.int), false, pg_Ba_restAct)
def pg_Ba_restWorth : List ny_Op := [ny_o 0 1 (.aload_n 0), ny_o 1 3 (.invokevirtual 159), ny_o 4 1 (.astore_n 2), ny_o2 5 1 (.iconst 0) 0, ny_o 6 1 (.istore_n 3), ny_o2 7 1 (.iconst 0) 0, ny_o 8 2 (.istore 4), ny_o 10 2 (.iload 4), ny_o 12 1 (.iload_n 1), ny_o 13 3 (.if_icmp .ge 30), ny_o 16 1 (.aload_n 0), ny_o 17 1 (.aload_n 2), ny_o 18 3 (.invokevirtual 163), ny_o 21 3 (.ifCond .ne 22), ny_o 24 1 (.iload_n 3), ny_o 25 1 (.aload_n 0), ny_o 26 1 (.aload_n 2), ny_o 27 1 (.aload_n 0), ny_o 28 1 (.aload_n 2), ny_o 29 3 (.invokevirtual 167), ny_o 32 3 (.invokevirtual 171), ny_o 35 1 .iadd, ny_o 36 1 (.istore_n 3), ny_o2 37 3 (.iinc 4 1) 1, ny_o 40 3 (.goto (-30)), ny_o 43 1 (.iload_n 3), ny_o 44 1 .ireturn]
def m_Ba_restWorth : ny_M := (⟨"NymphRota$Basin", "restWorth", "(I)I"⟩, prog_3_method_20_code, 5, (Option.some Jvm.ClassFile.FieldType.int), false, pg_Ba_restWorth)
def pg_Ba_restRelieves : List ny_Op := [ny_o 0 1 (.aload_n 0), ny_o1 1 3 (.getfield 12) 1 1, ny_o 4 1 (.iload_n 1), ny_o 5 3 (.invokevirtual 100), ny_o 8 3 (.ifCond .eq 6), ny_o2 11 2 (.bipush (-3)) (-3), ny_o 13 1 .ireturn, ny_o 14 1 (.aload_n 0), ny_o 15 3 (.invokevirtual 159), ny_o 18 1 (.astore_n 2), ny_o 19 1 (.aload_n 0), ny_o1 20 3 (.getfield 12) 1 1, ny_o1 23 3 (.getfield 89) 2 6, ny_o 26 1 (.istore_n 3), ny_o 27 1 (.iload_n 3), ny_o 28 1 (.aload_n 0), ny_o1 29 3 (.getfield 41) 1 24, ny_o 32 3 (.if_icmp .ge 30), ny_o 35 1 (.aload_n 0), ny_o 36 1 (.aload_n 2), ny_o 37 1 (.aload_n 0), ny_o 38 1 (.aload_n 2), ny_o 39 3 (.invokevirtual 167), ny_o 42 3 (.invokevirtual 171), ny_o 45 1 .pop, ny_o 46 1 (.aload_n 2), ny_o 47 1 (.iload_n 1), ny_o 48 3 (.invokevirtual 100), ny_o 51 3 (.ifCond .eq 5), ny_o 54 1 (.iload_n 3), ny_o 55 1 .ireturn, ny_o2 56 3 (.iinc 3 1) 1, ny_o 59 3 (.goto (-32)), ny_o2 62 2 (.bipush (-3)) (-3), ny_o 64 1 .ireturn]
def m_Ba_restRelieves : ny_M := (⟨"NymphRota$Basin", "restRelieves", "(I)I"⟩, prog_3_method_21_code, 4, (Option.some Jvm.ClassFile.FieldType.int), false, pg_Ba_restRelieves)
def pg_Ba_restFaints : List ny_Op := [ny_o 0 1 (.aload_n 0), ny_o 1 3 (.invokevirtual 159), ny_o 4 1 (.astore_n 2), ny_o 5 1 (.aload_n 0), ny_o1 6 3 (.getfield 12) 1 1, ny_o1 9 3 (.getfield 89) 2 6, ny_o 12 1 (.istore_n 3), ny_o 13 1 (.iload_n 3), ny_o 14 1 (.aload_n 0), ny_o1 15 3 (.getfield 41) 1 24, ny_o 18 3 (.if_icmp .gt 41), ny_o 21 1 (.aload_n 2), ny_o1 22 3 (.getfield 103) 2 1, ny_o 25 1 (.iload_n 1), ny_o 26 1 .iaload, ny_o2 27 2 (.bipush 60) 60, ny_o 29 3 (.if_icmp .lt 5), ny_o 32 1 (.iload_n 3), ny_o 33 1 .ireturn, ny_o 34 1 (.iload_n 3), ny_o 35 1 (.aload_n 0), ny_o1 36 3 (.getfield 41) 1 24, ny_o 39 3 (.if_icmp .ge 14), ny_o 42 1 (.aload_n 0), ny_o 43 1 (.aload_n 2), ny_o 44 1 (.aload_n 0), ny_o 45 1 (.aload_n 2), ny_o 46 3 (.invokevirtual 167), ny_o 49 3 (.invokevirtual 171), ny_o 52 1 .pop, ny_o2 53 3 (.iinc 3 1) 1, ny_o 56 3 (.goto (-43)), ny_o2 59 2 (.bipush (-3)) (-3), ny_o 61 1 .ireturn]
def m_Ba_restFaints : ny_M := (⟨"NymphRota$Basin", "restFaints", "(I)I"⟩, prog_3_method_22_code, 4, (Option.some Jvm.ClassFile.FieldType.int), false, pg_Ba_restFaints)
def pg_Ba_restBestBy : List ny_Op := [ny_o 0 1 (.aload_n 1), ny_o 1 1 (.iload_n 2), ny_o 2 1 .iaload, ny_o 3 2 (.istore 4), ny_o2 5 1 (.iconst 0) 0, ny_o 6 2 (.istore 5), ny_o2 8 1 (.iconst (-1)) (-1), ny_o 9 2 (.istore 6), ny_o2 11 1 (.iconst 0) 0, ny_o 12 2 (.istore 7), ny_o 14 2 (.iload 7), ny_o 16 1 (.iload_n 3), ny_o 17 3 (.if_icmp .gt 37), ny_o 20 1 (.aload_n 1), ny_o 21 1 (.iload_n 2), ny_o 22 2 (.iload 7), ny_o 24 1 .iastore, ny_o 25 1 (.aload_n 0), ny_o2 26 2 (.bipush 16) 16, ny_o 28 3 (.invokevirtual 174), ny_o 31 2 (.istore 8), ny_o 33 2 (.iload 8), ny_o 35 2 (.iload 6), ny_o 37 3 (.if_icmp .le 11), ny_o 40 2 (.iload 8), ny_o 42 2 (.istore 6), ny_o 44 2 (.iload 7), ny_o 46 2 (.istore 5), ny_o2 48 3 (.iinc 7 1) 1, ny_o 51 3 (.goto (-37)), ny_o 54 1 (.aload_n 1), ny_o 55 1 (.iload_n 2), ny_o 56 2 (.iload 4), ny_o 58 1 .iastore, ny_o 59 2 (.iload 5), ny_o 61 1 .ireturn]
def m_Ba_restBestBy : ny_M := (⟨"NymphRota$Basin", "restBestBy", "([III)I"⟩, prog_3_method_23_code, 9, (Option.some Jvm.ClassFile.FieldType.int), false, pg_Ba_restBestBy)
def pg_Ba_aheadOf : List ny_Op := [ny_o2 0 1 (.iconst 0) 0, ny_o 1 1 (.istore_n 2), ny_o2 2 1 (.iconst 0) 0, ny_o 3 1 (.istore_n 3), ny_o 4 1 (.iload_n 3), ny_o 5 1 (.aload_n 0), ny_o1 6 3 (.getfield 28) 1 12, ny_o 9 3 (.if_icmp .ge 83), ny_o 12 1 (.aload_n 0), ny_o1 13 3 (.getfield 12) 1 1, ny_o1 16 3 (.getfield 103) 2 1, ny_o 19 1 (.iload_n 3), ny_o 20 1 .iaload, ny_o 21 1 (.aload_n 0), ny_o1 22 3 (.getfield 12) 1 1, ny_o1 25 3 (.getfield 103) 2 1, ny_o 28 1 (.iload_n 1), ny_o 29 1 .iaload, ny_o 30 3 (.if_icmp .gt 29), ny_o 33 1 (.aload_n 0), ny_o1 34 3 (.getfield 12) 1 1, ny_o1 37 3 (.getfield 103) 2 1, ny_o 40 1 (.iload_n 3), ny_o 41 1 .iaload, ny_o 42 1 (.aload_n 0), ny_o1 43 3 (.getfield 12) 1 1, ny_o1 46 3 (.getfield 103) 2 1, ny_o 49 1 (.iload_n 1), ny_o 50 1 .iaload, ny_o 51 3 (.if_icmp .ne 12), ny_o 54 1 (.iload_n 3), ny_o 55 1 (.iload_n 1), ny_o 56 3 (.if_icmp .ge 7), ny_o2 59 1 (.iconst 1) 1, ny_o 60 3 (.goto 4), ny_o2 63 1 (.iconst 0) 0, ny_o 64 2 (.istore 4), ny_o 66 2 (.iload 4), ny_o 68 3 (.ifCond .eq 18), ny_o 71 1 (.aload_n 0), ny_o 72 1 (.aload_n 0), ny_o1 73 3 (.getfield 12) 1 1, ny_o 76 1 (.iload_n 3), ny_o 77 3 (.invokevirtual 106), ny_o 80 3 (.ifCond .eq 6), ny_o2 83 3 (.iinc 2 1) 1, ny_o2 86 3 (.iinc 3 1) 1, ny_o 89 3 (.goto (-85)), ny_o 92 1 (.iload_n 2), ny_o 93 1 .ireturn]
def m_Ba_aheadOf : ny_M := (⟨"NymphRota$Basin", "aheadOf", "(I)I"⟩, prog_3_method_24_code, 5, (Option.some Jvm.ClassFile.FieldType.int), false, pg_Ba_aheadOf)
def pg_Ba_areClose : List ny_Op := [ny_o 0 1 (.aload_n 0), ny_o1 1 3 (.getfield 25) 1 10, ny_o 4 1 (.iload_n 1), ny_o 5 1 .iaload, ny_o 6 1 (.aload_n 0), ny_o1 7 3 (.getfield 25) 1 10, ny_o 10 1 (.iload_n 2), ny_o 11 1 .iaload, ny_o 12 1 .isub, ny_o1 13 3 (.invokestatic 177) 3 0, ny_o 16 1 (.istore_n 3), ny_o 17 1 (.iload_n 3), ny_o2 18 1 (.iconst 1) 1, ny_o 19 3 (.if_icmp .le 8), ny_o 22 1 (.iload_n 3), ny_o2 23 1 (.iconst 5) 5, ny_o 24 3 (.if_icmp .ne 7), ny_o2 27 1 (.iconst 1) 1, ny_o 28 3 (.goto 4), ny_o2 31 1 (.iconst 0) 0, ny_o 32 1 .ireturn]
def m_Ba_areClose : ny_M := (⟨"NymphRota$Basin", "areClose", "(II)Z"⟩, prog_3_method_25_code, 4, (Option.some Jvm.ClassFile.FieldType.boolean), false, pg_Ba_areClose)
def pg_Ba_closeTo : List ny_Op := [ny_o2 0 1 (.iconst 0) 0, ny_o 1 1 (.istore_n 3), ny_o2 2 1 (.iconst 0) 0, ny_o 3 2 (.istore 4), ny_o 5 2 (.iload 4), ny_o 7 1 (.aload_n 0), ny_o1 8 3 (.getfield 28) 1 12, ny_o 11 3 (.if_icmp .ge 35), ny_o 14 1 (.iload_n 2), ny_o2 15 1 (.iconst 1) 1, ny_o 16 2 (.iload 4), ny_o 18 1 .ishl, ny_o 19 1 .iand, ny_o 20 3 (.ifCond .eq 20), ny_o 23 1 (.aload_n 0), ny_o 24 1 (.iload_n 1), ny_o 25 2 (.iload 4), ny_o 27 3 (.invokevirtual 180), ny_o 30 3 (.ifCond .eq 10), ny_o 33 1 (.iload_n 3), ny_o2 34 1 (.iconst 1) 1, ny_o 35 2 (.iload 4), ny_o 37 1 .ishl, ny_o 38 1 .ior, ny_o 39 1 (.istore_n 3), ny_o2 40 3 (.iinc 4 1) 1, ny_o 43 3 (.goto (-38)), ny_o 46 1 (.iload_n 3), ny_o 47 1 .ireturn]
def m_Ba_closeTo : ny_M := (⟨"NymphRota$Basin", "closeTo", "(II)I"⟩, prog_3_method_26_code, 5, (Option.some Jvm.ClassFile.FieldType.int), false, pg_Ba_closeTo)
def pg_Ba_ringOf : List ny_Op := [ny_o 0 1 (.aload_n 0), ny_o 1 1 (.aload_n 0), ny_o1 2 3 (.getfield 12) 1 1, ny_o 5 3 (.invokevirtual 184), ny_o 8 1 (.istore_n 2), ny_o 9 1 (.iload_n 2), ny_o2 10 1 (.iconst 1) 1, ny_o 11 1 (.iload_n 1), ny_o 12 1 .ishl, ny_o 13 1 .iand, ny_o 14 1 (.istore_n 3), ny_o2 15 1 (.iconst 1) 1, ny_o 16 2 (.istore 4), ny_o 18 2 (.iload 4), ny_o 20 1 (.aload_n 0), ny_o1 21 3 (.getfield 28) 1 12, ny_o 24 3 (.if_icmp .ge 54), ny_o 27 1 (.iload_n 3), ny_o 28 2 (.istore 5), ny_o2 30 1 (.iconst 0) 0, ny_o 31 2 (.istore 6), ny_o 33 2 (.iload 6), ny_o 35 1 (.aload_n 0), ny_o1 36 3 (.getfield 28) 1 12, ny_o 39 3 (.if_icmp .ge 30), ny_o 42 1 (.iload_n 3), ny_o2 43 1 (.iconst 1) 1, ny_o 44 2 (.iload 6), ny_o 46 1 .ishl, ny_o 47 1 .iand, ny_o 48 3 (.ifCond .eq 15), ny_o 51 2 (.iload 5), ny_o 53 1 (.aload_n 0), ny_o 54 2 (.iload 6), ny_o 56 1 (.iload_n 2), ny_o 57 3 (.invokevirtual 187), ny_o 60 1 .ior, ny_o 61 2 (.istore 5), ny_o2 63 3 (.iinc 6 1) 1, ny_o 66 3 (.goto (-33)), ny_o 69 2 (.iload 5), ny_o 71 1 (.istore_n 3), ny_o2 72 3 (.iinc 4 1) 1, ny_o 75 3 (.goto (-57)), ny_o 78 1 (.iload_n 3), ny_o 79 1 .ireturn]
def m_Ba_ringOf : ny_M := (⟨"NymphRota$Basin", "ringOf", "(I)I"⟩, prog_3_method_27_code, 7, (Option.some Jvm.ClassFile.FieldType.int), false, pg_Ba_ringOf)
def pg_Ba_ringCount : List ny_Op := [ny_o2 0 1 (.iconst 0) 0, ny_o 1 1 (.istore_n 1), ny_o 2 1 (.aload_n 0), ny_o 3 1 (.aload_n 0), ny_o1 4 3 (.getfield 12) 1 1, ny_o 7 3 (.invokevirtual 184), ny_o 10 1 (.istore_n 2), ny_o2 11 1 (.iconst 0) 0, ny_o 12 1 (.istore_n 3), ny_o 13 1 (.iload_n 3), ny_o 14 1 (.aload_n 0), ny_o1 15 3 (.getfield 28) 1 12, ny_o 18 3 (.if_icmp .ge 30), ny_o 21 1 (.iload_n 2), ny_o2 22 1 (.iconst 1) 1, ny_o 23 1 (.iload_n 3), ny_o 24 1 .ishl, ny_o 25 1 .iand, ny_o 26 3 (.ifCond .eq 16), ny_o 29 1 (.iload_n 2), ny_o 30 1 (.aload_n 0), ny_o 31 1 (.iload_n 3), ny_o 32 3 (.invokevirtual 190), ny_o2 35 1 (.iconst (-1)) (-1), ny_o 36 1 .ixor, ny_o 37 1 .iand, ny_o 38 1 (.istore_n 2), ny_o2 39 3 (.iinc 1 1) 1, ny_o2 42 3 (.iinc 3 1) 1, ny_o 45 3 (.goto (-32)), ny_o 48 1 (.iload_n 1), ny_o 49 1 .ireturn]
def m_Ba_ringCount : ny_M := (⟨"NymphRota$Basin", "ringCount", "()I"⟩, prog_3_method_28_code, 4, (Option.some Jvm.ClassFile.FieldType.int), false, pg_Ba_ringCount)
def pg_Ba_stepsRound : List ny_Op := [ny_o 0 1 (.iload_n 1), ny_o 1 2 (.istore 5), ny_o2 3 1 (.iconst 0) 0, ny_o 4 2 (.istore 6), ny_o 6 2 (.iload 6), ny_o2 8 2 (.bipush 6) 6, ny_o 10 3 (.if_icmp .ge 42), ny_o 13 2 (.iload 5), ny_o 15 1 (.iload_n 2), ny_o 16 3 (.if_icmp .ne 6), ny_o 19 2 (.iload 6), ny_o 21 1 .ireturn, ny_o 22 2 (.iload 5), ny_o 24 1 (.iload_n 3), ny_o 25 1 .iadd, ny_o2 26 2 (.bipush 6) 6, ny_o 28 1 .irem, ny_o 29 2 (.istore 5), ny_o 31 1 (.aload_n 0), ny_o1 32 3 (.getfield 38) 1 22, ny_o 35 2 (.iload 5), ny_o 37 1 .iaload, ny_o 38 2 (.iload 4), ny_o 40 3 (.if_icmp .le 6), ny_o2 43 2 (.bipush (-3)) (-3), ny_o 45 1 .ireturn, ny_o2 46 3 (.iinc 6 1) 1, ny_o 49 3 (.goto (-43)), ny_o2 52 2 (.bipush (-3)) (-3), ny_o 54 1 .ireturn]
def m_Ba_stepsRound : ny_M := (⟨"NymphRota$Basin", "stepsRound", "(IIII)I"⟩, prog_3_method_29_code, 7, (Option.some Jvm.ClassFile.FieldType.int), false, pg_Ba_stepsRound)
def pg_Ba_nextZ : List ny_Op := [ny_o 0 1 (.iload_n 0), ny_o2 1 2 (.ldc 193) 1103515245, ny_o 3 1 .imul, ny_o2 4 3 (.sipush 12345) 12345, ny_o 7 1 .iadd, ny_o 8 1 .ireturn]
def m_Ba_nextZ : ny_M := (⟨"NymphRota$Basin", "nextZ", "(I)I"⟩, prog_3_method_30_code, 1, (Option.some Jvm.ClassFile.FieldType.int), false, pg_Ba_nextZ)
def pg_Ba_actOf : List ny_Op := [ny_o 0 1 (.aload_n 0), ny_o1 1 3 (.getfield 28) 1 12, ny_o2 4 1 (.iconst 1) 1, ny_o 5 1 .iadd, ny_o 6 1 (.istore_n 2), ny_o 7 1 (.iload_n 2), ny_o 8 3 (.ifCond .le 12), ny_o 11 1 (.iload_n 1), ny_o2 12 2 (.bipush 16) 16, ny_o 14 1 .iushr, ny_o 15 1 (.iload_n 2), ny_o 16 1 .irem, ny_o 17 3 (.goto 4), ny_o2 20 1 (.iconst 0) 0, ny_o 21 1 .ireturn]
def m_Ba_actOf : ny_M := (⟨"NymphRota$Basin", "actOf", "(I)I"⟩, prog_3_method_31_code, 3, (Option.some Jvm.ClassFile.FieldType.int), false, pg_Ba_actOf)
def pg_Ba_timesByLot : List ny_Op := [ny_o2 0 1 (.iconst 0) 0, ny_o 1 1 (.istore_n 3), ny_o 2 1 (.aload_n 0), ny_o1 3 3 (.getfield 47) 1 30, ny_o 6 2 (.istore 4), ny_o2 8 1 (.iconst 0) 0, ny_o 9 2 (.istore 5), ny_o 11 2 (.iload 5), ny_o 13 1 (.iload_n 1), ny_o 14 3 (.if_icmp .ge 75), ny_o 17 1 (.aload_n 0), ny_o 18 3 (.invokevirtual 159), ny_o 21 2 (.astore 6), ny_o2 23 1 (.iconst 0) 0, ny_o 24 2 (.istore 7), ny_o 26 1 (.aload_n 0), ny_o1 27 3 (.getfield 12) 1 1, ny_o1 30 3 (.getfield 89) 2 6, ny_o 33 2 (.istore 8), ny_o 35 2 (.iload 8), ny_o 37 1 (.aload_n 0), ny_o1 38 3 (.getfield 41) 1 24, ny_o 41 3 (.if_icmp .ge 33), ny_o 44 2 (.iload 4), ny_o 46 3 (.invokestatic 194), ny_o 49 2 (.istore 4), ny_o 51 2 (.iload 7), ny_o 53 1 (.aload_n 0), ny_o 54 2 (.aload 6), ny_o 56 1 (.aload_n 0), ny_o 57 2 (.iload 4), ny_o 59 3 (.invokevirtual 197), ny_o 62 3 (.invokevirtual 171), ny_o 65 1 .iadd, ny_o 66 2 (.istore 7), ny_o2 68 3 (.iinc 8 1) 1, ny_o 71 3 (.goto (-36)), ny_o 74 2 (.iload 7), ny_o 76 1 (.iload_n 2), ny_o 77 3 (.if_icmp .lt 6), ny_o2 80 3 (.iinc 3 1) 1, ny_o2 83 3 (.iinc 5 1) 1, ny_o 86 3 (.goto (-75)), ny_o 89 1 (.iload_n 3), ny_o 90 1 .ireturn]
def m_Ba_timesByLot : ny_M := (⟨"NymphRota$Basin", "timesByLot", "(II)I"⟩, prog_3_method_32_code, 9, (Option.some Jvm.ClassFile.FieldType.int), false, pg_Ba_timesByLot)
def pg_Ki_isKind : List ny_Op := [ny_o 0 1 (.iload_n 0), ny_o 1 3 (.ifCond .lt 12), ny_o 4 1 (.iload_n 0), ny_o2 5 1 (.iconst 5) 5, ny_o 6 3 (.if_icmp .gt 7), ny_o2 9 1 (.iconst 1) 1, ny_o 10 3 (.goto 4), ny_o2 13 1 (.iconst 0) 0, ny_o 14 1 .ireturn]
def m_Ki_isKind : ny_M := (⟨"NymphRota$Kinds", "isKind", "(I)Z"⟩, prog_4_method_2_code, 1, (Option.some Jvm.ClassFile.FieldType.boolean), false, pg_Ki_isKind)
def pg_Ki_isMade : List ny_Op := [ny_o 0 1 (.iload_n 0), ny_o2 1 1 (.iconst 1) 1, ny_o 2 3 (.if_icmp .lt 12), ny_o 5 1 (.iload_n 0), ny_o2 6 1 (.iconst 5) 5, ny_o 7 3 (.if_icmp .gt 7), ny_o2 10 1 (.iconst 1) 1, ny_o 11 3 (.goto 4), ny_o2 14 1 (.iconst 0) 0, ny_o 15 1 .ireturn]
def m_Ki_isMade : ny_M := (⟨"NymphRota$Kinds", "isMade", "(I)Z"⟩, prog_4_method_3_code, 1, (Option.some Jvm.ClassFile.FieldType.boolean), false, pg_Ki_isMade)
def pg_Ki_isUnder : List ny_Op := [ny_o 0 1 (.iload_n 0), ny_o 1 1 (.istore_n 2), ny_o2 2 1 (.iconst 0) 0, ny_o 3 1 (.istore_n 3), ny_o 4 1 (.iload_n 3), ny_o1 5 3 (.getstatic 9) 1 0, ny_o 8 1 .arraylength, ny_o 9 3 (.if_icmp .ge 34), ny_o 12 1 (.iload_n 2), ny_o 13 3 (.ifCond .lt 30), ny_o 16 1 (.iload_n 2), ny_o1 17 3 (.getstatic 9) 1 0, ny_o 20 1 .arraylength, ny_o 21 3 (.if_icmp .ge 22), ny_o 24 1 (.iload_n 2), ny_o 25 1 (.iload_n 1), ny_o 26 3 (.if_icmp .ne 5), ny_o2 29 1 (.iconst 1) 1, ny_o 30 1 .ireturn, ny_o1 31 3 (.getstatic 9) 1 0, ny_o 34 1 (.iload_n 2), ny_o 35 1 .iaload, ny_o 36 1 (.istore_n 2), ny_o2 37 3 (.iinc 3 1) 1, ny_o 40 3 (.goto (-36)), ny_o2 43 1 (.iconst 0) 0, ny_o 44 1 .ireturn]
def m_Ki_isUnder : ny_M := (⟨"NymphRota$Kinds", "isUnder", "(II)Z"⟩, prog_4_method_4_code, 4, (Option.some Jvm.ClassFile.FieldType.boolean), false, pg_Ki_isUnder)
def pg_Ki_wearies : List ny_Op := [ny_o2 0 1 (.iconst 3) 3, ny_o2 1 1 (.iconst 4) 4, ny_o 2 1 (.iload_n 1), ny_o 3 1 .imul, ny_o 4 1 .iadd, ny_o 5 1 (.istore_n 3), ny_o 6 1 (.iload_n 3), ny_o 7 1 (.iload_n 2), ny_o2 8 1 (.iconst 4) 4, ny_o 9 1 .idiv, ny_o 10 1 .iadd, ny_o 11 2 (.istore 4), ny_o 13 1 (.iload_n 0), ny_o 14 34 (.tableswitch 66 1 5 #[34, 36, 39, 48, 52]), ny_o2 48 1 (.iconst 1) 1, ny_o 49 1 .ireturn, ny_o 50 2 (.iload 4), ny_o 52 1 .ireturn, ny_o2 53 1 (.iconst 0) 0, ny_o 54 2 (.iload 4), ny_o2 56 1 (.iconst 5) 5, ny_o 57 1 .isub, ny_o1 58 3 (.invokestatic 13) 1 0, ny_o 61 1 .ireturn, ny_o2 62 1 (.iconst 2) 2, ny_o 63 1 (.iload_n 3), ny_o 64 1 .imul, ny_o 65 1 .ireturn, ny_o 66 1 (.iload_n 2), ny_o2 67 1 (.iconst 2) 2, ny_o 68 1 .irem, ny_o 69 3 (.ifCond .ne 9), ny_o2 72 1 (.iconst 2) 2, ny_o 73 1 (.iload_n 3), ny_o 74 1 .imul, ny_o 75 3 (.goto 4), ny_o2 78 1 (.iconst 0) 0, ny_o 79 1 .ireturn, ny_o 80 1 (.iload_n 3), ny_o 81 1 .ireturn]
def m_Ki_wearies : ny_M := (⟨"NymphRota$Kinds", "wearies", "(III)I"⟩, prog_4_method_5_code, 5, (Option.some Jvm.ClassFile.FieldType.int), false, pg_Ki_wearies)
def pg_Ki_shows : List ny_Op := [ny_o 0 1 (.iload_n 2), ny_o 1 1 (.iload_n 1), ny_o2 2 1 (.iconst 3) 3, ny_o 3 1 .idiv, ny_o 4 1 .iadd, ny_o 5 2 (.istore 4), ny_o 7 1 (.iload_n 0), ny_o 8 36 (.tableswitch 64 1 5 #[36, 42, 45, 54, 58]), ny_o 44 1 (.iload_n 2), ny_o2 45 1 (.iconst 1) 1, ny_o1 46 3 (.invokestatic 19) 2 0, ny_o 49 1 .ireturn, ny_o 50 2 (.iload 4), ny_o 52 1 .ireturn, ny_o2 53 1 (.iconst 0) 0, ny_o 54 2 (.iload 4), ny_o2 56 1 (.iconst 1) 1, ny_o 57 1 .isub, ny_o1 58 3 (.invokestatic 13) 1 0, ny_o 61 1 .ireturn, ny_o2 62 1 (.iconst 2) 2, ny_o 63 1 (.iload_n 2), ny_o 64 1 .imul, ny_o 65 1 .ireturn, ny_o2 66 1 (.iconst 2) 2, ny_o 67 1 (.iload_n 2), ny_o 68 1 .imul, ny_o 69 1 (.iload_n 3), ny_o 70 1 .iadd, ny_o 71 1 .ireturn, ny_o 72 1 (.iload_n 2), ny_o 73 1 .ireturn]
def m_Ki_shows : ny_M := (⟨"NymphRota$Kinds", "shows", "(IIII)I"⟩, prog_4_method_6_code, 5, (Option.some Jvm.ClassFile.FieldType.int), false, pg_Ki_shows)
def pg_Mo_init : List ny_Op := [ny_o 0 1 (.aload_n 0), ny_o 1 3 (.invokespecial 3), ny_o 4 1 (.aload_n 0), ny_o2 5 2 (.bipush 6) 6, ny_o 7 2 (.newarray .int), ny_o1 9 3 (.putfield 9) 2 1, ny_o 12 1 (.aload_n 0), ny_o2 13 1 (.iconst 0) 0, ny_o1 14 3 (.putfield 15) 2 3, ny_o 17 1 (.aload_n 0), ny_o2 18 1 (.iconst 0) 0, ny_o1 19 3 (.putfield 19) 2 6, ny_o 22 1 .return_]
def m_Mo_init : ny_M := (⟨"NymphRota$Moment", "<init>", "()V"⟩, prog_5_method_1_code, 1, none, true, pg_Mo_init)
def pg_Mo_become : List ny_Op := [ny_o 0 1 (.aload_n 1), ny_o1 1 3 (.getfield 9) 2 1, ny_o2 4 1 (.iconst 0) 0, ny_o 5 1 (.aload_n 0), ny_o1 6 3 (.getfield 9) 2 1, ny_o2 9 1 (.iconst 0) 0, ny_o2 10 2 (.bipush 6) 6, ny_o1 12 3 (.invokestatic 22) 4 0, ny_o 15 1 (.aload_n 0), ny_o 16 1 (.aload_n 1), ny_o1 17 3 (.getfield 15) 2 3, ny_o1 20 3 (.putfield 15) 2 3, ny_o 23 1 (.aload_n 0), ny_o 24 1 (.aload_n 1), ny_o1 25 3 (.getfield 19) 2 6, ny_o1 28 3 (.putfield 19) 2 6, ny_o 31 1 .return_]
def m_Mo_become : ny_M := (⟨"NymphRota$Moment", "become", "(LNymphRota$Moment;)V"⟩, prog_5_method_2_code, 2, none, false, pg_Mo_become)
def pg_Mo_clear : List ny_Op := [ny_o 0 1 (.aload_n 0), ny_o1 1 3 (.getfield 9) 2 1, ny_o2 4 1 (.iconst 0) 0, ny_o 5 3 (.invokestatic 28), ny_o 8 1 (.aload_n 0), ny_o2 9 1 (.iconst 0) 0, ny_o1 10 3 (.putfield 15) 2 3, ny_o 13 1 (.aload_n 0), ny_o2 14 1 (.iconst 0) 0, ny_o1 15 3 (.putfield 19) 2 6, ny_o 18 1 .return_]
def m_Mo_clear : ny_M := (⟨"NymphRota$Moment", "clear", "()V"⟩, prog_5_method_3_code, 1, none, false, pg_Mo_clear)
def pg_Mo_isRelieved : List ny_Op := [ny_o 0 1 (.aload_n 0), ny_o1 1 3 (.getfield 15) 2 3, ny_o2 4 1 (.iconst 1) 1, ny_o 5 1 (.iload_n 1), ny_o 6 1 .ishl, ny_o 7 1 .iand, ny_o 8 3 (.ifCond .eq 7), ny_o2 11 1 (.iconst 1) 1, ny_o 12 3 (.goto 4), ny_o2 15 1 (.iconst 0) 0, ny_o 16 1 .ireturn]
def m_Mo_isRelieved : ny_M := (⟨"NymphRota$Moment", "isRelieved", "(I)Z"⟩, prog_5_method_4_code, 2, (Option.some Jvm.ClassFile.FieldType.boolean), false, pg_Mo_isRelieved)
def pg_Mo_putRelieved : List ny_Op := [ny_o 0 1 (.aload_n 0), ny_o 1 1 (.iload_n 2), ny_o 2 3 (.ifCond .eq 14), ny_o 5 1 (.aload_n 0), ny_o1 6 3 (.getfield 15) 2 3, ny_o2 9 1 (.iconst 1) 1, ny_o 10 1 (.iload_n 1), ny_o 11 1 .ishl, ny_o 12 1 .ior, ny_o 13 3 (.goto 13), ny_o 16 1 (.aload_n 0), ny_o1 17 3 (.getfield 15) 2 3, ny_o2 20 1 (.iconst 1) 1, ny_o 21 1 (.iload_n 1), ny_o 22 1 .ishl, ny_o2 23 1 (.iconst (-1)) (-1), ny_o 24 1 .ixor, ny_o 25 1 .iand, ny_o1 26 3 (.putfield 15) 2 3, ny_o 29 1 .return_]
def m_Mo_putRelieved : ny_M := (⟨"NymphRota$Moment", "putRelieved", "(IZ)V"⟩, prog_5_method_5_code, 3, none, false, pg_Mo_putRelieved)
def pg_Pl_init : List ny_Op := [ny_o 0 1 (.aload_n 0), ny_o 1 3 (.invokespecial 3), ny_o 4 1 (.aload_n 0), ny_o2 5 1 (.iconst 5) 5, ny_o1 6 3 (.anewarray 9) 2 0, ny_o1 9 3 (.putfield 11) 3 1, ny_o 12 1 (.aload_n 0), ny_o2 13 1 (.iconst 4) 4, ny_o 14 2 (.newarray .int), ny_o1 16 3 (.putfield 17) 3 4, ny_o 19 1 (.aload_n 0), ny_o2 20 1 (.iconst 0) 0, ny_o1 21 3 (.putfield 21) 3 6, ny_o 24 1 (.aload_n 0), ny_o2 25 1 (.iconst 0) 0, ny_o1 26 3 (.putfield 25) 3 9, ny_o 29 1 (.aload_n 0), ny_o2 30 1 (.iconst 0) 0, ny_o1 31 3 (.putfield 28) 3 12, ny_o 34 1 (.aload_n 0), ny_o2 35 1 (.iconst 0) 0, ny_o1 36 3 (.putfield 31) 3 15, ny_o 39 1 (.aload_n 0), ny_o2 40 1 (.iconst 4) 4, ny_o 41 2 (.newarray .int), ny_o1 43 3 (.putfield 34) 3 19, ny_o 46 1 (.aload_n 0), ny_o2 47 2 (.bipush (-3)) (-3), ny_o1 49 3 (.putfield 37) 3 21, ny_o 52 1 (.aload_n 0), ny_o2 53 1 (.iconst 0) 0, ny_o1 54 3 (.putfield 40) 3 24, ny_o 57 1 (.aload_n 0), ny_o2 58 1 (.iconst 0) 0, ny_o1 59 3 (.putfield 43) 3 27, ny_o2 62 1 (.iconst 0) 0, ny_o 63 1 (.istore_n 1), ny_o 64 1 (.iload_n 1), ny_o2 65 1 (.iconst 4) 4, ny_o 66 3 (.if_icmp .gt 22), ny_o 69 1 (.aload_n 0), ny_o1 70 3 (.getfield 11) 3 1, ny_o 73 1 (.iload_n 1), ny_o1 74 3 (.new 9) 2 0, ny_o 77 1 .dup, ny_o 78 3 (.invokespecial 46), ny_o 81 1 .aastore, ny_o2 82 3 (.iinc 1 1) 1, ny_o 85 3 (.goto (-21)), ny_o 88 1 .return_]
def m_Pl_init : ny_M := (⟨"NymphRota$Plans", "<init>", "()V"⟩, prog_6_method_1_code, 2, none, true, pg_Pl_init)
def pg_Pl_start : List ny_Op := [ny_o 0 1 (.aload_n 0), ny_o2 1 1 (.iconst 0) 0, ny_o 2 1 (.iload_n 2), ny_o2 3 1 (.iconst 4) 4, ny_o1 4 3 (.invokestatic 47) 2 0, ny_o 7 1 (.aload_n 1), ny_o1 8 3 (.getfield 53) 1 24, ny_o 11 1 (.aload_n 1), ny_o1 12 3 (.getfield 58) 1 1, ny_o1 15 3 (.getfield 62) 2 6, ny_o 18 1 .isub, ny_o1 19 3 (.invokestatic 47) 2 0, ny_o1 22 3 (.invokestatic 65) 1 0, ny_o1 25 3 (.putfield 25) 3 9, ny_o 28 1 (.aload_n 0), ny_o1 29 3 (.getfield 11) 3 1, ny_o2 32 1 (.iconst 0) 0, ny_o 33 1 .aaload, ny_o 34 1 (.aload_n 1), ny_o1 35 3 (.getfield 58) 1 1, ny_o 38 3 (.invokevirtual 68), ny_o 41 1 .return_]
def m_Pl_start : ny_M := (⟨"NymphRota$Plans", "start", "(LNymphRota$Basin;I)V"⟩, prog_6_method_2_code, 3, none, false, pg_Pl_start)
def pg_Pl_tryAll : List ny_Op := [ny_o 0 1 (.aload_n 0), ny_o 1 1 (.aload_n 1), ny_o 2 1 (.iload_n 2), ny_o 3 3 (.invokevirtual 72), ny_o 6 1 (.aload_n 0), ny_o 7 1 (.iload_n 3), ny_o1 8 3 (.putfield 21) 3 6, ny_o 11 1 (.aload_n 0), ny_o2 12 1 (.iconst 0) 0, ny_o1 13 3 (.putfield 28) 3 12, ny_o 16 1 (.aload_n 0), ny_o2 17 1 (.iconst 0) 0, ny_o1 18 3 (.putfield 31) 3 15, ny_o 21 1 (.aload_n 0), ny_o2 22 2 (.bipush (-3)) (-3), ny_o1 24 3 (.putfield 37) 3 21, ny_o 27 1 (.aload_n 0), ny_o2 28 1 (.iconst 0) 0, ny_o1 29 3 (.putfield 40) 3 24, ny_o 32 1 (.aload_n 0), ny_o 33 1 (.aload_n 1), ny_o2 34 1 (.iconst 0) 0, ny_o2 35 1 (.iconst 0) 0, ny_o2 36 1 (.iconst 0) 0, ny_o 37 3 (.invokevirtual 76), ny_o 40 1 .return_]
def m_Pl_tryAll : ny_M := (⟨"NymphRota$Plans", "tryAll", "(LNymphRota$Basin;II)V"⟩, prog_6_method_3_code, 4, none, false, pg_Pl_tryAll)
def pg_Pl_tryFrom : List ny_Op := [ny_o 0 1 (.iload_n 2), ny_o 1 1 (.aload_n 0), ny_o1 2 3 (.getfield 25) 3 9, ny_o 5 3 (.if_icmp .ge 8), ny_o 8 1 (.iload_n 2), ny_o2 9 1 (.iconst 4) 4, ny_o 10 3 (.if_icmp .lt 27), ny_o 13 1 (.aload_n 0), ny_o 14 1 (.iload_n 3), ny_o 15 3 (.invokevirtual 80), ny_o 18 1 (.aload_n 0), ny_o 19 1 (.aload_n 0), ny_o1 20 3 (.getfield 11) 3 1, ny_o 23 1 (.aload_n 0), ny_o1 24 3 (.getfield 25) 3 9, ny_o 27 1 .aaload, ny_o1 28 3 (.getfield 84) 2 3, ny_o 31 2 (.iload 4), ny_o 33 3 (.invokevirtual 87), ny_o 36 1 .return_, ny_o2 37 1 (.iconst 0) 0, ny_o 38 2 (.istore 5), ny_o 40 2 (.iload 5), ny_o 42 1 (.aload_n 1), ny_o1 43 3 (.getfield 91) 1 12, ny_o 46 3 (.if_icmp .gt 74), ny_o 49 1 (.aload_n 0), ny_o1 50 3 (.getfield 17) 3 4, ny_o 53 1 (.iload_n 2), ny_o 54 2 (.iload 5), ny_o 56 1 .iastore, ny_o 57 1 (.aload_n 0), ny_o1 58 3 (.getfield 11) 3 1, ny_o 61 1 (.iload_n 2), ny_o2 62 1 (.iconst 1) 1, ny_o 63 1 .iadd, ny_o 64 1 .aaload, ny_o 65 2 (.astore 6), ny_o 67 2 (.aload 6), ny_o 69 1 (.aload_n 0), ny_o1 70 3 (.getfield 11) 3 1, ny_o 73 1 (.iload_n 2), ny_o 74 1 .aaload, ny_o 75 3 (.invokevirtual 68), ny_o 78 1 (.aload_n 1), ny_o 79 2 (.aload 6), ny_o 81 2 (.iload 5), ny_o 83 3 (.invokevirtual 94), ny_o 86 2 (.istore 7), ny_o 88 1 (.aload_n 0), ny_o 89 1 (.aload_n 1), ny_o 90 1 (.iload_n 2), ny_o2 91 1 (.iconst 1) 1, ny_o 92 1 .iadd, ny_o 93 1 (.iload_n 3), ny_o 94 2 (.iload 7), ny_o 96 1 .iadd, ny_o 97 2 (.iload 5), ny_o 99 3 (.ifCond .ne 8), ny_o 102 2 (.iload 4), ny_o 104 3 (.goto 7), ny_o 107 2 (.iload 4), ny_o2 109 1 (.iconst 1) 1, ny_o 110 1 .iadd, ny_o 111 3 (.invokevirtual 76), ny_o2 114 3 (.iinc 5 1) 1, ny_o 117 3 (.goto (-77)), ny_o 120 1 .return_]
def m_Pl_tryFrom : ny_M := (⟨"NymphRota$Plans", "tryFrom", "(LNymphRota$Basin;III)V"⟩, prog_6_method_4_code, 8, none, false, pg_Pl_tryFrom)
def pg_Pl_noteWorth : List ny_Op := [ny_o 0 1 (.aload_n 0), ny_o1 1 3 (.getfield 31) 3 15, ny_o 4 3 (.ifCond .eq 11), ny_o 7 1 (.iload_n 1), ny_o 8 1 (.aload_n 0), ny_o1 9 3 (.getfield 28) 3 12, ny_o 12 3 (.if_icmp .le 30), ny_o 15 1 (.aload_n 0), ny_o 16 1 (.iload_n 1), ny_o1 17 3 (.putfield 28) 3 12, ny_o 20 1 (.aload_n 0), ny_o2 21 1 (.iconst 1) 1, ny_o1 22 3 (.putfield 31) 3 15, ny_o 25 1 (.aload_n 0), ny_o1 26 3 (.getfield 17) 3 4, ny_o2 29 1 (.iconst 0) 0, ny_o 30 1 (.aload_n 0), ny_o1 31 3 (.getfield 34) 3 19, ny_o2 34 1 (.iconst 0) 0, ny_o2 35 1 (.iconst 4) 4, ny_o1 36 3 (.invokestatic 98) 4 0, ny_o 39 3 (.goto 21), ny_o 42 1 (.iload_n 1), ny_o 43 1 (.aload_n 0), ny_o1 44 3 (.getfield 28) 3 12, ny_o 47 3 (.if_icmp .ne 13), ny_o 50 1 (.aload_n 0), ny_o 51 1 .dup, ny_o1 52 3 (.getfield 31) 3 15, ny_o2 55 1 (.iconst 1) 1, ny_o 56 1 .iadd, ny_o1 57 3 (.putfield 31) 3 15, ny_o 60 1 .return_]
def m_Pl_noteWorth : ny_M := (⟨"NymphRota$Plans", "noteWorth", "(I)V"⟩, prog_6_method_5_code, 2, none, false, pg_Pl_noteWorth)
def pg_Pl_noteRelieved : List ny_Op := [ny_o 0 1 (.aload_n 0), ny_o 1 1 .dup, ny_o1 2 3 (.getfield 40) 3 24, ny_o 5 1 (.iload_n 1), ny_o 6 1 .ior, ny_o1 7 3 (.putfield 40) 3 24, ny_o 10 1 (.aload_n 0), ny_o1 11 3 (.getfield 21) 3 6, ny_o 14 1 (.iload_n 1), ny_o2 15 1 (.iconst (-1)) (-1), ny_o 16 1 .ixor, ny_o 17 1 .iand, ny_o 18 3 (.ifCond .ne 25), ny_o 21 1 (.aload_n 0), ny_o1 22 3 (.getfield 37) 3 21, ny_o2 25 2 (.bipush (-3)) (-3), ny_o 27 3 (.if_icmp .eq 11), ny_o 30 1 (.iload_n 2), ny_o 31 1 (.aload_n 0), ny_o1 32 3 (.getfield 37) 3 21, ny_o 35 3 (.if_icmp .ge 8), ny_o 38 1 (.aload_n 0), ny_o 39 1 (.iload_n 2), ny_o1 40 3 (.putfield 37) 3 21, ny_o 43 1 .return_]
def m_Pl_noteRelieved : ny_M := (⟨"NymphRota$Plans", "noteRelieved", "(II)V"⟩, prog_6_method_6_code, 3, none, false, pg_Pl_noteRelieved)
def pg_Pl_valueOfGame : List ny_Op := [ny_o 0 1 (.aload_n 0), ny_o 1 1 (.aload_n 1), ny_o 2 1 (.iload_n 2), ny_o 3 3 (.invokevirtual 72), ny_o 6 1 (.aload_n 0), ny_o2 7 1 (.iconst 0) 0, ny_o1 8 3 (.putfield 43) 3 27, ny_o 11 1 (.aload_n 0), ny_o 12 1 (.aload_n 1), ny_o2 13 1 (.iconst 0) 0, ny_o 14 3 (.invokevirtual 104), ny_o 17 1 .ireturn]
def m_Pl_valueOfGame : ny_M := (⟨"NymphRota$Plans", "valueOfGame", "(LNymphRota$Basin;I)I"⟩, prog_6_method_7_code, 3, (Option.some Jvm.ClassFile.FieldType.int), false, pg_Pl_valueOfGame)
def pg_Pl_valueFrom : List ny_Op := [ny_o 0 1 (.iload_n 2), ny_o 1 1 (.aload_n 0), ny_o1 2 3 (.getfield 25) 3 9, ny_o 5 3 (.if_icmp .ge 8), ny_o 8 1 (.iload_n 2), ny_o2 9 1 (.iconst 4) 4, ny_o 10 3 (.if_icmp .lt 5), ny_o2 13 1 (.iconst 0) 0, ny_o 14 1 .ireturn, ny_o 15 1 (.iload_n 2), ny_o2 16 1 (.iconst 2) 2, ny_o 17 1 .irem, ny_o 18 3 (.ifCond .ne 7), ny_o2 21 1 (.iconst 1) 1, ny_o 22 3 (.goto 4), ny_o2 25 1 (.iconst 0) 0, ny_o 26 1 (.istore_n 3), ny_o2 27 1 (.iconst 0) 0, ny_o 28 2 (.istore 4), ny_o2 30 1 (.iconst 0) 0, ny_o 31 2 (.istore 5), ny_o 33 2 (.iload 5), ny_o 35 1 (.aload_n 1), ny_o1 36 3 (.getfield 91) 1 12, ny_o 39 3 (.if_icmp .gt 93), ny_o 42 1 (.aload_n 0), ny_o1 43 3 (.getfield 11) 3 1, ny_o 46 1 (.iload_n 2), ny_o2 47 1 (.iconst 1) 1, ny_o 48 1 .iadd, ny_o 49 1 .aaload, ny_o 50 2 (.astore 6), ny_o 52 2 (.aload 6), ny_o 54 1 (.aload_n 0), ny_o1 55 3 (.getfield 11) 3 1, ny_o 58 1 (.iload_n 2), ny_o 59 1 .aaload, ny_o 60 3 (.invokevirtual 68), ny_o 63 1 (.aload_n 1), ny_o 64 2 (.aload 6), ny_o 66 2 (.iload 5), ny_o 68 3 (.invokevirtual 94), ny_o 71 2 (.istore 7), ny_o 73 2 (.iload 7), ny_o 75 1 (.aload_n 0), ny_o 76 1 (.aload_n 1), ny_o 77 1 (.iload_n 2), ny_o2 78 1 (.iconst 1) 1, ny_o 79 1 .iadd, ny_o 80 3 (.invokevirtual 104), ny_o 83 1 .iadd, ny_o 84 2 (.istore 8), ny_o 86 2 (.iload 5), ny_o 88 3 (.ifCond .eq 24), ny_o 91 1 (.iload_n 3), ny_o 92 3 (.ifCond .eq 13), ny_o 95 2 (.iload 8), ny_o 97 2 (.iload 4), ny_o 99 3 (.if_icmp .le 27), ny_o 102 3 (.goto 10), ny_o 105 2 (.iload 8), ny_o 107 2 (.iload 4), ny_o 109 3 (.if_icmp .ge 17), ny_o 112 2 (.iload 8), ny_o 114 2 (.istore 4), ny_o 116 1 (.iload_n 2), ny_o 117 3 (.ifCond .ne 9), ny_o 120 1 (.aload_n 0), ny_o 121 2 (.iload 5), ny_o1 123 3 (.putfield 43) 3 27, ny_o2 126 3 (.iinc 5 1) 1, ny_o 129 3 (.goto (-96)), ny_o 132 2 (.iload 4), ny_o 134 1 .ireturn]
def m_Pl_valueFrom : ny_M := (⟨"NymphRota$Plans", "valueFrom", "(LNymphRota$Basin;I)I"⟩, prog_6_method_8_code, 9, (Option.some Jvm.ClassFile.FieldType.int), false, pg_Pl_valueFrom)
def pg_Re_init : List ny_Op := [ny_o 0 1 (.aload_n 0), ny_o 1 3 (.invokespecial 3), ny_o 4 1 (.aload_n 0), ny_o2 5 1 (.iconst 0) 0, ny_o1 6 3 (.putfield 9) 4 0, ny_o 9 1 (.aload_n 0), ny_o2 10 2 (.bipush 6) 6, ny_o 12 2 (.newarray .int), ny_o1 14 3 (.putfield 15) 4 4, ny_o 17 1 (.aload_n 0), ny_o2 18 2 (.bipush 6) 6, ny_o 20 2 (.newarray .int), ny_o1 22 3 (.putfield 19) 4 7, ny_o 25 1 (.aload_n 0), ny_o2 26 2 (.bipush 6) 6, ny_o 28 2 (.newarray .int), ny_o1 30 3 (.putfield 22) 4 10, ny_o 33 1 (.aload_n 0), ny_o2 34 2 (.bipush 6) 6, ny_o 36 2 (.newarray .int), ny_o1 38 3 (.putfield 25) 4 13, ny_o 41 1 (.aload_n 0), ny_o2 42 1 (.iconst 0) 0, ny_o1 43 3 (.putfield 28) 4 15, ny_o 46 1 (.aload_n 0), ny_o2 47 1 (.iconst 0) 0, ny_o1 48 3 (.putfield 31) 4 18, ny_o 51 1 (.aload_n 0), ny_o2 52 1 (.iconst 0) 0, ny_o1 53 3 (.putfield 34) 4 21, ny_o 56 1 (.aload_n 0), ny_o2 57 1 (.iconst 0) 0, ny_o1 58 3 (.putfield 37) 4 24, ny_o 61 1 (.aload_n 0), ny_o2 62 2 (.bipush (-3)) (-3), ny_o1 64 3 (.putfield 40) 4 27, ny_o 67 1 .return_]
def m_Re_init : ny_M := (⟨"NymphRota$Reports", "<init>", "()V"⟩, prog_7_method_1_code, 1, none, true, pg_Re_init)
def pg_Re_become : List ny_Op := [ny_o 0 1 (.aload_n 0), ny_o 1 1 (.aload_n 1), ny_o1 2 3 (.getfield 9) 4 0, ny_o1 5 3 (.putfield 9) 4 0, ny_o 8 1 (.aload_n 1), ny_o1 9 3 (.getfield 15) 4 4, ny_o2 12 1 (.iconst 0) 0, ny_o 13 1 (.aload_n 0), ny_o1 14 3 (.getfield 15) 4 4, ny_o2 17 1 (.iconst 0) 0, ny_o2 18 2 (.bipush 6) 6, ny_o1 20 3 (.invokestatic 43) 4 0, ny_o 23 1 (.aload_n 1), ny_o1 24 3 (.getfield 19) 4 7, ny_o2 27 1 (.iconst 0) 0, ny_o 28 1 (.aload_n 0), ny_o1 29 3 (.getfield 19) 4 7, ny_o2 32 1 (.iconst 0) 0, ny_o2 33 2 (.bipush 6) 6, ny_o1 35 3 (.invokestatic 43) 4 0, ny_o 38 1 (.aload_n 1), ny_o1 39 3 (.getfield 22) 4 10, ny_o2 42 1 (.iconst 0) 0, ny_o 43 1 (.aload_n 0), ny_o1 44 3 (.getfield 22) 4 10, ny_o2 47 1 (.iconst 0) 0, ny_o2 48 2 (.bipush 6) 6, ny_o1 50 3 (.invokestatic 43) 4 0, ny_o 53 1 (.aload_n 1), ny_o1 54 3 (.getfield 25) 4 13, ny_o2 57 1 (.iconst 0) 0, ny_o 58 1 (.aload_n 0), ny_o1 59 3 (.getfield 25) 4 13, ny_o2 62 1 (.iconst 0) 0, ny_o2 63 2 (.bipush 6) 6, ny_o1 65 3 (.invokestatic 43) 4 0, ny_o 68 1 .return_]
def m_Re_become : ny_M := (⟨"NymphRota$Reports", "become", "(LNymphRota$Reports;)V"⟩, prog_7_method_2_code, 2, none, false, pg_Re_become)
def pg_Re_add : List ny_Op := [ny_o 0 1 (.aload_n 0), ny_o1 1 3 (.getfield 9) 4 0, ny_o2 4 2 (.bipush 6) 6, ny_o 6 3 (.if_icmp .lt 6), ny_o2 9 2 (.bipush (-2)) (-2), ny_o 11 1 .ireturn, ny_o 12 1 (.aload_n 0), ny_o1 13 3 (.getfield 15) 4 4, ny_o 16 1 (.aload_n 0), ny_o1 17 3 (.getfield 9) 4 0, ny_o 20 1 (.iload_n 1), ny_o 21 1 .iastore, ny_o 22 1 (.aload_n 0), ny_o1 23 3 (.getfield 19) 4 7, ny_o 26 1 (.aload_n 0), ny_o1 27 3 (.getfield 9) 4 0, ny_o 30 1 (.iload_n 2), ny_o 31 1 .iastore, ny_o 32 1 (.aload_n 0), ny_o1 33 3 (.getfield 22) 4 10, ny_o 36 1 (.aload_n 0), ny_o1 37 3 (.getfield 9) 4 0, ny_o 40 1 (.iload_n 3), ny_o 41 1 .iastore, ny_o 42 1 (.aload_n 0), ny_o1 43 3 (.getfield 25) 4 13, ny_o 46 1 (.aload_n 0), ny_o1 47 3 (.getfield 9) 4 0, ny_o 50 2 (.iload 4), ny_o 52 1 .iastore, ny_o 53 1 (.aload_n 0), ny_o 54 1 .dup, ny_o1 55 3 (.getfield 9) 4 0, ny_o2 58 1 (.iconst 1) 1, ny_o 59 1 .iadd, ny_o1 60 3 (.putfield 9) 4 0, ny_o 63 1 (.aload_n 0), ny_o1 64 3 (.getfield 9) 4 0, ny_o2 67 1 (.iconst 1) 1, ny_o 68 1 .isub, ny_o 69 1 .ireturn]
def m_Re_add : ny_M := (⟨"NymphRota$Reports", "add", "(IIII)I"⟩, prog_7_method_3_code, 5, (Option.some Jvm.ClassFile.FieldType.int), false, pg_Re_add)
def pg_Re_tryAll : List ny_Op := [ny_o 0 1 (.aload_n 0), ny_o2 1 1 (.iconst 0) 0, ny_o1 2 3 (.putfield 28) 4 15, ny_o 5 1 (.aload_n 0), ny_o2 6 2 (.bipush (-3)) (-3), ny_o1 8 3 (.putfield 40) 4 27, ny_o2 11 1 (.iconst 1) 1, ny_o 12 1 (.istore_n 2), ny_o 13 1 (.iload_n 2), ny_o2 14 1 (.iconst 5) 5, ny_o 15 3 (.if_icmp .gt 48), ny_o2 18 1 (.iconst 0) 0, ny_o 19 1 (.istore_n 3), ny_o 20 1 (.iload_n 3), ny_o2 21 2 (.bipush 9) 9, ny_o 23 3 (.if_icmp .gt 34), ny_o2 26 1 (.iconst 0) 0, ny_o 27 2 (.istore 4), ny_o 29 2 (.iload 4), ny_o2 31 2 (.bipush 90) 90, ny_o 33 3 (.if_icmp .gt 18), ny_o 36 1 (.aload_n 0), ny_o 37 1 (.aload_n 1), ny_o 38 1 (.iload_n 2), ny_o 39 1 (.iload_n 3), ny_o 40 2 (.iload 4), ny_o 42 3 (.invokevirtual 51), ny_o2 45 3 (.iinc 4 10) 10, ny_o 48 3 (.goto (-19)), ny_o2 51 3 (.iinc 3 1) 1, ny_o 54 3 (.goto (-34)), ny_o2 57 3 (.iinc 2 1) 1, ny_o 60 3 (.goto (-47)), ny_o 63 1 .return_]
def m_Re_tryAll : ny_M := (⟨"NymphRota$Reports", "tryAll", "(LNymphRota$Basin;)V"⟩, prog_7_method_4_code, 5, none, false, pg_Re_tryAll)
def pg_Re_tryOne : List ny_Op := [ny_o 0 1 (.aload_n 0), ny_o 1 1 (.aload_n 1), ny_o 2 1 (.iload_n 2), ny_o 3 1 (.iload_n 3), ny_o 4 2 (.iload 4), ny_o 6 3 (.invokevirtual 55), ny_o 9 2 (.istore 5), ny_o 11 2 (.iload 5), ny_o 13 3 (.ifCond .ne 36), ny_o 16 1 (.aload_n 0), ny_o1 17 3 (.getfield 28) 4 15, ny_o 20 3 (.ifCond .ne 19), ny_o 23 1 (.aload_n 0), ny_o 24 1 (.iload_n 2), ny_o1 25 3 (.putfield 31) 4 18, ny_o 28 1 (.aload_n 0), ny_o 29 1 (.iload_n 3), ny_o1 30 3 (.putfield 34) 4 21, ny_o 33 1 (.aload_n 0), ny_o 34 2 (.iload 4), ny_o1 36 3 (.putfield 37) 4 24, ny_o 39 1 (.aload_n 0), ny_o 40 1 .dup, ny_o1 41 3 (.getfield 28) 4 15, ny_o2 44 1 (.iconst 1) 1, ny_o 45 1 .iadd, ny_o1 46 3 (.putfield 28) 4 15, ny_o2 49 1 (.iconst 0) 0, ny_o 50 2 (.istore 6), ny_o 52 2 (.iload 6), ny_o 54 1 (.aload_n 0), ny_o1 55 3 (.getfield 9) 4 0, ny_o 58 3 (.if_icmp .ge 42), ny_o 61 2 (.iload 5), ny_o2 63 1 (.iconst 1) 1, ny_o 64 2 (.iload 6), ny_o 66 1 .ishl, ny_o 67 3 (.if_icmp .ne 27), ny_o 70 1 (.aload_n 0), ny_o1 71 3 (.getfield 40) 4 27, ny_o2 74 2 (.bipush (-3)) (-3), ny_o 76 3 (.if_icmp .eq 12), ny_o 79 2 (.iload 6), ny_o 81 1 (.aload_n 0), ny_o1 82 3 (.getfield 40) 4 27, ny_o 85 3 (.if_icmp .ge 9), ny_o 88 1 (.aload_n 0), ny_o 89 2 (.iload 6), ny_o1 91 3 (.putfield 40) 4 27, ny_o2 94 3 (.iinc 6 1) 1, ny_o 97 3 (.goto (-45)), ny_o 100 1 .return_]
def m_Re_tryOne : ny_M := (⟨"NymphRota$Reports", "tryOne", "(LNymphRota$Basin;III)V"⟩, prog_7_method_5_code, 7, none, false, pg_Re_tryOne)
def pg_Re_wrongBy : List ny_Op := [ny_o2 0 1 (.iconst 0) 0, ny_o 1 2 (.istore 5), ny_o 3 2 (.iload 4), ny_o 5 2 (.istore 6), ny_o2 7 1 (.iconst 0) 0, ny_o 8 2 (.istore 7), ny_o2 10 1 (.iconst 0) 0, ny_o 11 2 (.istore 8), ny_o 13 2 (.iload 8), ny_o2 15 2 (.bipush 16) 16, ny_o 17 3 (.if_icmp .ge 70), ny_o 20 2 (.iload 5), ny_o 22 1 (.aload_n 0), ny_o 23 2 (.iload 8), ny_o 25 2 (.iload 6), ny_o 27 2 (.iload 7), ny_o 29 3 (.invokevirtual 59), ny_o 32 1 .ior, ny_o 33 2 (.istore 5), ny_o 35 2 (.iload 6), ny_o2 37 2 (.bipush 60) 60, ny_o 39 3 (.if_icmp .ge 20), ny_o 42 2 (.iload 7), ny_o 44 1 (.iload_n 2), ny_o 45 1 (.iload_n 3), ny_o 46 1 (.aload_n 1), ny_o 47 2 (.iload 8), ny_o 49 3 (.invokevirtual 63), ny_o2 52 1 (.iconst 0) 0, ny_o 53 3 (.invokestatic 69), ny_o 56 1 .iadd, ny_o 57 2 (.istore 7), ny_o2 59 2 (.bipush 99) 99, ny_o 61 2 (.iload 6), ny_o 63 1 (.iload_n 2), ny_o 64 1 (.aload_n 1), ny_o 65 2 (.iload 8), ny_o 67 3 (.invokevirtual 73), ny_o 70 2 (.iload 8), ny_o 72 3 (.invokestatic 76), ny_o 75 1 .iadd, ny_o1 76 3 (.invokestatic 79) 2 0, ny_o 79 2 (.istore 6), ny_o2 81 3 (.iinc 8 1) 1, ny_o 84 3 (.goto (-71)), ny_o 87 2 (.iload 5), ny_o 89 1 .ireturn]
def m_Re_wrongBy : ny_M := (⟨"NymphRota$Reports", "wrongBy", "(LNymphRota$Basin;III)I"⟩, prog_7_method_6_code, 9, (Option.some Jvm.ClassFile.FieldType.int), false, pg_Re_wrongBy)
def pg_Re_wrongBehind : List ny_Op := [ny_o2 0 1 (.iconst 0) 0, ny_o 1 2 (.istore 4), ny_o2 3 1 (.iconst 0) 0, ny_o 4 2 (.istore 5), ny_o 6 2 (.iload 5), ny_o 8 1 (.aload_n 0), ny_o1 9 3 (.getfield 9) 4 0, ny_o 12 3 (.if_icmp .ge 70), ny_o 15 1 (.aload_n 0), ny_o1 16 3 (.getfield 19) 4 7, ny_o 19 2 (.iload 5), ny_o 21 1 .iaload, ny_o 22 3 (.ifCond .ne 7), ny_o 25 1 (.iload_n 2), ny_o 26 3 (.goto 4), ny_o 29 1 (.iload_n 3), ny_o 30 2 (.istore 6), ny_o 32 1 (.aload_n 0), ny_o1 33 3 (.getfield 15) 4 4, ny_o 36 2 (.iload 5), ny_o 38 1 .iaload, ny_o 39 1 (.iload_n 1), ny_o 40 3 (.if_icmp .ne 36), ny_o 43 2 (.iload 6), ny_o 45 1 (.aload_n 0), ny_o1 46 3 (.getfield 22) 4 10, ny_o 49 2 (.iload 5), ny_o 51 1 .iaload, ny_o 52 3 (.if_icmp .lt 15), ny_o 55 2 (.iload 6), ny_o 57 1 (.aload_n 0), ny_o1 58 3 (.getfield 25) 4 13, ny_o 61 2 (.iload 5), ny_o 63 1 .iaload, ny_o 64 3 (.if_icmp .le 12), ny_o 67 2 (.iload 4), ny_o2 69 1 (.iconst 1) 1, ny_o 70 2 (.iload 5), ny_o 72 1 .ishl, ny_o 73 1 .ior, ny_o 74 2 (.istore 4), ny_o2 76 3 (.iinc 5 1) 1, ny_o 79 3 (.goto (-73)), ny_o 82 2 (.iload 4), ny_o 84 1 .ireturn]
def m_Re_wrongBehind : ny_M := (⟨"NymphRota$Reports", "wrongBehind", "(III)I"⟩, prog_7_method_7_code, 7, (Option.some Jvm.ClassFile.FieldType.int), false, pg_Re_wrongBehind)
def pg_Ru_init : List ny_Op := [ny_o 0 1 (.aload_n 0), ny_o 1 3 (.invokespecial 7), ny_o 4 1 (.aload_n 0), ny_o2 5 1 (.iconst 0) 0, ny_o1 6 3 (.putfield 13) 5 0, ny_o 9 1 (.aload_n 0), ny_o2 10 2 (.bipush 8) 8, ny_o 12 2 (.newarray .int), ny_o1 14 3 (.putfield 17) 5 4, ny_o 17 1 (.aload_n 0), ny_o2 18 2 (.bipush 8) 8, ny_o 20 2 (.newarray .int), ny_o1 22 3 (.putfield 21) 5 7, ny_o 25 1 (.aload_n 0), ny_o2 26 2 (.bipush 8) 8, ny_o 28 2 (.newarray .int), ny_o1 30 3 (.putfield 24) 5 10, ny_o 33 1 (.aload_n 0), ny_o2 34 1 (.iconst 0) 0, ny_o1 35 3 (.putfield 27) 5 12, ny_o 38 1 (.aload_n 0), ny_o2 39 3 (.sipush 200) 200, ny_o 42 2 (.newarray .int), ny_o1 44 3 (.putfield 30) 5 16, ny_o 47 1 (.aload_n 0), ny_o2 48 3 (.sipush 200) 200, ny_o 51 2 (.newarray .int), ny_o1 53 3 (.putfield 33) 5 19, ny_o 56 1 (.aload_n 0), ny_o2 57 3 (.sipush 200) 200, ny_o 60 2 (.newarray .int), ny_o1 62 3 (.putfield 36) 5 22, ny_o 65 1 (.aload_n 0), ny_o2 66 1 (.iconst 5) 5, ny_o1 67 3 (.putfield 39) 5 24, ny_o 70 1 (.aload_n 0), ny_o2 71 3 (.sipush 205) 205, ny_o 74 2 (.newarray .int), ny_o1 76 3 (.putfield 42) 5 28, ny_o 79 1 .return_]
def m_Ru_init : ny_M := (⟨"NymphRota$Rules", "<init>", "()V"⟩, prog_8_method_1_code, 1, none, true, pg_Ru_init)
def pg_Ru_clear : List ny_Op := [ny_o 0 1 (.aload_n 0), ny_o2 1 1 (.iconst 0) 0, ny_o1 2 3 (.putfield 13) 5 0, ny_o 5 1 (.aload_n 0), ny_o2 6 1 (.iconst 0) 0, ny_o1 7 3 (.putfield 27) 5 12, ny_o 10 1 (.aload_n 0), ny_o2 11 1 (.iconst 5) 5, ny_o1 12 3 (.putfield 39) 5 24, ny_o 15 1 .return_]
def m_Ru_clear : ny_M := (⟨"NymphRota$Rules", "clear", "()V"⟩, prog_8_method_2_code, 1, none, false, pg_Ru_clear)
def pg_Ru_become : List ny_Op := [ny_o 0 1 (.aload_n 0), ny_o 1 1 (.aload_n 1), ny_o1 2 3 (.getfield 13) 5 0, ny_o1 5 3 (.putfield 13) 5 0, ny_o 8 1 (.aload_n 1), ny_o1 9 3 (.getfield 17) 5 4, ny_o2 12 1 (.iconst 0) 0, ny_o 13 1 (.aload_n 0), ny_o1 14 3 (.getfield 17) 5 4, ny_o2 17 1 (.iconst 0) 0, ny_o2 18 2 (.bipush 8) 8, ny_o1 20 3 (.invokestatic 45) 4 0, ny_o 23 1 (.aload_n 1), ny_o1 24 3 (.getfield 21) 5 7, ny_o2 27 1 (.iconst 0) 0, ny_o 28 1 (.aload_n 0), ny_o1 29 3 (.getfield 21) 5 7, ny_o2 32 1 (.iconst 0) 0, ny_o2 33 2 (.bipush 8) 8, ny_o1 35 3 (.invokestatic 45) 4 0, ny_o 38 1 (.aload_n 1), ny_o1 39 3 (.getfield 24) 5 10, ny_o2 42 1 (.iconst 0) 0, ny_o 43 1 (.aload_n 0), ny_o1 44 3 (.getfield 24) 5 10, ny_o2 47 1 (.iconst 0) 0, ny_o2 48 2 (.bipush 8) 8, ny_o1 50 3 (.invokestatic 45) 4 0, ny_o 53 1 (.aload_n 0), ny_o 54 1 (.aload_n 1), ny_o1 55 3 (.getfield 27) 5 12, ny_o1 58 3 (.putfield 27) 5 12, ny_o 61 1 (.aload_n 1), ny_o1 62 3 (.getfield 30) 5 16, ny_o2 65 1 (.iconst 0) 0, ny_o 66 1 (.aload_n 0), ny_o1 67 3 (.getfield 30) 5 16, ny_o2 70 1 (.iconst 0) 0, ny_o2 71 3 (.sipush 200) 200, ny_o1 74 3 (.invokestatic 45) 4 0, ny_o 77 1 (.aload_n 1), ny_o1 78 3 (.getfield 33) 5 19, ny_o2 81 1 (.iconst 0) 0, ny_o 82 1 (.aload_n 0), ny_o1 83 3 (.getfield 33) 5 19, ny_o2 86 1 (.iconst 0) 0, ny_o2 87 3 (.sipush 200) 200, ny_o1 90 3 (.invokestatic 45) 4 0, ny_o 93 1 (.aload_n 1), ny_o1 94 3 (.getfield 36) 5 22, ny_o2 97 1 (.iconst 0) 0, ny_o 98 1 (.aload_n 0), ny_o1 99 3 (.getfield 36) 5 22, ny_o2 102 1 (.iconst 0) 0, ny_o2 103 3 (.sipush 200) 200, ny_o1 106 3 (.invokestatic 45) 4 0, ny_o 109 1 (.aload_n 0), ny_o 110 1 (.aload_n 1), ny_o1 111 3 (.getfield 39) 5 24, ny_o1 114 3 (.putfield 39) 5 24, ny_o 117 1 (.aload_n 1), ny_o1 118 3 (.getfield 42) 5 28, ny_o2 121 1 (.iconst 0) 0, ny_o 122 1 (.aload_n 0), ny_o1 123 3 (.getfield 42) 5 28, ny_o2 126 1 (.iconst 0) 0, ny_o2 127 3 (.sipush 205) 205, ny_o1 130 3 (.invokestatic 45) 4 0, ny_o 133 1 .return_]
def m_Ru_become : ny_M := (⟨"NymphRota$Rules", "become", "(LNymphRota$Rules;)V"⟩, prog_8_method_3_code, 2, none, false, pg_Ru_become)
def pg_Ru_addNumber : List ny_Op := [ny_o 0 1 (.aload_n 0), ny_o1 1 3 (.getfield 39) 5 24, ny_o2 4 3 (.sipush 204) 204, ny_o1 7 3 (.invokestatic 51) 2 0, ny_o 10 1 (.istore_n 2), ny_o 11 1 (.aload_n 0), ny_o1 12 3 (.getfield 42) 5 28, ny_o 15 1 (.iload_n 2), ny_o 16 1 (.iload_n 1), ny_o 17 1 .iastore, ny_o 18 1 (.aload_n 0), ny_o 19 1 (.iload_n 2), ny_o2 20 1 (.iconst 1) 1, ny_o 21 1 .iadd, ny_o1 22 3 (.putfield 39) 5 24, ny_o 25 1 (.iload_n 2), ny_o 26 1 .ireturn]
def m_Ru_addNumber : ny_M := (⟨"NymphRota$Rules", "addNumber", "(I)I"⟩, prog_8_method_4_code, 3, (Option.some Jvm.ClassFile.FieldType.int), false, pg_Ru_addNumber)
def pg_Ru_addStep : List ny_Op := [ny_o 0 1 (.aload_n 0), ny_o1 1 3 (.getfield 27) 5 12, ny_o2 4 3 (.sipush 200) 200, ny_o 7 3 (.if_icmp .ge 43), ny_o 10 1 (.aload_n 0), ny_o1 11 3 (.getfield 30) 5 16, ny_o 14 1 (.aload_n 0), ny_o1 15 3 (.getfield 27) 5 12, ny_o 18 1 (.iload_n 1), ny_o 19 1 .iastore, ny_o 20 1 (.aload_n 0), ny_o1 21 3 (.getfield 33) 5 19, ny_o 24 1 (.aload_n 0), ny_o1 25 3 (.getfield 27) 5 12, ny_o 28 1 (.iload_n 2), ny_o 29 1 .iastore, ny_o 30 1 (.aload_n 0), ny_o1 31 3 (.getfield 36) 5 22, ny_o 34 1 (.aload_n 0), ny_o1 35 3 (.getfield 27) 5 12, ny_o 38 1 (.iload_n 3), ny_o 39 1 .iastore, ny_o 40 1 (.aload_n 0), ny_o 41 1 .dup, ny_o1 42 3 (.getfield 27) 5 12, ny_o2 45 1 (.iconst 1) 1, ny_o 46 1 .iadd, ny_o1 47 3 (.putfield 27) 5 12, ny_o 50 1 .return_]
def m_Ru_addStep : ny_M := (⟨"NymphRota$Rules", "addStep", "(III)V"⟩, prog_8_method_5_code, 4, none, false, pg_Ru_addStep)
def pg_Ru_addRule : List ny_Op := [ny_o 0 1 (.aload_n 0), ny_o1 1 3 (.getfield 13) 5 0, ny_o2 4 2 (.bipush 8) 8, ny_o 6 3 (.if_icmp .ge 46), ny_o 9 1 (.aload_n 0), ny_o1 10 3 (.getfield 17) 5 4, ny_o 13 1 (.aload_n 0), ny_o1 14 3 (.getfield 13) 5 0, ny_o 17 1 (.iload_n 1), ny_o 18 1 .iastore, ny_o 19 1 (.aload_n 0), ny_o1 20 3 (.getfield 21) 5 7, ny_o 23 1 (.aload_n 0), ny_o1 24 3 (.getfield 13) 5 0, ny_o 27 1 (.iload_n 2), ny_o 28 1 .iastore, ny_o 29 1 (.aload_n 0), ny_o1 30 3 (.getfield 24) 5 10, ny_o 33 1 (.aload_n 0), ny_o1 34 3 (.getfield 13) 5 0, ny_o 37 1 (.aload_n 0), ny_o1 38 3 (.getfield 27) 5 12, ny_o 41 1 .iastore, ny_o 42 1 (.aload_n 0), ny_o 43 1 .dup, ny_o1 44 3 (.getfield 13) 5 0, ny_o2 47 1 (.iconst 1) 1, ny_o 48 1 .iadd, ny_o1 49 3 (.putfield 13) 5 0, ny_o 52 1 .return_]
def m_Ru_addRule : ny_M := (⟨"NymphRota$Rules", "addRule", "(II)V"⟩, prog_8_method_6_code, 3, none, false, pg_Ru_addRule)
def pg_Ru_tells : List ny_Op := [ny_o2 0 1 (.iconst 0) 0, ny_o 1 1 (.istore_n 2), ny_o2 2 1 (.iconst 0) 0, ny_o 3 1 (.istore_n 3), ny_o 4 1 (.iload_n 3), ny_o 5 1 (.aload_n 0), ny_o1 6 3 (.getfield 13) 5 0, ny_o 9 3 (.if_icmp .ge 50), ny_o 12 1 (.iload_n 1), ny_o 13 1 (.aload_n 0), ny_o1 14 3 (.getfield 17) 5 4, ny_o 17 1 (.iload_n 3), ny_o 18 1 .iaload, ny_o 19 3 (.invokestatic 57), ny_o 22 3 (.ifCond .eq 24), ny_o 25 1 (.aload_n 0), ny_o 26 1 (.iload_n 2), ny_o 27 1 (.aload_n 0), ny_o1 28 3 (.getfield 24) 5 10, ny_o 31 1 (.iload_n 3), ny_o 32 1 .iaload, ny_o 33 3 (.invokevirtual 63), ny_o 36 3 (.ifCond .eq 10), ny_o 39 1 (.aload_n 0), ny_o1 40 3 (.getfield 21) 5 7, ny_o 43 1 (.iload_n 3), ny_o 44 1 .iaload, ny_o 45 1 .ireturn, ny_o 46 1 (.aload_n 0), ny_o1 47 3 (.getfield 24) 5 10, ny_o 50 1 (.iload_n 3), ny_o 51 1 .iaload, ny_o 52 1 (.istore_n 2), ny_o2 53 3 (.iinc 3 1) 1, ny_o 56 3 (.goto (-52)), ny_o2 59 1 (.iconst 0) 0, ny_o 60 1 .ireturn]
def m_Ru_tells : ny_M := (⟨"NymphRota$Rules", "tells", "(I)I"⟩, prog_8_method_7_code, 4, (Option.some Jvm.ClassFile.FieldType.int), false, pg_Ru_tells)
def pg_Ru_holds : List ny_Op := [ny_o3 0 1 (.lconst 1) 1, ny_o 1 1 (.lstore_n 3), ny_o 2 1 (.iload_n 1), ny_o 3 2 (.istore 5), ny_o 5 2 (.iload 5), ny_o 7 1 (.iload_n 2), ny_o 8 3 (.if_icmp .ge 187), ny_o 11 1 (.lload_n 3), ny_o2 12 1 (.iconst 2) 2, ny_o 13 1 .lushr, ny_o2 14 1 (.iconst 1) 1, ny_o 15 1 .lshl, ny_o 16 2 (.lstore 6), ny_o 18 1 (.aload_n 0), ny_o1 19 3 (.getfield 30) 5 16, ny_o 22 2 (.iload 5), ny_o 24 1 .iaload, ny_o 25 27 (.tableswitch 62 3 5 #[27, 34, 48]), ny_o 52 1 (.lload_n 3), ny_o3 53 1 (.lconst 1) 1, ny_o 54 1 .lxor, ny_o 55 1 (.lstore_n 3), ny_o 56 3 (.goto 133), ny_o 59 2 (.lload 6), ny_o 61 1 (.lload_n 3), ny_o 62 1 (.lload_n 3), ny_o2 63 1 (.iconst 1) 1, ny_o 64 1 .lushr, ny_o 65 1 .land, ny_o3 66 1 (.lconst 1) 1, ny_o 67 1 .land, ny_o 68 1 .lor, ny_o 69 1 (.lstore_n 3), ny_o 70 3 (.goto 119), ny_o 73 2 (.lload 6), ny_o 75 1 (.lload_n 3), ny_o 76 1 (.lload_n 3), ny_o2 77 1 (.iconst 1) 1, ny_o 78 1 .lushr, ny_o 79 1 .lor, ny_o3 80 1 (.lconst 1) 1, ny_o 81 1 .land, ny_o 82 1 .lor, ny_o 83 1 (.lstore_n 3), ny_o 84 3 (.goto 105), ny_o 87 1 (.aload_n 0), ny_o1 88 3 (.getfield 42) 5 28, ny_o 91 1 (.aload_n 0), ny_o1 92 3 (.getfield 33) 5 19, ny_o 95 2 (.iload 5), ny_o 97 1 .iaload, ny_o 98 1 .iaload, ny_o 99 1 (.aload_n 0), ny_o1 100 3 (.getfield 42) 5 28, ny_o 103 1 (.aload_n 0), ny_o1 104 3 (.getfield 36) 5 22, ny_o 107 2 (.iload 5), ny_o 109 1 .iaload, ny_o 110 1 .iaload, ny_o 111 1 .isub, ny_o 112 2 (.istore 8), ny_o 114 1 (.aload_n 0), ny_o1 115 3 (.getfield 30) 5 16, ny_o 118 2 (.iload 5), ny_o 120 1 .iaload, ny_o 121 3 (.ifCond .ne 16), ny_o 124 2 (.iload 8), ny_o 126 3 (.ifCond .ge 7), ny_o2 129 1 (.iconst 1) 1, ny_o 130 3 (.goto 41), ny_o2 133 1 (.iconst 0) 0, ny_o 134 3 (.goto 37), ny_o 137 1 (.aload_n 0), ny_o1 138 3 (.getfield 30) 5 16, ny_o 141 2 (.iload 5), ny_o 143 1 .iaload, ny_o2 144 1 (.iconst 1) 1, ny_o 145 3 (.if_icmp .ne 16), ny_o 148 2 (.iload 8), ny_o 150 3 (.ifCond .ne 7), ny_o2 153 1 (.iconst 1) 1, ny_o 154 3 (.goto 17), ny_o2 157 1 (.iconst 0) 0, ny_o 158 3 (.goto 13), ny_o 161 2 (.iload 8), ny_o 163 3 (.ifCond .le 7), ny_o2 166 1 (.iconst 1) 1, ny_o 167 3 (.goto 4), ny_o2 170 1 (.iconst 0) 0, ny_o 171 2 (.istore 9), ny_o 173 1 (.lload_n 3), ny_o2 174 1 (.iconst 1) 1, ny_o 175 1 .lshl, ny_o 176 2 (.iload 9), ny_o 178 3 (.ifCond .eq 7), ny_o2 181 1 (.iconst 1) 1, ny_o 182 3 (.goto 4), ny_o2 185 1 (.iconst 0) 0, ny_o 186 1 .i2l, ny_o 187 1 .lor, ny_o 188 1 (.lstore_n 3), ny_o2 189 3 (.iinc 5 1) 1, ny_o 192 3 (.goto (-187)), ny_o 195 1 (.lload_n 3), ny_o3 196 1 (.lconst 1) 1, ny_o 197 1 .land, ny_o3 198 1 (.lconst 0) 0, ny_o 199 1 .lcmp, ny_o 200 3 (.ifCond .eq 7), ny_o2 203 1 (.iconst 1) 1, ny_o 204 3 (.goto 4), ny_o2 207 1 (.iconst 0) 0, ny_o 208 1 .ireturn]
def m_Ru_holds : ny_M := (⟨"NymphRota$Rules", "holds", "(II)Z"⟩, prog_8_method_8_code, 10, (Option.some Jvm.ClassFile.FieldType.boolean), false, pg_Ru_holds)
def pg_Sh_init : List ny_Op := [ny_o 0 1 (.aload_n 0), ny_o 1 3 (.invokespecial 3), ny_o 4 1 (.aload_n 0), ny_o2 5 1 (.iconst (-1)) (-1), ny_o1 6 3 (.putfield 11) 6 0, ny_o 9 1 (.aload_n 0), ny_o2 10 1 (.iconst 0) 0, ny_o1 11 3 (.putfield 15) 6 3, ny_o 14 1 (.aload_n 0), ny_o2 15 2 (.bipush 40) 40, ny_o 17 2 (.newarray .int), ny_o1 19 3 (.putfield 18) 6 7, ny_o 22 1 .return_]
def m_Sh_init : ny_M := (⟨"NymphRota$Sheet", "<init>", "()V"⟩, prog_9_method_1_code, 1, none, true, pg_Sh_init)
def pg_Sh_isSort : List ny_Op := [ny_o 0 1 (.iload_n 0), ny_o 1 3 (.ifCond .lt 12), ny_o 4 1 (.iload_n 0), ny_o2 5 1 (.iconst 4) 4, ny_o 6 3 (.if_icmp .gt 7), ny_o2 9 1 (.iconst 1) 1, ny_o 10 3 (.goto 4), ny_o2 13 1 (.iconst 0) 0, ny_o 14 1 .ireturn]
def m_Sh_isSort : ny_M := (⟨"NymphRota$Sheet", "isSort", "(I)Z"⟩, prog_9_method_2_code, 1, (Option.some Jvm.ClassFile.FieldType.boolean), false, pg_Sh_isSort)
def pg_Sh_becomeRow : List ny_Op := [ny_o 0 1 (.aload_n 0), ny_o 1 1 (.iload_n 1), ny_o1 2 3 (.putfield 11) 6 0, ny_o 5 1 (.aload_n 0), ny_o 6 1 (.iload_n 2), ny_o1 7 3 (.putfield 15) 6 3, ny_o 10 1 (.aload_n 0), ny_o1 11 3 (.getfield 18) 6 7, ny_o2 14 1 (.iconst 0) 0, ny_o 15 3 (.invokestatic 22), ny_o 18 1 .return_]
def m_Sh_becomeRow : ny_M := (⟨"NymphRota$Sheet", "becomeRow", "(II)V"⟩, prog_9_method_3_code, 3, none, false, pg_Sh_becomeRow)
def pg_Sh_has : List ny_Op := [ny_o 0 1 (.iload_n 1), ny_o 1 3 (.ifCond .lt 21), ny_o 4 1 (.iload_n 1), ny_o 5 1 (.aload_n 0), ny_o1 6 3 (.getfield 15) 6 3, ny_o 9 3 (.if_icmp .ge 13), ny_o 12 1 (.iload_n 1), ny_o2 13 2 (.bipush 40) 40, ny_o 15 3 (.if_icmp .ge 7), ny_o2 18 1 (.iconst 1) 1, ny_o 19 3 (.goto 4), ny_o2 22 1 (.iconst 0) 0, ny_o 23 1 .ireturn]
def m_Sh_has : ny_M := (⟨"NymphRota$Sheet", "has", "(I)Z"⟩, prog_9_method_4_code, 2, (Option.some Jvm.ClassFile.FieldType.boolean), false, pg_Sh_has)
def pg_Sh_refusalAs : List ny_Op := [ny_o 0 1 (.aload_n 0), ny_o1 1 3 (.getfield 11) 6 0, ny_o2 4 1 (.iconst (-1)) (-1), ny_o 5 3 (.if_icmp .ne 6), ny_o2 8 2 (.bipush (-11)) (-11), ny_o 10 1 .ireturn, ny_o 11 1 (.aload_n 0), ny_o1 12 3 (.getfield 11) 6 0, ny_o 15 1 (.iload_n 1), ny_o 16 3 (.if_icmp .ne 7), ny_o2 19 1 (.iconst 0) 0, ny_o 20 3 (.goto 5), ny_o2 23 2 (.bipush (-13)) (-13), ny_o 25 1 .ireturn]
def m_Sh_refusalAs : ny_M := (⟨"NymphRota$Sheet", "refusalAs", "(I)I"⟩, prog_9_method_5_code, 2, (Option.some Jvm.ClassFile.FieldType.int), false, pg_Sh_refusalAs)
def pg_Sh_narrowed : List ny_Op := [ny_o 0 1 (.aload_n 0), ny_o1 1 3 (.getfield 11) 6 0, ny_o 4 36 (.tableswitch 52 0 4 #[36, 39, 52, 52, 42]), ny_o 40 1 (.iload_n 1), ny_o 41 1 .i2b, ny_o 42 1 .ireturn, ny_o 43 1 (.iload_n 1), ny_o 44 1 .i2s, ny_o 45 1 .ireturn, ny_o 46 1 (.iload_n 1), ny_o 47 3 (.ifCond .eq 7), ny_o2 50 1 (.iconst 1) 1, ny_o 51 3 (.goto 4), ny_o2 54 1 (.iconst 0) 0, ny_o 55 1 .ireturn, ny_o 56 1 (.iload_n 1), ny_o 57 1 .ireturn]
def m_Sh_narrowed : ny_M := (⟨"NymphRota$Sheet", "narrowed", "(I)I"⟩, prog_9_method_6_code, 2, (Option.some Jvm.ClassFile.FieldType.int), false, pg_Sh_narrowed)
def pg_Sf_init : List ny_Op := [ny_o 0 1 (.aload_n 0), ny_o 1 3 (.invokespecial 3), ny_o 4 1 (.aload_n 0), ny_o2 5 2 (.bipush (-3)) (-3), ny_o1 7 3 (.putfield 9) 7 0, ny_o 10 1 (.aload_n 0), ny_o2 11 1 (.iconst (-1)) (-1), ny_o1 12 3 (.putfield 17) 7 3, ny_o 15 1 (.aload_n 0), ny_o2 16 1 (.iconst 0) 0, ny_o1 17 3 (.putfield 20) 7 6, ny_o 20 1 .return_]
def m_Sf_init : ny_M := (⟨"NymphRota$Shelf", "<init>", "()V"⟩, prog_10_method_1_code, 1, none, true, pg_Sf_init)
def pg_Sf_holdNothing : List ny_Op := [ny_o 0 1 (.aload_n 0), ny_o2 1 1 (.iconst (-1)) (-1), ny_o2 2 1 (.iconst 0) 0, ny_o 3 3 (.invokevirtual 23), ny_o 6 1 .return_]
def m_Sf_holdNothing : ny_M := (⟨"NymphRota$Shelf", "holdNothing", "()V"⟩, prog_10_method_2_code, 1, none, false, pg_Sf_holdNothing)
def pg_Sf_holdFigure : List ny_Op := [ny_o 0 1 (.aload_n 0), ny_o 1 3 (.invokevirtual 27), ny_o 4 1 (.aload_n 0), ny_o 5 1 (.iload_n 1), ny_o1 6 3 (.putfield 9) 7 0, ny_o 9 1 .return_]
def m_Sf_holdFigure : ny_M := (⟨"NymphRota$Shelf", "holdFigure", "(I)V"⟩, prog_10_method_3_code, 2, none, false, pg_Sf_holdFigure)
def pg_Sf_holdRow : List ny_Op := [ny_o 0 1 (.aload_n 0), ny_o2 1 2 (.bipush (-3)) (-3), ny_o1 3 3 (.putfield 9) 7 0, ny_o 6 1 (.aload_n 0), ny_o 7 1 (.iload_n 1), ny_o1 8 3 (.putfield 17) 7 3, ny_o 11 1 (.aload_n 0), ny_o 12 1 (.iload_n 2), ny_o1 13 3 (.putfield 20) 7 6, ny_o 16 1 .return_]
def m_Sf_holdRow : ny_M := (⟨"NymphRota$Shelf", "holdRow", "(II)V"⟩, prog_10_method_4_code, 3, none, false, pg_Sf_holdRow)
def pg_Sf_isRow : List ny_Op := [ny_o 0 1 (.aload_n 0), ny_o1 1 3 (.getfield 17) 7 3, ny_o2 4 1 (.iconst (-1)) (-1), ny_o 5 3 (.if_icmp .eq 7), ny_o2 8 1 (.iconst 1) 1, ny_o 9 3 (.goto 4), ny_o2 12 1 (.iconst 0) 0, ny_o 13 1 .ireturn]
def m_Sf_isRow : ny_M := (⟨"NymphRota$Shelf", "isRow", "()Z"⟩, prog_10_method_5_code, 1, (Option.some Jvm.ClassFile.FieldType.boolean), false, pg_Sf_isRow)
def pg_Ta_init : List ny_Op := [ny_o 0 1 (.aload_n 0), ny_o 1 3 (.invokespecial 3), ny_o 4 1 (.aload_n 0), ny_o2 5 3 (.sipush 200) 200, ny_o 8 2 (.newarray .byte), ny_o1 10 3 (.putfield 11) 8 1, ny_o 13 1 (.aload_n 0), ny_o2 14 1 (.iconst 0) 0, ny_o1 15 3 (.putfield 15) 8 3, ny_o 18 1 (.aload_n 0), ny_o2 19 3 (.sipush 201) 201, ny_o 22 2 (.newarray .int), ny_o1 24 3 (.putfield 19) 8 7, ny_o 27 1 (.aload_n 0), ny_o2 28 3 (.sipush 201) 201, ny_o 31 2 (.newarray .int), ny_o1 33 3 (.putfield 23) 8 10, ny_o 36 1 (.aload_n 0), ny_o2 37 3 (.sipush 201) 201, ny_o 40 2 (.newarray .int), ny_o1 42 3 (.putfield 26) 8 13, ny_o 45 1 (.aload_n 0), ny_o2 46 1 (.iconst 0) 0, ny_o1 47 3 (.putfield 29) 8 15, ny_o 50 1 (.aload_n 0), ny_o2 51 1 (.iconst 0) 0, ny_o1 52 3 (.putfield 32) 8 18, ny_o 55 1 (.aload_n 0), ny_o2 56 2 (.bipush 19) 19, ny_o1 58 3 (.putfield 35) 8 21, ny_o 61 1 (.aload_n 0), ny_o1 62 3 (.new 38) 5 0, ny_o 65 1 .dup, ny_o 66 3 (.invokespecial 40), ny_o1 69 3 (.putfield 41) 8 25, ny_o 72 1 .return_]
def m_Ta_init : ny_M := (⟨"NymphRota$Tape", "<init>", "()V"⟩, prog_11_method_1_code, 1, none, true, pg_Ta_init)
def pg_Ta_takes : List ny_Op := [ny_o 0 1 (.aload_n 0), ny_o1 1 3 (.getfield 15) 8 3, ny_o 4 1 (.iload_n 3), ny_o 5 1 .iadd, ny_o2 6 3 (.sipush 200) 200, ny_o 9 3 (.if_icmp .le 5), ny_o2 12 1 (.iconst 0) 0, ny_o 13 1 .ireturn, ny_o2 14 1 (.iconst 0) 0, ny_o 15 2 (.istore 4), ny_o 17 2 (.iload 4), ny_o 19 1 (.iload_n 3), ny_o 20 3 (.if_icmp .ge 37), ny_o 23 1 (.aload_n 0), ny_o1 24 3 (.getfield 11) 8 1, ny_o 27 1 (.aload_n 0), ny_o1 28 3 (.getfield 15) 8 3, ny_o 31 1 (.lload_n 1), ny_o2 32 2 (.bipush 8) 8, ny_o 34 2 (.iload 4), ny_o 36 1 .imul, ny_o 37 1 .lushr, ny_o 38 1 .l2i, ny_o 39 1 .i2b, ny_o 40 1 .bastore, ny_o 41 1 (.aload_n 0), ny_o 42 1 .dup, ny_o1 43 3 (.getfield 15) 8 3, ny_o2 46 1 (.iconst 1) 1, ny_o 47 1 .iadd, ny_o1 48 3 (.putfield 15) 8 3, ny_o2 51 3 (.iinc 4 1) 1, ny_o 54 3 (.goto (-37)), ny_o2 57 1 (.iconst 1) 1, ny_o 58 1 .ireturn]
def m_Ta_takes : ny_M := (⟨"NymphRota$Tape", "takes", "(JI)Z"⟩, prog_11_method_2_code, 5, (Option.some Jvm.ClassFile.FieldType.boolean), false, pg_Ta_takes)
def pg_Ta_readInto : List ny_Op := [ny_o 0 1 (.aload_n 0), ny_o 1 3 (.invokevirtual 45), ny_o 4 1 (.aload_n 0), ny_o2 5 1 (.iconst 0) 0, ny_o1 6 3 (.putfield 15) 8 3, ny_o 9 1 (.aload_n 0), ny_o1 10 3 (.getfield 41) 8 25, ny_o 13 3 (.invokevirtual 48), ny_o2 16 1 (.iconst 1) 1, ny_o 17 1 (.istore_n 2), ny_o2 18 1 (.iconst 0) 0, ny_o 19 1 (.istore_n 3), ny_o 20 1 (.iload_n 3), ny_o2 21 2 (.bipush 8) 8, ny_o 23 3 (.if_icmp .ge 27), ny_o 26 1 (.iload_n 2), ny_o 27 3 (.ifCond .eq 23), ny_o 30 1 (.aload_n 0), ny_o1 31 3 (.getfield 35) 8 21, ny_o2 34 2 (.bipush 19) 19, ny_o 36 3 (.if_icmp .eq 14), ny_o 39 1 (.aload_n 0), ny_o 40 3 (.invokevirtual 51), ny_o 43 1 (.istore_n 2), ny_o2 44 3 (.iinc 3 1) 1, ny_o 47 3 (.goto (-27)), ny_o 50 1 (.iload_n 2), ny_o 51 3 (.ifCond .eq 12), ny_o 54 1 (.aload_n 0), ny_o1 55 3 (.getfield 35) 8 21, ny_o2 58 2 (.bipush 19) 19, ny_o 60 3 (.if_icmp .eq 16), ny_o2 63 2 (.bipush (-100)) (-100), ny_o 65 1 (.aload_n 0), ny_o1 66 3 (.getfield 26) 8 13, ny_o 69 1 (.aload_n 0), ny_o1 70 3 (.getfield 32) 8 18, ny_o 73 1 .iaload, ny_o 74 1 .isub, ny_o 75 1 .ireturn, ny_o 76 1 (.aload_n 1), ny_o 77 1 (.aload_n 0), ny_o1 78 3 (.getfield 41) 8 25, ny_o 81 3 (.invokevirtual 55), ny_o 84 1 (.aload_n 1), ny_o1 85 3 (.getfield 59) 5 0, ny_o 88 1 .ireturn]
def m_Ta_readInto : ny_M := (⟨"NymphRota$Tape", "readInto", "(LNymphRota$Rules;)I"⟩, prog_11_method_3_code, 4, (Option.some Jvm.ClassFile.FieldType.int), false, pg_Ta_readInto)
def pg_Ta_isLetter : List ny_Op := [ny_o 0 1 (.iload_n 0), ny_o2 1 2 (.bipush 97) 97, ny_o 3 3 (.if_icmp .lt 13), ny_o 6 1 (.iload_n 0), ny_o2 7 2 (.bipush 122) 122, ny_o 9 3 (.if_icmp .gt 7), ny_o2 12 1 (.iconst 1) 1, ny_o 13 3 (.goto 4), ny_o2 16 1 (.iconst 0) 0, ny_o 17 1 .ireturn]
def m_Ta_isLetter : ny_M := (⟨"NymphRota$Tape", "isLetter", "(B)Z"⟩, prog_11_method_4_code, 1, (Option.some Jvm.ClassFile.FieldType.boolean), false, pg_Ta_isLetter)
def pg_Ta_isDigit : List ny_Op := [ny_o 0 1 (.iload_n 0), ny_o2 1 2 (.bipush 48) 48, ny_o 3 3 (.if_icmp .lt 13), ny_o 6 1 (.iload_n 0), ny_o2 7 2 (.bipush 57) 57, ny_o 9 3 (.if_icmp .gt 7), ny_o2 12 1 (.iconst 1) 1, ny_o 13 3 (.goto 4), ny_o2 16 1 (.iconst 0) 0, ny_o 17 1 .ireturn]
def m_Ta_isDigit : ny_M := (⟨"NymphRota$Tape", "isDigit", "(B)Z"⟩, prog_11_method_5_code, 1, (Option.some Jvm.ClassFile.FieldType.boolean), false, pg_Ta_isDigit)
def pg_Ta_isSign : List ny_Op := [ny_o 0 1 (.iload_n 0), ny_o2 1 2 (.bipush 59) 59, ny_o 3 3 (.if_icmp .eq 27), ny_o 6 1 (.iload_n 0), ny_o2 7 2 (.bipush 40) 40, ny_o 9 3 (.if_icmp .eq 21), ny_o 12 1 (.iload_n 0), ny_o2 13 2 (.bipush 41) 41, ny_o 15 3 (.if_icmp .eq 15), ny_o 18 1 (.iload_n 0), ny_o2 19 2 (.bipush 60) 60, ny_o 21 3 (.if_icmp .lt 13), ny_o 24 1 (.iload_n 0), ny_o2 25 2 (.bipush 62) 62, ny_o 27 3 (.if_icmp .gt 7), ny_o2 30 1 (.iconst 1) 1, ny_o 31 3 (.goto 4), ny_o2 34 1 (.iconst 0) 0, ny_o 35 1 .ireturn]
def m_Ta_isSign : ny_M := (⟨"NymphRota$Tape", "isSign", "(B)Z"⟩, prog_11_method_6_code, 1, (Option.some Jvm.ClassFile.FieldType.boolean), false, pg_Ta_isSign)
def pg_Ta_split : List ny_Op := [ny_o 0 1 (.aload_n 0), ny_o2 1 1 (.iconst 0) 0, ny_o1 2 3 (.putfield 29) 8 15, ny_o 5 1 (.aload_n 0), ny_o2 6 1 (.iconst 0) 0, ny_o1 7 3 (.putfield 32) 8 18, ny_o2 10 1 (.iconst 0) 0, ny_o 11 1 (.istore_n 1), ny_o 12 1 (.iload_n 1), ny_o 13 1 (.aload_n 0), ny_o1 14 3 (.getfield 15) 8 3, ny_o 17 3 (.if_icmp .ge 38), ny_o 20 1 (.aload_n 0), ny_o1 21 3 (.getfield 11) 8 1, ny_o 24 1 (.iload_n 1), ny_o 25 1 .baload, ny_o2 26 2 (.bipush 32) 32, ny_o 28 3 (.if_icmp .eq 21), ny_o 31 1 (.aload_n 0), ny_o 32 1 (.iload_n 1), ny_o 33 3 (.invokevirtual 62), ny_o 36 3 (.ifCond .ne 13), ny_o 39 1 (.aload_n 0), ny_o 40 1 (.aload_n 0), ny_o 41 1 (.iload_n 1), ny_o 42 3 (.invokevirtual 66), ny_o 45 1 (.iload_n 1), ny_o 46 3 (.invokevirtual 70), ny_o2 49 3 (.iinc 1 1) 1, ny_o 52 3 (.goto (-40)), ny_o 55 1 (.aload_n 0), ny_o2 56 2 (.bipush 19) 19, ny_o 58 1 (.aload_n 0), ny_o1 59 3 (.getfield 15) 8 3, ny_o 62 3 (.invokevirtual 70), ny_o 65 1 (.aload_n 0), ny_o 66 1 (.aload_n 0), ny_o1 67 3 (.getfield 19) 8 7, ny_o2 70 1 (.iconst 0) 0, ny_o 71 1 .iaload, ny_o1 72 3 (.putfield 35) 8 21, ny_o 75 1 .return_]
def m_Ta_split : ny_M := (⟨"NymphRota$Tape", "split", "()V"⟩, prog_11_method_7_code, 2, none, false, pg_Ta_split)
def pg_Ta_goesOn : List ny_Op := [ny_o 0 1 (.iload_n 1), ny_o 1 3 (.ifCond .le 11), ny_o 4 1 (.iload_n 1), ny_o 5 1 (.aload_n 0), ny_o1 6 3 (.getfield 15) 8 3, ny_o 9 3 (.if_icmp .lt 5), ny_o2 12 1 (.iconst 0) 0, ny_o 13 1 .ireturn, ny_o 14 1 (.aload_n 0), ny_o1 15 3 (.getfield 11) 8 1, ny_o 18 1 (.iload_n 1), ny_o 19 1 .baload, ny_o 20 3 (.invokestatic 74), ny_o 23 3 (.ifCond .eq 17), ny_o 26 1 (.aload_n 0), ny_o1 27 3 (.getfield 11) 8 1, ny_o 30 1 (.iload_n 1), ny_o2 31 1 (.iconst 1) 1, ny_o 32 1 .isub, ny_o 33 1 .baload, ny_o 34 3 (.invokestatic 74), ny_o 37 3 (.ifCond .ne 29), ny_o 40 1 (.aload_n 0), ny_o1 41 3 (.getfield 11) 8 1, ny_o 44 1 (.iload_n 1), ny_o 45 1 .baload, ny_o 46 3 (.invokestatic 78), ny_o 49 3 (.ifCond .eq 21), ny_o 52 1 (.aload_n 0), ny_o1 53 3 (.getfield 11) 8 1, ny_o 56 1 (.iload_n 1), ny_o2 57 1 (.iconst 1) 1, ny_o 58 1 .isub, ny_o 59 1 .baload, ny_o 60 3 (.invokestatic 78), ny_o 63 3 (.ifCond .eq 7), ny_o2 66 1 (.iconst 1) 1, ny_o 67 3 (.goto 4), ny_o2 70 1 (.iconst 0) 0, ny_o 71 1 .ireturn]
def m_Ta_goesOn : ny_M := (⟨"NymphRota$Tape", "goesOn", "(I)Z"⟩, prog_11_method_8_code, 2, (Option.some Jvm.ClassFile.FieldType.boolean), false, pg_Ta_goesOn)
def pg_Ta_addToken : List ny_Op := [ny_o 0 1 (.aload_n 0), ny_o1 1 3 (.getfield 29) 8 15, ny_o2 4 3 (.sipush 200) 200, ny_o 7 3 (.if_icmp .gt 57), ny_o 10 1 (.aload_n 0), ny_o1 11 3 (.getfield 19) 8 7, ny_o 14 1 (.aload_n 0), ny_o1 15 3 (.getfield 29) 8 15, ny_o 18 1 (.iload_n 1), ny_o 19 1 .iastore, ny_o 20 1 (.aload_n 0), ny_o1 21 3 (.getfield 23) 8 10, ny_o 24 1 (.aload_n 0), ny_o1 25 3 (.getfield 29) 8 15, ny_o 28 1 (.iload_n 1), ny_o2 29 2 (.bipush 18) 18, ny_o 31 3 (.if_icmp .ne 11), ny_o 34 1 (.aload_n 0), ny_o 35 1 (.iload_n 2), ny_o 36 3 (.invokevirtual 81), ny_o 39 3 (.goto 4), ny_o2 42 1 (.iconst 0) 0, ny_o 43 1 .iastore, ny_o 44 1 (.aload_n 0), ny_o1 45 3 (.getfield 26) 8 13, ny_o 48 1 (.aload_n 0), ny_o1 49 3 (.getfield 29) 8 15, ny_o 52 1 (.iload_n 2), ny_o 53 1 .iastore, ny_o 54 1 (.aload_n 0), ny_o 55 1 .dup, ny_o1 56 3 (.getfield 29) 8 15, ny_o2 59 1 (.iconst 1) 1, ny_o 60 1 .iadd, ny_o1 61 3 (.putfield 29) 8 15, ny_o 64 1 .return_]
def m_Ta_addToken : ny_M := (⟨"NymphRota$Tape", "addToken", "(II)V"⟩, prog_11_method_9_code, 3, none, false, pg_Ta_addToken)
def pg_Ta_endOf : List ny_Op := [ny_o 0 1 (.iload_n 1), ny_o2 1 1 (.iconst 1) 1, ny_o 2 1 .iadd, ny_o 3 1 (.istore_n 2), ny_o 4 1 (.iload_n 2), ny_o 5 1 (.aload_n 0), ny_o1 6 3 (.getfield 15) 8 3, ny_o 9 3 (.if_icmp .ge 19), ny_o 12 1 (.aload_n 0), ny_o 13 1 (.iload_n 2), ny_o 14 3 (.invokevirtual 62), ny_o 17 3 (.ifCond .ne 5), ny_o 20 1 (.iload_n 2), ny_o 21 1 .ireturn, ny_o2 22 3 (.iinc 2 1) 1, ny_o 25 3 (.goto (-21)), ny_o 28 1 (.aload_n 0), ny_o1 29 3 (.getfield 15) 8 3, ny_o 32 1 .ireturn]
def m_Ta_endOf : ny_M := (⟨"NymphRota$Tape", "endOf", "(I)I"⟩, prog_11_method_10_code, 3, (Option.some Jvm.ClassFile.FieldType.int), false, pg_Ta_endOf)
def pg_Ta_tokenAt : List ny_Op := [ny_o 0 1 (.aload_n 0), ny_o1 1 3 (.getfield 11) 8 1, ny_o 4 1 (.iload_n 1), ny_o 5 1 .baload, ny_o 6 1 (.istore_n 2), ny_o 7 1 (.iload_n 2), ny_o 8 3 (.invokestatic 74), ny_o 11 3 (.ifCond .eq 14), ny_o 14 1 (.aload_n 0), ny_o 15 1 (.iload_n 1), ny_o 16 1 (.aload_n 0), ny_o 17 1 (.iload_n 1), ny_o 18 3 (.invokevirtual 84), ny_o 21 3 (.invokevirtual 87), ny_o 24 1 .ireturn, ny_o 25 1 (.iload_n 2), ny_o 26 3 (.invokestatic 78), ny_o 29 3 (.ifCond .eq 22), ny_o 32 1 (.aload_n 0), ny_o 33 1 (.iload_n 1), ny_o 34 3 (.invokevirtual 84), ny_o 37 1 (.iload_n 1), ny_o 38 1 .isub, ny_o2 39 1 (.iconst 4) 4, ny_o 40 3 (.if_icmp .gt 8), ny_o2 43 2 (.bipush 18) 18, ny_o 45 3 (.goto 5), ny_o2 48 2 (.bipush 20) 20, ny_o 50 1 .ireturn, ny_o 51 1 (.iload_n 2), ny_o 52 3 (.invokestatic 91), ny_o 55 3 (.ifCond .eq 7), ny_o 58 1 (.iload_n 2), ny_o 59 3 (.goto 5), ny_o2 62 2 (.bipush 20) 20, ny_o 64 1 .ireturn]
def m_Ta_tokenAt : ny_M := (⟨"NymphRota$Tape", "tokenAt", "(I)I"⟩, prog_11_method_11_code, 3, (Option.some Jvm.ClassFile.FieldType.int), false, pg_Ta_tokenAt)
def pg_Ta_wordAt : List ny_Op := [ny_o2 0 1 (.iconst 0) 0, ny_o 1 1 (.istore_n 3), ny_o 2 1 (.iload_n 1), ny_o 3 2 (.istore 4), ny_o2 5 1 (.iconst 0) 0, ny_o 6 2 (.istore 5), ny_o 8 2 (.iload 5), ny_o1 10 2 (.ldc 94) 1 0, ny_o 12 3 (.invokevirtual 96), ny_o 15 3 (.if_icmp .ge 76), ny_o1 18 2 (.ldc 94) 1 0, ny_o 20 2 (.iload 5), ny_o 22 3 (.invokevirtual 102), ny_o 25 2 (.istore 6), ny_o 27 2 (.iload 6), ny_o2 29 2 (.bipush 32) 32, ny_o 31 3 (.if_icmp .eq 40), ny_o 34 2 (.iload 4), ny_o 36 1 (.iload_n 1), ny_o 37 3 (.if_icmp .lt 28), ny_o 40 2 (.iload 4), ny_o 42 1 (.iload_n 2), ny_o 43 3 (.if_icmp .ge 22), ny_o 46 1 (.aload_n 0), ny_o1 47 3 (.getfield 11) 8 1, ny_o 50 2 (.iload 4), ny_o 52 1 .baload, ny_o 53 2 (.iload 6), ny_o 55 3 (.if_icmp .ne 10), ny_o 58 2 (.iload 4), ny_o2 60 1 (.iconst 1) 1, ny_o 61 1 .iadd, ny_o 62 3 (.goto 4), ny_o2 65 1 (.iconst (-1)) (-1), ny_o 66 2 (.istore 4), ny_o 68 3 (.goto 17), ny_o 71 2 (.iload 4), ny_o 73 1 (.iload_n 2), ny_o 74 3 (.if_icmp .ne 5), ny_o 77 1 (.iload_n 3), ny_o 78 1 .ireturn, ny_o2 79 3 (.iinc 3 1) 1, ny_o 82 1 (.iload_n 1), ny_o 83 2 (.istore 4), ny_o2 85 3 (.iinc 5 1) 1, ny_o 88 3 (.goto (-80)), ny_o2 91 2 (.bipush 20) 20, ny_o 93 1 .ireturn]
def m_Ta_wordAt : ny_M := (⟨"NymphRota$Tape", "wordAt", "(II)I"⟩, prog_11_method_12_code, 7, (Option.some Jvm.ClassFile.FieldType.int), false, pg_Ta_wordAt)
def pg_Ta_numberAt : List ny_Op := [ny_o2 0 1 (.iconst 0) 0, ny_o 1 1 (.istore_n 2), ny_o 2 1 (.iload_n 1), ny_o 3 1 (.istore_n 3), ny_o 4 1 (.iload_n 3), ny_o 5 1 (.aload_n 0), ny_o 6 1 (.iload_n 1), ny_o 7 3 (.invokevirtual 84), ny_o 10 3 (.if_icmp .ge 24), ny_o 13 1 (.iload_n 2), ny_o2 14 2 (.bipush 10) 10, ny_o 16 1 .imul, ny_o 17 1 (.aload_n 0), ny_o1 18 3 (.getfield 11) 8 1, ny_o 21 1 (.iload_n 3), ny_o 22 1 .baload, ny_o 23 1 .iadd, ny_o2 24 2 (.bipush 48) 48, ny_o 26 1 .isub, ny_o 27 1 (.istore_n 2), ny_o2 28 3 (.iinc 3 1) 1, ny_o 31 3 (.goto (-27)), ny_o 34 1 (.iload_n 2), ny_o 35 1 .ireturn]
def m_Ta_numberAt : ny_M := (⟨"NymphRota$Tape", "numberAt", "(I)I"⟩, prog_11_method_13_code, 4, (Option.some Jvm.ClassFile.FieldType.int), false, pg_Ta_numberAt)
def pg_Ta_pass : List ny_Op := [ny_o 0 1 (.aload_n 0), ny_o1 1 3 (.getfield 32) 8 18, ny_o 4 1 (.aload_n 0), ny_o1 5 3 (.getfield 29) 8 15, ny_o2 8 1 (.iconst 1) 1, ny_o 9 1 .isub, ny_o 10 3 (.if_icmp .ge 13), ny_o 13 1 (.aload_n 0), ny_o 14 1 .dup, ny_o1 15 3 (.getfield 32) 8 18, ny_o2 18 1 (.iconst 1) 1, ny_o 19 1 .iadd, ny_o1 20 3 (.putfield 32) 8 18, ny_o 23 1 (.aload_n 0), ny_o 24 1 (.aload_n 0), ny_o1 25 3 (.getfield 19) 8 7, ny_o 28 1 (.aload_n 0), ny_o1 29 3 (.getfield 32) 8 18, ny_o 32 1 .iaload, ny_o1 33 3 (.putfield 35) 8 21, ny_o 36 1 .return_]
def m_Ta_pass : ny_M := (⟨"NymphRota$Tape", "pass", "()V"⟩, prog_11_method_14_code, 1, none, false, pg_Ta_pass)
def pg_Ta_passes : List ny_Op := [ny_o 0 1 (.aload_n 0), ny_o1 1 3 (.getfield 35) 8 21, ny_o 4 1 (.iload_n 1), ny_o 5 3 (.if_icmp .eq 5), ny_o2 8 1 (.iconst 0) 0, ny_o 9 1 .ireturn, ny_o 10 1 (.aload_n 0), ny_o 11 3 (.invokevirtual 106), ny_o2 14 1 (.iconst 1) 1, ny_o 15 1 .ireturn]
def m_Ta_passes : ny_M := (⟨"NymphRota$Tape", "passes", "(I)Z"⟩, prog_11_method_15_code, 2, (Option.some Jvm.ClassFile.FieldType.boolean), false, pg_Ta_passes)
def pg_Ta_readRule : List ny_Op := [ny_o 0 1 (.aload_n 0), ny_o1 1 3 (.getfield 35) 8 21, ny_o2 4 1 (.iconst 0) 0, ny_o 5 1 .isub, ny_o 6 1 (.istore_n 1), ny_o 7 1 (.iload_n 1), ny_o 8 3 (.invokestatic 109), ny_o 11 3 (.ifCond .ne 5), ny_o2 14 1 (.iconst 0) 0, ny_o 15 1 .ireturn, ny_o 16 1 (.aload_n 0), ny_o 17 3 (.invokevirtual 106), ny_o 20 1 (.aload_n 0), ny_o2 21 2 (.bipush 14) 14, ny_o 23 3 (.invokevirtual 114), ny_o 26 3 (.ifCond .eq 13), ny_o 29 1 (.aload_n 0), ny_o2 30 1 (.iconst 0) 0, ny_o 31 3 (.invokevirtual 117), ny_o 34 3 (.ifCond .ne 5), ny_o2 37 1 (.iconst 0) 0, ny_o 38 1 .ireturn, ny_o 39 1 (.aload_n 0), ny_o1 40 3 (.getfield 35) 8 21, ny_o2 43 2 (.bipush 6) 6, ny_o 45 1 .isub, ny_o 46 1 (.istore_n 2), ny_o 47 1 (.iload_n 2), ny_o 48 3 (.ifCond .lt 8), ny_o 51 1 (.iload_n 2), ny_o2 52 1 (.iconst 2) 2, ny_o 53 3 (.if_icmp .le 5), ny_o2 56 1 (.iconst 0) 0, ny_o 57 1 .ireturn, ny_o 58 1 (.aload_n 0), ny_o 59 3 (.invokevirtual 106), ny_o 62 1 (.aload_n 0), ny_o1 63 3 (.getfield 41) 8 25, ny_o 66 1 (.iload_n 1), ny_o 67 1 (.iload_n 2), ny_o 68 3 (.invokevirtual 120), ny_o 71 1 (.aload_n 0), ny_o2 72 2 (.bipush 59) 59, ny_o 74 3 (.invokevirtual 114), ny_o 77 1 .ireturn]
def m_Ta_readRule : ny_M := (⟨"NymphRota$Tape", "readRule", "()Z"⟩, prog_11_method_16_code, 3, (Option.some Jvm.ClassFile.FieldType.boolean), false, pg_Ta_readRule)
def pg_Ta_readCondition : List ny_Op := [ny_o 0 1 (.aload_n 0), ny_o 1 1 (.iload_n 1), ny_o 2 3 (.invokevirtual 123), ny_o 5 3 (.ifCond .ne 5), ny_o2 8 1 (.iconst 0) 0, ny_o 9 1 .ireturn, ny_o2 10 1 (.iconst 0) 0, ny_o 11 1 (.istore_n 2), ny_o 12 1 (.iload_n 2), ny_o2 13 3 (.sipush 200) 200, ny_o 16 3 (.if_icmp .ge 38), ny_o 19 1 (.aload_n 0), ny_o2 20 2 (.bipush 16) 16, ny_o 22 3 (.invokevirtual 114), ny_o 25 3 (.ifCond .eq 29), ny_o 28 1 (.aload_n 0), ny_o 29 1 (.iload_n 1), ny_o 30 3 (.invokevirtual 123), ny_o 33 3 (.ifCond .ne 5), ny_o2 36 1 (.iconst 0) 0, ny_o 37 1 .ireturn, ny_o 38 1 (.aload_n 0), ny_o1 39 3 (.getfield 41) 8 25, ny_o2 42 1 (.iconst 5) 5, ny_o2 43 1 (.iconst 0) 0, ny_o2 44 1 (.iconst 0) 0, ny_o 45 3 (.invokevirtual 126), ny_o2 48 3 (.iinc 2 1) 1, ny_o 51 3 (.goto (-39)), ny_o2 54 1 (.iconst 1) 1, ny_o 55 1 .ireturn]
def m_Ta_readCondition : ny_M := (⟨"NymphRota$Tape", "readCondition", "(I)Z"⟩, prog_11_method_17_code, 3, (Option.some Jvm.ClassFile.FieldType.boolean), false, pg_Ta_readCondition)
def pg_Ta_readAll : List ny_Op := [ny_o 0 1 (.aload_n 0), ny_o 1 1 (.iload_n 1), ny_o 2 3 (.invokevirtual 130), ny_o 5 3 (.ifCond .ne 5), ny_o2 8 1 (.iconst 0) 0, ny_o 9 1 .ireturn, ny_o2 10 1 (.iconst 0) 0, ny_o 11 1 (.istore_n 2), ny_o 12 1 (.iload_n 2), ny_o2 13 3 (.sipush 200) 200, ny_o 16 3 (.if_icmp .ge 38), ny_o 19 1 (.aload_n 0), ny_o2 20 2 (.bipush 15) 15, ny_o 22 3 (.invokevirtual 114), ny_o 25 3 (.ifCond .eq 29), ny_o 28 1 (.aload_n 0), ny_o 29 1 (.iload_n 1), ny_o 30 3 (.invokevirtual 130), ny_o 33 3 (.ifCond .ne 5), ny_o2 36 1 (.iconst 0) 0, ny_o 37 1 .ireturn, ny_o 38 1 (.aload_n 0), ny_o1 39 3 (.getfield 41) 8 25, ny_o2 42 1 (.iconst 4) 4, ny_o2 43 1 (.iconst 0) 0, ny_o2 44 1 (.iconst 0) 0, ny_o 45 3 (.invokevirtual 126), ny_o2 48 3 (.iinc 2 1) 1, ny_o 51 3 (.goto (-39)), ny_o2 54 1 (.iconst 1) 1, ny_o 55 1 .ireturn]
def m_Ta_readAll : ny_M := (⟨"NymphRota$Tape", "readAll", "(I)Z"⟩, prog_11_method_18_code, 3, (Option.some Jvm.ClassFile.FieldType.boolean), false, pg_Ta_readAll)
def pg_Ta_readOne : List ny_Op := [ny_o2 0 1 (.iconst 0) 0, ny_o 1 1 (.istore_n 2), ny_o2 2 1 (.iconst 0) 0, ny_o 3 1 (.istore_n 3), ny_o 4 1 (.iload_n 3), ny_o2 5 3 (.sipush 200) 200, ny_o 8 3 (.if_icmp .ge 28), ny_o 11 1 (.aload_n 0), ny_o2 12 2 (.bipush 17) 17, ny_o 14 3 (.invokevirtual 114), ny_o 17 3 (.ifCond .eq 19), ny_o 20 1 (.iload_n 2), ny_o 21 3 (.ifCond .ne 7), ny_o2 24 1 (.iconst 1) 1, ny_o 25 3 (.goto 4), ny_o2 28 1 (.iconst 0) 0, ny_o 29 1 (.istore_n 2), ny_o2 30 3 (.iinc 3 1) 1, ny_o 33 3 (.goto (-29)), ny_o 36 1 (.iload_n 1), ny_o2 37 1 (.iconst 3) 3, ny_o 38 3 (.if_icmp .ge 40), ny_o 41 1 (.aload_n 0), ny_o2 42 2 (.bipush 40) 40, ny_o 44 3 (.invokevirtual 114), ny_o 47 3 (.ifCond .eq 31), ny_o 50 1 (.aload_n 0), ny_o 51 1 (.iload_n 1), ny_o2 52 1 (.iconst 1) 1, ny_o 53 1 .iadd, ny_o 54 3 (.invokevirtual 117), ny_o 57 3 (.ifCond .eq 16), ny_o 60 1 (.aload_n 0), ny_o2 61 2 (.bipush 41) 41, ny_o 63 3 (.invokevirtual 114), ny_o 66 3 (.ifCond .eq 7), ny_o2 69 1 (.iconst 1) 1, ny_o 70 3 (.goto 4), ny_o2 73 1 (.iconst 0) 0, ny_o 74 1 (.istore_n 3), ny_o 75 3 (.goto 8), ny_o 78 1 (.aload_n 0), ny_o 79 3 (.invokevirtual 133), ny_o 82 1 (.istore_n 3), ny_o 83 1 (.iload_n 3), ny_o 84 3 (.ifCond .eq 17), ny_o 87 1 (.iload_n 2), ny_o 88 3 (.ifCond .eq 13), ny_o 91 1 (.aload_n 0), ny_o1 92 3 (.getfield 41) 8 25, ny_o2 95 1 (.iconst 3) 3, ny_o2 96 1 (.iconst 0) 0, ny_o2 97 1 (.iconst 0) 0, ny_o 98 3 (.invokevirtual 126), ny_o 101 1 (.iload_n 3), ny_o 102 1 .ireturn]
def m_Ta_readOne : ny_M := (⟨"NymphRota$Tape", "readOne", "(I)Z"⟩, prog_11_method_19_code, 4, (Option.some Jvm.ClassFile.FieldType.boolean), false, pg_Ta_readOne)
def pg_Ta_readComparison : List ny_Op := [ny_o 0 1 (.aload_n 0), ny_o 1 3 (.invokevirtual 136), ny_o 4 1 (.istore_n 1), ny_o 5 1 (.iload_n 1), ny_o2 6 2 (.bipush (-3)) (-3), ny_o 8 3 (.if_icmp .ne 5), ny_o2 11 1 (.iconst 0) 0, ny_o 12 1 .ireturn, ny_o 13 1 (.aload_n 0), ny_o 14 3 (.invokevirtual 106), ny_o 17 1 (.aload_n 0), ny_o1 18 3 (.getfield 35) 8 21, ny_o2 21 2 (.bipush 60) 60, ny_o 23 1 .isub, ny_o2 24 1 (.iconst 0) 0, ny_o 25 1 .iadd, ny_o 26 1 (.istore_n 2), ny_o 27 1 (.iload_n 2), ny_o 28 3 (.ifCond .lt 8), ny_o 31 1 (.iload_n 2), ny_o2 32 1 (.iconst 2) 2, ny_o 33 3 (.if_icmp .le 5), ny_o2 36 1 (.iconst 0) 0, ny_o 37 1 .ireturn, ny_o 38 1 (.aload_n 0), ny_o 39 3 (.invokevirtual 106), ny_o 42 1 (.aload_n 0), ny_o 43 3 (.invokevirtual 136), ny_o 46 1 (.istore_n 3), ny_o 47 1 (.iload_n 3), ny_o2 48 2 (.bipush (-3)) (-3), ny_o 50 3 (.if_icmp .ne 5), ny_o2 53 1 (.iconst 0) 0, ny_o 54 1 .ireturn, ny_o 55 1 (.aload_n 0), ny_o 56 3 (.invokevirtual 106), ny_o 59 1 (.aload_n 0), ny_o1 60 3 (.getfield 41) 8 25, ny_o 63 1 (.iload_n 2), ny_o 64 1 (.iload_n 1), ny_o 65 1 (.iload_n 3), ny_o 66 3 (.invokevirtual 126), ny_o2 69 1 (.iconst 1) 1, ny_o 70 1 .ireturn]
def m_Ta_readComparison : ny_M := (⟨"NymphRota$Tape", "readComparison", "()Z"⟩, prog_11_method_20_code, 4, (Option.some Jvm.ClassFile.FieldType.boolean), false, pg_Ta_readComparison)
def pg_Ta_placeOfValue : List ny_Op := [ny_o 0 1 (.aload_n 0), ny_o1 1 3 (.getfield 35) 8 21, ny_o2 4 2 (.bipush 18) 18, ny_o 6 3 (.if_icmp .ne 20), ny_o 9 1 (.aload_n 0), ny_o1 10 3 (.getfield 41) 8 25, ny_o 13 1 (.aload_n 0), ny_o1 14 3 (.getfield 23) 8 10, ny_o 17 1 (.aload_n 0), ny_o1 18 3 (.getfield 32) 8 18, ny_o 21 1 .iaload, ny_o 22 3 (.invokevirtual 139), ny_o 25 1 .ireturn, ny_o 26 1 (.aload_n 0), ny_o1 27 3 (.getfield 35) 8 21, ny_o2 30 2 (.bipush 9) 9, ny_o 32 1 .isub, ny_o 33 1 (.istore_n 1), ny_o 34 1 (.iload_n 1), ny_o 35 3 (.ifCond .lt 12), ny_o 38 1 (.iload_n 1), ny_o2 39 1 (.iconst 5) 5, ny_o 40 3 (.if_icmp .ge 7), ny_o 43 1 (.iload_n 1), ny_o 44 3 (.goto 5), ny_o2 47 2 (.bipush (-3)) (-3), ny_o 49 1 .ireturn]
def m_Ta_placeOfValue : ny_M := (⟨"NymphRota$Tape", "placeOfValue", "()I"⟩, prog_11_method_21_code, 2, (Option.some Jvm.ClassFile.FieldType.int), false, pg_Ta_placeOfValue)
def pg_No_init : List ny_Op := [ny_o 0 1 (.aload_n 0), ny_o 1 3 (.invokespecial 1), ny_o 4 1 (.aload_n 0), ny_o1 5 3 (.new 7) 1 0, ny_o 8 1 .dup, ny_o 9 3 (.invokespecial 9), ny_o1 12 3 (.putfield 10) 9 1, ny_o 15 1 (.aload_n 0), ny_o1 16 3 (.new 7) 1 0, ny_o 19 1 .dup, ny_o 20 3 (.invokespecial 9), ny_o1 23 3 (.putfield 16) 9 4, ny_o 26 1 (.aload_n 0), ny_o2 27 1 (.iconst 0) 0, ny_o1 28 3 (.putfield 19) 9 8, ny_o 31 1 (.aload_n 0), ny_o1 32 3 (.new 23) 8 0, ny_o 35 1 .dup, ny_o 36 3 (.invokespecial 25), ny_o1 39 3 (.putfield 26) 9 10, ny_o 42 1 (.aload_n 0), ny_o1 43 3 (.new 30) 3 0, ny_o 46 1 .dup, ny_o 47 3 (.invokespecial 32), ny_o1 50 3 (.putfield 33) 9 13, ny_o 53 1 (.aload_n 0), ny_o2 54 1 (.iconst 4) 4, ny_o2 55 1 (.iconst 3) 3, ny_o 56 4 (.multianewarray 37 2), ny_o1 60 3 (.putfield 39) 9 16, ny_o 63 1 (.aload_n 0), ny_o2 64 1 (.iconst 0) 0, ny_o1 65 3 (.putfield 42) 9 18, ny_o 68 1 (.aload_n 0), ny_o2 69 1 (.iconst 4) 4, ny_o1 70 3 (.anewarray 46) 6 0, ny_o1 73 3 (.putfield 48) 9 22, ny_o 76 1 (.aload_n 0), ny_o2 77 1 (.iconst 4) 4, ny_o1 78 3 (.anewarray 52) 7 0, ny_o1 81 3 (.putfield 54) 9 25, ny_o 84 1 (.aload_n 0), ny_o 85 3 (.new 58), ny_o 88 1 .dup, ny_o 89 3 (.invokespecial 60), ny_o1 92 3 (.putfield 61) 9 28, ny_o2 95 1 (.iconst 0) 0, ny_o 96 1 (.istore_n 1), ny_o 97 1 (.iload_n 1), ny_o2 98 1 (.iconst 4) 4, ny_o 99 3 (.if_icmp .ge 22), ny_o 102 1 (.aload_n 0), ny_o1 103 3 (.getfield 48) 9 22, ny_o 106 1 (.iload_n 1), ny_o1 107 3 (.new 46) 6 0, ny_o 110 1 .dup, ny_o 111 3 (.invokespecial 65), ny_o 114 1 .aastore, ny_o2 115 3 (.iinc 1 1) 1, ny_o 118 3 (.goto (-21)), ny_o2 121 1 (.iconst 0) 0, ny_o 122 1 (.istore_n 1), ny_o 123 1 (.iload_n 1), ny_o2 124 1 (.iconst 4) 4, ny_o 125 3 (.if_icmp .ge 22), ny_o 128 1 (.aload_n 0), ny_o1 129 3 (.getfield 54) 9 25, ny_o 132 1 (.iload_n 1), ny_o1 133 3 (.new 52) 7 0, ny_o 136 1 .dup, ny_o 137 3 (.invokespecial 66), ny_o 140 1 .aastore, ny_o2 141 3 (.iinc 1 1) 1, ny_o 144 3 (.goto (-21)), ny_o 147 1 .return_]
def m_No_init : ny_M := (⟨"NymphRota", "<init>", "()V"⟩, prog_1_method_1_code, 2, none, true, pg_No_init)
def pg_No_figure : List ny_Op := [ny_o 0 1 (.iload_n 1), ny_o 1 3 (.invokestatic 67), ny_o 4 3 (.ifCond .eq 31), ny_o 7 1 (.iload_n 2), ny_o2 8 1 (.iconst 0) 0, ny_o2 9 2 (.bipush 99) 99, ny_o 11 3 (.invokestatic 73), ny_o 14 3 (.ifCond .eq 21), ny_o 17 1 (.iload_n 3), ny_o2 18 1 (.iconst 0) 0, ny_o2 19 2 (.bipush 9) 9, ny_o 21 3 (.invokestatic 73), ny_o 24 3 (.ifCond .eq 11), ny_o 27 2 (.iload 4), ny_o 29 3 (.invokestatic 77), ny_o 32 3 (.ifCond .ne 5), ny_o2 35 1 (.iconst (-1)) (-1), ny_o 36 1 .ireturn, ny_o 37 1 (.aload_n 0), ny_o1 38 3 (.getfield 10) 9 1, ny_o1 41 3 (.getfield 80) 1 12, ny_o 44 2 (.istore 5), ny_o 46 2 (.iload 5), ny_o2 48 2 (.bipush 6) 6, ny_o 50 3 (.if_icmp .lt 6), ny_o2 53 2 (.bipush (-2)) (-2), ny_o 55 1 .ireturn, ny_o 56 1 (.aload_n 0), ny_o1 57 3 (.getfield 10) 9 1, ny_o1 60 3 (.getfield 83) 1 4, ny_o 63 2 (.iload 5), ny_o 65 1 (.iload_n 1), ny_o 66 1 .iastore, ny_o 67 1 (.aload_n 0), ny_o1 68 3 (.getfield 10) 9 1, ny_o1 71 3 (.getfield 87) 1 7, ny_o 74 2 (.iload 5), ny_o 76 1 (.iload_n 3), ny_o 77 1 .iastore, ny_o 78 1 (.aload_n 0), ny_o1 79 3 (.getfield 10) 9 1, ny_o1 82 3 (.getfield 90) 1 10, ny_o 85 2 (.iload 5), ny_o 87 2 (.iload 4), ny_o 89 1 .iastore, ny_o 90 1 (.aload_n 0), ny_o1 91 3 (.getfield 10) 9 1, ny_o1 94 3 (.getfield 93) 1 1, ny_o1 97 3 (.getfield 97) 2 1, ny_o 100 2 (.iload 5), ny_o 102 1 (.iload_n 2), ny_o 103 1 .iastore, ny_o 104 1 (.aload_n 0), ny_o1 105 3 (.getfield 10) 9 1, ny_o1 108 3 (.getfield 93) 1 1, ny_o 111 2 (.iload 5), ny_o2 113 1 (.iconst 0) 0, ny_o 114 3 (.invokevirtual 102), ny_o 117 1 (.aload_n 0), ny_o1 118 3 (.getfield 10) 9 1, ny_o 121 2 (.iload 5), ny_o2 123 1 (.iconst 1) 1, ny_o 124 1 .iadd, ny_o1 125 3 (.putfield 80) 1 12, ny_o 128 2 (.iload 5), ny_o 130 1 .ireturn]
def m_No_figure : ny_M := (⟨"NymphRota", "figure", "(IIII)I"⟩, prog_1_method_2_code, 6, (Option.some Jvm.ClassFile.FieldType.int), false, pg_No_figure)
def pg_No_figureOf : List ny_Op := [ny_o 0 1 (.aload_n 0), ny_o1 1 3 (.getfield 10) 9 1, ny_o 4 1 (.iload_n 1), ny_o 5 3 (.invokevirtual 106), ny_o 8 3 (.ifCond .ne 5), ny_o2 11 1 (.iconst (-1)) (-1), ny_o 12 1 .ireturn, ny_o 13 1 (.aload_n 0), ny_o1 14 3 (.getfield 10) 9 1, ny_o1 17 3 (.getfield 93) 1 1, ny_o 20 1 (.astore_n 3), ny_o 21 1 (.iload_n 2), ny_o 22 54 (.tableswitch 153 0 9 #[54, 64, 71, 81, 91, 100, 110, 120, 130, 143]), ny_o 76 1 (.aload_n 0), ny_o1 77 3 (.getfield 10) 9 1, ny_o1 80 3 (.getfield 83) 1 4, ny_o 83 1 (.iload_n 1), ny_o 84 1 .iaload, ny_o 85 1 .ireturn, ny_o 86 1 (.aload_n 3), ny_o1 87 3 (.getfield 97) 2 1, ny_o 90 1 (.iload_n 1), ny_o 91 1 .iaload, ny_o 92 1 .ireturn, ny_o 93 1 (.aload_n 0), ny_o1 94 3 (.getfield 10) 9 1, ny_o1 97 3 (.getfield 87) 1 7, ny_o 100 1 (.iload_n 1), ny_o 101 1 .iaload, ny_o 102 1 .ireturn, ny_o 103 1 (.aload_n 0), ny_o1 104 3 (.getfield 10) 9 1, ny_o1 107 3 (.getfield 90) 1 10, ny_o 110 1 (.iload_n 1), ny_o 111 1 .iaload, ny_o 112 1 .ireturn, ny_o 113 1 (.aload_n 3), ny_o 114 1 (.iload_n 1), ny_o 115 3 (.invokevirtual 109), ny_o 118 3 (.invokestatic 112), ny_o 121 1 .ireturn, ny_o 122 1 (.aload_n 0), ny_o1 123 3 (.getfield 10) 9 1, ny_o 126 1 (.aload_n 3), ny_o 127 1 (.iload_n 1), ny_o 128 3 (.invokevirtual 116), ny_o 131 1 .ireturn, ny_o 132 1 (.aload_n 0), ny_o1 133 3 (.getfield 10) 9 1, ny_o 136 1 (.aload_n 3), ny_o 137 1 (.iload_n 1), ny_o 138 3 (.invokevirtual 120), ny_o 141 1 .ireturn, ny_o 142 1 (.aload_n 0), ny_o1 143 3 (.getfield 10) 9 1, ny_o 146 1 (.aload_n 3), ny_o 147 1 (.iload_n 1), ny_o 148 3 (.invokevirtual 123), ny_o 151 1 .ireturn, ny_o 152 1 (.aload_n 0), ny_o1 153 3 (.getfield 10) 9 1, ny_o 156 1 (.aload_n 3), ny_o 157 1 (.iload_n 1), ny_o 158 3 (.invokevirtual 126), ny_o 161 3 (.invokestatic 112), ny_o 164 1 .ireturn, ny_o 165 1 (.aload_n 0), ny_o1 166 3 (.getfield 10) 9 1, ny_o 169 1 (.aload_n 3), ny_o 170 1 (.iload_n 1), ny_o 171 3 (.invokevirtual 130), ny_o 174 1 .ireturn, ny_o2 175 1 (.iconst (-1)) (-1), ny_o 176 1 .ireturn]
def m_No_figureOf : ny_M := (⟨"NymphRota", "figureOf", "(II)I"⟩, prog_1_method_3_code, 4, (Option.some Jvm.ClassFile.FieldType.int), false, pg_No_figureOf)
def pg_No_change : List ny_Op := [ny_o 0 1 (.aload_n 0), ny_o1 1 3 (.getfield 10) 9 1, ny_o 4 1 (.iload_n 1), ny_o 5 3 (.invokevirtual 106), ny_o 8 3 (.ifCond .ne 5), ny_o2 11 1 (.iconst (-1)) (-1), ny_o 12 1 .ireturn, ny_o 13 1 (.aload_n 0), ny_o1 14 3 (.getfield 10) 9 1, ny_o1 17 3 (.getfield 93) 1 1, ny_o 20 2 (.astore 4), ny_o 22 1 (.iload_n 2), ny_o 23 29 (.tableswitch 134 1 4 #[29, 54, 81, 105]), ny_o 52 1 (.iload_n 3), ny_o2 53 1 (.iconst 0) 0, ny_o2 54 2 (.bipush 99) 99, ny_o 56 3 (.invokestatic 73), ny_o 59 3 (.ifCond .eq 16), ny_o 62 2 (.aload 4), ny_o1 64 3 (.getfield 97) 2 1, ny_o 67 1 (.iload_n 1), ny_o 68 1 (.iload_n 3), ny_o 69 3 (.invokestatic 133), ny_o 72 3 (.goto 4), ny_o2 75 1 (.iconst (-1)) (-1), ny_o 76 1 .ireturn, ny_o 77 1 (.iload_n 3), ny_o2 78 1 (.iconst 0) 0, ny_o2 79 2 (.bipush 9) 9, ny_o 81 3 (.invokestatic 73), ny_o 84 3 (.ifCond .eq 18), ny_o 87 1 (.aload_n 0), ny_o1 88 3 (.getfield 10) 9 1, ny_o1 91 3 (.getfield 87) 1 7, ny_o 94 1 (.iload_n 1), ny_o 95 1 (.iload_n 3), ny_o 96 3 (.invokestatic 133), ny_o 99 3 (.goto 4), ny_o2 102 1 (.iconst (-1)) (-1), ny_o 103 1 .ireturn, ny_o 104 1 (.iload_n 3), ny_o 105 3 (.invokestatic 77), ny_o 108 3 (.ifCond .eq 18), ny_o 111 1 (.aload_n 0), ny_o1 112 3 (.getfield 10) 9 1, ny_o1 115 3 (.getfield 90) 1 10, ny_o 118 1 (.iload_n 1), ny_o 119 1 (.iload_n 3), ny_o 120 3 (.invokestatic 133), ny_o 123 3 (.goto 4), ny_o2 126 1 (.iconst (-1)) (-1), ny_o 127 1 .ireturn, ny_o 128 1 (.iload_n 3), ny_o2 129 1 (.iconst 0) 0, ny_o2 130 1 (.iconst 1) 1, ny_o 131 3 (.invokestatic 73), ny_o 134 3 (.ifCond .eq 21), ny_o 137 1 (.aload_n 0), ny_o 138 1 (.iload_n 1), ny_o 139 1 (.iload_n 3), ny_o2 140 1 (.iconst 1) 1, ny_o 141 3 (.if_icmp .ne 7), ny_o2 144 1 (.iconst 1) 1, ny_o 145 3 (.goto 4), ny_o2 148 1 (.iconst 0) 0, ny_o 149 3 (.invokevirtual 137), ny_o 152 3 (.goto 4), ny_o2 155 1 (.iconst (-1)) (-1), ny_o 156 1 .ireturn, ny_o2 157 1 (.iconst (-1)) (-1), ny_o 158 1 .ireturn]
def m_No_change : ny_M := (⟨"NymphRota", "change", "(III)I"⟩, prog_1_method_4_code, 5, (Option.some Jvm.ClassFile.FieldType.int), false, pg_No_change)
def pg_No_remake : List ny_Op := [ny_o 0 1 (.aload_n 0), ny_o1 1 3 (.getfield 10) 9 1, ny_o 4 1 (.iload_n 1), ny_o 5 3 (.invokevirtual 106), ny_o 8 3 (.ifCond .eq 10), ny_o 11 1 (.iload_n 2), ny_o 12 3 (.invokestatic 67), ny_o 15 3 (.ifCond .ne 5), ny_o2 18 1 (.iconst (-1)) (-1), ny_o 19 1 .ireturn, ny_o 20 1 (.aload_n 0), ny_o1 21 3 (.getfield 10) 9 1, ny_o1 24 3 (.getfield 83) 1 4, ny_o 27 1 (.iload_n 1), ny_o 28 1 (.iload_n 2), ny_o 29 3 (.invokestatic 133), ny_o 32 1 .ireturn]
def m_No_remake : ny_M := (⟨"NymphRota", "remake", "(II)I"⟩, prog_1_method_5_code, 3, (Option.some Jvm.ClassFile.FieldType.int), false, pg_No_remake)
def pg_No_weather : List ny_Op := [ny_o 0 1 (.iload_n 1), ny_o2 1 1 (.iconst 0) 0, ny_o2 2 2 (.bipush 15) 15, ny_o 4 3 (.invokestatic 73), ny_o 7 3 (.ifCond .eq 13), ny_o 10 1 (.iload_n 2), ny_o2 11 1 (.iconst 0) 0, ny_o2 12 2 (.bipush 15) 15, ny_o 14 3 (.invokestatic 73), ny_o 17 3 (.ifCond .ne 5), ny_o2 20 1 (.iconst (-1)) (-1), ny_o 21 1 .ireturn, ny_o 22 1 (.aload_n 0), ny_o1 23 3 (.getfield 10) 9 1, ny_o1 26 3 (.getfield 141) 1 16, ny_o 29 1 (.iload_n 1), ny_o 30 1 (.iload_n 2), ny_o 31 3 (.invokestatic 133), ny_o 34 1 .ireturn]
def m_No_weather : ny_M := (⟨"NymphRota", "weather", "(II)I"⟩, prog_1_method_6_code, 3, (Option.some Jvm.ClassFile.FieldType.int), false, pg_No_weather)
def pg_No_niche : List ny_Op := [ny_o 0 1 (.iload_n 1), ny_o 1 3 (.invokestatic 77), ny_o 4 3 (.ifCond .eq 22), ny_o 7 1 (.iload_n 2), ny_o2 8 1 (.iconst 0) 0, ny_o2 9 1 (.iconst 1) 1, ny_o 10 3 (.invokestatic 73), ny_o 13 3 (.ifCond .eq 13), ny_o 16 1 (.iload_n 3), ny_o2 17 1 (.iconst 0) 0, ny_o2 18 2 (.bipush 9) 9, ny_o 20 3 (.invokestatic 73), ny_o 23 3 (.ifCond .ne 5), ny_o2 26 1 (.iconst (-1)) (-1), ny_o 27 1 .ireturn, ny_o 28 1 (.iload_n 2), ny_o 29 3 (.ifCond .ne 13), ny_o 32 1 (.aload_n 0), ny_o1 33 3 (.getfield 10) 9 1, ny_o1 36 3 (.getfield 144) 1 19, ny_o 39 3 (.goto 10), ny_o 42 1 (.aload_n 0), ny_o1 43 3 (.getfield 10) 9 1, ny_o1 46 3 (.getfield 147) 1 22, ny_o 49 1 (.iload_n 1), ny_o 50 1 (.iload_n 3), ny_o 51 3 (.invokestatic 133), ny_o 54 1 .ireturn]
def m_No_niche : ny_M := (⟨"NymphRota", "niche", "(III)I"⟩, prog_1_method_7_code, 4, (Option.some Jvm.ClassFile.FieldType.int), false, pg_No_niche)
def pg_No_nicheOf : List ny_Op := [ny_o 0 1 (.iload_n 1), ny_o 1 3 (.invokestatic 77), ny_o 4 3 (.ifCond .eq 12), ny_o 7 1 (.iload_n 2), ny_o2 8 1 (.iconst 0) 0, ny_o2 9 1 (.iconst 1) 1, ny_o 10 3 (.invokestatic 73), ny_o 13 3 (.ifCond .ne 5), ny_o2 16 1 (.iconst (-1)) (-1), ny_o 17 1 .ireturn, ny_o 18 1 (.iload_n 2), ny_o 19 3 (.ifCond .ne 15), ny_o 22 1 (.aload_n 0), ny_o1 23 3 (.getfield 10) 9 1, ny_o1 26 3 (.getfield 144) 1 19, ny_o 29 1 (.iload_n 1), ny_o 30 1 .iaload, ny_o 31 3 (.goto 12), ny_o 34 1 (.aload_n 0), ny_o1 35 3 (.getfield 10) 9 1, ny_o1 38 3 (.getfield 147) 1 22, ny_o 41 1 (.iload_n 1), ny_o 42 1 .iaload, ny_o 43 1 .ireturn]
def m_No_nicheOf : ny_M := (⟨"NymphRota", "nicheOf", "(II)I"⟩, prog_1_method_8_code, 3, (Option.some Jvm.ClassFile.FieldType.int), false, pg_No_nicheOf)
def pg_No_ends : List ny_Op := [ny_o 0 1 (.iload_n 1), ny_o2 1 1 (.iconst 1) 1, ny_o2 2 2 (.bipush 16) 16, ny_o 4 3 (.invokestatic 73), ny_o 7 3 (.ifCond .ne 5), ny_o2 10 1 (.iconst (-1)) (-1), ny_o 11 1 .ireturn, ny_o 12 1 (.iload_n 1), ny_o 13 1 (.aload_n 0), ny_o1 14 3 (.getfield 10) 9 1, ny_o1 17 3 (.getfield 93) 1 1, ny_o1 20 3 (.getfield 150) 2 6, ny_o 23 3 (.if_icmp .ge 6), ny_o2 26 2 (.bipush (-4)) (-4), ny_o 28 1 .ireturn, ny_o 29 1 (.aload_n 0), ny_o1 30 3 (.getfield 10) 9 1, ny_o1 33 3 (.getfield 153) 1 24, ny_o 36 1 (.istore_n 2), ny_o 37 1 (.aload_n 0), ny_o1 38 3 (.getfield 10) 9 1, ny_o 41 1 (.iload_n 1), ny_o1 42 3 (.putfield 153) 1 24, ny_o 45 1 (.iload_n 2), ny_o 46 1 .ireturn]
def m_No_ends : ny_M := (⟨"NymphRota", "ends", "(I)I"⟩, prog_1_method_9_code, 3, (Option.some Jvm.ClassFile.FieldType.int), false, pg_No_ends)
def pg_No_anew : List ny_Op := [ny_o 0 1 (.aload_n 0), ny_o1 1 3 (.getfield 10) 9 1, ny_o1 4 3 (.getfield 93) 1 1, ny_o1 7 3 (.getfield 150) 2 6, ny_o 10 1 (.istore_n 1), ny_o 11 1 (.aload_n 0), ny_o1 12 3 (.getfield 10) 9 1, ny_o1 15 3 (.getfield 93) 1 1, ny_o 18 3 (.invokevirtual 156), ny_o 21 1 (.aload_n 0), ny_o1 22 3 (.getfield 10) 9 1, ny_o2 25 1 (.iconst 0) 0, ny_o1 26 3 (.putfield 159) 1 27, ny_o 29 1 (.iload_n 1), ny_o 30 1 .ireturn]
def m_No_anew : ny_M := (⟨"NymphRota", "anew", "()I"⟩, prog_1_method_10_code, 2, (Option.some Jvm.ClassFile.FieldType.int), false, pg_No_anew)
def pg_No_state : List ny_Op := [ny_o 0 1 (.aload_n 0), ny_o1 1 3 (.getfield 10) 9 1, ny_o1 4 3 (.getfield 93) 1 1, ny_o 7 1 (.astore_n 2), ny_o 8 1 (.iload_n 1), ny_o 9 43 (.tableswitch 102 0 6 #[43, 48, 56, 64, 76, 81, 93]), ny_o 52 1 (.aload_n 2), ny_o1 53 3 (.getfield 150) 2 6, ny_o 56 1 .ireturn, ny_o 57 1 (.aload_n 0), ny_o1 58 3 (.getfield 10) 9 1, ny_o1 61 3 (.getfield 153) 1 24, ny_o 64 1 .ireturn, ny_o 65 1 (.aload_n 0), ny_o1 66 3 (.getfield 10) 9 1, ny_o1 69 3 (.getfield 159) 1 27, ny_o 72 1 .ireturn, ny_o 73 1 (.aload_n 0), ny_o1 74 3 (.getfield 10) 9 1, ny_o 77 1 (.aload_n 2), ny_o 78 3 (.invokevirtual 162), ny_o 81 3 (.invokestatic 112), ny_o 84 1 .ireturn, ny_o 85 1 (.aload_n 2), ny_o1 86 3 (.getfield 166) 2 3, ny_o 89 1 .ireturn, ny_o 90 1 (.aload_n 0), ny_o1 91 3 (.getfield 10) 9 1, ny_o 94 1 (.aload_n 2), ny_o1 95 3 (.getfield 150) 2 6, ny_o 98 3 (.invokevirtual 169), ny_o 101 1 .ireturn, ny_o 102 1 (.aload_n 0), ny_o1 103 3 (.getfield 10) 9 1, ny_o 106 1 (.aload_n 2), ny_o 107 3 (.invokevirtual 173), ny_o 110 1 .ireturn, ny_o2 111 1 (.iconst (-1)) (-1), ny_o 112 1 .ireturn]
def m_No_state : ny_M := (⟨"NymphRota", "state", "(I)I"⟩, prog_1_method_11_code, 3, (Option.some Jvm.ClassFile.FieldType.int), false, pg_No_state)
def pg_No_feed : List ny_Op := [ny_o 0 1 (.iload_n 3), ny_o2 1 1 (.iconst 1) 1, ny_o2 2 2 (.bipush 8) 8, ny_o 4 3 (.invokestatic 73), ny_o 7 3 (.ifCond .ne 5), ny_o2 10 1 (.iconst (-1)) (-1), ny_o 11 1 .ireturn, ny_o 12 1 (.aload_n 0), ny_o1 13 3 (.getfield 26) 9 10, ny_o 16 1 (.lload_n 1), ny_o 17 1 (.iload_n 3), ny_o 18 3 (.invokevirtual 177), ny_o 21 3 (.ifCond .eq 13), ny_o 24 1 (.aload_n 0), ny_o1 25 3 (.getfield 26) 9 10, ny_o1 28 3 (.getfield 181) 8 3, ny_o 31 3 (.goto 5), ny_o2 34 2 (.bipush (-2)) (-2), ny_o 36 1 .ireturn]
def m_No_feed : ny_M := (⟨"NymphRota", "feed", "(JI)I"⟩, prog_1_method_12_code, 4, (Option.some Jvm.ClassFile.FieldType.int), false, pg_No_feed)
def pg_No_rules : List ny_Op := [ny_o 0 1 (.aload_n 0), ny_o1 1 3 (.getfield 26) 9 10, ny_o 4 1 (.aload_n 0), ny_o1 5 3 (.getfield 10) 9 1, ny_o1 8 3 (.getfield 184) 1 34, ny_o 11 3 (.invokevirtual 188), ny_o 14 1 .ireturn]
def m_No_rules : ny_M := (⟨"NymphRota", "rules", "()I"⟩, prog_1_method_13_code, 1, (Option.some Jvm.ClassFile.FieldType.int), false, pg_No_rules)
def pg_No_bell : List ny_Op := [ny_o 0 1 (.aload_n 0), ny_o1 1 3 (.getfield 10) 9 1, ny_o 4 1 (.aload_n 0), ny_o1 5 3 (.getfield 10) 9 1, ny_o1 8 3 (.getfield 93) 1 1, ny_o 11 3 (.invokevirtual 162), ny_o 14 3 (.ifCond .eq 6), ny_o2 17 2 (.bipush (-4)) (-4), ny_o 19 1 .ireturn, ny_o 20 1 (.aload_n 0), ny_o 21 1 (.aload_n 0), ny_o1 22 3 (.getfield 10) 9 1, ny_o 25 1 (.aload_n 0), ny_o1 26 3 (.getfield 10) 9 1, ny_o1 29 3 (.getfield 93) 1 1, ny_o 32 3 (.invokevirtual 192), ny_o 35 3 (.invokevirtual 195), ny_o 38 1 .ireturn]
def m_No_bell : ny_M := (⟨"NymphRota", "bell", "()I"⟩, prog_1_method_14_code, 1, (Option.some Jvm.ClassFile.FieldType.int), false, pg_No_bell)
def pg_No_on : List ny_Op := [ny_o 0 1 (.iload_n 1), ny_o2 1 1 (.iconst 0) 0, ny_o2 2 2 (.bipush 16) 16, ny_o 4 3 (.invokestatic 73), ny_o 7 3 (.ifCond .eq 14), ny_o 10 1 (.aload_n 0), ny_o1 11 3 (.getfield 10) 9 1, ny_o 14 1 (.iload_n 1), ny_o 15 3 (.invokevirtual 198), ny_o 18 3 (.goto 4), ny_o2 21 1 (.iconst (-1)) (-1), ny_o 22 1 .ireturn]
def m_No_on : ny_M := (⟨"NymphRota", "on", "(I)I"⟩, prog_1_method_15_code, 2, (Option.some Jvm.ClassFile.FieldType.int), false, pg_No_on)
def pg_No_when : List ny_Op := [ny_o 0 1 (.aload_n 0), ny_o1 1 3 (.getfield 10) 9 1, ny_o 4 1 (.iload_n 1), ny_o 5 3 (.invokevirtual 106), ny_o 8 3 (.ifCond .eq 14), ny_o 11 1 (.aload_n 0), ny_o1 12 3 (.getfield 10) 9 1, ny_o 15 1 (.iload_n 1), ny_o 16 3 (.invokevirtual 201), ny_o 19 3 (.goto 4), ny_o2 22 1 (.iconst (-1)) (-1), ny_o 23 1 .ireturn]
def m_No_when : ny_M := (⟨"NymphRota", "when", "(I)I"⟩, prog_1_method_16_code, 2, (Option.some Jvm.ClassFile.FieldType.int), false, pg_No_when)
def pg_No_graceFor : List ny_Op := [ny_o 0 1 (.aload_n 0), ny_o1 1 3 (.getfield 10) 9 1, ny_o 4 1 (.iload_n 1), ny_o 5 3 (.invokevirtual 106), ny_o 8 3 (.ifCond .eq 23), ny_o 11 1 (.aload_n 0), ny_o1 12 3 (.getfield 10) 9 1, ny_o 15 1 (.aload_n 0), ny_o1 16 3 (.getfield 10) 9 1, ny_o1 19 3 (.getfield 87) 1 7, ny_o 22 1 (.iload_n 1), ny_o2 23 2 (.bipush 9) 9, ny_o 25 3 (.invokevirtual 204), ny_o 28 3 (.goto 4), ny_o2 31 1 (.iconst (-1)) (-1), ny_o 32 1 .ireturn]
def m_No_graceFor : ny_M := (⟨"NymphRota", "graceFor", "(I)I"⟩, prog_1_method_17_code, 2, (Option.some Jvm.ClassFile.FieldType.int), false, pg_No_graceFor)
def pg_No_nicheFor : List ny_Op := [ny_o 0 1 (.aload_n 0), ny_o1 1 3 (.getfield 10) 9 1, ny_o 4 1 (.iload_n 1), ny_o 5 3 (.invokevirtual 106), ny_o 8 3 (.ifCond .eq 22), ny_o 11 1 (.aload_n 0), ny_o1 12 3 (.getfield 10) 9 1, ny_o 15 1 (.aload_n 0), ny_o1 16 3 (.getfield 10) 9 1, ny_o1 19 3 (.getfield 90) 1 10, ny_o 22 1 (.iload_n 1), ny_o2 23 1 (.iconst 5) 5, ny_o 24 3 (.invokevirtual 204), ny_o 27 3 (.goto 4), ny_o2 30 1 (.iconst (-1)) (-1), ny_o 31 1 .ireturn]
def m_No_nicheFor : ny_M := (⟨"NymphRota", "nicheFor", "(I)I"⟩, prog_1_method_18_code, 2, (Option.some Jvm.ClassFile.FieldType.int), false, pg_No_nicheFor)
def pg_No_faints : List ny_Op := [ny_o 0 1 (.aload_n 0), ny_o1 1 3 (.getfield 10) 9 1, ny_o 4 1 (.iload_n 1), ny_o 5 3 (.invokevirtual 106), ny_o 8 3 (.ifCond .eq 14), ny_o 11 1 (.aload_n 0), ny_o1 12 3 (.getfield 10) 9 1, ny_o 15 1 (.iload_n 1), ny_o 16 3 (.invokevirtual 207), ny_o 19 3 (.goto 4), ny_o2 22 1 (.iconst (-1)) (-1), ny_o 23 1 .ireturn]
def m_No_faints : ny_M := (⟨"NymphRota", "faints", "(I)I"⟩, prog_1_method_19_code, 2, (Option.some Jvm.ClassFile.FieldType.int), false, pg_No_faints)
def pg_No_rank : List ny_Op := [ny_o 0 1 (.aload_n 0), ny_o1 1 3 (.getfield 10) 9 1, ny_o 4 1 (.iload_n 1), ny_o 5 3 (.invokevirtual 106), ny_o 8 3 (.ifCond .ne 5), ny_o2 11 1 (.iconst (-1)) (-1), ny_o 12 1 .ireturn, ny_o 13 1 (.aload_n 0), ny_o1 14 3 (.getfield 10) 9 1, ny_o 17 1 (.aload_n 0), ny_o1 18 3 (.getfield 10) 9 1, ny_o1 21 3 (.getfield 93) 1 1, ny_o 24 1 (.iload_n 1), ny_o 25 3 (.invokevirtual 210), ny_o 28 3 (.ifCond .eq 14), ny_o 31 1 (.aload_n 0), ny_o1 32 3 (.getfield 10) 9 1, ny_o 35 1 (.iload_n 1), ny_o 36 3 (.invokevirtual 213), ny_o 39 3 (.goto 5), ny_o2 42 2 (.bipush (-3)) (-3), ny_o 44 1 .ireturn]
def m_No_rank : ny_M := (⟨"NymphRota", "rank", "(I)I"⟩, prog_1_method_20_code, 2, (Option.some Jvm.ClassFile.FieldType.int), false, pg_No_rank)
def pg_No_rings : List ny_Op := [ny_o 0 1 (.iload_n 1), ny_o2 1 1 (.iconst (-1)) (-1), ny_o 2 3 (.if_icmp .ne 11), ny_o 5 1 (.aload_n 0), ny_o1 6 3 (.getfield 10) 9 1, ny_o 9 3 (.invokevirtual 216), ny_o 12 1 .ireturn, ny_o 13 1 (.aload_n 0), ny_o1 14 3 (.getfield 10) 9 1, ny_o 17 1 (.iload_n 1), ny_o 18 3 (.invokevirtual 106), ny_o 21 3 (.ifCond .eq 14), ny_o 24 1 (.aload_n 0), ny_o1 25 3 (.getfield 10) 9 1, ny_o 28 1 (.iload_n 1), ny_o 29 3 (.invokevirtual 220), ny_o 32 3 (.goto 4), ny_o2 35 1 (.iconst (-1)) (-1), ny_o 36 1 .ireturn]
def m_No_rings : ny_M := (⟨"NymphRota", "rings", "(I)I"⟩, prog_1_method_21_code, 2, (Option.some Jvm.ClassFile.FieldType.int), false, pg_No_rings)
def pg_No_way : List ny_Op := [ny_o 0 1 (.iload_n 1), ny_o 1 3 (.invokestatic 77), ny_o 4 3 (.ifCond .eq 20), ny_o 7 1 (.iload_n 2), ny_o 8 3 (.invokestatic 77), ny_o 11 3 (.ifCond .eq 13), ny_o 14 1 (.iload_n 3), ny_o2 15 1 (.iconst 0) 0, ny_o2 16 2 (.bipush 9) 9, ny_o 18 3 (.invokestatic 73), ny_o 21 3 (.ifCond .ne 5), ny_o2 24 1 (.iconst (-1)) (-1), ny_o 25 1 .ireturn, ny_o 26 1 (.aload_n 0), ny_o1 27 3 (.getfield 10) 9 1, ny_o 30 1 (.iload_n 1), ny_o 31 1 (.iload_n 2), ny_o2 32 1 (.iconst 1) 1, ny_o 33 1 (.iload_n 3), ny_o 34 3 (.invokevirtual 223), ny_o 37 2 (.istore 4), ny_o 39 1 (.aload_n 0), ny_o1 40 3 (.getfield 10) 9 1, ny_o 43 1 (.iload_n 1), ny_o 44 1 (.iload_n 2), ny_o2 45 1 (.iconst 5) 5, ny_o 46 1 (.iload_n 3), ny_o 47 3 (.invokevirtual 223), ny_o 50 2 (.istore 5), ny_o 52 2 (.iload 4), ny_o2 54 2 (.bipush (-3)) (-3), ny_o 56 3 (.if_icmp .eq 17), ny_o 59 2 (.iload 5), ny_o2 61 2 (.bipush (-3)) (-3), ny_o 63 3 (.if_icmp .eq 15), ny_o 66 2 (.iload 5), ny_o 68 2 (.iload 4), ny_o 70 3 (.if_icmp .ge 8), ny_o 73 2 (.iload 5), ny_o 75 3 (.goto 5), ny_o 78 2 (.iload 4), ny_o 80 1 .ireturn]
def m_No_way : ny_M := (⟨"NymphRota", "way", "(III)I"⟩, prog_1_method_22_code, 6, (Option.some Jvm.ClassFile.FieldType.int), false, pg_No_way)
def pg_No_best : List ny_Op := [ny_o 0 1 (.iload_n 1), ny_o2 1 1 (.iconst 0) 0, ny_o2 2 1 (.iconst 4) 4, ny_o 3 3 (.invokestatic 73), ny_o 6 3 (.ifCond .ne 5), ny_o2 9 1 (.iconst (-1)) (-1), ny_o 10 1 .ireturn, ny_o 11 1 (.aload_n 0), ny_o1 12 3 (.getfield 33) 9 13, ny_o 15 1 (.aload_n 0), ny_o1 16 3 (.getfield 10) 9 1, ny_o 19 1 (.iload_n 1), ny_o2 20 1 (.iconst 0) 0, ny_o 21 3 (.invokevirtual 227), ny_o 24 1 (.aload_n 0), ny_o1 25 3 (.getfield 33) 9 13, ny_o1 28 3 (.getfield 231) 3 12, ny_o 31 1 .ireturn]
def m_No_best : ny_M := (⟨"NymphRota", "best", "(I)I"⟩, prog_1_method_23_code, 2, (Option.some Jvm.ClassFile.FieldType.int), false, pg_No_best)
def pg_No_ith : List ny_Op := [ny_o 0 1 (.iload_n 1), ny_o2 1 1 (.iconst 0) 0, ny_o2 2 1 (.iconst 4) 4, ny_o 3 3 (.invokestatic 73), ny_o 6 3 (.ifCond .eq 12), ny_o 9 1 (.iload_n 2), ny_o2 10 1 (.iconst 0) 0, ny_o2 11 1 (.iconst 3) 3, ny_o 12 3 (.invokestatic 73), ny_o 15 3 (.ifCond .ne 5), ny_o2 18 1 (.iconst (-1)) (-1), ny_o 19 1 .ireturn, ny_o 20 1 (.aload_n 0), ny_o1 21 3 (.getfield 33) 9 13, ny_o 24 1 (.aload_n 0), ny_o1 25 3 (.getfield 10) 9 1, ny_o 28 1 (.iload_n 1), ny_o2 29 1 (.iconst 0) 0, ny_o 30 3 (.invokevirtual 227), ny_o 33 1 (.iload_n 2), ny_o 34 1 (.aload_n 0), ny_o1 35 3 (.getfield 33) 9 13, ny_o1 38 3 (.getfield 234) 3 9, ny_o 41 3 (.if_icmp .ge 15), ny_o 44 1 (.aload_n 0), ny_o1 45 3 (.getfield 33) 9 13, ny_o1 48 3 (.getfield 237) 3 19, ny_o 51 1 (.iload_n 2), ny_o 52 1 .iaload, ny_o 53 3 (.goto 5), ny_o2 56 2 (.bipush (-3)) (-3), ny_o 58 1 .ireturn]
def m_No_ith : ny_M := (⟨"NymphRota", "ith", "(II)I"⟩, prog_1_method_24_code, 3, (Option.some Jvm.ClassFile.FieldType.int), false, pg_No_ith)
def pg_No_ways : List ny_Op := [ny_o 0 1 (.iload_n 1), ny_o2 1 1 (.iconst 0) 0, ny_o2 2 1 (.iconst 4) 4, ny_o 3 3 (.invokestatic 73), ny_o 6 3 (.ifCond .ne 5), ny_o2 9 1 (.iconst (-1)) (-1), ny_o 10 1 .ireturn, ny_o 11 1 (.aload_n 0), ny_o1 12 3 (.getfield 33) 9 13, ny_o 15 1 (.aload_n 0), ny_o1 16 3 (.getfield 10) 9 1, ny_o 19 1 (.iload_n 1), ny_o2 20 1 (.iconst 0) 0, ny_o 21 3 (.invokevirtual 227), ny_o 24 1 (.aload_n 0), ny_o1 25 3 (.getfield 33) 9 13, ny_o1 28 3 (.getfield 240) 3 15, ny_o 31 1 .ireturn]
def m_No_ways : ny_M := (⟨"NymphRota", "ways", "(I)I"⟩, prog_1_method_25_code, 2, (Option.some Jvm.ClassFile.FieldType.int), false, pg_No_ways)
def pg_No_roster : List ny_Op := [ny_o 0 1 (.iload_n 1), ny_o2 1 1 (.iconst 0) 0, ny_o2 2 1 (.iconst 4) 4, ny_o 3 3 (.invokestatic 73), ny_o 6 3 (.ifCond .eq 14), ny_o 9 1 (.aload_n 0), ny_o1 10 3 (.getfield 10) 9 1, ny_o 13 1 (.iload_n 2), ny_o 14 3 (.invokevirtual 243), ny_o 17 3 (.ifCond .ne 5), ny_o2 20 1 (.iconst (-1)) (-1), ny_o 21 1 .ireturn, ny_o 22 1 (.aload_n 0), ny_o1 23 3 (.getfield 33) 9 13, ny_o 26 1 (.aload_n 0), ny_o1 27 3 (.getfield 10) 9 1, ny_o 30 1 (.iload_n 1), ny_o 31 1 (.iload_n 2), ny_o 32 3 (.invokevirtual 227), ny_o 35 1 (.aload_n 0), ny_o1 36 3 (.getfield 33) 9 13, ny_o1 39 3 (.getfield 246) 3 21, ny_o 42 1 .ireturn]
def m_No_roster : ny_M := (⟨"NymphRota", "roster", "(II)I"⟩, prog_1_method_26_code, 3, (Option.some Jvm.ClassFile.FieldType.int), false, pg_No_roster)
def pg_No_bars : List ny_Op := [ny_o 0 1 (.iload_n 1), ny_o2 1 1 (.iconst 0) 0, ny_o2 2 1 (.iconst 4) 4, ny_o 3 3 (.invokestatic 73), ny_o 6 3 (.ifCond .eq 14), ny_o 9 1 (.aload_n 0), ny_o1 10 3 (.getfield 10) 9 1, ny_o 13 1 (.iload_n 2), ny_o 14 3 (.invokevirtual 243), ny_o 17 3 (.ifCond .ne 5), ny_o2 20 1 (.iconst (-1)) (-1), ny_o 21 1 .ireturn, ny_o 22 1 (.aload_n 0), ny_o1 23 3 (.getfield 33) 9 13, ny_o 26 1 (.aload_n 0), ny_o1 27 3 (.getfield 10) 9 1, ny_o 30 1 (.iload_n 1), ny_o 31 1 (.iload_n 2), ny_o 32 3 (.invokevirtual 227), ny_o 35 1 (.iload_n 2), ny_o 36 1 (.aload_n 0), ny_o1 37 3 (.getfield 33) 9 13, ny_o1 40 3 (.getfield 249) 3 24, ny_o2 43 1 (.iconst (-1)) (-1), ny_o 44 1 .ixor, ny_o 45 1 .iand, ny_o 46 1 (.istore_n 3), ny_o2 47 1 (.iconst 0) 0, ny_o 48 2 (.istore 4), ny_o 50 2 (.iload 4), ny_o 52 1 (.aload_n 0), ny_o1 53 3 (.getfield 10) 9 1, ny_o1 56 3 (.getfield 80) 1 12, ny_o 59 3 (.if_icmp .ge 21), ny_o 62 1 (.iload_n 3), ny_o2 63 1 (.iconst 1) 1, ny_o 64 2 (.iload 4), ny_o 66 1 .ishl, ny_o 67 1 .iand, ny_o 68 3 (.ifCond .eq 6), ny_o 71 2 (.iload 4), ny_o 73 1 .ireturn, ny_o2 74 3 (.iinc 4 1) 1, ny_o 77 3 (.goto (-27)), ny_o2 80 2 (.bipush (-3)) (-3), ny_o 82 1 .ireturn]
def m_No_bars : ny_M := (⟨"NymphRota", "bars", "(II)I"⟩, prog_1_method_27_code, 5, (Option.some Jvm.ClassFile.FieldType.int), false, pg_No_bars)
def pg_No_game : List ny_Op := [ny_o 0 1 (.iload_n 1), ny_o2 1 1 (.iconst 1) 1, ny_o2 2 1 (.iconst 4) 4, ny_o 3 3 (.invokestatic 73), ny_o 6 3 (.ifCond .eq 18), ny_o 9 1 (.aload_n 0), ny_o1 10 3 (.getfield 33) 9 13, ny_o 13 1 (.aload_n 0), ny_o1 14 3 (.getfield 10) 9 1, ny_o 17 1 (.iload_n 1), ny_o 18 3 (.invokevirtual 252), ny_o 21 3 (.goto 4), ny_o2 24 1 (.iconst (-1)) (-1), ny_o 25 1 .ireturn]
def m_No_game : ny_M := (⟨"NymphRota", "game", "(I)I"⟩, prog_1_method_28_code, 2, (Option.some Jvm.ClassFile.FieldType.int), false, pg_No_game)
def pg_No_play : List ny_Op := [ny_o 0 1 (.iload_n 1), ny_o2 1 1 (.iconst 1) 1, ny_o2 2 1 (.iconst 4) 4, ny_o 3 3 (.invokestatic 73), ny_o 6 3 (.ifCond .ne 5), ny_o2 9 1 (.iconst (-1)) (-1), ny_o 10 1 .ireturn, ny_o 11 1 (.aload_n 0), ny_o1 12 3 (.getfield 10) 9 1, ny_o 15 1 (.aload_n 0), ny_o1 16 3 (.getfield 10) 9 1, ny_o1 19 3 (.getfield 93) 1 1, ny_o 22 3 (.invokevirtual 162), ny_o 25 3 (.ifCond .eq 6), ny_o2 28 2 (.bipush (-3)) (-3), ny_o 30 1 .ireturn, ny_o 31 1 (.aload_n 0), ny_o1 32 3 (.getfield 33) 9 13, ny_o 35 1 (.aload_n 0), ny_o1 36 3 (.getfield 10) 9 1, ny_o 39 1 (.iload_n 1), ny_o 40 3 (.invokevirtual 252), ny_o 43 1 .pop, ny_o 44 1 (.aload_n 0), ny_o1 45 3 (.getfield 33) 9 13, ny_o1 48 3 (.getfield 256) 3 27, ny_o 51 1 .ireturn]
def m_No_play : ny_M := (⟨"NymphRota", "play", "(I)I"⟩, prog_1_method_29_code, 2, (Option.some Jvm.ClassFile.FieldType.int), false, pg_No_play)
def pg_No_report : List ny_Op := [ny_o 0 1 (.iload_n 1), ny_o2 1 1 (.iconst 0) 0, ny_o2 2 2 (.bipush 15) 15, ny_o 4 3 (.invokestatic 73), ny_o 7 3 (.ifCond .eq 12), ny_o 10 1 (.iload_n 2), ny_o2 11 1 (.iconst 0) 0, ny_o2 12 1 (.iconst 1) 1, ny_o 13 3 (.invokestatic 73), ny_o 16 3 (.ifCond .ne 5), ny_o2 19 1 (.iconst (-1)) (-1), ny_o 20 1 .ireturn, ny_o 21 1 (.iload_n 3), ny_o 22 3 (.ifCond .lt 26), ny_o 25 2 (.iload 4), ny_o 27 1 (.iload_n 3), ny_o 28 3 (.if_icmp .lt 20), ny_o 31 2 (.iload 4), ny_o 33 1 (.iload_n 2), ny_o 34 3 (.ifCond .ne 8), ny_o2 37 2 (.bipush 99) 99, ny_o 39 3 (.goto 6), ny_o2 42 3 (.sipush 999) 999, ny_o 45 3 (.if_icmp .le 5), ny_o2 48 1 (.iconst (-1)) (-1), ny_o 49 1 .ireturn, ny_o 50 1 (.aload_n 0), ny_o1 51 3 (.getfield 10) 9 1, ny_o1 54 3 (.getfield 259) 1 37, ny_o 57 1 (.iload_n 1), ny_o 58 1 (.iload_n 2), ny_o 59 1 (.iload_n 3), ny_o 60 2 (.iload 4), ny_o 62 3 (.invokevirtual 263), ny_o 65 1 .ireturn]
def m_No_report : ny_M := (⟨"NymphRota", "report", "(IIII)I"⟩, prog_1_method_30_code, 5, (Option.some Jvm.ClassFile.FieldType.int), false, pg_No_report)
def pg_No_forget : List ny_Op := [ny_o 0 1 (.aload_n 0), ny_o1 1 3 (.getfield 10) 9 1, ny_o1 4 3 (.getfield 259) 1 37, ny_o1 7 3 (.getfield 268) 4 0, ny_o 10 1 (.istore_n 1), ny_o 11 1 (.aload_n 0), ny_o1 12 3 (.getfield 10) 9 1, ny_o1 15 3 (.getfield 259) 1 37, ny_o2 18 1 (.iconst 0) 0, ny_o1 19 3 (.putfield 268) 4 0, ny_o 22 1 (.iload_n 1), ny_o 23 1 .ireturn]
def m_No_forget : ny_M := (⟨"NymphRota", "forget", "()I"⟩, prog_1_method_31_code, 2, (Option.some Jvm.ClassFile.FieldType.int), false, pg_No_forget)
def pg_No_nymph : List ny_Op := [ny_o 0 1 (.iload_n 1), ny_o2 1 1 (.iconst 0) 0, ny_o2 2 1 (.iconst 3) 3, ny_o 3 3 (.invokestatic 73), ny_o 6 3 (.ifCond .ne 5), ny_o2 9 1 (.iconst (-1)) (-1), ny_o 10 1 .ireturn, ny_o 11 1 (.aload_n 0), ny_o1 12 3 (.getfield 10) 9 1, ny_o1 15 3 (.getfield 259) 1 37, ny_o 18 1 (.astore_n 2), ny_o 19 1 (.aload_n 2), ny_o 20 1 (.aload_n 0), ny_o1 21 3 (.getfield 10) 9 1, ny_o 24 3 (.invokevirtual 269), ny_o 27 1 (.iload_n 1), ny_o 28 3 (.ifCond .ne 8), ny_o 31 1 (.aload_n 2), ny_o1 32 3 (.getfield 272) 4 15, ny_o 35 1 .ireturn, ny_o 36 1 (.aload_n 2), ny_o1 37 3 (.getfield 272) 4 15, ny_o 40 3 (.ifCond .ne 6), ny_o2 43 2 (.bipush (-3)) (-3), ny_o 45 1 .ireturn, ny_o 46 1 (.iload_n 1), ny_o2 47 1 (.iconst 1) 1, ny_o 48 3 (.if_icmp .ne 10), ny_o 51 1 (.aload_n 2), ny_o1 52 3 (.getfield 275) 4 18, ny_o 55 3 (.goto 19), ny_o 58 1 (.iload_n 1), ny_o2 59 1 (.iconst 2) 2, ny_o 60 3 (.if_icmp .ne 10), ny_o 63 1 (.aload_n 2), ny_o1 64 3 (.getfield 278) 4 21, ny_o 67 3 (.goto 7), ny_o 70 1 (.aload_n 2), ny_o1 71 3 (.getfield 281) 4 24, ny_o 74 1 .ireturn]
def m_No_nymph : ny_M := (⟨"NymphRota", "nymph", "(I)I"⟩, prog_1_method_32_code, 3, (Option.some Jvm.ClassFile.FieldType.int), false, pg_No_nymph)
def pg_No_liar : List ny_Op := [ny_o 0 1 (.aload_n 0), ny_o1 1 3 (.getfield 10) 9 1, ny_o1 4 3 (.getfield 259) 1 37, ny_o 7 1 (.aload_n 0), ny_o1 8 3 (.getfield 10) 9 1, ny_o 11 3 (.invokevirtual 269), ny_o 14 1 (.aload_n 0), ny_o1 15 3 (.getfield 10) 9 1, ny_o1 18 3 (.getfield 259) 1 37, ny_o1 21 3 (.getfield 272) 4 15, ny_o 24 3 (.ifCond .ne 16), ny_o 27 1 (.aload_n 0), ny_o1 28 3 (.getfield 10) 9 1, ny_o1 31 3 (.getfield 259) 1 37, ny_o1 34 3 (.getfield 284) 4 27, ny_o 37 3 (.goto 5), ny_o2 40 2 (.bipush (-3)) (-3), ny_o 42 1 .ireturn]
def m_No_liar : ny_M := (⟨"NymphRota", "liar", "()I"⟩, prog_1_method_33_code, 1, (Option.some Jvm.ClassFile.FieldType.int), false, pg_No_liar)
def pg_No_seed : List ny_Op := [ny_o 0 1 (.aload_n 0), ny_o1 1 3 (.getfield 10) 9 1, ny_o1 4 3 (.getfield 287) 1 30, ny_o 7 1 (.istore_n 2), ny_o 8 1 (.aload_n 0), ny_o1 9 3 (.getfield 10) 9 1, ny_o 12 1 (.iload_n 1), ny_o1 13 3 (.putfield 287) 1 30, ny_o 16 1 (.iload_n 2), ny_o 17 1 .ireturn]
def m_No_seed : ny_M := (⟨"NymphRota", "seed", "(I)I"⟩, prog_1_method_34_code, 3, (Option.some Jvm.ClassFile.FieldType.int), false, pg_No_seed)
def pg_No_lot : List ny_Op := [ny_o 0 1 (.aload_n 0), ny_o1 1 3 (.getfield 10) 9 1, ny_o 4 1 (.aload_n 0), ny_o1 5 3 (.getfield 10) 9 1, ny_o1 8 3 (.getfield 93) 1 1, ny_o 11 3 (.invokevirtual 162), ny_o 14 3 (.ifCond .eq 6), ny_o2 17 2 (.bipush (-4)) (-4), ny_o 19 1 .ireturn, ny_o 20 1 (.aload_n 0), ny_o1 21 3 (.getfield 10) 9 1, ny_o 24 1 (.aload_n 0), ny_o1 25 3 (.getfield 10) 9 1, ny_o1 28 3 (.getfield 287) 1 30, ny_o 31 3 (.invokestatic 290), ny_o1 34 3 (.putfield 287) 1 30, ny_o 37 1 (.aload_n 0), ny_o 38 1 (.aload_n 0), ny_o1 39 3 (.getfield 10) 9 1, ny_o 42 1 (.aload_n 0), ny_o1 43 3 (.getfield 10) 9 1, ny_o1 46 3 (.getfield 287) 1 30, ny_o 49 3 (.invokevirtual 293), ny_o 52 3 (.invokevirtual 195), ny_o 55 1 .ireturn]
def m_No_lot : ny_M := (⟨"NymphRota", "lot", "()I"⟩, prog_1_method_35_code, 1, (Option.some Jvm.ClassFile.FieldType.int), false, pg_No_lot)
def pg_No_times : List ny_Op := [ny_o 0 1 (.iload_n 1), ny_o2 1 1 (.iconst 1) 1, ny_o2 2 2 (.bipush 40) 40, ny_o 4 3 (.invokestatic 73), ny_o 7 3 (.ifCond .eq 14), ny_o 10 1 (.iload_n 2), ny_o2 11 1 (.iconst 0) 0, ny_o2 12 3 (.sipush 999) 999, ny_o 15 3 (.invokestatic 73), ny_o 18 3 (.ifCond .ne 5), ny_o2 21 1 (.iconst (-1)) (-1), ny_o 22 1 .ireturn, ny_o 23 1 (.aload_n 0), ny_o1 24 3 (.getfield 10) 9 1, ny_o 27 1 (.iload_n 1), ny_o 28 1 (.iload_n 2), ny_o 29 3 (.invokevirtual 296), ny_o 32 1 .ireturn]
def m_No_times : ny_M := (⟨"NymphRota", "times", "(II)I"⟩, prog_1_method_36_code, 3, (Option.some Jvm.ClassFile.FieldType.int), false, pg_No_times)
def pg_No_prove : List ny_Op := [ny_o 0 1 (.iload_n 1), ny_o2 1 1 (.iconst 0) 0, ny_o2 2 1 (.iconst 4) 4, ny_o 3 3 (.invokestatic 73), ny_o 6 3 (.ifCond .ne 5), ny_o2 9 1 (.iconst (-1)) (-1), ny_o 10 1 .ireturn, ny_o 11 1 (.aload_n 0), ny_o1 12 3 (.getfield 33) 9 13, ny_o 15 1 (.aload_n 0), ny_o1 16 3 (.getfield 10) 9 1, ny_o 19 1 (.iload_n 1), ny_o2 20 1 (.iconst 0) 0, ny_o 21 3 (.invokevirtual 227), ny_o 24 1 (.aload_n 0), ny_o1 25 3 (.getfield 10) 9 1, ny_o 28 3 (.invokevirtual 300), ny_o 31 1 (.astore_n 2), ny_o 32 1 (.aload_n 0), ny_o 33 1 (.aload_n 0), ny_o1 34 3 (.getfield 33) 9 13, ny_o1 37 3 (.getfield 234) 3 9, ny_o1 40 3 (.putfield 42) 9 18, ny_o2 43 1 (.iconst 0) 0, ny_o 44 1 (.istore_n 3), ny_o 45 1 (.iload_n 3), ny_o 46 1 (.aload_n 0), ny_o1 47 3 (.getfield 42) 9 18, ny_o 50 3 (.if_icmp .ge 63), ny_o 53 1 (.aload_n 0), ny_o1 54 3 (.getfield 39) 9 16, ny_o 57 1 (.iload_n 3), ny_o 58 1 .aaload, ny_o2 59 1 (.iconst 0) 0, ny_o 60 1 (.aload_n 0), ny_o1 61 3 (.getfield 33) 9 13, ny_o1 64 3 (.getfield 237) 3 19, ny_o 67 1 (.iload_n 3), ny_o 68 1 .iaload, ny_o 69 1 .iastore, ny_o 70 1 (.aload_n 0), ny_o1 71 3 (.getfield 39) 9 16, ny_o 74 1 (.iload_n 3), ny_o 75 1 .aaload, ny_o2 76 1 (.iconst 1) 1, ny_o 77 1 (.aload_n 0), ny_o1 78 3 (.getfield 10) 9 1, ny_o 81 1 (.aload_n 2), ny_o 82 1 (.aload_n 0), ny_o1 83 3 (.getfield 33) 9 13, ny_o1 86 3 (.getfield 237) 3 19, ny_o 89 1 (.iload_n 3), ny_o 90 1 .iaload, ny_o 91 3 (.invokevirtual 304), ny_o 94 1 .iastore, ny_o 95 1 (.aload_n 0), ny_o1 96 3 (.getfield 39) 9 16, ny_o 99 1 (.iload_n 3), ny_o 100 1 .aaload, ny_o2 101 1 (.iconst 2) 2, ny_o 102 1 (.aload_n 2), ny_o1 103 3 (.getfield 166) 2 3, ny_o 106 1 .iastore, ny_o2 107 3 (.iinc 3 1) 1, ny_o 110 3 (.goto (-65)), ny_o 113 1 (.aload_n 0), ny_o1 114 3 (.getfield 42) 9 18, ny_o 117 1 .ireturn]
def m_No_prove : ny_M := (⟨"NymphRota", "prove", "(I)I"⟩, prog_1_method_37_code, 4, (Option.some Jvm.ClassFile.FieldType.int), false, pg_No_prove)
def pg_No_row : List ny_Op := [ny_o 0 1 (.aload_n 0), ny_o 1 1 (.iload_n 1), ny_o 2 1 (.iload_n 2), ny_o 3 3 (.invokevirtual 307), ny_o 6 3 (.ifCond .eq 14), ny_o 9 1 (.aload_n 0), ny_o1 10 3 (.getfield 39) 9 16, ny_o 13 1 (.iload_n 1), ny_o 14 1 .aaload, ny_o 15 1 (.iload_n 2), ny_o 16 1 .iaload, ny_o 17 3 (.goto 5), ny_o2 20 2 (.bipush (-9)) (-9), ny_o 22 1 .ireturn]
def m_No_row : ny_M := (⟨"NymphRota", "row", "(II)I"⟩, prog_1_method_38_code, 3, (Option.some Jvm.ClassFile.FieldType.int), false, pg_No_row)
def pg_No_alterRow : List ny_Op := [ny_o 0 1 (.aload_n 0), ny_o 1 1 (.iload_n 1), ny_o 2 1 (.iload_n 2), ny_o 3 3 (.invokevirtual 307), ny_o 6 3 (.ifCond .eq 17), ny_o 9 1 (.aload_n 0), ny_o1 10 3 (.getfield 39) 9 16, ny_o 13 1 (.iload_n 1), ny_o 14 1 .aaload, ny_o 15 1 (.iload_n 2), ny_o 16 1 (.iload_n 3), ny_o 17 3 (.invokestatic 133), ny_o 20 3 (.goto 5), ny_o2 23 2 (.bipush (-9)) (-9), ny_o 25 1 .ireturn]
def m_No_alterRow : ny_M := (⟨"NymphRota", "alterRow", "(III)I"⟩, prog_1_method_39_code, 4, (Option.some Jvm.ClassFile.FieldType.int), false, pg_No_alterRow)
def pg_No_judge : List ny_Op := [ny_o 0 1 (.aload_n 0), ny_o1 1 3 (.getfield 10) 9 1, ny_o 4 3 (.invokevirtual 300), ny_o 7 1 (.astore_n 1), ny_o2 8 1 (.iconst 0) 0, ny_o 9 1 (.istore_n 2), ny_o 10 1 (.iload_n 2), ny_o 11 1 (.aload_n 0), ny_o1 12 3 (.getfield 42) 9 18, ny_o 15 3 (.if_icmp .ge 71), ny_o 18 1 (.aload_n 0), ny_o1 19 3 (.getfield 39) 9 16, ny_o 22 1 (.iload_n 2), ny_o 23 1 .aaload, ny_o 24 1 (.astore_n 3), ny_o 25 1 (.aload_n 0), ny_o1 26 3 (.getfield 10) 9 1, ny_o 29 1 (.aload_n 1), ny_o 30 3 (.invokevirtual 162), ny_o 33 3 (.ifCond .ne 43), ny_o 36 1 (.aload_n 0), ny_o1 37 3 (.getfield 10) 9 1, ny_o 40 1 (.aload_n 3), ny_o2 41 1 (.iconst 0) 0, ny_o 42 1 .iaload, ny_o 43 3 (.invokevirtual 311), ny_o 46 3 (.ifCond .eq 30), ny_o 49 1 (.aload_n 0), ny_o1 50 3 (.getfield 10) 9 1, ny_o 53 1 (.aload_n 1), ny_o 54 1 (.aload_n 3), ny_o2 55 1 (.iconst 0) 0, ny_o 56 1 .iaload, ny_o 57 3 (.invokevirtual 304), ny_o 60 1 (.aload_n 3), ny_o2 61 1 (.iconst 1) 1, ny_o 62 1 .iaload, ny_o 63 3 (.if_icmp .ne 13), ny_o 66 1 (.aload_n 1), ny_o1 67 3 (.getfield 166) 2 3, ny_o 70 1 (.aload_n 3), ny_o2 71 1 (.iconst 2) 2, ny_o 72 1 .iaload, ny_o 73 3 (.if_icmp .eq 7), ny_o 76 1 (.iload_n 2), ny_o2 77 1 (.iconst 1) 1, ny_o 78 1 .iadd, ny_o 79 1 .ireturn, ny_o2 80 3 (.iinc 2 1) 1, ny_o 83 3 (.goto (-73)), ny_o2 86 1 (.iconst 0) 0, ny_o 87 1 .ireturn]
def m_No_judge : ny_M := (⟨"NymphRota", "judge", "()I"⟩, prog_1_method_40_code, 4, (Option.some Jvm.ClassFile.FieldType.int), false, pg_No_judge)
def pg_No_sheet : List ny_Op := [ny_o 0 1 (.iload_n 1), ny_o2 1 1 (.iconst 0) 0, ny_o2 2 1 (.iconst 3) 3, ny_o 3 3 (.invokestatic 73), ny_o 6 3 (.ifCond .ne 5), ny_o2 9 1 (.iconst (-1)) (-1), ny_o 10 1 .ireturn, ny_o 11 1 (.iload_n 2), ny_o2 12 1 (.iconst (-1)) (-1), ny_o 13 3 (.if_icmp .ne 16), ny_o 16 1 (.aload_n 0), ny_o1 17 3 (.getfield 48) 9 22, ny_o 20 1 (.iload_n 1), ny_o 21 1 .aaload, ny_o2 22 1 (.iconst (-1)) (-1), ny_o2 23 1 (.iconst 0) 0, ny_o 24 3 (.invokevirtual 314), ny_o2 27 1 (.iconst 1) 1, ny_o 28 1 .ireturn, ny_o 29 1 (.iload_n 2), ny_o 30 3 (.invokestatic 318), ny_o 33 3 (.ifCond .eq 9), ny_o 36 1 (.iload_n 3), ny_o2 37 2 (.bipush 40) 40, ny_o 39 3 (.if_icmp .le 5), ny_o2 42 1 (.iconst (-1)) (-1), ny_o 43 1 .ireturn, ny_o 44 1 (.iload_n 3), ny_o 45 3 (.ifCond .ge 6), ny_o2 48 2 (.bipush (-14)) (-14), ny_o 50 1 .ireturn, ny_o 51 1 (.aload_n 0), ny_o1 52 3 (.getfield 48) 9 22, ny_o 55 1 (.iload_n 1), ny_o 56 1 .aaload, ny_o 57 1 (.iload_n 2), ny_o 58 1 (.iload_n 3), ny_o 59 3 (.invokevirtual 314), ny_o2 62 1 (.iconst 1) 1, ny_o 63 1 .ireturn]
def m_No_sheet : ny_M := (⟨"NymphRota", "sheet", "(III)I"⟩, prog_1_method_41_code, 4, (Option.some Jvm.ClassFile.FieldType.int), false, pg_No_sheet)
def pg_No_write : List ny_Op := [ny_o 0 1 (.iload_n 1), ny_o2 1 1 (.iconst 0) 0, ny_o2 2 1 (.iconst 3) 3, ny_o 3 3 (.invokestatic 73), ny_o 6 3 (.ifCond .ne 5), ny_o2 9 1 (.iconst (-1)) (-1), ny_o 10 1 .ireturn, ny_o 11 1 (.aload_n 0), ny_o1 12 3 (.getfield 48) 9 22, ny_o 15 1 (.iload_n 1), ny_o 16 1 .aaload, ny_o 17 2 (.astore 4), ny_o 19 2 (.aload 4), ny_o1 21 3 (.getfield 321) 6 0, ny_o2 24 1 (.iconst (-1)) (-1), ny_o 25 3 (.if_icmp .ne 6), ny_o2 28 2 (.bipush (-11)) (-11), ny_o 30 1 .ireturn, ny_o 31 2 (.aload 4), ny_o 33 1 (.iload_n 2), ny_o 34 3 (.invokevirtual 324), ny_o 37 3 (.ifCond .ne 6), ny_o2 40 2 (.bipush (-12)) (-12), ny_o 42 1 .ireturn, ny_o 43 2 (.aload 4), ny_o1 45 3 (.getfield 327) 6 7, ny_o 48 1 (.iload_n 2), ny_o 49 2 (.aload 4), ny_o 51 1 (.iload_n 3), ny_o 52 3 (.invokevirtual 330), ny_o 55 1 .iastore, ny_o2 56 1 (.iconst 1) 1, ny_o 57 1 .ireturn]
def m_No_write : ny_M := (⟨"NymphRota", "write", "(III)I"⟩, prog_1_method_42_code, 5, (Option.some Jvm.ClassFile.FieldType.int), false, pg_No_write)
def pg_No_item : List ny_Op := [ny_o 0 1 (.iload_n 1), ny_o2 1 1 (.iconst 0) 0, ny_o2 2 1 (.iconst 3) 3, ny_o 3 3 (.invokestatic 73), ny_o 6 3 (.ifCond .eq 10), ny_o 9 1 (.iload_n 2), ny_o 10 3 (.invokestatic 318), ny_o 13 3 (.ifCond .ne 5), ny_o2 16 1 (.iconst (-1)) (-1), ny_o 17 1 .ireturn, ny_o 18 1 (.aload_n 0), ny_o1 19 3 (.getfield 48) 9 22, ny_o 22 1 (.iload_n 1), ny_o 23 1 .aaload, ny_o 24 2 (.astore 4), ny_o 26 2 (.aload 4), ny_o 28 1 (.iload_n 2), ny_o 29 3 (.invokevirtual 333), ny_o 32 2 (.istore 5), ny_o 34 2 (.iload 5), ny_o 36 3 (.ifCond .eq 6), ny_o 39 2 (.iload 5), ny_o 41 1 .ireturn, ny_o 42 2 (.aload 4), ny_o 44 1 (.iload_n 3), ny_o 45 3 (.invokevirtual 324), ny_o 48 3 (.ifCond .eq 13), ny_o 51 2 (.aload 4), ny_o1 53 3 (.getfield 327) 6 7, ny_o 56 1 (.iload_n 3), ny_o 57 1 .iaload, ny_o 58 3 (.goto 5), ny_o2 61 2 (.bipush (-12)) (-12), ny_o 63 1 .ireturn]
def m_No_item : ny_M := (⟨"NymphRota", "item", "(III)I"⟩, prog_1_method_43_code, 6, (Option.some Jvm.ClassFile.FieldType.int), false, pg_No_item)
def pg_No_goAll : List ny_Op := [ny_o 0 1 (.aload_n 0), ny_o 1 1 (.iload_n 1), ny_o 2 1 (.iload_n 3), ny_o 3 3 (.invokevirtual 336), ny_o 6 2 (.istore 4), ny_o 8 2 (.iload 4), ny_o 10 3 (.ifCond .eq 6), ny_o 13 2 (.iload 4), ny_o 15 1 .ireturn, ny_o 16 1 (.aload_n 0), ny_o1 17 3 (.getfield 48) 9 22, ny_o 20 1 (.iload_n 1), ny_o 21 1 .aaload, ny_o 22 2 (.astore 5), ny_o2 24 1 (.iconst 0) 0, ny_o 25 2 (.istore 6), ny_o2 27 1 (.iconst 0) 0, ny_o 28 2 (.istore 7), ny_o 30 2 (.iload 7), ny_o 32 1 (.iload_n 3), ny_o 33 3 (.if_icmp .ge 76), ny_o 36 2 (.aload 5), ny_o 38 1 (.iload_n 2), ny_o 39 2 (.iload 7), ny_o 41 1 .iadd, ny_o 42 3 (.invokevirtual 324), ny_o 45 3 (.ifCond .ne 6), ny_o2 48 2 (.bipush (-12)) (-12), ny_o 50 1 .ireturn, ny_o 51 2 (.aload 5), ny_o1 53 3 (.getfield 327) 6 7, ny_o 56 1 (.iload_n 2), ny_o 57 2 (.iload 7), ny_o 59 1 .iadd, ny_o 60 1 .iaload, ny_o 61 2 (.istore 8), ny_o 63 1 (.aload_n 0), ny_o1 64 3 (.getfield 10) 9 1, ny_o 67 2 (.iload 8), ny_o 69 3 (.invokevirtual 311), ny_o 72 3 (.ifCond .eq 31), ny_o 75 1 (.aload_n 0), ny_o1 76 3 (.getfield 10) 9 1, ny_o 79 1 (.aload_n 0), ny_o1 80 3 (.getfield 10) 9 1, ny_o1 83 3 (.getfield 93) 1 1, ny_o 86 3 (.invokevirtual 162), ny_o 89 3 (.ifCond .ne 14), ny_o 92 2 (.iload 6), ny_o 94 1 (.aload_n 0), ny_o 95 2 (.iload 8), ny_o 97 3 (.invokevirtual 195), ny_o 100 1 .iadd, ny_o 101 2 (.istore 6), ny_o2 103 3 (.iinc 7 1) 1, ny_o 106 3 (.goto (-76)), ny_o 109 2 (.iload 6), ny_o 111 1 .ireturn]
def m_No_goAll : ny_M := (⟨"NymphRota", "goAll", "(III)I"⟩, prog_1_method_44_code, 9, (Option.some Jvm.ClassFile.FieldType.int), false, pg_No_goAll)
def pg_No_wouldBe : List ny_Op := [ny_o 0 1 (.aload_n 0), ny_o 1 1 (.iload_n 1), ny_o 2 1 (.iload_n 3), ny_o 3 3 (.invokevirtual 336), ny_o 6 2 (.istore 4), ny_o 8 2 (.iload 4), ny_o 10 3 (.ifCond .eq 6), ny_o 13 2 (.iload 4), ny_o 15 1 .ireturn, ny_o 16 1 (.aload_n 0), ny_o1 17 3 (.getfield 48) 9 22, ny_o 20 1 (.iload_n 1), ny_o 21 1 .aaload, ny_o 22 2 (.astore 5), ny_o 24 1 (.aload_n 0), ny_o1 25 3 (.getfield 10) 9 1, ny_o 28 3 (.invokevirtual 300), ny_o 31 2 (.astore 6), ny_o2 33 1 (.iconst 0) 0, ny_o 34 2 (.istore 7), ny_o2 36 1 (.iconst 0) 0, ny_o 37 2 (.istore 8), ny_o 39 2 (.iload 8), ny_o 41 1 (.iload_n 3), ny_o 42 3 (.if_icmp .ge 79), ny_o 45 2 (.aload 5), ny_o 47 1 (.iload_n 2), ny_o 48 2 (.iload 8), ny_o 50 1 .iadd, ny_o 51 3 (.invokevirtual 324), ny_o 54 3 (.ifCond .ne 6), ny_o2 57 2 (.bipush (-12)) (-12), ny_o 59 1 .ireturn, ny_o 60 2 (.aload 5), ny_o1 62 3 (.getfield 327) 6 7, ny_o 65 1 (.iload_n 2), ny_o 66 2 (.iload 8), ny_o 68 1 .iadd, ny_o 69 1 .iaload, ny_o 70 2 (.istore 9), ny_o 72 1 (.aload_n 0), ny_o1 73 3 (.getfield 10) 9 1, ny_o 76 2 (.iload 9), ny_o 78 3 (.invokevirtual 311), ny_o 81 3 (.ifCond .eq 15), ny_o 84 1 (.aload_n 0), ny_o1 85 3 (.getfield 10) 9 1, ny_o 88 2 (.aload 6), ny_o 90 3 (.invokevirtual 162), ny_o 93 3 (.ifCond .eq 6), ny_o2 96 2 (.bipush (-4)) (-4), ny_o 98 1 .ireturn, ny_o 99 2 (.iload 7), ny_o 101 1 (.aload_n 0), ny_o1 102 3 (.getfield 10) 9 1, ny_o 105 2 (.aload 6), ny_o 107 2 (.iload 9), ny_o 109 3 (.invokevirtual 304), ny_o 112 1 .iadd, ny_o 113 2 (.istore 7), ny_o2 115 3 (.iinc 8 1) 1, ny_o 118 3 (.goto (-79)), ny_o 121 2 (.iload 7), ny_o 123 1 .ireturn]
def m_No_wouldBe : ny_M := (⟨"NymphRota", "wouldBe", "(III)I"⟩, prog_1_method_45_code, 10, (Option.some Jvm.ClassFile.FieldType.int), false, pg_No_wouldBe)
def pg_No_shelf : List ny_Op := [ny_o 0 1 (.iload_n 1), ny_o2 1 1 (.iconst 0) 0, ny_o2 2 1 (.iconst 3) 3, ny_o 3 3 (.invokestatic 73), ny_o 6 3 (.ifCond .ne 5), ny_o2 9 1 (.iconst (-1)) (-1), ny_o 10 1 .ireturn, ny_o 11 1 (.aload_n 0), ny_o1 12 3 (.getfield 54) 9 25, ny_o 15 1 (.iload_n 1), ny_o 16 1 .aaload, ny_o 17 2 (.astore 4), ny_o 19 1 (.iload_n 2), ny_o 20 28 (.tableswitch 92 0 2 #[28, 49, 85]), ny_o 48 1 (.aload_n 0), ny_o1 49 3 (.getfield 10) 9 1, ny_o 52 1 (.iload_n 3), ny_o 53 3 (.invokevirtual 106), ny_o 56 3 (.ifCond .ne 5), ny_o2 59 1 (.iconst (-1)) (-1), ny_o 60 1 .ireturn, ny_o 61 2 (.aload 4), ny_o 63 1 (.iload_n 3), ny_o 64 3 (.invokevirtual 339), ny_o2 67 1 (.iconst 1) 1, ny_o 68 1 .ireturn, ny_o 69 1 (.iload_n 3), ny_o2 70 1 (.iconst 0) 0, ny_o2 71 1 (.iconst 3) 3, ny_o 72 3 (.invokestatic 73), ny_o 75 3 (.ifCond .ne 5), ny_o2 78 1 (.iconst (-1)) (-1), ny_o 79 1 .ireturn, ny_o 80 2 (.aload 4), ny_o 82 1 (.aload_n 0), ny_o1 83 3 (.getfield 48) 9 22, ny_o 86 1 (.iload_n 3), ny_o 87 1 .aaload, ny_o1 88 3 (.getfield 321) 6 0, ny_o 91 1 (.aload_n 0), ny_o1 92 3 (.getfield 48) 9 22, ny_o 95 1 (.iload_n 3), ny_o 96 1 .aaload, ny_o1 97 3 (.getfield 343) 6 3, ny_o 100 3 (.invokevirtual 344), ny_o2 103 1 (.iconst 1) 1, ny_o 104 1 .ireturn, ny_o 105 2 (.aload 4), ny_o 107 3 (.invokevirtual 347), ny_o2 110 1 (.iconst 1) 1, ny_o 111 1 .ireturn, ny_o2 112 1 (.iconst (-1)) (-1), ny_o 113 1 .ireturn]
def m_No_shelf : ny_M := (⟨"NymphRota", "shelf", "(III)I"⟩, prog_1_method_46_code, 5, (Option.some Jvm.ClassFile.FieldType.int), false, pg_No_shelf)
def pg_No_taken : List ny_Op := [ny_o 0 1 (.iload_n 2), ny_o 1 3 (.invokestatic 350), ny_o 4 1 (.istore_n 3), ny_o 5 1 (.iload_n 1), ny_o2 6 1 (.iconst 0) 0, ny_o2 7 1 (.iconst 3) 3, ny_o 8 3 (.invokestatic 73), ny_o 11 3 (.ifCond .eq 17), ny_o 14 1 (.iload_n 3), ny_o 15 3 (.ifCond .ne 15), ny_o 18 1 (.iload_n 2), ny_o2 19 2 (.bipush 10) 10, ny_o 21 1 .isub, ny_o 22 3 (.invokestatic 318), ny_o 25 3 (.ifCond .ne 5), ny_o2 28 1 (.iconst (-1)) (-1), ny_o 29 1 .ireturn, ny_o 30 1 (.aload_n 0), ny_o1 31 3 (.getfield 54) 9 25, ny_o 34 1 (.iload_n 1), ny_o 35 1 .aaload, ny_o 36 2 (.astore 4), ny_o 38 2 (.aload 4), ny_o 40 3 (.invokevirtual 353), ny_o 43 3 (.ifCond .eq 26), ny_o 46 2 (.aload 4), ny_o1 48 3 (.getfield 357) 7 3, ny_o 51 1 (.iload_n 2), ny_o2 52 2 (.bipush 10) 10, ny_o 54 1 .isub, ny_o 55 3 (.if_icmp .ne 11), ny_o 58 2 (.aload 4), ny_o1 60 3 (.getfield 358) 7 6, ny_o 63 3 (.goto 5), ny_o2 66 2 (.bipush (-13)) (-13), ny_o 68 1 .ireturn, ny_o 69 2 (.aload 4), ny_o1 71 3 (.getfield 359) 7 0, ny_o 74 2 (.istore 5), ny_o 76 1 (.aload_n 0), ny_o1 77 3 (.getfield 10) 9 1, ny_o 80 2 (.iload 5), ny_o 82 3 (.invokevirtual 106), ny_o 85 3 (.ifCond .ne 6), ny_o2 88 2 (.bipush (-11)) (-11), ny_o 90 1 .ireturn, ny_o 91 1 (.iload_n 3), ny_o 92 3 (.ifCond .eq 25), ny_o 95 1 (.aload_n 0), ny_o1 96 3 (.getfield 10) 9 1, ny_o1 99 3 (.getfield 83) 1 4, ny_o 102 2 (.iload 5), ny_o 104 1 .iaload, ny_o 105 1 (.iload_n 2), ny_o 106 3 (.invokestatic 362), ny_o 109 3 (.ifCond .eq 8), ny_o 112 2 (.iload 5), ny_o 114 3 (.goto 5), ny_o2 117 2 (.bipush (-13)) (-13), ny_o 119 1 .ireturn]
def m_No_taken : ny_M := (⟨"NymphRota", "taken", "(II)I"⟩, prog_1_method_47_code, 6, (Option.some Jvm.ClassFile.FieldType.int), false, pg_No_taken)
def pg_No_act : List ny_Op := [ny_o 0 1 (.aload_n 0), ny_o1 1 3 (.getfield 61) 9 28, ny_o 4 3 (.invokevirtual 365), ny_o 7 1 (.iload_n 1), ny_o2 8 1 (.iconst 0) 0, ny_o2 9 1 (.iconst 3) 3, ny_o 10 3 (.invokestatic 73), ny_o 13 3 (.ifCond .eq 12), ny_o 16 1 (.iload_n 2), ny_o2 17 1 (.iconst 0) 0, ny_o2 18 1 (.iconst 3) 3, ny_o 19 3 (.invokestatic 73), ny_o 22 3 (.ifCond .ne 5), ny_o2 25 1 (.iconst 0) 0, ny_o 26 1 .ireturn, ny_o 27 1 (.aload_n 0), ny_o1 28 3 (.getfield 54) 9 25, ny_o 31 1 (.iload_n 1), ny_o 32 1 .aaload, ny_o1 33 3 (.getfield 359) 7 0, ny_o 36 2 (.istore 4), ny_o 38 1 (.aload_n 0), ny_o1 39 3 (.getfield 10) 9 1, ny_o 42 2 (.iload 4), ny_o 44 3 (.invokevirtual 106), ny_o 47 3 (.ifCond .ne 5), ny_o2 50 1 (.iconst 0) 0, ny_o 51 1 .ireturn, ny_o 52 1 (.aload_n 0), ny_o1 53 3 (.getfield 61) 9 28, ny_o 56 1 (.aload_n 0), ny_o1 57 3 (.getfield 10) 9 1, ny_o1 60 3 (.getfield 83) 1 4, ny_o 63 2 (.iload 4), ny_o 65 1 .iaload, ny_o 66 2 (.iload 4), ny_o 68 1 (.aload_n 0), ny_o1 69 3 (.getfield 10) 9 1, ny_o1 72 3 (.getfield 90) 1 10, ny_o 75 2 (.iload 4), ny_o 77 1 .iaload, ny_o 78 3 (.invokevirtual 366), ny_o 81 1 (.iload_n 2), ny_o 82 3 (.ifCond .ne 14), ny_o 85 1 (.aload_n 0), ny_o1 86 3 (.getfield 61) 9 28, ny_o 89 1 (.iload_n 3), ny_o 90 3 (.invokevirtual 370), ny_o 93 3 (.goto 43), ny_o 96 1 (.iload_n 2), ny_o2 97 1 (.iconst 1) 1, ny_o 98 3 (.if_icmp .ne 14), ny_o 101 1 (.aload_n 0), ny_o1 102 3 (.getfield 61) 9 28, ny_o 105 1 (.iload_n 3), ny_o 106 3 (.invokevirtual 373), ny_o 109 3 (.goto 27), ny_o 112 1 (.iload_n 2), ny_o2 113 1 (.iconst 2) 2, ny_o 114 3 (.if_icmp .ne 14), ny_o 117 1 (.aload_n 0), ny_o1 118 3 (.getfield 61) 9 28, ny_o 121 1 (.iload_n 3), ny_o 122 3 (.invokevirtual 376), ny_o 125 3 (.goto 11), ny_o 128 1 (.aload_n 0), ny_o1 129 3 (.getfield 61) 9 28, ny_o 132 1 (.iload_n 3), ny_o 133 3 (.invokevirtual 379), ny_o 136 2 (.istore 5), ny_o 138 1 (.aload_n 0), ny_o1 139 3 (.getfield 61) 9 28, ny_o1 142 3 (.getfield 382) 0 8, ny_o 145 3 (.ifCond .eq 8), ny_o2 148 2 (.bipush (-15)) (-15), ny_o 150 3 (.goto 5), ny_o 153 2 (.iload 5), ny_o 155 1 .ireturn]
def m_No_act : ny_M := (⟨"NymphRota", "act", "(III)I"⟩, prog_1_method_48_code, 6, (Option.some Jvm.ClassFile.FieldType.int), false, pg_No_act)
def pg_No_trace : List ny_Op := [ny_o 0 1 (.iload_n 1), ny_o 1 3 (.ifCond .lt 26), ny_o 4 1 (.iload_n 1), ny_o 5 1 (.aload_n 0), ny_o1 6 3 (.getfield 61) 9 28, ny_o1 9 3 (.getfield 385) 0 3, ny_o 12 3 (.if_icmp .ge 15), ny_o 15 1 (.aload_n 0), ny_o1 16 3 (.getfield 61) 9 28, ny_o1 19 3 (.getfield 386) 0 1, ny_o 22 1 (.iload_n 1), ny_o 23 1 .iaload, ny_o 24 3 (.goto 5), ny_o2 27 2 (.bipush (-3)) (-3), ny_o 29 1 .ireturn]
def m_No_trace : ny_M := (⟨"NymphRota", "trace", "(I)I"⟩, prog_1_method_49_code, 2, (Option.some Jvm.ClassFile.FieldType.int), false, pg_No_trace)
def pg_No_many : List ny_Op := [ny_o 0 1 (.iload_n 1), ny_o 1 43 (.tableswitch 108 0 6 #[43, 51, 62, 76, 87, 92, 100]), ny_o 44 1 (.aload_n 0), ny_o1 45 3 (.getfield 10) 9 1, ny_o1 48 3 (.getfield 80) 1 12, ny_o 51 1 .ireturn, ny_o 52 1 (.aload_n 0), ny_o1 53 3 (.getfield 10) 9 1, ny_o1 56 3 (.getfield 184) 1 34, ny_o1 59 3 (.getfield 389) 5 0, ny_o 62 1 .ireturn, ny_o 63 1 (.aload_n 0), ny_o1 64 3 (.getfield 10) 9 1, ny_o1 67 3 (.getfield 93) 1 1, ny_o1 70 3 (.getfield 166) 2 3, ny_o 73 3 (.invokestatic 392), ny_o 76 1 .ireturn, ny_o 77 1 (.aload_n 0), ny_o1 78 3 (.getfield 10) 9 1, ny_o1 81 3 (.getfield 259) 1 37, ny_o1 84 3 (.getfield 268) 4 0, ny_o 87 1 .ireturn, ny_o 88 1 (.aload_n 0), ny_o1 89 3 (.getfield 42) 9 18, ny_o 92 1 .ireturn, ny_o 93 1 (.aload_n 0), ny_o1 94 3 (.getfield 26) 9 10, ny_o1 97 3 (.getfield 181) 8 3, ny_o 100 1 .ireturn, ny_o 101 1 (.aload_n 0), ny_o1 102 3 (.getfield 61) 9 28, ny_o1 105 3 (.getfield 385) 0 3, ny_o 108 1 .ireturn, ny_o2 109 1 (.iconst (-1)) (-1), ny_o 110 1 .ireturn]
def m_No_many : ny_M := (⟨"NymphRota", "many", "(I)I"⟩, prog_1_method_50_code, 2, (Option.some Jvm.ClassFile.FieldType.int), false, pg_No_many)
def pg_No_keep : List ny_Op := [ny_o 0 1 (.aload_n 0), ny_o1 1 3 (.getfield 16) 9 4, ny_o 4 1 (.aload_n 0), ny_o1 5 3 (.getfield 10) 9 1, ny_o 8 3 (.invokevirtual 397), ny_o 11 1 (.aload_n 0), ny_o2 12 1 (.iconst 1) 1, ny_o1 13 3 (.putfield 19) 9 8, ny_o2 16 1 (.iconst 1) 1, ny_o 17 1 .ireturn]
def m_No_keep : ny_M := (⟨"NymphRota", "keep", "()I"⟩, prog_1_method_51_code, 1, (Option.some Jvm.ClassFile.FieldType.int), false, pg_No_keep)
def pg_No_again : List ny_Op := [ny_o 0 1 (.aload_n 0), ny_o1 1 3 (.getfield 19) 9 8, ny_o 4 3 (.ifCond .ne 6), ny_o2 7 2 (.bipush (-3)) (-3), ny_o 9 1 .ireturn, ny_o 10 1 (.aload_n 0), ny_o1 11 3 (.getfield 10) 9 1, ny_o 14 1 (.aload_n 0), ny_o1 15 3 (.getfield 16) 9 4, ny_o 18 3 (.invokevirtual 397), ny_o 21 1 (.aload_n 0), ny_o1 22 3 (.getfield 10) 9 1, ny_o1 25 3 (.getfield 80) 1 12, ny_o 28 1 .ireturn]
def m_No_again : ny_M := (⟨"NymphRota", "again", "()I"⟩, prog_1_method_52_code, 1, (Option.some Jvm.ClassFile.FieldType.int), false, pg_No_again)
def pg_No_isBetween : List ny_Op := [ny_o 0 1 (.iload_n 0), ny_o 1 1 (.iload_n 1), ny_o 2 3 (.if_icmp .lt 12), ny_o 5 1 (.iload_n 0), ny_o 6 1 (.iload_n 2), ny_o 7 3 (.if_icmp .gt 7), ny_o2 10 1 (.iconst 1) 1, ny_o 11 3 (.goto 4), ny_o2 14 1 (.iconst 0) 0, ny_o 15 1 .ireturn]
def m_No_isBetween : ny_M := (⟨"NymphRota", "isBetween", "(III)Z"⟩, prog_1_method_53_code, 3, (Option.some Jvm.ClassFile.FieldType.boolean), false, pg_No_isBetween)
def pg_No_isNiche : List ny_Op := [ny_o 0 1 (.iload_n 0), ny_o2 1 1 (.iconst 0) 0, ny_o2 2 1 (.iconst 5) 5, ny_o 3 3 (.invokestatic 73), ny_o 6 1 .ireturn]
def m_No_isNiche : ny_M := (⟨"NymphRota", "isNiche", "(I)Z"⟩, prog_1_method_54_code, 1, (Option.some Jvm.ClassFile.FieldType.boolean), false, pg_No_isNiche)
def pg_No_oneIf : List ny_Op := [ny_o 0 1 (.iload_n 0), ny_o 1 3 (.ifCond .eq 7), ny_o2 4 1 (.iconst 1) 1, ny_o 5 3 (.goto 4), ny_o2 8 1 (.iconst 0) 0, ny_o 9 1 .ireturn]
def m_No_oneIf : ny_M := (⟨"NymphRota", "oneIf", "(Z)I"⟩, prog_1_method_55_code, 1, (Option.some Jvm.ClassFile.FieldType.int), false, pg_No_oneIf)
def pg_No_put : List ny_Op := [ny_o 0 1 (.iload_n 1), ny_o 1 3 (.ifCond .lt 9), ny_o 4 1 (.iload_n 1), ny_o 5 1 (.aload_n 0), ny_o 6 1 .arraylength, ny_o 7 3 (.if_icmp .lt 5), ny_o2 10 1 (.iconst (-1)) (-1), ny_o 11 1 .ireturn, ny_o 12 1 (.aload_n 0), ny_o 13 1 (.iload_n 1), ny_o 14 1 .iaload, ny_o 15 1 (.istore_n 3), ny_o 16 1 (.aload_n 0), ny_o 17 1 (.iload_n 1), ny_o 18 1 (.iload_n 2), ny_o 19 1 .iastore, ny_o 20 1 (.iload_n 3), ny_o 21 1 .ireturn]
def m_No_put : ny_M := (⟨"NymphRota", "put", "([III)I"⟩, prog_1_method_56_code, 4, (Option.some Jvm.ClassFile.FieldType.int), false, pg_No_put)
def pg_No_changeRelieved : List ny_Op := [ny_o 0 1 (.aload_n 0), ny_o1 1 3 (.getfield 10) 9 1, ny_o1 4 3 (.getfield 93) 1 1, ny_o 7 1 (.iload_n 1), ny_o 8 3 (.invokevirtual 109), ny_o 11 3 (.invokestatic 112), ny_o 14 1 (.istore_n 3), ny_o 15 1 (.aload_n 0), ny_o1 16 3 (.getfield 10) 9 1, ny_o1 19 3 (.getfield 93) 1 1, ny_o 22 1 (.iload_n 1), ny_o 23 1 (.iload_n 2), ny_o 24 3 (.invokevirtual 102), ny_o 27 1 (.iload_n 3), ny_o 28 1 .ireturn]
def m_No_changeRelieved : ny_M := (⟨"NymphRota", "changeRelieved", "(IZ)I"⟩, prog_1_method_57_code, 4, (Option.some Jvm.ClassFile.FieldType.int), false, pg_No_changeRelieved)
def pg_No_goOn : List ny_Op := [ny_o 0 1 (.aload_n 0), ny_o1 1 3 (.getfield 10) 9 1, ny_o 4 1 (.aload_n 0), ny_o1 5 3 (.getfield 10) 9 1, ny_o1 8 3 (.getfield 93) 1 1, ny_o 11 1 (.iload_n 1), ny_o 12 3 (.invokevirtual 304), ny_o 15 1 (.istore_n 2), ny_o 16 1 (.aload_n 0), ny_o1 17 3 (.getfield 10) 9 1, ny_o 20 1 .dup, ny_o1 21 3 (.getfield 159) 1 27, ny_o 24 1 (.iload_n 2), ny_o 25 1 .iadd, ny_o1 26 3 (.putfield 159) 1 27, ny_o 29 1 (.iload_n 2), ny_o 30 1 .ireturn]
def m_No_goOn : ny_M := (⟨"NymphRota", "goOn", "(I)I"⟩, prog_1_method_58_code, 3, (Option.some Jvm.ClassFile.FieldType.int), false, pg_No_goOn)
def pg_No_isInRow : List ny_Op := [ny_o 0 1 (.iload_n 1), ny_o 1 3 (.ifCond .lt 24), ny_o 4 1 (.iload_n 1), ny_o 5 1 (.aload_n 0), ny_o1 6 3 (.getfield 42) 9 18, ny_o 9 3 (.if_icmp .ge 16), ny_o 12 1 (.iload_n 2), ny_o2 13 1 (.iconst 0) 0, ny_o2 14 1 (.iconst 2) 2, ny_o 15 3 (.invokestatic 73), ny_o 18 3 (.ifCond .eq 7), ny_o2 21 1 (.iconst 1) 1, ny_o 22 3 (.goto 4), ny_o2 25 1 (.iconst 0) 0, ny_o 26 1 .ireturn]
def m_No_isInRow : ny_M := (⟨"NymphRota", "isInRow", "(II)Z"⟩, prog_1_method_59_code, 3, (Option.some Jvm.ClassFile.FieldType.boolean), false, pg_No_isInRow)
def pg_No_refusalOfActs : List ny_Op := [ny_o 0 1 (.iload_n 1), ny_o2 1 1 (.iconst 0) 0, ny_o2 2 1 (.iconst 3) 3, ny_o 3 3 (.invokestatic 73), ny_o 6 3 (.ifCond .eq 13), ny_o 9 1 (.iload_n 2), ny_o2 10 1 (.iconst 0) 0, ny_o2 11 2 (.bipush 20) 20, ny_o 13 3 (.invokestatic 73), ny_o 16 3 (.ifCond .ne 5), ny_o2 19 1 (.iconst (-1)) (-1), ny_o 20 1 .ireturn, ny_o 21 1 (.aload_n 0), ny_o1 22 3 (.getfield 48) 9 22, ny_o 25 1 (.iload_n 1), ny_o 26 1 .aaload, ny_o2 27 1 (.iconst 0) 0, ny_o 28 3 (.invokevirtual 333), ny_o 31 1 .ireturn]
def m_No_refusalOfActs : ny_M := (⟨"NymphRota", "refusalOfActs", "(II)I"⟩, prog_1_method_60_code, 3, (Option.some Jvm.ClassFile.FieldType.int), false, pg_No_refusalOfActs)
def pg_Md_init : List ny_Op := [ny_o 0 1 (.aload_n 0), ny_o 1 3 (.invokespecial 1), ny_o 4 1 (.aload_n 0), ny_o2 5 3 (.sipush 572) 572, ny_o 8 2 (.newarray .int), ny_o1 10 3 (.putfield 7) 10 1, ny_o 13 1 (.aload_n 0), ny_o2 14 3 (.sipush 572) 572, ny_o 17 2 (.newarray .int), ny_o1 19 3 (.putfield 13) 10 4, ny_o 22 1 (.aload_n 0), ny_o2 23 3 (.sipush 190) 190, ny_o 26 2 (.newarray .int), ny_o1 28 3 (.putfield 16) 10 10, ny_o 31 1 (.aload_n 0), ny_o2 32 3 (.sipush 200) 200, ny_o 35 2 (.newarray .int), ny_o1 37 3 (.putfield 19) 10 13, ny_o 40 1 (.aload_n 0), ny_o2 41 3 (.sipush 572) 572, ny_o 44 2 (.newarray .int), ny_o1 46 3 (.putfield 22) 10 37, ny_o 49 1 (.aload_n 0), ny_o2 50 1 (.iconst 4) 4, ny_o 51 2 (.newarray .int), ny_o1 53 3 (.putfield 25) 10 40, ny_o 56 1 (.aload_n 0), ny_o2 57 1 (.iconst 4) 4, ny_o 58 2 (.newarray .int), ny_o1 60 3 (.putfield 28) 10 43, ny_o 63 1 (.aload_n 0), ny_o2 64 2 (.bipush 16) 16, ny_o 66 2 (.newarray .int), ny_o1 68 3 (.putfield 31) 10 67, ny_o 71 1 (.aload_n 0), ny_o2 72 2 (.bipush 16) 16, ny_o 74 2 (.newarray .int), ny_o1 76 3 (.putfield 34) 10 70, ny_o 79 1 (.aload_n 0), ny_o2 80 2 (.bipush 12) 12, ny_o 82 2 (.newarray .int), ny_o1 84 3 (.putfield 37) 10 79, ny_o 87 1 (.aload_n 0), ny_o2 88 1 (.iconst 4) 4, ny_o 89 2 (.newarray .int), ny_o 91 1 .dup, ny_o2 92 1 (.iconst 0) 0, ny_o2 93 1 (.iconst (-1)) (-1), ny_o 94 1 .iastore, ny_o 95 1 .dup, ny_o2 96 1 (.iconst 1) 1, ny_o2 97 1 (.iconst (-1)) (-1), ny_o 98 1 .iastore, ny_o 99 1 .dup, ny_o2 100 1 (.iconst 2) 2, ny_o2 101 1 (.iconst (-1)) (-1), ny_o 102 1 .iastore, ny_o 103 1 .dup, ny_o2 104 1 (.iconst 3) 3, ny_o2 105 1 (.iconst (-1)) (-1), ny_o 106 1 .iastore, ny_o1 107 3 (.putfield 40) 10 85, ny_o 110 1 (.aload_n 0), ny_o2 111 1 (.iconst 4) 4, ny_o 112 2 (.newarray .int), ny_o1 114 3 (.putfield 43) 10 88, ny_o 117 1 (.aload_n 0), ny_o2 118 3 (.sipush 160) 160, ny_o 121 2 (.newarray .int), ny_o1 123 3 (.putfield 46) 10 91, ny_o 126 1 (.aload_n 0), ny_o2 127 1 (.iconst 4) 4, ny_o 128 2 (.newarray .int), ny_o1 130 3 (.putfield 49) 10 94, ny_o 133 1 (.aload_n 0), ny_o2 134 1 (.iconst 4) 4, ny_o 135 2 (.newarray .int), ny_o1 137 3 (.putfield 52) 10 97, ny_o 140 1 (.aload_n 0), ny_o2 141 1 (.iconst 4) 4, ny_o 142 2 (.newarray .int), ny_o1 144 3 (.putfield 55) 10 100, ny_o 147 1 (.aload_n 0), ny_o2 148 2 (.bipush 30) 30, ny_o 150 2 (.newarray .int), ny_o1 152 3 (.putfield 58) 10 103, ny_o 155 1 (.aload_n 0), ny_o1 156 3 (.getfield 7) 10 1, ny_o2 159 1 (.iconst 2) 2, ny_o2 160 2 (.bipush 12) 12, ny_o 162 1 .iastore, ny_o 163 1 (.aload_n 0), ny_o1 164 3 (.getfield 7) 10 1, ny_o2 167 1 (.iconst 4) 4, ny_o2 168 1 (.iconst 1) 1, ny_o 169 1 .iastore, ny_o2 170 1 (.iconst 0) 0, ny_o 171 1 (.istore_n 1), ny_o 172 1 (.iload_n 1), ny_o2 173 2 (.bipush 16) 16, ny_o 175 3 (.if_icmp .ge 19), ny_o 178 1 (.aload_n 0), ny_o1 179 3 (.getfield 7) 10 1, ny_o2 182 2 (.bipush 50) 50, ny_o 184 1 (.iload_n 1), ny_o 185 1 .iadd, ny_o2 186 1 (.iconst 5) 5, ny_o 187 1 .iastore, ny_o2 188 3 (.iinc 1 1) 1, ny_o 191 3 (.goto (-19)), ny_o 194 1 .return_]
def m_Md_init : ny_M := (⟨"NymphRotaModel", "<init>", "()V"⟩, prog_13_method_1_code, 2, none, true, pg_Md_init)
def pg_Md_isIn : List ny_Op := [ny_o 0 1 (.lload_n 0), ny_o 1 1 (.lload_n 2), ny_o 2 1 .lcmp, ny_o 3 3 (.ifCond .lt 14), ny_o 6 1 (.lload_n 0), ny_o 7 2 (.lload 4), ny_o 9 1 .lcmp, ny_o 10 3 (.ifCond .gt 7), ny_o2 13 1 (.iconst 1) 1, ny_o 14 3 (.goto 4), ny_o2 17 1 (.iconst 0) 0, ny_o 18 1 .ireturn]
def m_Md_isIn : ny_M := (⟨"NymphRotaModel", "isIn", "(JJJ)Z"⟩, prog_13_method_2_code, 6, (Option.some Jvm.ClassFile.FieldType.boolean), false, pg_Md_isIn)
def pg_Md_isOne : List ny_Op := [ny_o 0 1 (.iload_n 1), ny_o 1 3 (.ifCond .lt 17), ny_o 4 1 (.iload_n 1), ny_o 5 1 (.aload_n 0), ny_o1 6 3 (.getfield 7) 10 1, ny_o2 9 1 (.iconst 0) 0, ny_o 10 1 .iaload, ny_o 11 3 (.if_icmp .ge 7), ny_o2 14 1 (.iconst 1) 1, ny_o 15 3 (.goto 4), ny_o2 18 1 (.iconst 0) 0, ny_o 19 1 .ireturn]
def m_Md_isOne : ny_M := (⟨"NymphRotaModel", "isOne", "(I)Z"⟩, prog_13_method_3_code, 2, (Option.some Jvm.ClassFile.FieldType.boolean), false, pg_Md_isOne)
def pg_Md_isNiche : List ny_Op := [ny_o 0 1 (.iload_n 0), ny_o 1 3 (.ifCond .lt 13), ny_o 4 1 (.iload_n 0), ny_o2 5 2 (.bipush 6) 6, ny_o 7 3 (.if_icmp .ge 7), ny_o2 10 1 (.iconst 1) 1, ny_o 11 3 (.goto 4), ny_o2 14 1 (.iconst 0) 0, ny_o 15 1 .ireturn]
def m_Md_isNiche : ny_M := (⟨"NymphRotaModel", "isNiche", "(I)Z"⟩, prog_13_method_4_code, 1, (Option.some Jvm.ClassFile.FieldType.boolean), false, pg_Md_isNiche)
def pg_Md_its : List ny_Op := [ny_o 0 1 (.aload_n 0), ny_o1 1 3 (.getfield 7) 10 1, ny_o2 4 2 (.bipush 8) 8, ny_o2 6 1 (.iconst 5) 5, ny_o 7 1 (.iload_n 1), ny_o 8 1 .imul, ny_o 9 1 .iadd, ny_o 10 1 (.iload_n 2), ny_o 11 1 .iadd, ny_o 12 1 .iaload, ny_o 13 1 .ireturn]
def m_Md_its : ny_M := (⟨"NymphRotaModel", "its", "(II)I"⟩, prog_13_method_5_code, 3, (Option.some Jvm.ClassFile.FieldType.int), false, pg_Md_its)
def pg_Md_becomes : List ny_Op := [ny_o 0 1 (.aload_n 0), ny_o1 1 3 (.getfield 7) 10 1, ny_o 4 1 (.iload_n 1), ny_o 5 1 .iaload, ny_o 6 1 (.istore_n 3), ny_o 7 1 (.aload_n 0), ny_o1 8 3 (.getfield 7) 10 1, ny_o 11 1 (.iload_n 1), ny_o 12 1 (.iload_n 2), ny_o 13 1 .iastore, ny_o 14 1 (.iload_n 3), ny_o 15 1 .ireturn]
def m_Md_becomes : ny_M := (⟨"NymphRotaModel", "becomes", "(II)I"⟩, prog_13_method_6_code, 4, (Option.some Jvm.ClassFile.FieldType.int), false, pg_Md_becomes)
def pg_Md_laysAside : List ny_Op := [ny_o2 0 1 (.iconst 0) 0, ny_o 1 1 (.istore_n 2), ny_o 2 1 (.iload_n 2), ny_o2 3 2 (.bipush 38) 38, ny_o 5 3 (.if_icmp .ge 26), ny_o 8 1 (.aload_n 0), ny_o1 9 3 (.getfield 16) 10 10, ny_o2 12 2 (.bipush 38) 38, ny_o 14 1 (.iload_n 1), ny_o 15 1 .imul, ny_o 16 1 (.iload_n 2), ny_o 17 1 .iadd, ny_o 18 1 (.aload_n 0), ny_o1 19 3 (.getfield 7) 10 1, ny_o 22 1 (.iload_n 2), ny_o 23 1 .iaload, ny_o 24 1 .iastore, ny_o2 25 3 (.iinc 2 1) 1, ny_o 28 3 (.goto (-26)), ny_o 31 1 .return_]
def m_Md_laysAside : ny_M := (⟨"NymphRotaModel", "laysAside", "(I)V"⟩, prog_13_method_7_code, 3, none, false, pg_Md_laysAside)
def pg_Md_laysBack : List ny_Op := [ny_o2 0 1 (.iconst 0) 0, ny_o 1 1 (.istore_n 2), ny_o 2 1 (.iload_n 2), ny_o2 3 2 (.bipush 38) 38, ny_o 5 3 (.if_icmp .ge 26), ny_o 8 1 (.aload_n 0), ny_o1 9 3 (.getfield 7) 10 1, ny_o 12 1 (.iload_n 2), ny_o 13 1 (.aload_n 0), ny_o1 14 3 (.getfield 16) 10 10, ny_o2 17 2 (.bipush 38) 38, ny_o 19 1 (.iload_n 1), ny_o 20 1 .imul, ny_o 21 1 (.iload_n 2), ny_o 22 1 .iadd, ny_o 23 1 .iaload, ny_o 24 1 .iastore, ny_o2 25 3 (.iinc 2 1) 1, ny_o 28 3 (.goto (-26)), ny_o 31 1 .return_]
def m_Md_laysBack : ny_M := (⟨"NymphRotaModel", "laysBack", "(I)V"⟩, prog_13_method_8_code, 3, none, false, pg_Md_laysBack)
def pg_Md_isOver : List ny_Op := [ny_o 0 1 (.aload_n 0), ny_o1 1 3 (.getfield 7) 10 1, ny_o2 4 1 (.iconst 1) 1, ny_o 5 1 .iaload, ny_o 6 1 (.aload_n 0), ny_o1 7 3 (.getfield 7) 10 1, ny_o2 10 1 (.iconst 2) 2, ny_o 11 1 .iaload, ny_o 12 3 (.if_icmp .lt 7), ny_o2 15 1 (.iconst 1) 1, ny_o 16 3 (.goto 4), ny_o2 19 1 (.iconst 0) 0, ny_o 20 1 .ireturn]
def m_Md_isOver : ny_M := (⟨"NymphRotaModel", "isOver", "()Z"⟩, prog_13_method_9_code, 1, (Option.some Jvm.ClassFile.FieldType.boolean), false, pg_Md_isOver)
def pg_Md_size : List ny_Op := [ny_o2 0 1 (.iconst 0) 0, ny_o 1 1 (.istore_n 1), ny_o 2 1 (.iload_n 0), ny_o 3 1 (.istore_n 2), ny_o 4 1 (.iload_n 2), ny_o 5 3 (.ifCond .eq 15), ny_o2 8 3 (.iinc 1 1) 1, ny_o 11 1 (.iload_n 2), ny_o 12 1 (.iload_n 2), ny_o2 13 1 (.iconst 1) 1, ny_o 14 1 .isub, ny_o 15 1 .iand, ny_o 16 1 (.istore_n 2), ny_o 17 3 (.goto (-13)), ny_o 20 1 (.iload_n 1), ny_o 21 1 .ireturn]
def m_Md_size : ny_M := (⟨"NymphRotaModel", "size", "(I)I"⟩, prog_13_method_10_code, 3, (Option.some Jvm.ClassFile.FieldType.int), false, pg_Md_size)
def pg_Md_least : List ny_Op := [ny_o 0 1 (.iload_n 0), ny_o 1 1 (.iload_n 1), ny_o 2 3 (.if_icmp .ge 7), ny_o 5 1 (.iload_n 0), ny_o 6 3 (.goto 4), ny_o 9 1 (.iload_n 1), ny_o 10 1 .ireturn]
def m_Md_least : ny_M := (⟨"NymphRotaModel", "least", "(II)I"⟩, prog_13_method_11_code, 2, (Option.some Jvm.ClassFile.FieldType.int), false, pg_Md_least)
def pg_Md_greatest : List ny_Op := [ny_o 0 1 (.iload_n 0), ny_o 1 1 (.iload_n 1), ny_o 2 3 (.if_icmp .le 7), ny_o 5 1 (.iload_n 0), ny_o 6 3 (.goto 4), ny_o 9 1 (.iload_n 1), ny_o 10 1 .ireturn]
def m_Md_greatest : ny_M := (⟨"NymphRotaModel", "greatest", "(II)I"⟩, prog_13_method_12_code, 2, (Option.some Jvm.ClassFile.FieldType.int), false, pg_Md_greatest)
def pg_Md_figure : List ny_Op := [ny_o 0 1 (.iload_n 1), ny_o 1 1 .i2l, ny_o3 2 1 (.lconst 1) 1, ny_o3 3 3 (.ldc2_w 61) 5, ny_o 6 3 (.invokestatic 63), ny_o 9 3 (.ifCond .eq 35), ny_o 12 1 (.iload_n 2), ny_o 13 1 .i2l, ny_o3 14 1 (.lconst 0) 0, ny_o3 15 3 (.ldc2_w 67) 99, ny_o 18 3 (.invokestatic 63), ny_o 21 3 (.ifCond .eq 23), ny_o 24 1 (.iload_n 3), ny_o 25 1 .i2l, ny_o3 26 1 (.lconst 0) 0, ny_o3 27 3 (.ldc2_w 69) 9, ny_o 30 3 (.invokestatic 63), ny_o 33 3 (.ifCond .eq 11), ny_o 36 2 (.iload 4), ny_o 38 3 (.invokestatic 71), ny_o 41 3 (.ifCond .ne 5), ny_o2 44 1 (.iconst (-1)) (-1), ny_o 45 1 .ireturn, ny_o 46 1 (.aload_n 0), ny_o1 47 3 (.getfield 7) 10 1, ny_o2 50 1 (.iconst 0) 0, ny_o 51 1 .iaload, ny_o2 52 2 (.bipush 6) 6, ny_o 54 3 (.if_icmp .ne 6), ny_o2 57 2 (.bipush (-2)) (-2), ny_o 59 1 .ireturn, ny_o2 60 2 (.bipush 8) 8, ny_o2 62 1 (.iconst 5) 5, ny_o 63 1 (.aload_n 0), ny_o1 64 3 (.getfield 7) 10 1, ny_o2 67 1 (.iconst 0) 0, ny_o 68 1 .iaload, ny_o 69 1 .imul, ny_o 70 1 .iadd, ny_o 71 2 (.istore 5), ny_o 73 1 (.aload_n 0), ny_o1 74 3 (.getfield 7) 10 1, ny_o 77 2 (.iload 5), ny_o 79 1 (.iload_n 1), ny_o 80 1 .iastore, ny_o 81 1 (.aload_n 0), ny_o1 82 3 (.getfield 7) 10 1, ny_o 85 2 (.iload 5), ny_o2 87 1 (.iconst 1) 1, ny_o 88 1 .iadd, ny_o 89 1 (.iload_n 2), ny_o 90 1 .iastore, ny_o 91 1 (.aload_n 0), ny_o1 92 3 (.getfield 7) 10 1, ny_o 95 2 (.iload 5), ny_o2 97 1 (.iconst 2) 2, ny_o 98 1 .iadd, ny_o 99 1 (.iload_n 3), ny_o 100 1 .iastore, ny_o 101 1 (.aload_n 0), ny_o1 102 3 (.getfield 7) 10 1, ny_o 105 2 (.iload 5), ny_o2 107 1 (.iconst 3) 3, ny_o 108 1 .iadd, ny_o 109 2 (.iload 4), ny_o 111 1 .iastore, ny_o 112 1 (.aload_n 0), ny_o1 113 3 (.getfield 7) 10 1, ny_o 116 2 (.iload 5), ny_o2 118 1 (.iconst 4) 4, ny_o 119 1 .iadd, ny_o2 120 1 (.iconst 0) 0, ny_o 121 1 .iastore, ny_o 122 1 (.aload_n 0), ny_o1 123 3 (.getfield 7) 10 1, ny_o2 126 1 (.iconst 0) 0, ny_o 127 1 .dup2, ny_o 128 1 .iaload, ny_o2 129 1 (.iconst 1) 1, ny_o 130 1 .iadd, ny_o 131 1 .iastore, ny_o 132 1 (.aload_n 0), ny_o1 133 3 (.getfield 7) 10 1, ny_o2 136 1 (.iconst 0) 0, ny_o 137 1 .iaload, ny_o2 138 1 (.iconst 1) 1, ny_o 139 1 .isub, ny_o 140 1 .ireturn]
def m_Md_figure : ny_M := (⟨"NymphRotaModel", "figure", "(IIII)I"⟩, prog_13_method_13_code, 6, (Option.some Jvm.ClassFile.FieldType.int), false, pg_Md_figure)
def pg_Md_weatherOf : List ny_Op := [ny_o 0 1 (.iload_n 1), ny_o2 1 2 (.bipush 16) 16, ny_o 3 3 (.if_icmp .ge 15), ny_o 6 1 (.aload_n 0), ny_o1 7 3 (.getfield 7) 10 1, ny_o2 10 2 (.bipush 50) 50, ny_o 12 1 (.iload_n 1), ny_o 13 1 .iadd, ny_o 14 1 .iaload, ny_o 15 3 (.goto 4), ny_o2 18 1 (.iconst 0) 0, ny_o 19 1 .ireturn]
def m_Md_weatherOf : ny_M := (⟨"NymphRotaModel", "weatherOf", "(I)I"⟩, prog_13_method_14_code, 2, (Option.some Jvm.ClassFile.FieldType.int), false, pg_Md_weatherOf)
def pg_Md_wearies : List ny_Op := [ny_o2 0 1 (.iconst 3) 3, ny_o2 1 1 (.iconst 4) 4, ny_o 2 1 (.iload_n 2), ny_o2 3 1 (.iconst 4) 4, ny_o 4 1 .idiv, ny_o 5 1 .imul, ny_o 6 1 .iadd, ny_o 7 1 (.istore_n 3), ny_o 8 1 (.iload_n 0), ny_o 9 31 (.tableswitch 55 1 4 #[31, 33, 39, 51]), ny_o2 40 1 (.iconst 1) 1, ny_o 41 1 .ireturn, ny_o 42 1 (.iload_n 3), ny_o 43 1 (.iload_n 1), ny_o2 44 1 (.iconst 4) 4, ny_o 45 1 .idiv, ny_o 46 1 .iadd, ny_o 47 1 .ireturn, ny_o2 48 1 (.iconst 0) 0, ny_o 49 1 (.iload_n 3), ny_o 50 1 (.iload_n 1), ny_o2 51 1 (.iconst 4) 4, ny_o 52 1 .idiv, ny_o 53 1 .iadd, ny_o2 54 1 (.iconst 5) 5, ny_o 55 1 .isub, ny_o 56 3 (.invokestatic 75), ny_o 59 1 .ireturn, ny_o2 60 1 (.iconst 2) 2, ny_o 61 1 (.iload_n 3), ny_o 62 1 .imul, ny_o 63 1 .ireturn, ny_o 64 1 (.iload_n 1), ny_o2 65 1 (.iconst 2) 2, ny_o 66 1 .irem, ny_o2 67 1 (.iconst 1) 1, ny_o 68 3 (.if_icmp .ne 7), ny_o2 71 1 (.iconst 0) 0, ny_o 72 3 (.goto 6), ny_o2 75 1 (.iconst 2) 2, ny_o 76 1 (.iload_n 3), ny_o 77 1 .imul, ny_o 78 1 .ireturn]
def m_Md_wearies : ny_M := (⟨"NymphRotaModel", "wearies", "(III)I"⟩, prog_13_method_15_code, 4, (Option.some Jvm.ClassFile.FieldType.int), false, pg_Md_wearies)
def pg_Md_shows : List ny_Op := [ny_o 0 1 (.iload_n 3), ny_o2 1 1 (.iconst 4) 4, ny_o 2 1 .irem, ny_o 3 2 (.istore 4), ny_o 5 1 (.iload_n 0), ny_o 6 30 (.tableswitch 62 1 4 #[30, 37, 44, 57]), ny_o2 36 1 (.iconst 1) 1, ny_o 37 2 (.iload 4), ny_o 39 3 (.invokestatic 79), ny_o 42 1 .ireturn, ny_o 43 2 (.iload 4), ny_o 45 1 (.iload_n 1), ny_o2 46 1 (.iconst 3) 3, ny_o 47 1 .idiv, ny_o 48 1 .iadd, ny_o 49 1 .ireturn, ny_o2 50 1 (.iconst 0) 0, ny_o 51 2 (.iload 4), ny_o 53 1 (.iload_n 1), ny_o2 54 1 (.iconst 3) 3, ny_o 55 1 .idiv, ny_o 56 1 .iadd, ny_o2 57 1 (.iconst 1) 1, ny_o 58 1 .isub, ny_o 59 3 (.invokestatic 75), ny_o 62 1 .ireturn, ny_o2 63 1 (.iconst 2) 2, ny_o 64 2 (.iload 4), ny_o 66 1 .imul, ny_o 67 1 .ireturn, ny_o2 68 1 (.iconst 2) 2, ny_o 69 2 (.iload 4), ny_o 71 1 .imul, ny_o 72 1 (.iload_n 2), ny_o 73 1 .iadd, ny_o 74 1 .ireturn]
def m_Md_shows : ny_M := (⟨"NymphRotaModel", "shows", "(IIII)I"⟩, prog_13_method_16_code, 5, (Option.some Jvm.ClassFile.FieldType.int), false, pg_Md_shows)
def pg_Md_isUp : List ny_Op := [ny_o 0 1 (.aload_n 0), ny_o 1 1 (.iload_n 1), ny_o2 2 1 (.iconst 4) 4, ny_o 3 3 (.invokevirtual 82), ny_o 6 3 (.ifCond .ne 18), ny_o 9 1 (.aload_n 0), ny_o 10 1 (.iload_n 1), ny_o2 11 1 (.iconst 1) 1, ny_o 12 3 (.invokevirtual 82), ny_o2 15 2 (.bipush 60) 60, ny_o 17 3 (.if_icmp .ge 7), ny_o2 20 1 (.iconst 1) 1, ny_o 21 3 (.goto 4), ny_o2 24 1 (.iconst 0) 0, ny_o 25 1 .ireturn]
def m_Md_isUp : ny_M := (⟨"NymphRotaModel", "isUp", "(I)Z"⟩, prog_13_method_17_code, 2, (Option.some Jvm.ClassFile.FieldType.boolean), false, pg_Md_isUp)
def pg_Md_wearied : List ny_Op := [ny_o2 0 1 (.iconst 0) 0, ny_o 1 1 (.aload_n 0), ny_o 2 1 (.iload_n 1), ny_o2 3 1 (.iconst 0) 0, ny_o 4 3 (.invokevirtual 82), ny_o 7 1 (.aload_n 0), ny_o1 8 3 (.getfield 7) 10 1, ny_o2 11 1 (.iconst 1) 1, ny_o 12 1 .iaload, ny_o 13 1 (.aload_n 0), ny_o 14 1 (.aload_n 0), ny_o1 15 3 (.getfield 7) 10 1, ny_o2 18 1 (.iconst 1) 1, ny_o 19 1 .iaload, ny_o 20 3 (.invokevirtual 85), ny_o 23 3 (.invokestatic 89), ny_o 26 1 (.aload_n 0), ny_o1 27 3 (.getfield 7) 10 1, ny_o2 30 2 (.bipush 38) 38, ny_o 32 1 (.aload_n 0), ny_o 33 1 (.iload_n 1), ny_o2 34 1 (.iconst 3) 3, ny_o 35 3 (.invokevirtual 82), ny_o 38 1 .iadd, ny_o 39 1 .iaload, ny_o 40 1 .isub, ny_o 41 3 (.invokestatic 75), ny_o 44 1 .ireturn]
def m_Md_wearied : ny_M := (⟨"NymphRotaModel", "wearied", "(I)I"⟩, prog_13_method_18_code, 2, (Option.some Jvm.ClassFile.FieldType.int), false, pg_Md_wearied)
def pg_Md_shown : List ny_Op := [ny_o 0 1 (.aload_n 0), ny_o 1 1 (.iload_n 1), ny_o 2 3 (.invokevirtual 93), ny_o 5 3 (.ifCond .eq 32), ny_o 8 1 (.aload_n 0), ny_o 9 1 (.iload_n 1), ny_o2 10 1 (.iconst 0) 0, ny_o 11 3 (.invokevirtual 82), ny_o 14 1 (.aload_n 0), ny_o 15 1 (.iload_n 1), ny_o2 16 1 (.iconst 2) 2, ny_o 17 3 (.invokevirtual 82), ny_o 20 1 (.iload_n 1), ny_o 21 1 (.aload_n 0), ny_o 22 1 (.aload_n 0), ny_o1 23 3 (.getfield 7) 10 1, ny_o2 26 1 (.iconst 1) 1, ny_o 27 1 .iaload, ny_o 28 3 (.invokevirtual 85), ny_o 31 3 (.invokestatic 96), ny_o 34 3 (.goto 4), ny_o2 37 1 (.iconst 0) 0, ny_o 38 1 .ireturn]
def m_Md_shown : ny_M := (⟨"NymphRotaModel", "shown", "(I)I"⟩, prog_13_method_19_code, 2, (Option.some Jvm.ClassFile.FieldType.int), false, pg_Md_shown)
def pg_Md_pays : List ny_Op := [ny_o 0 1 (.aload_n 0), ny_o 1 1 (.iload_n 1), ny_o 2 3 (.invokevirtual 93), ny_o 5 3 (.ifCond .eq 29), ny_o2 8 1 (.iconst 0) 0, ny_o2 9 2 (.bipush 10) 10, ny_o 11 1 (.aload_n 0), ny_o 12 1 (.iload_n 1), ny_o2 13 1 (.iconst 2) 2, ny_o 14 3 (.invokevirtual 82), ny_o 17 1 .iadd, ny_o 18 1 (.aload_n 0), ny_o 19 1 (.iload_n 1), ny_o2 20 1 (.iconst 1) 1, ny_o 21 3 (.invokevirtual 82), ny_o2 24 2 (.bipush 8) 8, ny_o 26 1 .idiv, ny_o 27 1 .isub, ny_o 28 3 (.invokestatic 75), ny_o 31 3 (.goto 4), ny_o2 34 1 (.iconst 0) 0, ny_o 35 1 .ireturn]
def m_Md_pays : ny_M := (⟨"NymphRotaModel", "pays", "(I)I"⟩, prog_13_method_20_code, 2, (Option.some Jvm.ClassFile.FieldType.int), false, pg_Md_pays)
def pg_Md_isUnder : List ny_Op := [ny_o 0 1 (.iload_n 1), ny_o 1 3 (.ifCond .eq 28), ny_o 4 1 (.iload_n 0), ny_o 5 1 (.iload_n 1), ny_o 6 3 (.if_icmp .eq 23), ny_o 9 1 (.iload_n 1), ny_o2 10 1 (.iconst 2) 2, ny_o 11 3 (.if_icmp .ne 8), ny_o 14 1 (.iload_n 0), ny_o2 15 1 (.iconst 3) 3, ny_o 16 3 (.if_icmp .eq 13), ny_o 19 1 (.iload_n 1), ny_o2 20 1 (.iconst 4) 4, ny_o 21 3 (.if_icmp .ne 12), ny_o 24 1 (.iload_n 0), ny_o2 25 1 (.iconst 5) 5, ny_o 26 3 (.if_icmp .ne 7), ny_o2 29 1 (.iconst 1) 1, ny_o 30 3 (.goto 4), ny_o2 33 1 (.iconst 0) 0, ny_o 34 1 .ireturn]
def m_Md_isUnder : ny_M := (⟨"NymphRotaModel", "isUnder", "(II)Z"⟩, prog_13_method_21_code, 2, (Option.some Jvm.ClassFile.FieldType.boolean), false, pg_Md_isUnder)
def pg_Md_valueOf : List ny_Op := [ny_o 0 1 (.iload_n 1), ny_o2 1 3 (.sipush 10000) 10000, ny_o 4 1 .isub, ny_o 5 35 (.tableswitch 71 0 4 #[35, 42, 49, 56, 69]), ny_o 40 1 (.aload_n 0), ny_o1 41 3 (.getfield 7) 10 1, ny_o2 44 1 (.iconst 1) 1, ny_o 45 1 .iaload, ny_o 46 1 .ireturn, ny_o 47 1 (.aload_n 0), ny_o 48 1 (.iload_n 2), ny_o2 49 1 (.iconst 1) 1, ny_o 50 3 (.invokevirtual 82), ny_o 53 1 .ireturn, ny_o 54 1 (.aload_n 0), ny_o 55 1 (.iload_n 2), ny_o2 56 1 (.iconst 2) 2, ny_o 57 3 (.invokevirtual 82), ny_o 60 1 .ireturn, ny_o 61 1 (.aload_n 0), ny_o 62 1 (.aload_n 0), ny_o1 63 3 (.getfield 7) 10 1, ny_o2 66 1 (.iconst 1) 1, ny_o 67 1 .iaload, ny_o 68 3 (.invokevirtual 85), ny_o2 71 1 (.iconst 4) 4, ny_o 72 1 .irem, ny_o 73 1 .ireturn, ny_o 74 1 (.iload_n 2), ny_o 75 1 .ireturn, ny_o 76 1 (.iload_n 1), ny_o 77 1 .ireturn]
def m_Md_valueOf : ny_M := (⟨"NymphRotaModel", "valueOf", "(II)I"⟩, prog_13_method_22_code, 3, (Option.some Jvm.ClassFile.FieldType.int), false, pg_Md_valueOf)
def pg_Md_holds : List ny_Op := [ny_o3 0 1 (.lconst 1) 1, ny_o 1 1 (.lstore_n 3), ny_o 2 1 (.aload_n 0), ny_o1 3 3 (.getfield 7) 10 1, ny_o2 6 2 (.bipush 66) 66, ny_o2 8 1 (.iconst 4) 4, ny_o 9 1 (.iload_n 1), ny_o 10 1 .imul, ny_o 11 1 .iadd, ny_o2 12 1 (.iconst 2) 2, ny_o 13 1 .iadd, ny_o 14 1 .iaload, ny_o 15 2 (.istore 5), ny_o 17 2 (.iload 5), ny_o 19 1 (.aload_n 0), ny_o1 20 3 (.getfield 7) 10 1, ny_o2 23 2 (.bipush 66) 66, ny_o2 25 1 (.iconst 4) 4, ny_o 26 1 (.iload_n 1), ny_o 27 1 .imul, ny_o 28 1 .iadd, ny_o2 29 1 (.iconst 3) 3, ny_o 30 1 .iadd, ny_o 31 1 .iaload, ny_o 32 3 (.if_icmp .ge 200), ny_o 35 1 (.aload_n 0), ny_o1 36 3 (.getfield 7) 10 1, ny_o2 39 2 (.bipush 122) 122, ny_o2 41 1 (.iconst 3) 3, ny_o 42 2 (.iload 5), ny_o 44 1 .imul, ny_o 45 1 .iadd, ny_o 46 1 .iaload, ny_o 47 2 (.istore 6), ny_o 49 2 (.iload 6), ny_o2 51 1 (.iconst 3) 3, ny_o 52 3 (.if_icmp .ge 120), ny_o 55 1 (.aload_n 0), ny_o 56 1 (.aload_n 0), ny_o1 57 3 (.getfield 7) 10 1, ny_o2 60 2 (.bipush 122) 122, ny_o2 62 1 (.iconst 3) 3, ny_o 63 2 (.iload 5), ny_o 65 1 .imul, ny_o 66 1 .iadd, ny_o2 67 1 (.iconst 1) 1, ny_o 68 1 .iadd, ny_o 69 1 .iaload, ny_o 70 1 (.iload_n 2), ny_o 71 3 (.invokevirtual 100), ny_o 74 2 (.istore 7), ny_o 76 1 (.aload_n 0), ny_o 77 1 (.aload_n 0), ny_o1 78 3 (.getfield 7) 10 1, ny_o2 81 2 (.bipush 122) 122, ny_o2 83 1 (.iconst 3) 3, ny_o 84 2 (.iload 5), ny_o 86 1 .imul, ny_o 87 1 .iadd, ny_o2 88 1 (.iconst 2) 2, ny_o 89 1 .iadd, ny_o 90 1 .iaload, ny_o 91 1 (.iload_n 2), ny_o 92 3 (.invokevirtual 100), ny_o 95 2 (.istore 8), ny_o 97 2 (.iload 6), ny_o 99 3 (.ifCond .ne 18), ny_o 102 2 (.iload 7), ny_o 104 2 (.iload 8), ny_o 106 3 (.if_icmp .ge 7), ny_o2 109 1 (.iconst 1) 1, ny_o 110 3 (.goto 40), ny_o2 113 1 (.iconst 0) 0, ny_o 114 3 (.goto 36), ny_o 117 2 (.iload 6), ny_o2 119 1 (.iconst 1) 1, ny_o 120 3 (.if_icmp .ne 18), ny_o 123 2 (.iload 7), ny_o 125 2 (.iload 8), ny_o 127 3 (.if_icmp .ne 7), ny_o2 130 1 (.iconst 1) 1, ny_o 131 3 (.goto 19), ny_o2 134 1 (.iconst 0) 0, ny_o 135 3 (.goto 15), ny_o 138 2 (.iload 7), ny_o 140 2 (.iload 8), ny_o 142 3 (.if_icmp .le 7), ny_o2 145 1 (.iconst 1) 1, ny_o 146 3 (.goto 4), ny_o2 149 1 (.iconst 0) 0, ny_o 150 2 (.istore 9), ny_o3 152 3 (.ldc2_w 103) 2, ny_o 155 1 (.lload_n 3), ny_o 156 1 .lmul, ny_o 157 2 (.iload 9), ny_o 159 3 (.ifCond .eq 7), ny_o3 162 1 (.lconst 1) 1, ny_o 163 3 (.goto 4), ny_o3 166 1 (.lconst 0) 0, ny_o 167 1 .ladd, ny_o 168 1 (.lstore_n 3), ny_o 169 3 (.goto 57), ny_o 172 2 (.iload 6), ny_o2 174 1 (.iconst 3) 3, ny_o 175 3 (.if_icmp .ne 10), ny_o 178 1 (.lload_n 3), ny_o3 179 1 (.lconst 1) 1, ny_o 180 1 .lxor, ny_o 181 1 (.lstore_n 3), ny_o 182 3 (.goto 44), ny_o 185 1 (.lload_n 3), ny_o3 186 1 (.lconst 1) 1, ny_o 187 1 .land, ny_o 188 2 (.lstore 7), ny_o 190 1 (.lload_n 3), ny_o3 191 3 (.ldc2_w 103) 2, ny_o 194 1 .ldiv, ny_o 195 1 (.lstore_n 3), ny_o 196 2 (.iload 6), ny_o2 198 1 (.iconst 4) 4, ny_o 199 3 (.if_icmp .eq 10), ny_o 202 1 (.lload_n 3), ny_o 203 2 (.lload 7), ny_o 205 1 .lor, ny_o 206 3 (.goto 19), ny_o 209 2 (.lload 7), ny_o3 211 1 (.lconst 1) 1, ny_o 212 1 .lcmp, ny_o 213 3 (.ifCond .ne 7), ny_o 216 1 (.lload_n 3), ny_o 217 3 (.goto 8), ny_o 220 1 (.lload_n 3), ny_o3 221 3 (.ldc2_w 105) (-2), ny_o 224 1 .land, ny_o 225 1 (.lstore_n 3), ny_o2 226 3 (.iinc 5 1) 1, ny_o 229 3 (.goto (-212)), ny_o 232 1 (.lload_n 3), ny_o3 233 3 (.ldc2_w 103) 2, ny_o 236 1 .lrem, ny_o3 237 1 (.lconst 1) 1, ny_o 238 1 .lcmp, ny_o 239 3 (.ifCond .ne 7), ny_o2 242 1 (.iconst 1) 1, ny_o 243 3 (.goto 4), ny_o2 246 1 (.iconst 0) 0, ny_o 247 1 .ireturn]
def m_Md_holds : ny_M := (⟨"NymphRotaModel", "holds", "(II)Z"⟩, prog_13_method_23_code, 10, (Option.some Jvm.ClassFile.FieldType.boolean), false, pg_Md_holds)
def pg_Md_will : List ny_Op := [ny_o2 0 1 (.iconst 0) 0, ny_o 1 1 (.istore_n 2), ny_o 2 1 (.iload_n 2), ny_o 3 1 (.aload_n 0), ny_o1 4 3 (.getfield 7) 10 1, ny_o2 7 1 (.iconst 5) 5, ny_o 8 1 .iaload, ny_o 9 3 (.if_icmp .ge 55), ny_o 12 1 (.aload_n 0), ny_o 13 1 (.iload_n 1), ny_o2 14 1 (.iconst 0) 0, ny_o 15 3 (.invokevirtual 82), ny_o 18 1 (.aload_n 0), ny_o1 19 3 (.getfield 7) 10 1, ny_o2 22 2 (.bipush 66) 66, ny_o2 24 1 (.iconst 4) 4, ny_o 25 1 (.iload_n 2), ny_o 26 1 .imul, ny_o 27 1 .iadd, ny_o 28 1 .iaload, ny_o 29 3 (.invokestatic 107), ny_o 32 3 (.ifCond .eq 26), ny_o 35 1 (.aload_n 0), ny_o 36 1 (.iload_n 2), ny_o 37 1 (.iload_n 1), ny_o 38 3 (.invokevirtual 111), ny_o 41 3 (.ifCond .eq 17), ny_o 44 1 (.aload_n 0), ny_o1 45 3 (.getfield 7) 10 1, ny_o2 48 2 (.bipush 66) 66, ny_o2 50 1 (.iconst 4) 4, ny_o 51 1 (.iload_n 2), ny_o 52 1 .imul, ny_o 53 1 .iadd, ny_o2 54 1 (.iconst 1) 1, ny_o 55 1 .iadd, ny_o 56 1 .iaload, ny_o 57 1 .ireturn, ny_o2 58 3 (.iinc 2 1) 1, ny_o 61 3 (.goto (-59)), ny_o2 64 1 (.iconst 0) 0, ny_o 65 1 .ireturn]
def m_Md_will : ny_M := (⟨"NymphRotaModel", "will", "(I)I"⟩, prog_13_method_24_code, 3, (Option.some Jvm.ClassFile.FieldType.int), false, pg_Md_will)
def pg_Md_mayBe : List ny_Op := [ny_o 0 1 (.aload_n 0), ny_o 1 1 (.iload_n 1), ny_o 2 3 (.invokevirtual 114), ny_o 5 3 (.ifCond .le 15), ny_o 8 1 (.aload_n 0), ny_o 9 1 (.iload_n 1), ny_o 10 3 (.invokevirtual 117), ny_o 13 3 (.ifCond .ne 7), ny_o2 16 1 (.iconst 1) 1, ny_o 17 3 (.goto 4), ny_o2 20 1 (.iconst 0) 0, ny_o 21 1 .ireturn]
def m_Md_mayBe : ny_M := (⟨"NymphRotaModel", "mayBe", "(I)Z"⟩, prog_13_method_25_code, 2, (Option.some Jvm.ClassFile.FieldType.boolean), false, pg_Md_mayBe)
def pg_Md_figureOf : List ny_Op := [ny_o 0 1 (.aload_n 0), ny_o 1 1 (.iload_n 1), ny_o 2 3 (.invokevirtual 120), ny_o 5 3 (.ifCond .eq 15), ny_o 8 1 (.iload_n 2), ny_o 9 1 .i2l, ny_o3 10 1 (.lconst 0) 0, ny_o3 11 3 (.ldc2_w 69) 9, ny_o 14 3 (.invokestatic 63), ny_o 17 3 (.ifCond .ne 5), ny_o2 20 1 (.iconst (-1)) (-1), ny_o 21 1 .ireturn, ny_o 22 1 (.iload_n 2), ny_o 23 33 (.tableswitch 71 5 9 #[33, 39, 45, 51, 65]), ny_o 56 1 (.aload_n 0), ny_o 57 1 (.iload_n 1), ny_o 58 3 (.invokevirtual 123), ny_o 61 1 .ireturn, ny_o 62 1 (.aload_n 0), ny_o 63 1 (.iload_n 1), ny_o 64 3 (.invokevirtual 126), ny_o 67 1 .ireturn, ny_o 68 1 (.aload_n 0), ny_o 69 1 (.iload_n 1), ny_o 70 3 (.invokevirtual 114), ny_o 73 1 .ireturn, ny_o 74 1 (.aload_n 0), ny_o 75 1 (.iload_n 1), ny_o 76 3 (.invokevirtual 129), ny_o 79 3 (.ifCond .eq 7), ny_o2 82 1 (.iconst 1) 1, ny_o 83 3 (.goto 4), ny_o2 86 1 (.iconst 0) 0, ny_o 87 1 .ireturn, ny_o 88 1 (.aload_n 0), ny_o 89 1 (.iload_n 1), ny_o 90 3 (.invokevirtual 117), ny_o 93 1 .ireturn, ny_o 94 1 (.aload_n 0), ny_o 95 1 (.iload_n 1), ny_o 96 1 (.iload_n 2), ny_o 97 3 (.invokevirtual 82), ny_o 100 1 .ireturn]
def m_Md_figureOf : ny_M := (⟨"NymphRotaModel", "figureOf", "(II)I"⟩, prog_13_method_26_code, 3, (Option.some Jvm.ClassFile.FieldType.int), false, pg_Md_figureOf)
def pg_Md_greatestOf : List ny_Op := [ny_o 0 1 (.iload_n 0), ny_o2 1 1 (.iconst 1) 1, ny_o 2 3 (.if_icmp .ne 8), ny_o2 5 2 (.bipush 99) 99, ny_o 7 3 (.goto 23), ny_o 10 1 (.iload_n 0), ny_o2 11 1 (.iconst 2) 2, ny_o 12 3 (.if_icmp .ne 8), ny_o2 15 2 (.bipush 9) 9, ny_o 17 3 (.goto 13), ny_o 20 1 (.iload_n 0), ny_o2 21 1 (.iconst 3) 3, ny_o 22 3 (.if_icmp .ne 7), ny_o2 25 1 (.iconst 5) 5, ny_o 26 3 (.goto 4), ny_o2 29 1 (.iconst 1) 1, ny_o 30 1 .ireturn]
def m_Md_greatestOf : ny_M := (⟨"NymphRotaModel", "greatestOf", "(I)I"⟩, prog_13_method_27_code, 1, (Option.some Jvm.ClassFile.FieldType.int), false, pg_Md_greatestOf)
def pg_Md_change : List ny_Op := [ny_o 0 1 (.aload_n 0), ny_o 1 1 (.iload_n 1), ny_o 2 3 (.invokevirtual 120), ny_o 5 3 (.ifCond .eq 33), ny_o 8 1 (.iload_n 2), ny_o 9 1 .i2l, ny_o3 10 1 (.lconst 1) 1, ny_o3 11 3 (.ldc2_w 132) 4, ny_o 14 3 (.invokestatic 63), ny_o 17 3 (.ifCond .eq 21), ny_o 20 1 (.iload_n 3), ny_o 21 1 .i2l, ny_o3 22 1 (.lconst 0) 0, ny_o 23 1 (.iload_n 2), ny_o 24 3 (.invokestatic 134), ny_o 27 1 .i2l, ny_o 28 3 (.invokestatic 63), ny_o 31 3 (.ifCond .eq 7), ny_o2 34 1 (.iconst 1) 1, ny_o 35 3 (.goto 4), ny_o2 38 1 (.iconst 0) 0, ny_o 39 2 (.istore 4), ny_o 41 2 (.iload 4), ny_o 43 3 (.ifCond .eq 19), ny_o 46 1 (.aload_n 0), ny_o2 47 2 (.bipush 8) 8, ny_o2 49 1 (.iconst 5) 5, ny_o 50 1 (.iload_n 1), ny_o 51 1 .imul, ny_o 52 1 .iadd, ny_o 53 1 (.iload_n 2), ny_o 54 1 .iadd, ny_o 55 1 (.iload_n 3), ny_o 56 3 (.invokevirtual 137), ny_o 59 3 (.goto 4), ny_o2 62 1 (.iconst (-1)) (-1), ny_o 63 1 .ireturn]
def m_Md_change : ny_M := (⟨"NymphRotaModel", "change", "(III)I"⟩, prog_13_method_28_code, 5, (Option.some Jvm.ClassFile.FieldType.int), false, pg_Md_change)
def pg_Md_remake : List ny_Op := [ny_o 0 1 (.aload_n 0), ny_o 1 1 (.iload_n 1), ny_o 2 3 (.invokevirtual 120), ny_o 5 3 (.ifCond .eq 29), ny_o 8 1 (.iload_n 2), ny_o 9 1 .i2l, ny_o3 10 1 (.lconst 1) 1, ny_o3 11 3 (.ldc2_w 61) 5, ny_o 14 3 (.invokestatic 63), ny_o 17 3 (.ifCond .eq 17), ny_o 20 1 (.aload_n 0), ny_o2 21 2 (.bipush 8) 8, ny_o2 23 1 (.iconst 5) 5, ny_o 24 1 (.iload_n 1), ny_o 25 1 .imul, ny_o 26 1 .iadd, ny_o 27 1 (.iload_n 2), ny_o 28 3 (.invokevirtual 137), ny_o 31 3 (.goto 4), ny_o2 34 1 (.iconst (-1)) (-1), ny_o 35 1 .ireturn]
def m_Md_remake : ny_M := (⟨"NymphRotaModel", "remake", "(II)I"⟩, prog_13_method_29_code, 3, (Option.some Jvm.ClassFile.FieldType.int), false, pg_Md_remake)
def pg_Md_weather : List ny_Op := [ny_o 0 1 (.iload_n 1), ny_o 1 1 .i2l, ny_o3 2 1 (.lconst 0) 0, ny_o3 3 3 (.ldc2_w 140) 15, ny_o 6 3 (.invokestatic 63), ny_o 9 3 (.ifCond .eq 27), ny_o 12 1 (.iload_n 2), ny_o 13 1 .i2l, ny_o3 14 1 (.lconst 0) 0, ny_o3 15 3 (.ldc2_w 140) 15, ny_o 18 3 (.invokestatic 63), ny_o 21 3 (.ifCond .eq 15), ny_o 24 1 (.aload_n 0), ny_o2 25 2 (.bipush 50) 50, ny_o 27 1 (.iload_n 1), ny_o 28 1 .iadd, ny_o 29 1 (.iload_n 2), ny_o 30 3 (.invokevirtual 137), ny_o 33 3 (.goto 4), ny_o2 36 1 (.iconst (-1)) (-1), ny_o 37 1 .ireturn]
def m_Md_weather : ny_M := (⟨"NymphRotaModel", "weather", "(II)I"⟩, prog_13_method_30_code, 3, (Option.some Jvm.ClassFile.FieldType.int), false, pg_Md_weather)
def pg_Md_niche : List ny_Op := [ny_o 0 1 (.iload_n 1), ny_o 1 3 (.invokestatic 71), ny_o 4 3 (.ifCond .eq 25), ny_o 7 1 (.iload_n 2), ny_o 8 1 .i2l, ny_o3 9 1 (.lconst 0) 0, ny_o3 10 1 (.lconst 1) 1, ny_o 11 3 (.invokestatic 63), ny_o 14 3 (.ifCond .eq 15), ny_o 17 1 (.iload_n 3), ny_o 18 1 .i2l, ny_o3 19 1 (.lconst 0) 0, ny_o3 20 3 (.ldc2_w 69) 9, ny_o 23 3 (.invokestatic 63), ny_o 26 3 (.ifCond .ne 5), ny_o2 29 1 (.iconst (-1)) (-1), ny_o 30 1 .ireturn, ny_o 31 1 (.aload_n 0), ny_o 32 1 (.iload_n 2), ny_o 33 3 (.ifCond .ne 8), ny_o2 36 2 (.bipush 38) 38, ny_o 38 3 (.goto 5), ny_o2 41 2 (.bipush 44) 44, ny_o 43 1 (.iload_n 1), ny_o 44 1 .iadd, ny_o 45 1 (.iload_n 3), ny_o 46 3 (.invokevirtual 137), ny_o 49 1 .ireturn]
def m_Md_niche : ny_M := (⟨"NymphRotaModel", "niche", "(III)I"⟩, prog_13_method_31_code, 4, (Option.some Jvm.ClassFile.FieldType.int), false, pg_Md_niche)
def pg_Md_nicheOf : List ny_Op := [ny_o 0 1 (.iload_n 1), ny_o 1 3 (.invokestatic 71), ny_o 4 3 (.ifCond .eq 13), ny_o 7 1 (.iload_n 2), ny_o 8 1 .i2l, ny_o3 9 1 (.lconst 0) 0, ny_o3 10 1 (.lconst 1) 1, ny_o 11 3 (.invokestatic 63), ny_o 14 3 (.ifCond .ne 5), ny_o2 17 1 (.iconst (-1)) (-1), ny_o 18 1 .ireturn, ny_o 19 1 (.aload_n 0), ny_o1 20 3 (.getfield 7) 10 1, ny_o 23 1 (.iload_n 2), ny_o 24 3 (.ifCond .ne 8), ny_o2 27 2 (.bipush 38) 38, ny_o 29 3 (.goto 5), ny_o2 32 2 (.bipush 44) 44, ny_o 34 1 (.iload_n 1), ny_o 35 1 .iadd, ny_o 36 1 .iaload, ny_o 37 1 .ireturn]
def m_Md_nicheOf : ny_M := (⟨"NymphRotaModel", "nicheOf", "(II)I"⟩, prog_13_method_32_code, 3, (Option.some Jvm.ClassFile.FieldType.int), false, pg_Md_nicheOf)
def pg_Md_ends : List ny_Op := [ny_o 0 1 (.iload_n 1), ny_o 1 1 .i2l, ny_o3 2 1 (.lconst 1) 1, ny_o3 3 3 (.ldc2_w 142) 16, ny_o 6 3 (.invokestatic 63), ny_o 9 3 (.ifCond .ne 5), ny_o2 12 1 (.iconst (-1)) (-1), ny_o 13 1 .ireturn, ny_o 14 1 (.iload_n 1), ny_o 15 1 (.aload_n 0), ny_o1 16 3 (.getfield 7) 10 1, ny_o2 19 1 (.iconst 1) 1, ny_o 20 1 .iaload, ny_o 21 3 (.if_icmp .ge 8), ny_o2 24 2 (.bipush (-4)) (-4), ny_o 26 3 (.goto 9), ny_o 29 1 (.aload_n 0), ny_o2 30 1 (.iconst 2) 2, ny_o 31 1 (.iload_n 1), ny_o 32 3 (.invokevirtual 137), ny_o 35 1 .ireturn]
def m_Md_ends : ny_M := (⟨"NymphRotaModel", "ends", "(I)I"⟩, prog_13_method_33_code, 2, (Option.some Jvm.ClassFile.FieldType.int), false, pg_Md_ends)
def pg_Md_anew : List ny_Op := [ny_o2 0 1 (.iconst 0) 0, ny_o 1 1 (.istore_n 1), ny_o 2 1 (.iload_n 1), ny_o 3 1 (.aload_n 0), ny_o1 4 3 (.getfield 7) 10 1, ny_o2 7 1 (.iconst 0) 0, ny_o 8 1 .iaload, ny_o 9 3 (.if_icmp .ge 37), ny_o 12 1 (.aload_n 0), ny_o1 13 3 (.getfield 7) 10 1, ny_o2 16 2 (.bipush 8) 8, ny_o2 18 1 (.iconst 5) 5, ny_o 19 1 (.iload_n 1), ny_o 20 1 .imul, ny_o 21 1 .iadd, ny_o2 22 1 (.iconst 1) 1, ny_o 23 1 .iadd, ny_o2 24 1 (.iconst 0) 0, ny_o 25 1 .iastore, ny_o 26 1 (.aload_n 0), ny_o1 27 3 (.getfield 7) 10 1, ny_o2 30 2 (.bipush 8) 8, ny_o2 32 1 (.iconst 5) 5, ny_o 33 1 (.iload_n 1), ny_o 34 1 .imul, ny_o 35 1 .iadd, ny_o2 36 1 (.iconst 4) 4, ny_o 37 1 .iadd, ny_o2 38 1 (.iconst 0) 0, ny_o 39 1 .iastore, ny_o2 40 3 (.iinc 1 1) 1, ny_o 43 3 (.goto (-41)), ny_o 46 1 (.aload_n 0), ny_o1 47 3 (.getfield 7) 10 1, ny_o2 50 1 (.iconst 3) 3, ny_o2 51 1 (.iconst 0) 0, ny_o 52 1 .iastore, ny_o 53 1 (.aload_n 0), ny_o2 54 1 (.iconst 1) 1, ny_o2 55 1 (.iconst 0) 0, ny_o 56 3 (.invokevirtual 137), ny_o 59 1 .ireturn]
def m_Md_anew : ny_M := (⟨"NymphRotaModel", "anew", "()I"⟩, prog_13_method_34_code, 2, (Option.some Jvm.ClassFile.FieldType.int), false, pg_Md_anew)
def pg_Md_relievedOnes : List ny_Op := [ny_o2 0 1 (.iconst 0) 0, ny_o 1 1 (.istore_n 1), ny_o2 2 1 (.iconst 0) 0, ny_o 3 1 (.istore_n 2), ny_o 4 1 (.iload_n 2), ny_o 5 1 (.aload_n 0), ny_o1 6 3 (.getfield 7) 10 1, ny_o2 9 1 (.iconst 0) 0, ny_o 10 1 .iaload, ny_o 11 3 (.if_icmp .ge 20), ny_o 14 1 (.iload_n 1), ny_o 15 1 (.aload_n 0), ny_o 16 1 (.iload_n 2), ny_o2 17 1 (.iconst 4) 4, ny_o 18 3 (.invokevirtual 82), ny_o 21 1 (.iload_n 2), ny_o 22 1 .ishl, ny_o 23 1 .ior, ny_o 24 1 (.istore_n 1), ny_o2 25 3 (.iinc 2 1) 1, ny_o 28 3 (.goto (-24)), ny_o 31 1 (.iload_n 1), ny_o 32 1 .ireturn]
def m_Md_relievedOnes : ny_M := (⟨"NymphRotaModel", "relievedOnes", "()I"⟩, prog_13_method_35_code, 3, (Option.some Jvm.ClassFile.FieldType.int), false, pg_Md_relievedOnes)
def pg_Md_thoseUp : List ny_Op := [ny_o2 0 1 (.iconst 0) 0, ny_o 1 1 (.istore_n 1), ny_o2 2 1 (.iconst 0) 0, ny_o 3 1 (.istore_n 2), ny_o 4 1 (.iload_n 2), ny_o 5 1 (.aload_n 0), ny_o1 6 3 (.getfield 7) 10 1, ny_o2 9 1 (.iconst 0) 0, ny_o 10 1 .iaload, ny_o 11 3 (.if_icmp .ge 27), ny_o 14 1 (.iload_n 1), ny_o 15 1 (.aload_n 0), ny_o 16 1 (.iload_n 2), ny_o 17 3 (.invokevirtual 93), ny_o 20 3 (.ifCond .eq 9), ny_o2 23 1 (.iconst 1) 1, ny_o 24 1 (.iload_n 2), ny_o 25 1 .ishl, ny_o 26 3 (.goto 4), ny_o2 29 1 (.iconst 0) 0, ny_o 30 1 .ior, ny_o 31 1 (.istore_n 1), ny_o2 32 3 (.iinc 2 1) 1, ny_o 35 3 (.goto (-31)), ny_o 38 1 (.iload_n 1), ny_o 39 1 .ireturn]
def m_Md_thoseUp : ny_M := (⟨"NymphRotaModel", "thoseUp", "()I"⟩, prog_13_method_36_code, 3, (Option.some Jvm.ClassFile.FieldType.int), false, pg_Md_thoseUp)
def pg_Md_state : List ny_Op := [ny_o 0 1 (.iload_n 1), ny_o 1 43 (.tableswitch 86 0 6 #[43, 43, 43, 52, 65, 70, 81]), ny_o 44 1 (.aload_n 0), ny_o1 45 3 (.getfield 7) 10 1, ny_o2 48 1 (.iconst 1) 1, ny_o 49 1 (.iload_n 1), ny_o 50 1 .iadd, ny_o 51 1 .iaload, ny_o 52 1 .ireturn, ny_o 53 1 (.aload_n 0), ny_o 54 3 (.invokevirtual 144), ny_o 57 3 (.ifCond .eq 7), ny_o2 60 1 (.iconst 1) 1, ny_o 61 3 (.goto 4), ny_o2 64 1 (.iconst 0) 0, ny_o 65 1 .ireturn, ny_o 66 1 (.aload_n 0), ny_o 67 3 (.invokevirtual 148), ny_o 70 1 .ireturn, ny_o 71 1 (.aload_n 0), ny_o 72 1 (.aload_n 0), ny_o1 73 3 (.getfield 7) 10 1, ny_o2 76 1 (.iconst 1) 1, ny_o 77 1 .iaload, ny_o 78 3 (.invokevirtual 85), ny_o 81 1 .ireturn, ny_o 82 1 (.aload_n 0), ny_o 83 3 (.invokevirtual 152), ny_o 86 1 .ireturn, ny_o2 87 1 (.iconst (-1)) (-1), ny_o 88 1 .ireturn]
def m_Md_state : ny_M := (⟨"NymphRotaModel", "state", "(I)I"⟩, prog_13_method_37_code, 2, (Option.some Jvm.ClassFile.FieldType.int), false, pg_Md_state)
def pg_Md_feed : List ny_Op := [ny_o 0 1 (.iload_n 3), ny_o 1 1 .i2l, ny_o3 2 1 (.lconst 1) 1, ny_o3 3 3 (.ldc2_w 155) 8, ny_o 6 3 (.invokestatic 63), ny_o 9 3 (.ifCond .ne 5), ny_o2 12 1 (.iconst (-1)) (-1), ny_o 13 1 .ireturn, ny_o 14 1 (.aload_n 0), ny_o1 15 3 (.getfield 157) 10 15, ny_o 18 1 (.iload_n 3), ny_o 19 1 .iadd, ny_o2 20 3 (.sipush 200) 200, ny_o 23 3 (.if_icmp .le 6), ny_o2 26 2 (.bipush (-2)) (-2), ny_o 28 1 .ireturn, ny_o2 29 1 (.iconst 0) 0, ny_o 30 2 (.istore 4), ny_o 32 2 (.iload 4), ny_o 34 1 (.iload_n 3), ny_o 35 3 (.if_icmp .ge 40), ny_o 38 1 (.aload_n 0), ny_o1 39 3 (.getfield 19) 10 13, ny_o 42 1 (.aload_n 0), ny_o1 43 3 (.getfield 157) 10 15, ny_o 46 1 (.lload_n 1), ny_o2 47 2 (.bipush 8) 8, ny_o 49 2 (.iload 4), ny_o 51 1 .imul, ny_o 52 1 .lshr, ny_o3 53 3 (.ldc2_w 161) 255, ny_o 56 1 .land, ny_o 57 1 .l2i, ny_o 58 1 .iastore, ny_o 59 1 (.aload_n 0), ny_o 60 1 .dup, ny_o1 61 3 (.getfield 157) 10 15, ny_o2 64 1 (.iconst 1) 1, ny_o 65 1 .iadd, ny_o1 66 3 (.putfield 157) 10 15, ny_o2 69 3 (.iinc 4 1) 1, ny_o 72 3 (.goto (-40)), ny_o 75 1 (.aload_n 0), ny_o1 76 3 (.getfield 157) 10 15, ny_o 79 1 .ireturn]
def m_Md_feed : ny_M := (⟨"NymphRotaModel", "feed", "(JI)I"⟩, prog_13_method_38_code, 5, (Option.some Jvm.ClassFile.FieldType.int), false, pg_Md_feed)
def pg_Md_isAlpha : List ny_Op := [ny_o 0 1 (.iload_n 0), ny_o2 1 2 (.bipush 97) 97, ny_o 3 3 (.if_icmp .lt 13), ny_o 6 1 (.iload_n 0), ny_o2 7 2 (.bipush 122) 122, ny_o 9 3 (.if_icmp .gt 7), ny_o2 12 1 (.iconst 1) 1, ny_o 13 3 (.goto 4), ny_o2 16 1 (.iconst 0) 0, ny_o 17 1 .ireturn]
def m_Md_isAlpha : ny_M := (⟨"NymphRotaModel", "isAlpha", "(I)Z"⟩, prog_13_method_39_code, 1, (Option.some Jvm.ClassFile.FieldType.boolean), false, pg_Md_isAlpha)
def pg_Md_isDigit : List ny_Op := [ny_o 0 1 (.iload_n 0), ny_o2 1 2 (.bipush 48) 48, ny_o 3 3 (.if_icmp .lt 13), ny_o 6 1 (.iload_n 0), ny_o2 7 2 (.bipush 57) 57, ny_o 9 3 (.if_icmp .gt 7), ny_o2 12 1 (.iconst 1) 1, ny_o 13 3 (.goto 4), ny_o2 16 1 (.iconst 0) 0, ny_o 17 1 .ireturn]
def m_Md_isDigit : ny_M := (⟨"NymphRotaModel", "isDigit", "(I)Z"⟩, prog_13_method_40_code, 1, (Option.some Jvm.ClassFile.FieldType.boolean), false, pg_Md_isDigit)
def pg_Md_byteAt : List ny_Op := [ny_o 0 1 (.iload_n 1), ny_o 1 1 (.aload_n 0), ny_o1 2 3 (.getfield 157) 10 15, ny_o 5 3 (.if_icmp .ge 12), ny_o 8 1 (.aload_n 0), ny_o1 9 3 (.getfield 19) 10 13, ny_o 12 1 (.iload_n 1), ny_o 13 1 .iaload, ny_o 14 3 (.goto 4), ny_o2 17 1 (.iconst (-1)) (-1), ny_o 18 1 .ireturn]
def m_Md_byteAt : ny_M := (⟨"NymphRotaModel", "byteAt", "(I)I"⟩, prog_13_method_41_code, 2, (Option.some Jvm.ClassFile.FieldType.int), false, pg_Md_byteAt)
def pg_Md_nextToken : List ny_Op := [ny_o 0 1 (.aload_n 0), ny_o 1 1 (.aload_n 0), ny_o1 2 3 (.getfield 163) 10 24, ny_o1 5 3 (.putfield 166) 10 21, ny_o 8 1 (.aload_n 0), ny_o 9 1 (.aload_n 0), ny_o1 10 3 (.getfield 166) 10 21, ny_o 13 3 (.invokevirtual 169), ny_o2 16 2 (.bipush 32) 32, ny_o 18 3 (.if_icmp .ne 16), ny_o 21 1 (.aload_n 0), ny_o 22 1 .dup, ny_o1 23 3 (.getfield 166) 10 21, ny_o2 26 1 (.iconst 1) 1, ny_o 27 1 .iadd, ny_o1 28 3 (.putfield 166) 10 21, ny_o 31 3 (.goto (-23)), ny_o 34 1 (.aload_n 0), ny_o 35 1 (.aload_n 0), ny_o1 36 3 (.getfield 166) 10 21, ny_o1 39 3 (.putfield 163) 10 24, ny_o 42 1 (.aload_n 0), ny_o 43 1 (.aload_n 0), ny_o1 44 3 (.getfield 166) 10 21, ny_o 47 3 (.invokevirtual 169), ny_o 50 1 (.istore_n 1), ny_o 51 1 (.aload_n 0), ny_o 52 1 (.iload_n 1), ny_o 53 3 (.ifCond .ge 7), ny_o2 56 1 (.iconst 0) 0, ny_o 57 3 (.goto 26), ny_o 60 1 (.iload_n 1), ny_o 61 3 (.invokestatic 172), ny_o 64 3 (.ifCond .eq 7), ny_o2 67 1 (.iconst 1) 1, ny_o 68 3 (.goto 15), ny_o 71 1 (.iload_n 1), ny_o 72 3 (.invokestatic 175), ny_o 75 3 (.ifCond .eq 7), ny_o2 78 1 (.iconst 2) 2, ny_o 79 3 (.goto 4), ny_o2 82 1 (.iconst 3) 3, ny_o1 83 3 (.putfield 178) 10 18, ny_o 86 1 (.aload_n 0), ny_o2 87 1 (.iconst 0) 0, ny_o1 88 3 (.putfield 181) 10 27, ny_o 91 1 (.aload_n 0), ny_o1 92 3 (.getfield 178) 10 18, ny_o2 95 1 (.iconst 1) 1, ny_o 96 3 (.if_icmp .ne 30), ny_o 99 1 (.aload_n 0), ny_o 100 1 (.aload_n 0), ny_o1 101 3 (.getfield 163) 10 24, ny_o 104 3 (.invokevirtual 169), ny_o 107 3 (.invokestatic 172), ny_o 110 3 (.ifCond .eq 16), ny_o 113 1 (.aload_n 0), ny_o 114 1 .dup, ny_o1 115 3 (.getfield 163) 10 24, ny_o2 118 1 (.iconst 1) 1, ny_o 119 1 .iadd, ny_o1 120 3 (.putfield 163) 10 24, ny_o 123 3 (.goto (-32)), ny_o 126 1 (.aload_n 0), ny_o1 127 3 (.getfield 178) 10 18, ny_o2 130 1 (.iconst 2) 2, ny_o 131 3 (.if_icmp .ne 70), ny_o 134 1 (.aload_n 0), ny_o 135 1 (.aload_n 0), ny_o1 136 3 (.getfield 163) 10 24, ny_o 139 3 (.invokevirtual 169), ny_o 142 3 (.invokestatic 175), ny_o 145 3 (.ifCond .eq 56), ny_o 148 1 (.aload_n 0), ny_o 149 1 (.aload_n 0), ny_o1 150 3 (.getfield 181) 10 27, ny_o2 153 3 (.sipush 9999) 9999, ny_o 156 3 (.if_icmp .le 10), ny_o 159 1 (.aload_n 0), ny_o1 160 3 (.getfield 181) 10 27, ny_o 163 3 (.goto 22), ny_o2 166 2 (.bipush 10) 10, ny_o 168 1 (.aload_n 0), ny_o1 169 3 (.getfield 181) 10 27, ny_o 172 1 .imul, ny_o 173 1 (.aload_n 0), ny_o 174 1 (.aload_n 0), ny_o1 175 3 (.getfield 163) 10 24, ny_o 178 3 (.invokevirtual 169), ny_o 181 1 .iadd, ny_o2 182 2 (.bipush 48) 48, ny_o 184 1 .isub, ny_o1 185 3 (.putfield 181) 10 27, ny_o 188 1 (.aload_n 0), ny_o 189 1 .dup, ny_o1 190 3 (.getfield 163) 10 24, ny_o2 193 1 (.iconst 1) 1, ny_o 194 1 .iadd, ny_o1 195 3 (.putfield 163) 10 24, ny_o 198 3 (.goto (-72)), ny_o 201 1 (.aload_n 0), ny_o 202 1 .dup, ny_o1 203 3 (.getfield 163) 10 24, ny_o 206 1 (.aload_n 0), ny_o1 207 3 (.getfield 178) 10 18, ny_o2 210 1 (.iconst 2) 2, ny_o 211 3 (.if_icmp .le 7), ny_o2 214 1 (.iconst 1) 1, ny_o 215 3 (.goto 4), ny_o2 218 1 (.iconst 0) 0, ny_o 219 1 .iadd, ny_o1 220 3 (.putfield 163) 10 24, ny_o 223 1 .return_]
def m_Md_nextToken : ny_M := (⟨"NymphRotaModel", "nextToken", "()V"⟩, prog_13_method_42_code, 2, none, false, pg_Md_nextToken)
def pg_Md_needs : List ny_Op := [ny_o 0 1 (.aload_n 0), ny_o 1 1 (.aload_n 0), ny_o1 2 3 (.getfield 184) 10 32, ny_o 5 3 (.ifCond .ne 7), ny_o 8 1 (.iload_n 1), ny_o 9 3 (.ifCond .ne 7), ny_o2 12 1 (.iconst 1) 1, ny_o 13 3 (.goto 4), ny_o2 16 1 (.iconst 0) 0, ny_o1 17 3 (.putfield 184) 10 32, ny_o 20 1 (.aload_n 0), ny_o1 21 3 (.getfield 184) 10 32, ny_o 24 3 (.ifCond .ne 7), ny_o 27 1 (.aload_n 0), ny_o 28 3 (.invokevirtual 188), ny_o 31 1 .return_]
def m_Md_needs : ny_M := (⟨"NymphRotaModel", "needs", "(Z)V"⟩, prog_13_method_43_code, 2, none, false, pg_Md_needs)
def pg_Md_isByte : List ny_Op := [ny_o 0 1 (.aload_n 0), ny_o1 1 3 (.getfield 178) 10 18, ny_o2 4 1 (.iconst 3) 3, ny_o 5 3 (.if_icmp .ne 19), ny_o 8 1 (.aload_n 0), ny_o 9 1 (.aload_n 0), ny_o1 10 3 (.getfield 166) 10 21, ny_o 13 3 (.invokevirtual 169), ny_o 16 1 (.iload_n 1), ny_o 17 3 (.if_icmp .ne 7), ny_o2 20 1 (.iconst 1) 1, ny_o 21 3 (.goto 4), ny_o2 24 1 (.iconst 0) 0, ny_o 25 1 .ireturn]
def m_Md_isByte : ny_M := (⟨"NymphRotaModel", "isByte", "(I)Z"⟩, prog_13_method_44_code, 2, (Option.some Jvm.ClassFile.FieldType.boolean), false, pg_Md_isByte)
def pg_Md_isName : List ny_Op := [ny_o 0 1 (.aload_n 0), ny_o1 1 3 (.getfield 178) 10 18, ny_o2 4 1 (.iconst 1) 1, ny_o 5 3 (.if_icmp .ne 76), ny_o 8 1 (.aload_n 0), ny_o1 9 3 (.getfield 163) 10 24, ny_o 12 1 (.aload_n 0), ny_o1 13 3 (.getfield 166) 10 21, ny_o 16 1 .isub, ny_o 17 1 (.iload_n 1), ny_o 18 3 (.if_icmp .ne 63), ny_o 21 1 (.aload_n 0), ny_o 22 1 (.aload_n 0), ny_o1 23 3 (.getfield 166) 10 21, ny_o 26 3 (.invokevirtual 169), ny_o 29 1 (.iload_n 2), ny_o 30 3 (.if_icmp .ne 51), ny_o 33 1 (.aload_n 0), ny_o 34 1 (.aload_n 0), ny_o1 35 3 (.getfield 166) 10 21, ny_o2 38 1 (.iconst 1) 1, ny_o 39 1 .iadd, ny_o 40 3 (.invokevirtual 169), ny_o 43 1 (.iload_n 3), ny_o 44 3 (.if_icmp .ne 37), ny_o 47 1 (.aload_n 0), ny_o 48 1 (.aload_n 0), ny_o1 49 3 (.getfield 166) 10 21, ny_o2 52 1 (.iconst 2) 2, ny_o 53 1 .iadd, ny_o 54 3 (.invokevirtual 169), ny_o 57 2 (.iload 4), ny_o 59 3 (.if_icmp .ne 22), ny_o 62 1 (.aload_n 0), ny_o 63 1 (.aload_n 0), ny_o1 64 3 (.getfield 163) 10 24, ny_o2 67 1 (.iconst 1) 1, ny_o 68 1 .isub, ny_o 69 3 (.invokevirtual 169), ny_o 72 2 (.iload 5), ny_o 74 3 (.if_icmp .ne 7), ny_o2 77 1 (.iconst 1) 1, ny_o 78 3 (.goto 4), ny_o2 81 1 (.iconst 0) 0, ny_o 82 1 .ireturn]
def m_Md_isName : ny_M := (⟨"NymphRotaModel", "isName", "(IIIII)Z"⟩, prog_13_method_45_code, 6, (Option.some Jvm.ClassFile.FieldType.boolean), false, pg_Md_isName)
def pg_Md_isSame : List ny_Op := [ny_o 0 1 (.aload_n 0), ny_o 1 1 (.aload_n 0), ny_o1 2 3 (.getfield 166) 10 21, ny_o 5 1 (.iload_n 1), ny_o 6 1 .iadd, ny_o 7 3 (.invokevirtual 169), ny_o 10 1 (.iload_n 2), ny_o 11 3 (.if_icmp .ne 40), ny_o 14 1 (.aload_n 0), ny_o 15 1 (.aload_n 0), ny_o1 16 3 (.getfield 166) 10 21, ny_o 19 1 (.iload_n 1), ny_o 20 1 .iadd, ny_o2 21 1 (.iconst 1) 1, ny_o 22 1 .iadd, ny_o 23 3 (.invokevirtual 169), ny_o 26 1 (.iload_n 3), ny_o 27 3 (.if_icmp .ne 24), ny_o 30 1 (.aload_n 0), ny_o 31 1 (.aload_n 0), ny_o1 32 3 (.getfield 166) 10 21, ny_o 35 1 (.iload_n 1), ny_o 36 1 .iadd, ny_o2 37 1 (.iconst 2) 2, ny_o 38 1 .iadd, ny_o 39 3 (.invokevirtual 169), ny_o 42 2 (.iload 4), ny_o 44 3 (.if_icmp .ne 7), ny_o2 47 1 (.iconst 1) 1, ny_o 48 3 (.goto 4), ny_o2 51 1 (.iconst 0) 0, ny_o 52 1 .ireturn]
def m_Md_isSame : ny_M := (⟨"NymphRotaModel", "isSame", "(IIII)Z"⟩, prog_13_method_46_code, 5, (Option.some Jvm.ClassFile.FieldType.boolean), false, pg_Md_isSame)
def pg_Md_kindHere : List ny_Op := [ny_o 0 1 (.aload_n 0), ny_o2 1 2 (.bipush 6) 6, ny_o2 3 2 (.bipush 102) 102, ny_o2 5 2 (.bipush 105) 105, ny_o2 7 2 (.bipush 103) 103, ny_o2 9 2 (.bipush 101) 101, ny_o 11 3 (.invokevirtual 191), ny_o 14 3 (.ifCond .eq 19), ny_o 17 1 (.aload_n 0), ny_o2 18 1 (.iconst 3) 3, ny_o2 19 2 (.bipush 117) 117, ny_o2 21 2 (.bipush 114) 114, ny_o2 23 2 (.bipush 101) 101, ny_o 25 3 (.invokevirtual 195), ny_o 28 3 (.ifCond .eq 5), ny_o2 31 1 (.iconst 0) 0, ny_o 32 1 .ireturn, ny_o 33 1 (.aload_n 0), ny_o2 34 2 (.bipush 6) 6, ny_o2 36 2 (.bipush 109) 109, ny_o2 38 2 (.bipush 97) 97, ny_o2 40 2 (.bipush 114) 114, ny_o2 42 2 (.bipush 101) 101, ny_o 44 3 (.invokevirtual 191), ny_o 47 3 (.ifCond .eq 19), ny_o 50 1 (.aload_n 0), ny_o2 51 1 (.iconst 3) 3, ny_o2 52 2 (.bipush 98) 98, ny_o2 54 2 (.bipush 108) 108, ny_o2 56 2 (.bipush 101) 101, ny_o 58 3 (.invokevirtual 195), ny_o 61 3 (.ifCond .eq 5), ny_o2 64 1 (.iconst 1) 1, ny_o 65 1 .ireturn, ny_o 66 1 (.aload_n 0), ny_o2 67 1 (.iconst 4) 4, ny_o2 68 2 (.bipush 103) 103, ny_o2 70 2 (.bipush 105) 105, ny_o2 72 2 (.bipush 114) 114, ny_o2 74 2 (.bipush 108) 108, ny_o 76 3 (.invokevirtual 191), ny_o 79 3 (.ifCond .eq 5), ny_o2 82 1 (.iconst 2) 2, ny_o 83 1 .ireturn, ny_o 84 1 (.aload_n 0), ny_o2 85 2 (.bipush 6) 6, ny_o2 87 2 (.bipush 109) 109, ny_o2 89 2 (.bipush 97) 97, ny_o2 91 2 (.bipush 116) 116, ny_o2 93 2 (.bipush 110) 110, ny_o 95 3 (.invokevirtual 191), ny_o 98 3 (.ifCond .eq 19), ny_o 101 1 (.aload_n 0), ny_o2 102 1 (.iconst 3) 3, ny_o2 103 2 (.bipush 114) 114, ny_o2 105 2 (.bipush 111) 111, ny_o2 107 2 (.bipush 110) 110, ny_o 109 3 (.invokevirtual 195), ny_o 112 3 (.ifCond .eq 5), ny_o2 115 1 (.iconst 3) 3, ny_o 116 1 .ireturn, ny_o 117 1 (.aload_n 0), ny_o2 118 2 (.bipush 6) 6, ny_o2 120 2 (.bipush 110) 110, ny_o2 122 2 (.bipush 111) 111, ny_o2 124 2 (.bipush 118) 118, ny_o2 126 2 (.bipush 101) 101, ny_o 128 3 (.invokevirtual 191), ny_o 131 3 (.ifCond .eq 19), ny_o 134 1 (.aload_n 0), ny_o2 135 1 (.iconst 3) 3, ny_o2 136 2 (.bipush 105) 105, ny_o2 138 2 (.bipush 99) 99, ny_o2 140 2 (.bipush 101) 101, ny_o 142 3 (.invokevirtual 195), ny_o 145 3 (.ifCond .eq 5), ny_o2 148 1 (.iconst 4) 4, ny_o 149 1 .ireturn, ny_o 150 1 (.aload_n 0), ny_o2 151 2 (.bipush 7) 7, ny_o2 153 2 (.bipush 100) 100, ny_o2 155 2 (.bipush 114) 114, ny_o2 157 2 (.bipush 101) 101, ny_o2 159 2 (.bipush 114) 114, ny_o 161 3 (.invokevirtual 191), ny_o 164 3 (.ifCond .eq 21), ny_o 167 1 (.aload_n 0), ny_o2 168 1 (.iconst 3) 3, ny_o2 169 2 (.bipush 97) 97, ny_o2 171 2 (.bipush 109) 109, ny_o2 173 2 (.bipush 101) 101, ny_o 175 3 (.invokevirtual 195), ny_o 178 3 (.ifCond .eq 7), ny_o2 181 1 (.iconst 5) 5, ny_o 182 3 (.goto 4), ny_o2 185 1 (.iconst (-1)) (-1), ny_o 186 1 .ireturn]
def m_Md_kindHere : ny_M := (⟨"NymphRotaModel", "kindHere", "()I"⟩, prog_13_method_47_code, 1, (Option.some Jvm.ClassFile.FieldType.int), false, pg_Md_kindHere)
def pg_Md_doHere : List ny_Op := [ny_o 0 1 (.aload_n 0), ny_o2 1 2 (.bipush 7) 7, ny_o2 3 2 (.bipush 114) 114, ny_o2 5 2 (.bipush 101) 101, ny_o2 7 2 (.bipush 108) 108, ny_o2 9 2 (.bipush 101) 101, ny_o 11 3 (.invokevirtual 191), ny_o 14 3 (.ifCond .eq 19), ny_o 17 1 (.aload_n 0), ny_o2 18 1 (.iconst 3) 3, ny_o2 19 2 (.bipush 105) 105, ny_o2 21 2 (.bipush 101) 101, ny_o2 23 2 (.bipush 118) 118, ny_o 25 3 (.invokevirtual 195), ny_o 28 3 (.ifCond .eq 5), ny_o2 31 1 (.iconst 0) 0, ny_o 32 1 .ireturn, ny_o 33 1 (.aload_n 0), ny_o2 34 1 (.iconst 4) 4, ny_o2 35 2 (.bipush 107) 107, ny_o2 37 2 (.bipush 101) 101, ny_o2 39 2 (.bipush 101) 101, ny_o2 41 2 (.bipush 112) 112, ny_o 43 3 (.invokevirtual 191), ny_o 46 3 (.ifCond .eq 5), ny_o2 49 1 (.iconst 1) 1, ny_o 50 1 .ireturn, ny_o 51 1 (.aload_n 0), ny_o2 52 1 (.iconst 5) 5, ny_o2 53 2 (.bipush 115) 115, ny_o2 55 2 (.bipush 109) 109, ny_o2 57 2 (.bipush 111) 111, ny_o2 59 2 (.bipush 101) 101, ny_o 61 3 (.invokevirtual 191), ny_o 64 3 (.ifCond .eq 22), ny_o 67 1 (.aload_n 0), ny_o 68 1 (.aload_n 0), ny_o1 69 3 (.getfield 166) 10 21, ny_o2 72 1 (.iconst 3) 3, ny_o 73 1 .iadd, ny_o 74 3 (.invokevirtual 169), ny_o2 77 2 (.bipush 107) 107, ny_o 79 3 (.if_icmp .ne 7), ny_o2 82 1 (.iconst 2) 2, ny_o 83 3 (.goto 4), ny_o2 86 1 (.iconst (-1)) (-1), ny_o 87 1 .ireturn]
def m_Md_doHere : ny_M := (⟨"NymphRotaModel", "doHere", "()I"⟩, prog_13_method_48_code, 1, (Option.some Jvm.ClassFile.FieldType.int), false, pg_Md_doHere)
def pg_Md_factHere : List ny_Op := [ny_o 0 1 (.aload_n 0), ny_o2 1 1 (.iconst 4) 4, ny_o2 2 2 (.bipush 98) 98, ny_o2 4 2 (.bipush 101) 101, ny_o2 6 2 (.bipush 108) 108, ny_o2 8 2 (.bipush 108) 108, ny_o 10 3 (.invokevirtual 191), ny_o 13 3 (.ifCond .eq 5), ny_o2 16 1 (.iconst 0) 0, ny_o 17 1 .ireturn, ny_o 18 1 (.aload_n 0), ny_o2 19 1 (.iconst 5) 5, ny_o2 20 2 (.bipush 116) 116, ny_o2 22 2 (.bipush 105) 105, ny_o2 24 2 (.bipush 114) 114, ny_o2 26 2 (.bipush 100) 100, ny_o 28 3 (.invokevirtual 191), ny_o 31 3 (.ifCond .eq 20), ny_o 34 1 (.aload_n 0), ny_o 35 1 (.aload_n 0), ny_o1 36 3 (.getfield 166) 10 21, ny_o2 39 1 (.iconst 3) 3, ny_o 40 1 .iadd, ny_o 41 3 (.invokevirtual 169), ny_o2 44 2 (.bipush 101) 101, ny_o 46 3 (.if_icmp .ne 5), ny_o2 49 1 (.iconst 1) 1, ny_o 50 1 .ireturn, ny_o 51 1 (.aload_n 0), ny_o2 52 1 (.iconst 5) 5, ny_o2 53 2 (.bipush 103) 103, ny_o2 55 2 (.bipush 114) 114, ny_o2 57 2 (.bipush 97) 97, ny_o2 59 2 (.bipush 101) 101, ny_o 61 3 (.invokevirtual 191), ny_o 64 3 (.ifCond .eq 20), ny_o 67 1 (.aload_n 0), ny_o 68 1 (.aload_n 0), ny_o1 69 3 (.getfield 166) 10 21, ny_o2 72 1 (.iconst 3) 3, ny_o 73 1 .iadd, ny_o 74 3 (.invokevirtual 169), ny_o2 77 2 (.bipush 99) 99, ny_o 79 3 (.if_icmp .ne 5), ny_o2 82 1 (.iconst 2) 2, ny_o 83 1 .ireturn, ny_o 84 1 (.aload_n 0), ny_o2 85 2 (.bipush 6) 6, ny_o2 87 2 (.bipush 103) 103, ny_o2 89 2 (.bipush 117) 117, ny_o2 91 2 (.bipush 101) 101, ny_o2 93 2 (.bipush 115) 115, ny_o 95 3 (.invokevirtual 191), ny_o 98 3 (.ifCond .eq 19), ny_o 101 1 (.aload_n 0), ny_o2 102 1 (.iconst 3) 3, ny_o2 103 2 (.bipush 115) 115, ny_o2 105 2 (.bipush 116) 116, ny_o2 107 2 (.bipush 115) 115, ny_o 109 3 (.invokevirtual 195), ny_o 112 3 (.ifCond .eq 5), ny_o2 115 1 (.iconst 3) 3, ny_o 116 1 .ireturn, ny_o 117 1 (.aload_n 0), ny_o2 118 2 (.bipush 6) 6, ny_o2 120 2 (.bipush 110) 110, ny_o2 122 2 (.bipush 117) 117, ny_o2 124 2 (.bipush 109) 109, ny_o2 126 2 (.bipush 114) 114, ny_o 128 3 (.invokevirtual 191), ny_o 131 3 (.ifCond .eq 21), ny_o 134 1 (.aload_n 0), ny_o2 135 1 (.iconst 2) 2, ny_o2 136 2 (.bipush 109) 109, ny_o2 138 2 (.bipush 98) 98, ny_o2 140 2 (.bipush 101) 101, ny_o 142 3 (.invokevirtual 195), ny_o 145 3 (.ifCond .eq 7), ny_o2 148 1 (.iconst 4) 4, ny_o 149 3 (.goto 4), ny_o2 152 1 (.iconst (-1)) (-1), ny_o 153 1 .ireturn]
def m_Md_factHere : ny_M := (⟨"NymphRotaModel", "factHere", "()I"⟩, prog_13_method_49_code, 1, (Option.some Jvm.ClassFile.FieldType.int), false, pg_Md_factHere)
def pg_Md_isTwo : List ny_Op := [ny_o 0 1 (.aload_n 0), ny_o1 1 3 (.getfield 178) 10 18, ny_o2 4 1 (.iconst 1) 1, ny_o 5 3 (.if_icmp .ne 46), ny_o 8 1 (.aload_n 0), ny_o1 9 3 (.getfield 163) 10 24, ny_o 12 1 (.aload_n 0), ny_o1 13 3 (.getfield 166) 10 21, ny_o 16 1 .isub, ny_o2 17 1 (.iconst 2) 2, ny_o 18 3 (.if_icmp .ne 33), ny_o 21 1 (.aload_n 0), ny_o 22 1 (.aload_n 0), ny_o1 23 3 (.getfield 166) 10 21, ny_o 26 3 (.invokevirtual 169), ny_o 29 1 (.iload_n 1), ny_o 30 3 (.if_icmp .ne 21), ny_o 33 1 (.aload_n 0), ny_o 34 1 (.aload_n 0), ny_o1 35 3 (.getfield 166) 10 21, ny_o2 38 1 (.iconst 1) 1, ny_o 39 1 .iadd, ny_o 40 3 (.invokevirtual 169), ny_o 43 1 (.iload_n 2), ny_o 44 3 (.if_icmp .ne 7), ny_o2 47 1 (.iconst 1) 1, ny_o 48 3 (.goto 4), ny_o2 51 1 (.iconst 0) 0, ny_o 52 1 .ireturn]
def m_Md_isTwo : ny_M := (⟨"NymphRotaModel", "isTwo", "(II)Z"⟩, prog_13_method_50_code, 3, (Option.some Jvm.ClassFile.FieldType.boolean), false, pg_Md_isTwo)
def pg_Md_steps : List ny_Op := [ny_o 0 1 (.aload_n 0), ny_o1 1 3 (.getfield 184) 10 32, ny_o 4 3 (.ifCond .ne 72), ny_o 7 1 (.aload_n 0), ny_o1 8 3 (.getfield 7) 10 1, ny_o2 11 2 (.bipush 122) 122, ny_o2 13 1 (.iconst 3) 3, ny_o 14 1 (.aload_n 0), ny_o1 15 3 (.getfield 7) 10 1, ny_o2 18 2 (.bipush 7) 7, ny_o 20 1 .iaload, ny_o 21 1 .imul, ny_o 22 1 .iadd, ny_o 23 1 (.iload_n 1), ny_o 24 1 .iastore, ny_o 25 1 (.aload_n 0), ny_o1 26 3 (.getfield 7) 10 1, ny_o2 29 2 (.bipush 122) 122, ny_o2 31 1 (.iconst 3) 3, ny_o 32 1 (.aload_n 0), ny_o1 33 3 (.getfield 7) 10 1, ny_o2 36 2 (.bipush 7) 7, ny_o 38 1 .iaload, ny_o 39 1 .imul, ny_o 40 1 .iadd, ny_o2 41 1 (.iconst 1) 1, ny_o 42 1 .iadd, ny_o 43 1 (.iload_n 2), ny_o 44 1 .iastore, ny_o 45 1 (.aload_n 0), ny_o1 46 3 (.getfield 7) 10 1, ny_o2 49 2 (.bipush 122) 122, ny_o2 51 1 (.iconst 3) 3, ny_o 52 1 (.aload_n 0), ny_o1 53 3 (.getfield 7) 10 1, ny_o2 56 2 (.bipush 7) 7, ny_o 58 1 .iaload, ny_o 59 1 .imul, ny_o 60 1 .iadd, ny_o2 61 1 (.iconst 2) 2, ny_o 62 1 .iadd, ny_o 63 1 (.iload_n 3), ny_o 64 1 .iastore, ny_o 65 1 (.aload_n 0), ny_o1 66 3 (.getfield 7) 10 1, ny_o2 69 2 (.bipush 7) 7, ny_o 71 1 .dup2, ny_o 72 1 .iaload, ny_o2 73 1 (.iconst 1) 1, ny_o 74 1 .iadd, ny_o 75 1 .iastore, ny_o 76 1 .return_]
def m_Md_steps : ny_M := (⟨"NymphRotaModel", "steps", "(III)V"⟩, prog_13_method_51_code, 4, none, false, pg_Md_steps)
def pg_Md_valueHere : List ny_Op := [ny_o 0 1 (.aload_n 0), ny_o 1 3 (.invokevirtual 199), ny_o 4 1 (.istore_n 1), ny_o 5 1 (.iload_n 1), ny_o 6 3 (.ifCond .lt 11), ny_o2 9 3 (.sipush 10000) 10000, ny_o 12 1 (.iload_n 1), ny_o 13 1 .iadd, ny_o 14 3 (.goto 7), ny_o 17 1 (.aload_n 0), ny_o1 18 3 (.getfield 181) 10 27, ny_o 21 1 (.istore_n 2), ny_o 22 1 (.aload_n 0), ny_o 23 1 (.iload_n 1), ny_o 24 3 (.ifCond .ge 24), ny_o 27 1 (.aload_n 0), ny_o1 28 3 (.getfield 178) 10 18, ny_o2 31 1 (.iconst 2) 2, ny_o 32 3 (.if_icmp .ne 20), ny_o 35 1 (.aload_n 0), ny_o1 36 3 (.getfield 163) 10 24, ny_o 39 1 (.aload_n 0), ny_o1 40 3 (.getfield 166) 10 21, ny_o 43 1 .isub, ny_o2 44 1 (.iconst 4) 4, ny_o 45 3 (.if_icmp .gt 7), ny_o2 48 1 (.iconst 1) 1, ny_o 49 3 (.goto 4), ny_o2 52 1 (.iconst 0) 0, ny_o 53 3 (.invokevirtual 202), ny_o 56 1 (.iload_n 2), ny_o 57 1 .ireturn]
def m_Md_valueHere : ny_M := (⟨"NymphRotaModel", "valueHere", "()I"⟩, prog_13_method_52_code, 3, (Option.some Jvm.ClassFile.FieldType.int), false, pg_Md_valueHere)
def pg_Md_comparesHere : List ny_Op := [ny_o 0 1 (.aload_n 0), ny_o 1 3 (.invokevirtual 206), ny_o 4 1 (.istore_n 1), ny_o 5 1 (.aload_n 0), ny_o2 6 2 (.bipush 60) 60, ny_o 8 3 (.invokevirtual 209), ny_o 11 3 (.ifCond .eq 7), ny_o2 14 1 (.iconst 0) 0, ny_o 15 3 (.goto 17), ny_o 18 1 (.aload_n 0), ny_o2 19 2 (.bipush 61) 61, ny_o 21 3 (.invokevirtual 209), ny_o 24 3 (.ifCond .eq 7), ny_o2 27 1 (.iconst 1) 1, ny_o 28 3 (.goto 4), ny_o2 31 1 (.iconst 2) 2, ny_o 32 1 (.istore_n 2), ny_o 33 1 (.aload_n 0), ny_o 34 1 (.aload_n 0), ny_o2 35 2 (.bipush 60) 60, ny_o 37 3 (.invokevirtual 209), ny_o 40 3 (.ifCond .ne 21), ny_o 43 1 (.aload_n 0), ny_o2 44 2 (.bipush 61) 61, ny_o 46 3 (.invokevirtual 209), ny_o 49 3 (.ifCond .ne 12), ny_o 52 1 (.aload_n 0), ny_o2 53 2 (.bipush 62) 62, ny_o 55 3 (.invokevirtual 209), ny_o 58 3 (.ifCond .eq 7), ny_o2 61 1 (.iconst 1) 1, ny_o 62 3 (.goto 4), ny_o2 65 1 (.iconst 0) 0, ny_o 66 3 (.invokevirtual 202), ny_o 69 1 (.aload_n 0), ny_o 70 3 (.invokevirtual 206), ny_o 73 1 (.istore_n 3), ny_o 74 1 (.aload_n 0), ny_o 75 1 (.iload_n 2), ny_o 76 1 (.iload_n 1), ny_o 77 1 (.iload_n 3), ny_o 78 3 (.invokevirtual 212), ny_o 81 1 .return_]
def m_Md_comparesHere : ny_M := (⟨"NymphRotaModel", "comparesHere", "()V"⟩, prog_13_method_53_code, 4, none, false, pg_Md_comparesHere)
def pg_Md_oneHere : List ny_Op := [ny_o2 0 1 (.iconst 0) 0, ny_o 1 1 (.istore_n 1), ny_o 2 1 (.aload_n 0), ny_o1 3 3 (.getfield 184) 10 32, ny_o 6 3 (.ifCond .ne 29), ny_o 9 1 (.aload_n 0), ny_o2 10 1 (.iconst 3) 3, ny_o2 11 2 (.bipush 110) 110, ny_o2 13 2 (.bipush 111) 111, ny_o2 15 2 (.bipush 116) 116, ny_o2 17 2 (.bipush 116) 116, ny_o 19 3 (.invokevirtual 191), ny_o 22 3 (.ifCond .eq 13), ny_o2 25 3 (.iinc 1 1) 1, ny_o 28 1 (.aload_n 0), ny_o 29 3 (.invokevirtual 188), ny_o 32 3 (.goto (-30)), ny_o 35 1 (.aload_n 0), ny_o1 36 3 (.getfield 184) 10 32, ny_o 39 3 (.ifCond .ne 66), ny_o 42 1 (.aload_n 0), ny_o2 43 2 (.bipush 40) 40, ny_o 45 3 (.invokevirtual 209), ny_o 48 3 (.ifCond .eq 57), ny_o 51 1 (.aload_n 0), ny_o 52 1 (.aload_n 0), ny_o1 53 3 (.getfield 216) 10 33, ny_o2 56 1 (.iconst 3) 3, ny_o 57 3 (.if_icmp .ge 7), ny_o2 60 1 (.iconst 1) 1, ny_o 61 3 (.goto 4), ny_o2 64 1 (.iconst 0) 0, ny_o 65 3 (.invokevirtual 202), ny_o 68 1 (.aload_n 0), ny_o 69 1 .dup, ny_o1 70 3 (.getfield 216) 10 33, ny_o2 73 1 (.iconst 1) 1, ny_o 74 1 .iadd, ny_o1 75 3 (.putfield 216) 10 33, ny_o 78 1 (.aload_n 0), ny_o 79 3 (.invokevirtual 219), ny_o 82 1 (.aload_n 0), ny_o 83 1 (.aload_n 0), ny_o2 84 2 (.bipush 41) 41, ny_o 86 3 (.invokevirtual 209), ny_o 89 3 (.invokevirtual 202), ny_o 92 1 (.aload_n 0), ny_o 93 1 .dup, ny_o1 94 3 (.getfield 216) 10 33, ny_o2 97 1 (.iconst 1) 1, ny_o 98 1 .isub, ny_o1 99 3 (.putfield 216) 10 33, ny_o 102 3 (.goto 14), ny_o 105 1 (.aload_n 0), ny_o1 106 3 (.getfield 184) 10 32, ny_o 109 3 (.ifCond .ne 7), ny_o 112 1 (.aload_n 0), ny_o 113 3 (.invokevirtual 222), ny_o 116 1 (.iload_n 1), ny_o2 117 1 (.iconst 2) 2, ny_o 118 1 .irem, ny_o2 119 1 (.iconst 1) 1, ny_o 120 3 (.if_icmp .ne 10), ny_o 123 1 (.aload_n 0), ny_o2 124 1 (.iconst 3) 3, ny_o2 125 1 (.iconst 0) 0, ny_o2 126 1 (.iconst 0) 0, ny_o 127 3 (.invokevirtual 212), ny_o 130 1 .return_]
def m_Md_oneHere : ny_M := (⟨"NymphRotaModel", "oneHere", "()V"⟩, prog_13_method_54_code, 2, none, false, pg_Md_oneHere)
def pg_Md_allHere : List ny_Op := [ny_o 0 1 (.aload_n 0), ny_o 1 3 (.invokevirtual 225), ny_o 4 1 (.aload_n 0), ny_o1 5 3 (.getfield 184) 10 32, ny_o 8 3 (.ifCond .ne 37), ny_o 11 1 (.aload_n 0), ny_o2 12 1 (.iconst 3) 3, ny_o2 13 2 (.bipush 97) 97, ny_o2 15 2 (.bipush 110) 110, ny_o2 17 2 (.bipush 100) 100, ny_o2 19 2 (.bipush 100) 100, ny_o 21 3 (.invokevirtual 191), ny_o 24 3 (.ifCond .eq 21), ny_o 27 1 (.aload_n 0), ny_o 28 3 (.invokevirtual 188), ny_o 31 1 (.aload_n 0), ny_o 32 3 (.invokevirtual 225), ny_o 35 1 (.aload_n 0), ny_o2 36 1 (.iconst 4) 4, ny_o2 37 1 (.iconst 0) 0, ny_o2 38 1 (.iconst 0) 0, ny_o 39 3 (.invokevirtual 212), ny_o 42 3 (.goto (-38)), ny_o 45 1 .return_]
def m_Md_allHere : ny_M := (⟨"NymphRotaModel", "allHere", "()V"⟩, prog_13_method_55_code, 1, none, false, pg_Md_allHere)
def pg_Md_condHere : List ny_Op := [ny_o 0 1 (.aload_n 0), ny_o 1 3 (.invokevirtual 228), ny_o 4 1 (.aload_n 0), ny_o1 5 3 (.getfield 184) 10 32, ny_o 8 3 (.ifCond .ne 32), ny_o 11 1 (.aload_n 0), ny_o2 12 2 (.bipush 111) 111, ny_o2 14 2 (.bipush 114) 114, ny_o 16 3 (.invokevirtual 231), ny_o 19 3 (.ifCond .eq 21), ny_o 22 1 (.aload_n 0), ny_o 23 3 (.invokevirtual 188), ny_o 26 1 (.aload_n 0), ny_o 27 3 (.invokevirtual 228), ny_o 30 1 (.aload_n 0), ny_o2 31 1 (.iconst 5) 5, ny_o2 32 1 (.iconst 0) 0, ny_o2 33 1 (.iconst 0) 0, ny_o 34 3 (.invokevirtual 212), ny_o 37 3 (.goto (-33)), ny_o 40 1 .return_]
def m_Md_condHere : ny_M := (⟨"NymphRotaModel", "condHere", "()V"⟩, prog_13_method_56_code, 1, none, false, pg_Md_condHere)
def pg_Md_ruleHere : List ny_Op := [ny_o2 0 2 (.bipush 66) 66, ny_o2 2 1 (.iconst 4) 4, ny_o 3 1 (.aload_n 0), ny_o1 4 3 (.getfield 7) 10 1, ny_o2 7 1 (.iconst 5) 5, ny_o 8 1 .iaload, ny_o 9 1 .imul, ny_o 10 1 .iadd, ny_o 11 1 (.istore_n 1), ny_o 12 1 (.aload_n 0), ny_o 13 3 (.invokevirtual 234), ny_o 16 1 (.istore_n 2), ny_o 17 1 (.aload_n 0), ny_o 18 1 (.iload_n 2), ny_o 19 3 (.ifCond .lt 18), ny_o 22 1 (.aload_n 0), ny_o1 23 3 (.getfield 7) 10 1, ny_o2 26 1 (.iconst 5) 5, ny_o 27 1 .iaload, ny_o2 28 2 (.bipush 8) 8, ny_o 30 3 (.if_icmp .ge 7), ny_o2 33 1 (.iconst 1) 1, ny_o 34 3 (.goto 4), ny_o2 37 1 (.iconst 0) 0, ny_o 38 3 (.invokevirtual 202), ny_o 41 1 (.aload_n 0), ny_o1 42 3 (.getfield 7) 10 1, ny_o2 45 2 (.bipush 7) 7, ny_o 47 1 .iaload, ny_o 48 1 (.istore_n 3), ny_o 49 1 (.aload_n 0), ny_o1 50 3 (.getfield 184) 10 32, ny_o 53 3 (.ifCond .ne 27), ny_o 56 1 (.aload_n 0), ny_o2 57 2 (.bipush 105) 105, ny_o2 59 2 (.bipush 102) 102, ny_o 61 3 (.invokevirtual 231), ny_o 64 3 (.ifCond .eq 16), ny_o 67 1 (.aload_n 0), ny_o 68 3 (.invokevirtual 188), ny_o 71 1 (.aload_n 0), ny_o2 72 1 (.iconst 0) 0, ny_o1 73 3 (.putfield 216) 10 33, ny_o 76 1 (.aload_n 0), ny_o 77 3 (.invokevirtual 219), ny_o 80 1 (.aload_n 0), ny_o 81 3 (.invokevirtual 237), ny_o 84 2 (.istore 4), ny_o 86 1 (.aload_n 0), ny_o 87 2 (.iload 4), ny_o 89 3 (.ifCond .lt 7), ny_o2 92 1 (.iconst 1) 1, ny_o 93 3 (.goto 4), ny_o2 96 1 (.iconst 0) 0, ny_o 97 3 (.invokevirtual 202), ny_o 100 1 (.aload_n 0), ny_o 101 1 (.aload_n 0), ny_o2 102 2 (.bipush 59) 59, ny_o 104 3 (.invokevirtual 209), ny_o 107 3 (.invokevirtual 202), ny_o 110 1 (.aload_n 0), ny_o1 111 3 (.getfield 184) 10 32, ny_o 114 3 (.ifCond .ne 54), ny_o 117 1 (.aload_n 0), ny_o1 118 3 (.getfield 7) 10 1, ny_o 121 1 (.iload_n 1), ny_o 122 1 (.iload_n 2), ny_o 123 1 .iastore, ny_o 124 1 (.aload_n 0), ny_o1 125 3 (.getfield 7) 10 1, ny_o 128 1 (.iload_n 1), ny_o2 129 1 (.iconst 1) 1, ny_o 130 1 .iadd, ny_o 131 2 (.iload 4), ny_o 133 1 .iastore, ny_o 134 1 (.aload_n 0), ny_o1 135 3 (.getfield 7) 10 1, ny_o 138 1 (.iload_n 1), ny_o2 139 1 (.iconst 2) 2, ny_o 140 1 .iadd, ny_o 141 1 (.iload_n 3), ny_o 142 1 .iastore, ny_o 143 1 (.aload_n 0), ny_o1 144 3 (.getfield 7) 10 1, ny_o 147 1 (.iload_n 1), ny_o2 148 1 (.iconst 3) 3, ny_o 149 1 .iadd, ny_o 150 1 (.aload_n 0), ny_o1 151 3 (.getfield 7) 10 1, ny_o2 154 2 (.bipush 7) 7, ny_o 156 1 .iaload, ny_o 157 1 .iastore, ny_o 158 1 (.aload_n 0), ny_o1 159 3 (.getfield 7) 10 1, ny_o2 162 1 (.iconst 5) 5, ny_o 163 1 .dup2, ny_o 164 1 .iaload, ny_o2 165 1 (.iconst 1) 1, ny_o 166 1 .iadd, ny_o 167 1 .iastore, ny_o 168 1 .return_]
def m_Md_ruleHere : ny_M := (⟨"NymphRotaModel", "ruleHere", "()V"⟩, prog_13_method_57_code, 5, none, false, pg_Md_ruleHere)
def pg_Md_rules : List ny_Op := [ny_o2 0 1 (.iconst 0) 0, ny_o 1 1 (.istore_n 1), ny_o 2 1 (.iload_n 1), ny_o2 3 3 (.sipush 572) 572, ny_o 6 3 (.if_icmp .ge 21), ny_o 9 1 (.aload_n 0), ny_o1 10 3 (.getfield 22) 10 37, ny_o 13 1 (.iload_n 1), ny_o 14 1 (.aload_n 0), ny_o1 15 3 (.getfield 7) 10 1, ny_o 18 1 (.iload_n 1), ny_o 19 1 .iaload, ny_o 20 1 .iastore, ny_o2 21 3 (.iinc 1 1) 1, ny_o 24 3 (.goto (-22)), ny_o 27 1 (.aload_n 0), ny_o1 28 3 (.getfield 7) 10 1, ny_o2 31 1 (.iconst 5) 5, ny_o2 32 1 (.iconst 0) 0, ny_o 33 1 .iastore, ny_o 34 1 (.aload_n 0), ny_o1 35 3 (.getfield 7) 10 1, ny_o2 38 2 (.bipush 7) 7, ny_o2 40 1 (.iconst 0) 0, ny_o 41 1 .iastore, ny_o 42 1 (.aload_n 0), ny_o2 43 1 (.iconst 0) 0, ny_o1 44 3 (.putfield 163) 10 24, ny_o 47 1 (.aload_n 0), ny_o2 48 1 (.iconst 0) 0, ny_o1 49 3 (.putfield 184) 10 32, ny_o 52 1 (.aload_n 0), ny_o 53 3 (.invokevirtual 188), ny_o 56 1 (.aload_n 0), ny_o1 57 3 (.getfield 184) 10 32, ny_o 60 3 (.ifCond .ne 17), ny_o 63 1 (.aload_n 0), ny_o1 64 3 (.getfield 178) 10 18, ny_o 67 3 (.ifCond .eq 10), ny_o 70 1 (.aload_n 0), ny_o 71 3 (.invokevirtual 240), ny_o 74 3 (.goto (-18)), ny_o 77 1 (.aload_n 0), ny_o2 78 1 (.iconst 0) 0, ny_o1 79 3 (.putfield 157) 10 15, ny_o2 82 1 (.iconst 0) 0, ny_o 83 1 (.istore_n 1), ny_o 84 1 (.iload_n 1), ny_o2 85 3 (.sipush 572) 572, ny_o 88 3 (.if_icmp .ge 28), ny_o 91 1 (.aload_n 0), ny_o1 92 3 (.getfield 184) 10 32, ny_o 95 3 (.ifCond .eq 21), ny_o 98 1 (.aload_n 0), ny_o1 99 3 (.getfield 7) 10 1, ny_o 102 1 (.iload_n 1), ny_o 103 1 (.aload_n 0), ny_o1 104 3 (.getfield 22) 10 37, ny_o 107 1 (.iload_n 1), ny_o 108 1 .iaload, ny_o 109 1 .iastore, ny_o2 110 3 (.iinc 1 1) 1, ny_o 113 3 (.goto (-29)), ny_o 116 1 (.aload_n 0), ny_o1 117 3 (.getfield 184) 10 32, ny_o 120 3 (.ifCond .eq 13), ny_o2 123 2 (.bipush (-100)) (-100), ny_o 125 1 (.aload_n 0), ny_o1 126 3 (.getfield 166) 10 21, ny_o 129 1 .isub, ny_o 130 3 (.goto 9), ny_o 133 1 (.aload_n 0), ny_o1 134 3 (.getfield 7) 10 1, ny_o2 137 1 (.iconst 5) 5, ny_o 138 1 .iaload, ny_o 139 1 .ireturn]
def m_Md_rules : ny_M := (⟨"NymphRotaModel", "rules", "()I"⟩, prog_13_method_58_code, 2, (Option.some Jvm.ClassFile.FieldType.int), false, pg_Md_rules)
def pg_Md_goesWith : List ny_Op := [ny_o 0 1 (.iload_n 1), ny_o2 1 1 (.iconst 1) 1, ny_o 2 1 .isub, ny_o 3 1 (.istore_n 2), ny_o 4 1 (.iload_n 2), ny_o 5 3 (.ifCond .lt 19), ny_o 8 1 (.aload_n 0), ny_o 9 1 (.iload_n 2), ny_o 10 3 (.invokevirtual 93), ny_o 13 3 (.ifCond .eq 11), ny_o 16 1 (.aload_n 0), ny_o 17 1 (.iload_n 2), ny_o 18 3 (.invokevirtual 117), ny_o 21 3 (.goto 4), ny_o2 24 1 (.iconst 1) 1, ny_o 25 1 (.istore_n 3), ny_o 26 1 (.iload_n 3), ny_o2 27 1 (.iconst 2) 2, ny_o 28 3 (.if_icmp .ne 7), ny_o 31 1 (.iload_n 2), ny_o 32 3 (.goto 4), ny_o2 35 1 (.iconst (-1)) (-1), ny_o 36 2 (.istore 4), ny_o 38 1 (.iload_n 3), ny_o 39 3 (.ifCond .ne 11), ny_o 42 1 (.aload_n 0), ny_o 43 1 (.iload_n 2), ny_o 44 3 (.invokevirtual 114), ny_o 47 3 (.goto 4), ny_o2 50 1 (.iconst 0) 0, ny_o 51 2 (.istore 5), ny_o 53 2 (.iload 5), ny_o 55 3 (.ifCond .le 17), ny_o 58 1 (.aload_n 0), ny_o1 59 3 (.getfield 7) 10 1, ny_o2 62 2 (.bipush 8) 8, ny_o2 64 1 (.iconst 5) 5, ny_o 65 1 (.iload_n 2), ny_o 66 1 .imul, ny_o 67 1 .iadd, ny_o2 68 1 (.iconst 4) 4, ny_o 69 1 .iadd, ny_o2 70 1 (.iconst 1) 1, ny_o 71 1 .iastore, ny_o 72 2 (.iload 4), ny_o 74 3 (.ifCond .lt 31), ny_o 77 1 (.aload_n 0), ny_o1 78 3 (.getfield 7) 10 1, ny_o2 81 2 (.bipush 8) 8, ny_o2 83 1 (.iconst 5) 5, ny_o 84 2 (.iload 4), ny_o 86 1 .imul, ny_o 87 1 .iadd, ny_o2 88 1 (.iconst 1) 1, ny_o 89 1 .iadd, ny_o2 90 1 (.iconst 0) 0, ny_o 91 1 (.aload_n 0), ny_o 92 2 (.iload 4), ny_o2 94 1 (.iconst 1) 1, ny_o 95 3 (.invokevirtual 82), ny_o2 98 2 (.bipush 25) 25, ny_o 100 1 .isub, ny_o 101 3 (.invokestatic 75), ny_o 104 1 .iastore, ny_o2 105 1 (.iconst 0) 0, ny_o 106 2 (.istore 6), ny_o 108 2 (.iload 6), ny_o 110 1 (.aload_n 0), ny_o1 111 3 (.getfield 7) 10 1, ny_o2 114 1 (.iconst 0) 0, ny_o 115 1 .iaload, ny_o 116 3 (.if_icmp .ge 31), ny_o 119 2 (.iload 5), ny_o 121 2 (.iload 6), ny_o 123 2 (.iload 4), ny_o 125 3 (.if_icmp .ne 7), ny_o2 128 1 (.iconst 0) 0, ny_o 129 3 (.goto 9), ny_o 132 1 (.aload_n 0), ny_o 133 2 (.iload 6), ny_o 135 3 (.invokevirtual 126), ny_o 138 1 .iadd, ny_o 139 2 (.istore 5), ny_o2 141 3 (.iinc 6 1) 1, ny_o 144 3 (.goto (-36)), ny_o2 147 1 (.iconst 0) 0, ny_o 148 2 (.istore 6), ny_o 150 2 (.iload 6), ny_o 152 1 (.aload_n 0), ny_o1 153 3 (.getfield 7) 10 1, ny_o2 156 1 (.iconst 0) 0, ny_o 157 1 .iaload, ny_o 158 3 (.if_icmp .ge 81), ny_o 161 2 (.iload 6), ny_o 163 2 (.iload 4), ny_o 165 3 (.if_icmp .eq 17), ny_o 168 1 (.aload_n 0), ny_o 169 2 (.iload 6), ny_o2 171 1 (.iconst 4) 4, ny_o 172 3 (.invokevirtual 82), ny_o 175 3 (.ifCond .ne 7), ny_o2 178 1 (.iconst 1) 1, ny_o 179 3 (.goto 4), ny_o2 182 1 (.iconst 0) 0, ny_o 183 2 (.istore 7), ny_o 185 1 (.aload_n 0), ny_o1 186 3 (.getfield 7) 10 1, ny_o2 189 2 (.bipush 8) 8, ny_o2 191 1 (.iconst 5) 5, ny_o 192 2 (.iload 6), ny_o 194 1 .imul, ny_o 195 1 .iadd, ny_o2 196 1 (.iconst 1) 1, ny_o 197 1 .iadd, ny_o 198 2 (.iload 7), ny_o 200 3 (.ifCond .eq 25), ny_o2 203 2 (.bipush 99) 99, ny_o 205 1 (.aload_n 0), ny_o 206 2 (.iload 6), ny_o2 208 1 (.iconst 1) 1, ny_o 209 3 (.invokevirtual 82), ny_o 212 1 (.aload_n 0), ny_o 213 2 (.iload 6), ny_o 215 3 (.invokevirtual 123), ny_o 218 1 .iadd, ny_o 219 3 (.invokestatic 79), ny_o 222 3 (.goto 10), ny_o 225 1 (.aload_n 0), ny_o 226 2 (.iload 6), ny_o2 228 1 (.iconst 1) 1, ny_o 229 3 (.invokevirtual 82), ny_o 232 1 .iastore, ny_o2 233 3 (.iinc 6 1) 1, ny_o 236 3 (.goto (-86)), ny_o 239 1 (.aload_n 0), ny_o1 240 3 (.getfield 7) 10 1, ny_o2 243 1 (.iconst 1) 1, ny_o 244 1 .dup2, ny_o 245 1 .iaload, ny_o2 246 1 (.iconst 1) 1, ny_o 247 1 .iadd, ny_o 248 1 .iastore, ny_o 249 1 (.aload_n 0), ny_o1 250 3 (.getfield 7) 10 1, ny_o2 253 1 (.iconst 3) 3, ny_o 254 1 .dup2, ny_o 255 1 .iaload, ny_o 256 2 (.iload 5), ny_o 258 1 .iadd, ny_o 259 1 .iastore, ny_o 260 2 (.iload 5), ny_o 262 1 .ireturn]
def m_Md_goesWith : ny_M := (⟨"NymphRotaModel", "goesWith", "(I)I"⟩, prog_13_method_59_code, 8, (Option.some Jvm.ClassFile.FieldType.int), false, pg_Md_goesWith)
def pg_Md_restAct : List ny_Op := [ny_o2 0 1 (.iconst 0) 0, ny_o 1 1 (.istore_n 1), ny_o 2 1 (.iload_n 1), ny_o 3 1 (.aload_n 0), ny_o1 4 3 (.getfield 7) 10 1, ny_o2 7 1 (.iconst 0) 0, ny_o 8 1 .iaload, ny_o 9 3 (.if_icmp .ge 21), ny_o 12 1 (.aload_n 0), ny_o 13 1 (.iload_n 1), ny_o 14 3 (.invokevirtual 129), ny_o 17 3 (.ifCond .eq 7), ny_o 20 1 (.iload_n 1), ny_o2 21 1 (.iconst 1) 1, ny_o 22 1 .iadd, ny_o 23 1 .ireturn, ny_o2 24 3 (.iinc 1 1) 1, ny_o 27 3 (.goto (-25)), ny_o2 30 1 (.iconst 0) 0, ny_o 31 1 .ireturn]
def m_Md_restAct : ny_M := (⟨"NymphRotaModel", "restAct", "()I"⟩, prog_13_method_60_code, 2, (Option.some Jvm.ClassFile.FieldType.int), false, pg_Md_restAct)
def pg_Md_bell : List ny_Op := [ny_o 0 1 (.aload_n 0), ny_o 1 3 (.invokevirtual 144), ny_o 4 3 (.ifCond .eq 8), ny_o2 7 2 (.bipush (-4)) (-4), ny_o 9 3 (.goto 11), ny_o 12 1 (.aload_n 0), ny_o 13 1 (.aload_n 0), ny_o 14 3 (.invokevirtual 243), ny_o 17 3 (.invokevirtual 246), ny_o 20 1 .ireturn]
def m_Md_bell : ny_M := (⟨"NymphRotaModel", "bell", "()I"⟩, prog_13_method_61_code, 1, (Option.some Jvm.ClassFile.FieldType.int), false, pg_Md_bell)
def pg_Md_onBy : List ny_Op := [ny_o 0 1 (.aload_n 0), ny_o2 1 1 (.iconst 0) 0, ny_o 2 3 (.invokevirtual 249), ny_o2 5 1 (.iconst 0) 0, ny_o 6 1 (.istore_n 2), ny_o2 7 1 (.iconst 0) 0, ny_o 8 1 (.istore_n 3), ny_o 9 1 (.iload_n 3), ny_o 10 1 (.iload_n 1), ny_o 11 3 (.if_icmp .ge 27), ny_o 14 1 (.aload_n 0), ny_o 15 3 (.invokevirtual 144), ny_o 18 3 (.ifCond .ne 20), ny_o 21 1 (.iload_n 2), ny_o 22 1 (.aload_n 0), ny_o 23 1 (.aload_n 0), ny_o 24 3 (.invokevirtual 243), ny_o 27 3 (.invokevirtual 246), ny_o 30 1 .iadd, ny_o 31 1 (.istore_n 2), ny_o2 32 3 (.iinc 3 1) 1, ny_o 35 3 (.goto (-26)), ny_o 38 1 (.aload_n 0), ny_o2 39 1 (.iconst 0) 0, ny_o 40 3 (.invokevirtual 253), ny_o 43 1 (.iload_n 2), ny_o 44 1 .ireturn]
def m_Md_onBy : ny_M := (⟨"NymphRotaModel", "onBy", "(I)I"⟩, prog_13_method_62_code, 4, (Option.some Jvm.ClassFile.FieldType.int), false, pg_Md_onBy)
def pg_Md_on : List ny_Op := [ny_o 0 1 (.iload_n 1), ny_o 1 1 .i2l, ny_o3 2 1 (.lconst 0) 0, ny_o3 3 3 (.ldc2_w 142) 16, ny_o 6 3 (.invokestatic 63), ny_o 9 3 (.ifCond .eq 11), ny_o 12 1 (.aload_n 0), ny_o 13 1 (.iload_n 1), ny_o 14 3 (.invokevirtual 256), ny_o 17 3 (.goto 4), ny_o2 20 1 (.iconst (-1)) (-1), ny_o 21 1 .ireturn]
def m_Md_on : ny_M := (⟨"NymphRotaModel", "on", "(I)I"⟩, prog_13_method_63_code, 2, (Option.some Jvm.ClassFile.FieldType.int), false, pg_Md_on)
def pg_Md_when : List ny_Op := [ny_o 0 1 (.aload_n 0), ny_o 1 1 (.iload_n 1), ny_o 2 3 (.invokevirtual 120), ny_o 5 3 (.ifCond .ne 5), ny_o2 8 1 (.iconst (-1)) (-1), ny_o 9 1 .ireturn, ny_o 10 1 (.aload_n 0), ny_o 11 1 (.iload_n 1), ny_o2 12 1 (.iconst 4) 4, ny_o 13 3 (.invokevirtual 82), ny_o2 16 1 (.iconst 1) 1, ny_o 17 3 (.if_icmp .ne 6), ny_o2 20 2 (.bipush (-3)) (-3), ny_o 22 1 .ireturn, ny_o 23 1 (.aload_n 0), ny_o2 24 1 (.iconst 0) 0, ny_o 25 3 (.invokevirtual 249), ny_o 28 1 (.aload_n 0), ny_o 29 3 (.invokevirtual 144), ny_o 32 3 (.ifCond .ne 24), ny_o 35 1 (.aload_n 0), ny_o 36 1 (.iload_n 1), ny_o2 37 1 (.iconst 4) 4, ny_o 38 3 (.invokevirtual 82), ny_o 41 3 (.ifCond .ne 15), ny_o 44 1 (.aload_n 0), ny_o 45 1 (.aload_n 0), ny_o 46 3 (.invokevirtual 243), ny_o 49 3 (.invokevirtual 246), ny_o 52 1 (.istore_n 2), ny_o 53 3 (.goto (-25)), ny_o 56 1 (.aload_n 0), ny_o 57 1 (.iload_n 1), ny_o2 58 1 (.iconst 4) 4, ny_o 59 3 (.invokevirtual 82), ny_o 62 3 (.ifCond .ne 8), ny_o2 65 2 (.bipush (-3)) (-3), ny_o 67 3 (.goto 11), ny_o 70 1 (.aload_n 0), ny_o1 71 3 (.getfield 7) 10 1, ny_o2 74 1 (.iconst 1) 1, ny_o 75 1 .iaload, ny_o2 76 1 (.iconst 1) 1, ny_o 77 1 .isub, ny_o 78 1 (.istore_n 2), ny_o 79 1 (.aload_n 0), ny_o2 80 1 (.iconst 0) 0, ny_o 81 3 (.invokevirtual 253), ny_o 84 1 (.iload_n 2), ny_o 85 1 .ireturn]
def m_Md_when : ny_M := (⟨"NymphRotaModel", "when", "(I)I"⟩, prog_13_method_64_code, 3, (Option.some Jvm.ClassFile.FieldType.int), false, pg_Md_when)
def pg_Md_valueFor : List ny_Op := [ny_o2 0 2 (.bipush 8) 8, ny_o2 2 1 (.iconst 5) 5, ny_o 3 1 (.iload_n 1), ny_o 4 1 .imul, ny_o 5 1 .iadd, ny_o 6 1 (.iload_n 2), ny_o 7 1 .iadd, ny_o 8 1 (.istore_n 3), ny_o 9 1 (.aload_n 0), ny_o1 10 3 (.getfield 7) 10 1, ny_o 13 1 (.iload_n 3), ny_o 14 1 .iaload, ny_o 15 2 (.istore 4), ny_o2 17 1 (.iconst 0) 0, ny_o 18 2 (.istore 5), ny_o2 20 1 (.iconst (-1)) (-1), ny_o 21 2 (.istore 6), ny_o2 23 1 (.iconst 0) 0, ny_o 24 2 (.istore 7), ny_o 26 2 (.iload 7), ny_o 28 1 (.iload_n 2), ny_o 29 3 (.invokestatic 134), ny_o 32 3 (.if_icmp .gt 50), ny_o 35 1 (.aload_n 0), ny_o1 36 3 (.getfield 7) 10 1, ny_o 39 1 (.iload_n 3), ny_o 40 2 (.iload 7), ny_o 42 1 .iastore, ny_o 43 1 (.aload_n 0), ny_o2 44 2 (.bipush 16) 16, ny_o 46 3 (.invokevirtual 256), ny_o 49 2 (.istore 8), ny_o 51 2 (.iload 8), ny_o 53 2 (.iload 6), ny_o 55 3 (.if_icmp .le 8), ny_o 58 2 (.iload 7), ny_o 60 3 (.goto 5), ny_o 63 2 (.iload 5), ny_o 65 2 (.istore 5), ny_o 67 2 (.iload 6), ny_o 69 2 (.iload 8), ny_o 71 3 (.invokestatic 75), ny_o 74 2 (.istore 6), ny_o2 76 3 (.iinc 7 1) 1, ny_o 79 3 (.goto (-53)), ny_o 82 1 (.aload_n 0), ny_o1 83 3 (.getfield 7) 10 1, ny_o 86 1 (.iload_n 3), ny_o 87 2 (.iload 4), ny_o 89 1 .iastore, ny_o 90 2 (.iload 5), ny_o 92 1 .ireturn]
def m_Md_valueFor : ny_M := (⟨"NymphRotaModel", "valueFor", "(II)I"⟩, prog_13_method_65_code, 9, (Option.some Jvm.ClassFile.FieldType.int), false, pg_Md_valueFor)
def pg_Md_graceFor : List ny_Op := [ny_o 0 1 (.aload_n 0), ny_o 1 1 (.iload_n 1), ny_o 2 3 (.invokevirtual 120), ny_o 5 3 (.ifCond .eq 12), ny_o 8 1 (.aload_n 0), ny_o 9 1 (.iload_n 1), ny_o2 10 1 (.iconst 2) 2, ny_o 11 3 (.invokevirtual 259), ny_o 14 3 (.goto 4), ny_o2 17 1 (.iconst (-1)) (-1), ny_o 18 1 .ireturn]
def m_Md_graceFor : ny_M := (⟨"NymphRotaModel", "graceFor", "(I)I"⟩, prog_13_method_66_code, 2, (Option.some Jvm.ClassFile.FieldType.int), false, pg_Md_graceFor)
def pg_Md_nicheFor : List ny_Op := [ny_o 0 1 (.aload_n 0), ny_o 1 1 (.iload_n 1), ny_o 2 3 (.invokevirtual 120), ny_o 5 3 (.ifCond .eq 12), ny_o 8 1 (.aload_n 0), ny_o 9 1 (.iload_n 1), ny_o2 10 1 (.iconst 3) 3, ny_o 11 3 (.invokevirtual 259), ny_o 14 3 (.goto 4), ny_o2 17 1 (.iconst (-1)) (-1), ny_o 18 1 .ireturn]
def m_Md_nicheFor : ny_M := (⟨"NymphRotaModel", "nicheFor", "(I)I"⟩, prog_13_method_67_code, 2, (Option.some Jvm.ClassFile.FieldType.int), false, pg_Md_nicheFor)
def pg_Md_faints : List ny_Op := [ny_o 0 1 (.aload_n 0), ny_o 1 1 (.iload_n 1), ny_o 2 3 (.invokevirtual 120), ny_o 5 3 (.ifCond .ne 5), ny_o2 8 1 (.iconst (-1)) (-1), ny_o 9 1 .ireturn, ny_o 10 1 (.aload_n 0), ny_o2 11 1 (.iconst 0) 0, ny_o 12 3 (.invokevirtual 249), ny_o 15 1 (.aload_n 0), ny_o 16 3 (.invokevirtual 144), ny_o 19 3 (.ifCond .ne 26), ny_o 22 1 (.aload_n 0), ny_o 23 1 (.iload_n 1), ny_o2 24 1 (.iconst 1) 1, ny_o 25 3 (.invokevirtual 82), ny_o2 28 2 (.bipush 60) 60, ny_o 30 3 (.if_icmp .ge 15), ny_o 33 1 (.aload_n 0), ny_o 34 1 (.aload_n 0), ny_o 35 3 (.invokevirtual 243), ny_o 38 3 (.invokevirtual 246), ny_o 41 1 (.istore_n 2), ny_o 42 3 (.goto (-27)), ny_o 45 1 (.aload_n 0), ny_o 46 1 (.iload_n 1), ny_o2 47 1 (.iconst 1) 1, ny_o 48 3 (.invokevirtual 82), ny_o2 51 2 (.bipush 60) 60, ny_o 53 3 (.if_icmp .ge 8), ny_o2 56 2 (.bipush (-3)) (-3), ny_o 58 3 (.goto 9), ny_o 61 1 (.aload_n 0), ny_o1 62 3 (.getfield 7) 10 1, ny_o2 65 1 (.iconst 1) 1, ny_o 66 1 .iaload, ny_o 67 1 (.istore_n 2), ny_o 68 1 (.aload_n 0), ny_o2 69 1 (.iconst 0) 0, ny_o 70 3 (.invokevirtual 253), ny_o 73 1 (.iload_n 2), ny_o 74 1 .ireturn]
def m_Md_faints : ny_M := (⟨"NymphRotaModel", "faints", "(I)I"⟩, prog_13_method_68_code, 3, (Option.some Jvm.ClassFile.FieldType.int), false, pg_Md_faints)
def pg_Md_rank : List ny_Op := [ny_o 0 1 (.aload_n 0), ny_o 1 1 (.iload_n 1), ny_o 2 3 (.invokevirtual 120), ny_o 5 3 (.ifCond .ne 5), ny_o2 8 1 (.iconst (-1)) (-1), ny_o 9 1 .ireturn, ny_o 10 1 (.aload_n 0), ny_o 11 1 (.iload_n 1), ny_o 12 3 (.invokevirtual 93), ny_o 15 3 (.ifCond .ne 6), ny_o2 18 2 (.bipush (-3)) (-3), ny_o 20 1 .ireturn, ny_o2 21 1 (.iconst 0) 0, ny_o 22 1 (.istore_n 2), ny_o2 23 1 (.iconst 0) 0, ny_o 24 1 (.istore_n 3), ny_o 25 1 (.iload_n 3), ny_o 26 1 (.aload_n 0), ny_o1 27 3 (.getfield 7) 10 1, ny_o2 30 1 (.iconst 0) 0, ny_o 31 1 .iaload, ny_o 32 3 (.if_icmp .ge 72), ny_o 35 1 (.aload_n 0), ny_o 36 1 (.iload_n 3), ny_o2 37 1 (.iconst 1) 1, ny_o 38 3 (.invokevirtual 82), ny_o 41 1 (.aload_n 0), ny_o 42 1 (.iload_n 1), ny_o2 43 1 (.iconst 1) 1, ny_o 44 3 (.invokevirtual 82), ny_o 47 3 (.if_icmp .gt 23), ny_o 50 1 (.aload_n 0), ny_o 51 1 (.iload_n 3), ny_o2 52 1 (.iconst 1) 1, ny_o 53 3 (.invokevirtual 82), ny_o 56 1 (.aload_n 0), ny_o 57 1 (.iload_n 1), ny_o2 58 1 (.iconst 1) 1, ny_o 59 3 (.invokevirtual 82), ny_o 62 3 (.if_icmp .ne 12), ny_o 65 1 (.iload_n 3), ny_o 66 1 (.iload_n 1), ny_o 67 3 (.if_icmp .ge 7), ny_o2 70 1 (.iconst 1) 1, ny_o 71 3 (.goto 4), ny_o2 74 1 (.iconst 0) 0, ny_o 75 2 (.istore 4), ny_o 77 1 (.iload_n 2), ny_o 78 1 (.aload_n 0), ny_o 79 1 (.iload_n 3), ny_o 80 3 (.invokevirtual 93), ny_o 83 3 (.ifCond .eq 12), ny_o 86 2 (.iload 4), ny_o 88 3 (.ifCond .eq 7), ny_o2 91 1 (.iconst 1) 1, ny_o 92 3 (.goto 4), ny_o2 95 1 (.iconst 0) 0, ny_o 96 1 .iadd, ny_o 97 1 (.istore_n 2), ny_o2 98 3 (.iinc 3 1) 1, ny_o 101 3 (.goto (-76)), ny_o 104 1 (.iload_n 2), ny_o 105 1 .ireturn]
def m_Md_rank : ny_M := (⟨"NymphRotaModel", "rank", "(I)I"⟩, prog_13_method_69_code, 5, (Option.some Jvm.ClassFile.FieldType.int), false, pg_Md_rank)
def pg_Md_areClose : List ny_Op := [ny_o 0 1 (.aload_n 0), ny_o 1 1 (.iload_n 1), ny_o2 2 1 (.iconst 3) 3, ny_o 3 3 (.invokevirtual 82), ny_o 6 1 (.aload_n 0), ny_o 7 1 (.iload_n 2), ny_o2 8 1 (.iconst 3) 3, ny_o 9 3 (.invokevirtual 82), ny_o 12 1 .isub, ny_o2 13 2 (.bipush 6) 6, ny_o 15 1 .iadd, ny_o2 16 2 (.bipush 6) 6, ny_o 18 1 .irem, ny_o 19 1 (.istore_n 3), ny_o 20 1 (.aload_n 0), ny_o 21 1 (.iload_n 1), ny_o 22 3 (.invokevirtual 93), ny_o 25 3 (.ifCond .eq 25), ny_o 28 1 (.aload_n 0), ny_o 29 1 (.iload_n 2), ny_o 30 3 (.invokevirtual 93), ny_o 33 3 (.ifCond .eq 17), ny_o 36 1 (.iload_n 3), ny_o2 37 1 (.iconst 2) 2, ny_o 38 3 (.if_icmp .lt 8), ny_o 41 1 (.iload_n 3), ny_o2 42 1 (.iconst 5) 5, ny_o 43 3 (.if_icmp .ne 7), ny_o2 46 1 (.iconst 1) 1, ny_o 47 3 (.goto 4), ny_o2 50 1 (.iconst 0) 0, ny_o 51 1 .ireturn]
def m_Md_areClose : ny_M := (⟨"NymphRotaModel", "areClose", "(II)Z"⟩, prog_13_method_70_code, 4, (Option.some Jvm.ClassFile.FieldType.boolean), false, pg_Md_areClose)
def pg_Md_ringOf : List ny_Op := [ny_o 0 1 (.aload_n 0), ny_o 1 1 (.iload_n 1), ny_o 2 3 (.invokevirtual 93), ny_o 5 3 (.ifCond .eq 9), ny_o2 8 1 (.iconst 1) 1, ny_o 9 1 (.iload_n 1), ny_o 10 1 .ishl, ny_o 11 3 (.goto 4), ny_o2 14 1 (.iconst 0) 0, ny_o 15 1 (.istore_n 2), ny_o2 16 1 (.iconst 0) 0, ny_o 17 1 (.istore_n 3), ny_o 18 1 (.iload_n 3), ny_o2 19 2 (.bipush 6) 6, ny_o 21 3 (.if_icmp .ge 81), ny_o2 24 1 (.iconst 0) 0, ny_o 25 2 (.istore 4), ny_o 27 2 (.iload 4), ny_o 29 1 (.aload_n 0), ny_o1 30 3 (.getfield 7) 10 1, ny_o2 33 1 (.iconst 0) 0, ny_o 34 1 .iaload, ny_o 35 3 (.if_icmp .ge 61), ny_o2 38 1 (.iconst 0) 0, ny_o 39 2 (.istore 5), ny_o 41 2 (.iload 5), ny_o 43 1 (.aload_n 0), ny_o1 44 3 (.getfield 7) 10 1, ny_o2 47 1 (.iconst 0) 0, ny_o 48 1 .iaload, ny_o 49 3 (.if_icmp .ge 41), ny_o 52 1 (.iload_n 2), ny_o 53 1 (.iload_n 2), ny_o 54 2 (.iload 4), ny_o 56 1 .ishr, ny_o2 57 1 (.iconst 1) 1, ny_o 58 1 .iand, ny_o2 59 1 (.iconst 1) 1, ny_o 60 3 (.if_icmp .ne 21), ny_o 63 1 (.aload_n 0), ny_o 64 2 (.iload 4), ny_o 66 2 (.iload 5), ny_o 68 3 (.invokevirtual 262), ny_o 71 3 (.ifCond .eq 10), ny_o2 74 1 (.iconst 1) 1, ny_o 75 2 (.iload 5), ny_o 77 1 .ishl, ny_o 78 3 (.goto 4), ny_o2 81 1 (.iconst 0) 0, ny_o 82 1 .ior, ny_o 83 1 (.istore_n 2), ny_o2 84 3 (.iinc 5 1) 1, ny_o 87 3 (.goto (-46)), ny_o2 90 3 (.iinc 4 1) 1, ny_o 93 3 (.goto (-66)), ny_o2 96 3 (.iinc 3 1) 1, ny_o 99 3 (.goto (-81)), ny_o 102 1 (.iload_n 2), ny_o 103 1 .ireturn]
def m_Md_ringOf : ny_M := (⟨"NymphRotaModel", "ringOf", "(I)I"⟩, prog_13_method_71_code, 6, (Option.some Jvm.ClassFile.FieldType.int), false, pg_Md_ringOf)
def pg_Md_rings : List ny_Op := [ny_o 0 1 (.iload_n 1), ny_o2 1 1 (.iconst (-1)) (-1), ny_o 2 3 (.if_icmp .eq 13), ny_o 5 1 (.aload_n 0), ny_o 6 1 (.iload_n 1), ny_o 7 3 (.invokevirtual 120), ny_o 10 3 (.ifCond .ne 5), ny_o2 13 1 (.iconst (-1)) (-1), ny_o 14 1 .ireturn, ny_o 15 1 (.iload_n 1), ny_o 16 3 (.ifCond .lt 9), ny_o 19 1 (.aload_n 0), ny_o 20 1 (.iload_n 1), ny_o 21 3 (.invokevirtual 265), ny_o 24 1 .ireturn, ny_o2 25 1 (.iconst 0) 0, ny_o 26 1 (.istore_n 2), ny_o2 27 1 (.iconst 0) 0, ny_o 28 1 (.istore_n 3), ny_o 29 1 (.iload_n 3), ny_o 30 1 (.aload_n 0), ny_o1 31 3 (.getfield 7) 10 1, ny_o2 34 1 (.iconst 0) 0, ny_o 35 1 .iaload, ny_o 36 3 (.if_icmp .ge 39), ny_o 39 1 (.iload_n 2), ny_o 40 1 (.aload_n 0), ny_o 41 1 (.iload_n 3), ny_o 42 3 (.invokevirtual 93), ny_o 45 3 (.ifCond .eq 21), ny_o 48 1 (.aload_n 0), ny_o 49 1 (.iload_n 3), ny_o 50 3 (.invokevirtual 265), ny_o2 53 1 (.iconst 1) 1, ny_o 54 1 (.iload_n 3), ny_o 55 1 .ishl, ny_o2 56 1 (.iconst 1) 1, ny_o 57 1 .isub, ny_o 58 1 .iand, ny_o 59 3 (.ifCond .ne 7), ny_o2 62 1 (.iconst 1) 1, ny_o 63 3 (.goto 4), ny_o2 66 1 (.iconst 0) 0, ny_o 67 1 .iadd, ny_o 68 1 (.istore_n 2), ny_o2 69 3 (.iinc 3 1) 1, ny_o 72 3 (.goto (-43)), ny_o 75 1 (.iload_n 2), ny_o 76 1 .ireturn]
def m_Md_rings : ny_M := (⟨"NymphRotaModel", "rings", "(I)I"⟩, prog_13_method_72_code, 4, (Option.some Jvm.ClassFile.FieldType.int), false, pg_Md_rings)
def pg_Md_stepsBy : List ny_Op := [ny_o 0 1 (.iload_n 1), ny_o 1 2 (.istore 5), ny_o2 3 1 (.iconst 0) 0, ny_o 4 2 (.istore 6), ny_o 6 2 (.iload 5), ny_o 8 1 (.iload_n 2), ny_o 9 3 (.if_icmp .eq 48), ny_o 12 2 (.iload 6), ny_o2 14 2 (.bipush 99) 99, ny_o 16 3 (.if_icmp .ge 41), ny_o 19 2 (.iload 5), ny_o 21 2 (.iload 4), ny_o 23 1 .iadd, ny_o2 24 2 (.bipush 6) 6, ny_o 26 1 .irem, ny_o 27 2 (.istore 5), ny_o 29 1 (.aload_n 0), ny_o1 30 3 (.getfield 7) 10 1, ny_o2 33 2 (.bipush 44) 44, ny_o 35 2 (.iload 5), ny_o 37 1 .iadd, ny_o 38 1 .iaload, ny_o 39 1 (.iload_n 3), ny_o 40 3 (.if_icmp .le 8), ny_o2 43 2 (.bipush 99) 99, ny_o 45 3 (.goto 7), ny_o 48 2 (.iload 6), ny_o2 50 1 (.iconst 1) 1, ny_o 51 1 .iadd, ny_o 52 2 (.istore 6), ny_o 54 3 (.goto (-48)), ny_o 57 2 (.iload 6), ny_o 59 1 .ireturn]
def m_Md_stepsBy : ny_M := (⟨"NymphRotaModel", "stepsBy", "(IIII)I"⟩, prog_13_method_73_code, 7, (Option.some Jvm.ClassFile.FieldType.int), false, pg_Md_stepsBy)
def pg_Md_way : List ny_Op := [ny_o 0 1 (.iload_n 1), ny_o 1 3 (.invokestatic 71), ny_o 4 3 (.ifCond .eq 22), ny_o 7 1 (.iload_n 2), ny_o 8 3 (.invokestatic 71), ny_o 11 3 (.ifCond .eq 15), ny_o 14 1 (.iload_n 3), ny_o 15 1 .i2l, ny_o3 16 1 (.lconst 0) 0, ny_o3 17 3 (.ldc2_w 69) 9, ny_o 20 3 (.invokestatic 63), ny_o 23 3 (.ifCond .ne 5), ny_o2 26 1 (.iconst (-1)) (-1), ny_o 27 1 .ireturn, ny_o 28 1 (.aload_n 0), ny_o 29 1 (.iload_n 1), ny_o 30 1 (.iload_n 2), ny_o 31 1 (.iload_n 3), ny_o2 32 1 (.iconst 1) 1, ny_o 33 3 (.invokevirtual 268), ny_o 36 1 (.aload_n 0), ny_o 37 1 (.iload_n 1), ny_o 38 1 (.iload_n 2), ny_o 39 1 (.iload_n 3), ny_o2 40 1 (.iconst 5) 5, ny_o 41 3 (.invokevirtual 268), ny_o 44 3 (.invokestatic 79), ny_o 47 2 (.istore 4), ny_o 49 2 (.iload 4), ny_o2 51 2 (.bipush 99) 99, ny_o 53 3 (.if_icmp .ge 8), ny_o 56 2 (.iload 4), ny_o 58 3 (.goto 5), ny_o2 61 2 (.bipush (-3)) (-3), ny_o 63 1 .ireturn]
def m_Md_way : ny_M := (⟨"NymphRotaModel", "way", "(III)I"⟩, prog_13_method_74_code, 5, (Option.some Jvm.ClassFile.FieldType.int), false, pg_Md_way)
def pg_Md_isSet : List ny_Op := [ny_o 0 1 (.iload_n 1), ny_o 1 1 .i2l, ny_o3 2 1 (.lconst 0) 0, ny_o2 3 1 (.iconst 1) 1, ny_o 4 1 (.aload_n 0), ny_o1 5 3 (.getfield 7) 10 1, ny_o2 8 1 (.iconst 0) 0, ny_o 9 1 .iaload, ny_o 10 1 .ishl, ny_o2 11 1 (.iconst 1) 1, ny_o 12 1 .isub, ny_o 13 1 .i2l, ny_o 14 3 (.invokestatic 63), ny_o 17 1 .ireturn]
def m_Md_isSet : ny_M := (⟨"NymphRotaModel", "isSet", "(I)Z"⟩, prog_13_method_75_code, 2, (Option.some Jvm.ClassFile.FieldType.boolean), false, pg_Md_isSet)
def pg_Md_plans : List ny_Op := [ny_o 0 1 (.iload_n 1), ny_o 1 1 (.iload_n 2), ny_o 2 3 (.if_icmp .eq 10), ny_o 5 1 (.aload_n 0), ny_o 6 3 (.invokevirtual 144), ny_o 9 3 (.ifCond .eq 129), ny_o 12 1 (.iload_n 3), ny_o 13 1 (.aload_n 0), ny_o1 14 3 (.getfield 271) 10 45, ny_o 17 3 (.if_icmp .le 47), ny_o 20 1 (.aload_n 0), ny_o 21 1 (.iload_n 3), ny_o1 22 3 (.putfield 271) 10 45, ny_o 25 1 (.aload_n 0), ny_o2 26 1 (.iconst 0) 0, ny_o1 27 3 (.putfield 274) 10 48, ny_o 30 1 (.aload_n 0), ny_o 31 1 (.iload_n 1), ny_o1 32 3 (.putfield 277) 10 51, ny_o2 35 1 (.iconst 0) 0, ny_o 36 2 (.istore 5), ny_o 38 2 (.iload 5), ny_o2 40 1 (.iconst 4) 4, ny_o 41 3 (.if_icmp .ge 23), ny_o 44 1 (.aload_n 0), ny_o1 45 3 (.getfield 28) 10 43, ny_o 48 2 (.iload 5), ny_o 50 1 (.aload_n 0), ny_o1 51 3 (.getfield 25) 10 40, ny_o 54 2 (.iload 5), ny_o 56 1 .iaload, ny_o 57 1 .iastore, ny_o2 58 3 (.iinc 5 1) 1, ny_o 61 3 (.goto (-23)), ny_o 64 1 (.aload_n 0), ny_o 65 1 .dup, ny_o1 66 3 (.getfield 274) 10 48, ny_o 69 1 (.iload_n 3), ny_o 70 1 (.aload_n 0), ny_o1 71 3 (.getfield 271) 10 45, ny_o 74 3 (.if_icmp .ne 7), ny_o2 77 1 (.iconst 1) 1, ny_o 78 3 (.goto 4), ny_o2 81 1 (.iconst 0) 0, ny_o 82 1 .iadd, ny_o1 83 3 (.putfield 274) 10 48, ny_o 86 1 (.aload_n 0), ny_o 87 3 (.invokevirtual 148), ny_o 90 2 (.istore 5), ny_o 92 1 (.aload_n 0), ny_o 93 1 .dup, ny_o1 94 3 (.getfield 280) 10 60, ny_o 97 2 (.iload 5), ny_o 99 1 .ior, ny_o1 100 3 (.putfield 280) 10 60, ny_o 103 1 (.aload_n 0), ny_o 104 1 (.aload_n 0), ny_o1 105 3 (.getfield 283) 10 54, ny_o 108 2 (.iload 5), ny_o2 110 1 (.iconst (-1)) (-1), ny_o 111 1 .ixor, ny_o 112 1 .iand, ny_o 113 3 (.ifCond .ne 17), ny_o 116 2 (.iload 4), ny_o 118 1 (.aload_n 0), ny_o1 119 3 (.getfield 286) 10 57, ny_o 122 3 (.if_icmp .ge 8), ny_o 125 2 (.iload 4), ny_o 127 3 (.goto 7), ny_o 130 1 (.aload_n 0), ny_o1 131 3 (.getfield 286) 10 57, ny_o1 134 3 (.putfield 286) 10 57, ny_o 137 1 .return_, ny_o 138 1 (.aload_n 0), ny_o 139 1 (.iload_n 1), ny_o 140 3 (.invokevirtual 249), ny_o2 143 1 (.iconst 0) 0, ny_o 144 2 (.istore 5), ny_o 146 2 (.iload 5), ny_o 148 1 (.aload_n 0), ny_o1 149 3 (.getfield 7) 10 1, ny_o2 152 1 (.iconst 0) 0, ny_o 153 1 .iaload, ny_o 154 3 (.if_icmp .gt 56), ny_o 157 1 (.aload_n 0), ny_o1 158 3 (.getfield 25) 10 40, ny_o 161 1 (.iload_n 1), ny_o 162 2 (.iload 5), ny_o 164 1 .iastore, ny_o 165 1 (.aload_n 0), ny_o 166 2 (.iload 5), ny_o 168 3 (.invokevirtual 246), ny_o 171 2 (.istore 6), ny_o 173 1 (.aload_n 0), ny_o 174 1 (.iload_n 1), ny_o2 175 1 (.iconst 1) 1, ny_o 176 1 .iadd, ny_o 177 1 (.iload_n 2), ny_o 178 1 (.iload_n 3), ny_o 179 2 (.iload 6), ny_o 181 1 .iadd, ny_o 182 2 (.iload 5), ny_o 184 3 (.ifCond .ne 8), ny_o 187 2 (.iload 4), ny_o 189 3 (.goto 7), ny_o 192 2 (.iload 4), ny_o2 194 1 (.iconst 1) 1, ny_o 195 1 .iadd, ny_o 196 3 (.invokevirtual 289), ny_o 199 1 (.aload_n 0), ny_o 200 1 (.iload_n 1), ny_o 201 3 (.invokevirtual 253), ny_o2 204 3 (.iinc 5 1) 1, ny_o 207 3 (.goto (-61)), ny_o 210 1 .return_]
def m_Md_plans : ny_M := (⟨"NymphRotaModel", "plans", "(IIII)V"⟩, prog_13_method_76_code, 7, none, false, pg_Md_plans)
def pg_Md_findsPlans : List ny_Op := [ny_o 0 1 (.aload_n 0), ny_o2 1 1 (.iconst (-1)) (-1), ny_o1 2 3 (.putfield 271) 10 45, ny_o 5 1 (.aload_n 0), ny_o2 6 1 (.iconst 0) 0, ny_o1 7 3 (.putfield 274) 10 48, ny_o 10 1 (.aload_n 0), ny_o2 11 1 (.iconst 0) 0, ny_o1 12 3 (.putfield 277) 10 51, ny_o 15 1 (.aload_n 0), ny_o 16 1 (.iload_n 2), ny_o1 17 3 (.putfield 283) 10 54, ny_o 20 1 (.aload_n 0), ny_o2 21 2 (.bipush 9) 9, ny_o1 23 3 (.putfield 286) 10 57, ny_o 26 1 (.aload_n 0), ny_o2 27 1 (.iconst 0) 0, ny_o1 28 3 (.putfield 280) 10 60, ny_o 31 1 (.aload_n 0), ny_o2 32 1 (.iconst 0) 0, ny_o 33 1 (.iload_n 1), ny_o2 34 1 (.iconst 0) 0, ny_o2 35 1 (.iconst 0) 0, ny_o 36 3 (.invokevirtual 289), ny_o 39 1 .return_]
def m_Md_findsPlans : ny_M := (⟨"NymphRotaModel", "findsPlans", "(II)V"⟩, prog_13_method_77_code, 3, none, false, pg_Md_findsPlans)
def pg_Md_isLong : List ny_Op := [ny_o 0 1 (.iload_n 0), ny_o 1 1 .i2l, ny_o3 2 1 (.lconst 0) 0, ny_o3 3 3 (.ldc2_w 132) 4, ny_o 6 3 (.invokestatic 63), ny_o 9 1 .ireturn]
def m_Md_isLong : ny_M := (⟨"NymphRotaModel", "isLong", "(I)Z"⟩, prog_13_method_78_code, 1, (Option.some Jvm.ClassFile.FieldType.boolean), false, pg_Md_isLong)
def pg_Md_best : List ny_Op := [ny_o 0 1 (.iload_n 1), ny_o 1 3 (.invokestatic 293), ny_o 4 3 (.ifCond .ne 5), ny_o2 7 1 (.iconst (-1)) (-1), ny_o 8 1 .ireturn, ny_o 9 1 (.aload_n 0), ny_o 10 1 (.iload_n 1), ny_o2 11 1 (.iconst 0) 0, ny_o 12 3 (.invokevirtual 296), ny_o 15 1 (.aload_n 0), ny_o1 16 3 (.getfield 271) 10 45, ny_o 19 1 .ireturn]
def m_Md_best : ny_M := (⟨"NymphRotaModel", "best", "(I)I"⟩, prog_13_method_79_code, 2, (Option.some Jvm.ClassFile.FieldType.int), false, pg_Md_best)
def pg_Md_ith : List ny_Op := [ny_o 0 1 (.iload_n 1), ny_o 1 3 (.invokestatic 293), ny_o 4 3 (.ifCond .eq 15), ny_o 7 1 (.iload_n 2), ny_o 8 1 .i2l, ny_o3 9 1 (.lconst 0) 0, ny_o3 10 3 (.ldc2_w 300) 3, ny_o 13 3 (.invokestatic 63), ny_o 16 3 (.ifCond .ne 5), ny_o2 19 1 (.iconst (-1)) (-1), ny_o 20 1 .ireturn, ny_o 21 1 (.aload_n 0), ny_o 22 1 (.iload_n 1), ny_o2 23 1 (.iconst 0) 0, ny_o 24 3 (.invokevirtual 296), ny_o 27 1 (.iload_n 2), ny_o 28 1 (.aload_n 0), ny_o1 29 3 (.getfield 277) 10 51, ny_o 32 3 (.if_icmp .ge 12), ny_o 35 1 (.aload_n 0), ny_o1 36 3 (.getfield 28) 10 43, ny_o 39 1 (.iload_n 2), ny_o 40 1 .iaload, ny_o 41 3 (.goto 5), ny_o2 44 2 (.bipush (-3)) (-3), ny_o 46 1 .ireturn]
def m_Md_ith : ny_M := (⟨"NymphRotaModel", "ith", "(II)I"⟩, prog_13_method_80_code, 3, (Option.some Jvm.ClassFile.FieldType.int), false, pg_Md_ith)
def pg_Md_ways : List ny_Op := [ny_o 0 1 (.iload_n 1), ny_o 1 3 (.invokestatic 293), ny_o 4 3 (.ifCond .ne 5), ny_o2 7 1 (.iconst (-1)) (-1), ny_o 8 1 .ireturn, ny_o 9 1 (.aload_n 0), ny_o 10 1 (.iload_n 1), ny_o2 11 1 (.iconst 0) 0, ny_o 12 3 (.invokevirtual 296), ny_o 15 1 (.aload_n 0), ny_o1 16 3 (.getfield 274) 10 48, ny_o 19 1 .ireturn]
def m_Md_ways : ny_M := (⟨"NymphRotaModel", "ways", "(I)I"⟩, prog_13_method_81_code, 2, (Option.some Jvm.ClassFile.FieldType.int), false, pg_Md_ways)
def pg_Md_roster : List ny_Op := [ny_o 0 1 (.iload_n 1), ny_o 1 3 (.invokestatic 293), ny_o 4 3 (.ifCond .eq 11), ny_o 7 1 (.aload_n 0), ny_o 8 1 (.iload_n 2), ny_o 9 3 (.invokevirtual 302), ny_o 12 3 (.ifCond .ne 5), ny_o2 15 1 (.iconst (-1)) (-1), ny_o 16 1 .ireturn, ny_o 17 1 (.aload_n 0), ny_o 18 1 (.iload_n 1), ny_o 19 1 (.iload_n 2), ny_o 20 3 (.invokevirtual 296), ny_o 23 1 (.aload_n 0), ny_o1 24 3 (.getfield 286) 10 57, ny_o2 27 2 (.bipush 9) 9, ny_o 29 3 (.if_icmp .ge 10), ny_o 32 1 (.aload_n 0), ny_o1 33 3 (.getfield 286) 10 57, ny_o 36 3 (.goto 5), ny_o2 39 2 (.bipush (-3)) (-3), ny_o 41 1 .ireturn]
def m_Md_roster : ny_M := (⟨"NymphRotaModel", "roster", "(II)I"⟩, prog_13_method_82_code, 3, (Option.some Jvm.ClassFile.FieldType.int), false, pg_Md_roster)
def pg_Md_bars : List ny_Op := [ny_o 0 1 (.iload_n 1), ny_o 1 3 (.invokestatic 293), ny_o 4 3 (.ifCond .eq 11), ny_o 7 1 (.aload_n 0), ny_o 8 1 (.iload_n 2), ny_o 9 3 (.invokevirtual 302), ny_o 12 3 (.ifCond .ne 5), ny_o2 15 1 (.iconst (-1)) (-1), ny_o 16 1 .ireturn, ny_o 17 1 (.aload_n 0), ny_o 18 1 (.iload_n 1), ny_o 19 1 (.iload_n 2), ny_o 20 3 (.invokevirtual 296), ny_o2 23 1 (.iconst 0) 0, ny_o 24 1 (.istore_n 3), ny_o 25 1 (.iload_n 3), ny_o 26 1 (.aload_n 0), ny_o1 27 3 (.getfield 7) 10 1, ny_o2 30 1 (.iconst 0) 0, ny_o 31 1 .iaload, ny_o 32 3 (.if_icmp .ge 27), ny_o 35 1 (.iload_n 2), ny_o 36 1 (.aload_n 0), ny_o1 37 3 (.getfield 280) 10 60, ny_o2 40 1 (.iconst (-1)) (-1), ny_o 41 1 .ixor, ny_o 42 1 .iand, ny_o 43 1 (.iload_n 3), ny_o 44 1 .ishr, ny_o2 45 1 (.iconst 1) 1, ny_o 46 1 .iand, ny_o2 47 1 (.iconst 1) 1, ny_o 48 3 (.if_icmp .ne 5), ny_o 51 1 (.iload_n 3), ny_o 52 1 .ireturn, ny_o2 53 3 (.iinc 3 1) 1, ny_o 56 3 (.goto (-31)), ny_o2 59 2 (.bipush (-3)) (-3), ny_o 61 1 .ireturn]
def m_Md_bars : ny_M := (⟨"NymphRotaModel", "bars", "(II)I"⟩, prog_13_method_83_code, 4, (Option.some Jvm.ClassFile.FieldType.int), false, pg_Md_bars)
def pg_Md_valueFrom : List ny_Op := [ny_o 0 1 (.iload_n 1), ny_o 1 1 (.iload_n 2), ny_o 2 3 (.if_icmp .eq 10), ny_o 5 1 (.aload_n 0), ny_o 6 3 (.invokevirtual 144), ny_o 9 3 (.ifCond .eq 5), ny_o2 12 1 (.iconst 0) 0, ny_o 13 1 .ireturn, ny_o 14 1 (.aload_n 0), ny_o 15 1 (.iload_n 1), ny_o 16 3 (.invokevirtual 249), ny_o2 19 1 (.iconst 0) 0, ny_o 20 1 (.istore_n 3), ny_o2 21 1 (.iconst (-1)) (-1), ny_o 22 2 (.istore 4), ny_o2 24 1 (.iconst 0) 0, ny_o 25 2 (.istore 5), ny_o 27 2 (.iload 5), ny_o 29 1 (.aload_n 0), ny_o1 30 3 (.getfield 7) 10 1, ny_o2 33 1 (.iconst 0) 0, ny_o 34 1 .iaload, ny_o 35 3 (.if_icmp .gt 68), ny_o 38 1 (.aload_n 0), ny_o 39 2 (.iload 5), ny_o 41 3 (.invokevirtual 246), ny_o 44 2 (.istore 6), ny_o 46 2 (.iload 6), ny_o 48 1 (.aload_n 0), ny_o 49 1 (.iload_n 1), ny_o2 50 1 (.iconst 1) 1, ny_o 51 1 .iadd, ny_o 52 1 (.iload_n 2), ny_o 53 3 (.invokevirtual 305), ny_o 56 1 .iadd, ny_o 57 2 (.istore 7), ny_o 59 1 (.aload_n 0), ny_o 60 1 (.iload_n 1), ny_o 61 3 (.invokevirtual 253), ny_o 64 2 (.iload 4), ny_o 66 3 (.ifCond .lt 24), ny_o 69 1 (.iload_n 1), ny_o2 70 1 (.iconst 2) 2, ny_o 71 1 .irem, ny_o 72 3 (.ifCond .ne 12), ny_o 75 2 (.iload 7), ny_o 77 1 (.iload_n 3), ny_o 78 3 (.if_icmp .le 19), ny_o 81 3 (.goto 9), ny_o 84 2 (.iload 7), ny_o 86 1 (.iload_n 3), ny_o 87 3 (.if_icmp .ge 10), ny_o 90 2 (.iload 7), ny_o 92 1 (.istore_n 3), ny_o 93 2 (.iload 5), ny_o 95 2 (.istore 4), ny_o2 97 3 (.iinc 5 1) 1, ny_o 100 3 (.goto (-73)), ny_o 103 1 (.aload_n 0), ny_o 104 2 (.iload 4), ny_o1 106 3 (.putfield 308) 10 63, ny_o 109 1 (.iload_n 3), ny_o 110 1 .ireturn]
def m_Md_valueFrom : ny_M := (⟨"NymphRotaModel", "valueFrom", "(II)I"⟩, prog_13_method_84_code, 8, (Option.some Jvm.ClassFile.FieldType.int), false, pg_Md_valueFrom)
def pg_Md_game : List ny_Op := [ny_o 0 1 (.iload_n 1), ny_o 1 1 .i2l, ny_o3 2 1 (.lconst 1) 1, ny_o3 3 3 (.ldc2_w 132) 4, ny_o 6 3 (.invokestatic 63), ny_o 9 3 (.ifCond .eq 12), ny_o 12 1 (.aload_n 0), ny_o2 13 1 (.iconst 0) 0, ny_o 14 1 (.iload_n 1), ny_o 15 3 (.invokevirtual 305), ny_o 18 3 (.goto 4), ny_o2 21 1 (.iconst (-1)) (-1), ny_o 22 1 .ireturn]
def m_Md_game : ny_M := (⟨"NymphRotaModel", "game", "(I)I"⟩, prog_13_method_85_code, 2, (Option.some Jvm.ClassFile.FieldType.int), false, pg_Md_game)
def pg_Md_play : List ny_Op := [ny_o 0 1 (.iload_n 1), ny_o 1 1 .i2l, ny_o3 2 1 (.lconst 1) 1, ny_o3 3 3 (.ldc2_w 132) 4, ny_o 6 3 (.invokestatic 63), ny_o 9 3 (.ifCond .ne 5), ny_o2 12 1 (.iconst (-1)) (-1), ny_o 13 1 .ireturn, ny_o 14 1 (.aload_n 0), ny_o 15 3 (.invokevirtual 144), ny_o 18 3 (.ifCond .eq 6), ny_o2 21 2 (.bipush (-3)) (-3), ny_o 23 1 .ireturn, ny_o 24 1 (.aload_n 0), ny_o2 25 1 (.iconst 0) 0, ny_o 26 1 (.iload_n 1), ny_o 27 3 (.invokevirtual 305), ny_o 30 1 (.istore_n 2), ny_o 31 1 (.aload_n 0), ny_o1 32 3 (.getfield 308) 10 63, ny_o 35 1 .ireturn]
def m_Md_play : ny_M := (⟨"NymphRotaModel", "play", "(I)I"⟩, prog_13_method_86_code, 3, (Option.some Jvm.ClassFile.FieldType.int), false, pg_Md_play)
def pg_Md_report : List ny_Op := [ny_o 0 1 (.iload_n 2), ny_o 1 3 (.ifCond .ne 8), ny_o2 4 2 (.bipush 99) 99, ny_o 6 3 (.goto 6), ny_o2 9 3 (.sipush 999) 999, ny_o 12 2 (.istore 5), ny_o 14 1 (.iload_n 1), ny_o 15 1 .i2l, ny_o3 16 1 (.lconst 0) 0, ny_o3 17 3 (.ldc2_w 140) 15, ny_o 20 3 (.invokestatic 63), ny_o 23 3 (.ifCond .eq 39), ny_o 26 1 (.iload_n 2), ny_o 27 1 .i2l, ny_o3 28 1 (.lconst 0) 0, ny_o3 29 1 (.lconst 1) 1, ny_o 30 3 (.invokestatic 63), ny_o 33 3 (.ifCond .eq 29), ny_o 36 1 (.iload_n 3), ny_o 37 1 .i2l, ny_o3 38 1 (.lconst 0) 0, ny_o 39 2 (.iload 5), ny_o 41 1 .i2l, ny_o 42 3 (.invokestatic 63), ny_o 45 3 (.ifCond .eq 17), ny_o 48 2 (.iload 4), ny_o 50 1 .i2l, ny_o 51 1 (.iload_n 3), ny_o 52 1 .i2l, ny_o 53 2 (.iload 5), ny_o 55 1 .i2l, ny_o 56 3 (.invokestatic 63), ny_o 59 3 (.ifCond .ne 5), ny_o2 62 1 (.iconst (-1)) (-1), ny_o 63 1 .ireturn, ny_o 64 1 (.aload_n 0), ny_o1 65 3 (.getfield 7) 10 1, ny_o2 68 2 (.bipush 6) 6, ny_o 70 1 .iaload, ny_o2 71 2 (.bipush 6) 6, ny_o 73 3 (.if_icmp .ne 6), ny_o2 76 2 (.bipush (-2)) (-2), ny_o 78 1 .ireturn, ny_o2 79 2 (.bipush 98) 98, ny_o2 81 1 (.iconst 4) 4, ny_o 82 1 (.aload_n 0), ny_o1 83 3 (.getfield 7) 10 1, ny_o2 86 2 (.bipush 6) 6, ny_o 88 1 .iaload, ny_o 89 1 .imul, ny_o 90 1 .iadd, ny_o 91 2 (.istore 6), ny_o 93 1 (.aload_n 0), ny_o1 94 3 (.getfield 7) 10 1, ny_o 97 2 (.iload 6), ny_o 99 1 (.iload_n 1), ny_o 100 1 .iastore, ny_o 101 1 (.aload_n 0), ny_o1 102 3 (.getfield 7) 10 1, ny_o 105 2 (.iload 6), ny_o2 107 1 (.iconst 1) 1, ny_o 108 1 .iadd, ny_o 109 1 (.iload_n 2), ny_o 110 1 .iastore, ny_o 111 1 (.aload_n 0), ny_o1 112 3 (.getfield 7) 10 1, ny_o 115 2 (.iload 6), ny_o2 117 1 (.iconst 2) 2, ny_o 118 1 .iadd, ny_o 119 1 (.iload_n 3), ny_o 120 1 .iastore, ny_o 121 1 (.aload_n 0), ny_o1 122 3 (.getfield 7) 10 1, ny_o 125 2 (.iload 6), ny_o2 127 1 (.iconst 3) 3, ny_o 128 1 .iadd, ny_o 129 2 (.iload 4), ny_o 131 1 .iastore, ny_o 132 1 (.aload_n 0), ny_o1 133 3 (.getfield 7) 10 1, ny_o2 136 2 (.bipush 6) 6, ny_o 138 1 .dup2, ny_o 139 1 .iaload, ny_o2 140 1 (.iconst 1) 1, ny_o 141 1 .iadd, ny_o 142 1 .iastore, ny_o 143 1 (.aload_n 0), ny_o1 144 3 (.getfield 7) 10 1, ny_o2 147 2 (.bipush 6) 6, ny_o 149 1 .iaload, ny_o2 150 1 (.iconst 1) 1, ny_o 151 1 .isub, ny_o 152 1 .ireturn]
def m_Md_report : ny_M := (⟨"NymphRotaModel", "report", "(IIII)I"⟩, prog_13_method_87_code, 7, (Option.some Jvm.ClassFile.FieldType.int), false, pg_Md_report)
def pg_Md_forget : List ny_Op := [ny_o 0 1 (.aload_n 0), ny_o2 1 2 (.bipush 6) 6, ny_o2 3 1 (.iconst 0) 0, ny_o 4 3 (.invokevirtual 137), ny_o 7 1 .ireturn]
def m_Md_forget : ny_M := (⟨"NymphRotaModel", "forget", "()I"⟩, prog_13_method_88_code, 1, (Option.some Jvm.ClassFile.FieldType.int), false, pg_Md_forget)
def pg_Md_stands : List ny_Op := [ny_o 0 1 (.aload_n 0), ny_o1 1 3 (.getfield 31) 10 67, ny_o2 4 1 (.iconst 0) 0, ny_o 5 1 (.iload_n 3), ny_o 6 1 .iastore, ny_o 7 1 (.aload_n 0), ny_o1 8 3 (.getfield 34) 10 70, ny_o2 11 1 (.iconst 0) 0, ny_o2 12 1 (.iconst 0) 0, ny_o 13 1 .iastore, ny_o2 14 1 (.iconst 0) 0, ny_o 15 2 (.istore 4), ny_o 17 2 (.iload 4), ny_o2 19 2 (.bipush 15) 15, ny_o 21 3 (.if_icmp .ge 96), ny_o 24 1 (.aload_n 0), ny_o1 25 3 (.getfield 31) 10 67, ny_o 28 2 (.iload 4), ny_o2 30 1 (.iconst 1) 1, ny_o 31 1 .iadd, ny_o2 32 2 (.bipush 99) 99, ny_o 34 1 (.aload_n 0), ny_o1 35 3 (.getfield 31) 10 67, ny_o 38 2 (.iload 4), ny_o 40 1 .iaload, ny_o 41 1 (.iload_n 1), ny_o 42 2 (.iload 4), ny_o 44 1 (.aload_n 0), ny_o1 45 3 (.getfield 7) 10 1, ny_o2 48 2 (.bipush 50) 50, ny_o 50 2 (.iload 4), ny_o 52 1 .iadd, ny_o 53 1 .iaload, ny_o 54 3 (.invokestatic 89), ny_o 57 1 .iadd, ny_o 58 3 (.invokestatic 79), ny_o 61 1 .iastore, ny_o 62 1 (.aload_n 0), ny_o1 63 3 (.getfield 34) 10 70, ny_o 66 2 (.iload 4), ny_o2 68 1 (.iconst 1) 1, ny_o 69 1 .iadd, ny_o 70 1 (.aload_n 0), ny_o1 71 3 (.getfield 34) 10 70, ny_o 74 2 (.iload 4), ny_o 76 1 .iaload, ny_o 77 1 (.aload_n 0), ny_o1 78 3 (.getfield 31) 10 67, ny_o 81 2 (.iload 4), ny_o 83 1 .iaload, ny_o2 84 2 (.bipush 60) 60, ny_o 86 3 (.if_icmp .ge 22), ny_o 89 1 (.iload_n 1), ny_o 90 1 (.iload_n 2), ny_o2 91 1 (.iconst 0) 0, ny_o 92 1 (.aload_n 0), ny_o1 93 3 (.getfield 7) 10 1, ny_o2 96 2 (.bipush 50) 50, ny_o 98 2 (.iload 4), ny_o 100 1 .iadd, ny_o 101 1 .iaload, ny_o 102 3 (.invokestatic 96), ny_o 105 3 (.goto 4), ny_o2 108 1 (.iconst 0) 0, ny_o 109 1 .iadd, ny_o 110 1 .iastore, ny_o2 111 3 (.iinc 4 1) 1, ny_o 114 3 (.goto (-97)), ny_o 117 1 .return_]
def m_Md_stands : ny_M := (⟨"NymphRotaModel", "stands", "(III)V"⟩, prog_13_method_89_code, 5, none, false, pg_Md_stands)
def pg_Md_isFit : List ny_Op := [ny_o2 0 1 (.iconst 1) 1, ny_o 1 1 (.istore_n 2), ny_o2 2 1 (.iconst 0) 0, ny_o 3 1 (.istore_n 3), ny_o 4 1 (.iload_n 3), ny_o 5 1 (.aload_n 0), ny_o1 6 3 (.getfield 7) 10 1, ny_o2 9 2 (.bipush 6) 6, ny_o 11 1 .iaload, ny_o 12 3 (.if_icmp .ge 100), ny_o2 15 2 (.bipush 98) 98, ny_o2 17 1 (.iconst 4) 4, ny_o 18 1 (.iload_n 3), ny_o 19 1 .imul, ny_o 20 1 .iadd, ny_o 21 2 (.istore 4), ny_o 23 1 (.aload_n 0), ny_o1 24 3 (.getfield 7) 10 1, ny_o 27 2 (.iload 4), ny_o2 29 1 (.iconst 1) 1, ny_o 30 1 .iadd, ny_o 31 1 .iaload, ny_o 32 3 (.ifCond .ne 18), ny_o 35 1 (.aload_n 0), ny_o1 36 3 (.getfield 31) 10 67, ny_o 39 1 (.aload_n 0), ny_o1 40 3 (.getfield 7) 10 1, ny_o 43 2 (.iload 4), ny_o 45 1 .iaload, ny_o 46 1 .iaload, ny_o 47 3 (.goto 15), ny_o 50 1 (.aload_n 0), ny_o1 51 3 (.getfield 34) 10 70, ny_o 54 1 (.aload_n 0), ny_o1 55 3 (.getfield 7) 10 1, ny_o 58 2 (.iload 4), ny_o 60 1 .iaload, ny_o 61 1 .iaload, ny_o 62 2 (.istore 5), ny_o 64 1 (.iload_n 2), ny_o 65 1 (.iload_n 3), ny_o 66 1 (.iload_n 1), ny_o 67 3 (.if_icmp .eq 32), ny_o 70 2 (.iload 5), ny_o 72 1 .i2l, ny_o 73 1 (.aload_n 0), ny_o1 74 3 (.getfield 7) 10 1, ny_o 77 2 (.iload 4), ny_o2 79 1 (.iconst 2) 2, ny_o 80 1 .iadd, ny_o 81 1 .iaload, ny_o 82 1 .i2l, ny_o 83 1 (.aload_n 0), ny_o1 84 3 (.getfield 7) 10 1, ny_o 87 2 (.iload 4), ny_o2 89 1 (.iconst 3) 3, ny_o 90 1 .iadd, ny_o 91 1 .iaload, ny_o 92 1 .i2l, ny_o 93 3 (.invokestatic 63), ny_o 96 3 (.ifCond .eq 7), ny_o2 99 1 (.iconst 1) 1, ny_o 100 3 (.goto 4), ny_o2 103 1 (.iconst 0) 0, ny_o 104 1 .iand, ny_o 105 1 (.istore_n 2), ny_o2 106 3 (.iinc 3 1) 1, ny_o 109 3 (.goto (-105)), ny_o 112 1 (.iload_n 2), ny_o 113 1 .ireturn]
def m_Md_isFit : ny_M := (⟨"NymphRotaModel", "isFit", "(I)Z"⟩, prog_13_method_90_code, 6, (Option.some Jvm.ClassFile.FieldType.boolean), false, pg_Md_isFit)
def pg_Md_findsFits : List ny_Op := [ny_o 0 1 (.aload_n 0), ny_o2 1 1 (.iconst 0) 0, ny_o1 2 3 (.putfield 311) 10 72, ny_o 5 1 (.aload_n 0), ny_o2 6 2 (.bipush (-3)) (-3), ny_o1 8 3 (.putfield 314) 10 75, ny_o2 11 2 (.bipush 100) 100, ny_o 13 1 (.istore_n 2), ny_o 14 1 (.iload_n 2), ny_o2 15 3 (.sipush 600) 600, ny_o 18 3 (.if_icmp .ge 68), ny_o 21 1 (.aload_n 0), ny_o 22 1 (.iload_n 2), ny_o2 23 2 (.bipush 100) 100, ny_o 25 1 .idiv, ny_o 26 1 (.iload_n 2), ny_o2 27 2 (.bipush 10) 10, ny_o 29 1 .idiv, ny_o2 30 2 (.bipush 10) 10, ny_o 32 1 .irem, ny_o 33 1 (.iload_n 2), ny_o2 34 2 (.bipush 10) 10, ny_o 36 1 .irem, ny_o2 37 2 (.bipush 10) 10, ny_o 39 1 .imul, ny_o 40 3 (.invokevirtual 317), ny_o 43 1 (.aload_n 0), ny_o 44 1 (.iload_n 1), ny_o 45 3 (.invokevirtual 320), ny_o 48 3 (.ifCond .eq 32), ny_o 51 1 (.aload_n 0), ny_o 52 1 (.aload_n 0), ny_o1 53 3 (.getfield 311) 10 72, ny_o 56 3 (.ifCond .ne 7), ny_o 59 1 (.iload_n 2), ny_o 60 3 (.goto 7), ny_o 63 1 (.aload_n 0), ny_o1 64 3 (.getfield 314) 10 75, ny_o1 67 3 (.putfield 314) 10 75, ny_o 70 1 (.aload_n 0), ny_o 71 1 .dup, ny_o1 72 3 (.getfield 311) 10 72, ny_o2 75 1 (.iconst 1) 1, ny_o 76 1 .iadd, ny_o1 77 3 (.putfield 311) 10 72, ny_o2 80 3 (.iinc 2 1) 1, ny_o 83 3 (.goto (-69)), ny_o 86 1 .return_]
def m_Md_findsFits : ny_M := (⟨"NymphRotaModel", "findsFits", "(I)V"⟩, prog_13_method_91_code, 3, none, false, pg_Md_findsFits)
def pg_Md_nymph : List ny_Op := [ny_o 0 1 (.iload_n 1), ny_o 1 1 .i2l, ny_o3 2 1 (.lconst 0) 0, ny_o3 3 3 (.ldc2_w 300) 3, ny_o 6 3 (.invokestatic 63), ny_o 9 3 (.ifCond .ne 5), ny_o2 12 1 (.iconst (-1)) (-1), ny_o 13 1 .ireturn, ny_o 14 1 (.aload_n 0), ny_o2 15 1 (.iconst (-1)) (-1), ny_o 16 3 (.invokevirtual 323), ny_o 19 1 (.iload_n 1), ny_o 20 3 (.ifCond .eq 10), ny_o 23 1 (.aload_n 0), ny_o1 24 3 (.getfield 311) 10 72, ny_o 27 3 (.ifCond .ne 17), ny_o 30 1 (.iload_n 1), ny_o 31 3 (.ifCond .ne 10), ny_o 34 1 (.aload_n 0), ny_o1 35 3 (.getfield 311) 10 72, ny_o 38 3 (.goto 5), ny_o2 41 2 (.bipush (-3)) (-3), ny_o 43 1 .ireturn, ny_o 44 1 (.iload_n 1), ny_o2 45 1 (.iconst 1) 1, ny_o 46 3 (.if_icmp .ne 13), ny_o 49 1 (.aload_n 0), ny_o1 50 3 (.getfield 314) 10 75, ny_o2 53 2 (.bipush 100) 100, ny_o 55 1 .idiv, ny_o 56 3 (.goto 31), ny_o 59 1 (.iload_n 1), ny_o2 60 1 (.iconst 2) 2, ny_o 61 3 (.if_icmp .ne 16), ny_o 64 1 (.aload_n 0), ny_o1 65 3 (.getfield 314) 10 75, ny_o2 68 2 (.bipush 10) 10, ny_o 70 1 .idiv, ny_o2 71 2 (.bipush 10) 10, ny_o 73 1 .irem, ny_o 74 3 (.goto 13), ny_o 77 1 (.aload_n 0), ny_o1 78 3 (.getfield 314) 10 75, ny_o2 81 2 (.bipush 10) 10, ny_o 83 1 .irem, ny_o2 84 2 (.bipush 10) 10, ny_o 86 1 .imul, ny_o 87 1 .ireturn]
def m_Md_nymph : ny_M := (⟨"NymphRotaModel", "nymph", "(I)I"⟩, prog_13_method_92_code, 2, (Option.some Jvm.ClassFile.FieldType.int), false, pg_Md_nymph)
def pg_Md_liar : List ny_Op := [ny_o 0 1 (.aload_n 0), ny_o2 1 1 (.iconst (-1)) (-1), ny_o 2 3 (.invokevirtual 323), ny_o2 5 2 (.bipush (-3)) (-3), ny_o 7 1 (.istore_n 1), ny_o 8 1 (.aload_n 0), ny_o1 9 3 (.getfield 311) 10 72, ny_o 12 3 (.ifCond .ne 7), ny_o2 15 1 (.iconst 1) 1, ny_o 16 3 (.goto 4), ny_o2 19 1 (.iconst 0) 0, ny_o 20 1 (.istore_n 2), ny_o2 21 1 (.iconst 0) 0, ny_o 22 1 (.istore_n 3), ny_o 23 1 (.iload_n 3), ny_o 24 1 (.aload_n 0), ny_o1 25 3 (.getfield 7) 10 1, ny_o2 28 2 (.bipush 6) 6, ny_o 30 1 .iaload, ny_o 31 3 (.if_icmp .ge 36), ny_o 34 1 (.iload_n 2), ny_o 35 3 (.ifCond .eq 32), ny_o 38 1 (.iload_n 1), ny_o 39 3 (.ifCond .ge 28), ny_o 42 1 (.aload_n 0), ny_o 43 1 (.iload_n 3), ny_o 44 3 (.invokevirtual 323), ny_o 47 1 (.aload_n 0), ny_o1 48 3 (.getfield 311) 10 72, ny_o 51 3 (.ifCond .le 7), ny_o 54 1 (.iload_n 3), ny_o 55 3 (.goto 5), ny_o2 58 2 (.bipush (-3)) (-3), ny_o 60 1 (.istore_n 1), ny_o2 61 3 (.iinc 3 1) 1, ny_o 64 3 (.goto (-41)), ny_o 67 1 (.iload_n 1), ny_o 68 1 .ireturn]
def m_Md_liar : ny_M := (⟨"NymphRotaModel", "liar", "()I"⟩, prog_13_method_93_code, 4, (Option.some Jvm.ClassFile.FieldType.int), false, pg_Md_liar)
def pg_Md_seed : List ny_Op := [ny_o 0 1 (.aload_n 0), ny_o2 1 1 (.iconst 4) 4, ny_o 2 1 (.iload_n 1), ny_o 3 3 (.invokevirtual 137), ny_o 6 1 .ireturn]
def m_Md_seed : ny_M := (⟨"NymphRotaModel", "seed", "(I)I"⟩, prog_13_method_94_code, 2, (Option.some Jvm.ClassFile.FieldType.int), false, pg_Md_seed)
def pg_Md_goesByLot : List ny_Op := [ny_o 0 1 (.aload_n 0), ny_o1 1 3 (.getfield 7) 10 1, ny_o2 4 1 (.iconst 4) 4, ny_o 5 1 (.aload_n 0), ny_o1 6 3 (.getfield 7) 10 1, ny_o2 9 1 (.iconst 4) 4, ny_o 10 1 .iaload, ny_o2 11 3 (.ldc_w 326) 1103515245, ny_o 14 1 .imul, ny_o2 15 3 (.sipush 12345) 12345, ny_o 18 1 .iadd, ny_o 19 1 .iastore, ny_o 20 1 (.aload_n 0), ny_o 21 1 (.aload_n 0), ny_o1 22 3 (.getfield 7) 10 1, ny_o2 25 1 (.iconst 4) 4, ny_o 26 1 .iaload, ny_o2 27 2 (.bipush 16) 16, ny_o 29 1 .iushr, ny_o 30 1 (.aload_n 0), ny_o1 31 3 (.getfield 7) 10 1, ny_o2 34 1 (.iconst 0) 0, ny_o 35 1 .iaload, ny_o2 36 1 (.iconst 1) 1, ny_o 37 1 .iadd, ny_o 38 1 .irem, ny_o 39 3 (.invokevirtual 246), ny_o 42 1 .ireturn]
def m_Md_goesByLot : ny_M := (⟨"NymphRotaModel", "goesByLot", "()I"⟩, prog_13_method_95_code, 1, (Option.some Jvm.ClassFile.FieldType.int), false, pg_Md_goesByLot)
def pg_Md_lot : List ny_Op := [ny_o 0 1 (.aload_n 0), ny_o 1 3 (.invokevirtual 144), ny_o 4 3 (.ifCond .eq 8), ny_o2 7 2 (.bipush (-4)) (-4), ny_o 9 3 (.goto 7), ny_o 12 1 (.aload_n 0), ny_o 13 3 (.invokevirtual 327), ny_o 16 1 .ireturn]
def m_Md_lot : ny_M := (⟨"NymphRotaModel", "lot", "()I"⟩, prog_13_method_96_code, 1, (Option.some Jvm.ClassFile.FieldType.int), false, pg_Md_lot)
def pg_Md_times : List ny_Op := [ny_o 0 1 (.iload_n 1), ny_o 1 1 .i2l, ny_o3 2 1 (.lconst 1) 1, ny_o3 3 3 (.ldc2_w 330) 40, ny_o 6 3 (.invokestatic 63), ny_o 9 3 (.ifCond .eq 15), ny_o 12 1 (.iload_n 2), ny_o 13 1 .i2l, ny_o3 14 1 (.lconst 0) 0, ny_o3 15 3 (.ldc2_w 332) 999, ny_o 18 3 (.invokestatic 63), ny_o 21 3 (.ifCond .ne 5), ny_o2 24 1 (.iconst (-1)) (-1), ny_o 25 1 .ireturn, ny_o 26 1 (.aload_n 0), ny_o2 27 1 (.iconst 0) 0, ny_o 28 3 (.invokevirtual 249), ny_o2 31 1 (.iconst 0) 0, ny_o 32 1 (.istore_n 3), ny_o2 33 1 (.iconst 0) 0, ny_o 34 2 (.istore 4), ny_o 36 2 (.iload 4), ny_o 38 1 (.iload_n 1), ny_o 39 3 (.if_icmp .ge 80), ny_o 42 1 (.aload_n 0), ny_o1 43 3 (.getfield 7) 10 1, ny_o2 46 1 (.iconst 4) 4, ny_o 47 1 .iaload, ny_o 48 2 (.istore 5), ny_o 50 1 (.aload_n 0), ny_o2 51 1 (.iconst 0) 0, ny_o 52 3 (.invokevirtual 253), ny_o 55 1 (.aload_n 0), ny_o1 56 3 (.getfield 7) 10 1, ny_o2 59 1 (.iconst 4) 4, ny_o 60 2 (.iload 4), ny_o 62 3 (.ifCond .ne 12), ny_o 65 1 (.aload_n 0), ny_o1 66 3 (.getfield 7) 10 1, ny_o2 69 1 (.iconst 4) 4, ny_o 70 1 .iaload, ny_o 71 3 (.goto 5), ny_o 74 2 (.iload 5), ny_o 76 1 .iastore, ny_o2 77 1 (.iconst 0) 0, ny_o 78 2 (.istore 6), ny_o 80 1 (.aload_n 0), ny_o 81 3 (.invokevirtual 144), ny_o 84 3 (.ifCond .ne 15), ny_o 87 2 (.iload 6), ny_o 89 1 (.aload_n 0), ny_o 90 3 (.invokevirtual 327), ny_o 93 1 .iadd, ny_o 94 2 (.istore 6), ny_o 96 3 (.goto (-16)), ny_o 99 1 (.iload_n 3), ny_o 100 2 (.iload 6), ny_o 102 1 (.iload_n 2), ny_o 103 3 (.if_icmp .lt 7), ny_o2 106 1 (.iconst 1) 1, ny_o 107 3 (.goto 4), ny_o2 110 1 (.iconst 0) 0, ny_o 111 1 .iadd, ny_o 112 1 (.istore_n 3), ny_o2 113 3 (.iinc 4 1) 1, ny_o 116 3 (.goto (-80)), ny_o 119 1 (.aload_n 0), ny_o2 120 1 (.iconst 0) 0, ny_o 121 3 (.invokevirtual 253), ny_o 124 1 (.iload_n 3), ny_o 125 1 .ireturn]
def m_Md_times : ny_M := (⟨"NymphRotaModel", "times", "(II)I"⟩, prog_13_method_97_code, 7, (Option.some Jvm.ClassFile.FieldType.int), false, pg_Md_times)
def pg_Md_prove : List ny_Op := [ny_o 0 1 (.iload_n 1), ny_o 1 3 (.invokestatic 293), ny_o 4 3 (.ifCond .ne 5), ny_o2 7 1 (.iconst (-1)) (-1), ny_o 8 1 .ireturn, ny_o 9 1 (.aload_n 0), ny_o 10 1 (.iload_n 1), ny_o2 11 1 (.iconst 0) 0, ny_o 12 3 (.invokevirtual 296), ny_o 15 1 (.aload_n 0), ny_o2 16 1 (.iconst 0) 0, ny_o 17 3 (.invokevirtual 249), ny_o2 20 1 (.iconst 0) 0, ny_o 21 1 (.istore_n 2), ny_o 22 1 (.iload_n 2), ny_o 23 1 (.aload_n 0), ny_o1 24 3 (.getfield 277) 10 51, ny_o 27 3 (.if_icmp .ge 57), ny_o 30 1 (.aload_n 0), ny_o1 31 3 (.getfield 37) 10 79, ny_o2 34 1 (.iconst 3) 3, ny_o 35 1 (.iload_n 2), ny_o 36 1 .imul, ny_o 37 1 (.aload_n 0), ny_o1 38 3 (.getfield 28) 10 43, ny_o 41 1 (.iload_n 2), ny_o 42 1 .iaload, ny_o 43 1 .iastore, ny_o 44 1 (.aload_n 0), ny_o1 45 3 (.getfield 37) 10 79, ny_o2 48 1 (.iconst 3) 3, ny_o 49 1 (.iload_n 2), ny_o 50 1 .imul, ny_o2 51 1 (.iconst 1) 1, ny_o 52 1 .iadd, ny_o 53 1 (.aload_n 0), ny_o 54 1 (.aload_n 0), ny_o1 55 3 (.getfield 28) 10 43, ny_o 58 1 (.iload_n 2), ny_o 59 1 .iaload, ny_o 60 3 (.invokevirtual 246), ny_o 63 1 .iastore, ny_o 64 1 (.aload_n 0), ny_o1 65 3 (.getfield 37) 10 79, ny_o2 68 1 (.iconst 3) 3, ny_o 69 1 (.iload_n 2), ny_o 70 1 .imul, ny_o2 71 1 (.iconst 2) 2, ny_o 72 1 .iadd, ny_o 73 1 (.aload_n 0), ny_o 74 3 (.invokevirtual 148), ny_o 77 1 .iastore, ny_o2 78 3 (.iinc 2 1) 1, ny_o 81 3 (.goto (-59)), ny_o 84 1 (.aload_n 0), ny_o2 85 1 (.iconst 0) 0, ny_o 86 3 (.invokevirtual 253), ny_o 89 1 (.aload_n 0), ny_o 90 1 (.aload_n 0), ny_o1 91 3 (.getfield 277) 10 51, ny_o1 94 3 (.putfield 334) 10 81, ny_o 97 1 (.aload_n 0), ny_o1 98 3 (.getfield 334) 10 81, ny_o 101 1 .ireturn]
def m_Md_prove : ny_M := (⟨"NymphRotaModel", "prove", "(I)I"⟩, prog_13_method_98_code, 3, (Option.some Jvm.ClassFile.FieldType.int), false, pg_Md_prove)
def pg_Md_isRow : List ny_Op := [ny_o 0 1 (.iload_n 1), ny_o 1 1 .i2l, ny_o3 2 1 (.lconst 0) 0, ny_o 3 1 (.aload_n 0), ny_o1 4 3 (.getfield 334) 10 81, ny_o2 7 1 (.iconst 1) 1, ny_o 8 1 .isub, ny_o 9 1 .i2l, ny_o 10 3 (.invokestatic 63), ny_o 13 3 (.ifCond .eq 19), ny_o 16 1 (.iload_n 2), ny_o 17 1 .i2l, ny_o3 18 1 (.lconst 0) 0, ny_o3 19 3 (.ldc2_w 103) 2, ny_o 22 3 (.invokestatic 63), ny_o 25 3 (.ifCond .eq 7), ny_o2 28 1 (.iconst 1) 1, ny_o 29 3 (.goto 4), ny_o2 32 1 (.iconst 0) 0, ny_o 33 1 .ireturn]
def m_Md_isRow : ny_M := (⟨"NymphRotaModel", "isRow", "(II)Z"⟩, prog_13_method_99_code, 3, (Option.some Jvm.ClassFile.FieldType.boolean), false, pg_Md_isRow)
def pg_Md_row : List ny_Op := [ny_o 0 1 (.aload_n 0), ny_o 1 1 (.iload_n 1), ny_o 2 1 (.iload_n 2), ny_o 3 3 (.invokevirtual 337), ny_o 6 3 (.ifCond .eq 16), ny_o 9 1 (.aload_n 0), ny_o1 10 3 (.getfield 37) 10 79, ny_o2 13 1 (.iconst 3) 3, ny_o 14 1 (.iload_n 1), ny_o 15 1 .imul, ny_o 16 1 (.iload_n 2), ny_o 17 1 .iadd, ny_o 18 1 .iaload, ny_o 19 3 (.goto 5), ny_o2 22 2 (.bipush (-9)) (-9), ny_o 24 1 .ireturn]
def m_Md_row : ny_M := (⟨"NymphRotaModel", "row", "(II)I"⟩, prog_13_method_100_code, 3, (Option.some Jvm.ClassFile.FieldType.int), false, pg_Md_row)
def pg_Md_alterRow : List ny_Op := [ny_o 0 1 (.aload_n 0), ny_o 1 1 (.iload_n 1), ny_o 2 1 (.iload_n 2), ny_o 3 3 (.invokevirtual 337), ny_o 6 3 (.ifCond .ne 6), ny_o2 9 2 (.bipush (-9)) (-9), ny_o 11 1 .ireturn, ny_o 12 1 (.aload_n 0), ny_o1 13 3 (.getfield 37) 10 79, ny_o2 16 1 (.iconst 3) 3, ny_o 17 1 (.iload_n 1), ny_o 18 1 .imul, ny_o 19 1 (.iload_n 2), ny_o 20 1 .iadd, ny_o 21 1 .iaload, ny_o 22 2 (.istore 4), ny_o 24 1 (.aload_n 0), ny_o1 25 3 (.getfield 37) 10 79, ny_o2 28 1 (.iconst 3) 3, ny_o 29 1 (.iload_n 1), ny_o 30 1 .imul, ny_o 31 1 (.iload_n 2), ny_o 32 1 .iadd, ny_o 33 1 (.iload_n 3), ny_o 34 1 .iastore, ny_o 35 2 (.iload 4), ny_o 37 1 .ireturn]
def m_Md_alterRow : ny_M := (⟨"NymphRotaModel", "alterRow", "(III)I"⟩, prog_13_method_101_code, 5, (Option.some Jvm.ClassFile.FieldType.int), false, pg_Md_alterRow)
def pg_Md_isAct : List ny_Op := [ny_o 0 1 (.iload_n 1), ny_o 1 1 .i2l, ny_o3 2 1 (.lconst 0) 0, ny_o 3 1 (.aload_n 0), ny_o1 4 3 (.getfield 7) 10 1, ny_o2 7 1 (.iconst 0) 0, ny_o 8 1 .iaload, ny_o 9 1 .i2l, ny_o 10 3 (.invokestatic 63), ny_o 13 1 .ireturn]
def m_Md_isAct : ny_M := (⟨"NymphRotaModel", "isAct", "(I)Z"⟩, prog_13_method_102_code, 2, (Option.some Jvm.ClassFile.FieldType.boolean), false, pg_Md_isAct)
def pg_Md_judge : List ny_Op := [ny_o 0 1 (.aload_n 0), ny_o2 1 1 (.iconst 0) 0, ny_o 2 3 (.invokevirtual 249), ny_o2 5 1 (.iconst 0) 0, ny_o 6 1 (.istore_n 1), ny_o2 7 1 (.iconst 1) 1, ny_o 8 1 (.istore_n 2), ny_o 9 1 (.iload_n 1), ny_o 10 1 (.aload_n 0), ny_o1 11 3 (.getfield 334) 10 81, ny_o 14 3 (.if_icmp .ge 83), ny_o 17 1 (.iload_n 2), ny_o 18 3 (.ifCond .eq 79), ny_o 21 1 (.aload_n 0), ny_o 22 1 (.aload_n 0), ny_o1 23 3 (.getfield 37) 10 79, ny_o2 26 1 (.iconst 3) 3, ny_o 27 1 (.iload_n 1), ny_o 28 1 .imul, ny_o 29 1 .iaload, ny_o 30 3 (.invokevirtual 340), ny_o 33 3 (.ifCond .eq 56), ny_o 36 1 (.aload_n 0), ny_o 37 3 (.invokevirtual 144), ny_o 40 3 (.ifCond .ne 49), ny_o 43 1 (.aload_n 0), ny_o 44 1 (.aload_n 0), ny_o1 45 3 (.getfield 37) 10 79, ny_o2 48 1 (.iconst 3) 3, ny_o 49 1 (.iload_n 1), ny_o 50 1 .imul, ny_o 51 1 .iaload, ny_o 52 3 (.invokevirtual 246), ny_o 55 1 (.aload_n 0), ny_o1 56 3 (.getfield 37) 10 79, ny_o2 59 1 (.iconst 3) 3, ny_o 60 1 (.iload_n 1), ny_o 61 1 .imul, ny_o2 62 1 (.iconst 1) 1, ny_o 63 1 .iadd, ny_o 64 1 .iaload, ny_o 65 3 (.if_icmp .ne 24), ny_o 68 1 (.aload_n 0), ny_o 69 3 (.invokevirtual 148), ny_o 72 1 (.aload_n 0), ny_o1 73 3 (.getfield 37) 10 79, ny_o2 76 1 (.iconst 3) 3, ny_o 77 1 (.iload_n 1), ny_o 78 1 .imul, ny_o2 79 1 (.iconst 2) 2, ny_o 80 1 .iadd, ny_o 81 1 .iaload, ny_o 82 3 (.if_icmp .ne 7), ny_o2 85 1 (.iconst 1) 1, ny_o 86 3 (.goto 4), ny_o2 89 1 (.iconst 0) 0, ny_o 90 1 (.istore_n 2), ny_o2 91 3 (.iinc 1 1) 1, ny_o 94 3 (.goto (-85)), ny_o 97 1 (.aload_n 0), ny_o2 98 1 (.iconst 0) 0, ny_o 99 3 (.invokevirtual 253), ny_o 102 1 (.iload_n 2), ny_o 103 3 (.ifCond .eq 7), ny_o2 106 1 (.iconst 0) 0, ny_o 107 3 (.goto 4), ny_o 110 1 (.iload_n 1), ny_o 111 1 .ireturn]
def m_Md_judge : ny_M := (⟨"NymphRotaModel", "judge", "()I"⟩, prog_13_method_103_code, 3, (Option.some Jvm.ClassFile.FieldType.int), false, pg_Md_judge)
def pg_Md_isSheet : List ny_Op := [ny_o 0 1 (.iload_n 0), ny_o 1 1 .i2l, ny_o3 2 1 (.lconst 0) 0, ny_o3 3 3 (.ldc2_w 300) 3, ny_o 6 3 (.invokestatic 63), ny_o 9 1 .ireturn]
def m_Md_isSheet : ny_M := (⟨"NymphRotaModel", "isSheet", "(I)Z"⟩, prog_13_method_104_code, 1, (Option.some Jvm.ClassFile.FieldType.boolean), false, pg_Md_isSheet)
def pg_Md_isShelf : List ny_Op := [ny_o 0 1 (.iload_n 0), ny_o 1 1 .i2l, ny_o3 2 1 (.lconst 0) 0, ny_o3 3 3 (.ldc2_w 300) 3, ny_o 6 3 (.invokestatic 63), ny_o 9 1 .ireturn]
def m_Md_isShelf : ny_M := (⟨"NymphRotaModel", "isShelf", "(I)Z"⟩, prog_13_method_105_code, 1, (Option.some Jvm.ClassFile.FieldType.boolean), false, pg_Md_isShelf)
def pg_Md_sheet : List ny_Op := [ny_o 0 1 (.iload_n 1), ny_o 1 3 (.invokestatic 343), ny_o 4 3 (.ifCond .eq 27), ny_o 7 1 (.iload_n 2), ny_o 8 1 .i2l, ny_o3 9 3 (.ldc2_w 346) (-1), ny_o3 12 3 (.ldc2_w 132) 4, ny_o 15 3 (.invokestatic 63), ny_o 18 3 (.ifCond .eq 13), ny_o 21 1 (.iload_n 2), ny_o 22 3 (.ifCond .lt 11), ny_o 25 1 (.iload_n 3), ny_o2 26 2 (.bipush 40) 40, ny_o 28 3 (.if_icmp .le 5), ny_o2 31 1 (.iconst (-1)) (-1), ny_o 32 1 .ireturn, ny_o 33 1 (.iload_n 2), ny_o 34 3 (.ifCond .lt 10), ny_o 37 1 (.iload_n 3), ny_o 38 3 (.ifCond .ge 6), ny_o2 41 2 (.bipush (-14)) (-14), ny_o 43 1 .ireturn, ny_o 44 1 (.aload_n 0), ny_o1 45 3 (.getfield 40) 10 85, ny_o 48 1 (.iload_n 1), ny_o 49 1 (.iload_n 2), ny_o 50 1 .iastore, ny_o 51 1 (.aload_n 0), ny_o1 52 3 (.getfield 43) 10 88, ny_o 55 1 (.iload_n 1), ny_o 56 1 (.iload_n 2), ny_o 57 3 (.ifCond .ge 7), ny_o2 60 1 (.iconst 0) 0, ny_o 61 3 (.goto 4), ny_o 64 1 (.iload_n 3), ny_o 65 1 .iastore, ny_o2 66 1 (.iconst 0) 0, ny_o 67 2 (.istore 4), ny_o 69 2 (.iload 4), ny_o2 71 2 (.bipush 40) 40, ny_o 73 3 (.if_icmp .ge 22), ny_o 76 1 (.aload_n 0), ny_o1 77 3 (.getfield 46) 10 91, ny_o2 80 2 (.bipush 40) 40, ny_o 82 1 (.iload_n 1), ny_o 83 1 .imul, ny_o 84 2 (.iload 4), ny_o 86 1 .iadd, ny_o2 87 1 (.iconst 0) 0, ny_o 88 1 .iastore, ny_o2 89 3 (.iinc 4 1) 1, ny_o 92 3 (.goto (-23)), ny_o2 95 1 (.iconst 1) 1, ny_o 96 1 .ireturn]
def m_Md_sheet : ny_M := (⟨"NymphRotaModel", "sheet", "(III)I"⟩, prog_13_method_106_code, 5, (Option.some Jvm.ClassFile.FieldType.int), false, pg_Md_sheet)
def pg_Md_write : List ny_Op := [ny_o 0 1 (.iload_n 1), ny_o 1 3 (.invokestatic 343), ny_o 4 3 (.ifCond .ne 5), ny_o2 7 1 (.iconst (-1)) (-1), ny_o 8 1 .ireturn, ny_o 9 1 (.aload_n 0), ny_o1 10 3 (.getfield 40) 10 85, ny_o 13 1 (.iload_n 1), ny_o 14 1 .iaload, ny_o 15 3 (.ifCond .ge 6), ny_o2 18 2 (.bipush (-11)) (-11), ny_o 20 1 .ireturn, ny_o 21 1 (.iload_n 2), ny_o 22 1 .i2l, ny_o3 23 1 (.lconst 0) 0, ny_o 24 1 (.aload_n 0), ny_o1 25 3 (.getfield 43) 10 88, ny_o 28 1 (.iload_n 1), ny_o 29 1 .iaload, ny_o2 30 1 (.iconst 1) 1, ny_o 31 1 .isub, ny_o 32 1 .i2l, ny_o 33 3 (.invokestatic 63), ny_o 36 3 (.ifCond .ne 6), ny_o2 39 2 (.bipush (-12)) (-12), ny_o 41 1 .ireturn, ny_o 42 1 (.aload_n 0), ny_o1 43 3 (.getfield 46) 10 91, ny_o2 46 2 (.bipush 40) 40, ny_o 48 1 (.iload_n 1), ny_o 49 1 .imul, ny_o 50 1 (.iload_n 2), ny_o 51 1 .iadd, ny_o 52 1 (.aload_n 0), ny_o1 53 3 (.getfield 40) 10 85, ny_o 56 1 (.iload_n 1), ny_o 57 1 .iaload, ny_o 58 3 (.ifCond .ne 8), ny_o 61 1 (.iload_n 3), ny_o 62 1 .i2b, ny_o 63 3 (.goto 41), ny_o 66 1 (.aload_n 0), ny_o1 67 3 (.getfield 40) 10 85, ny_o 70 1 (.iload_n 1), ny_o 71 1 .iaload, ny_o2 72 1 (.iconst 1) 1, ny_o 73 3 (.if_icmp .ne 8), ny_o 76 1 (.iload_n 3), ny_o 77 1 .i2s, ny_o 78 3 (.goto 26), ny_o 81 1 (.aload_n 0), ny_o1 82 3 (.getfield 40) 10 85, ny_o 85 1 (.iload_n 1), ny_o 86 1 .iaload, ny_o2 87 1 (.iconst 4) 4, ny_o 88 3 (.if_icmp .ne 15), ny_o 91 1 (.iload_n 3), ny_o 92 3 (.ifCond .ne 7), ny_o2 95 1 (.iconst 0) 0, ny_o 96 3 (.goto 8), ny_o2 99 1 (.iconst 1) 1, ny_o 100 3 (.goto 4), ny_o 103 1 (.iload_n 3), ny_o 104 1 .iastore, ny_o2 105 1 (.iconst 1) 1, ny_o 106 1 .ireturn]
def m_Md_write : ny_M := (⟨"NymphRotaModel", "write", "(III)I"⟩, prog_13_method_107_code, 4, (Option.some Jvm.ClassFile.FieldType.int), false, pg_Md_write)
def pg_Md_lacks : List ny_Op := [ny_o 0 1 (.aload_n 0), ny_o1 1 3 (.getfield 40) 10 85, ny_o 4 1 (.iload_n 1), ny_o 5 1 .iaload, ny_o 6 3 (.ifCond .ge 8), ny_o2 9 2 (.bipush (-11)) (-11), ny_o 11 3 (.goto 19), ny_o 14 1 (.aload_n 0), ny_o1 15 3 (.getfield 40) 10 85, ny_o 18 1 (.iload_n 1), ny_o 19 1 .iaload, ny_o 20 1 (.iload_n 2), ny_o 21 3 (.if_icmp .eq 8), ny_o2 24 2 (.bipush (-13)) (-13), ny_o 26 3 (.goto 4), ny_o2 29 1 (.iconst 0) 0, ny_o 30 1 .ireturn]
def m_Md_lacks : ny_M := (⟨"NymphRotaModel", "lacks", "(II)I"⟩, prog_13_method_108_code, 3, (Option.some Jvm.ClassFile.FieldType.int), false, pg_Md_lacks)
def pg_Md_item : List ny_Op := [ny_o 0 1 (.iload_n 1), ny_o 1 3 (.invokestatic 343), ny_o 4 3 (.ifCond .eq 15), ny_o 7 1 (.iload_n 2), ny_o 8 1 .i2l, ny_o3 9 1 (.lconst 0) 0, ny_o3 10 3 (.ldc2_w 132) 4, ny_o 13 3 (.invokestatic 63), ny_o 16 3 (.ifCond .ne 5), ny_o2 19 1 (.iconst (-1)) (-1), ny_o 20 1 .ireturn, ny_o 21 1 (.aload_n 0), ny_o 22 1 (.iload_n 1), ny_o 23 1 (.iload_n 2), ny_o 24 3 (.invokevirtual 348), ny_o 27 3 (.ifCond .eq 10), ny_o 30 1 (.aload_n 0), ny_o 31 1 (.iload_n 1), ny_o 32 1 (.iload_n 2), ny_o 33 3 (.invokevirtual 348), ny_o 36 1 .ireturn, ny_o 37 1 (.iload_n 3), ny_o 38 1 .i2l, ny_o3 39 1 (.lconst 0) 0, ny_o 40 1 (.aload_n 0), ny_o1 41 3 (.getfield 43) 10 88, ny_o 44 1 (.iload_n 1), ny_o 45 1 .iaload, ny_o2 46 1 (.iconst 1) 1, ny_o 47 1 .isub, ny_o 48 1 .i2l, ny_o 49 3 (.invokestatic 63), ny_o 52 3 (.ifCond .eq 17), ny_o 55 1 (.aload_n 0), ny_o1 56 3 (.getfield 46) 10 91, ny_o2 59 2 (.bipush 40) 40, ny_o 61 1 (.iload_n 1), ny_o 62 1 .imul, ny_o 63 1 (.iload_n 3), ny_o 64 1 .iadd, ny_o 65 1 .iaload, ny_o 66 3 (.goto 5), ny_o2 69 2 (.bipush (-12)) (-12), ny_o 71 1 .ireturn]
def m_Md_item : ny_M := (⟨"NymphRotaModel", "item", "(III)I"⟩, prog_13_method_109_code, 4, (Option.some Jvm.ClassFile.FieldType.int), false, pg_Md_item)
def pg_Md_goAll : List ny_Op := [ny_o 0 1 (.iload_n 1), ny_o 1 3 (.invokestatic 343), ny_o 4 3 (.ifCond .eq 15), ny_o 7 1 (.iload_n 3), ny_o 8 1 .i2l, ny_o3 9 1 (.lconst 0) 0, ny_o3 10 3 (.ldc2_w 351) 20, ny_o 13 3 (.invokestatic 63), ny_o 16 3 (.ifCond .ne 5), ny_o2 19 1 (.iconst (-1)) (-1), ny_o 20 1 .ireturn, ny_o 21 1 (.aload_n 0), ny_o 22 1 (.iload_n 1), ny_o2 23 1 (.iconst 0) 0, ny_o 24 3 (.invokevirtual 348), ny_o 27 3 (.ifCond .eq 10), ny_o 30 1 (.aload_n 0), ny_o 31 1 (.iload_n 1), ny_o2 32 1 (.iconst 0) 0, ny_o 33 3 (.invokevirtual 348), ny_o 36 1 .ireturn, ny_o2 37 1 (.iconst 0) 0, ny_o 38 2 (.istore 4), ny_o2 40 1 (.iconst 0) 0, ny_o 41 2 (.istore 5), ny_o 43 2 (.iload 5), ny_o 45 1 (.iload_n 3), ny_o 46 3 (.if_icmp .ge 81), ny_o 49 1 (.iload_n 2), ny_o 50 1 .i2l, ny_o 51 2 (.iload 5), ny_o 53 1 .i2l, ny_o 54 1 .ladd, ny_o3 55 1 (.lconst 0) 0, ny_o 56 1 (.aload_n 0), ny_o1 57 3 (.getfield 43) 10 88, ny_o 60 1 (.iload_n 1), ny_o 61 1 .iaload, ny_o 62 1 .i2l, ny_o3 63 1 (.lconst 1) 1, ny_o 64 1 .lsub, ny_o 65 3 (.invokestatic 63), ny_o 68 3 (.ifCond .ne 6), ny_o2 71 2 (.bipush (-12)) (-12), ny_o 73 1 .ireturn, ny_o 74 1 (.aload_n 0), ny_o1 75 3 (.getfield 46) 10 91, ny_o2 78 2 (.bipush 40) 40, ny_o 80 1 (.iload_n 1), ny_o 81 1 .imul, ny_o 82 1 (.iload_n 2), ny_o 83 1 .iadd, ny_o 84 2 (.iload 5), ny_o 86 1 .iadd, ny_o 87 1 .iaload, ny_o 88 2 (.istore 6), ny_o 90 2 (.iload 4), ny_o 92 1 (.aload_n 0), ny_o 93 2 (.iload 6), ny_o 95 3 (.invokevirtual 340), ny_o 98 3 (.ifCond .eq 19), ny_o 101 1 (.aload_n 0), ny_o 102 3 (.invokevirtual 144), ny_o 105 3 (.ifCond .ne 12), ny_o 108 1 (.aload_n 0), ny_o 109 2 (.iload 6), ny_o 111 3 (.invokevirtual 246), ny_o 114 3 (.goto 4), ny_o2 117 1 (.iconst 0) 0, ny_o 118 1 .iadd, ny_o 119 2 (.istore 4), ny_o2 121 3 (.iinc 5 1) 1, ny_o 124 3 (.goto (-81)), ny_o 127 2 (.iload 4), ny_o 129 1 .ireturn]
def m_Md_goAll : ny_M := (⟨"NymphRotaModel", "goAll", "(III)I"⟩, prog_13_method_110_code, 7, (Option.some Jvm.ClassFile.FieldType.int), false, pg_Md_goAll)
def pg_Md_sumBy : List ny_Op := [ny_o2 0 1 (.iconst 0) 0, ny_o 1 2 (.istore 4), ny_o2 3 1 (.iconst 0) 0, ny_o 4 2 (.istore 5), ny_o 6 2 (.iload 5), ny_o 8 1 (.iload_n 3), ny_o 9 3 (.if_icmp .ge 80), ny_o 12 1 (.iload_n 2), ny_o 13 1 .i2l, ny_o 14 2 (.iload 5), ny_o 16 1 .i2l, ny_o 17 1 .ladd, ny_o3 18 1 (.lconst 0) 0, ny_o 19 1 (.aload_n 0), ny_o1 20 3 (.getfield 43) 10 88, ny_o 23 1 (.iload_n 1), ny_o 24 1 .iaload, ny_o 25 1 .i2l, ny_o3 26 1 (.lconst 1) 1, ny_o 27 1 .lsub, ny_o 28 3 (.invokestatic 63), ny_o 31 3 (.ifCond .ne 6), ny_o2 34 2 (.bipush (-12)) (-12), ny_o 36 1 .ireturn, ny_o 37 1 (.aload_n 0), ny_o1 38 3 (.getfield 46) 10 91, ny_o2 41 2 (.bipush 40) 40, ny_o 43 1 (.iload_n 1), ny_o 44 1 .imul, ny_o 45 1 (.iload_n 2), ny_o 46 1 .iadd, ny_o 47 2 (.iload 5), ny_o 49 1 .iadd, ny_o 50 1 .iaload, ny_o 51 2 (.istore 6), ny_o 53 1 (.aload_n 0), ny_o 54 2 (.iload 6), ny_o 56 3 (.invokevirtual 340), ny_o 59 3 (.ifCond .eq 10), ny_o 62 1 (.aload_n 0), ny_o 63 3 (.invokevirtual 144), ny_o 66 3 (.ifCond .eq 6), ny_o2 69 2 (.bipush (-4)) (-4), ny_o 71 1 .ireturn, ny_o 72 2 (.iload 4), ny_o 74 1 (.aload_n 0), ny_o 75 2 (.iload 6), ny_o 77 3 (.invokevirtual 246), ny_o 80 1 .iadd, ny_o 81 2 (.istore 4), ny_o2 83 3 (.iinc 5 1) 1, ny_o 86 3 (.goto (-80)), ny_o 89 2 (.iload 4), ny_o 91 1 .ireturn]
def m_Md_sumBy : ny_M := (⟨"NymphRotaModel", "sumBy", "(III)I"⟩, prog_13_method_111_code, 7, (Option.some Jvm.ClassFile.FieldType.int), false, pg_Md_sumBy)
def pg_Md_wouldBe : List ny_Op := [ny_o 0 1 (.iload_n 1), ny_o 1 3 (.invokestatic 343), ny_o 4 3 (.ifCond .eq 15), ny_o 7 1 (.iload_n 3), ny_o 8 1 .i2l, ny_o3 9 1 (.lconst 0) 0, ny_o3 10 3 (.ldc2_w 351) 20, ny_o 13 3 (.invokestatic 63), ny_o 16 3 (.ifCond .ne 5), ny_o2 19 1 (.iconst (-1)) (-1), ny_o 20 1 .ireturn, ny_o 21 1 (.aload_n 0), ny_o 22 1 (.iload_n 1), ny_o2 23 1 (.iconst 0) 0, ny_o 24 3 (.invokevirtual 348), ny_o 27 3 (.ifCond .eq 10), ny_o 30 1 (.aload_n 0), ny_o 31 1 (.iload_n 1), ny_o2 32 1 (.iconst 0) 0, ny_o 33 3 (.invokevirtual 348), ny_o 36 1 .ireturn, ny_o 37 1 (.aload_n 0), ny_o2 38 1 (.iconst 0) 0, ny_o 39 3 (.invokevirtual 249), ny_o 42 1 (.aload_n 0), ny_o 43 1 (.iload_n 1), ny_o 44 1 (.iload_n 2), ny_o 45 1 (.iload_n 3), ny_o 46 3 (.invokevirtual 353), ny_o 49 2 (.istore 4), ny_o 51 1 (.aload_n 0), ny_o2 52 1 (.iconst 0) 0, ny_o 53 3 (.invokevirtual 253), ny_o 56 2 (.iload 4), ny_o 58 1 .ireturn]
def m_Md_wouldBe : ny_M := (⟨"NymphRotaModel", "wouldBe", "(III)I"⟩, prog_13_method_112_code, 5, (Option.some Jvm.ClassFile.FieldType.int), false, pg_Md_wouldBe)
def pg_Md_shelf : List ny_Op := [ny_o 0 1 (.iload_n 1), ny_o 1 3 (.invokestatic 356), ny_o 4 3 (.ifCond .eq 39), ny_o 7 1 (.iload_n 2), ny_o 8 1 .i2l, ny_o3 9 1 (.lconst 0) 0, ny_o3 10 3 (.ldc2_w 103) 2, ny_o 13 3 (.invokestatic 63), ny_o 16 3 (.ifCond .eq 27), ny_o 19 1 (.iload_n 2), ny_o 20 3 (.ifCond .ne 11), ny_o 23 1 (.aload_n 0), ny_o 24 1 (.iload_n 3), ny_o 25 3 (.invokevirtual 120), ny_o 28 3 (.ifCond .eq 15), ny_o 31 1 (.iload_n 2), ny_o2 32 1 (.iconst 1) 1, ny_o 33 3 (.if_icmp .ne 12), ny_o 36 1 (.iload_n 3), ny_o 37 3 (.invokestatic 343), ny_o 40 3 (.ifCond .ne 5), ny_o2 43 1 (.iconst (-1)) (-1), ny_o 44 1 .ireturn, ny_o 45 1 (.iload_n 2), ny_o2 46 1 (.iconst 1) 1, ny_o 47 3 (.if_icmp .ne 16), ny_o 50 1 (.aload_n 0), ny_o1 51 3 (.getfield 40) 10 85, ny_o 54 1 (.iload_n 3), ny_o 55 1 .iaload, ny_o 56 3 (.ifCond .lt 7), ny_o2 59 1 (.iconst 1) 1, ny_o 60 3 (.goto 4), ny_o2 63 1 (.iconst 0) 0, ny_o 64 2 (.istore 4), ny_o 66 1 (.aload_n 0), ny_o1 67 3 (.getfield 49) 10 94, ny_o 70 1 (.iload_n 1), ny_o 71 1 (.iload_n 2), ny_o 72 3 (.ifCond .ne 7), ny_o2 75 1 (.iconst 1) 1, ny_o 76 3 (.goto 13), ny_o 79 2 (.iload 4), ny_o 81 3 (.ifCond .eq 7), ny_o2 84 1 (.iconst 2) 2, ny_o 85 3 (.goto 4), ny_o2 88 1 (.iconst 0) 0, ny_o 89 1 .iastore, ny_o 90 1 (.aload_n 0), ny_o1 91 3 (.getfield 52) 10 97, ny_o 94 1 (.iload_n 1), ny_o 95 1 (.iload_n 2), ny_o 96 3 (.ifCond .ne 7), ny_o 99 1 (.iload_n 3), ny_o 100 3 (.goto 18), ny_o 103 2 (.iload 4), ny_o 105 3 (.ifCond .eq 12), ny_o 108 1 (.aload_n 0), ny_o1 109 3 (.getfield 40) 10 85, ny_o 112 1 (.iload_n 3), ny_o 113 1 .iaload, ny_o 114 3 (.goto 4), ny_o2 117 1 (.iconst 0) 0, ny_o 118 1 .iastore, ny_o 119 1 (.aload_n 0), ny_o1 120 3 (.getfield 55) 10 100, ny_o 123 1 (.iload_n 1), ny_o 124 2 (.iload 4), ny_o 126 3 (.ifCond .eq 12), ny_o 129 1 (.aload_n 0), ny_o1 130 3 (.getfield 43) 10 88, ny_o 133 1 (.iload_n 3), ny_o 134 1 .iaload, ny_o 135 3 (.goto 4), ny_o2 138 1 (.iconst 0) 0, ny_o 139 1 .iastore, ny_o2 140 1 (.iconst 1) 1, ny_o 141 1 .ireturn]
def m_Md_shelf : ny_M := (⟨"NymphRotaModel", "shelf", "(III)I"⟩, prog_13_method_113_code, 5, (Option.some Jvm.ClassFile.FieldType.int), false, pg_Md_shelf)
def pg_Md_heldOn : List ny_Op := [ny_o 0 1 (.aload_n 0), ny_o1 1 3 (.getfield 49) 10 94, ny_o 4 1 (.iload_n 1), ny_o 5 1 .iaload, ny_o2 6 1 (.iconst 1) 1, ny_o 7 3 (.if_icmp .ne 20), ny_o 10 1 (.aload_n 0), ny_o 11 1 (.aload_n 0), ny_o1 12 3 (.getfield 52) 10 97, ny_o 15 1 (.iload_n 1), ny_o 16 1 .iaload, ny_o 17 3 (.invokevirtual 120), ny_o 20 3 (.ifCond .ne 7), ny_o2 23 1 (.iconst 0) 0, ny_o 24 3 (.goto 9), ny_o 27 1 (.aload_n 0), ny_o1 28 3 (.getfield 49) 10 94, ny_o 31 1 (.iload_n 1), ny_o 32 1 .iaload, ny_o 33 1 .ireturn]
def m_Md_heldOn : ny_M := (⟨"NymphRotaModel", "heldOn", "(I)I"⟩, prog_13_method_114_code, 2, (Option.some Jvm.ClassFile.FieldType.int), false, pg_Md_heldOn)
def pg_Md_taken : List ny_Op := [ny_o 0 1 (.iload_n 1), ny_o 1 3 (.invokestatic 356), ny_o 4 3 (.ifCond .eq 29), ny_o 7 1 (.iload_n 2), ny_o 8 1 .i2l, ny_o3 9 1 (.lconst 0) 0, ny_o3 10 3 (.ldc2_w 359) 14, ny_o 13 3 (.invokestatic 63), ny_o 16 3 (.ifCond .eq 17), ny_o 19 1 (.iload_n 2), ny_o 20 1 .i2l, ny_o3 21 3 (.ldc2_w 361) 6, ny_o3 24 3 (.ldc2_w 69) 9, ny_o 27 3 (.invokestatic 63), ny_o 30 3 (.ifCond .eq 5), ny_o2 33 1 (.iconst (-1)) (-1), ny_o 34 1 .ireturn, ny_o 35 1 (.aload_n 0), ny_o 36 1 (.iload_n 1), ny_o 37 3 (.invokevirtual 363), ny_o 40 1 (.istore_n 3), ny_o 41 1 (.iload_n 3), ny_o 42 3 (.ifCond .ne 6), ny_o2 45 2 (.bipush (-11)) (-11), ny_o 47 1 .ireturn, ny_o 48 1 (.iload_n 2), ny_o2 49 2 (.bipush 10) 10, ny_o 51 3 (.if_icmp .ge 38), ny_o 54 1 (.iload_n 3), ny_o2 55 1 (.iconst 1) 1, ny_o 56 3 (.if_icmp .ne 30), ny_o 59 1 (.aload_n 0), ny_o 60 1 (.aload_n 0), ny_o1 61 3 (.getfield 52) 10 97, ny_o 64 1 (.iload_n 1), ny_o 65 1 .iaload, ny_o2 66 1 (.iconst 0) 0, ny_o 67 3 (.invokevirtual 82), ny_o 70 1 (.iload_n 2), ny_o 71 3 (.invokestatic 107), ny_o 74 3 (.ifCond .eq 12), ny_o 77 1 (.aload_n 0), ny_o1 78 3 (.getfield 52) 10 97, ny_o 81 1 (.iload_n 1), ny_o 82 1 .iaload, ny_o 83 3 (.goto 5), ny_o2 86 2 (.bipush (-13)) (-13), ny_o 88 1 .ireturn, ny_o 89 1 (.iload_n 3), ny_o2 90 1 (.iconst 2) 2, ny_o 91 3 (.if_icmp .ne 25), ny_o 94 1 (.aload_n 0), ny_o1 95 3 (.getfield 52) 10 97, ny_o 98 1 (.iload_n 1), ny_o 99 1 .iaload, ny_o 100 1 (.iload_n 2), ny_o2 101 2 (.bipush 10) 10, ny_o 103 1 .isub, ny_o 104 3 (.if_icmp .ne 12), ny_o 107 1 (.aload_n 0), ny_o1 108 3 (.getfield 55) 10 100, ny_o 111 1 (.iload_n 1), ny_o 112 1 .iaload, ny_o 113 3 (.goto 5), ny_o2 116 2 (.bipush (-13)) (-13), ny_o 118 1 .ireturn]
def m_Md_taken : ny_M := (⟨"NymphRotaModel", "taken", "(II)I"⟩, prog_13_method_115_code, 4, (Option.some Jvm.ClassFile.FieldType.int), false, pg_Md_taken)
def pg_Md_runs : List ny_Op := [ny_o 0 1 (.aload_n 0), ny_o1 1 3 (.getfield 366) 10 105, ny_o2 4 2 (.bipush 30) 30, ny_o 6 3 (.if_icmp .ge 23), ny_o 9 1 (.aload_n 0), ny_o1 10 3 (.getfield 58) 10 103, ny_o 13 1 (.aload_n 0), ny_o1 14 3 (.getfield 366) 10 105, ny_o 17 1 (.iload_n 1), ny_o 18 1 .iastore, ny_o 19 1 (.aload_n 0), ny_o 20 1 .dup, ny_o1 21 3 (.getfield 366) 10 105, ny_o2 24 1 (.iconst 1) 1, ny_o 25 1 .iadd, ny_o1 26 3 (.putfield 366) 10 105, ny_o 29 1 .return_]
def m_Md_runs : ny_M := (⟨"NymphRotaModel", "runs", "(I)V"⟩, prog_13_method_116_code, 2, none, false, pg_Md_runs)
def pg_Md_posesPlain : List ny_Op := [ny_o 0 1 (.aload_n 0), ny_o2 1 2 (.bipush 10) 10, ny_o 3 3 (.invokevirtual 369), ny_o 6 1 (.iload_n 1), ny_o2 7 1 (.iconst 3) 3, ny_o 8 1 .imul, ny_o 9 1 (.aload_n 0), ny_o1 10 3 (.getfield 372) 10 111, ny_o 13 1 .iadd, ny_o 14 1 .ireturn]
def m_Md_posesPlain : ny_M := (⟨"NymphRotaModel", "posesPlain", "(I)I"⟩, prog_13_method_117_code, 2, (Option.some Jvm.ClassFile.FieldType.int), false, pg_Md_posesPlain)
def pg_Md_poses : List ny_Op := [ny_o 0 1 (.aload_n 0), ny_o1 1 3 (.getfield 375) 10 108, ny_o2 4 1 (.iconst 1) 1, ny_o 5 3 (.if_icmp .ne 18), ny_o 8 1 (.aload_n 0), ny_o2 9 2 (.bipush 20) 20, ny_o 11 3 (.invokevirtual 369), ny_o 14 1 (.aload_n 0), ny_o 15 1 (.iload_n 1), ny_o 16 3 (.invokevirtual 378), ny_o2 19 2 (.bipush 7) 7, ny_o 21 1 .ixor, ny_o 22 1 .ireturn, ny_o 23 1 (.aload_n 0), ny_o1 24 3 (.getfield 375) 10 108, ny_o2 27 1 (.iconst 3) 3, ny_o 28 3 (.if_icmp .ne 18), ny_o 31 1 (.aload_n 0), ny_o2 32 2 (.bipush 50) 50, ny_o 34 3 (.invokevirtual 369), ny_o 37 1 (.aload_n 0), ny_o 38 1 (.iload_n 1), ny_o2 39 2 (.bipush 8) 8, ny_o 41 1 .iadd, ny_o 42 3 (.invokevirtual 378), ny_o 45 1 .ireturn, ny_o 46 1 (.aload_n 0), ny_o 47 1 (.iload_n 1), ny_o 48 3 (.invokevirtual 378), ny_o 51 1 .ireturn]
def m_Md_poses : ny_M := (⟨"NymphRotaModel", "poses", "(I)I"⟩, prog_13_method_118_code, 2, (Option.some Jvm.ClassFile.FieldType.int), false, pg_Md_poses)
def pg_Md_dripsPlain : List ny_Op := [ny_o 0 1 (.aload_n 0), ny_o2 1 2 (.bipush 11) 11, ny_o 3 3 (.invokevirtual 369), ny_o 6 1 (.aload_n 0), ny_o 7 1 (.iload_n 1), ny_o 8 3 (.invokevirtual 381), ny_o2 11 1 (.iconst 2) 2, ny_o 12 1 (.aload_n 0), ny_o1 13 3 (.getfield 384) 10 114, ny_o 16 1 .imul, ny_o 17 1 .isub, ny_o 18 1 .ireturn]
def m_Md_dripsPlain : ny_M := (⟨"NymphRotaModel", "dripsPlain", "(I)I"⟩, prog_13_method_119_code, 2, (Option.some Jvm.ClassFile.FieldType.int), false, pg_Md_dripsPlain)
def pg_Md_drips : List ny_Op := [ny_o 0 1 (.aload_n 0), ny_o1 1 3 (.getfield 375) 10 108, ny_o2 4 1 (.iconst 2) 2, ny_o 5 3 (.if_icmp .eq 11), ny_o 8 1 (.aload_n 0), ny_o1 9 3 (.getfield 375) 10 108, ny_o2 12 1 (.iconst 3) 3, ny_o 13 3 (.if_icmp .ne 17), ny_o 16 1 (.aload_n 0), ny_o2 17 2 (.bipush 30) 30, ny_o 19 3 (.invokevirtual 369), ny_o 22 1 (.aload_n 0), ny_o 23 1 (.iload_n 1), ny_o 24 3 (.invokevirtual 387), ny_o2 27 1 (.iconst 3) 3, ny_o 28 1 .imul, ny_o 29 1 .ireturn, ny_o 30 1 (.aload_n 0), ny_o1 31 3 (.getfield 375) 10 108, ny_o2 34 1 (.iconst 5) 5, ny_o 35 3 (.if_icmp .ne 17), ny_o 38 1 (.aload_n 0), ny_o2 39 2 (.bipush 60) 60, ny_o 41 3 (.invokevirtual 369), ny_o2 44 1 (.iconst 0) 0, ny_o 45 1 (.aload_n 0), ny_o 46 1 (.iload_n 1), ny_o 47 3 (.invokevirtual 387), ny_o 50 1 .isub, ny_o 51 1 .ireturn, ny_o 52 1 (.aload_n 0), ny_o 53 1 (.iload_n 1), ny_o 54 3 (.invokevirtual 387), ny_o 57 1 .ireturn]
def m_Md_drips : ny_M := (⟨"NymphRotaModel", "drips", "(I)I"⟩, prog_13_method_120_code, 2, (Option.some Jvm.ClassFile.FieldType.int), false, pg_Md_drips)
def pg_Md_glancesPlain : List ny_Op := [ny_o 0 1 (.aload_n 0), ny_o2 1 2 (.bipush 12) 12, ny_o 3 3 (.invokevirtual 369), ny_o 6 1 (.aload_n 0), ny_o1 7 3 (.getfield 372) 10 111, ny_o 10 1 (.aload_n 0), ny_o1 11 3 (.getfield 384) 10 114, ny_o 14 1 .isub, ny_o2 15 1 (.iconst 3) 3, ny_o 16 1 .iadd, ny_o 17 1 (.istore_n 2), ny_o 18 1 (.aload_n 0), ny_o 19 1 (.aload_n 0), ny_o1 20 3 (.getfield 390) 10 119, ny_o 23 3 (.ifCond .ne 7), ny_o 26 1 (.iload_n 2), ny_o 27 3 (.ifCond .ne 7), ny_o2 30 1 (.iconst 1) 1, ny_o 31 3 (.goto 4), ny_o2 34 1 (.iconst 0) 0, ny_o1 35 3 (.putfield 390) 10 119, ny_o 38 1 (.aload_n 0), ny_o1 39 3 (.getfield 390) 10 119, ny_o 42 3 (.ifCond .eq 7), ny_o2 45 1 (.iconst 0) 0, ny_o 46 3 (.goto 6), ny_o 49 1 (.iload_n 1), ny_o 50 1 (.iload_n 2), ny_o 51 1 .idiv, ny_o 52 1 .ireturn]
def m_Md_glancesPlain : ny_M := (⟨"NymphRotaModel", "glancesPlain", "(I)I"⟩, prog_13_method_121_code, 3, (Option.some Jvm.ClassFile.FieldType.int), false, pg_Md_glancesPlain)
def pg_Md_glancesOfNovice : List ny_Op := [ny_o 0 1 (.aload_n 0), ny_o2 1 2 (.bipush 40) 40, ny_o 3 3 (.invokevirtual 369), ny_o 6 1 (.aload_n 0), ny_o 7 1 (.iload_n 1), ny_o 8 3 (.invokevirtual 393), ny_o2 11 1 (.iconst 1) 1, ny_o 12 1 .isub, ny_o 13 1 .ireturn]
def m_Md_glancesOfNovice : ny_M := (⟨"NymphRotaModel", "glancesOfNovice", "(I)I"⟩, prog_13_method_122_code, 2, (Option.some Jvm.ClassFile.FieldType.int), false, pg_Md_glancesOfNovice)
def pg_Md_glances : List ny_Op := [ny_o 0 1 (.aload_n 0), ny_o1 1 3 (.getfield 375) 10 108, ny_o2 4 1 (.iconst 4) 4, ny_o 5 3 (.if_icmp .ne 9), ny_o 8 1 (.aload_n 0), ny_o 9 1 (.iload_n 1), ny_o 10 3 (.invokevirtual 396), ny_o 13 1 .ireturn, ny_o 14 1 (.aload_n 0), ny_o1 15 3 (.getfield 375) 10 108, ny_o2 18 1 (.iconst 5) 5, ny_o 19 3 (.if_icmp .eq 9), ny_o 22 1 (.aload_n 0), ny_o 23 1 (.iload_n 1), ny_o 24 3 (.invokevirtual 393), ny_o 27 1 .ireturn, ny_o 28 1 (.aload_n 0), ny_o2 29 2 (.bipush 61) 61, ny_o 31 3 (.invokevirtual 369), ny_o 34 1 (.aload_n 0), ny_o 35 1 (.iload_n 1), ny_o 36 3 (.invokevirtual 396), ny_o 39 1 (.istore_n 2), ny_o 40 1 (.aload_n 0), ny_o1 41 3 (.getfield 390) 10 119, ny_o 44 3 (.ifCond .eq 7), ny_o2 47 1 (.iconst 0) 0, ny_o 48 3 (.goto 13), ny_o 51 1 (.iload_n 2), ny_o 52 1 (.aload_n 0), ny_o 53 1 (.aload_n 0), ny_o1 54 3 (.getfield 372) 10 111, ny_o 57 3 (.invokevirtual 381), ny_o 60 1 .ixor, ny_o 61 1 .ireturn]
def m_Md_glances : ny_M := (⟨"NymphRotaModel", "glances", "(I)I"⟩, prog_13_method_123_code, 3, (Option.some Jvm.ClassFile.FieldType.int), false, pg_Md_glances)
def pg_Md_leavesPlain : List ny_Op := [ny_o 0 1 (.aload_n 0), ny_o2 1 2 (.bipush 13) 13, ny_o 3 3 (.invokevirtual 369), ny_o 6 1 (.aload_n 0), ny_o 7 1 (.iload_n 1), ny_o 8 3 (.invokevirtual 399), ny_o 11 1 (.istore_n 2), ny_o 12 1 (.iload_n 2), ny_o 13 1 (.aload_n 0), ny_o 14 1 (.iload_n 1), ny_o 15 3 (.invokevirtual 402), ny_o 18 1 .isub, ny_o 19 1 .ireturn]
def m_Md_leavesPlain : ny_M := (⟨"NymphRotaModel", "leavesPlain", "(I)I"⟩, prog_13_method_124_code, 3, (Option.some Jvm.ClassFile.FieldType.int), false, pg_Md_leavesPlain)
def pg_Md_leaves : List ny_Op := [ny_o 0 1 (.aload_n 0), ny_o1 1 3 (.getfield 375) 10 108, ny_o2 4 1 (.iconst 3) 3, ny_o 5 3 (.if_icmp .eq 9), ny_o 8 1 (.aload_n 0), ny_o 9 1 (.iload_n 1), ny_o 10 3 (.invokevirtual 405), ny_o 13 1 .ireturn, ny_o 14 1 (.aload_n 0), ny_o2 15 2 (.bipush 51) 51, ny_o 17 3 (.invokevirtual 369), ny_o 20 1 (.aload_n 0), ny_o 21 1 (.iload_n 1), ny_o 22 3 (.invokevirtual 405), ny_o 25 1 (.istore_n 2), ny_o 26 1 (.aload_n 0), ny_o1 27 3 (.getfield 390) 10 119, ny_o 30 3 (.ifCond .eq 7), ny_o2 33 1 (.iconst 0) 0, ny_o 34 3 (.goto 13), ny_o 37 1 (.iload_n 2), ny_o 38 1 (.aload_n 0), ny_o 39 1 (.aload_n 0), ny_o1 40 3 (.getfield 384) 10 114, ny_o 43 3 (.invokevirtual 399), ny_o 46 1 .iadd, ny_o 47 1 .ireturn]
def m_Md_leaves : ny_M := (⟨"NymphRotaModel", "leaves", "(I)I"⟩, prog_13_method_125_code, 3, (Option.some Jvm.ClassFile.FieldType.int), false, pg_Md_leaves)
def pg_Md_act : List ny_Op := [ny_o 0 1 (.aload_n 0), ny_o2 1 1 (.iconst 0) 0, ny_o1 2 3 (.putfield 366) 10 105, ny_o 5 1 (.iload_n 1), ny_o 6 3 (.invokestatic 356), ny_o 9 3 (.ifCond .eq 24), ny_o 12 1 (.iload_n 2), ny_o 13 1 .i2l, ny_o3 14 1 (.lconst 0) 0, ny_o3 15 3 (.ldc2_w 300) 3, ny_o 18 3 (.invokestatic 63), ny_o 21 3 (.ifCond .eq 12), ny_o 24 1 (.aload_n 0), ny_o 25 1 (.iload_n 1), ny_o 26 3 (.invokevirtual 363), ny_o2 29 1 (.iconst 1) 1, ny_o 30 3 (.if_icmp .eq 5), ny_o2 33 1 (.iconst 0) 0, ny_o 34 1 .ireturn, ny_o 35 1 (.aload_n 0), ny_o2 36 1 (.iconst 0) 0, ny_o1 37 3 (.putfield 390) 10 119, ny_o 40 1 (.aload_n 0), ny_o 41 1 (.aload_n 0), ny_o 42 1 (.aload_n 0), ny_o1 43 3 (.getfield 52) 10 97, ny_o 46 1 (.iload_n 1), ny_o 47 1 .iaload, ny_o2 48 1 (.iconst 0) 0, ny_o 49 3 (.invokevirtual 82), ny_o1 52 3 (.putfield 375) 10 108, ny_o 55 1 (.aload_n 0), ny_o 56 1 (.aload_n 0), ny_o1 57 3 (.getfield 52) 10 97, ny_o 60 1 (.iload_n 1), ny_o 61 1 .iaload, ny_o1 62 3 (.putfield 372) 10 111, ny_o 65 1 (.aload_n 0), ny_o 66 1 (.aload_n 0), ny_o 67 1 (.aload_n 0), ny_o1 68 3 (.getfield 52) 10 97, ny_o 71 1 (.iload_n 1), ny_o 72 1 .iaload, ny_o2 73 1 (.iconst 3) 3, ny_o 74 3 (.invokevirtual 82), ny_o1 77 3 (.putfield 384) 10 114, ny_o 80 1 (.iload_n 2), ny_o 81 3 (.ifCond .ne 11), ny_o 84 1 (.aload_n 0), ny_o 85 1 (.iload_n 3), ny_o 86 3 (.invokevirtual 381), ny_o 89 3 (.goto 34), ny_o 92 1 (.iload_n 2), ny_o2 93 1 (.iconst 1) 1, ny_o 94 3 (.if_icmp .ne 11), ny_o 97 1 (.aload_n 0), ny_o 98 1 (.iload_n 3), ny_o 99 3 (.invokevirtual 399), ny_o 102 3 (.goto 21), ny_o 105 1 (.iload_n 2), ny_o2 106 1 (.iconst 2) 2, ny_o 107 3 (.if_icmp .ne 11), ny_o 110 1 (.aload_n 0), ny_o 111 1 (.iload_n 3), ny_o 112 3 (.invokevirtual 402), ny_o 115 3 (.goto 8), ny_o 118 1 (.aload_n 0), ny_o 119 1 (.iload_n 3), ny_o 120 3 (.invokevirtual 408), ny_o 123 2 (.istore 4), ny_o 125 1 (.aload_n 0), ny_o1 126 3 (.getfield 390) 10 119, ny_o 129 3 (.ifCond .eq 8), ny_o2 132 2 (.bipush (-15)) (-15), ny_o 134 3 (.goto 5), ny_o 137 2 (.iload 4), ny_o 139 1 .ireturn]
def m_Md_act : ny_M := (⟨"NymphRotaModel", "act", "(III)I"⟩, prog_13_method_126_code, 5, (Option.some Jvm.ClassFile.FieldType.int), false, pg_Md_act)
def pg_Md_trace : List ny_Op := [ny_o 0 1 (.iload_n 1), ny_o 1 1 .i2l, ny_o3 2 1 (.lconst 0) 0, ny_o 3 1 (.aload_n 0), ny_o1 4 3 (.getfield 366) 10 105, ny_o2 7 1 (.iconst 1) 1, ny_o 8 1 .isub, ny_o 9 1 .i2l, ny_o 10 3 (.invokestatic 63), ny_o 13 3 (.ifCond .eq 12), ny_o 16 1 (.aload_n 0), ny_o1 17 3 (.getfield 58) 10 103, ny_o 20 1 (.iload_n 1), ny_o 21 1 .iaload, ny_o 22 3 (.goto 5), ny_o2 25 2 (.bipush (-3)) (-3), ny_o 27 1 .ireturn]
def m_Md_trace : ny_M := (⟨"NymphRotaModel", "trace", "(I)I"⟩, prog_13_method_127_code, 2, (Option.some Jvm.ClassFile.FieldType.int), false, pg_Md_trace)
def pg_Md_many : List ny_Op := [ny_o 0 1 (.iload_n 1), ny_o 1 43 (.tableswitch 88 0 6 #[43, 50, 57, 65, 73, 78, 83]), ny_o 44 1 (.aload_n 0), ny_o1 45 3 (.getfield 7) 10 1, ny_o2 48 1 (.iconst 0) 0, ny_o 49 1 .iaload, ny_o 50 1 .ireturn, ny_o 51 1 (.aload_n 0), ny_o1 52 3 (.getfield 7) 10 1, ny_o2 55 1 (.iconst 5) 5, ny_o 56 1 .iaload, ny_o 57 1 .ireturn, ny_o 58 1 (.aload_n 0), ny_o 59 3 (.invokevirtual 148), ny_o 62 3 (.invokestatic 411), ny_o 65 1 .ireturn, ny_o 66 1 (.aload_n 0), ny_o1 67 3 (.getfield 7) 10 1, ny_o2 70 2 (.bipush 6) 6, ny_o 72 1 .iaload, ny_o 73 1 .ireturn, ny_o 74 1 (.aload_n 0), ny_o1 75 3 (.getfield 334) 10 81, ny_o 78 1 .ireturn, ny_o 79 1 (.aload_n 0), ny_o1 80 3 (.getfield 157) 10 15, ny_o 83 1 .ireturn, ny_o 84 1 (.aload_n 0), ny_o1 85 3 (.getfield 366) 10 105, ny_o 88 1 .ireturn, ny_o2 89 1 (.iconst (-1)) (-1), ny_o 90 1 .ireturn]
def m_Md_many : ny_M := (⟨"NymphRotaModel", "many", "(I)I"⟩, prog_13_method_128_code, 2, (Option.some Jvm.ClassFile.FieldType.int), false, pg_Md_many)
def pg_Md_keep : List ny_Op := [ny_o2 0 1 (.iconst 0) 0, ny_o 1 1 (.istore_n 1), ny_o 2 1 (.iload_n 1), ny_o2 3 3 (.sipush 572) 572, ny_o 6 3 (.if_icmp .ge 21), ny_o 9 1 (.aload_n 0), ny_o1 10 3 (.getfield 13) 10 4, ny_o 13 1 (.iload_n 1), ny_o 14 1 (.aload_n 0), ny_o1 15 3 (.getfield 7) 10 1, ny_o 18 1 (.iload_n 1), ny_o 19 1 .iaload, ny_o 20 1 .iastore, ny_o2 21 3 (.iinc 1 1) 1, ny_o 24 3 (.goto (-22)), ny_o 27 1 (.aload_n 0), ny_o2 28 1 (.iconst 1) 1, ny_o1 29 3 (.putfield 414) 10 8, ny_o2 32 1 (.iconst 1) 1, ny_o 33 1 .ireturn]
def m_Md_keep : ny_M := (⟨"NymphRotaModel", "keep", "()I"⟩, prog_13_method_129_code, 2, (Option.some Jvm.ClassFile.FieldType.int), false, pg_Md_keep)
def pg_Md_again : List ny_Op := [ny_o 0 1 (.aload_n 0), ny_o1 1 3 (.getfield 414) 10 8, ny_o 4 3 (.ifCond .ne 6), ny_o2 7 2 (.bipush (-3)) (-3), ny_o 9 1 .ireturn, ny_o2 10 1 (.iconst 0) 0, ny_o 11 1 (.istore_n 1), ny_o 12 1 (.iload_n 1), ny_o2 13 3 (.sipush 572) 572, ny_o 16 3 (.if_icmp .ge 21), ny_o 19 1 (.aload_n 0), ny_o1 20 3 (.getfield 7) 10 1, ny_o 23 1 (.iload_n 1), ny_o 24 1 (.aload_n 0), ny_o1 25 3 (.getfield 13) 10 4, ny_o 28 1 (.iload_n 1), ny_o 29 1 .iaload, ny_o 30 1 .iastore, ny_o2 31 3 (.iinc 1 1) 1, ny_o 34 3 (.goto (-22)), ny_o 37 1 (.aload_n 0), ny_o1 38 3 (.getfield 7) 10 1, ny_o2 41 1 (.iconst 0) 0, ny_o 42 1 .iaload, ny_o 43 1 .ireturn]
def m_Md_again : ny_M := (⟨"NymphRotaModel", "again", "()I"⟩, prog_13_method_130_code, 2, (Option.some Jvm.ClassFile.FieldType.int), false, pg_Md_again)
def pg_Ji_bitCount : List ny_Op := [ny_o 0 1 (.iload_n 0), ny_o 1 1 (.iload_n 0), ny_o2 2 1 (.iconst 1) 1, ny_o 3 1 .iushr, ny_o2 4 3 (.ldc_w 265) 1431655765, ny_o 7 1 .iand, ny_o 8 1 .isub, ny_o 9 1 (.istore_n 0), ny_o 10 1 (.iload_n 0), ny_o2 11 3 (.ldc_w 266) 858993459, ny_o 14 1 .iand, ny_o 15 1 (.iload_n 0), ny_o2 16 1 (.iconst 2) 2, ny_o 17 1 .iushr, ny_o2 18 3 (.ldc_w 266) 858993459, ny_o 21 1 .iand, ny_o 22 1 .iadd, ny_o 23 1 (.istore_n 0), ny_o 24 1 (.iload_n 0), ny_o 25 1 (.iload_n 0), ny_o2 26 1 (.iconst 4) 4, ny_o 27 1 .iushr, ny_o 28 1 .iadd, ny_o2 29 3 (.ldc_w 267) 252645135, ny_o 32 1 .iand, ny_o 33 1 (.istore_n 0), ny_o 34 1 (.iload_n 0), ny_o 35 1 (.iload_n 0), ny_o2 36 2 (.bipush 8) 8, ny_o 38 1 .iushr, ny_o 39 1 .iadd, ny_o 40 1 (.istore_n 0), ny_o 41 1 (.iload_n 0), ny_o 42 1 (.iload_n 0), ny_o2 43 2 (.bipush 16) 16, ny_o 45 1 .iushr, ny_o 46 1 .iadd, ny_o 47 1 (.istore_n 0), ny_o 48 1 (.iload_n 0), ny_o2 49 2 (.bipush 63) 63, ny_o 51 1 .iand, ny_o 52 1 .ireturn]
def m_Ji_bitCount : ny_M := (⟨"java/lang/Integer", "bitCount", "(I)I"⟩, prog_14_method_49_code, 1, (Option.some Jvm.ClassFile.FieldType.int), false, pg_Ji_bitCount)
def pg_Js_length : List ny_Op := [ny_o 0 1 (.aload_n 0), ny_o1 1 3 (.getfield 9) 11 4, ny_o 4 1 .arraylength, ny_o 5 1 (.aload_n 0), ny_o 6 3 (.invokevirtual 335), ny_o 9 1 .ishr, ny_o 10 1 .ireturn]
def m_Js_length : ny_M := (⟨"java/lang/String", "length", "()I"⟩, prog_16_method_54_code, 1, (Option.some Jvm.ClassFile.FieldType.int), false, pg_Js_length)
def pg_Js_charAt : List ny_Op := [ny_o 0 1 (.aload_n 0), ny_o 1 3 (.invokevirtual 492), ny_o 4 3 (.ifCond .eq 12), ny_o 7 1 (.aload_n 0), ny_o1 8 3 (.getfield 9) 11 4, ny_o 11 1 (.iload_n 1), ny_o 12 3 (.invokestatic 495), ny_o 15 1 .ireturn, ny_o 16 1 (.aload_n 0), ny_o1 17 3 (.getfield 9) 11 4, ny_o 20 1 (.iload_n 1), ny_o 21 3 (.invokestatic 498), ny_o 24 1 .ireturn]
def m_Js_charAt : ny_M := (⟨"java/lang/String", "charAt", "(I)C"⟩, prog_16_method_56_code, 2, (Option.some Jvm.ClassFile.FieldType.char), false, pg_Js_charAt)
def pg_Js_coder : List ny_Op := [ny_o1 0 3 (.getstatic 38) 2 0, ny_o 3 3 (.ifCond .eq 10), ny_o 6 1 (.aload_n 0), ny_o1 7 3 (.getfield 15) 11 0, ny_o 10 3 (.goto 4), ny_o2 13 1 (.iconst 1) 1, ny_o 14 1 .ireturn]
def m_Js_coder : ny_M := (⟨"java/lang/String", "coder", "()B"⟩, prog_16_method_152_code, 1, (Option.some Jvm.ClassFile.FieldType.byte), false, pg_Js_coder)
def pg_Js_isLatin1 : List ny_Op := [ny_o1 0 3 (.getstatic 38) 2 0, ny_o 3 3 (.ifCond .eq 14), ny_o 6 1 (.aload_n 0), ny_o1 7 3 (.getfield 15) 11 0, ny_o 10 3 (.ifCond .ne 7), ny_o2 13 1 (.iconst 1) 1, ny_o 14 3 (.goto 4), ny_o2 17 1 (.iconst 0) 0, ny_o 18 1 .ireturn]
def m_Js_isLatin1 : ny_M := (⟨"java/lang/String", "isLatin1", "()Z"⟩, prog_16_method_154_code, 1, (Option.some Jvm.ClassFile.FieldType.boolean), false, pg_Js_isLatin1)
def pg_Js_checkIndex : List ny_Op := [ny_o 0 1 (.iload_n 0), ny_o 1 1 (.iload_n 1), ny_o1 2 3 (.getstatic 1053) 3 0, ny_o 5 3 (.invokestatic 1059), ny_o 8 1 .pop, ny_o 9 1 .return_]
def m_Js_checkIndex : ny_M := (⟨"java/lang/String", "checkIndex", "(II)V"⟩, prog_16_method_155_code, 2, none, false, pg_Js_checkIndex)
def pg_Jl_charAt : List ny_Op := [ny_o 0 1 (.iload_n 1), ny_o 1 1 (.aload_n 0), ny_o 2 1 .arraylength, ny_o 3 3 (.invokestatic 9), ny_o 6 1 (.aload_n 0), ny_o 7 1 (.iload_n 1), ny_o 8 1 .baload, ny_o2 9 3 (.sipush 255) 255, ny_o 12 1 .iand, ny_o 13 1 .i2c, ny_o 14 1 .ireturn]
def m_Jl_charAt : ny_M := (⟨"java/lang/StringLatin1", "charAt", "([BI)C"⟩, prog_17_method_2_code, 2, (Option.some Jvm.ClassFile.FieldType.char), false, pg_Jl_charAt)
def pg_Ja_fill : List ny_Op := [ny_o2 0 1 (.iconst 0) 0, ny_o 1 1 (.istore_n 2), ny_o 2 1 (.aload_n 0), ny_o 3 1 .arraylength, ny_o 4 1 (.istore_n 3), ny_o 5 1 (.iload_n 2), ny_o 6 1 (.iload_n 3), ny_o 7 3 (.if_icmp .ge 13), ny_o 10 1 (.aload_n 0), ny_o 11 1 (.iload_n 2), ny_o 12 1 (.iload_n 1), ny_o 13 1 .iastore, ny_o2 14 3 (.iinc 2 1) 1, ny_o 17 3 (.goto (-12)), ny_o 20 1 .return_]
def m_Ja_fill : ny_M := (⟨"java/util/Arrays", "fill", "([II)V"⟩, prog_20_method_103_code, 4, none, false, pg_Ja_fill)
def pg_Jp_checkIndex : List ny_Op := [ny_o 0 1 (.iload_n 0), ny_o 1 3 (.ifCond .lt 8), ny_o 4 1 (.iload_n 0), ny_o 5 1 (.iload_n 1), ny_o 6 3 (.if_icmp .lt 10), ny_o 9 1 (.aload_n 2), ny_o 10 1 (.iload_n 0), ny_o 11 1 (.iload_n 1), ny_o 12 3 (.invokestatic 95), ny_o 15 1 .athrow, ny_o 16 1 (.iload_n 0), ny_o 17 1 .ireturn]
def m_Jp_checkIndex : ny_M := (⟨"jdk/internal/util/Preconditions", "checkIndex", "(IILjava/util/function/BiFunction;)I"⟩, prog_21_method_11_code, 3, (Option.some Jvm.ClassFile.FieldType.int), false, pg_Jp_checkIndex)
def pg_Lw_law_0 : List ny_Op := [ny_o1 0 3 (.new 7) 9 0, ny_o 3 1 .dup, ny_o 4 3 (.invokespecial 9), ny_o 7 1 (.astore_n 1), ny_o1 8 3 (.new 10) 10 0, ny_o 11 1 .dup, ny_o 12 3 (.invokespecial 12), ny_o 15 1 (.astore_n 2), ny_o2 16 1 (.iconst 0) 0, ny_o 17 1 (.istore_n 3), ny_o 18 1 (.iload_n 3), ny_o 19 1 (.aload_n 0), ny_o 20 1 .arraylength, ny_o2 21 1 (.iconst 5) 5, ny_o 22 1 .isub, ny_o 23 3 (.if_icmp .gt 1738), ny_o 26 1 (.aload_n 0), ny_o 27 1 (.iload_n 3), ny_o 28 1 .iaload, ny_o2 29 2 (.bipush 63) 63, ny_o 31 1 .iand, ny_o 32 220 (.tableswitch 1723 0 50 #[220, 273, 306, 349, 382, 415, 458, 491, 514, 527, 550, 613, 626, 639, 662, 685, 708, 731, 754, 777, 800, 843, 866, 899, 922, 955, 988, 1011, 1034, 1087, 1100, 1123, 1136, 1159, 1172, 1205, 1228, 1261, 1304, 1317, 1360, 1403, 1446, 1489, 1532, 1575, 1608, 1651, 1674, 1697, 1710]), ny_o 252 1 (.aload_n 1), ny_o 253 1 (.aload_n 0), ny_o 254 1 (.iload_n 3), ny_o2 255 1 (.iconst 1) 1, ny_o 256 1 .iadd, ny_o 257 1 .iaload, ny_o 258 1 (.aload_n 0), ny_o 259 1 (.iload_n 3), ny_o2 260 1 (.iconst 2) 2, ny_o 261 1 .iadd, ny_o 262 1 .iaload, ny_o 263 1 (.aload_n 0), ny_o 264 1 (.iload_n 3), ny_o2 265 1 (.iconst 3) 3, ny_o 266 1 .iadd, ny_o 267 1 .iaload, ny_o 268 1 (.aload_n 0), ny_o 269 1 (.iload_n 3), ny_o2 270 1 (.iconst 4) 4, ny_o 271 1 .iadd, ny_o 272 1 .iaload, ny_o 273 3 (.invokevirtual 13), ny_o 276 1 (.aload_n 2), ny_o 277 1 (.aload_n 0), ny_o 278 1 (.iload_n 3), ny_o2 279 1 (.iconst 1) 1, ny_o 280 1 .iadd, ny_o 281 1 .iaload, ny_o 282 1 (.aload_n 0), ny_o 283 1 (.iload_n 3), ny_o2 284 1 (.iconst 2) 2, ny_o 285 1 .iadd, ny_o 286 1 .iaload, ny_o 287 1 (.aload_n 0), ny_o 288 1 (.iload_n 3), ny_o2 289 1 (.iconst 3) 3, ny_o 290 1 .iadd, ny_o 291 1 .iaload, ny_o 292 1 (.aload_n 0), ny_o 293 1 (.iload_n 3), ny_o2 294 1 (.iconst 4) 4, ny_o 295 1 .iadd, ny_o 296 1 .iaload, ny_o 297 3 (.invokevirtual 17), ny_o 300 3 (.if_icmp .eq 1455), ny_o2 303 1 (.iconst 0) 0, ny_o 304 1 .ireturn, ny_o 305 1 (.aload_n 1), ny_o 306 1 (.aload_n 0), ny_o 307 1 (.iload_n 3), ny_o2 308 1 (.iconst 1) 1, ny_o 309 1 .iadd, ny_o 310 1 .iaload, ny_o 311 1 (.aload_n 0), ny_o 312 1 (.iload_n 3), ny_o2 313 1 (.iconst 2) 2, ny_o 314 1 .iadd, ny_o 315 1 .iaload, ny_o 316 3 (.invokevirtual 18), ny_o 319 1 (.aload_n 2), ny_o 320 1 (.aload_n 0), ny_o 321 1 (.iload_n 3), ny_o2 322 1 (.iconst 1) 1, ny_o 323 1 .iadd, ny_o 324 1 .iaload, ny_o 325 1 (.aload_n 0), ny_o 326 1 (.iload_n 3), ny_o2 327 1 (.iconst 2) 2, ny_o 328 1 .iadd, ny_o 329 1 .iaload, ny_o 330 3 (.invokevirtual 22), ny_o 333 3 (.if_icmp .eq 1422), ny_o2 336 1 (.iconst 0) 0, ny_o 337 1 .ireturn, ny_o 338 1 (.aload_n 1), ny_o 339 1 (.aload_n 0), ny_o 340 1 (.iload_n 3), ny_o2 341 1 (.iconst 1) 1]
def pg_Lw_law_1 : List ny_Op := [ny_o 342 1 .iadd, ny_o 343 1 .iaload, ny_o 344 1 (.aload_n 0), ny_o 345 1 (.iload_n 3), ny_o2 346 1 (.iconst 2) 2, ny_o 347 1 .iadd, ny_o 348 1 .iaload, ny_o 349 1 (.aload_n 0), ny_o 350 1 (.iload_n 3), ny_o2 351 1 (.iconst 3) 3, ny_o 352 1 .iadd, ny_o 353 1 .iaload, ny_o 354 3 (.invokevirtual 23), ny_o 357 1 (.aload_n 2), ny_o 358 1 (.aload_n 0), ny_o 359 1 (.iload_n 3), ny_o2 360 1 (.iconst 1) 1, ny_o 361 1 .iadd, ny_o 362 1 .iaload, ny_o 363 1 (.aload_n 0), ny_o 364 1 (.iload_n 3), ny_o2 365 1 (.iconst 2) 2, ny_o 366 1 .iadd, ny_o 367 1 .iaload, ny_o 368 1 (.aload_n 0), ny_o 369 1 (.iload_n 3), ny_o2 370 1 (.iconst 3) 3, ny_o 371 1 .iadd, ny_o 372 1 .iaload, ny_o 373 3 (.invokevirtual 27), ny_o 376 3 (.if_icmp .eq 1379), ny_o2 379 1 (.iconst 0) 0, ny_o 380 1 .ireturn, ny_o 381 1 (.aload_n 1), ny_o 382 1 (.aload_n 0), ny_o 383 1 (.iload_n 3), ny_o2 384 1 (.iconst 1) 1, ny_o 385 1 .iadd, ny_o 386 1 .iaload, ny_o 387 1 (.aload_n 0), ny_o 388 1 (.iload_n 3), ny_o2 389 1 (.iconst 2) 2, ny_o 390 1 .iadd, ny_o 391 1 .iaload, ny_o 392 3 (.invokevirtual 28), ny_o 395 1 (.aload_n 2), ny_o 396 1 (.aload_n 0), ny_o 397 1 (.iload_n 3), ny_o2 398 1 (.iconst 1) 1, ny_o 399 1 .iadd, ny_o 400 1 .iaload, ny_o 401 1 (.aload_n 0), ny_o 402 1 (.iload_n 3), ny_o2 403 1 (.iconst 2) 2, ny_o 404 1 .iadd, ny_o 405 1 .iaload, ny_o 406 3 (.invokevirtual 31), ny_o 409 3 (.if_icmp .eq 1346), ny_o2 412 1 (.iconst 0) 0, ny_o 413 1 .ireturn, ny_o 414 1 (.aload_n 1), ny_o 415 1 (.aload_n 0), ny_o 416 1 (.iload_n 3), ny_o2 417 1 (.iconst 1) 1, ny_o 418 1 .iadd, ny_o 419 1 .iaload, ny_o 420 1 (.aload_n 0), ny_o 421 1 (.iload_n 3), ny_o2 422 1 (.iconst 2) 2, ny_o 423 1 .iadd, ny_o 424 1 .iaload, ny_o 425 3 (.invokevirtual 32), ny_o 428 1 (.aload_n 2), ny_o 429 1 (.aload_n 0), ny_o 430 1 (.iload_n 3), ny_o2 431 1 (.iconst 1) 1, ny_o 432 1 .iadd, ny_o 433 1 .iaload, ny_o 434 1 (.aload_n 0), ny_o 435 1 (.iload_n 3), ny_o2 436 1 (.iconst 2) 2, ny_o 437 1 .iadd, ny_o 438 1 .iaload, ny_o 439 3 (.invokevirtual 35), ny_o 442 3 (.if_icmp .eq 1313), ny_o2 445 1 (.iconst 0) 0, ny_o 446 1 .ireturn, ny_o 447 1 (.aload_n 1), ny_o 448 1 (.aload_n 0), ny_o 449 1 (.iload_n 3), ny_o2 450 1 (.iconst 1) 1, ny_o 451 1 .iadd, ny_o 452 1 .iaload, ny_o 453 1 (.aload_n 0), ny_o 454 1 (.iload_n 3), ny_o2 455 1 (.iconst 2) 2, ny_o 456 1 .iadd, ny_o 457 1 .iaload, ny_o 458 1 (.aload_n 0), ny_o 459 1 (.iload_n 3)]
def pg_Lw_law_2 : List ny_Op := [ny_o2 460 1 (.iconst 3) 3, ny_o 461 1 .iadd, ny_o 462 1 .iaload, ny_o 463 3 (.invokevirtual 36), ny_o 466 1 (.aload_n 2), ny_o 467 1 (.aload_n 0), ny_o 468 1 (.iload_n 3), ny_o2 469 1 (.iconst 1) 1, ny_o 470 1 .iadd, ny_o 471 1 .iaload, ny_o 472 1 (.aload_n 0), ny_o 473 1 (.iload_n 3), ny_o2 474 1 (.iconst 2) 2, ny_o 475 1 .iadd, ny_o 476 1 .iaload, ny_o 477 1 (.aload_n 0), ny_o 478 1 (.iload_n 3), ny_o2 479 1 (.iconst 3) 3, ny_o 480 1 .iadd, ny_o 481 1 .iaload, ny_o 482 3 (.invokevirtual 39), ny_o 485 3 (.if_icmp .eq 1270), ny_o2 488 1 (.iconst 0) 0, ny_o 489 1 .ireturn, ny_o 490 1 (.aload_n 1), ny_o 491 1 (.aload_n 0), ny_o 492 1 (.iload_n 3), ny_o2 493 1 (.iconst 1) 1, ny_o 494 1 .iadd, ny_o 495 1 .iaload, ny_o 496 1 (.aload_n 0), ny_o 497 1 (.iload_n 3), ny_o2 498 1 (.iconst 2) 2, ny_o 499 1 .iadd, ny_o 500 1 .iaload, ny_o 501 3 (.invokevirtual 40), ny_o 504 1 (.aload_n 2), ny_o 505 1 (.aload_n 0), ny_o 506 1 (.iload_n 3), ny_o2 507 1 (.iconst 1) 1, ny_o 508 1 .iadd, ny_o 509 1 .iaload, ny_o 510 1 (.aload_n 0), ny_o 511 1 (.iload_n 3), ny_o2 512 1 (.iconst 2) 2, ny_o 513 1 .iadd, ny_o 514 1 .iaload, ny_o 515 3 (.invokevirtual 43), ny_o 518 3 (.if_icmp .eq 1237), ny_o2 521 1 (.iconst 0) 0, ny_o 522 1 .ireturn, ny_o 523 1 (.aload_n 1), ny_o 524 1 (.aload_n 0), ny_o 525 1 (.iload_n 3), ny_o2 526 1 (.iconst 1) 1, ny_o 527 1 .iadd, ny_o 528 1 .iaload, ny_o 529 3 (.invokevirtual 44), ny_o 532 1 (.aload_n 2), ny_o 533 1 (.aload_n 0), ny_o 534 1 (.iload_n 3), ny_o2 535 1 (.iconst 1) 1, ny_o 536 1 .iadd, ny_o 537 1 .iaload, ny_o 538 3 (.invokevirtual 48), ny_o 541 3 (.if_icmp .eq 1214), ny_o2 544 1 (.iconst 0) 0, ny_o 545 1 .ireturn, ny_o 546 1 (.aload_n 1), ny_o 547 3 (.invokevirtual 49), ny_o 550 1 (.aload_n 2), ny_o 551 3 (.invokevirtual 53), ny_o 554 3 (.if_icmp .eq 1201), ny_o2 557 1 (.iconst 0) 0, ny_o 558 1 .ireturn, ny_o 559 1 (.aload_n 1), ny_o 560 1 (.aload_n 0), ny_o 561 1 (.iload_n 3), ny_o2 562 1 (.iconst 1) 1, ny_o 563 1 .iadd, ny_o 564 1 .iaload, ny_o 565 3 (.invokevirtual 54), ny_o 568 1 (.aload_n 2), ny_o 569 1 (.aload_n 0), ny_o 570 1 (.iload_n 3), ny_o2 571 1 (.iconst 1) 1, ny_o 572 1 .iadd, ny_o 573 1 .iaload, ny_o 574 3 (.invokevirtual 57), ny_o 577 3 (.if_icmp .eq 1178), ny_o2 580 1 (.iconst 0) 0, ny_o 581 1 .ireturn, ny_o 582 1 (.aload_n 1), ny_o 583 1 (.aload_n 0), ny_o 584 1 (.iload_n 3), ny_o2 585 1 (.iconst 1) 1, ny_o 586 1 .iadd, ny_o 587 1 .iaload, ny_o 588 1 .i2l, ny_o2 589 2 (.bipush 32) 32]
def pg_Lw_law_3 : List ny_Op := [ny_o 591 1 .lshl, ny_o 592 1 (.aload_n 0), ny_o 593 1 (.iload_n 3), ny_o2 594 1 (.iconst 2) 2, ny_o 595 1 .iadd, ny_o 596 1 .iaload, ny_o 597 1 .i2l, ny_o3 598 3 (.ldc2_w 58) 4294967295, ny_o 601 1 .land, ny_o 602 1 .lor, ny_o 603 1 (.aload_n 0), ny_o 604 1 (.iload_n 3), ny_o2 605 1 (.iconst 3) 3, ny_o 606 1 .iadd, ny_o 607 1 .iaload, ny_o 608 3 (.invokevirtual 60), ny_o 611 1 (.aload_n 2), ny_o 612 1 (.aload_n 0), ny_o 613 1 (.iload_n 3), ny_o2 614 1 (.iconst 1) 1, ny_o 615 1 .iadd, ny_o 616 1 .iaload, ny_o 617 1 .i2l, ny_o2 618 2 (.bipush 32) 32, ny_o 620 1 .lshl, ny_o 621 1 (.aload_n 0), ny_o 622 1 (.iload_n 3), ny_o2 623 1 (.iconst 2) 2, ny_o 624 1 .iadd, ny_o 625 1 .iaload, ny_o 626 1 .i2l, ny_o3 627 3 (.ldc2_w 58) 4294967295, ny_o 630 1 .land, ny_o 631 1 .lor, ny_o 632 1 (.aload_n 0), ny_o 633 1 (.iload_n 3), ny_o2 634 1 (.iconst 3) 3, ny_o 635 1 .iadd, ny_o 636 1 .iaload, ny_o 637 3 (.invokevirtual 64), ny_o 640 3 (.if_icmp .eq 1115), ny_o2 643 1 (.iconst 0) 0, ny_o 644 1 .ireturn, ny_o 645 1 (.aload_n 1), ny_o 646 3 (.invokevirtual 65), ny_o 649 1 (.aload_n 2), ny_o 650 3 (.invokevirtual 68), ny_o 653 3 (.if_icmp .eq 1102), ny_o2 656 1 (.iconst 0) 0, ny_o 657 1 .ireturn, ny_o 658 1 (.aload_n 1), ny_o 659 3 (.invokevirtual 69), ny_o 662 1 (.aload_n 2), ny_o 663 3 (.invokevirtual 72), ny_o 666 3 (.if_icmp .eq 1089), ny_o2 669 1 (.iconst 0) 0, ny_o 670 1 .ireturn, ny_o 671 1 (.aload_n 1), ny_o 672 1 (.aload_n 0), ny_o 673 1 (.iload_n 3), ny_o2 674 1 (.iconst 1) 1, ny_o 675 1 .iadd, ny_o 676 1 .iaload, ny_o 677 3 (.invokevirtual 73), ny_o 680 1 (.aload_n 2), ny_o 681 1 (.aload_n 0), ny_o 682 1 (.iload_n 3), ny_o2 683 1 (.iconst 1) 1, ny_o 684 1 .iadd, ny_o 685 1 .iaload, ny_o 686 3 (.invokevirtual 76), ny_o 689 3 (.if_icmp .eq 1066), ny_o2 692 1 (.iconst 0) 0, ny_o 693 1 .ireturn, ny_o 694 1 (.aload_n 1), ny_o 695 1 (.aload_n 0), ny_o 696 1 (.iload_n 3), ny_o2 697 1 (.iconst 1) 1, ny_o 698 1 .iadd, ny_o 699 1 .iaload, ny_o 700 3 (.invokevirtual 77), ny_o 703 1 (.aload_n 2), ny_o 704 1 (.aload_n 0), ny_o 705 1 (.iload_n 3), ny_o2 706 1 (.iconst 1) 1, ny_o 707 1 .iadd, ny_o 708 1 .iaload, ny_o 709 3 (.invokevirtual 80), ny_o 712 3 (.if_icmp .eq 1043), ny_o2 715 1 (.iconst 0) 0, ny_o 716 1 .ireturn, ny_o 717 1 (.aload_n 1), ny_o 718 1 (.aload_n 0), ny_o 719 1 (.iload_n 3), ny_o2 720 1 (.iconst 1) 1, ny_o 721 1 .iadd, ny_o 722 1 .iaload, ny_o 723 3 (.invokevirtual 81), ny_o 726 1 (.aload_n 2), ny_o 727 1 (.aload_n 0)]
def pg_Lw_law_4 : List ny_Op := [ny_o 728 1 (.iload_n 3), ny_o2 729 1 (.iconst 1) 1, ny_o 730 1 .iadd, ny_o 731 1 .iaload, ny_o 732 3 (.invokevirtual 84), ny_o 735 3 (.if_icmp .eq 1020), ny_o2 738 1 (.iconst 0) 0, ny_o 739 1 .ireturn, ny_o 740 1 (.aload_n 1), ny_o 741 1 (.aload_n 0), ny_o 742 1 (.iload_n 3), ny_o2 743 1 (.iconst 1) 1, ny_o 744 1 .iadd, ny_o 745 1 .iaload, ny_o 746 3 (.invokevirtual 85), ny_o 749 1 (.aload_n 2), ny_o 750 1 (.aload_n 0), ny_o 751 1 (.iload_n 3), ny_o2 752 1 (.iconst 1) 1, ny_o 753 1 .iadd, ny_o 754 1 .iaload, ny_o 755 3 (.invokevirtual 88), ny_o 758 3 (.if_icmp .eq 997), ny_o2 761 1 (.iconst 0) 0, ny_o 762 1 .ireturn, ny_o 763 1 (.aload_n 1), ny_o 764 1 (.aload_n 0), ny_o 765 1 (.iload_n 3), ny_o2 766 1 (.iconst 1) 1, ny_o 767 1 .iadd, ny_o 768 1 .iaload, ny_o 769 3 (.invokevirtual 89), ny_o 772 1 (.aload_n 2), ny_o 773 1 (.aload_n 0), ny_o 774 1 (.iload_n 3), ny_o2 775 1 (.iconst 1) 1, ny_o 776 1 .iadd, ny_o 777 1 .iaload, ny_o 778 3 (.invokevirtual 92), ny_o 781 3 (.if_icmp .eq 974), ny_o2 784 1 (.iconst 0) 0, ny_o 785 1 .ireturn, ny_o 786 1 (.aload_n 1), ny_o 787 1 (.aload_n 0), ny_o 788 1 (.iload_n 3), ny_o2 789 1 (.iconst 1) 1, ny_o 790 1 .iadd, ny_o 791 1 .iaload, ny_o 792 3 (.invokevirtual 93), ny_o 795 1 (.aload_n 2), ny_o 796 1 (.aload_n 0), ny_o 797 1 (.iload_n 3), ny_o2 798 1 (.iconst 1) 1, ny_o 799 1 .iadd, ny_o 800 1 .iaload, ny_o 801 3 (.invokevirtual 96), ny_o 804 3 (.if_icmp .eq 951), ny_o2 807 1 (.iconst 0) 0, ny_o 808 1 .ireturn, ny_o 809 1 (.aload_n 1), ny_o 810 1 (.aload_n 0), ny_o 811 1 (.iload_n 3), ny_o2 812 1 (.iconst 1) 1, ny_o 813 1 .iadd, ny_o 814 1 .iaload, ny_o 815 3 (.invokevirtual 97), ny_o 818 1 (.aload_n 2), ny_o 819 1 (.aload_n 0), ny_o 820 1 (.iload_n 3), ny_o2 821 1 (.iconst 1) 1, ny_o 822 1 .iadd, ny_o 823 1 .iaload, ny_o 824 3 (.invokevirtual 100), ny_o 827 3 (.if_icmp .eq 928), ny_o2 830 1 (.iconst 0) 0, ny_o 831 1 .ireturn, ny_o 832 1 (.aload_n 1), ny_o 833 1 (.aload_n 0), ny_o 834 1 (.iload_n 3), ny_o2 835 1 (.iconst 1) 1, ny_o 836 1 .iadd, ny_o 837 1 .iaload, ny_o 838 1 (.aload_n 0), ny_o 839 1 (.iload_n 3), ny_o2 840 1 (.iconst 2) 2, ny_o 841 1 .iadd, ny_o 842 1 .iaload, ny_o 843 1 (.aload_n 0), ny_o 844 1 (.iload_n 3), ny_o2 845 1 (.iconst 3) 3, ny_o 846 1 .iadd, ny_o 847 1 .iaload, ny_o 848 3 (.invokevirtual 101), ny_o 851 1 (.aload_n 2), ny_o 852 1 (.aload_n 0), ny_o 853 1 (.iload_n 3), ny_o2 854 1 (.iconst 1) 1, ny_o 855 1 .iadd, ny_o 856 1 .iaload, ny_o 857 1 (.aload_n 0)]
def pg_Lw_law_5 : List ny_Op := [ny_o 858 1 (.iload_n 3), ny_o2 859 1 (.iconst 2) 2, ny_o 860 1 .iadd, ny_o 861 1 .iaload, ny_o 862 1 (.aload_n 0), ny_o 863 1 (.iload_n 3), ny_o2 864 1 (.iconst 3) 3, ny_o 865 1 .iadd, ny_o 866 1 .iaload, ny_o 867 3 (.invokevirtual 104), ny_o 870 3 (.if_icmp .eq 885), ny_o2 873 1 (.iconst 0) 0, ny_o 874 1 .ireturn, ny_o 875 1 (.aload_n 1), ny_o 876 1 (.aload_n 0), ny_o 877 1 (.iload_n 3), ny_o2 878 1 (.iconst 1) 1, ny_o 879 1 .iadd, ny_o 880 1 .iaload, ny_o 881 3 (.invokevirtual 105), ny_o 884 1 (.aload_n 2), ny_o 885 1 (.aload_n 0), ny_o 886 1 (.iload_n 3), ny_o2 887 1 (.iconst 1) 1, ny_o 888 1 .iadd, ny_o 889 1 .iaload, ny_o 890 3 (.invokevirtual 108), ny_o 893 3 (.if_icmp .eq 862), ny_o2 896 1 (.iconst 0) 0, ny_o 897 1 .ireturn, ny_o 898 1 (.aload_n 1), ny_o 899 1 (.aload_n 0), ny_o 900 1 (.iload_n 3), ny_o2 901 1 (.iconst 1) 1, ny_o 902 1 .iadd, ny_o 903 1 .iaload, ny_o 904 1 (.aload_n 0), ny_o 905 1 (.iload_n 3), ny_o2 906 1 (.iconst 2) 2, ny_o 907 1 .iadd, ny_o 908 1 .iaload, ny_o 909 3 (.invokevirtual 109), ny_o 912 1 (.aload_n 2), ny_o 913 1 (.aload_n 0), ny_o 914 1 (.iload_n 3), ny_o2 915 1 (.iconst 1) 1, ny_o 916 1 .iadd, ny_o 917 1 .iaload, ny_o 918 1 (.aload_n 0), ny_o 919 1 (.iload_n 3), ny_o2 920 1 (.iconst 2) 2, ny_o 921 1 .iadd, ny_o 922 1 .iaload, ny_o 923 3 (.invokevirtual 112), ny_o 926 3 (.if_icmp .eq 829), ny_o2 929 1 (.iconst 0) 0, ny_o 930 1 .ireturn, ny_o 931 1 (.aload_n 1), ny_o 932 1 (.aload_n 0), ny_o 933 1 (.iload_n 3), ny_o2 934 1 (.iconst 1) 1, ny_o 935 1 .iadd, ny_o 936 1 .iaload, ny_o 937 3 (.invokevirtual 113), ny_o 940 1 (.aload_n 2), ny_o 941 1 (.aload_n 0), ny_o 942 1 (.iload_n 3), ny_o2 943 1 (.iconst 1) 1, ny_o 944 1 .iadd, ny_o 945 1 .iaload, ny_o 946 3 (.invokevirtual 116), ny_o 949 3 (.if_icmp .eq 806), ny_o2 952 1 (.iconst 0) 0, ny_o 953 1 .ireturn, ny_o 954 1 (.aload_n 1), ny_o 955 1 (.aload_n 0), ny_o 956 1 (.iload_n 3), ny_o2 957 1 (.iconst 1) 1, ny_o 958 1 .iadd, ny_o 959 1 .iaload, ny_o 960 1 (.aload_n 0), ny_o 961 1 (.iload_n 3), ny_o2 962 1 (.iconst 2) 2, ny_o 963 1 .iadd, ny_o 964 1 .iaload, ny_o 965 3 (.invokevirtual 117), ny_o 968 1 (.aload_n 2), ny_o 969 1 (.aload_n 0), ny_o 970 1 (.iload_n 3), ny_o2 971 1 (.iconst 1) 1, ny_o 972 1 .iadd, ny_o 973 1 .iaload, ny_o 974 1 (.aload_n 0), ny_o 975 1 (.iload_n 3), ny_o2 976 1 (.iconst 2) 2, ny_o 977 1 .iadd, ny_o 978 1 .iaload, ny_o 979 3 (.invokevirtual 120), ny_o 982 3 (.if_icmp .eq 773), ny_o2 985 1 (.iconst 0) 0]
def pg_Lw_law_6 : List ny_Op := [ny_o 986 1 .ireturn, ny_o 987 1 (.aload_n 1), ny_o 988 1 (.aload_n 0), ny_o 989 1 (.iload_n 3), ny_o2 990 1 (.iconst 1) 1, ny_o 991 1 .iadd, ny_o 992 1 .iaload, ny_o 993 1 (.aload_n 0), ny_o 994 1 (.iload_n 3), ny_o2 995 1 (.iconst 2) 2, ny_o 996 1 .iadd, ny_o 997 1 .iaload, ny_o 998 3 (.invokevirtual 121), ny_o 1001 1 (.aload_n 2), ny_o 1002 1 (.aload_n 0), ny_o 1003 1 (.iload_n 3), ny_o2 1004 1 (.iconst 1) 1, ny_o 1005 1 .iadd, ny_o 1006 1 .iaload, ny_o 1007 1 (.aload_n 0), ny_o 1008 1 (.iload_n 3), ny_o2 1009 1 (.iconst 2) 2, ny_o 1010 1 .iadd, ny_o 1011 1 .iaload, ny_o 1012 3 (.invokevirtual 124), ny_o 1015 3 (.if_icmp .eq 740), ny_o2 1018 1 (.iconst 0) 0, ny_o 1019 1 .ireturn, ny_o 1020 1 (.aload_n 1), ny_o 1021 1 (.aload_n 0), ny_o 1022 1 (.iload_n 3), ny_o2 1023 1 (.iconst 1) 1, ny_o 1024 1 .iadd, ny_o 1025 1 .iaload, ny_o 1026 3 (.invokevirtual 125), ny_o 1029 1 (.aload_n 2), ny_o 1030 1 (.aload_n 0), ny_o 1031 1 (.iload_n 3), ny_o2 1032 1 (.iconst 1) 1, ny_o 1033 1 .iadd, ny_o 1034 1 .iaload, ny_o 1035 3 (.invokevirtual 128), ny_o 1038 3 (.if_icmp .eq 717), ny_o2 1041 1 (.iconst 0) 0, ny_o 1042 1 .ireturn, ny_o 1043 1 (.aload_n 1), ny_o 1044 1 (.aload_n 0), ny_o 1045 1 (.iload_n 3), ny_o2 1046 1 (.iconst 1) 1, ny_o 1047 1 .iadd, ny_o 1048 1 .iaload, ny_o 1049 3 (.invokevirtual 129), ny_o 1052 1 (.aload_n 2), ny_o 1053 1 (.aload_n 0), ny_o 1054 1 (.iload_n 3), ny_o2 1055 1 (.iconst 1) 1, ny_o 1056 1 .iadd, ny_o 1057 1 .iaload, ny_o 1058 3 (.invokevirtual 132), ny_o 1061 3 (.if_icmp .eq 694), ny_o2 1064 1 (.iconst 0) 0, ny_o 1065 1 .ireturn, ny_o 1066 1 (.aload_n 1), ny_o 1067 1 (.aload_n 0), ny_o 1068 1 (.iload_n 3), ny_o2 1069 1 (.iconst 1) 1, ny_o 1070 1 .iadd, ny_o 1071 1 .iaload, ny_o 1072 1 (.aload_n 0), ny_o 1073 1 (.iload_n 3), ny_o2 1074 1 (.iconst 2) 2, ny_o 1075 1 .iadd, ny_o 1076 1 .iaload, ny_o 1077 1 (.aload_n 0), ny_o 1078 1 (.iload_n 3), ny_o2 1079 1 (.iconst 3) 3, ny_o 1080 1 .iadd, ny_o 1081 1 .iaload, ny_o 1082 1 (.aload_n 0), ny_o 1083 1 (.iload_n 3), ny_o2 1084 1 (.iconst 4) 4, ny_o 1085 1 .iadd, ny_o 1086 1 .iaload, ny_o 1087 3 (.invokevirtual 133), ny_o 1090 1 (.aload_n 2), ny_o 1091 1 (.aload_n 0), ny_o 1092 1 (.iload_n 3), ny_o2 1093 1 (.iconst 1) 1, ny_o 1094 1 .iadd, ny_o 1095 1 .iaload, ny_o 1096 1 (.aload_n 0), ny_o 1097 1 (.iload_n 3), ny_o2 1098 1 (.iconst 2) 2, ny_o 1099 1 .iadd, ny_o 1100 1 .iaload, ny_o 1101 1 (.aload_n 0), ny_o 1102 1 (.iload_n 3), ny_o2 1103 1 (.iconst 3) 3, ny_o 1104 1 .iadd, ny_o 1105 1 .iaload]
def pg_Lw_law_7 : List ny_Op := [ny_o 1106 1 (.aload_n 0), ny_o 1107 1 (.iload_n 3), ny_o2 1108 1 (.iconst 4) 4, ny_o 1109 1 .iadd, ny_o 1110 1 .iaload, ny_o 1111 3 (.invokevirtual 136), ny_o 1114 3 (.if_icmp .eq 641), ny_o2 1117 1 (.iconst 0) 0, ny_o 1118 1 .ireturn, ny_o 1119 1 (.aload_n 1), ny_o 1120 3 (.invokevirtual 137), ny_o 1123 1 (.aload_n 2), ny_o 1124 3 (.invokevirtual 140), ny_o 1127 3 (.if_icmp .eq 628), ny_o2 1130 1 (.iconst 0) 0, ny_o 1131 1 .ireturn, ny_o 1132 1 (.aload_n 1), ny_o 1133 1 (.aload_n 0), ny_o 1134 1 (.iload_n 3), ny_o2 1135 1 (.iconst 1) 1, ny_o 1136 1 .iadd, ny_o 1137 1 .iaload, ny_o 1138 3 (.invokevirtual 141), ny_o 1141 1 (.aload_n 2), ny_o 1142 1 (.aload_n 0), ny_o 1143 1 (.iload_n 3), ny_o2 1144 1 (.iconst 1) 1, ny_o 1145 1 .iadd, ny_o 1146 1 .iaload, ny_o 1147 3 (.invokevirtual 144), ny_o 1150 3 (.if_icmp .eq 605), ny_o2 1153 1 (.iconst 0) 0, ny_o 1154 1 .ireturn, ny_o 1155 1 (.aload_n 1), ny_o 1156 3 (.invokevirtual 145), ny_o 1159 1 (.aload_n 2), ny_o 1160 3 (.invokevirtual 148), ny_o 1163 3 (.if_icmp .eq 592), ny_o2 1166 1 (.iconst 0) 0, ny_o 1167 1 .ireturn, ny_o 1168 1 (.aload_n 1), ny_o 1169 1 (.aload_n 0), ny_o 1170 1 (.iload_n 3), ny_o2 1171 1 (.iconst 1) 1, ny_o 1172 1 .iadd, ny_o 1173 1 .iaload, ny_o 1174 3 (.invokevirtual 149), ny_o 1177 1 (.aload_n 2), ny_o 1178 1 (.aload_n 0), ny_o 1179 1 (.iload_n 3), ny_o2 1180 1 (.iconst 1) 1, ny_o 1181 1 .iadd, ny_o 1182 1 .iaload, ny_o 1183 3 (.invokevirtual 152), ny_o 1186 3 (.if_icmp .eq 569), ny_o2 1189 1 (.iconst 0) 0, ny_o 1190 1 .ireturn, ny_o 1191 1 (.aload_n 1), ny_o 1192 3 (.invokevirtual 153), ny_o 1195 1 (.aload_n 2), ny_o 1196 3 (.invokevirtual 156), ny_o 1199 3 (.if_icmp .eq 556), ny_o2 1202 1 (.iconst 0) 0, ny_o 1203 1 .ireturn, ny_o 1204 1 (.aload_n 1), ny_o 1205 1 (.aload_n 0), ny_o 1206 1 (.iload_n 3), ny_o2 1207 1 (.iconst 1) 1, ny_o 1208 1 .iadd, ny_o 1209 1 .iaload, ny_o 1210 1 (.aload_n 0), ny_o 1211 1 (.iload_n 3), ny_o2 1212 1 (.iconst 2) 2, ny_o 1213 1 .iadd, ny_o 1214 1 .iaload, ny_o 1215 3 (.invokevirtual 157), ny_o 1218 1 (.aload_n 2), ny_o 1219 1 (.aload_n 0), ny_o 1220 1 (.iload_n 3), ny_o2 1221 1 (.iconst 1) 1, ny_o 1222 1 .iadd, ny_o 1223 1 .iaload, ny_o 1224 1 (.aload_n 0), ny_o 1225 1 (.iload_n 3), ny_o2 1226 1 (.iconst 2) 2, ny_o 1227 1 .iadd, ny_o 1228 1 .iaload, ny_o 1229 3 (.invokevirtual 160), ny_o 1232 3 (.if_icmp .eq 523), ny_o2 1235 1 (.iconst 0) 0, ny_o 1236 1 .ireturn, ny_o 1237 1 (.aload_n 1), ny_o 1238 1 (.aload_n 0), ny_o 1239 1 (.iload_n 3), ny_o2 1240 1 (.iconst 1) 1, ny_o 1241 1 .iadd, ny_o 1242 1 .iaload, ny_o 1243 3 (.invokevirtual 161), ny_o 1246 1 (.aload_n 2), ny_o 1247 1 (.aload_n 0)]
def pg_Lw_law_8 : List ny_Op := [ny_o 1248 1 (.iload_n 3), ny_o2 1249 1 (.iconst 1) 1, ny_o 1250 1 .iadd, ny_o 1251 1 .iaload, ny_o 1252 3 (.invokevirtual 164), ny_o 1255 3 (.if_icmp .eq 500), ny_o2 1258 1 (.iconst 0) 0, ny_o 1259 1 .ireturn, ny_o 1260 1 (.aload_n 1), ny_o 1261 1 (.aload_n 0), ny_o 1262 1 (.iload_n 3), ny_o2 1263 1 (.iconst 1) 1, ny_o 1264 1 .iadd, ny_o 1265 1 .iaload, ny_o 1266 1 (.aload_n 0), ny_o 1267 1 (.iload_n 3), ny_o2 1268 1 (.iconst 2) 2, ny_o 1269 1 .iadd, ny_o 1270 1 .iaload, ny_o 1271 3 (.invokevirtual 165), ny_o 1274 1 (.aload_n 2), ny_o 1275 1 (.aload_n 0), ny_o 1276 1 (.iload_n 3), ny_o2 1277 1 (.iconst 1) 1, ny_o 1278 1 .iadd, ny_o 1279 1 .iaload, ny_o 1280 1 (.aload_n 0), ny_o 1281 1 (.iload_n 3), ny_o2 1282 1 (.iconst 2) 2, ny_o 1283 1 .iadd, ny_o 1284 1 .iaload, ny_o 1285 3 (.invokevirtual 168), ny_o 1288 3 (.if_icmp .eq 467), ny_o2 1291 1 (.iconst 0) 0, ny_o 1292 1 .ireturn, ny_o 1293 1 (.aload_n 1), ny_o 1294 1 (.aload_n 0), ny_o 1295 1 (.iload_n 3), ny_o2 1296 1 (.iconst 1) 1, ny_o 1297 1 .iadd, ny_o 1298 1 .iaload, ny_o 1299 1 (.aload_n 0), ny_o 1300 1 (.iload_n 3), ny_o2 1301 1 (.iconst 2) 2, ny_o 1302 1 .iadd, ny_o 1303 1 .iaload, ny_o 1304 1 (.aload_n 0), ny_o 1305 1 (.iload_n 3), ny_o2 1306 1 (.iconst 3) 3, ny_o 1307 1 .iadd, ny_o 1308 1 .iaload, ny_o 1309 3 (.invokevirtual 169), ny_o 1312 1 (.aload_n 2), ny_o 1313 1 (.aload_n 0), ny_o 1314 1 (.iload_n 3), ny_o2 1315 1 (.iconst 1) 1, ny_o 1316 1 .iadd, ny_o 1317 1 .iaload, ny_o 1318 1 (.aload_n 0), ny_o 1319 1 (.iload_n 3), ny_o2 1320 1 (.iconst 2) 2, ny_o 1321 1 .iadd, ny_o 1322 1 .iaload, ny_o 1323 1 (.aload_n 0), ny_o 1324 1 (.iload_n 3), ny_o2 1325 1 (.iconst 3) 3, ny_o 1326 1 .iadd, ny_o 1327 1 .iaload, ny_o 1328 3 (.invokevirtual 172), ny_o 1331 3 (.if_icmp .eq 424), ny_o2 1334 1 (.iconst 0) 0, ny_o 1335 1 .ireturn, ny_o 1336 1 (.aload_n 1), ny_o 1337 3 (.invokevirtual 173), ny_o 1340 1 (.aload_n 2), ny_o 1341 3 (.invokevirtual 176), ny_o 1344 3 (.if_icmp .eq 411), ny_o2 1347 1 (.iconst 0) 0, ny_o 1348 1 .ireturn, ny_o 1349 1 (.aload_n 1), ny_o 1350 1 (.aload_n 0), ny_o 1351 1 (.iload_n 3), ny_o2 1352 1 (.iconst 1) 1, ny_o 1353 1 .iadd, ny_o 1354 1 .iaload, ny_o 1355 1 (.aload_n 0), ny_o 1356 1 (.iload_n 3), ny_o2 1357 1 (.iconst 2) 2, ny_o 1358 1 .iadd, ny_o 1359 1 .iaload, ny_o 1360 1 (.aload_n 0), ny_o 1361 1 (.iload_n 3), ny_o2 1362 1 (.iconst 3) 3, ny_o 1363 1 .iadd, ny_o 1364 1 .iaload, ny_o 1365 3 (.invokevirtual 177), ny_o 1368 1 (.aload_n 2), ny_o 1369 1 (.aload_n 0), ny_o 1370 1 (.iload_n 3), ny_o2 1371 1 (.iconst 1) 1]
def pg_Lw_law_9 : List ny_Op := [ny_o 1372 1 .iadd, ny_o 1373 1 .iaload, ny_o 1374 1 (.aload_n 0), ny_o 1375 1 (.iload_n 3), ny_o2 1376 1 (.iconst 2) 2, ny_o 1377 1 .iadd, ny_o 1378 1 .iaload, ny_o 1379 1 (.aload_n 0), ny_o 1380 1 (.iload_n 3), ny_o2 1381 1 (.iconst 3) 3, ny_o 1382 1 .iadd, ny_o 1383 1 .iaload, ny_o 1384 3 (.invokevirtual 180), ny_o 1387 3 (.if_icmp .eq 368), ny_o2 1390 1 (.iconst 0) 0, ny_o 1391 1 .ireturn, ny_o 1392 1 (.aload_n 1), ny_o 1393 1 (.aload_n 0), ny_o 1394 1 (.iload_n 3), ny_o2 1395 1 (.iconst 1) 1, ny_o 1396 1 .iadd, ny_o 1397 1 .iaload, ny_o 1398 1 (.aload_n 0), ny_o 1399 1 (.iload_n 3), ny_o2 1400 1 (.iconst 2) 2, ny_o 1401 1 .iadd, ny_o 1402 1 .iaload, ny_o 1403 1 (.aload_n 0), ny_o 1404 1 (.iload_n 3), ny_o2 1405 1 (.iconst 3) 3, ny_o 1406 1 .iadd, ny_o 1407 1 .iaload, ny_o 1408 3 (.invokevirtual 181), ny_o 1411 1 (.aload_n 2), ny_o 1412 1 (.aload_n 0), ny_o 1413 1 (.iload_n 3), ny_o2 1414 1 (.iconst 1) 1, ny_o 1415 1 .iadd, ny_o 1416 1 .iaload, ny_o 1417 1 (.aload_n 0), ny_o 1418 1 (.iload_n 3), ny_o2 1419 1 (.iconst 2) 2, ny_o 1420 1 .iadd, ny_o 1421 1 .iaload, ny_o 1422 1 (.aload_n 0), ny_o 1423 1 (.iload_n 3), ny_o2 1424 1 (.iconst 3) 3, ny_o 1425 1 .iadd, ny_o 1426 1 .iaload, ny_o 1427 3 (.invokevirtual 184), ny_o 1430 3 (.if_icmp .eq 325), ny_o2 1433 1 (.iconst 0) 0, ny_o 1434 1 .ireturn, ny_o 1435 1 (.aload_n 1), ny_o 1436 1 (.aload_n 0), ny_o 1437 1 (.iload_n 3), ny_o2 1438 1 (.iconst 1) 1, ny_o 1439 1 .iadd, ny_o 1440 1 .iaload, ny_o 1441 1 (.aload_n 0), ny_o 1442 1 (.iload_n 3), ny_o2 1443 1 (.iconst 2) 2, ny_o 1444 1 .iadd, ny_o 1445 1 .iaload, ny_o 1446 1 (.aload_n 0), ny_o 1447 1 (.iload_n 3), ny_o2 1448 1 (.iconst 3) 3, ny_o 1449 1 .iadd, ny_o 1450 1 .iaload, ny_o 1451 3 (.invokevirtual 185), ny_o 1454 1 (.aload_n 2), ny_o 1455 1 (.aload_n 0), ny_o 1456 1 (.iload_n 3), ny_o2 1457 1 (.iconst 1) 1, ny_o 1458 1 .iadd, ny_o 1459 1 .iaload, ny_o 1460 1 (.aload_n 0), ny_o 1461 1 (.iload_n 3), ny_o2 1462 1 (.iconst 2) 2, ny_o 1463 1 .iadd, ny_o 1464 1 .iaload, ny_o 1465 1 (.aload_n 0), ny_o 1466 1 (.iload_n 3), ny_o2 1467 1 (.iconst 3) 3, ny_o 1468 1 .iadd, ny_o 1469 1 .iaload, ny_o 1470 3 (.invokevirtual 188), ny_o 1473 3 (.if_icmp .eq 282), ny_o2 1476 1 (.iconst 0) 0, ny_o 1477 1 .ireturn, ny_o 1478 1 (.aload_n 1), ny_o 1479 1 (.aload_n 0), ny_o 1480 1 (.iload_n 3), ny_o2 1481 1 (.iconst 1) 1, ny_o 1482 1 .iadd, ny_o 1483 1 .iaload, ny_o 1484 1 (.aload_n 0), ny_o 1485 1 (.iload_n 3), ny_o2 1486 1 (.iconst 2) 2, ny_o 1487 1 .iadd]
def pg_Lw_law_10 : List ny_Op := [ny_o 1488 1 .iaload, ny_o 1489 1 (.aload_n 0), ny_o 1490 1 (.iload_n 3), ny_o2 1491 1 (.iconst 3) 3, ny_o 1492 1 .iadd, ny_o 1493 1 .iaload, ny_o 1494 3 (.invokevirtual 189), ny_o 1497 1 (.aload_n 2), ny_o 1498 1 (.aload_n 0), ny_o 1499 1 (.iload_n 3), ny_o2 1500 1 (.iconst 1) 1, ny_o 1501 1 .iadd, ny_o 1502 1 .iaload, ny_o 1503 1 (.aload_n 0), ny_o 1504 1 (.iload_n 3), ny_o2 1505 1 (.iconst 2) 2, ny_o 1506 1 .iadd, ny_o 1507 1 .iaload, ny_o 1508 1 (.aload_n 0), ny_o 1509 1 (.iload_n 3), ny_o2 1510 1 (.iconst 3) 3, ny_o 1511 1 .iadd, ny_o 1512 1 .iaload, ny_o 1513 3 (.invokevirtual 192), ny_o 1516 3 (.if_icmp .eq 239), ny_o2 1519 1 (.iconst 0) 0, ny_o 1520 1 .ireturn, ny_o 1521 1 (.aload_n 1), ny_o 1522 1 (.aload_n 0), ny_o 1523 1 (.iload_n 3), ny_o2 1524 1 (.iconst 1) 1, ny_o 1525 1 .iadd, ny_o 1526 1 .iaload, ny_o 1527 1 (.aload_n 0), ny_o 1528 1 (.iload_n 3), ny_o2 1529 1 (.iconst 2) 2, ny_o 1530 1 .iadd, ny_o 1531 1 .iaload, ny_o 1532 1 (.aload_n 0), ny_o 1533 1 (.iload_n 3), ny_o2 1534 1 (.iconst 3) 3, ny_o 1535 1 .iadd, ny_o 1536 1 .iaload, ny_o 1537 3 (.invokevirtual 193), ny_o 1540 1 (.aload_n 2), ny_o 1541 1 (.aload_n 0), ny_o 1542 1 (.iload_n 3), ny_o2 1543 1 (.iconst 1) 1, ny_o 1544 1 .iadd, ny_o 1545 1 .iaload, ny_o 1546 1 (.aload_n 0), ny_o 1547 1 (.iload_n 3), ny_o2 1548 1 (.iconst 2) 2, ny_o 1549 1 .iadd, ny_o 1550 1 .iaload, ny_o 1551 1 (.aload_n 0), ny_o 1552 1 (.iload_n 3), ny_o2 1553 1 (.iconst 3) 3, ny_o 1554 1 .iadd, ny_o 1555 1 .iaload, ny_o 1556 3 (.invokevirtual 196), ny_o 1559 3 (.if_icmp .eq 196), ny_o2 1562 1 (.iconst 0) 0, ny_o 1563 1 .ireturn, ny_o 1564 1 (.aload_n 1), ny_o 1565 1 (.aload_n 0), ny_o 1566 1 (.iload_n 3), ny_o2 1567 1 (.iconst 1) 1, ny_o 1568 1 .iadd, ny_o 1569 1 .iaload, ny_o 1570 1 (.aload_n 0), ny_o 1571 1 (.iload_n 3), ny_o2 1572 1 (.iconst 2) 2, ny_o 1573 1 .iadd, ny_o 1574 1 .iaload, ny_o 1575 1 (.aload_n 0), ny_o 1576 1 (.iload_n 3), ny_o2 1577 1 (.iconst 3) 3, ny_o 1578 1 .iadd, ny_o 1579 1 .iaload, ny_o 1580 3 (.invokevirtual 197), ny_o 1583 1 (.aload_n 2), ny_o 1584 1 (.aload_n 0), ny_o 1585 1 (.iload_n 3), ny_o2 1586 1 (.iconst 1) 1, ny_o 1587 1 .iadd, ny_o 1588 1 .iaload, ny_o 1589 1 (.aload_n 0), ny_o 1590 1 (.iload_n 3), ny_o2 1591 1 (.iconst 2) 2, ny_o 1592 1 .iadd, ny_o 1593 1 .iaload, ny_o 1594 1 (.aload_n 0), ny_o 1595 1 (.iload_n 3), ny_o2 1596 1 (.iconst 3) 3, ny_o 1597 1 .iadd, ny_o 1598 1 .iaload, ny_o 1599 3 (.invokevirtual 200), ny_o 1602 3 (.if_icmp .eq 153), ny_o2 1605 1 (.iconst 0) 0]
def pg_Lw_law_11 : List ny_Op := [ny_o 1606 1 .ireturn, ny_o 1607 1 (.aload_n 1), ny_o 1608 1 (.aload_n 0), ny_o 1609 1 (.iload_n 3), ny_o2 1610 1 (.iconst 1) 1, ny_o 1611 1 .iadd, ny_o 1612 1 .iaload, ny_o 1613 1 (.aload_n 0), ny_o 1614 1 (.iload_n 3), ny_o2 1615 1 (.iconst 2) 2, ny_o 1616 1 .iadd, ny_o 1617 1 .iaload, ny_o 1618 3 (.invokevirtual 201), ny_o 1621 1 (.aload_n 2), ny_o 1622 1 (.aload_n 0), ny_o 1623 1 (.iload_n 3), ny_o2 1624 1 (.iconst 1) 1, ny_o 1625 1 .iadd, ny_o 1626 1 .iaload, ny_o 1627 1 (.aload_n 0), ny_o 1628 1 (.iload_n 3), ny_o2 1629 1 (.iconst 2) 2, ny_o 1630 1 .iadd, ny_o 1631 1 .iaload, ny_o 1632 3 (.invokevirtual 204), ny_o 1635 3 (.if_icmp .eq 120), ny_o2 1638 1 (.iconst 0) 0, ny_o 1639 1 .ireturn, ny_o 1640 1 (.aload_n 1), ny_o 1641 1 (.aload_n 0), ny_o 1642 1 (.iload_n 3), ny_o2 1643 1 (.iconst 1) 1, ny_o 1644 1 .iadd, ny_o 1645 1 .iaload, ny_o 1646 1 (.aload_n 0), ny_o 1647 1 (.iload_n 3), ny_o2 1648 1 (.iconst 2) 2, ny_o 1649 1 .iadd, ny_o 1650 1 .iaload, ny_o 1651 1 (.aload_n 0), ny_o 1652 1 (.iload_n 3), ny_o2 1653 1 (.iconst 3) 3, ny_o 1654 1 .iadd, ny_o 1655 1 .iaload, ny_o 1656 3 (.invokevirtual 205), ny_o 1659 1 (.aload_n 2), ny_o 1660 1 (.aload_n 0), ny_o 1661 1 (.iload_n 3), ny_o2 1662 1 (.iconst 1) 1, ny_o 1663 1 .iadd, ny_o 1664 1 .iaload, ny_o 1665 1 (.aload_n 0), ny_o 1666 1 (.iload_n 3), ny_o2 1667 1 (.iconst 2) 2, ny_o 1668 1 .iadd, ny_o 1669 1 .iaload, ny_o 1670 1 (.aload_n 0), ny_o 1671 1 (.iload_n 3), ny_o2 1672 1 (.iconst 3) 3, ny_o 1673 1 .iadd, ny_o 1674 1 .iaload, ny_o 1675 3 (.invokevirtual 208), ny_o 1678 3 (.if_icmp .eq 77), ny_o2 1681 1 (.iconst 0) 0, ny_o 1682 1 .ireturn, ny_o 1683 1 (.aload_n 1), ny_o 1684 1 (.aload_n 0), ny_o 1685 1 (.iload_n 3), ny_o2 1686 1 (.iconst 1) 1, ny_o 1687 1 .iadd, ny_o 1688 1 .iaload, ny_o 1689 3 (.invokevirtual 209), ny_o 1692 1 (.aload_n 2), ny_o 1693 1 (.aload_n 0), ny_o 1694 1 (.iload_n 3), ny_o2 1695 1 (.iconst 1) 1, ny_o 1696 1 .iadd, ny_o 1697 1 .iaload, ny_o 1698 3 (.invokevirtual 212), ny_o 1701 3 (.if_icmp .eq 54), ny_o2 1704 1 (.iconst 0) 0, ny_o 1705 1 .ireturn, ny_o 1706 1 (.aload_n 1), ny_o 1707 1 (.aload_n 0), ny_o 1708 1 (.iload_n 3), ny_o2 1709 1 (.iconst 1) 1, ny_o 1710 1 .iadd, ny_o 1711 1 .iaload, ny_o 1712 3 (.invokevirtual 213), ny_o 1715 1 (.aload_n 2), ny_o 1716 1 (.aload_n 0), ny_o 1717 1 (.iload_n 3), ny_o2 1718 1 (.iconst 1) 1, ny_o 1719 1 .iadd, ny_o 1720 1 .iaload, ny_o 1721 3 (.invokevirtual 216), ny_o 1724 3 (.if_icmp .eq 31), ny_o2 1727 1 (.iconst 0) 0, ny_o 1728 1 .ireturn, ny_o 1729 1 (.aload_n 1)]
def pg_Lw_law_12 : List ny_Op := [ny_o 1730 3 (.invokevirtual 217), ny_o 1733 1 (.aload_n 2), ny_o 1734 3 (.invokevirtual 220), ny_o 1737 3 (.if_icmp .eq 18), ny_o2 1740 1 (.iconst 0) 0, ny_o 1741 1 .ireturn, ny_o 1742 1 (.aload_n 1), ny_o 1743 3 (.invokevirtual 221), ny_o 1746 1 (.aload_n 2), ny_o 1747 3 (.invokevirtual 224), ny_o 1750 3 (.if_icmp .eq 5), ny_o2 1753 1 (.iconst 0) 0, ny_o 1754 1 .ireturn, ny_o2 1755 3 (.iinc 3 5) 5, ny_o 1758 3 (.goto (-1740)), ny_o2 1761 1 (.iconst 1) 1, ny_o 1762 1 .ireturn]
def pg_Lw_law : List ny_Op := pg_Lw_law_0 ++ (pg_Lw_law_1 ++ (pg_Lw_law_2 ++ (pg_Lw_law_3 ++ (pg_Lw_law_4 ++ (pg_Lw_law_5 ++ (pg_Lw_law_6 ++ (pg_Lw_law_7 ++ (pg_Lw_law_8 ++ (pg_Lw_law_9 ++ (pg_Lw_law_10 ++ (pg_Lw_law_11 ++ (pg_Lw_law_12))))))))))))
def m_Lw_law : ny_M := (⟨"NymphRotaLaw", "law", "([I)Z"⟩, code, 4, (some .boolean), false, pg_Lw_law)
end
section
/-! the programs are what the bytes decode to; what they name stands in the tables -/
/-- one word of the tables, of those that hold on in every later state -/
def ny_tb : List Cond := lw_tbl.filter goodWord
def ny_mem (w : Cond) : Bool := decide (w ∈ lw_tbl) && goodWord w
theorem ny_mem_tb {w : Cond} (h : ny_mem w = true) : w ∈ ny_tb := by
  simp only [ny_mem, Bool.and_eq_true, decide_eq_true_eq] at h
  exact List.mem_filter.mpr h
def ny_fl (own : Nat) (e : Nat × Nat × Nat) : Cond := .fieldLink (ny_cn.getD own "") e.1 (ny_T e.2.1 (e.2.2 / 3)).1 (ny_T e.2.1 (e.2.2 / 3)).2.1 (ny_T e.2.1 (e.2.2 / 3)).2.2.1
theorem ny_fl_ok : ((List.range 18).all fun own => (ny_FL.getD own []).all fun e => ny_mem (ny_fl own e) && decide (e.2.1 < 11) && decide (e.2.2 / 3 < (ny_Ks.getD e.2.1 []).length) && decide ((ny_Ks.getD e.2.1 []).getD (e.2.2 / 3) 9 = e.2.2 % 3)) = true := by decide +kernel
theorem ny_lay_ok : (ny_cls.all fun q => (u_ws q.1 q.2.1 q.2.2).all ny_mem) = true := by decide +kernel
/-- how long an instruction is, where one length does for all (0: any) -/
def ny_len : Instr → Nat
  | .iload _ => 2 | .lload _ => 2 | .aload _ => 2 | .istore _ => 2 | .lstore _ => 2 | .astore _ => 2 | .bipush _ => 2 | .ldc _ => 2 | .newarray _ => 2
  | .iinc _ _ => 3 | .sipush _ => 3 | .ldc_w _ => 3 | .ldc2_w _ => 3 | .getfield _ => 3 | .putfield _ => 3 | .getstatic _ => 3 | .ifCond _ _ => 3 | .if_icmp _ _ => 3 | .goto _ => 3
  | .invokevirtual _ => 3 | .invokespecial _ => 3 | .invokestatic _ => 3 | .new _ => 3 | .anewarray _ => 3 | .multianewarray _ _ => 4
  | .tableswitch _ _ _ _ => 0 | .lookupswitch _ _ => 0 | _ => 1
def ny_okp (own : Nat) (cls : String) (mL : Nat) (q : ny_Op) : Bool :=
  match q with
  | (_, len, ins, a, b, v, w) => decide (len = ny_len ins ∨ ny_len ins = 0) && (match ins with
    | .getfield i => if a = 11 then decide (own = 11) && (decide (i = 9 ∧ b = 4) || decide (i = 15 ∧ b = 0)) else (ny_FL.getD own []).contains (i, a, b)
    | .putfield i => (ny_FL.getD own []).contains (i, a, b)
    | .istore i => decide (i < mL)
    | .istore_n i => decide ((i : Nat) < mL)
    | .astore i => decide (i < mL)
    | .astore_n i => decide ((i : Nat) < mL)
    | .lstore i => decide (i + 1 < mL)
    | .lstore_n i => decide ((i : Nat) + 1 < mL)
    | .iinc i n => decide (i < mL) && decide (Int32.ofInt n = v)
    | .iconst n => decide (Int32.ofInt n = v)
    | .bipush n => decide ((Int8.ofInt n).toInt32 = v)
    | .sipush n => decide ((Int16.ofInt n).toInt32 = v)
    | .lconst n => decide (Int64.ofNat (n : Nat) = w)
    | .ldc2_w i => ny_mem (.constantLong cls i w)
    | .ldc_w i => ny_mem (.constant cls i v)
    | .ldc i => if a = 1 then decide (cls = "NymphRota$Tape" ∧ i = 94) else ny_mem (.constant cls i v)
    | .getstatic i => match a with
      | 1 => ny_mem (.fieldLink cls i "NymphRota$Kinds" "ABOVE" "[I")
      | 2 => ny_mem (.fieldLink cls i "java/lang/String" "COMPACT_STRINGS" "Z")
      | 3 => ny_mem (.fieldLink cls i "jdk/internal/util/Preconditions" "SIOOBE_FORMATTER" "Ljava/util/function/BiFunction;")
      | _ => false
    | .invokestatic i => match a with
      | 0 => true
      | 1 => ny_mem (.methodLink cls i Lib.Math.max.name)
      | 2 => ny_mem (.methodLink cls i Lib.Math.min.name)
      | 3 => ny_mem (.methodLink cls i Lib.Math.abs.name)
      | 4 => ny_mem (.methodLink cls i arraycopyName)
      | _ => false
    | .new i => ny_mem (.classLink cls i (ny_cn.getD a "")) && ny_mem (.instantiable (ny_cn.getD a "") ((ny_Ks.getD a []).length)) && ny_mem (.initialized (ny_cn.getD a "")) && decide (a < 11)
    | .anewarray i => ny_mem (.classLink cls i (ny_cn.getD a "")) && decide (a = 2 ∨ a = 6 ∨ a = 7)
    | _ => true)
def ny_chk (own : Nat) (y : ny_M) : Bool :=
  decide (ny_cn.getD own "" = y.1.cls) && decide (own < 18) && y.2.2.2.2.2.all fun q => decide (decode y.2.1 q.1 = .ok (q.2.2.1, q.2.1)) && ny_okp own y.1.cls y.2.2.1 q
-- per method
theorem k_Ac_init : ny_chk 0 m_Ac_init = true := by decide +kernel
theorem k_Ac_clear : ny_chk 0 m_Ac_clear = true := by decide +kernel
theorem k_Ac_begin : ny_chk 0 m_Ac_begin = true := by decide +kernel
theorem k_Ac_ran : ny_chk 0 m_Ac_ran = true := by decide +kernel
theorem k_Ac_poses : ny_chk 0 m_Ac_poses = true := by decide +kernel
theorem k_Ac_drips : ny_chk 0 m_Ac_drips = true := by decide +kernel
theorem k_Ac_glances : ny_chk 0 m_Ac_glances = true := by decide +kernel
theorem k_Ac_leaves : ny_chk 0 m_Ac_leaves = true := by decide +kernel
theorem k_Ac_figurePoses : ny_chk 0 m_Ac_figurePoses = true := by decide +kernel
theorem k_Ac_figureDrips : ny_chk 0 m_Ac_figureDrips = true := by decide +kernel
theorem k_Ac_figureGlances : ny_chk 0 m_Ac_figureGlances = true := by decide +kernel
theorem k_Ac_noviceGlances : ny_chk 0 m_Ac_noviceGlances = true := by decide +kernel
theorem k_Ac_figureLeaves : ny_chk 0 m_Ac_figureLeaves = true := by decide +kernel
theorem k_Ba_init : ny_chk 1 m_Ba_init = true := by decide +kernel
theorem k_Ba_become : ny_chk 1 m_Ba_become = true := by decide +kernel
theorem k_Ba_copyOfNow : ny_chk 1 m_Ba_copyOfNow = true := by decide +kernel
theorem k_Ba_isFigure : ny_chk 1 m_Ba_isFigure = true := by decide +kernel
theorem k_Ba_isAct : ny_chk 1 m_Ba_isAct = true := by decide +kernel
theorem k_Ba_isSet : ny_chk 1 m_Ba_isSet = true := by decide +kernel
theorem k_Ba_isOver : ny_chk 1 m_Ba_isOver = true := by decide +kernel
theorem k_Ba_weatherOf : ny_chk 1 m_Ba_weatherOf = true := by decide +kernel
theorem k_Ba_sunOf : ny_chk 1 m_Ba_sunOf = true := by decide +kernel
theorem k_Ba_guestsOf : ny_chk 1 m_Ba_guestsOf = true := by decide +kernel
theorem k_Ba_isUp : ny_chk 1 m_Ba_isUp = true := by decide +kernel
theorem k_Ba_upSet : ny_chk 1 m_Ba_upSet = true := by decide +kernel
theorem k_Ba_wearies : ny_chk 1 m_Ba_wearies = true := by decide +kernel
theorem k_Ba_shows : ny_chk 1 m_Ba_shows = true := by decide +kernel
theorem k_Ba_pays : ny_chk 1 m_Ba_pays = true := by decide +kernel
theorem k_Ba_will : ny_chk 1 m_Ba_will = true := by decide +kernel
theorem k_Ba_mayBeRelieved : ny_chk 1 m_Ba_mayBeRelieved = true := by decide +kernel
theorem k_Ba_goBy : ny_chk 1 m_Ba_goBy = true := by decide +kernel
theorem k_Ba_restAct : ny_chk 1 m_Ba_restAct = true := by decide +kernel
theorem k_Ba_restWorth : ny_chk 1 m_Ba_restWorth = true := by decide +kernel
theorem k_Ba_restRelieves : ny_chk 1 m_Ba_restRelieves = true := by decide +kernel
theorem k_Ba_restFaints : ny_chk 1 m_Ba_restFaints = true := by decide +kernel
theorem k_Ba_restBestBy : ny_chk 1 m_Ba_restBestBy = true := by decide +kernel
theorem k_Ba_aheadOf : ny_chk 1 m_Ba_aheadOf = true := by decide +kernel
theorem k_Ba_areClose : ny_chk 1 m_Ba_areClose = true := by decide +kernel
theorem k_Ba_closeTo : ny_chk 1 m_Ba_closeTo = true := by decide +kernel
theorem k_Ba_ringOf : ny_chk 1 m_Ba_ringOf = true := by decide +kernel
theorem k_Ba_ringCount : ny_chk 1 m_Ba_ringCount = true := by decide +kernel
theorem k_Ba_stepsRound : ny_chk 1 m_Ba_stepsRound = true := by decide +kernel
theorem k_Ba_nextZ : ny_chk 1 m_Ba_nextZ = true := by decide +kernel
theorem k_Ba_actOf : ny_chk 1 m_Ba_actOf = true := by decide +kernel
theorem k_Ba_timesByLot : ny_chk 1 m_Ba_timesByLot = true := by decide +kernel
theorem k_Ki_isKind : ny_chk 12 m_Ki_isKind = true := by decide +kernel
theorem k_Ki_isMade : ny_chk 12 m_Ki_isMade = true := by decide +kernel
theorem k_Ki_isUnder : ny_chk 12 m_Ki_isUnder = true := by decide +kernel
theorem k_Ki_wearies : ny_chk 12 m_Ki_wearies = true := by decide +kernel
theorem k_Ki_shows : ny_chk 12 m_Ki_shows = true := by decide +kernel
theorem k_Mo_init : ny_chk 2 m_Mo_init = true := by decide +kernel
theorem k_Mo_become : ny_chk 2 m_Mo_become = true := by decide +kernel
theorem k_Mo_clear : ny_chk 2 m_Mo_clear = true := by decide +kernel
theorem k_Mo_isRelieved : ny_chk 2 m_Mo_isRelieved = true := by decide +kernel
theorem k_Mo_putRelieved : ny_chk 2 m_Mo_putRelieved = true := by decide +kernel
theorem k_Pl_init : ny_chk 3 m_Pl_init = true := by decide +kernel
theorem k_Pl_start : ny_chk 3 m_Pl_start = true := by decide +kernel
theorem k_Pl_tryAll : ny_chk 3 m_Pl_tryAll = true := by decide +kernel
theorem k_Pl_tryFrom : ny_chk 3 m_Pl_tryFrom = true := by decide +kernel
theorem k_Pl_noteWorth : ny_chk 3 m_Pl_noteWorth = true := by decide +kernel
theorem k_Pl_noteRelieved : ny_chk 3 m_Pl_noteRelieved = true := by decide +kernel
theorem k_Pl_valueOfGame : ny_chk 3 m_Pl_valueOfGame = true := by decide +kernel
theorem k_Pl_valueFrom : ny_chk 3 m_Pl_valueFrom = true := by decide +kernel
theorem k_Re_init : ny_chk 4 m_Re_init = true := by decide +kernel
theorem k_Re_become : ny_chk 4 m_Re_become = true := by decide +kernel
theorem k_Re_add : ny_chk 4 m_Re_add = true := by decide +kernel
theorem k_Re_tryAll : ny_chk 4 m_Re_tryAll = true := by decide +kernel
theorem k_Re_tryOne : ny_chk 4 m_Re_tryOne = true := by decide +kernel
theorem k_Re_wrongBy : ny_chk 4 m_Re_wrongBy = true := by decide +kernel
theorem k_Re_wrongBehind : ny_chk 4 m_Re_wrongBehind = true := by decide +kernel
theorem k_Ru_init : ny_chk 5 m_Ru_init = true := by decide +kernel
theorem k_Ru_clear : ny_chk 5 m_Ru_clear = true := by decide +kernel
theorem k_Ru_become : ny_chk 5 m_Ru_become = true := by decide +kernel
theorem k_Ru_addNumber : ny_chk 5 m_Ru_addNumber = true := by decide +kernel
theorem k_Ru_addStep : ny_chk 5 m_Ru_addStep = true := by decide +kernel
theorem k_Ru_addRule : ny_chk 5 m_Ru_addRule = true := by decide +kernel
theorem k_Ru_tells : ny_chk 5 m_Ru_tells = true := by decide +kernel
theorem k_Ru_holds : ny_chk 5 m_Ru_holds = true := by decide +kernel
theorem k_Sh_init : ny_chk 6 m_Sh_init = true := by decide +kernel
theorem k_Sh_isSort : ny_chk 6 m_Sh_isSort = true := by decide +kernel
theorem k_Sh_becomeRow : ny_chk 6 m_Sh_becomeRow = true := by decide +kernel
theorem k_Sh_has : ny_chk 6 m_Sh_has = true := by decide +kernel
theorem k_Sh_refusalAs : ny_chk 6 m_Sh_refusalAs = true := by decide +kernel
theorem k_Sh_narrowed : ny_chk 6 m_Sh_narrowed = true := by decide +kernel
theorem k_Sf_init : ny_chk 7 m_Sf_init = true := by decide +kernel
theorem k_Sf_holdNothing : ny_chk 7 m_Sf_holdNothing = true := by decide +kernel
theorem k_Sf_holdFigure : ny_chk 7 m_Sf_holdFigure = true := by decide +kernel
theorem k_Sf_holdRow : ny_chk 7 m_Sf_holdRow = true := by decide +kernel
theorem k_Sf_isRow : ny_chk 7 m_Sf_isRow = true := by decide +kernel
theorem k_Ta_init : ny_chk 8 m_Ta_init = true := by decide +kernel
theorem k_Ta_takes : ny_chk 8 m_Ta_takes = true := by decide +kernel
theorem k_Ta_readInto : ny_chk 8 m_Ta_readInto = true := by decide +kernel
theorem k_Ta_isLetter : ny_chk 8 m_Ta_isLetter = true := by decide +kernel
theorem k_Ta_isDigit : ny_chk 8 m_Ta_isDigit = true := by decide +kernel
theorem k_Ta_isSign : ny_chk 8 m_Ta_isSign = true := by decide +kernel
theorem k_Ta_split : ny_chk 8 m_Ta_split = true := by decide +kernel
theorem k_Ta_goesOn : ny_chk 8 m_Ta_goesOn = true := by decide +kernel
theorem k_Ta_addToken : ny_chk 8 m_Ta_addToken = true := by decide +kernel
theorem k_Ta_endOf : ny_chk 8 m_Ta_endOf = true := by decide +kernel
theorem k_Ta_tokenAt : ny_chk 8 m_Ta_tokenAt = true := by decide +kernel
theorem k_Ta_wordAt : ny_chk 8 m_Ta_wordAt = true := by decide +kernel
theorem k_Ta_numberAt : ny_chk 8 m_Ta_numberAt = true := by decide +kernel
theorem k_Ta_pass : ny_chk 8 m_Ta_pass = true := by decide +kernel
theorem k_Ta_passes : ny_chk 8 m_Ta_passes = true := by decide +kernel
theorem k_Ta_readRule : ny_chk 8 m_Ta_readRule = true := by decide +kernel
theorem k_Ta_readCondition : ny_chk 8 m_Ta_readCondition = true := by decide +kernel
theorem k_Ta_readAll : ny_chk 8 m_Ta_readAll = true := by decide +kernel
theorem k_Ta_readOne : ny_chk 8 m_Ta_readOne = true := by decide +kernel
theorem k_Ta_readComparison : ny_chk 8 m_Ta_readComparison = true := by decide +kernel
theorem k_Ta_placeOfValue : ny_chk 8 m_Ta_placeOfValue = true := by decide +kernel
theorem k_No_init : ny_chk 9 m_No_init = true := by decide +kernel
theorem k_No_figure : ny_chk 9 m_No_figure = true := by decide +kernel
theorem k_No_figureOf : ny_chk 9 m_No_figureOf = true := by decide +kernel
theorem k_No_change : ny_chk 9 m_No_change = true := by decide +kernel
theorem k_No_remake : ny_chk 9 m_No_remake = true := by decide +kernel
theorem k_No_weather : ny_chk 9 m_No_weather = true := by decide +kernel
theorem k_No_niche : ny_chk 9 m_No_niche = true := by decide +kernel
theorem k_No_nicheOf : ny_chk 9 m_No_nicheOf = true := by decide +kernel
theorem k_No_ends : ny_chk 9 m_No_ends = true := by decide +kernel
theorem k_No_anew : ny_chk 9 m_No_anew = true := by decide +kernel
theorem k_No_state : ny_chk 9 m_No_state = true := by decide +kernel
theorem k_No_feed : ny_chk 9 m_No_feed = true := by decide +kernel
theorem k_No_rules : ny_chk 9 m_No_rules = true := by decide +kernel
theorem k_No_bell : ny_chk 9 m_No_bell = true := by decide +kernel
theorem k_No_on : ny_chk 9 m_No_on = true := by decide +kernel
theorem k_No_when : ny_chk 9 m_No_when = true := by decide +kernel
theorem k_No_graceFor : ny_chk 9 m_No_graceFor = true := by decide +kernel
theorem k_No_nicheFor : ny_chk 9 m_No_nicheFor = true := by decide +kernel
theorem k_No_faints : ny_chk 9 m_No_faints = true := by decide +kernel
theorem k_No_rank : ny_chk 9 m_No_rank = true := by decide +kernel
theorem k_No_rings : ny_chk 9 m_No_rings = true := by decide +kernel
theorem k_No_way : ny_chk 9 m_No_way = true := by decide +kernel
theorem k_No_best : ny_chk 9 m_No_best = true := by decide +kernel
theorem k_No_ith : ny_chk 9 m_No_ith = true := by decide +kernel
theorem k_No_ways : ny_chk 9 m_No_ways = true := by decide +kernel
theorem k_No_roster : ny_chk 9 m_No_roster = true := by decide +kernel
theorem k_No_bars : ny_chk 9 m_No_bars = true := by decide +kernel
theorem k_No_game : ny_chk 9 m_No_game = true := by decide +kernel
theorem k_No_play : ny_chk 9 m_No_play = true := by decide +kernel
theorem k_No_report : ny_chk 9 m_No_report = true := by decide +kernel
theorem k_No_forget : ny_chk 9 m_No_forget = true := by decide +kernel
theorem k_No_nymph : ny_chk 9 m_No_nymph = true := by decide +kernel
theorem k_No_liar : ny_chk 9 m_No_liar = true := by decide +kernel
theorem k_No_seed : ny_chk 9 m_No_seed = true := by decide +kernel
theorem k_No_lot : ny_chk 9 m_No_lot = true := by decide +kernel
theorem k_No_times : ny_chk 9 m_No_times = true := by decide +kernel
theorem k_No_prove : ny_chk 9 m_No_prove = true := by decide +kernel
theorem k_No_row : ny_chk 9 m_No_row = true := by decide +kernel
theorem k_No_alterRow : ny_chk 9 m_No_alterRow = true := by decide +kernel
theorem k_No_judge : ny_chk 9 m_No_judge = true := by decide +kernel
theorem k_No_sheet : ny_chk 9 m_No_sheet = true := by decide +kernel
theorem k_No_write : ny_chk 9 m_No_write = true := by decide +kernel
theorem k_No_item : ny_chk 9 m_No_item = true := by decide +kernel
theorem k_No_goAll : ny_chk 9 m_No_goAll = true := by decide +kernel
theorem k_No_wouldBe : ny_chk 9 m_No_wouldBe = true := by decide +kernel
theorem k_No_shelf : ny_chk 9 m_No_shelf = true := by decide +kernel
theorem k_No_taken : ny_chk 9 m_No_taken = true := by decide +kernel
theorem k_No_act : ny_chk 9 m_No_act = true := by decide +kernel
theorem k_No_trace : ny_chk 9 m_No_trace = true := by decide +kernel
theorem k_No_many : ny_chk 9 m_No_many = true := by decide +kernel
theorem k_No_keep : ny_chk 9 m_No_keep = true := by decide +kernel
theorem k_No_again : ny_chk 9 m_No_again = true := by decide +kernel
theorem k_No_isBetween : ny_chk 9 m_No_isBetween = true := by decide +kernel
theorem k_No_isNiche : ny_chk 9 m_No_isNiche = true := by decide +kernel
theorem k_No_oneIf : ny_chk 9 m_No_oneIf = true := by decide +kernel
theorem k_No_put : ny_chk 9 m_No_put = true := by decide +kernel
theorem k_No_changeRelieved : ny_chk 9 m_No_changeRelieved = true := by decide +kernel
theorem k_No_goOn : ny_chk 9 m_No_goOn = true := by decide +kernel
theorem k_No_isInRow : ny_chk 9 m_No_isInRow = true := by decide +kernel
theorem k_No_refusalOfActs : ny_chk 9 m_No_refusalOfActs = true := by decide +kernel
theorem k_Md_init : ny_chk 10 m_Md_init = true := by decide +kernel
theorem k_Md_isIn : ny_chk 10 m_Md_isIn = true := by decide +kernel
theorem k_Md_isOne : ny_chk 10 m_Md_isOne = true := by decide +kernel
theorem k_Md_isNiche : ny_chk 10 m_Md_isNiche = true := by decide +kernel
theorem k_Md_its : ny_chk 10 m_Md_its = true := by decide +kernel
theorem k_Md_becomes : ny_chk 10 m_Md_becomes = true := by decide +kernel
theorem k_Md_laysAside : ny_chk 10 m_Md_laysAside = true := by decide +kernel
theorem k_Md_laysBack : ny_chk 10 m_Md_laysBack = true := by decide +kernel
theorem k_Md_isOver : ny_chk 10 m_Md_isOver = true := by decide +kernel
theorem k_Md_size : ny_chk 10 m_Md_size = true := by decide +kernel
theorem k_Md_least : ny_chk 10 m_Md_least = true := by decide +kernel
theorem k_Md_greatest : ny_chk 10 m_Md_greatest = true := by decide +kernel
theorem k_Md_figure : ny_chk 10 m_Md_figure = true := by decide +kernel
theorem k_Md_weatherOf : ny_chk 10 m_Md_weatherOf = true := by decide +kernel
theorem k_Md_wearies : ny_chk 10 m_Md_wearies = true := by decide +kernel
theorem k_Md_shows : ny_chk 10 m_Md_shows = true := by decide +kernel
theorem k_Md_isUp : ny_chk 10 m_Md_isUp = true := by decide +kernel
theorem k_Md_wearied : ny_chk 10 m_Md_wearied = true := by decide +kernel
theorem k_Md_shown : ny_chk 10 m_Md_shown = true := by decide +kernel
theorem k_Md_pays : ny_chk 10 m_Md_pays = true := by decide +kernel
theorem k_Md_isUnder : ny_chk 10 m_Md_isUnder = true := by decide +kernel
theorem k_Md_valueOf : ny_chk 10 m_Md_valueOf = true := by decide +kernel
theorem k_Md_holds : ny_chk 10 m_Md_holds = true := by decide +kernel
theorem k_Md_will : ny_chk 10 m_Md_will = true := by decide +kernel
theorem k_Md_mayBe : ny_chk 10 m_Md_mayBe = true := by decide +kernel
theorem k_Md_figureOf : ny_chk 10 m_Md_figureOf = true := by decide +kernel
theorem k_Md_greatestOf : ny_chk 10 m_Md_greatestOf = true := by decide +kernel
theorem k_Md_change : ny_chk 10 m_Md_change = true := by decide +kernel
theorem k_Md_remake : ny_chk 10 m_Md_remake = true := by decide +kernel
theorem k_Md_weather : ny_chk 10 m_Md_weather = true := by decide +kernel
theorem k_Md_niche : ny_chk 10 m_Md_niche = true := by decide +kernel
theorem k_Md_nicheOf : ny_chk 10 m_Md_nicheOf = true := by decide +kernel
theorem k_Md_ends : ny_chk 10 m_Md_ends = true := by decide +kernel
theorem k_Md_anew : ny_chk 10 m_Md_anew = true := by decide +kernel
theorem k_Md_relievedOnes : ny_chk 10 m_Md_relievedOnes = true := by decide +kernel
theorem k_Md_thoseUp : ny_chk 10 m_Md_thoseUp = true := by decide +kernel
theorem k_Md_state : ny_chk 10 m_Md_state = true := by decide +kernel
theorem k_Md_feed : ny_chk 10 m_Md_feed = true := by decide +kernel
theorem k_Md_isAlpha : ny_chk 10 m_Md_isAlpha = true := by decide +kernel
theorem k_Md_isDigit : ny_chk 10 m_Md_isDigit = true := by decide +kernel
theorem k_Md_byteAt : ny_chk 10 m_Md_byteAt = true := by decide +kernel
theorem k_Md_nextToken : ny_chk 10 m_Md_nextToken = true := by decide +kernel
theorem k_Md_needs : ny_chk 10 m_Md_needs = true := by decide +kernel
theorem k_Md_isByte : ny_chk 10 m_Md_isByte = true := by decide +kernel
theorem k_Md_isName : ny_chk 10 m_Md_isName = true := by decide +kernel
theorem k_Md_isSame : ny_chk 10 m_Md_isSame = true := by decide +kernel
theorem k_Md_kindHere : ny_chk 10 m_Md_kindHere = true := by decide +kernel
theorem k_Md_doHere : ny_chk 10 m_Md_doHere = true := by decide +kernel
theorem k_Md_factHere : ny_chk 10 m_Md_factHere = true := by decide +kernel
theorem k_Md_isTwo : ny_chk 10 m_Md_isTwo = true := by decide +kernel
theorem k_Md_steps : ny_chk 10 m_Md_steps = true := by decide +kernel
theorem k_Md_valueHere : ny_chk 10 m_Md_valueHere = true := by decide +kernel
theorem k_Md_comparesHere : ny_chk 10 m_Md_comparesHere = true := by decide +kernel
theorem k_Md_oneHere : ny_chk 10 m_Md_oneHere = true := by decide +kernel
theorem k_Md_allHere : ny_chk 10 m_Md_allHere = true := by decide +kernel
theorem k_Md_condHere : ny_chk 10 m_Md_condHere = true := by decide +kernel
theorem k_Md_ruleHere : ny_chk 10 m_Md_ruleHere = true := by decide +kernel
theorem k_Md_rules : ny_chk 10 m_Md_rules = true := by decide +kernel
theorem k_Md_goesWith : ny_chk 10 m_Md_goesWith = true := by decide +kernel
theorem k_Md_restAct : ny_chk 10 m_Md_restAct = true := by decide +kernel
theorem k_Md_bell : ny_chk 10 m_Md_bell = true := by decide +kernel
theorem k_Md_onBy : ny_chk 10 m_Md_onBy = true := by decide +kernel
theorem k_Md_on : ny_chk 10 m_Md_on = true := by decide +kernel
theorem k_Md_when : ny_chk 10 m_Md_when = true := by decide +kernel
theorem k_Md_valueFor : ny_chk 10 m_Md_valueFor = true := by decide +kernel
theorem k_Md_graceFor : ny_chk 10 m_Md_graceFor = true := by decide +kernel
theorem k_Md_nicheFor : ny_chk 10 m_Md_nicheFor = true := by decide +kernel
theorem k_Md_faints : ny_chk 10 m_Md_faints = true := by decide +kernel
theorem k_Md_rank : ny_chk 10 m_Md_rank = true := by decide +kernel
theorem k_Md_areClose : ny_chk 10 m_Md_areClose = true := by decide +kernel
theorem k_Md_ringOf : ny_chk 10 m_Md_ringOf = true := by decide +kernel
theorem k_Md_rings : ny_chk 10 m_Md_rings = true := by decide +kernel
theorem k_Md_stepsBy : ny_chk 10 m_Md_stepsBy = true := by decide +kernel
theorem k_Md_way : ny_chk 10 m_Md_way = true := by decide +kernel
theorem k_Md_isSet : ny_chk 10 m_Md_isSet = true := by decide +kernel
theorem k_Md_plans : ny_chk 10 m_Md_plans = true := by decide +kernel
theorem k_Md_findsPlans : ny_chk 10 m_Md_findsPlans = true := by decide +kernel
theorem k_Md_isLong : ny_chk 10 m_Md_isLong = true := by decide +kernel
theorem k_Md_best : ny_chk 10 m_Md_best = true := by decide +kernel
theorem k_Md_ith : ny_chk 10 m_Md_ith = true := by decide +kernel
theorem k_Md_ways : ny_chk 10 m_Md_ways = true := by decide +kernel
theorem k_Md_roster : ny_chk 10 m_Md_roster = true := by decide +kernel
theorem k_Md_bars : ny_chk 10 m_Md_bars = true := by decide +kernel
theorem k_Md_valueFrom : ny_chk 10 m_Md_valueFrom = true := by decide +kernel
theorem k_Md_game : ny_chk 10 m_Md_game = true := by decide +kernel
theorem k_Md_play : ny_chk 10 m_Md_play = true := by decide +kernel
theorem k_Md_report : ny_chk 10 m_Md_report = true := by decide +kernel
theorem k_Md_forget : ny_chk 10 m_Md_forget = true := by decide +kernel
theorem k_Md_stands : ny_chk 10 m_Md_stands = true := by decide +kernel
theorem k_Md_isFit : ny_chk 10 m_Md_isFit = true := by decide +kernel
theorem k_Md_findsFits : ny_chk 10 m_Md_findsFits = true := by decide +kernel
theorem k_Md_nymph : ny_chk 10 m_Md_nymph = true := by decide +kernel
theorem k_Md_liar : ny_chk 10 m_Md_liar = true := by decide +kernel
theorem k_Md_seed : ny_chk 10 m_Md_seed = true := by decide +kernel
theorem k_Md_goesByLot : ny_chk 10 m_Md_goesByLot = true := by decide +kernel
theorem k_Md_lot : ny_chk 10 m_Md_lot = true := by decide +kernel
theorem k_Md_times : ny_chk 10 m_Md_times = true := by decide +kernel
theorem k_Md_prove : ny_chk 10 m_Md_prove = true := by decide +kernel
theorem k_Md_isRow : ny_chk 10 m_Md_isRow = true := by decide +kernel
theorem k_Md_row : ny_chk 10 m_Md_row = true := by decide +kernel
theorem k_Md_alterRow : ny_chk 10 m_Md_alterRow = true := by decide +kernel
theorem k_Md_isAct : ny_chk 10 m_Md_isAct = true := by decide +kernel
theorem k_Md_judge : ny_chk 10 m_Md_judge = true := by decide +kernel
theorem k_Md_isSheet : ny_chk 10 m_Md_isSheet = true := by decide +kernel
theorem k_Md_isShelf : ny_chk 10 m_Md_isShelf = true := by decide +kernel
theorem k_Md_sheet : ny_chk 10 m_Md_sheet = true := by decide +kernel
theorem k_Md_write : ny_chk 10 m_Md_write = true := by decide +kernel
theorem k_Md_lacks : ny_chk 10 m_Md_lacks = true := by decide +kernel
theorem k_Md_item : ny_chk 10 m_Md_item = true := by decide +kernel
theorem k_Md_goAll : ny_chk 10 m_Md_goAll = true := by decide +kernel
theorem k_Md_sumBy : ny_chk 10 m_Md_sumBy = true := by decide +kernel
theorem k_Md_wouldBe : ny_chk 10 m_Md_wouldBe = true := by decide +kernel
theorem k_Md_shelf : ny_chk 10 m_Md_shelf = true := by decide +kernel
theorem k_Md_heldOn : ny_chk 10 m_Md_heldOn = true := by decide +kernel
theorem k_Md_taken : ny_chk 10 m_Md_taken = true := by decide +kernel
theorem k_Md_runs : ny_chk 10 m_Md_runs = true := by decide +kernel
theorem k_Md_posesPlain : ny_chk 10 m_Md_posesPlain = true := by decide +kernel
theorem k_Md_poses : ny_chk 10 m_Md_poses = true := by decide +kernel
theorem k_Md_dripsPlain : ny_chk 10 m_Md_dripsPlain = true := by decide +kernel
theorem k_Md_drips : ny_chk 10 m_Md_drips = true := by decide +kernel
theorem k_Md_glancesPlain : ny_chk 10 m_Md_glancesPlain = true := by decide +kernel
theorem k_Md_glancesOfNovice : ny_chk 10 m_Md_glancesOfNovice = true := by decide +kernel
theorem k_Md_glances : ny_chk 10 m_Md_glances = true := by decide +kernel
theorem k_Md_leavesPlain : ny_chk 10 m_Md_leavesPlain = true := by decide +kernel
theorem k_Md_leaves : ny_chk 10 m_Md_leaves = true := by decide +kernel
theorem k_Md_act : ny_chk 10 m_Md_act = true := by decide +kernel
theorem k_Md_trace : ny_chk 10 m_Md_trace = true := by decide +kernel
theorem k_Md_many : ny_chk 10 m_Md_many = true := by decide +kernel
theorem k_Md_keep : ny_chk 10 m_Md_keep = true := by decide +kernel
theorem k_Md_again : ny_chk 10 m_Md_again = true := by decide +kernel
theorem k_Ji_bitCount : ny_chk 14 m_Ji_bitCount = true := by decide +kernel
theorem k_Js_length : ny_chk 11 m_Js_length = true := by decide +kernel
theorem k_Js_charAt : ny_chk 11 m_Js_charAt = true := by decide +kernel
theorem k_Js_coder : ny_chk 11 m_Js_coder = true := by decide +kernel
theorem k_Js_isLatin1 : ny_chk 11 m_Js_isLatin1 = true := by decide +kernel
theorem k_Js_checkIndex : ny_chk 11 m_Js_checkIndex = true := by decide +kernel
theorem k_Jl_charAt : ny_chk 16 m_Jl_charAt = true := by decide +kernel
theorem k_Ja_fill : ny_chk 15 m_Ja_fill = true := by decide +kernel
theorem k_Jp_checkIndex : ny_chk 17 m_Jp_checkIndex = true := by decide +kernel
end
section
/-! the memory by cells and places; one instruction; a stretch of instructions -/
abbrev ny_I : Type := Nat → Nat → Int32
abbrev ny_R : Type := Nat → Nat → Option Nat
abbrev ny_K : Type := List (Nat × Nat)
abbrev ny_Lc : Type := List (Nat × Value)
def ny_up (I : ny_I) (c j : Nat) (x : Int32) : ny_I := fun c' => if c' = c then upd (I c) j x else I c'
def ny_cp (I : ny_I) (d s sp dp n : Nat) : ny_I := fun c' => if c' = d then va_cpy (I s) (I d) sp dp n else I c'
def ny_in (j : Int32) (n : Nat) : Bool := !(decide (j < 0)) && decide (j.toNatClampNeg < n)
def ny_kd (K : ny_K) (o : Nat) (k : Nat × Nat) : Bool := decide (K[o]? = some k)
/-- o is an array of that kind, j a place in it -/
def ny_ar (K : ny_K) (t o : Nat) (j : Int32) : Bool := match K[o]? with
  | some q => decide (q.1 = t) && ny_in j q.2
  | none => false
def ny_aw (K : ny_K) (t o : Nat) (j : Int32) : Bool := ny_ar K t o j && decide (5 ≤ o)
def ny_ra (K : ny_K) (o : Nat) (j : Int32) : Bool := match K[o]? with
  | some q => decide (3 ≤ q.1) && decide (q.1 ≤ 6) && ny_in j q.2
  | none => false
/-- a reference to a cell (4 is the place of what may be null) -/
def ny_rs (r : Option Nat) : Bool := match r with
  | some z => !(Nat.beq z 4)
  | none => false
def ny_ln (K : ny_K) (o : Nat) : Nat := (K.getD o (0, 0)).2
def ny_la (K : ny_K) (o : Nat) : Bool := match K[o]? with
  | some q => decide (q.1 = 1) || decide (q.1 = 2)
  | none => false
def ny_cb (K : ny_K) (s d : Nat) (sp dp n : Int32) : Bool := decide (5 ≤ s) && decide (5 ≤ d) && !(decide (s = d)) && decide ((K.getD s (0, 0)).1 = 1) && decide ((K.getD d (0, 0)).1 = 1) &&
  !(decide (sp < 0)) && !(decide (dp < 0)) && !(decide (n < 0)) && decide (sp.toNatClampNeg + n.toNatClampNeg ≤ ny_ln K s) && decide (dp.toNatClampNeg + n.toNatClampNeg ≤ ny_ln K d)
def ny_lk (L : ny_Lc) (i : Nat) : Option Value := match L with
  | [] => none
  | q :: t => match Nat.beq q.1 i with
    | true => some q.2
    | false => ny_lk t i
def ny_ins (i : Nat) (v : Value) (L : ny_Lc) : ny_Lc := match L with
  | [] => [(i, v)]
  | q :: t => match Nat.blt q.1 i with
    | true => q :: ny_ins i v t
    | false => (i, v) :: q :: t
def ny_st (L : ny_Lc) (i : Nat) (v : Value) : ny_Lc := ny_ins i v (L.filter (fun q => !(q.1 == i) && !(q.1 + 1 == i && q.2.category == 2)))
def ny_st2 (L : ny_Lc) (i : Nat) (v : Value) : ny_Lc := ny_ins i v (L.filter (fun q => !(q.1 == i) && (!(q.1 == i + 1) && !(q.1 + 1 == i && q.2.category == 2))))
abbrev ny_O : Type := Option (Option Bool × ny_Lc × List Value × ny_I)
section NYS
variable (L : ny_Lc) (S : List Value) (I : ny_I)
def ny_ldI (i : Nat) : ny_O := match ny_lk L i with
  | some (.int x) => some (none, L, .int x :: S, I)
  | _ => none
def ny_ldL (i : Nat) : ny_O := match ny_lk L i with
  | some (.long x) => some (none, L, .long x :: S, I)
  | _ => none
def ny_ldA (i : Nat) : ny_O := match ny_lk L i with
  | some (.ref x) => some (none, L, .ref x :: S, I)
  | _ => none
def ny_siI (i : Nat) : ny_O := match S with
  | .int x :: t => some (none, ny_st L i (.int x), t, I)
  | _ => none
def ny_siL (i : Nat) : ny_O := match S with
  | .long x :: t => some (none, ny_st2 L i (.long x), t, I)
  | _ => none
def ny_siA (i : Nat) : ny_O := match S with
  | .ref x :: t => some (none, ny_st L i (.ref x), t, I)
  | _ => none
def ny_i2 (f : Int32 → Int32 → Int32) : ny_O := match S with
  | .int y :: .int x :: t => some (none, L, .int (f x y) :: t, I)
  | _ => none
def ny_i2g (f : Int32 → Int32 → Int32) : ny_O := match S with
  | .int y :: .int x :: t => some (some (!(decide (y = 0))), L, .int (f x y) :: t, I)
  | _ => none
def ny_i1 (f : Int32 → Int32) : ny_O := match S with
  | .int x :: t => some (none, L, .int (f x) :: t, I)
  | _ => none
def ny_l2 (f : Int64 → Int64 → Int64) : ny_O := match S with
  | .long y :: .long x :: t => some (none, L, .long (f x y) :: t, I)
  | _ => none
def ny_l2g (f : Int64 → Int64 → Int64) : ny_O := match S with
  | .long y :: .long x :: t => some (some (!(decide (y = 0))), L, .long (f x y) :: t, I)
  | _ => none
def ny_li (f : Int64 → Int32 → Int64) : ny_O := match S with
  | .int y :: .long x :: t => some (none, L, .long (f x y) :: t, I)
  | _ => none
def ny_gf (K : ny_K) (R : ny_R) (a b : Nat) : ny_O := match S with
  | .ref o :: t => match b % 3 with
    | 1 => some (some (ny_kd K o (0, a) && ny_rs (R o (b / 3))), L, .ref ((R o (b / 3)).getD 0) :: t, I)
    | _ => some (some (ny_kd K o (0, a)), L, .int (I o (b / 3)) :: t, I)
  | _ => none
def ny_pf (K : ny_K) (a b : Nat) : ny_O := match S with
  | .int x :: .ref o :: t => match b % 3 with
    | 0 => some (some (ny_kd K o (0, a) && decide (5 ≤ o)), L, t, ny_up I o (b / 3) x)
    | 2 => some (some (ny_kd K o (0, a) && decide (5 ≤ o) && (decide (x = 0) || decide (x = 1))), L, t, ny_up I o (b / 3) x)
    | _ => none
  | _ => none
def ny_iald (K : ny_K) : ny_O := match S with
  | .int j :: .ref o :: t => some (some (ny_ar K 1 o j), L, .int (I o j.toNatClampNeg) :: t, I)
  | _ => none
def ny_bald (K : ny_K) : ny_O := match S with
  | .int j :: .ref o :: t => some (some (ny_ar K 2 o j), L, .int (I o j.toNatClampNeg) :: t, I)
  | _ => none
def ny_aald (K : ny_K) (R : ny_R) : ny_O := match S with
  | .int j :: .ref o :: t => some (some (ny_ra K o j && ny_rs (R o j.toNatClampNeg)), L, .ref ((R o j.toNatClampNeg).getD 0) :: t, I)
  | _ => none
def ny_iast (K : ny_K) : ny_O := match S with
  | .int x :: .int j :: .ref o :: t => some (some (ny_aw K 1 o j), L, t, ny_up I o j.toNatClampNeg x)
  | _ => none
def ny_bast (K : ny_K) : ny_O := match S with
  | .int x :: .int j :: .ref o :: t => some (some (ny_aw K 2 o j), L, t, ny_up I o j.toNatClampNeg x.toInt8.toInt32)
  | _ => none
def ny_alen (K : ny_K) : ny_O := match S with
  | .ref o :: t => some (some (ny_la K o), L, .int (nI (ny_ln K o)) :: t, I)
  | _ => none
def ny_dup : ny_O := match S with
  | .int x :: t => some (none, L, .int x :: .int x :: t, I)
  | .ref o :: t => some (none, L, .ref o :: .ref o :: t, I)
  | _ => none
def ny_dup2 : ny_O := match S with
  | .int x :: .ref o :: t => some (none, L, .int x :: .ref o :: .int x :: .ref o :: t, I)
  | _ => none
def ny_pop : ny_O := match S with
  | .int _ :: t => some (none, L, t, I)
  | _ => none
def ny_inv (K : ny_K) (a : Nat) : ny_O := match a with
  | 1 => match S with
    | .int y :: .int x :: t => match Nat.ble t.length 8 with
      | true => some (none, L, .int (if x < y then y else x) :: t, I)
      | false => none
    | _ => none
  | 2 => match S with
    | .int y :: .int x :: t => match Nat.ble t.length 8 with
      | true => some (none, L, .int (if y < x then y else x) :: t, I)
      | false => none
    | _ => none
  | 3 => match S with
    | .int x :: t => match Nat.ble t.length 8 with
      | true => some (none, L, .int (if 0 ≤ x then x else 0 - x) :: t, I)
      | false => none
    | _ => none
  | 4 => match S with
    | .int n :: .int dp :: .ref d :: .int sp :: .ref s :: t => match Nat.ble t.length 8 with
      | true => some (some (ny_cb K s d sp dp n), L, t, ny_cp I d s sp.toNatClampNeg dp.toNatClampNeg n.toNatClampNeg)
      | false => none
    | _ => none
  | _ => none
end NYS
def ny_stp (q : ny_Op) (K : ny_K) (R : ny_R) (L : ny_Lc) (S : List Value) (I : ny_I) : ny_O :=
  match q with
  | (_, _, ins, a, b, v, w) => match ins with
    | .iload i => ny_ldI L S I i
    | .iload_n i => ny_ldI L S I i
    | .lload i => ny_ldL L S I i
    | .lload_n i => ny_ldL L S I i
    | .aload i => ny_ldA L S I i
    | .aload_n i => ny_ldA L S I i
    | .istore i => ny_siI L S I i
    | .istore_n i => ny_siI L S I i
    | .lstore i => ny_siL L S I i
    | .lstore_n i => ny_siL L S I i
    | .astore i => ny_siA L S I i
    | .astore_n i => ny_siA L S I i
    | .iinc i _ => match ny_lk L i with
      | some (.int x) => some (none, ny_st L i (.int (x + v)), S, I)
      | _ => none
    | .iconst _ => some (none, L, .int v :: S, I)
    | .bipush _ => some (none, L, .int v :: S, I)
    | .sipush _ => some (none, L, .int v :: S, I)
    | .lconst _ => some (none, L, .long w :: S, I)
    | .ldc2_w _ => some (none, L, .long w :: S, I)
    | .ldc_w _ => some (none, L, .int v :: S, I)
    | .ldc _ => match a with
      | 1 => some (none, L, .ref 2 :: S, I)
      | _ => some (none, L, .int v :: S, I)
    | .iadd => ny_i2 L S I (fun x y => x + y)
    | .isub => ny_i2 L S I (fun x y => x - y)
    | .imul => ny_i2 L S I (fun x y => x * y)
    | .iand => ny_i2 L S I (fun x y => x &&& y)
    | .ior => ny_i2 L S I (fun x y => x ||| y)
    | .ixor => ny_i2 L S I (fun x y => x ^^^ y)
    | .ishl => ny_i2 L S I (fun x y => x <<< (y &&& 31))
    | .ishr => ny_i2 L S I (fun x y => x >>> (y &&& 31))
    | .iushr => ny_i2 L S I (fun x y => (x.toUInt32 >>> (y.toUInt32 &&& Int32.toUInt32 31)).toInt32)
    | .idiv => ny_i2g L S I (fun x y => x / y)
    | .irem => ny_i2g L S I (fun x y => x - x / y * y)
    | .i2b => ny_i1 L S I (fun x => x.toInt8.toInt32)
    | .i2s => ny_i1 L S I (fun x => x.toInt16.toInt32)
    | .i2c => ny_i1 L S I (fun x => (x.toUInt32 % 65536).toInt32)
    | .ladd => ny_l2 L S I (fun x y => x + y)
    | .lsub => ny_l2 L S I (fun x y => x - y)
    | .lmul => ny_l2 L S I (fun x y => x * y)
    | .land => ny_l2 L S I (fun x y => x &&& y)
    | .lor => ny_l2 L S I (fun x y => x ||| y)
    | .lxor => ny_l2 L S I (fun x y => x ^^^ y)
    | .ldiv => ny_l2g L S I (fun x y => x / y)
    | .lrem => ny_l2g L S I (fun x y => x - x / y * y)
    | .lshl => ny_li L S I (fun x y => x <<< (y.toInt64 &&& 63))
    | .lshr => ny_li L S I (fun x y => x >>> (y.toInt64 &&& 63))
    | .lushr => ny_li L S I (fun x y => (x.toUInt64 >>> (y.toInt64.toUInt64 &&& Int64.toUInt64 63)).toInt64)
    | .i2l => match S with
      | .int x :: t => some (none, L, .long x.toInt64 :: t, I)
      | _ => none
    | .l2i => match S with
      | .long x :: t => some (none, L, .int x.toInt32 :: t, I)
      | _ => none
    | .lcmp => match S with
      | .long y :: .long x :: t => some (none, L, .int (lg_cmp x y) :: t, I)
      | _ => none
    | .dup => ny_dup L S I
    | .dup2 => ny_dup2 L S I
    | .pop => ny_pop L S I
    | .getfield _ => ny_gf L S I K R a b
    | .putfield _ => ny_pf L S I K a b
    | .iaload => ny_iald L S I K
    | .baload => ny_bald L S I K
    | .aaload => ny_aald L S I K R
    | .iastore => ny_iast L S I K
    | .bastore => ny_bast L S I K
    | .arraylength => ny_alen L S I K
    | .getstatic _ => match a with
      | 1 => some (none, L, .ref 1 :: S, I)
      | 2 => some (none, L, .int 1 :: S, I)
      | 3 => some (none, L, .ref 4 :: S, I)
      | _ => none
    | .invokestatic _ => ny_inv L S I K a
    | _ => none
/-- a stretch of instructions from pc on: what must hold, and what comes behind it -/
def ny_run (K : ny_K) (R : ny_R) (qs : List ny_Op) (pc : Nat) (L : ny_Lc) (S : List Value) (I : ny_I) (k : Nat → ny_Lc → List Value → ny_I → Prop) : Prop :=
  match qs with
  | [] => k pc L S I
  | q :: qs => match Nat.beq q.1 pc with
    | false => False
    | true => match ny_stp q K R L S I with
      | none => False
      | some (none, L', S', I') => ny_run K R qs (pc + q.2.1) L' S' I' k
      | some (some g, L', S', I') => g = true ∧ ny_run K R qs (pc + q.2.1) L' S' I' k
/-- a test of the evaluation's speed -/
theorem ny_test (K : ny_K) (R : ny_R) (x y : Int32) (I : ny_I) (k : Nat → ny_Lc → List Value → ny_I → Prop) (h : k 6 [(0, .int x), (1, .int y)] [.int (x * 3 + y), .int 5] I) :
    ny_run K R [ny_o2 0 1 (.iconst 5) 5, ny_o 1 1 (.iload_n 0), ny_o2 2 1 (.iconst 3) 3, ny_o 3 1 .imul, ny_o 4 1 (.iload_n 1), ny_o 5 1 .iadd] 0 [(0, .int x), (1, .int y)] [] I k := h
end
section
/-! the machine's heap as cells and places -/
/-- classes' numbers, fields' places; array classes; addresses of the script, the static row, the text, its bytes, the formatter; the script; where what is made begins -/
abbrev ny_E : Type := ((Nat → ClassId) × (Nat → Nat → Nat)) × (Nat → ClassId) × (Nat × Nat × Nat × Nat × Option Nat) × (Nat × (Nat → Int32)) × Nat
section NYE
variable (E : ny_E)
def ny_sz : Nat := E.2.2.2.2
def ny_xb : Nat := E.2.2.1.1
def ny_t0 : Nat := E.2.2.1.2.1
def ny_w0 : Nat := E.2.2.1.2.2.1
def ny_v0 : Nat := E.2.2.1.2.2.2.1
def ny_fm : Option Nat := E.2.2.1.2.2.2.2
def ny_Ln : Nat := E.2.2.2.1.1
def ny_xs : Nat → Int32 := E.2.2.2.1.2
def ny_ph (i : Nat) : Nat := if i = 0 then ny_xb E else if i = 1 then ny_t0 E else if i = 2 then ny_w0 E else if i = 3 then ny_v0 E else ny_sz E + (i - 5)
def ny_v : Value → Value
  | .ref i => if i = 4 then va_rf (ny_fm E) else .ref (ny_ph E i)
  | v => v
def ny_lv (q : Nat × Value) : Nat × Value := (q.1, ny_v E q.2)
def ny_A : Nat → Prop := fun q => ny_sz E ≤ q
def ny_ab : Nat → Int32 := fun j => ([-1, 0, 0, 2, 0, 4] : List Int32).getD j 0
def ny_txt : String := "figure marble girl matron novice dreamer relieve keep smoke bell tired grace guests number if and or not "
def ny_bl : List Int32 := [102, 105, 103, 117, 114, 101, 32, 109, 97, 114, 98, 108, 101, 32, 103, 105, 114, 108, 32, 109, 97, 116, 114, 111, 110, 32, 110, 111, 118, 105, 99, 101, 32, 100, 114, 101, 97, 109, 101, 114, 32, 114, 101, 108, 105, 101, 118, 101, 32, 107, 101, 101, 112, 32, 115, 109, 111, 107, 101, 32, 98, 101, 108, 108, 32, 116, 105, 114, 101, 100, 32, 103, 114, 97, 99, 101, 32, 103, 117, 101, 115, 116, 115, 32, 110, 117, 109, 98, 101, 114, 32, 105, 102, 32, 97, 110, 100, 32, 111, 114, 32, 110, 111, 116, 32]
def ny_by : Nat → Int32 := fun j => ny_bl.getD j 0
def ny_fs (ci : Nat) (i : Nat → Int32) (r : Nat → Option Nat) : List Value := (List.range ((ny_Ks.getD ci []).length)).map fun k => if (ny_Ks.getD ci []).getD k 9 = 1 then va_rf ((r k).map (ny_ph E)) else .int (i k)
def ny_cell (kd : Nat × Nat) (i : Nat → Int32) (r : Nat → Option Nat) : va_E := match kd.1 with
  | 0 => .inr (kd.2, ny_fs E kd.2 i r)
  | 1 => .inl (E.2.1 0, kd.2, .inl i)
  | 2 => .inl (E.2.1 1, kd.2, .inl i)
  | t + 3 => .inl (E.2.1 (t + 2), kd.2, .inr (.inr (.inr (.inr fun j => (r j).map (ny_ph E)))))
def ny_ws (K : ny_K) (I : ny_I) (R : ny_R) : va_W := (List.range (K.length - 5)).map fun j => (ny_sz E + j, ny_cell E (K.getD (j + 5) (0, 0)) (I (j + 5)) (R (j + 5)))
def ny_tys : List (ClassId × FieldType) := [(E.2.1 0, .int), (E.2.1 1, .byte), (E.2.1 2, .object "NymphRota$Moment"), (E.2.1 3, .object "NymphRota$Sheet"), (E.2.1 4, .object "NymphRota$Shelf"), (E.2.1 5, .array .int)]
def ny_k5 : ny_K := [(1, ny_Ln E), (1, 6), (0, 11), (2, 105), (9, 0)]
def ny_P (K : ny_K) (I : ny_I) (R : ny_R) (H : Heap) : Prop := K.take 5 = ny_k5 E ∧ I 0 = ny_xs E ∧ I 1 = ny_ab ∧ (I 2 0 = 0 ∧ I 3 = ny_by ∧ R 2 1 = some 3) ∧ va_P E.1 ny_cls (ny_ws E K I R) H
/-- what stands from the start on, and nobody writes -/
def ny_X (s : State) (H : Heap) : Prop := va_X (ny_xb E) (ny_Ln E) (ny_xs E) s H ∧ ny_xb E < ny_sz E ∧ va_T .int (ny_t0 E) 6 (fun j => .int (ny_ab j)) (ny_A E) s H ∧
  va_Z "NymphRota$Kinds" "ABOVE" "[I" (.ref (ny_t0 E)) (ny_A E) s H ∧ va_Z "java/lang/String" "COMPACT_STRINGS" "Z" (.int 1) (ny_A E) s H ∧
  va_Z "jdk/internal/util/Preconditions" "SIOOBE_FORMATTER" "Ljava/util/function/BiFunction;" (va_rf (ny_fm E)) (ny_A E) s H ∧
  vk_R "NymphRota$Tape" 94 ny_txt (ny_w0 E) s ∧ vk_S 1 [105] [ny_bl] (fun _ => ny_w0 E) (fun _ => ny_v0 E) (ny_A E) s H
def ny_nest : List (String × Nat × MethodName × String) := [("NymphRota$Basin", 11, ⟨"NymphRota$Moment", "<init>", "()V"⟩, "NymphRota"), ("NymphRota$Basin", 52, ⟨"NymphRota$Rules", "<init>", "()V"⟩, "NymphRota"), ("NymphRota$Basin", 59, ⟨"NymphRota$Reports", "<init>", "()V"⟩, "NymphRota"), ("NymphRota", 25, ⟨"NymphRota$Tape", "<init>", "()V"⟩, "NymphRota"), ("NymphRota$Tape", 40, ⟨"NymphRota$Rules", "<init>", "()V"⟩, "NymphRota"), ("NymphRota$Plans", 46, ⟨"NymphRota$Moment", "<init>", "()V"⟩, "NymphRota"), ("NymphRota", 60, ⟨"NymphRota$Acting", "<init>", "()V"⟩, "NymphRota"), ("NymphRota", 65, ⟨"NymphRota$Sheet", "<init>", "()V"⟩, "NymphRota"), ("NymphRota", 66, ⟨"NymphRota$Shelf", "<init>", "()V"⟩, "NymphRota")]
def ny_S (s : State) : Prop := va_K E.1 ny_cls (ny_tys E) s ∧ ∀ q ∈ ny_nest, va_Nw (.methodLinkNest q.1 q.2.1 q.2.2.1 q.2.2.2) s
def ny_C (p : Program) (s : State) (m : MethodId) (args : Array Value) (meth : Method) (c : Code) (y : ny_M) (Rm : Room) (d mc ms : Nat) : Prop :=
  p.tables.exec = Jvm.exec ∧ c.code = y.2.1 ∧ meth.sig.returnType = y.2.2.2.1 ∧ c.maxLocals = y.2.2.1 ∧ s.vm.findClass y.1.cls = some m.cls ∧ (∀ w ∈ ny_tb, w.before args s = true) ∧ meth.locks = false ∧
  (y.2.2.2.2.1 = true → meth.name = "<init>") ∧ d + 1 ≤ Rm.frames ∧ 64 * (d + 1) ≤ Rm.locals ∧ Rm.cells = mc ∧ Rm.slots = ms ∧ ny_S E s ∧ ny_X E s s.heap ∧ ny_sz E ≤ s.heap.size
def ny_Rl (K : ny_K) (I : ny_I) (R : ny_R) (s : State) (H : Heap) (locs : List Loc) (k : Nat) : Prop := ny_P E K I R H ∧ va_S (ny_A E) s.heap H locs ∧ s.heap.size + k + 5 = ny_sz E + K.length
end NYE
theorem ny_v_cat (E : ny_E) (v : Value) : (ny_v E v).category = v.category := by
  cases v <;> try rfl
  rename_i i
  show (if i = 4 then va_rf (ny_fm E) else .ref (ny_ph E i)).category = 1
  split
  · cases ny_fm E <;> rfl
  · rfl
theorem ny_lk_mem {L : ny_Lc} {i : Nat} {v : Value} (h : ny_lk L i = some v) : (i, v) ∈ L := by
  induction L with
  | nil => cases h
  | cons q t ih =>
    rw [ny_lk] at h
    split at h
    next hb =>
      cases h
      rw [← Nat.eq_of_beq_eq_true hb]
      exact List.mem_cons_self
    next => exact List.mem_cons_of_mem _ (ih h)
theorem ny_lk_has {E : ny_E} {ls : Array Slot} {n : Nat} {L : ny_Lc} {i : Nat} {v : Value} (hl : lv_has ls n (L.map (ny_lv E))) (h : ny_lk L i = some v) : ls[i]? = some (.val (ny_v E v)) :=
  hl.2.2 (i, ny_v E v) (List.mem_map.mpr ⟨(i, v), ny_lk_mem h, rfl⟩)
theorem ny_ins_mem {i : Nat} {v : Value} {L : ny_Lc} {q : Nat × Value} (h : q ∈ ny_ins i v L) : q = (i, v) ∨ q ∈ L := by
  induction L with
  | nil => exact Or.inl (List.mem_singleton.mp h)
  | cons a t ih =>
    rw [ny_ins] at h
    split at h
    · rcases List.mem_cons.mp h with rfl | h
      · exact Or.inr List.mem_cons_self
      · exact (ih h).imp id (List.mem_cons_of_mem _)
    · exact (List.mem_cons.mp h)
theorem ny_st_has {E : ny_E} {ls : Array Slot} {n : Nat} {L : ny_Lc} {i : Nat} {v : Value} (h : lv_has ls n ((i, ny_v E v) :: (L.map (ny_lv E)).filter (fun q => !(q.1 == i) && !(q.1 + 1 == i && q.2.category == 2)))) : lv_has ls n ((ny_st L i v).map (ny_lv E)) := by
  refine ⟨h.1, h.2.1, fun q hq => h.2.2 q ?_⟩
  obtain ⟨q0, h0, rfl⟩ := List.mem_map.mp hq
  rcases ny_ins_mem h0 with rfl | h0
  · exact List.mem_cons_self
  · obtain ⟨h1, h2⟩ := List.mem_filter.mp h0
    refine List.mem_cons_of_mem _ (List.mem_filter.mpr ⟨List.mem_map.mpr ⟨q0, h1, rfl⟩, ?_⟩)
    show (!(q0.1 == i) && !(q0.1 + 1 == i && (ny_v E q0.2).category == 2)) = true
    rw [ny_v_cat]
    exact h2
theorem ny_st2_has {E : ny_E} {ls : Array Slot} {n : Nat} {L : ny_Lc} {i : Nat} {v : Value} (h : lv_has ls n ((i, ny_v E v) :: (L.map (ny_lv E)).filter (fun q => !(q.1 == i) && (!(q.1 == i + 1) && !(q.1 + 1 == i && q.2.category == 2))))) : lv_has ls n ((ny_st2 L i v).map (ny_lv E)) := by
  refine ⟨h.1, h.2.1, fun q hq => h.2.2 q ?_⟩
  obtain ⟨q0, h0, rfl⟩ := List.mem_map.mp hq
  rcases ny_ins_mem h0 with rfl | h0
  · exact List.mem_cons_self
  · obtain ⟨h1, h2⟩ := List.mem_filter.mp h0
    refine List.mem_cons_of_mem _ (List.mem_filter.mpr ⟨List.mem_map.mpr ⟨q0, h1, rfl⟩, ?_⟩)
    show (!(q0.1 == i) && (!(q0.1 == i + 1) && !(q0.1 + 1 == i && (ny_v E q0.2).category == 2))) = true
    rw [ny_v_cat]
    exact h2
theorem ny_ws_get (E : ny_E) {K : ny_K} (I : ny_I) (R : ny_R) {o : Nat} {kd : Nat × Nat} (ho : 5 ≤ o) (hk : K[o]? = some kd) : (ny_ws E K I R)[o - 5]? = some (ny_ph E o, ny_cell E kd (I o) (R o)) := by
  have hl : o < K.length := (List.getElem?_eq_some_iff.mp hk).1
  have e : o - 5 + 5 = o := by omega
  have ep : ny_ph E o = ny_sz E + (o - 5) := by
    unfold ny_ph
    rw [if_neg (by omega), if_neg (by omega), if_neg (by omega), if_neg (by omega)]
  unfold ny_ws
  rw [List.getElem?_map, List.getElem?_range (by omega), ep]
  show some (ny_sz E + (o - 5), ny_cell E (K.getD (o - 5 + 5) (0, 0)) (I (o - 5 + 5)) (R (o - 5 + 5))) = _
  rw [e, List.getD_eq_getElem?_getD, hk]
  rfl
theorem ny_ws_D (E : ny_E) (K : ny_K) (I : ny_I) (R : ny_R) : va_D (ny_A E) (ny_ws E K I R) := by
  have key : ∀ (k : Nat) (q : Nat × va_E), (ny_ws E K I R)[k]? = some q → q.1 = ny_sz E + k := by
    intro k q h
    unfold ny_ws at h
    rw [List.getElem?_map] at h
    obtain ⟨j, hj, rfl⟩ := Option.map_eq_some_iff.mp h
    have := List.getElem?_eq_some_iff.mp hj
    obtain ⟨_, e⟩ := this
    rw [List.getElem_range] at e
    subst e
    rfl
  refine ⟨fun i j p q hi hj h => ?_, fun k q h => ?_⟩
  · rw [key i p hi, key j q hj] at h
    omega
  · show ny_sz E ≤ q.1
    rw [key k q h]
    omega
theorem ny_ws_set (E : ny_E) {K : ny_K} {I I' : ny_I} {R R' : ny_R} {o : Nat} {kd : Nat × Nat} (ho : 5 ≤ o) (hk : K[o]? = some kd) (hI : ∀ c, c ≠ o → I' c = I c) (hR : ∀ c, c ≠ o → R' c = R c) :
    (ny_ws E K I R).set (o - 5) (ny_ph E o, ny_cell E kd (I' o) (R' o)) = ny_ws E K I' R' := by
  have hl : o < K.length := (List.getElem?_eq_some_iff.mp hk).1
  apply List.ext_getElem?
  intro j
  by_cases hj : j = o - 5
  · subst hj
    rw [ny_ws_get E I' R' ho hk, List.getElem?_set_self]
    unfold ny_ws
    rw [List.length_map, List.length_range]
    omega
  · rw [List.getElem?_set_ne (Ne.symm hj)]
    unfold ny_ws
    rw [List.getElem?_map, List.getElem?_map]
    by_cases hr : j < K.length - 5
    · rw [List.getElem?_range hr]
      show some (_, ny_cell E _ (I (j + 5)) (R (j + 5))) = some (_, ny_cell E _ (I' (j + 5)) (R' (j + 5)))
      rw [hI (j + 5) (by omega), hR (j + 5) (by omega)]
    · rw [List.getElem?_eq_none (by rw [List.length_range]; omega)]
      rfl
theorem ny_low {E : ny_E} {K : ny_K} {I : ny_I} {R : ny_R} {H : Heap} (h : ny_P E K I R H) {o : Nat} (ho : o < 5) : K[o]? = (ny_k5 E)[o]? := by
  rw [← h.1, List.getElem?_take_of_lt ho]
end
section
/-! one instruction of the memory's is one of the machine's -/
theorem ny_in_of {j : Int32} {n : Nat} (h : ny_in j n = true) : vp_in j n := by
  simp only [ny_in, Bool.and_eq_true, Bool.not_eq_true', decide_eq_false_iff_not, decide_eq_true_eq] at h
  rintro (q | q)
  · exact h.1 q
  · omega
theorem ny_ar_of {K : ny_K} {t o : Nat} {j : Int32} (h : ny_ar K t o j = true) : ∃ n, K[o]? = some (t, n) ∧ vp_in j n := by
  unfold ny_ar at h
  split at h
  next q hq =>
    simp only [Bool.and_eq_true, decide_eq_true_eq] at h
    exact ⟨q.2, by rw [hq, ← h.1], ny_in_of h.2⟩
  next => cases h
theorem ny_rs_of {r : Option Nat} (h : ny_rs r = true) : ∃ z, r = some z ∧ z ≠ 4 := by
  unfold ny_rs at h
  split at h
  next z => exact ⟨z, rfl, fun e => by subst e; cases h⟩
  next => cases h
theorem ny_fl_of {own : Nat} (ho : own < 18) {i a b : Nat} (h : (ny_FL.getD own []).contains (i, a, b) = true) :
    ny_fl own (i, a, b) ∈ ny_tb ∧ a < 11 ∧ b / 3 < (ny_Ks.getD a []).length ∧ (ny_Ks.getD a []).getD (b / 3) 9 = b % 3 := by
  have h1 := List.all_eq_true.mp ny_fl_ok own (List.mem_range.mpr ho)
  have h2 := List.all_eq_true.mp h1 (i, a, b) (List.contains_iff_mem.mp h)
  simp only [Bool.and_eq_true, decide_eq_true_eq] at h2
  exact ⟨ny_mem_tb h2.1.1.1, h2.1.1.2, h2.1.2, h2.2⟩
theorem ny_cls_at : ∀ a, a < 11 → ny_cls[a]? = some (ny_cn.getD a "", ny_T a, (ny_Ks.getD a []).length) := by
  intro a ha
  match a, ha with
  | 0, _ => rfl
  | 1, _ => rfl
  | 2, _ => rfl
  | 3, _ => rfl
  | 4, _ => rfl
  | 5, _ => rfl
  | 6, _ => rfl
  | 7, _ => rfl
  | 8, _ => rfl
  | 9, _ => rfl
  | 10, _ => rfl
theorem ny_lay {a : Nat} {q : vw_C} (h : ny_cls[a]? = some q) : ∀ w ∈ u_ws q.1 q.2.1 q.2.2, w ∈ ny_tb := by
  intro w hw
  exact ny_mem_tb (List.all_eq_true.mp (List.all_eq_true.mp ny_lay_ok q (List.mem_of_getElem? h)) w hw)
/-- facts of fields that a program decides: types by their letters, names apart, whole numbers aren't final, the declaring class -/
def ny_ty (a : Nat) : Nat → FieldType := fun k => (parseFieldDescriptor (ny_T a k).2.2.1).getD .int
theorem ny_ty_ok : ∀ a, a < 11 → ∀ k, k < (ny_Ks.getD a []).length → parseFieldDescriptor (ny_T a k).2.2.1 = some (ny_ty a k) := by decide +kernel
theorem ny_nm_ok : ∀ a, a < 11 → ∀ i, i < (ny_Ks.getD a []).length → ∀ j, j < (ny_Ks.getD a []).length → i ≠ j → (ny_T a i).2.1 ≠ (ny_T a j).2.1 := by decide +kernel
theorem ny_fd_ok : ∀ a, a < 11 → ∀ k, k < (ny_Ks.getD a []).length → (ny_T a k).1 = ny_cn.getD a "" ∧ ((ny_Ks.getD a []).getD k 9 = 0 → ny_ty a k = .int ∧ (ny_T a k).2.2.2 = false) ∧ ((ny_Ks.getD a []).getD k 9 = 2 → ny_ty a k = .boolean ∧ (ny_T a k).2.2.2 = false) := by decide +kernel
theorem ny_fs_at (E : ny_E) (ci : Nat) (i : Nat → Int32) (r : Nat → Option Nat) {k : Nat} (hk : k < (ny_Ks.getD ci []).length) :
    (ny_fs E ci i r)[k]? = some (if (ny_Ks.getD ci []).getD k 9 = 1 then va_rf ((r k).map (ny_ph E)) else .int (i k)) := by
  unfold ny_fs
  rw [List.getElem?_map, List.getElem?_range hk]
  rfl
theorem ny_fs_len (E : ny_E) (ci : Nat) (i : Nat → Int32) (r : Nat → Option Nat) : (ny_fs E ci i r).length = (ny_Ks.getD ci []).length := by
  unfold ny_fs
  rw [List.length_map, List.length_range]
theorem ny_fs_set (E : ny_E) (ci : Nat) (i : Nat → Int32) (r : Nat → Option Nat) {k : Nat} (hk : k < (ny_Ks.getD ci []).length) (x : Int32) (h1 : (ny_Ks.getD ci []).getD k 9 ≠ 1) :
    (ny_fs E ci i r).set k (.int x) = ny_fs E ci (upd i k x) r := by
  apply List.ext_getElem?
  intro j
  by_cases hj : j = k
  · subst hj
    rw [List.getElem?_set_self (by rw [ny_fs_len]; exact hk), ny_fs_at E ci _ r hk, if_neg h1]
    simp [upd]
  · rw [List.getElem?_set_ne (Ne.symm hj)]
    by_cases hl : j < (ny_Ks.getD ci []).length
    · rw [ny_fs_at E ci _ r hl, ny_fs_at E ci _ r hl]
      simp [upd, hj]
    · rw [List.getElem?_eq_none (by rw [ny_fs_len]; omega), List.getElem?_eq_none (by rw [ny_fs_len]; omega)]
section NYW
variable {p : Program} {l : Launch} {e : Env} {Rm : Room} {s : State} {m : MethodId} {args : Array Value} {below : List Frame} {meth : Method} {c : Code} {H : Heap} {locs : List Loc} {ls : Array Slot} {Q : State → Prop} {E : ny_E} {d mc ms k n : Nat} {K : ny_K} {R : ny_R} {I : ny_I} {y : ny_M}
/-- of an object with fields: where it lies -/
theorem ny_obj {o a : Nat} (hP : ny_P E K I R H) (ha : a < 11) (hk : ny_kd K o (0, a) = true) : 5 ≤ o ∧ (ny_ws E K I R)[o - 5]? = some (ny_ph E o, .inr (a, ny_fs E a (I o) (R o))) := by
  have hk : K[o]? = some (0, a) := of_decide_eq_true hk
  have h5 : 5 ≤ o := by
    rcases Nat.lt_or_ge o 5 with h | h
    · exfalso
      rw [ny_low hP h] at hk
      rcases (show o = 0 ∨ o = 1 ∨ o = 2 ∨ o = 3 ∨ o = 4 by omega) with rfl | rfl | rfl | rfl | rfl <;> simp [ny_k5] at hk
      omega
    · exact h
  exact ⟨h5, ny_ws_get E I R h5 hk⟩
theorem ny_str {o : Nat} (hP : ny_P E K I R H) (hk : ny_kd K o (0, 11) = true) : o = 2 := by
  have hk : K[o]? = some (0, 11) := of_decide_eq_true hk
  rcases Nat.lt_or_ge o 5 with h | h
  · rw [ny_low hP h] at hk
    rcases (show o = 0 ∨ o = 1 ∨ o = 2 ∨ o = 3 ∨ o = 4 by omega) with rfl | rfl | rfl | rfl | rfl <;> simp [ny_k5] at hk ⊢
  · exfalso
    obtain ⟨r, h1, -⟩ := hP.2.2.2.2 _ _ (ny_ws_get E I R h hk)
    cases h1
theorem ny_ref {o : Nat} (h : 5 ≤ o) : ny_v E (.ref o) = .ref (ny_ph E o) := by
  show (if o = 4 then va_rf (ny_fm E) else .ref (ny_ph E o)) = _
  rw [if_neg (by omega)]
theorem ny_refs {o : Nat} (h : o ≠ 4) : ny_v E (.ref o) = .ref (ny_ph E o) := if_neg h
/-- a write to one cell -/
theorem ny_put {o : Nat} {kd : Nat × Nat} {H1 : Heap} {locs1 : List Loc} {I' : ny_I} {ent : va_E} (hR : ny_Rl E K I R s H locs k) (h5 : 5 ≤ o) (hk : K[o]? = some kd) (hI : ∀ c, c ≠ o → I' c = I c)
    (he : ent = ny_cell E kd (I' o) (R o)) (hP1 : va_P E.1 ny_cls ((ny_ws E K I R).set (o - 5) (ny_ph E o, ent)) H1) (hS1 : va_S (ny_A E) s.heap H1 locs1) : ny_Rl E K I' R s H1 locs1 k := by
  obtain ⟨⟨a1, a2, a3, ⟨a4, a5, a6⟩, a7⟩, -, a9⟩ := hR
  refine ⟨⟨a1, by rw [hI 0 (by omega)]; exact a2, by rw [hI 1 (by omega)]; exact a3, ⟨by rw [hI 2 (by omega)]; exact a4, by rw [hI 3 (by omega)]; exact a5, a6⟩, ?_⟩, hS1, a9⟩
  rw [he, ny_ws_set E (R' := R) h5 hk hI (fun _ _ => rfl)] at hP1
  exact hP1
theorem ny_upo (I : ny_I) (o j : Nat) (x : Int32) : ny_up I o j x o = upd (I o) j x := if_pos rfl
theorem ny_upn (I : ny_I) (o j : Nat) (x : Int32) : ∀ c, c ≠ o → ny_up I o j x c = I c := fun _ h => if_neg h
theorem ny_w_gf {cc : ByteArray} {own : Nat} {index a b pc : Nat} {S' S : List Value} {L L' : ny_Lc} {I' : ny_I} {g : Option Bool} (C : ny_C E p s m args meth c y Rm d mc ms) (ho : own < 18) (hcn : ny_cn.getD own "" = y.1.cls) (hR : ny_Rl E K I R s H locs k)
    (hok : (if a = 11 then decide (own = 11) && (decide (index = 9 ∧ b = 4) || decide (index = 15 ∧ b = 0)) else (ny_FL.getD own []).contains (index, a, b)) = true)
    (hd : decode y.2.1 pc = .ok (.getfield index, 3)) (h : ny_gf L S I K R a b = some (g, L', S', I')) (hg : ∀ b, g = some b → b = true)
    (kk : L' = L → I' = I → W p l e Rm s m args below meth c H locs k n Q (F0 m (pc + 3) ls (S'.map (ny_v E)))) : W p l e Rm s m args below meth c H locs k n Q (F0 m pc ls (S.map (ny_v E))) := by
  obtain ⟨hx, hb, hr, hml, hown, hts, hlk, hin, hf1, hf2, hc, hs, ⟨hK, hN⟩, hX, hsz⟩ := C
  obtain ⟨hP, hS, hz⟩ := hR
  unfold ny_gf at h
  split at h
  next o t =>
    split at hok
    next h11 =>
      subst h11
      simp only [Bool.and_eq_true, Bool.or_eq_true, decide_eq_true_eq] at hok
      obtain ⟨rfl, hok⟩ := hok
      have hcl : y.1.cls = "java/lang/String" := hcn.symm
      rw [hcl] at hown
      have hsv := (hX.2.2.2.2.2.2.2).1 0 (by decide)
      rcases hok with ⟨rfl, rfl⟩ | ⟨rfl, rfl⟩
      · injection h with h
        injection h with h1 h
        injection h with h2 h
        injection h with h3 h4
        have hk := hg _ h1.symm
        rw [Bool.and_eq_true] at hk
        have e := ny_str hP hk.1
        subst e
        subst h2; subst h4; subst h3
        refine vk_getf (o := "java/lang/String") (ref := "java/lang/String") (n := "value") (d := "[B") hx hb hsv.2.2.1 hS hown (hts _ (by exact ny_mem_tb (w := .fieldLink "java/lang/String" 9 "java/lang/String" "value" "[B") (by decide +kernel))) (fun _ h => h) hd ?_
        have e3 : R 2 (4 / 3) = some 3 := hP.2.2.2.1.2.2
        have kk := kk rfl rfl
        rw [List.map_cons, e3] at kk
        exact kk
      · injection h with h
        injection h with h1 h
        injection h with h2 h
        injection h with h3 h4
        have hk := hg _ h1.symm
        have e := ny_str hP hk
        subst e
        subst h2; subst h4; subst h3
        refine vk_getf (o := "java/lang/String") (ref := "java/lang/String") (n := "coder") (d := "B") hx hb hsv.2.1 hS hown (hts _ (by exact ny_mem_tb (w := .fieldLink "java/lang/String" 15 "java/lang/String" "coder" "B") (by decide +kernel))) (fun _ h => h) hd ?_
        have e3 : I 2 (0 / 3) = 0 := hP.2.2.2.1.1
        have kk := kk rfl rfl
        rw [List.map_cons, e3] at kk
        exact kk
    next h11 =>
      obtain ⟨hfl, ha, hbk, hkind⟩ := ny_fl_of ho hok
      have hlink := hts _ hfl
      unfold ny_fl at hlink
      rw [hcn] at hlink
      split at h
      next hb3 =>
        injection h with h
        injection h with h1 h
        injection h with h2 h
        injection h with h3 h4
        have hk := hg _ h1.symm
        rw [Bool.and_eq_true] at hk
        obtain ⟨h5, hws⟩ := ny_obj hP ha hk.1
        subst h2; subst h4; subst h3
        rw [List.map_cons, ny_ref h5]
        have hv := ny_fs_at E a (I o) (R o) hbk
        rw [hkind, hb3, if_pos rfl] at hv
        obtain ⟨z, hz2, hz4⟩ := ny_rs_of hk.2
        have kk := kk rfl rfl
        rw [List.map_cons, hz2] at kk
        rw [hz2] at hv
        have hc := ny_cls_at a ha
        refine va_get (ref := (ny_T a (b / 3)).1) hx hb hts (ny_lay hc) hown hK hP.2.2.2.2 (o - 5) hws hc (b / 3) hbk hlink (fun _ h9 => h9) hv hd ?_
        rw [show ny_v E (.ref ((some z).getD 0)) = .ref (ny_ph E z) from ny_refs hz4] at kk
        exact kk
      next hb3 =>
        injection h with h
        injection h with h1 h
        injection h with h2 h
        injection h with h3 h4
        have hk := hg _ h1.symm
        obtain ⟨h5, hws⟩ := ny_obj hP ha hk
        subst h2; subst h4; subst h3
        rw [List.map_cons, ny_ref h5]
        have hv := ny_fs_at E a (I o) (R o) hbk
        rw [hkind, if_neg hb3] at hv
        have hc := ny_cls_at a ha
        exact va_get (ref := (ny_T a (b / 3)).1) hx hb hts (ny_lay hc) hown hK hP.2.2.2.2 (o - 5) hws hc (b / 3) hbk hlink (fun _ h9 => h9) hv hd (kk rfl rfl)
  next => cases h
end NYW
end
section
theorem ny_lt5 {o : Nat} (h : o < 5) : o = 0 ∨ o = 1 ∨ o = 2 ∨ o = 3 ∨ o = 4 := by omega
section NYX
variable {p : Program} {l : Launch} {e : Env} {Rm : Room} {s : State} {m : MethodId} {args : Array Value} {below : List Frame} {meth : Method} {c : Code} {H : Heap} {locs : List Loc} {ls : Array Slot} {Q : State → Prop} {E : ny_E} {d mc ms k n : Nat} {K : ny_K} {R : ny_R} {I : ny_I} {y : ny_M}
theorem ny_w_pf {own : Nat} {index a b pc : Nat} {S' S : List Value} {L L' : ny_Lc} {I' : ny_I} {g : Option Bool} (C : ny_C E p s m args meth c y Rm d mc ms) (ho : own < 18) (hcn : ny_cn.getD own "" = y.1.cls) (hR : ny_Rl E K I R s H locs k)
    (hok : (ny_FL.getD own []).contains (index, a, b) = true)
    (hd : decode y.2.1 pc = .ok (.putfield index, 3)) (h : ny_pf L S I K a b = some (g, L', S', I')) (hg : ∀ b, g = some b → b = true)
    (kk : ∀ H' locs', L' = L → ny_Rl E K I' R s H' locs' k → W p l e Rm s m args below meth c H' locs' k n Q (F0 m (pc + 3) ls (S'.map (ny_v E)))) : W p l e Rm s m args below meth c H locs k n Q (F0 m pc ls (S.map (ny_v E))) := by
  obtain ⟨hx, hb, hr, hml, hown, hts, hlk, hin, hf1, hf2, hc, hs, ⟨hK, hN⟩, hX, hsz⟩ := C
  obtain ⟨hP, hS, hz⟩ := id hR
  obtain ⟨hfl, ha, hbk, hkind⟩ := ny_fl_of ho hok
  have hlink := hts _ hfl
  unfold ny_fl at hlink
  rw [hcn] at hlink
  have hcls := ny_cls_at a ha
  obtain ⟨-, hint, hboo⟩ := ny_fd_ok a ha (b / 3) hbk
  unfold ny_pf at h
  split at h
  next x o t =>
    have core : (∀ ty : FieldType, ny_ty a (b / 3) = ty → (ny_T a (b / 3)).2.2.2 = false → (ny_Ks.getD a []).getD (b / 3) 9 ≠ 1 → narrow ty (.int x) = .int x → fits ty (.int x) = true → ny_kd K o (0, a) = true → L' = L → S' = t → I' = ny_up I o (b / 3) x →
        W p l e Rm s m args below meth c H locs k n Q (F0 m pc ls ((Value.int x :: .ref o :: t).map (ny_v E)))) := by
      intro ty hty hfin hk1 hn hfit hkd hL hS' hI
      obtain ⟨h5, hws⟩ := ny_obj hP ha hkd
      rw [List.map_cons, List.map_cons, ny_ref h5]
      subst hL; subst hS'; subst hI
      refine va_put (ref := (ny_T a (b / 3)).1) hx hb hts (ny_lay hcls) (ny_ty a) (ny_ty_ok a ha) (fun i hi j hj => ny_nm_ok a ha i hi j hj) hown hK hP.2.2.2.2 (ny_ws_D E K I R) hS (o - 5) hws hcls (b / 3) hbk hlink (fun _ h9 => h9) hfin
        (ty := ty) (by rw [← hty]; exact ny_ty_ok a ha (b / 3) hbk) hn hfit (by rw [ny_fs_len]; exact hbk) hd (fun H1 locs1 hP1 hD1 hS1 => ?_)
      refine kk H1 locs1 rfl (ny_put hR h5 (of_decide_eq_true hkd) (ny_upn I o (b / 3) x) ?_ hP1 hS1)
      show Sum.inr (a, (ny_fs E a (I o) (R o)).set (b / 3) (.int x)) = Sum.inr (a, ny_fs E a (ny_up I o (b / 3) x o) (R o))
      rw [ny_upo, ny_fs_set E a (I o) (R o) hbk x hk1]
    split at h
    next hb3 =>
      injection h with h
      injection h with h1 h
      injection h with h2 h
      injection h with h3 h4
      have hk := hg _ h1.symm
      rw [Bool.and_eq_true] at hk
      rw [hb3] at hkind
      exact core .int (hint hkind).1 (hint hkind).2 (by rw [hkind]; decide) rfl rfl hk.1 h2.symm h3.symm h4.symm
    next hb3 =>
      injection h with h
      injection h with h1 h
      injection h with h2 h
      injection h with h3 h4
      have hk := hg _ h1.symm
      simp only [Bool.and_eq_true, Bool.or_eq_true, decide_eq_true_eq] at hk
      rw [hb3] at hkind
      have hb01 : narrow .boolean (.int x) = .int x ∧ fits .boolean (.int x) = true := by
        rcases hk.2 with rfl | rfl <;> exact ⟨by decide +kernel, by decide +kernel⟩
      exact core .boolean (hboo hkind).1 (hboo hkind).2 (by rw [hkind]; decide) hb01.1 hb01.2 hk.1.1 h2.symm h3.symm h4.symm
    next => cases h
  next => cases h
theorem ny_tys0 (E : ny_E) : (ny_tys E)[0]? = some (E.2.1 0, .int) := rfl
theorem ny_tys1 (E : ny_E) : (ny_tys E)[1]? = some (E.2.1 1, .byte) := rfl
theorem ny_k5_1 {E : ny_E} {o n : Nat} (h5 : o < 5) (h : (ny_k5 E)[o]? = some (1, n)) : (o = 0 ∧ n = ny_Ln E) ∨ (o = 1 ∧ n = 6) := by
  rcases ny_lt5 h5 with rfl | rfl | rfl | rfl | rfl <;> simp [ny_k5] at h
  · exact Or.inl ⟨rfl, h.symm⟩
  · exact Or.inr ⟨rfl, h.symm⟩
theorem ny_k5_2 {E : ny_E} {o n : Nat} (h5 : o < 5) (h : (ny_k5 E)[o]? = some (2, n)) : o = 3 ∧ n = 105 := by
  rcases ny_lt5 h5 with rfl | rfl | rfl | rfl | rfl <;> simp [ny_k5] at h
  exact ⟨rfl, h.symm⟩
theorem ny_w_iald {pc : Nat} {S' S : List Value} {L L' : ny_Lc} {I' : ny_I} {g : Option Bool} (C : ny_C E p s m args meth c y Rm d mc ms) (hR : ny_Rl E K I R s H locs k)
    (hd : decode y.2.1 pc = .ok (.iaload, 1)) (h : ny_iald L S I K = some (g, L', S', I')) (hg : ∀ b, g = some b → b = true)
    (kk : L' = L → I' = I → W p l e Rm s m args below meth c H locs k n Q (F0 m (pc + 1) ls (S'.map (ny_v E)))) : W p l e Rm s m args below meth c H locs k n Q (F0 m pc ls (S.map (ny_v E))) := by
  obtain ⟨hx, hb, hr, hml, hown, hts, hlk, hin, hf1, hf2, hc, hs, ⟨hK, hN⟩, hX, hsz⟩ := C
  obtain ⟨hP, hS, hz⟩ := hR
  unfold ny_iald at h
  split at h
  next j o t =>
    injection h with h
    injection h with h1 h
    injection h with h2 h
    injection h with h3 h4
    obtain ⟨nn, hk, hj⟩ := ny_ar_of (hg _ h1.symm)
    subst h2; subst h3; subst h4
    have kk := kk rfl rfl
    rcases Nat.lt_or_ge o 5 with h5 | h5
    · have hk2 := hk
      rw [ny_low hP h5] at hk2
      rcases ny_k5_1 h5 hk2 with ⟨rfl, rfl⟩ | ⟨rfl, rfl⟩
      · rw [List.map_cons, hP.2.1] at kk
        exact va_sld (A := ny_A E) hx hb hX.1 (Nat.lt_of_lt_of_le hX.2.1 hsz) (Nat.not_le.mpr hX.2.1) hS hj hd kk
      · rw [List.map_cons, hP.2.2.1] at kk
        exact va_ti hx hb hX.2.2.1 hS hj rfl hd kk
    · have hws := ny_ws_get E I R h5 hk
      rw [List.map_cons, List.map_cons, ny_ref h5]
      exact va_iald hx hb hK hP.2.2.2.2 (o - 5) 0 hws (ny_tys0 E) hj hd kk
  next => cases h
theorem ny_w_bald {pc : Nat} {S' S : List Value} {L L' : ny_Lc} {I' : ny_I} {g : Option Bool} (C : ny_C E p s m args meth c y Rm d mc ms) (hR : ny_Rl E K I R s H locs k)
    (hd : decode y.2.1 pc = .ok (.baload, 1)) (h : ny_bald L S I K = some (g, L', S', I')) (hg : ∀ b, g = some b → b = true)
    (kk : L' = L → I' = I → W p l e Rm s m args below meth c H locs k n Q (F0 m (pc + 1) ls (S'.map (ny_v E)))) : W p l e Rm s m args below meth c H locs k n Q (F0 m pc ls (S.map (ny_v E))) := by
  obtain ⟨hx, hb, hr, hml, hown, hts, hlk, hin, hf1, hf2, hc, hs, ⟨hK, hN⟩, hX, hsz⟩ := C
  obtain ⟨hP, hS, hz⟩ := hR
  unfold ny_bald at h
  split at h
  next j o t =>
    injection h with h
    injection h with h1 h
    injection h with h2 h
    injection h with h3 h4
    obtain ⟨nn, hk, hj⟩ := ny_ar_of (hg _ h1.symm)
    subst h2; subst h3; subst h4
    have kk := kk rfl rfl
    rcases Nat.lt_or_ge o 5 with h5 | h5
    · have hk2 := hk
      rw [ny_low hP h5] at hk2
      obtain ⟨rfl, rfl⟩ := ny_k5_2 h5 hk2
      rw [List.map_cons, hP.2.2.2.1.2.1] at kk
      have hsv := (hX.2.2.2.2.2.2.2).1 0 (by decide)
      exact va_tb (N := 105) hx hb hsv.2.2.2 hS hj rfl hd kk
    · have hws := ny_ws_get E I R h5 hk
      rw [List.map_cons, List.map_cons, ny_ref h5]
      exact va_bald hx hb hK hP.2.2.2.2 (o - 5) 1 hws (ny_tys1 E) hj hd kk
  next => cases h
theorem ny_aw_of {t o : Nat} {j : Int32} (h : ny_aw K t o j = true) : 5 ≤ o ∧ ∃ n, K[o]? = some (t, n) ∧ vp_in j n := by
  unfold ny_aw at h
  simp only [Bool.and_eq_true, decide_eq_true_eq] at h
  exact ⟨h.2, ny_ar_of h.1⟩
theorem ny_w_iast {pc : Nat} {S' S : List Value} {L L' : ny_Lc} {I' : ny_I} {g : Option Bool} (C : ny_C E p s m args meth c y Rm d mc ms) (hR : ny_Rl E K I R s H locs k)
    (hd : decode y.2.1 pc = .ok (.iastore, 1)) (h : ny_iast L S I K = some (g, L', S', I')) (hg : ∀ b, g = some b → b = true)
    (kk : ∀ H' locs', L' = L → ny_Rl E K I' R s H' locs' k → W p l e Rm s m args below meth c H' locs' k n Q (F0 m (pc + 1) ls (S'.map (ny_v E)))) : W p l e Rm s m args below meth c H locs k n Q (F0 m pc ls (S.map (ny_v E))) := by
  obtain ⟨hx, hb, hr, hml, hown, hts, hlk, hin, hf1, hf2, hc, hs, ⟨hK, hN⟩, hX, hsz⟩ := C
  obtain ⟨hP, hS, hz⟩ := id hR
  unfold ny_iast at h
  split at h
  next x j o t =>
    injection h with h
    injection h with h1 h
    injection h with h2 h
    injection h with h3 h4
    obtain ⟨h5, nn, hk, hj⟩ := ny_aw_of (hg _ h1.symm)
    subst h2; subst h3; subst h4
    have hws := ny_ws_get E I R h5 hk
    rw [List.map_cons, List.map_cons, List.map_cons, ny_ref h5]
    refine va_iast hx hb hK hP.2.2.2.2 (ny_ws_D E K I R) hS (o - 5) 0 hws (ny_tys0 E) hj hd (fun H1 locs1 hP1 hD1 hS1 => ?_)
    refine kk H1 locs1 rfl (ny_put hR h5 hk (ny_upn I o j.toNatClampNeg x) ?_ hP1 hS1)
    rw [ny_upo]
    rfl
  next => cases h
theorem ny_w_bast {pc : Nat} {S' S : List Value} {L L' : ny_Lc} {I' : ny_I} {g : Option Bool} (C : ny_C E p s m args meth c y Rm d mc ms) (hR : ny_Rl E K I R s H locs k)
    (hd : decode y.2.1 pc = .ok (.bastore, 1)) (h : ny_bast L S I K = some (g, L', S', I')) (hg : ∀ b, g = some b → b = true)
    (kk : ∀ H' locs', L' = L → ny_Rl E K I' R s H' locs' k → W p l e Rm s m args below meth c H' locs' k n Q (F0 m (pc + 1) ls (S'.map (ny_v E)))) : W p l e Rm s m args below meth c H locs k n Q (F0 m pc ls (S.map (ny_v E))) := by
  obtain ⟨hx, hb, hr, hml, hown, hts, hlk, hin, hf1, hf2, hc, hs, ⟨hK, hN⟩, hX, hsz⟩ := C
  obtain ⟨hP, hS, hz⟩ := id hR
  unfold ny_bast at h
  split at h
  next x j o t =>
    injection h with h
    injection h with h1 h
    injection h with h2 h
    injection h with h3 h4
    obtain ⟨h5, nn, hk, hj⟩ := ny_aw_of (hg _ h1.symm)
    subst h2; subst h3; subst h4
    have hws := ny_ws_get E I R h5 hk
    rw [List.map_cons, List.map_cons, List.map_cons, ny_ref h5]
    refine va_bast hx hb hK hP.2.2.2.2 (ny_ws_D E K I R) hS (o - 5) 1 hws (ny_tys1 E) hj hd (fun H1 locs1 hP1 hD1 hS1 => ?_)
    refine kk H1 locs1 rfl (ny_put hR h5 hk (ny_upn I o j.toNatClampNeg x.toInt8.toInt32) ?_ hP1 hS1)
    rw [ny_upo, vp_nar_byte]
    rfl
  next => cases h
theorem ny_ra_of {o : Nat} {j : Int32} (h : ny_ra K o j = true) : ∃ t n, t < 4 ∧ K[o]? = some (t + 3, n) ∧ vp_in j n := by
  unfold ny_ra at h
  split at h
  next q hq =>
    simp only [Bool.and_eq_true, decide_eq_true_eq] at h
    refine ⟨q.1 - 3, q.2, by omega, ?_, ny_in_of h.2⟩
    rw [hq, show q.1 - 3 + 3 = q.1 by omega]
  next => cases h
theorem ny_tysr (E : ny_E) : ∀ t, t < 4 → ∃ ty : FieldType, (ny_tys E)[t + 2]? = some (E.2.1 (t + 2), ty) ∧ ty.isReference = true := by
  intro t ht
  match t, ht with
  | 0, _ => exact ⟨_, rfl, rfl⟩
  | 1, _ => exact ⟨_, rfl, rfl⟩
  | 2, _ => exact ⟨_, rfl, rfl⟩
  | 3, _ => exact ⟨_, rfl, rfl⟩
theorem ny_w_aald {pc : Nat} {S' S : List Value} {L L' : ny_Lc} {I' : ny_I} {g : Option Bool} (C : ny_C E p s m args meth c y Rm d mc ms) (hR : ny_Rl E K I R s H locs k)
    (hd : decode y.2.1 pc = .ok (.aaload, 1)) (h : ny_aald L S I K R = some (g, L', S', I')) (hg : ∀ b, g = some b → b = true)
    (kk : L' = L → I' = I → W p l e Rm s m args below meth c H locs k n Q (F0 m (pc + 1) ls (S'.map (ny_v E)))) : W p l e Rm s m args below meth c H locs k n Q (F0 m pc ls (S.map (ny_v E))) := by
  obtain ⟨hx, hb, hr, hml, hown, hts, hlk, hin, hf1, hf2, hc, hs, ⟨hK, hN⟩, hX, hsz⟩ := C
  obtain ⟨hP, hS, hz⟩ := hR
  unfold ny_aald at h
  split at h
  next j o t =>
    injection h with h
    injection h with h1 h
    injection h with h2 h
    injection h with h3 h4
    have hg2 := hg _ h1.symm
    rw [Bool.and_eq_true] at hg2
    obtain ⟨tt, nn, ht4, hk, hj⟩ := ny_ra_of hg2.1
    obtain ⟨z, hz2, hz4⟩ := ny_rs_of hg2.2
    subst h2; subst h3; subst h4
    have kk := kk rfl rfl
    rcases Nat.lt_or_ge o 5 with h5 | h5
    · exfalso
      rw [ny_low hP h5] at hk
      rcases ny_lt5 h5 with rfl | rfl | rfl | rfl | rfl <;> simp [ny_k5] at hk
      omega
    · have hws := ny_ws_get E I R h5 hk
      rw [List.map_cons, List.map_cons, ny_ref h5]
      rw [List.map_cons, hz2, show ny_v E (.ref ((some z).getD 0)) = .ref (ny_ph E z) from ny_refs hz4] at kk
      obtain ⟨ty, hty, hty2⟩ := ny_tysr E tt ht4
      have hlt : j.toNatClampNeg < nn := Nat.not_le.mp fun q => hj (Or.inr q)
      have hcell := hP.2.2.2.2 _ _ hws
      refine W.aald (v := .ref (ny_ph E z)) (ty := ty) hx hb hcell ((hK.2 (tt + 2) _ hty).1 nn (fun j => va_rf ((R o j).map (ny_ph E)))) hty2 (fun q => by cases q) (by show ¬ (j < 0 ∨ (arrV _ _ _).slots.size ≤ _); rw [arrV_size]; exact hj) ?_ rfl rfl hd kk
      show (arrV _ _ _).slots[_]? = _
      rw [arrV_read _ _ hlt]
      show some (va_rf ((R o j.toNatClampNeg).map (ny_ph E))) = _
      rw [hz2]
      rfl
  next => cases h
theorem ny_w_alen {pc : Nat} {S' S : List Value} {L L' : ny_Lc} {I' : ny_I} {g : Option Bool} (C : ny_C E p s m args meth c y Rm d mc ms) (hR : ny_Rl E K I R s H locs k)
    (hd : decode y.2.1 pc = .ok (.arraylength, 1)) (h : ny_alen L S I K = some (g, L', S', I')) (hg : ∀ b, g = some b → b = true)
    (kk : L' = L → I' = I → W p l e Rm s m args below meth c H locs k n Q (F0 m (pc + 1) ls (S'.map (ny_v E)))) : W p l e Rm s m args below meth c H locs k n Q (F0 m pc ls (S.map (ny_v E))) := by
  obtain ⟨hx, hb, hr, hml, hown, hts, hlk, hin, hf1, hf2, hc, hs, ⟨hK, hN⟩, hX, hsz⟩ := C
  obtain ⟨hP, hS, hz⟩ := hR
  unfold ny_alen at h
  split at h
  next o t =>
    injection h with h
    injection h with h1 h
    injection h with h2 h
    injection h with h3 h4
    have hg2 := hg _ h1.symm
    subst h2; subst h3; subst h4
    have kk := kk rfl rfl
    unfold ny_la at hg2
    split at hg2
    next q hq =>
      have hln : ny_ln K o = q.2 := by
        unfold ny_ln
        rw [List.getD_eq_getElem?_getD, hq]
        rfl
      rw [List.map_cons, hln] at kk
      obtain ⟨q1, q2⟩ := q
      simp only [Bool.or_eq_true, decide_eq_true_eq] at hg2
      rcases Nat.lt_or_ge o 5 with h5 | h5
      · have hk2 := hq
        rw [ny_low hP h5] at hk2
        rcases hg2 with rfl | rfl
        · rcases ny_k5_1 h5 hk2 with ⟨rfl, rfl⟩ | ⟨rfl, rfl⟩
          · exact va_slen (A := ny_A E) hx hb hX.1 (Nat.lt_of_lt_of_le hX.2.1 hsz) (Nat.not_le.mpr hX.2.1) hS hd kk
          · exact va_tlen hx hb hX.2.2.1 hS rfl hd kk
        · obtain ⟨rfl, rfl⟩ := ny_k5_2 h5 hk2
          have hsv := (hX.2.2.2.2.2.2.2).1 0 (by decide)
          exact va_tlen (N := 105) hx hb hsv.2.2.2 hS rfl hd kk
      · have hws := ny_ws_get E I R h5 hq
        rw [List.map_cons, ny_ref h5]
        rcases hg2 with rfl | rfl
        · exact va_alen hx hb hK hP.2.2.2.2 (o - 5) 0 hws (ny_tys0 E) rfl hd kk
        · exact va_alen hx hb hK hP.2.2.2.2 (o - 5) 1 hws (ny_tys1 E) rfl hd kk
    next => cases hg2
  next => cases h
end NYX
end
section
theorem ny_catsum (E : ny_E) (t : List Value) : (((t.map (ny_v E)).map fun v => v.category)).sum ≤ 2 * t.length := by
  induction t with
  | nil => exact Nat.le_refl _
  | cons v t ih =>
    rw [List.map_cons, List.map_cons, List.sum_cons, List.length_cons]
    have h : (ny_v E v).category ≤ 2 := by rcases lv_cat (ny_v E v) with h | h <;> omega
    omega
theorem ny_cb_of {K : ny_K} {s d : Nat} {sp dp n : Int32} (h : ny_cb K s d sp dp n = true) : 5 ≤ s ∧ 5 ≤ d ∧ s ≠ d ∧ K[s]? = some (1, ny_ln K s) ∧ K[d]? = some (1, ny_ln K d) ∧
    ¬ sp < 0 ∧ ¬ dp < 0 ∧ ¬ n < 0 ∧ sp.toNatClampNeg + n.toNatClampNeg ≤ ny_ln K s ∧ dp.toNatClampNeg + n.toNatClampNeg ≤ ny_ln K d := by
  simp only [ny_cb, Bool.and_eq_true, Bool.not_eq_true', decide_eq_true_eq, decide_eq_false_iff_not] at h
  obtain ⟨⟨⟨⟨⟨⟨⟨⟨⟨h1, h2⟩, h3⟩, h4⟩, h5⟩, h6⟩, h7⟩, h8⟩, h9⟩, h10⟩ := h
  have key : ∀ o : Nat, (K.getD o (0, 0)).1 = 1 → K[o]? = some (1, ny_ln K o) := by
    intro o ho
    unfold ny_ln
    rw [List.getD_eq_getElem?_getD] at ho ⊢
    cases hk : K[o]? with
    | none => rw [hk] at ho; cases ho
    | some q => rw [hk] at ho; obtain ⟨a, b⟩ := q; cases ho; rfl
  exact ⟨h1, h2, h3, key s h4, key d h5, h6, h7, h8, h9, h10⟩
theorem ny_cpo (I : ny_I) (d s sp dp n : Nat) : ny_cp I d s sp dp n d = va_cpy (I s) (I d) sp dp n := if_pos rfl
theorem ny_cpn (I : ny_I) (d s sp dp n : Nat) : ∀ c, c ≠ d → ny_cp I d s sp dp n c = I c := fun _ h => if_neg h
section NYB
variable {p : Program} {l : Launch} {e : Env} {Rm : Room} {s : State} {m : MethodId} {args : Array Value} {below : List Frame} {meth : Method} {c : Code} {H : Heap} {locs : List Loc} {ls : Array Slot} {Q : State → Prop} {E : ny_E} {d mc ms k n : Nat} {K : ny_K} {R : ny_R} {I : ny_I} {y : ny_M}
theorem ny_w_inv {index a pc : Nat} {S' S : List Value} {L L' : ny_Lc} {I' : ny_I} {g : Option Bool} (C : ny_C E p s m args meth c y Rm d mc ms) (hR : ny_Rl E K I R s H locs k) (hls : ls.size = y.2.2.1) (hkm : k ≤ mc) (hnm : n ≤ ms)
    (hok : (match a with
      | 0 => true
      | 1 => ny_mem (.methodLink y.1.cls index Lib.Math.max.name)
      | 2 => ny_mem (.methodLink y.1.cls index Lib.Math.min.name)
      | 3 => ny_mem (.methodLink y.1.cls index Lib.Math.abs.name)
      | 4 => ny_mem (.methodLink y.1.cls index arraycopyName)
      | _ => false) = true)
    (hd : decode y.2.1 pc = .ok (.invokestatic index, 3)) (h : ny_inv L S I K a = some (g, L', S', I')) (hg : ∀ b, g = some b → b = true)
    (kk : ∀ H' locs', L' = L → ny_Rl E K I' R s H' locs' k → W p l e Rm s m args below meth c H' locs' k n Q (F0 m (pc + 3) ls (S'.map (ny_v E)))) : W p l e Rm s m args below meth c H locs k n Q (F0 m pc ls (S.map (ny_v E))) := by
  obtain ⟨hx, hb, hr, hml, hown, hts, hlk, hin, hf1, hf2, hc, hs, ⟨hK, hN⟩, hX, hsz⟩ := C
  unfold ny_inv at h
  split at h
  · split at h
    next yv xv t =>
      split at h
      next hb8 =>
        have hb8 : t.length ≤ 8 := Nat.le_of_ble_eq_true hb8
        have hcs := ny_catsum E t
        injection h with h
        injection h with h1 h
        injection h with h2 h
        injection h with h3 h4
        subst h2; subst h3; subst h4
        refine va_mmax hx hb (by rw [hml, hls]) hown (hts _ (ny_mem_tb hok)) (hts _ (ny_mem_tb (by decide +kernel))) (hts _ (ny_mem_tb (by decide +kernel))) (hts _ (ny_mem_tb (by decide +kernel))) (by omega) (by omega) (by omega) (by omega) hd (kk _ _ rfl hR)
      next => cases h
    next => cases h
  · split at h
    next yv xv t =>
      split at h
      next hb8 =>
        have hb8 : t.length ≤ 8 := Nat.le_of_ble_eq_true hb8
        have hcs := ny_catsum E t
        injection h with h
        injection h with h1 h
        injection h with h2 h
        injection h with h3 h4
        subst h2; subst h3; subst h4
        refine va_mmin hx hb (by rw [hml, hls]) hown (hts _ (ny_mem_tb hok)) (hts _ (ny_mem_tb (by decide +kernel))) (hts _ (ny_mem_tb (by decide +kernel))) (hts _ (ny_mem_tb (by decide +kernel))) (by omega) (by omega) (by omega) (by omega) hd (kk _ _ rfl hR)
      next => cases h
    next => cases h
  · split at h
    next xv t =>
      split at h
      next hb8 =>
        have hb8 : t.length ≤ 8 := Nat.le_of_ble_eq_true hb8
        have hcs := ny_catsum E t
        injection h with h
        injection h with h1 h
        injection h with h2 h
        injection h with h3 h4
        subst h2; subst h3; subst h4
        refine va_mabs hx hb (by rw [hml, hls]) hown (hts _ (ny_mem_tb hok)) (hts _ (ny_mem_tb (by decide +kernel))) (hts _ (ny_mem_tb (by decide +kernel))) (hts _ (ny_mem_tb (by decide +kernel))) (by omega) (by omega) (by omega) (by omega) hd (kk _ _ rfl hR)
      next => cases h
    next => cases h
  · split at h
    next nv dp dd sp ss t =>
      split at h
      next hb8 =>
        have hb8 : t.length ≤ 8 := Nat.le_of_ble_eq_true hb8
        have hcs := ny_catsum E t
        injection h with h
        injection h with h1 h
        injection h with h2 h
        injection h with h3 h4
        obtain ⟨g1, g2, g3, g4, g5, g6, g7, g8, g9, g10⟩ := ny_cb_of (hg _ h1.symm)
        subst h2; subst h3; subst h4
        obtain ⟨hP, hS, hz⟩ := id hR
        have w1 := ny_ws_get E I R g1 g4
        have w2 := ny_ws_get E I R g2 g5
        rw [List.map_cons, List.map_cons, List.map_cons, List.map_cons, List.map_cons, ny_ref g1, ny_ref g2]
        refine va_copyi (ty := .int) hx hb (by rw [hml, hls]) hown (hts _ (ny_mem_tb hok)) (hts _ (ny_mem_tb (by decide +kernel))) (hts _ (ny_mem_tb (by decide +kernel))) (hts _ (ny_mem_tb (by decide +kernel))) hK hP.2.2.2.2 (ny_ws_D E K I R) hS (ss - 5) (dd - 5) 0 0 w1 w2 (ny_tys0 E) (ny_tys0 E) rfl g6 g7 g8 g9 g10 (fun _ _ => rfl) (by omega) ?_ hd (fun H1 locs1 hP1 hD1 hS1 => ?_)
        · have e : nativeFrameWords "java/lang/System" "arraycopy" 5 = 7 := by decide +kernel
          rw [e]
          omega
        · refine kk H1 locs1 rfl (ny_put hR g2 g5 (ny_cpn I dd ss _ _ _) ?_ hP1 hS1)
          rw [ny_cpo]
          rfl
      next => cases h
    next => cases h
  · cases h
end NYB
end
section
/-! every instruction of the memory is one of the machine -/
section NYIV
variable {p : Program} {l : Launch} {e : Env} {Rm : Room} {s : State} {m : MethodId} {args : Array Value} {below : List Frame} {meth : Method} {c : Code} {H : Heap} {locs : List Loc} {ls : Array Slot} {Q : State → Prop} {E : ny_E} {d mc ms k n : Nat} {K : ny_K} {R : ny_R} {I I' : ny_I} {y : ny_M} {L L' : ny_Lc} {S S' : List Value} {g : Option Bool}
theorem ny_ldI_iv {i : Nat} (h : ny_ldI L S I i = some (g, L', S', I')) : ∃ x, ny_lk L i = some (.int x) ∧ g = none ∧ L' = L ∧ S' = .int x :: S ∧ I' = I := by
  unfold ny_ldI at h
  split at h
  next x hx => cases h; exact ⟨_, hx, rfl, rfl, rfl, rfl⟩
  all_goals cases h
theorem ny_ldL_iv {i : Nat} (h : ny_ldL L S I i = some (g, L', S', I')) : ∃ x, ny_lk L i = some (.long x) ∧ g = none ∧ L' = L ∧ S' = .long x :: S ∧ I' = I := by
  unfold ny_ldL at h
  split at h
  next x hx => cases h; exact ⟨_, hx, rfl, rfl, rfl, rfl⟩
  all_goals cases h
theorem ny_ldA_iv {i : Nat} (h : ny_ldA L S I i = some (g, L', S', I')) : ∃ x, ny_lk L i = some (.ref x) ∧ g = none ∧ L' = L ∧ S' = .ref x :: S ∧ I' = I := by
  unfold ny_ldA at h
  split at h
  next x hx => cases h; exact ⟨_, hx, rfl, rfl, rfl, rfl⟩
  all_goals cases h
theorem ny_siI_iv {i : Nat} (h : ny_siI L S I i = some (g, L', S', I')) : ∃ x t, S = .int x :: t ∧ g = none ∧ L' = ny_st L i (.int x) ∧ S' = t ∧ I' = I := by
  unfold ny_siI at h
  split at h
  next => cases h; exact ⟨_, _, rfl, rfl, rfl, rfl, rfl⟩
  all_goals cases h
theorem ny_siL_iv {i : Nat} (h : ny_siL L S I i = some (g, L', S', I')) : ∃ x t, S = .long x :: t ∧ g = none ∧ L' = ny_st2 L i (.long x) ∧ S' = t ∧ I' = I := by
  unfold ny_siL at h
  split at h
  next => cases h; exact ⟨_, _, rfl, rfl, rfl, rfl, rfl⟩
  all_goals cases h
theorem ny_siA_iv {i : Nat} (h : ny_siA L S I i = some (g, L', S', I')) : ∃ x t, S = .ref x :: t ∧ g = none ∧ L' = ny_st L i (.ref x) ∧ S' = t ∧ I' = I := by
  unfold ny_siA at h
  split at h
  next => cases h; exact ⟨_, _, rfl, rfl, rfl, rfl, rfl⟩
  all_goals cases h
theorem ny_i2_iv {f : Int32 → Int32 → Int32} (h : ny_i2 L S I f = some (g, L', S', I')) : ∃ x y t, S = .int y :: .int x :: t ∧ g = none ∧ L' = L ∧ S' = .int (f x y) :: t ∧ I' = I := by
  unfold ny_i2 at h
  split at h
  next => cases h; exact ⟨_, _, _, rfl, rfl, rfl, rfl, rfl⟩
  all_goals cases h
theorem ny_i2g_iv {f : Int32 → Int32 → Int32} (h : ny_i2g L S I f = some (g, L', S', I')) : ∃ x y t, S = .int y :: .int x :: t ∧ g = some (!(decide (y = 0))) ∧ L' = L ∧ S' = .int (f x y) :: t ∧ I' = I := by
  unfold ny_i2g at h
  split at h
  next => cases h; exact ⟨_, _, _, rfl, rfl, rfl, rfl, rfl⟩
  all_goals cases h
theorem ny_i1_iv {f : Int32 → Int32} (h : ny_i1 L S I f = some (g, L', S', I')) : ∃ x t, S = .int x :: t ∧ g = none ∧ L' = L ∧ S' = .int (f x) :: t ∧ I' = I := by
  unfold ny_i1 at h
  split at h
  next => cases h; exact ⟨_, _, rfl, rfl, rfl, rfl, rfl⟩
  all_goals cases h
theorem ny_l2_iv {f : Int64 → Int64 → Int64} (h : ny_l2 L S I f = some (g, L', S', I')) : ∃ x y t, S = .long y :: .long x :: t ∧ g = none ∧ L' = L ∧ S' = .long (f x y) :: t ∧ I' = I := by
  unfold ny_l2 at h
  split at h
  next => cases h; exact ⟨_, _, _, rfl, rfl, rfl, rfl, rfl⟩
  all_goals cases h
theorem ny_l2g_iv {f : Int64 → Int64 → Int64} (h : ny_l2g L S I f = some (g, L', S', I')) : ∃ x y t, S = .long y :: .long x :: t ∧ g = some (!(decide (y = 0))) ∧ L' = L ∧ S' = .long (f x y) :: t ∧ I' = I := by
  unfold ny_l2g at h
  split at h
  next => cases h; exact ⟨_, _, _, rfl, rfl, rfl, rfl, rfl⟩
  all_goals cases h
theorem ny_li_iv {f : Int64 → Int32 → Int64} (h : ny_li L S I f = some (g, L', S', I')) : ∃ x y t, S = .int y :: .long x :: t ∧ g = none ∧ L' = L ∧ S' = .long (f x y) :: t ∧ I' = I := by
  unfold ny_li at h
  split at h
  next => cases h; exact ⟨_, _, _, rfl, rfl, rfl, rfl, rfl⟩
  all_goals cases h
end NYIV
section NYOK
variable {p : Program} {l : Launch} {e : Env} {Rm : Room} {s : State} {m : MethodId} {args : Array Value} {below : List Frame} {meth : Method} {c : Code} {H : Heap} {locs : List Loc} {ls : Array Slot} {Q : State → Prop} {E : ny_E} {d mc ms k n : Nat} {K : ny_K} {R : ny_R} {I I' : ny_I} {y : ny_M} {L L' : ny_Lc} {S S' : List Value} {g : Option Bool}
set_option maxHeartbeats 4000000 in
theorem ny_stp_ok {own : Nat} (hy : ny_chk own y = true) (C : ny_C E p s m args meth c y Rm d mc ms) {q : ny_Op} (hq : q ∈ y.2.2.2.2.2) (h : ny_stp q K R L S I = some (g, L', S', I')) (hg : ∀ b, g = some b → b = true)
    (hkm : k ≤ mc) (hnm : n ≤ ms) (hR : ny_Rl E K I R s H locs k) (hl : lv_has ls y.2.2.1 (L.map (ny_lv E)))
    (kk : ∀ H' locs' ls', ny_Rl E K I' R s H' locs' k → lv_has ls' y.2.2.1 (L'.map (ny_lv E)) → W p l e Rm s m args below meth c H' locs' k n Q (F0 m (q.1 + q.2.1) ls' (S'.map (ny_v E)))) :
    W p l e Rm s m args below meth c H locs k n Q (F0 m q.1 ls (S.map (ny_v E))) := by
  obtain ⟨pc, len, ins, a, b, v, w⟩ := q
  unfold ny_chk at hy
  simp only [Bool.and_eq_true, decide_eq_true_eq] at hy
  obtain ⟨⟨hcn, ho⟩, hall⟩ := hy
  have hq2 := List.all_eq_true.mp hall _ hq
  simp only [Bool.and_eq_true, decide_eq_true_eq] at hq2
  obtain ⟨hd0, hok0⟩ := hq2
  unfold ny_okp at hok0
  rw [Bool.and_eq_true] at hok0
  obtain ⟨hlen0, hok⟩ := hok0
  have hlen := of_decide_eq_true hlen0
  clear hlen0
  obtain ⟨hx, hb, hr, hml, hown, hts, hlk, hin, hf1, hf2, hc, hs, ⟨hK, hN⟩, hX, hsz⟩ := id C
  have hd : decode y.2.1 pc = .ok (ins, len) := hd0
  clear hd0 hall
  cases ins
  case iload i =>
    obtain rfl : len = 2 := hlen.resolve_right (fun z => absurd (show (2 : Nat) = 0 from z) (by decide))
    obtain ⟨x, e1, rfl, rfl, rfl, rfl⟩ := ny_ldI_iv h
    exact lv_iload hx hb hd (ny_lk_has hl e1) (kk H locs ls hR hl)
  case iload_n i =>
    obtain rfl : len = 1 := hlen.resolve_right (fun z => absurd (show (1 : Nat) = 0 from z) (by decide))
    obtain ⟨x, e1, rfl, rfl, rfl, rfl⟩ := ny_ldI_iv h
    exact lv_iload_n hx hb hd rfl (ny_lk_has hl e1) (kk H locs ls hR hl)
  case lload i =>
    obtain rfl : len = 2 := hlen.resolve_right (fun z => absurd (show (2 : Nat) = 0 from z) (by decide))
    obtain ⟨x, e1, rfl, rfl, rfl, rfl⟩ := ny_ldL_iv h
    exact lv_lload hx hb hd (ny_lk_has hl e1) (kk H locs ls hR hl)
  case lload_n i =>
    obtain rfl : len = 1 := hlen.resolve_right (fun z => absurd (show (1 : Nat) = 0 from z) (by decide))
    obtain ⟨x, e1, rfl, rfl, rfl, rfl⟩ := ny_ldL_iv h
    exact lv_lload_n hx hb hd rfl (ny_lk_has hl e1) (kk H locs ls hR hl)
  case aload i =>
    obtain rfl : len = 2 := hlen.resolve_right (fun z => absurd (show (2 : Nat) = 0 from z) (by decide))
    obtain ⟨x, e1, rfl, rfl, rfl, rfl⟩ := ny_ldA_iv h
    have e2 := ny_lk_has hl e1
    have kk := kk H locs ls hR hl
    rw [List.map_cons] at kk
    by_cases h4 : x = 4
    · subst h4; cases hf : ny_fm E with
      | none => rw [show ny_v E (.ref 4) = .null by show va_rf (ny_fm E) = _; rw [hf]; rfl] at e2 kk; exact lv_aloadN hx hb hd e2 kk
      | some z => rw [show ny_v E (.ref 4) = .ref z by show va_rf (ny_fm E) = _; rw [hf]; rfl] at e2 kk; exact lv_aload hx hb hd e2 kk
    · rw [ny_refs h4] at e2 kk; exact lv_aload hx hb hd e2 kk
  case aload_n i =>
    obtain rfl : len = 1 := hlen.resolve_right (fun z => absurd (show (1 : Nat) = 0 from z) (by decide))
    obtain ⟨x, e1, rfl, rfl, rfl, rfl⟩ := ny_ldA_iv h
    have e2 := ny_lk_has hl e1
    have kk := kk H locs ls hR hl
    rw [List.map_cons] at kk
    by_cases h4 : x = 4
    · subst h4; cases hf : ny_fm E with
      | none => rw [show ny_v E (.ref 4) = .null by show va_rf (ny_fm E) = _; rw [hf]; rfl] at e2 kk; exact lv_aload_nN hx hb hd rfl e2 kk
      | some z => rw [show ny_v E (.ref 4) = .ref z by show va_rf (ny_fm E) = _; rw [hf]; rfl] at e2 kk; exact lv_aload_n hx hb hd rfl e2 kk
    · rw [ny_refs h4] at e2 kk; exact lv_aload_n hx hb hd rfl e2 kk
  case istore i =>
    obtain rfl : len = 2 := hlen.resolve_right (fun z => absurd (show (2 : Nat) = 0 from z) (by decide))
    obtain ⟨x, t, rfl, rfl, rfl, rfl, rfl⟩ := ny_siI_iv h
    exact lv_istore hx hb hd hl (of_decide_eq_true hok) rfl (fun ls2 hl2 => kk H locs ls2 hR (ny_st_has hl2))
  case istore_n i =>
    obtain rfl : len = 1 := hlen.resolve_right (fun z => absurd (show (1 : Nat) = 0 from z) (by decide))
    obtain ⟨x, t, rfl, rfl, rfl, rfl, rfl⟩ := ny_siI_iv h
    exact lv_istore_n hx hb hd rfl hl (of_decide_eq_true hok) rfl (fun ls2 hl2 => kk H locs ls2 hR (ny_st_has hl2))
  case lstore i =>
    obtain rfl : len = 2 := hlen.resolve_right (fun z => absurd (show (2 : Nat) = 0 from z) (by decide))
    obtain ⟨x, t, rfl, rfl, rfl, rfl, rfl⟩ := ny_siL_iv h
    exact lv_lstore hx hb hd hl (of_decide_eq_true hok) rfl (fun ls2 hl2 => kk H locs ls2 hR (ny_st2_has hl2))
  case lstore_n i =>
    obtain rfl : len = 1 := hlen.resolve_right (fun z => absurd (show (1 : Nat) = 0 from z) (by decide))
    obtain ⟨x, t, rfl, rfl, rfl, rfl, rfl⟩ := ny_siL_iv h
    exact lv_lstore_n hx hb hd rfl hl (of_decide_eq_true hok) rfl (fun ls2 hl2 => kk H locs ls2 hR (ny_st2_has hl2))
  case astore i =>
    obtain rfl : len = 2 := hlen.resolve_right (fun z => absurd (show (2 : Nat) = 0 from z) (by decide))
    obtain ⟨x, t, rfl, rfl, rfl, rfl, rfl⟩ := ny_siA_iv h
    by_cases h4 : x = 4
    · subst h4; cases hf : ny_fm E with
      | none => rw [List.map_cons, show ny_v E (.ref 4) = .null by show va_rf (ny_fm E) = _; rw [hf]; rfl]; exact lv_astoreN hx hb hd hl (of_decide_eq_true hok) rfl (fun ls2 hl2 => kk H locs ls2 hR (ny_st_has (v := .ref 4) (by rw [show ny_v E (.ref 4) = .null by show va_rf (ny_fm E) = _; rw [hf]; rfl]; exact hl2)))
      | some z => rw [List.map_cons, show ny_v E (.ref 4) = .ref z by show va_rf (ny_fm E) = _; rw [hf]; rfl]; exact lv_astore hx hb hd hl (of_decide_eq_true hok) rfl (fun ls2 hl2 => kk H locs ls2 hR (ny_st_has (v := .ref 4) (by rw [show ny_v E (.ref 4) = .ref z by show va_rf (ny_fm E) = _; rw [hf]; rfl]; exact hl2)))
    · rw [List.map_cons, ny_refs h4]; exact lv_astore hx hb hd hl (of_decide_eq_true hok) rfl (fun ls2 hl2 => kk H locs ls2 hR (ny_st_has (v := .ref x) (by rw [ny_refs h4]; exact hl2)))
  case astore_n i =>
    obtain rfl : len = 1 := hlen.resolve_right (fun z => absurd (show (1 : Nat) = 0 from z) (by decide))
    obtain ⟨x, t, rfl, rfl, rfl, rfl, rfl⟩ := ny_siA_iv h
    by_cases h4 : x = 4
    · subst h4; cases hf : ny_fm E with
      | none => rw [List.map_cons, show ny_v E (.ref 4) = .null by show va_rf (ny_fm E) = _; rw [hf]; rfl]; exact lv_astore_nN hx hb hd rfl hl (of_decide_eq_true hok) rfl (fun ls2 hl2 => kk H locs ls2 hR (ny_st_has (v := .ref 4) (by rw [show ny_v E (.ref 4) = .null by show va_rf (ny_fm E) = _; rw [hf]; rfl]; exact hl2)))
      | some z => rw [List.map_cons, show ny_v E (.ref 4) = .ref z by show va_rf (ny_fm E) = _; rw [hf]; rfl]; exact lv_astore_n hx hb hd rfl hl (of_decide_eq_true hok) rfl (fun ls2 hl2 => kk H locs ls2 hR (ny_st_has (v := .ref 4) (by rw [show ny_v E (.ref 4) = .ref z by show va_rf (ny_fm E) = _; rw [hf]; rfl]; exact hl2)))
    · rw [List.map_cons, ny_refs h4]; exact lv_astore_n hx hb hd rfl hl (of_decide_eq_true hok) rfl (fun ls2 hl2 => kk H locs ls2 hR (ny_st_has (v := .ref x) (by rw [ny_refs h4]; exact hl2)))
  case iinc i nn =>
    obtain rfl : len = 3 := hlen.resolve_right (fun z => absurd (show (3 : Nat) = 0 from z) (by decide))
    have h : (match (generalizing := false) ny_lk L i with | some (Value.int x) => some (none, ny_st L i (Value.int (x + v)), S, I) | _ => none) = some (g, L', S', I') := h
    simp only [Bool.and_eq_true, decide_eq_true_eq] at hok
    split at h
    next x hx2 =>
      cases h
      have hm := ny_lk_has hl hx2
      obtain ⟨kp, hkp⟩ : ∃ kp, (L.map (ny_lv E))[kp]? = some (i, Value.int x) := List.getElem?_of_mem (List.mem_map.mpr ⟨(i, Value.int x), ny_lk_mem hx2, rfl⟩)
      exact lv_iinc (v := x + v) hx hb hd hl hkp (by rw [hok.2]) hok.1 rfl (fun ls2 hl2 => kk H locs ls2 hR (ny_st_has hl2))
    all_goals cases h
  case iconst nn =>
    obtain rfl : len = 1 := hlen.resolve_right (fun z => absurd (show (1 : Nat) = 0 from z) (by decide))
    cases h
    exact lv_iconst hx hb hd (of_decide_eq_true hok) (kk H locs ls hR hl)
  case bipush nn =>
    obtain rfl : len = 2 := hlen.resolve_right (fun z => absurd (show (2 : Nat) = 0 from z) (by decide))
    cases h
    exact lv_bipush hx hb hd (of_decide_eq_true hok) (kk H locs ls hR hl)
  case sipush nn =>
    obtain rfl : len = 3 := hlen.resolve_right (fun z => absurd (show (3 : Nat) = 0 from z) (by decide))
    cases h
    exact lv_sipush hx hb hd (of_decide_eq_true hok) (kk H locs ls hR hl)
  case lconst nn =>
    obtain rfl : len = 1 := hlen.resolve_right (fun z => absurd (show (1 : Nat) = 0 from z) (by decide))
    cases h
    exact lv_lconst hx hb hd (of_decide_eq_true hok) (kk H locs ls hR hl)
  case ldc2_w nn =>
    obtain rfl : len = 3 := hlen.resolve_right (fun z => absurd (show (3 : Nat) = 0 from z) (by decide))
    cases h
    exact lv_ldc2 hx hb hown (hts _ (ny_mem_tb hok)) hd (kk H locs ls hR hl)
  case ldc_w nn =>
    obtain rfl : len = 3 := hlen.resolve_right (fun z => absurd (show (3 : Nat) = 0 from z) (by decide))
    cases h
    exact lv_ldcw hx hb hown (hts _ (ny_mem_tb hok)) hd (kk H locs ls hR hl)
  case ldc nn =>
    obtain rfl : len = 2 := hlen.resolve_right (fun z => absurd (show (2 : Nat) = 0 from z) (by decide))
    have h : (match (generalizing := false) a with | 1 => some (none, L, Value.ref 2 :: S, I) | _ => some (none, L, Value.int v :: S, I)) = some (g, L', S', I') := h
    have hok : (if a = 1 then decide (y.1.cls = "NymphRota$Tape" ∧ nn = 94) else ny_mem (.constant y.1.cls nn v)) = true := hok
    split at h
    · rw [if_pos rfl] at hok
      obtain ⟨hc1, rfl⟩ := of_decide_eq_true hok
      cases h
      rw [hc1] at hown
      have kk := kk H locs ls hR hl
      rw [List.map_cons, ny_refs (by decide)] at kk
      exact va_ldcS hx hb hown hX.2.2.2.2.2.2.1 hd kk
    · next hne =>
        rw [if_neg hne] at hok
        cases h
        exact lv_ldc hx hb hown (hts _ (ny_mem_tb hok)) hd (kk H locs ls hR hl)
  case iadd =>
    obtain rfl : len = 1 := hlen.resolve_right (fun z => absurd (show (1 : Nat) = 0 from z) (by decide))
    obtain ⟨x, z, t, rfl, rfl, rfl, rfl, rfl⟩ := ny_i2_iv h
    exact lv_iadd hx hb hd (kk H locs ls hR hl)
  case isub =>
    obtain rfl : len = 1 := hlen.resolve_right (fun z => absurd (show (1 : Nat) = 0 from z) (by decide))
    obtain ⟨x, z, t, rfl, rfl, rfl, rfl, rfl⟩ := ny_i2_iv h
    exact lv_isub hx hb hd (kk H locs ls hR hl)
  case imul =>
    obtain rfl : len = 1 := hlen.resolve_right (fun z => absurd (show (1 : Nat) = 0 from z) (by decide))
    obtain ⟨x, z, t, rfl, rfl, rfl, rfl, rfl⟩ := ny_i2_iv h
    exact lv_imul hx hb hd (kk H locs ls hR hl)
  case iand =>
    obtain rfl : len = 1 := hlen.resolve_right (fun z => absurd (show (1 : Nat) = 0 from z) (by decide))
    obtain ⟨x, z, t, rfl, rfl, rfl, rfl, rfl⟩ := ny_i2_iv h
    exact lv_iand hx hb hd (kk H locs ls hR hl)
  case ior =>
    obtain rfl : len = 1 := hlen.resolve_right (fun z => absurd (show (1 : Nat) = 0 from z) (by decide))
    obtain ⟨x, z, t, rfl, rfl, rfl, rfl, rfl⟩ := ny_i2_iv h
    exact lv_ior hx hb hd (kk H locs ls hR hl)
  case ixor =>
    obtain rfl : len = 1 := hlen.resolve_right (fun z => absurd (show (1 : Nat) = 0 from z) (by decide))
    obtain ⟨x, z, t, rfl, rfl, rfl, rfl, rfl⟩ := ny_i2_iv h
    exact lv_ixor hx hb hd (kk H locs ls hR hl)
  case ishl =>
    obtain rfl : len = 1 := hlen.resolve_right (fun z => absurd (show (1 : Nat) = 0 from z) (by decide))
    obtain ⟨x, z, t, rfl, rfl, rfl, rfl, rfl⟩ := ny_i2_iv h
    exact lv_ishl hx hb hd (kk H locs ls hR hl)
  case ishr =>
    obtain rfl : len = 1 := hlen.resolve_right (fun z => absurd (show (1 : Nat) = 0 from z) (by decide))
    obtain ⟨x, z, t, rfl, rfl, rfl, rfl, rfl⟩ := ny_i2_iv h
    exact lv_ishr hx hb hd (kk H locs ls hR hl)
  case iushr =>
    obtain rfl : len = 1 := hlen.resolve_right (fun z => absurd (show (1 : Nat) = 0 from z) (by decide))
    obtain ⟨x, z, t, rfl, rfl, rfl, rfl, rfl⟩ := ny_i2_iv h
    exact lv_iushr hx hb hd rfl (kk H locs ls hR hl)
  case idiv =>
    obtain rfl : len = 1 := hlen.resolve_right (fun z => absurd (show (1 : Nat) = 0 from z) (by decide))
    obtain ⟨x, z, t, rfl, rfl, rfl, rfl, rfl⟩ := ny_i2g_iv h
    have hz := hg _ rfl
    simp only [Bool.not_eq_true', decide_eq_false_iff_not] at hz
    exact lv_idiv hx hb hd hz (kk H locs ls hR hl)
  case irem =>
    obtain rfl : len = 1 := hlen.resolve_right (fun z => absurd (show (1 : Nat) = 0 from z) (by decide))
    obtain ⟨x, z, t, rfl, rfl, rfl, rfl, rfl⟩ := ny_i2g_iv h
    have hz := hg _ rfl
    simp only [Bool.not_eq_true', decide_eq_false_iff_not] at hz
    exact lv_irem hx hb hd hz (kk H locs ls hR hl)
  case i2b =>
    obtain rfl : len = 1 := hlen.resolve_right (fun z => absurd (show (1 : Nat) = 0 from z) (by decide))
    obtain ⟨x, t, rfl, rfl, rfl, rfl, rfl⟩ := ny_i1_iv h
    exact lv_i2b hx hb hd rfl (kk H locs ls hR hl)
  case i2s =>
    obtain rfl : len = 1 := hlen.resolve_right (fun z => absurd (show (1 : Nat) = 0 from z) (by decide))
    obtain ⟨x, t, rfl, rfl, rfl, rfl, rfl⟩ := ny_i1_iv h
    exact lv_i2s hx hb hd rfl (kk H locs ls hR hl)
  case i2c =>
    obtain rfl : len = 1 := hlen.resolve_right (fun z => absurd (show (1 : Nat) = 0 from z) (by decide))
    obtain ⟨x, t, rfl, rfl, rfl, rfl, rfl⟩ := ny_i1_iv h
    exact lv_i2c hx hb hd rfl (kk H locs ls hR hl)
  case ladd =>
    obtain rfl : len = 1 := hlen.resolve_right (fun z => absurd (show (1 : Nat) = 0 from z) (by decide))
    obtain ⟨x, z, t, rfl, rfl, rfl, rfl, rfl⟩ := ny_l2_iv h
    exact lv_ladd hx hb hd (kk H locs ls hR hl)
  case lsub =>
    obtain rfl : len = 1 := hlen.resolve_right (fun z => absurd (show (1 : Nat) = 0 from z) (by decide))
    obtain ⟨x, z, t, rfl, rfl, rfl, rfl, rfl⟩ := ny_l2_iv h
    exact lv_lsub hx hb hd (kk H locs ls hR hl)
  case lmul =>
    obtain rfl : len = 1 := hlen.resolve_right (fun z => absurd (show (1 : Nat) = 0 from z) (by decide))
    obtain ⟨x, z, t, rfl, rfl, rfl, rfl, rfl⟩ := ny_l2_iv h
    exact lv_lmul hx hb hd (kk H locs ls hR hl)
  case land =>
    obtain rfl : len = 1 := hlen.resolve_right (fun z => absurd (show (1 : Nat) = 0 from z) (by decide))
    obtain ⟨x, z, t, rfl, rfl, rfl, rfl, rfl⟩ := ny_l2_iv h
    exact lv_land hx hb hd (kk H locs ls hR hl)
  case lor =>
    obtain rfl : len = 1 := hlen.resolve_right (fun z => absurd (show (1 : Nat) = 0 from z) (by decide))
    obtain ⟨x, z, t, rfl, rfl, rfl, rfl, rfl⟩ := ny_l2_iv h
    exact lv_lor hx hb hd (kk H locs ls hR hl)
  case lxor =>
    obtain rfl : len = 1 := hlen.resolve_right (fun z => absurd (show (1 : Nat) = 0 from z) (by decide))
    obtain ⟨x, z, t, rfl, rfl, rfl, rfl, rfl⟩ := ny_l2_iv h
    exact lv_lxor hx hb hd (kk H locs ls hR hl)
  case ldiv =>
    obtain rfl : len = 1 := hlen.resolve_right (fun z => absurd (show (1 : Nat) = 0 from z) (by decide))
    obtain ⟨x, z, t, rfl, rfl, rfl, rfl, rfl⟩ := ny_l2g_iv h
    have hz := hg _ rfl
    simp only [Bool.not_eq_true', decide_eq_false_iff_not] at hz
    exact lv_ldiv hx hb hd hz (kk H locs ls hR hl)
  case lrem =>
    obtain rfl : len = 1 := hlen.resolve_right (fun z => absurd (show (1 : Nat) = 0 from z) (by decide))
    obtain ⟨x, z, t, rfl, rfl, rfl, rfl, rfl⟩ := ny_l2g_iv h
    have hz := hg _ rfl
    simp only [Bool.not_eq_true', decide_eq_false_iff_not] at hz
    exact lv_lrem hx hb hd hz (kk H locs ls hR hl)
  case lshl =>
    obtain rfl : len = 1 := hlen.resolve_right (fun z => absurd (show (1 : Nat) = 0 from z) (by decide))
    obtain ⟨x, z, t, rfl, rfl, rfl, rfl, rfl⟩ := ny_li_iv h
    exact lv_lshl hx hb hd rfl (kk H locs ls hR hl)
  case lshr =>
    obtain rfl : len = 1 := hlen.resolve_right (fun z => absurd (show (1 : Nat) = 0 from z) (by decide))
    obtain ⟨x, z, t, rfl, rfl, rfl, rfl, rfl⟩ := ny_li_iv h
    exact lv_lshr hx hb hd rfl (kk H locs ls hR hl)
  case lushr =>
    obtain rfl : len = 1 := hlen.resolve_right (fun z => absurd (show (1 : Nat) = 0 from z) (by decide))
    obtain ⟨x, z, t, rfl, rfl, rfl, rfl, rfl⟩ := ny_li_iv h
    exact lv_lushr hx hb hd rfl (kk H locs ls hR hl)
  case i2l =>
    obtain rfl : len = 1 := hlen.resolve_right (fun z => absurd (show (1 : Nat) = 0 from z) (by decide))
    have h : (match (generalizing := false) S with | .int x :: t => some (none, L, Value.long x.toInt64 :: t, I) | _ => none) = some (g, L', S', I') := h
    split at h
    next x t => cases h; exact lv_i2l hx hb hd rfl (kk H locs ls hR hl)
    all_goals cases h
  case l2i =>
    obtain rfl : len = 1 := hlen.resolve_right (fun z => absurd (show (1 : Nat) = 0 from z) (by decide))
    have h : (match (generalizing := false) S with | .long x :: t => some (none, L, Value.int x.toInt32 :: t, I) | _ => none) = some (g, L', S', I') := h
    split at h
    next x t => cases h; exact lv_l2i hx hb hd rfl (kk H locs ls hR hl)
    all_goals cases h
  case lcmp =>
    obtain rfl : len = 1 := hlen.resolve_right (fun z => absurd (show (1 : Nat) = 0 from z) (by decide))
    have h : (match (generalizing := false) S with | .long yy :: .long x :: t => some (none, L, Value.int (lg_cmp x yy) :: t, I) | _ => none) = some (g, L', S', I') := h
    split at h
    next x t => cases h; exact W.lcmp hx hb hd (kk H locs ls hR hl)
    all_goals cases h
  case dup =>
    obtain rfl : len = 1 := hlen.resolve_right (fun z => absurd (show (1 : Nat) = 0 from z) (by decide))
    have h : ny_dup L S I = some (g, L', S', I') := h
    unfold ny_dup at h
    split at h
    next x t => cases h; exact lv_dup hx hb hd rfl (kk H locs ls hR hl)
    next x t => cases h; exact lv_dup hx hb hd (by rw [ny_v_cat]; rfl) (kk H locs ls hR hl)
    all_goals cases h
  case dup2 =>
    obtain rfl : len = 1 := hlen.resolve_right (fun z => absurd (show (1 : Nat) = 0 from z) (by decide))
    have h : ny_dup2 L S I = some (g, L', S', I') := h
    unfold ny_dup2 at h
    split at h
    next x oo t => cases h; exact lv_dup2_11 hx hb hd rfl (by rw [ny_v_cat]; rfl) (kk H locs ls hR hl)
    all_goals cases h
  case pop =>
    obtain rfl : len = 1 := hlen.resolve_right (fun z => absurd (show (1 : Nat) = 0 from z) (by decide))
    have h : ny_pop L S I = some (g, L', S', I') := h
    unfold ny_pop at h
    split at h
    next x t => cases h; exact lv_pop hx hb hd rfl (kk H locs ls hR hl)
    all_goals cases h
  case getfield nn =>
    obtain rfl : len = 3 := hlen.resolve_right (fun z => absurd (show (3 : Nat) = 0 from z) (by decide))
    exact ny_w_gf (cc := y.2.1) C ho hcn hR hok hd h hg (fun e1 e2 => by subst e1; subst e2; exact kk H locs ls hR hl)
  case putfield nn =>
    obtain rfl : len = 3 := hlen.resolve_right (fun z => absurd (show (3 : Nat) = 0 from z) (by decide))
    exact ny_w_pf C ho hcn hR hok hd h hg (fun H1 l1 e1 hR1 => by subst e1; exact kk H1 l1 ls hR1 hl)
  case iaload =>
    obtain rfl : len = 1 := hlen.resolve_right (fun z => absurd (show (1 : Nat) = 0 from z) (by decide))
    exact ny_w_iald C hR hd h hg (fun e1 e2 => by subst e1; subst e2; exact kk H locs ls hR hl)
  case baload =>
    obtain rfl : len = 1 := hlen.resolve_right (fun z => absurd (show (1 : Nat) = 0 from z) (by decide))
    exact ny_w_bald C hR hd h hg (fun e1 e2 => by subst e1; subst e2; exact kk H locs ls hR hl)
  case aaload =>
    obtain rfl : len = 1 := hlen.resolve_right (fun z => absurd (show (1 : Nat) = 0 from z) (by decide))
    exact ny_w_aald C hR hd h hg (fun e1 e2 => by subst e1; subst e2; exact kk H locs ls hR hl)
  case arraylength =>
    obtain rfl : len = 1 := hlen.resolve_right (fun z => absurd (show (1 : Nat) = 0 from z) (by decide))
    exact ny_w_alen C hR hd h hg (fun e1 e2 => by subst e1; subst e2; exact kk H locs ls hR hl)
  case iastore =>
    obtain rfl : len = 1 := hlen.resolve_right (fun z => absurd (show (1 : Nat) = 0 from z) (by decide))
    exact ny_w_iast C hR hd h hg (fun H1 l1 e1 hR1 => by subst e1; exact kk H1 l1 ls hR1 hl)
  case bastore =>
    obtain rfl : len = 1 := hlen.resolve_right (fun z => absurd (show (1 : Nat) = 0 from z) (by decide))
    exact ny_w_bast C hR hd h hg (fun H1 l1 e1 hR1 => by subst e1; exact kk H1 l1 ls hR1 hl)
  case getstatic nn =>
    obtain rfl : len = 3 := hlen.resolve_right (fun z => absurd (show (3 : Nat) = 0 from z) (by decide))
    have h : (match (generalizing := false) a with | 1 => some (none, L, Value.ref 1 :: S, I) | 2 => some (none, L, .int 1 :: S, I) | 3 => some (none, L, .ref 4 :: S, I) | _ => none) = some (g, L', S', I') := h
    have hok : (match (generalizing := false) a with | 1 => ny_mem (.fieldLink y.1.cls nn "NymphRota$Kinds" "ABOVE" "[I") | 2 => ny_mem (.fieldLink y.1.cls nn "java/lang/String" "COMPACT_STRINGS" "Z") | 3 => ny_mem (.fieldLink y.1.cls nn "jdk/internal/util/Preconditions" "SIOOBE_FORMATTER" "Ljava/util/function/BiFunction;") | _ => false) = true := hok
    split at h
    · cases h; have kk := kk H locs ls hR hl; rw [List.map_cons, ny_refs (by decide)] at kk; exact va_gets hx hb hX.2.2.2.1 hR.2.1 hown (hts _ (ny_mem_tb hok)) (fun _ h => h) hd kk
    · cases h; exact va_gets hx hb hX.2.2.2.2.1 hR.2.1 hown (hts _ (ny_mem_tb hok)) (fun _ h => h) hd (kk H locs ls hR hl)
    · cases h; exact va_gets hx hb hX.2.2.2.2.2.1 hR.2.1 hown (hts _ (ny_mem_tb hok)) (fun _ h => h) hd (kk H locs ls hR hl)
    · cases h
  case invokestatic nn =>
    obtain rfl : len = 3 := hlen.resolve_right (fun z => absurd (show (3 : Nat) = 0 from z) (by decide))
    exact ny_w_inv C hR hl.1 hkm hnm hok hd h hg (fun H1 l1 e1 hR1 => by subst e1; exact kk H1 l1 ls hR1 hl)
  all_goals cases h
end NYOK
end
section
/-! a method's walk over the memory: from a place of its code, to its end -/
abbrev ny_Q : Type := Option Value → ny_K → ny_I → ny_R → Prop
/-- the end that stands at pc gives v back -/
def ny_rt (y : ny_M) (pc : Nat) (v : Option Value) : Prop := match v with
  | none => decode y.2.1 pc = .ok (.return_, 1) ∧ y.2.2.2.1 = none
  | some (.int x) => decode y.2.1 pc = .ok (.ireturn, 1) ∧ ∃ ty, y.2.2.2.1 = some ty ∧ narrow ty (.int x) = .int x
  | some (.ref a) => decode y.2.1 pc = .ok (.areturn, 1) ∧ a ≠ 4 ∧ ∃ nm, y.2.2.2.1 = some (.object nm)
  | _ => False
def ny_G (d mc ms : Nat) (y : ny_M) (pc : Nat) (L : ny_Lc) (S : List Value) (K : ny_K) (I : ny_I) (R : ny_R) (k n : Nat) (Ret : ny_Q) : Prop :=
  ∀ (p : Program) (l : Launch) (e : Env) (Rm : Room) (s : State) (m : MethodId) (args : Array Value) (below : List Frame) (meth : Method) (c : Code) (H : Heap) (locs : List Loc) (ls : Array Slot) (Q : State → Prop) (E : ny_E),
    ny_C E p s m args meth c y Rm d mc ms → k ≤ mc → n ≤ ms → ny_Rl E K I R s H locs k → lv_has ls y.2.2.1 (L.map (ny_lv E)) →
    (∀ v K' I' R' H' locs' pc' ls', Ret v K' I' R' → ny_Rl E K' I' R' s H' locs' mc → ny_rt y pc' v → W p l e Rm s m args below meth c H' locs' mc ms Q (F0 m pc' ls' (v.toList.map (ny_v E)))) →
    W p l e Rm s m args below meth c H locs k n Q (F0 m pc ls (S.map (ny_v E)))
section NYG
variable {d mc ms : Nat} {y : ny_M} {pc : Nat} {L : ny_Lc} {S : List Value} {K : ny_K} {I : ny_I} {R : ny_R} {k n : Nat} {Ret : ny_Q}
theorem ny_G_eq {S2 : List Value} {L2 : ny_Lc} {I2 : ny_I} (h : ny_G d mc ms y pc L2 S2 K I2 R k n Ret) (e1 : L = L2) (e2 : S = S2) (e3 : I = I2) : ny_G d mc ms y pc L S K I R k n Ret := by
  subst e1; subst e2; subst e3; exact h
/-- fewer locals known -/
theorem ny_G_sub {L2 : ny_Lc} (h : ny_G d mc ms y pc L2 S K I R k n Ret) (hs : ∀ q ∈ L2, q ∈ L) : ny_G d mc ms y pc L S K I R k n Ret := by
  intro p l e Rm s m args below meth c H locs ls Q E C hk hn hR hl hq
  refine h p l e Rm s m args below meth c H locs ls Q E C hk hn hR ⟨hl.1, hl.2.1, fun q hm => ?_⟩ hq
  obtain ⟨q0, h0, rfl⟩ := List.mem_map.mp hm
  exact hl.2.2 _ (List.mem_map.mpr ⟨q0, hs q0 h0, rfl⟩)
theorem ny_G_run {own : Nat} (hy : ny_chk own y = true) : ∀ (qs : List ny_Op) (pc : Nat) (L : ny_Lc) (S : List Value) (I : ny_I), (∀ q ∈ qs, q ∈ y.2.2.2.2.2) →
    ny_run K R qs pc L S I (fun pc' L' S' I' => ny_G d mc ms y pc' L' S' K I' R k n Ret) → ny_G d mc ms y pc L S K I R k n Ret := by
  intro qs
  induction qs with
  | nil => intro pc L S I _ h; exact h
  | cons q qs ih =>
    intro pc L S I hin h
    rw [ny_run] at h
    split at h
    next => exact h.elim
    next hb =>
      have hpc : q.1 = pc := Nat.eq_of_beq_eq_true hb
      split at h
      next => exact h.elim
      next L' S' I' hst =>
        have hG := ih _ _ _ _ (fun q' hq' => hin q' (List.mem_cons_of_mem _ hq')) h
        intro p l e Rm s m args below meth c H locs ls Q E C hk hn hR hl hq
        rw [← hpc] at hG ⊢
        exact ny_stp_ok hy C (hin q List.mem_cons_self) hst (fun b hb => by cases hb) hk hn hR hl (fun H' locs' ls' hR' hl' => hG p l e Rm s m args below meth c H' locs' ls' Q E C hk hn hR' hl' hq)
      next g L' S' I' hst =>
        have hG := ih _ _ _ _ (fun q' hq' => hin q' (List.mem_cons_of_mem _ hq')) h.2
        intro p l e Rm s m args below meth c H locs ls Q E C hk hn hR hl hq
        rw [← hpc] at hG ⊢
        exact ny_stp_ok hy C (hin q List.mem_cons_self) hst (fun b hb => by cases hb; exact h.1) hk hn hR hl (fun H' locs' ls' hR' hl' => hG p l e Rm s m args below meth c H' locs' ls' Q E C hk hn hR' hl' hq)
/-- a stretch of n instructions from the i-th on -/
theorem ny_blk {own : Nat} (hy : ny_chk own y = true) (i j : Nat) (h : ny_run K R ((y.2.2.2.2.2.drop i).take j) pc L S I (fun pc' L' S' I' => ny_G d mc ms y pc' L' S' K I' R k n Ret)) : ny_G d mc ms y pc L S K I R k n Ret :=
  ny_G_run hy _ pc L S I (fun _ hq => List.mem_of_mem_drop (List.mem_of_mem_take hq)) h
/-- the i-th instruction, decoded -/
theorem ny_dec {own : Nat} (hy : ny_chk own y = true) {i : Nat} {q : ny_Op} (h : y.2.2.2.2.2[i]? = some q) : decode y.2.1 q.1 = .ok (q.2.2.1, q.2.1) := by
  unfold ny_chk at hy
  simp only [Bool.and_eq_true, decide_eq_true_eq] at hy
  have h2 := List.all_eq_true.mp hy.2 q (List.mem_of_getElem? h)
  simp only [Bool.and_eq_true, decide_eq_true_eq] at h2
  exact h2.1
end NYG
end
section
section NYCT
variable {d mc ms own : Nat} {y : ny_M} {pc tgt i a b : Nat} {off : Int} {v : Int32} {w : Int64} {L : ny_Lc} {S : List Value} {K : ny_K} {I : ny_I} {R : ny_R} {k n : Nat} {Ret : ny_Q} {x z : Int32}
theorem ny_if_eq (hy : ny_chk own y = true) (hi : y.2.2.2.2.2[i]? = some (pc, 3, .ifCond .eq off, a, b, v, w)) (ht : (pc : Int) + off = (tgt : Int)) (kt : x = 0 → ny_G d mc ms y tgt L S K I R k n Ret) (kf : ¬ x = 0 → ny_G d mc ms y (pc + 3) L S K I R k n Ret) : ny_G d mc ms y pc L (.int x :: S) K I R k n Ret := by
  intro p l e Rm s m args below meth c H locs ls Q E C hk hn hR hl hq
  have hd := ny_dec hy hi
  obtain ⟨hx, hb, -⟩ := id C
  exact lv_if_eq hx hb hd ht (fun h => kt h p l e Rm s m args below meth c H locs ls Q E C hk hn hR hl hq) (fun h => kf h p l e Rm s m args below meth c H locs ls Q E C hk hn hR hl hq)
theorem ny_icmp_eq (hy : ny_chk own y = true) (hi : y.2.2.2.2.2[i]? = some (pc, 3, .if_icmp .eq off, a, b, v, w)) (ht : (pc : Int) + off = (tgt : Int)) (kt : x = z → ny_G d mc ms y tgt L S K I R k n Ret) (kf : ¬ x = z → ny_G d mc ms y (pc + 3) L S K I R k n Ret) : ny_G d mc ms y pc L (.int z :: .int x :: S) K I R k n Ret := by
  intro p l e Rm s m args below meth c H locs ls Q E C hk hn hR hl hq
  have hd := ny_dec hy hi
  obtain ⟨hx, hb, -⟩ := id C
  exact lv_icmp_eq hx hb hd ht (fun h => kt h p l e Rm s m args below meth c H locs ls Q E C hk hn hR hl hq) (fun h => kf h p l e Rm s m args below meth c H locs ls Q E C hk hn hR hl hq)
theorem ny_if_ne (hy : ny_chk own y = true) (hi : y.2.2.2.2.2[i]? = some (pc, 3, .ifCond .ne off, a, b, v, w)) (ht : (pc : Int) + off = (tgt : Int)) (kt : ¬ x = 0 → ny_G d mc ms y tgt L S K I R k n Ret) (kf : x = 0 → ny_G d mc ms y (pc + 3) L S K I R k n Ret) : ny_G d mc ms y pc L (.int x :: S) K I R k n Ret := by
  intro p l e Rm s m args below meth c H locs ls Q E C hk hn hR hl hq
  have hd := ny_dec hy hi
  obtain ⟨hx, hb, -⟩ := id C
  exact lv_if_ne hx hb hd ht (fun h => kt h p l e Rm s m args below meth c H locs ls Q E C hk hn hR hl hq) (fun h => kf h p l e Rm s m args below meth c H locs ls Q E C hk hn hR hl hq)
theorem ny_icmp_ne (hy : ny_chk own y = true) (hi : y.2.2.2.2.2[i]? = some (pc, 3, .if_icmp .ne off, a, b, v, w)) (ht : (pc : Int) + off = (tgt : Int)) (kt : ¬ x = z → ny_G d mc ms y tgt L S K I R k n Ret) (kf : x = z → ny_G d mc ms y (pc + 3) L S K I R k n Ret) : ny_G d mc ms y pc L (.int z :: .int x :: S) K I R k n Ret := by
  intro p l e Rm s m args below meth c H locs ls Q E C hk hn hR hl hq
  have hd := ny_dec hy hi
  obtain ⟨hx, hb, -⟩ := id C
  exact lv_icmp_ne hx hb hd ht (fun h => kt h p l e Rm s m args below meth c H locs ls Q E C hk hn hR hl hq) (fun h => kf h p l e Rm s m args below meth c H locs ls Q E C hk hn hR hl hq)
theorem ny_if_lt (hy : ny_chk own y = true) (hi : y.2.2.2.2.2[i]? = some (pc, 3, .ifCond .lt off, a, b, v, w)) (ht : (pc : Int) + off = (tgt : Int)) (kt : x < 0 → ny_G d mc ms y tgt L S K I R k n Ret) (kf : ¬ x < 0 → ny_G d mc ms y (pc + 3) L S K I R k n Ret) : ny_G d mc ms y pc L (.int x :: S) K I R k n Ret := by
  intro p l e Rm s m args below meth c H locs ls Q E C hk hn hR hl hq
  have hd := ny_dec hy hi
  obtain ⟨hx, hb, -⟩ := id C
  exact lv_if_lt hx hb hd ht (fun h => kt h p l e Rm s m args below meth c H locs ls Q E C hk hn hR hl hq) (fun h => kf h p l e Rm s m args below meth c H locs ls Q E C hk hn hR hl hq)
theorem ny_icmp_lt (hy : ny_chk own y = true) (hi : y.2.2.2.2.2[i]? = some (pc, 3, .if_icmp .lt off, a, b, v, w)) (ht : (pc : Int) + off = (tgt : Int)) (kt : x < z → ny_G d mc ms y tgt L S K I R k n Ret) (kf : ¬ x < z → ny_G d mc ms y (pc + 3) L S K I R k n Ret) : ny_G d mc ms y pc L (.int z :: .int x :: S) K I R k n Ret := by
  intro p l e Rm s m args below meth c H locs ls Q E C hk hn hR hl hq
  have hd := ny_dec hy hi
  obtain ⟨hx, hb, -⟩ := id C
  exact lv_icmp_lt hx hb hd ht (fun h => kt h p l e Rm s m args below meth c H locs ls Q E C hk hn hR hl hq) (fun h => kf h p l e Rm s m args below meth c H locs ls Q E C hk hn hR hl hq)
theorem ny_if_ge (hy : ny_chk own y = true) (hi : y.2.2.2.2.2[i]? = some (pc, 3, .ifCond .ge off, a, b, v, w)) (ht : (pc : Int) + off = (tgt : Int)) (kt : 0 ≤ x → ny_G d mc ms y tgt L S K I R k n Ret) (kf : ¬ 0 ≤ x → ny_G d mc ms y (pc + 3) L S K I R k n Ret) : ny_G d mc ms y pc L (.int x :: S) K I R k n Ret := by
  intro p l e Rm s m args below meth c H locs ls Q E C hk hn hR hl hq
  have hd := ny_dec hy hi
  obtain ⟨hx, hb, -⟩ := id C
  exact lv_if_ge hx hb hd ht (fun h => kt h p l e Rm s m args below meth c H locs ls Q E C hk hn hR hl hq) (fun h => kf h p l e Rm s m args below meth c H locs ls Q E C hk hn hR hl hq)
theorem ny_icmp_ge (hy : ny_chk own y = true) (hi : y.2.2.2.2.2[i]? = some (pc, 3, .if_icmp .ge off, a, b, v, w)) (ht : (pc : Int) + off = (tgt : Int)) (kt : z ≤ x → ny_G d mc ms y tgt L S K I R k n Ret) (kf : ¬ z ≤ x → ny_G d mc ms y (pc + 3) L S K I R k n Ret) : ny_G d mc ms y pc L (.int z :: .int x :: S) K I R k n Ret := by
  intro p l e Rm s m args below meth c H locs ls Q E C hk hn hR hl hq
  have hd := ny_dec hy hi
  obtain ⟨hx, hb, -⟩ := id C
  exact lv_icmp_ge hx hb hd ht (fun h => kt h p l e Rm s m args below meth c H locs ls Q E C hk hn hR hl hq) (fun h => kf h p l e Rm s m args below meth c H locs ls Q E C hk hn hR hl hq)
theorem ny_if_gt (hy : ny_chk own y = true) (hi : y.2.2.2.2.2[i]? = some (pc, 3, .ifCond .gt off, a, b, v, w)) (ht : (pc : Int) + off = (tgt : Int)) (kt : 0 < x → ny_G d mc ms y tgt L S K I R k n Ret) (kf : ¬ 0 < x → ny_G d mc ms y (pc + 3) L S K I R k n Ret) : ny_G d mc ms y pc L (.int x :: S) K I R k n Ret := by
  intro p l e Rm s m args below meth c H locs ls Q E C hk hn hR hl hq
  have hd := ny_dec hy hi
  obtain ⟨hx, hb, -⟩ := id C
  exact lv_if_gt hx hb hd ht (fun h => kt h p l e Rm s m args below meth c H locs ls Q E C hk hn hR hl hq) (fun h => kf h p l e Rm s m args below meth c H locs ls Q E C hk hn hR hl hq)
theorem ny_icmp_gt (hy : ny_chk own y = true) (hi : y.2.2.2.2.2[i]? = some (pc, 3, .if_icmp .gt off, a, b, v, w)) (ht : (pc : Int) + off = (tgt : Int)) (kt : z < x → ny_G d mc ms y tgt L S K I R k n Ret) (kf : ¬ z < x → ny_G d mc ms y (pc + 3) L S K I R k n Ret) : ny_G d mc ms y pc L (.int z :: .int x :: S) K I R k n Ret := by
  intro p l e Rm s m args below meth c H locs ls Q E C hk hn hR hl hq
  have hd := ny_dec hy hi
  obtain ⟨hx, hb, -⟩ := id C
  exact lv_icmp_gt hx hb hd ht (fun h => kt h p l e Rm s m args below meth c H locs ls Q E C hk hn hR hl hq) (fun h => kf h p l e Rm s m args below meth c H locs ls Q E C hk hn hR hl hq)
theorem ny_if_le (hy : ny_chk own y = true) (hi : y.2.2.2.2.2[i]? = some (pc, 3, .ifCond .le off, a, b, v, w)) (ht : (pc : Int) + off = (tgt : Int)) (kt : x ≤ 0 → ny_G d mc ms y tgt L S K I R k n Ret) (kf : ¬ x ≤ 0 → ny_G d mc ms y (pc + 3) L S K I R k n Ret) : ny_G d mc ms y pc L (.int x :: S) K I R k n Ret := by
  intro p l e Rm s m args below meth c H locs ls Q E C hk hn hR hl hq
  have hd := ny_dec hy hi
  obtain ⟨hx, hb, -⟩ := id C
  exact lv_if_le hx hb hd ht (fun h => kt h p l e Rm s m args below meth c H locs ls Q E C hk hn hR hl hq) (fun h => kf h p l e Rm s m args below meth c H locs ls Q E C hk hn hR hl hq)
theorem ny_icmp_le (hy : ny_chk own y = true) (hi : y.2.2.2.2.2[i]? = some (pc, 3, .if_icmp .le off, a, b, v, w)) (ht : (pc : Int) + off = (tgt : Int)) (kt : x ≤ z → ny_G d mc ms y tgt L S K I R k n Ret) (kf : ¬ x ≤ z → ny_G d mc ms y (pc + 3) L S K I R k n Ret) : ny_G d mc ms y pc L (.int z :: .int x :: S) K I R k n Ret := by
  intro p l e Rm s m args below meth c H locs ls Q E C hk hn hR hl hq
  have hd := ny_dec hy hi
  obtain ⟨hx, hb, -⟩ := id C
  exact lv_icmp_le hx hb hd ht (fun h => kt h p l e Rm s m args below meth c H locs ls Q E C hk hn hR hl hq) (fun h => kf h p l e Rm s m args below meth c H locs ls Q E C hk hn hR hl hq)
theorem ny_goto (hy : ny_chk own y = true) (hi : y.2.2.2.2.2[i]? = some (pc, 3, .goto off, a, b, v, w)) (ht : (pc : Int) + off = (tgt : Int)) (h : ny_G d mc ms y tgt L S K I R k n Ret) : ny_G d mc ms y pc L S K I R k n Ret := by
  intro p l e Rm s m args below meth c H locs ls Q E C hk hn hR hl hq
  have hd := ny_dec hy hi
  obtain ⟨hx, hb, -⟩ := id C
  exact lv_goto hx hb hd ht (h p l e Rm s m args below meth c H locs ls Q E C hk hn hR hl hq)
theorem ny_tabin {dflt lo hi : Int} {offs : Array Int} {len : Nat} (hy : ny_chk own y = true) (hi2 : y.2.2.2.2.2[i]? = some (pc, len, .tableswitch dflt lo hi offs, a, b, v, w)) (h1 : ¬ x.toInt < lo) (h2 : ¬ hi < x.toInt) (ho : offs[(x.toInt - lo).toNat]? = some off) (ht : (pc : Int) + off = (tgt : Int)) (h : ny_G d mc ms y tgt L S K I R k n Ret) : ny_G d mc ms y pc L (.int x :: S) K I R k n Ret := by
  intro p l e Rm s m args below meth c H locs ls Q E C hk hn hR hl hq
  have hd := ny_dec hy hi2
  obtain ⟨hx, hb, -⟩ := id C
  exact lv_tableIn hx hb hd h1 h2 ho ht (h p l e Rm s m args below meth c H locs ls Q E C hk hn hR hl hq)
theorem ny_tabout {dflt lo hi : Int} {offs : Array Int} {len : Nat} (hy : ny_chk own y = true) (hi2 : y.2.2.2.2.2[i]? = some (pc, len, .tableswitch dflt lo hi offs, a, b, v, w)) (h1 : x.toInt < lo ∨ hi < x.toInt) (ht : (pc : Int) + dflt = (tgt : Int)) (h : ny_G d mc ms y tgt L S K I R k n Ret) : ny_G d mc ms y pc L (.int x :: S) K I R k n Ret := by
  intro p l e Rm s m args below meth c H locs ls Q E C hk hn hR hl hq
  have hd := ny_dec hy hi2
  obtain ⟨hx, hb, -⟩ := id C
  exact lv_tableOut hx hb hd h1 ht (h p l e Rm s m args below meth c H locs ls Q E C hk hn hR hl hq)
theorem ny_look {dflt : Int} {ps : Array (Int × Int)} {len : Nat} (hy : ny_chk own y = true) (hi2 : y.2.2.2.2.2[i]? = some (pc, len, .lookupswitch dflt ps, a, b, v, w)) (hp : (ps.toList.zip (ps.toList.drop 1)).all (fun (a, next) => a.1 < next.1) = true) (ho : Op.lookupswitch.offset ps.toList dflt x.toInt = off) (ht : (pc : Int) + off = (tgt : Int)) (h : ny_G d mc ms y tgt L S K I R k n Ret) : ny_G d mc ms y pc L (.int x :: S) K I R k n Ret := by
  intro p l e Rm s m args below meth c H locs ls Q E C hk hn hR hl hq
  have hd := ny_dec hy hi2
  obtain ⟨hx, hb, -⟩ := id C
  exact lv_lookup hx hb hd hp ho ht (h p l e Rm s m args below meth c H locs ls Q E C hk hn hR hl hq)
theorem ny_iret {ty : FieldType} (hy : ny_chk own y = true) (hi : y.2.2.2.2.2[i]? = some (pc, 1, .ireturn, a, b, v, w)) (ht : y.2.2.2.1 = some ty) (hn2 : narrow ty (.int x) = .int x) (hm : k = mc) (h : Ret (some (.int x)) K I R) : ny_G d mc ms y pc L [.int x] K I R k n Ret := by
  intro p l e Rm s m args below meth c H locs ls Q E C hk hn hR hl hq
  subst hm
  have hd := ny_dec hy hi
  have hrt : ny_rt y pc (some (.int x)) := ⟨hd, ty, ht, hn2⟩
  have kk := hq (some (.int x)) K I R H locs pc ls h hR hrt
  exact W.widen (Nat.le_refl _) hn kk
theorem ny_vret (hy : ny_chk own y = true) (hi : y.2.2.2.2.2[i]? = some (pc, 1, .return_, a, b, v, w)) (ht : y.2.2.2.1 = none) (hm : k = mc) (h : Ret none K I R) : ny_G d mc ms y pc L [] K I R k n Ret := by
  intro p l e Rm s m args below meth c H locs ls Q E C hk hn hR hl hq
  subst hm
  have hd := ny_dec hy hi
  have hrt : ny_rt y pc none := ⟨hd, ht⟩
  have kk := hq none K I R H locs pc ls h hR hrt
  exact W.widen (Nat.le_refl _) hn kk
theorem ny_aret {o : Nat} {nm : String} (hy : ny_chk own y = true) (hi : y.2.2.2.2.2[i]? = some (pc, 1, .areturn, a, b, v, w)) (ht : y.2.2.2.1 = some (.object nm)) (ho : o ≠ 4) (hm : k = mc) (h : Ret (some (.ref o)) K I R) : ny_G d mc ms y pc L [.ref o] K I R k n Ret := by
  intro p l e Rm s m args below meth c H locs ls Q E C hk hn hR hl hq
  subst hm
  have hd := ny_dec hy hi
  have hrt : ny_rt y pc (some (.ref o)) := ⟨hd, ho, nm, ht⟩
  have kk := hq (some (.ref o)) K I R H locs pc ls h hR hrt
  exact W.widen (Nat.le_refl _) hn kk
end NYCT
end
section
/-! calls -/
def ny_W (y : ny_M) : List Cond := .code y.1 y.2.1 y.2.2.1 y.2.2.2.1 :: ny_tb
def ny_rm (d mc ms : Nat) : Room := { frames := d + 1, cells := mc, slots := ms, locals := 64 * (d + 1) }
def ny_Pre (E : ny_E) (av : List Value) (K : ny_K) (I : ny_I) (R : ny_R) : Array Value → State → Prop :=
  va_Pc (av.map (ny_v E)) (fun U => ny_S E U ∧ ny_X E U U.heap ∧ ny_sz E ≤ U.heap.size ∧ ny_P E K I R U.heap ∧ U.heap.size + 5 = ny_sz E + K.length)
def ny_Post (E : ny_E) (mc : Nat) (K : ny_K) (Ret : ny_Q) : Array Value → State → Outcome → State → Prop := fun _ st oc t =>
  (∃ (v : Option Value) (K' : ny_K) (I' : ny_I) (R' : ny_R), oc = .returned (v.map (ny_v E)) ∧ Ret v K' I' R' ∧ ny_P E K' I' R' t.heap ∧ K'.length = K.length + mc) ∧ va_F (ny_A E) st t
/-- from every state that holds the memory, the method returns, and Ret holds of what it gives and of the memory then -/
def ny_Call (d mc ms : Nat) (z : ny_M) (av : List Value) (K : ny_K) (I : ny_I) (R : ny_R) (Ret : ny_Q) : Prop :=
  ∀ (l : Launch) (E : ny_E), Met l z.1 (ny_W z) (ny_rm d mc ms) (ny_Pre E av K I R) (ny_Post E mc K Ret) mc ms (ny_A E)
theorem ny_S_mv {E : ny_E} {s U : State} (hW : s.WarmedH U.vm) (h : ny_S E s) : ny_S E U := ⟨va_K.moved hW.alike h.1, fun q hq => va_Nw.warmM hW (h.2 q hq)⟩
theorem ny_X_mv {E : ny_E} {s U : State} {H : Heap} {locs : List Loc} (hW : s.WarmedH U.vm) (hsz : ny_sz E ≤ s.heap.size) (hS : va_S (ny_A E) s.heap H locs) (h : ny_X E s s.heap) : ny_X E U H := by
  obtain ⟨h1, h2, h3, h4, h5, h6, h7, h8⟩ := h
  have hq : ∀ a : Nat, a < s.heap.size → ¬ ny_A E a → H[a]? = s.heap[a]? := hS.2.1
  exact ⟨(h1.moved hW.alike).kept (hq _ (Nat.lt_of_lt_of_le h2 hsz) (Nat.not_le.mpr h2)), h2, (h3.moved hW.alike).kept hq, (h4.moved hW.alike).kept hq, (h5.moved hW.alike).kept hq, (h6.moved hW.alike).kept hq, h7.warm hW, (h8.moved hW.alike).kept hq⟩
theorem ny_args_map (E : ny_E) : ∀ (av : List Value) (i : Nat), lv_args i (av.map (ny_v E)) = (lv_args i av).map (ny_lv E)
  | [], _ => rfl
  | v :: vs, i => by
    rw [List.map_cons, lv_args, lv_args, List.map_cons, ny_v_cat, ny_args_map E vs]
    rfl
theorem ny_sl_len (E : ny_E) (av : List Value) : (lg_sl (av.map (ny_v E))).length = (lg_sl av).length := by
  induction av with
  | nil => rfl
  | cons v vs ih =>
    unfold lg_sl at ih ⊢
    rw [List.map_cons, List.flatMap_cons, List.flatMap_cons, List.length_append, List.length_append, ih, ny_v_cat]
    split <;> rfl
theorem ny_blind (E : ny_E) (av : List Value) (K : ny_K) (I : ny_I) (R : ny_R) : FrameBlind (ny_Pre E av K I R) := by
  intro a U g mk ⟨h0, h1, h2, h3, h4, h5⟩
  have hW : U.WarmedH (U.calling g mk a).vm := State.WarmedH.refl U
  have h2' : ny_X E (U.calling g mk a) U.heap := ny_X_mv (locs := []) hW h3 va_S.rf h2
  exact ⟨h0, ny_S_mv hW h1, h2', h3, h4, h5⟩
theorem ny_enter {d mc ms : Nat} {z : ny_M} {av : List Value} {K : ny_K} {I : ny_I} {R : ny_R} {Ret : ny_Q} (hpl : plainName z.1.cls = true) (hin : z.2.2.2.2.1 = true → z.1.name = "<init>") (hL : (lg_sl av).length ≤ z.2.2.1)
    (h : ny_G d mc ms z 0 (lv_args 0 av) [] K I R 0 0 Ret) : ny_Call d mc ms z av K I R Ret := by
  intro l E
  refine Met.ofW (cc := z.2.1) (maxL := z.2.2.1) (ret := z.2.2.2.1) hpl rfl ?_
  intro p e s m args below meth c s₁ B hml hv
  obtain ⟨rfl, hS, hX, hsz, hP, hz⟩ := hv
  have hx := B.exec
  have hb := B.bytes
  have hr := B.returns
  have hts0 := atoms_spec (ws := ny_W z) B.pre
  have hown : s.vm.findClass z.1.cls = some m.cls := findClass_of_methodNamed B.named
  have hlocks := B.notSynchronized
  have hnm : meth.name = z.1.name := (name_of_methodNamed B.named B.method).1
  have C : ny_C E p s m (av.map (ny_v E)).toArray meth c z (headSpec (ny_W z) (ny_rm d mc ms)).room d mc ms :=
    ⟨hx, hb, hr, hml, hown, fun w hw => hts0 w (List.mem_cons_of_mem _ hw), hlocks, fun q => hnm.trans (hin q), Nat.le_refl _, Nat.le_refl _, rfl, rfl, hS, hX, hsz⟩
  rw [lg_entry_eq]
  have hl := lv_entry (av.map (ny_v E)) (n := z.2.2.1) (by rw [ny_sl_len]; exact hL)
  rw [ny_args_map] at hl
  refine h p l e _ s m _ below meth c s.heap [] _ _ E C (Nat.zero_le _) (Nat.zero_le _) ⟨hP, va_S.rf, by omega⟩ hl ?_
  intro v K' I' R' H' locs' pc' ls' hRet hR' hrt
  obtain ⟨hP', hS', hz'⟩ := hR'
  have hlen : K'.length = K.length + mc := by omega
  have hpost : ∀ t : State, t.heap = H' → s.WarmedH t.vm → ny_Post E mc K Ret (av.map (ny_v E)).toArray s (.returned (v.map (ny_v E))) t := fun t ht _ => ⟨⟨v, K', I', R', rfl, hRet, by rw [ht]; exact hP', hlen⟩, hS'.F ht⟩
  unfold ny_rt at hrt
  split at hrt
  next => exact W.vret hx hb (hr.trans hrt.2) hpost hS'.2.2 hrt.1
  next x =>
    obtain ⟨hd, ty, h1, h2⟩ := hrt
    exact W.zret hx hb (hr.trans h1) h2 hpost hS'.2.2 hd
  next o =>
    obtain ⟨hd, h4, nm, h1⟩ := hrt
    have e : ny_v E (.ref o) = .ref (ny_ph E o) := ny_refs h4
    rw [show (some (Value.ref o)).toList.map (ny_v E) = [ny_v E (.ref o)] from rfl, e]
    rw [show (some (Value.ref o)).map (ny_v E) = some (ny_v E (.ref o)) from rfl, e] at hpost
    exact W.aret hx hb (hr.trans h1) (Or.inl ⟨nm, rfl⟩) (Or.inr ⟨_, rfl⟩) hpost hS'.2.2 hd
  next => exact hrt.elim
theorem ny_good {ws : List Cond} (h : ∀ w ∈ ws, w ∈ ny_tb) : GoodIn ny_tb ws := fun w hw => ⟨h w hw, good_of_word (List.mem_filter.mp (h w hw)).2⟩
/-- of a method that is called: its words -/
def ny_zb (z : ny_M) (na : Nat) : Bool := ny_mem (.initialized z.1.cls) && ny_mem (.code z.1 z.2.1 z.2.2.1 z.2.2.2.1) && plainName z.1.cls && decide (z.1.cls ≠ "java/lang/invoke/MethodHandle" ∧ z.1.cls ≠ "java/lang/invoke/VarHandle" ∧ (parseMethodDescriptor z.1.desc).map (fun d => d.parameters.length) = some na) && decide (z.2.2.1 ≤ 30) && (!z.2.2.2.2.1 || decide (z.1.name = "<init>"))
def ny_zv (z : ny_M) (na : Nat) : Bool := ny_zb z na && ny_mem (.instanceMethod z.1) && ny_mem (.selects z.1.cls z.1 z.1)
def ny_zs (z : ny_M) (na : Nat) : Bool := ny_zb z na && ny_mem (.static z.1)
def ny_zi (z : ny_M) (na : Nat) : Bool := ny_zb z na && ny_mem (.instanceMethod z.1) && decide (z.1.name = "<init>") && decide (z.2.2.2.1 = none)
theorem ny_ent {d mc ms na : Nat} {z : ny_M} {av : List Value} {K : ny_K} {I : ny_I} {R : ny_R} {Ret : ny_Q} (hz : ny_zb z na = true) (hL : (lg_sl av).length ≤ z.2.2.1) (h : ny_G d mc ms z 0 (lv_args 0 av) [] K I R 0 0 Ret) : ny_Call d mc ms z av K I R Ret := by
  simp only [ny_zb, Bool.and_eq_true, Bool.or_eq_true, Bool.not_eq_true', decide_eq_true_eq] at hz
  refine ny_enter hz.1.1.1.2 (fun q => ?_) hL h
  rcases hz.2 with h | h
  · rw [h] at q; cases q
  · exact h
section NYCL
variable {p : Program} {l : Launch} {e : Env} {Rm : Room} {s : State} {m : MethodId} {args : Array Value} {below : List Frame} {meth : Method} {c : Code} {H : Heap} {locs : List Loc} {ls : Array Slot} {Q : State → Prop} {E : ny_E} {d mc ms k n : Nat} {K : ny_K} {R : ny_R} {I : ny_I} {y z : ny_M}
/-- how much is made is known -/
theorem ny_szW {g : JFrame} (hsz : ny_sz E ≤ s.heap.size) (hR : ny_Rl E K I R s H locs k) (h : H.size + 5 = ny_sz E + K.length → W p l e Rm s m args below meth c H locs k n Q g) : W p l e Rm s m args below meth c H locs k n Q g := by
  intro T hT X
  refine h ?_ T hT X
  have h1 := X.heapSize
  rw [hT] at h1
  obtain ⟨hP, hS, hz⟩ := hR
  have h5 : 5 ≤ K.length := by
    have h2 := congrArg List.length hP.1
    rw [List.length_take] at h2
    have : (ny_k5 E).length = 5 := rfl
    omega
  have h3 : ny_sz E + K.length ≤ H.size + 5 := by
    rcases Nat.lt_or_ge 5 K.length with h6 | h6
    · have hk : ∃ kd, K[K.length - 1]? = some kd := ⟨K[K.length - 1]'(by omega), List.getElem?_eq_getElem (by omega)⟩
      obtain ⟨kd, hk⟩ := hk
      have h7 := (hP.2.2.2.2 _ _ (ny_ws_get E I R (by omega) hk)).lt
      have h8 : ny_ph E (K.length - 1) = ny_sz E + (K.length - 1 - 5) := by
        unfold ny_ph
        rw [if_neg (by omega), if_neg (by omega), if_neg (by omega), if_neg (by omega)]
      have h7 : ny_ph E (K.length - 1) < H.size := h7
      omega
    · have := hS.1
      omega
  omega
theorem ny_cont {pc mc' ms' : Nat} {st0 rest : List Value} {Ret' : ny_Q} {a : Array Value} (hr : va_Run p l e Rm s m args below meth c H locs k n mc' ms' (F0 m pc ls st0) rest (ny_Post E mc' K Ret' a) (ny_A E)) (hS : va_S (ny_A E) s.heap H locs)
    (kk : ∀ (v : Option Value) (K' : ny_K) (I' : ny_I) (R' : ny_R) (H1 : Heap) (locs1 : List Loc), Ret' v K' I' R' → ny_P E K' I' R' H1 → K'.length = K.length + mc' → va_S (ny_A E) s.heap H1 locs1 → W p l e Rm s m args below meth c H1 locs1 (k + mc') (n + ms') Q (F0 m (pc + 3) ls ((v.map (ny_v E)).toList ++ rest))) : W p l e Rm s m args below meth c H locs k n Q (F0 m pc ls st0) := by
  intro T hT X
  obtain ⟨v, st₀, t, T', L, h0, X', hL, e1, e2, ⟨⟨v', K', I', R', hv, hRet, hP', hlen⟩, hz, hk⟩, st⟩ := hr T hT X
  cases hv
  rw [h0] at hz hk
  obtain ⟨t2, a1, b1⟩ := kk v' K' I' R' T'.heap (locs ++ L) hRet (by rw [e1]; exact hP') hlen
    ⟨Nat.le_trans hS.1 (by rw [e1]; exact hz), fun q h1 h2 => by rw [e1, hk q (Nat.lt_of_lt_of_le h1 hS.1) h2]; exact hS.2.1 q h1 h2, fun q hq => by
      rcases List.mem_append.mp hq with h | h
      · exact hS.2.2 q h
      · exact hL q h⟩ T' rfl X'
  exact ⟨t2, st t2 a1, b1⟩
theorem ny_pre_at {av : List Value} (C : ny_C E p s m args meth c y Rm d mc ms) (hR : ny_Rl E K I R s H locs k) (hsz2 : H.size + 5 = ny_sz E + K.length) : ∀ U : State, U.heap = H → s.WarmedH U.vm → ny_Pre E av K I R (av.map (ny_v E)).toArray U := by
  obtain ⟨hx, hb, hr, hml, hown, hts, hlk, hin, hf1, hf2, hc, hs, hSS, hX, hsz⟩ := C
  obtain ⟨hP, hS, hz⟩ := hR
  intro U hU hW
  refine ⟨rfl, ny_S_mv hW hSS, ?_, ?_, ?_, ?_⟩
  · rw [hU]; exact ny_X_mv hW hsz hS hX
  · rw [hU]; exact Nat.le_trans hsz hS.1
  · rw [hU]; exact hP
  · rw [hU]; exact hsz2
end NYCL
section NYCM
variable {d mc ms own : Nat} {y z : ny_M} {pc i a b idx na mc' ms' : Nat} {v : Int32} {w : Int64} {L : ny_Lc} {S St av : List Value} {K : ny_K} {I : ny_I} {R : ny_R} {k n : Nat} {Ret Ret' : ny_Q}
theorem ny_callV {o ci : Nat} (hy : ny_chk own y = true) (hi : y.2.2.2.2.2[i]? = some (pc, 3, .invokevirtual idx, a, b, v, w)) (hz : ny_zv z na = true) (hlk : ny_mem (.methodLink y.1.cls idx z.1) = true) (hkd : ny_kd K o (0, ci) = true) (hci : ci < 11) (hcn : ny_cn.getD ci "" = z.1.cls)
    (hst : St = av.reverse ++ .ref o :: S) (hna : av.length = na) (hbud : k + mc' ≤ mc ∧ n + ms' ≤ ms) (hS4 : S.length ≤ 4) (hcall : ny_Call d mc' ms' z (.ref o :: av) K I R Ret')
    (kk : ∀ v K' I' R', Ret' v K' I' R' → ny_G (d + 1) mc ms y (pc + 3) L (v.toList ++ S) K' I' R' (k + mc') (n + ms') Ret) : ny_G (d + 1) mc ms y pc L St K I R k n Ret := by
  intro p l e Rm s m args below meth c H locs ls Q E C hk hn hR hl hq
  have hd := ny_dec hy hi
  simp only [ny_zv, ny_zb, Bool.and_eq_true, decide_eq_true_eq] at hz
  obtain ⟨⟨⟨⟨⟨⟨⟨hz1, hz2⟩, hz3⟩, hz4⟩, hz5⟩, -⟩, hz6⟩, hz7⟩ := hz
  obtain ⟨hx, hb, hr, hml, hown, hts, hlo, hin, hf1, hf2, hc, hs, hSS, hX, hsz⟩ := id C
  refine ny_szW hsz hR fun hsz2 => ?_
  obtain ⟨h5, hws⟩ := ny_obj hR.1 hci hkd
  have hcs := ny_catsum E S
  have cw : CallW Rm s args y.1.cls z.1.cls idx z.1 z.2.1 z.2.2.1 z.2.2.2.1 (ny_W z) (ny_rm d mc' ms') mc' ms' na := by
    refine cwV na hts (ny_good ?_) rfl rfl rfl ⟨rfl, hz4⟩ ⟨hf1, ?_⟩
    · intro w hw
      unfold wsV ny_W at hw
      simp only [List.cons_append, List.nil_append, List.mem_cons] at hw
      rcases hw with rfl | rfl | rfl | rfl | rfl | hw
      · exact ny_mem_tb hlk
      · exact ny_mem_tb hz6
      · exact ny_mem_tb hz7
      · exact ny_mem_tb hz1
      · exact ny_mem_tb hz2
      · exact hw
    · show 8 + (z.2.2.1 + 11) + 64 * (d + 1) ≤ Rm.locals
      omega
  have hrecv := va_recv hSS.1 hR.1.2.2.2.2 (ny_cls_at ci hci) hws
  rw [hcn] at hrecv
  have hpre := ny_pre_at (av := .ref o :: av) C hR hsz2
  rw [List.map_cons, ny_ref h5] at hpre
  subst hst
  rw [List.map_append, List.map_cons, List.map_reverse, ny_ref h5]
  refine ny_cont (va_runV (rest := S.map (ny_v E)) ⟨hx, hb, hml, hown, hts⟩ (hcall l E) cw ⟨ny_blind E _ K I R, hrecv, hpre⟩ rfl (by rw [List.length_map]; exact hna) hl.1 rfl (lv_room (by omega)) hd ⟨by omega, by omega⟩) hR.2.1 fun v K' I' R' H1 locs1 h1 h2 h3 h4 => ?_
  have eqv : (v.map (ny_v E)).toList ++ S.map (ny_v E) = (v.toList ++ S).map (ny_v E) := by cases v <;> simp
  rw [eqv]
  have hz := hR.2.2
  exact kk v K' I' R' h1 p l e Rm s m args below meth c H1 locs1 ls Q E C hbud.1 hbud.2 ⟨h2, h4, by omega⟩ hl hq
theorem ny_callS (hy : ny_chk own y = true) (hi : y.2.2.2.2.2[i]? = some (pc, 3, .invokestatic idx, a, b, v, w)) (hz : ny_zs z na = true) (hlk : ny_mem (.methodLink y.1.cls idx z.1) = true)
    (hst : St = av.reverse ++ S) (hna : av.length = na) (hbud : k + mc' ≤ mc ∧ n + ms' ≤ ms) (hS4 : S.length ≤ 4) (hcall : ny_Call d mc' ms' z av K I R Ret')
    (kk : ∀ v K' I' R', Ret' v K' I' R' → ny_G (d + 1) mc ms y (pc + 3) L (v.toList ++ S) K' I' R' (k + mc') (n + ms') Ret) : ny_G (d + 1) mc ms y pc L St K I R k n Ret := by
  intro p l e Rm s m args below meth c H locs ls Q E C hk hn hR hl hq
  have hd := ny_dec hy hi
  simp only [ny_zs, ny_zb, Bool.and_eq_true, decide_eq_true_eq] at hz
  obtain ⟨⟨⟨⟨⟨⟨hz1, hz2⟩, hz3⟩, hz4⟩, hz5⟩, -⟩, hz6⟩ := hz
  obtain ⟨hx, hb, hr, hml, hown, hts, hlo, hin, hf1, hf2, hc, hs, hSS, hX, hsz⟩ := id C
  refine ny_szW hsz hR fun hsz2 => ?_
  have hcs := ny_catsum E S
  have cw : CallB Rm s args y.1.cls idx z.1 z.2.1 z.2.2.1 z.2.2.2.1 (ny_W z) (ny_rm d mc' ms') mc' ms' na ∧ (Cond.static z.1).before args s = true := by
    refine va_cwS na hts (ny_good ?_) rfl rfl rfl hz4 ⟨hf1, ?_⟩
    · intro w hw
      unfold va_wsS ny_W at hw
      simp only [List.cons_append, List.nil_append, List.mem_cons] at hw
      rcases hw with rfl | rfl | rfl | rfl | hw
      · exact ny_mem_tb hlk
      · exact ny_mem_tb hz6
      · exact ny_mem_tb hz1
      · exact ny_mem_tb hz2
      · exact hw
    · show 8 + (z.2.2.1 + 11) + 64 * (d + 1) ≤ Rm.locals
      omega
  have hpre := ny_pre_at (av := av) C hR hsz2
  subst hst
  rw [List.map_append, List.map_reverse]
  refine ny_cont (va_runS (rest := S.map (ny_v E)) ⟨hx, hb, hml, hown, hts⟩ (hcall l E) cw ⟨ny_blind E _ K I R, hpre⟩ rfl (by rw [List.length_map]; exact hna) hl.1 rfl (lv_room (by omega)) hd ⟨by omega, by omega⟩) hR.2.1 fun v K' I' R' H1 locs1 h1 h2 h3 h4 => ?_
  have eqv : (v.map (ny_v E)).toList ++ S.map (ny_v E) = (v.toList ++ S).map (ny_v E) := by cases v <;> simp
  rw [eqv]
  have hz := hR.2.2
  exact kk v K' I' R' h1 p l e Rm s m args below meth c H1 locs1 ls Q E C hbud.1 hbud.2 ⟨h2, h4, by omega⟩ hl hq
end NYCM
end
section
/-! the methods that are called: their words; the links -/
def ny_at (i : Nat) (w : Cond) : Bool := decide (lw_tbl[i]? = some w) && goodWord w
theorem ny_at_mem {i : Nat} {w : Cond} (h : ny_at i w = true) : ny_mem w = true := by
  simp only [ny_at, Bool.and_eq_true, decide_eq_true_eq] at h
  simp only [ny_mem, Bool.and_eq_true, decide_eq_true_eq]
  exact ⟨List.mem_of_getElem? h.1, h.2⟩
def ny_zr (z : ny_M) (na : Nat) : Bool := plainName z.1.cls && decide (z.1.cls ≠ "java/lang/invoke/MethodHandle" ∧ z.1.cls ≠ "java/lang/invoke/VarHandle" ∧ (parseMethodDescriptor z.1.desc).map (fun d => d.parameters.length) = some na) && decide (z.2.2.1 ≤ 30) && (!z.2.2.2.2.1 || decide (z.1.name = "<init>"))
theorem ny_zb_of {z : ny_M} {na : Nat} (h1 : ny_mem (.initialized z.1.cls) = true) (h2 : ny_mem (.code z.1 z.2.1 z.2.2.1 z.2.2.2.1) = true) (h : ny_zr z na = true) : ny_zb z na = true := by
  simp only [ny_zr, Bool.and_eq_true] at h
  unfold ny_zb
  simp only [Bool.and_eq_true]
  exact ⟨⟨⟨⟨⟨h1, h2⟩, h.1.1.1⟩, h.1.1.2⟩, h.1.2⟩, h.2⟩
theorem ny_zv_of {z : ny_M} {na : Nat} (i1 i2 i3 i4 : Nat) (h : (ny_at i1 (.initialized z.1.cls) && ny_at i2 (.code z.1 z.2.1 z.2.2.1 z.2.2.2.1) && ny_at i3 (.instanceMethod z.1) && ny_at i4 (.selects z.1.cls z.1 z.1) && ny_zr z na) = true) : ny_zv z na = true := by
  simp only [Bool.and_eq_true] at h
  unfold ny_zv
  simp only [Bool.and_eq_true]
  exact ⟨⟨ny_zb_of (ny_at_mem h.1.1.1.1) (ny_at_mem h.1.1.1.2) h.2, ny_at_mem h.1.1.2⟩, ny_at_mem h.1.2⟩
theorem ny_zs_of {z : ny_M} {na : Nat} (i1 i2 i3 : Nat) (h : (ny_at i1 (.initialized z.1.cls) && ny_at i2 (.code z.1 z.2.1 z.2.2.1 z.2.2.2.1) && ny_at i3 (.static z.1) && ny_zr z na) = true) : ny_zs z na = true := by
  simp only [Bool.and_eq_true] at h
  unfold ny_zs
  simp only [Bool.and_eq_true]
  exact ⟨ny_zb_of (ny_at_mem h.1.1.1) (ny_at_mem h.1.1.2) h.2, ny_at_mem h.1.2⟩
theorem ny_zi_of {z : ny_M} {na : Nat} (i1 i2 i3 : Nat) (h : (ny_at i1 (.initialized z.1.cls) && ny_at i2 (.code z.1 z.2.1 z.2.2.1 z.2.2.2.1) && ny_at i3 (.instanceMethod z.1) && ny_zr z na && decide (z.1.name = "<init>") && decide (z.2.2.2.1 = none)) = true) : ny_zi z na = true := by
  simp only [Bool.and_eq_true] at h
  unfold ny_zi
  simp only [Bool.and_eq_true]
  exact ⟨⟨⟨ny_zb_of (ny_at_mem h.1.1.1.1.1) (ny_at_mem h.1.1.1.1.2) h.1.1.2, ny_at_mem h.1.1.1.2⟩, h.1.2⟩, h.2⟩
theorem z_Ac_init : ny_zi m_Ac_init 0 = true := ny_zi_of 109 399 398 (by decide +kernel)
theorem z_Ac_clear : ny_zv m_Ac_clear 0 = true := ny_zv_of 109 1150 1148 1149 (by decide +kernel)
theorem z_Ac_begin : ny_zv m_Ac_begin 3 = true := ny_zv_of 109 1154 1152 1153 (by decide +kernel)
theorem z_Ac_ran : ny_zv m_Ac_ran 1 = true := ny_zv_of 109 1162 1161 30 (by decide +kernel)
theorem z_Ac_poses : ny_zv m_Ac_poses 1 = true := ny_zv_of 109 1158 1156 1157 (by decide +kernel)
theorem z_Ac_drips : ny_zv m_Ac_drips 1 = true := ny_zv_of 109 1170 1168 1169 (by decide +kernel)
theorem z_Ac_glances : ny_zv m_Ac_glances 1 = true := ny_zv_of 109 1179 1177 1178 (by decide +kernel)
theorem z_Ac_leaves : ny_zv m_Ac_leaves 1 = true := ny_zv_of 109 1191 1189 1190 (by decide +kernel)
theorem z_Ac_figurePoses : ny_zv m_Ac_figurePoses 1 = true := ny_zv_of 109 1166 1165 31 (by decide +kernel)
theorem z_Ac_figureDrips : ny_zv m_Ac_figureDrips 1 = true := ny_zv_of 109 1174 1173 32 (by decide +kernel)
theorem z_Ac_figureGlances : ny_zv m_Ac_figureGlances 1 = true := ny_zv_of 109 1187 1186 34 (by decide +kernel)
theorem z_Ac_noviceGlances : ny_zv m_Ac_noviceGlances 1 = true := ny_zv_of 109 1183 1182 33 (by decide +kernel)
theorem z_Ac_figureLeaves : ny_zv m_Ac_figureLeaves 1 = true := ny_zv_of 109 1195 1194 35 (by decide +kernel)
theorem z_Ba_init : ny_zi m_Ba_init 0 = true := ny_zi_of 102 133 132 (by decide +kernel)
theorem z_Ba_become : ny_zv m_Ba_become 1 = true := ny_zv_of 102 1219 1217 1218 (by decide +kernel)
theorem z_Ba_copyOfNow : ny_zv m_Ba_copyOfNow 0 = true := ny_zv_of 102 834 832 833 (by decide +kernel)
theorem z_Ba_isFigure : ny_zv m_Ba_isFigure 1 = true := ny_zv_of 102 514 512 513 (by decide +kernel)
theorem z_Ba_isAct : ny_zv m_Ba_isAct 1 = true := ny_zv_of 102 1070 1068 1069 (by decide +kernel)
theorem z_Ba_isSet : ny_zv m_Ba_isSet 1 = true := ny_zv_of 102 958 956 957 (by decide +kernel)
theorem z_Ba_isOver : ny_zv m_Ba_isOver 1 = true := ny_zv_of 102 635 633 634 (by decide +kernel)
theorem z_Ba_weatherOf : ny_zv m_Ba_weatherOf 1 = true := ny_zv_of 102 533 531 532 (by decide +kernel)
theorem z_Ba_sunOf : ny_zv m_Ba_sunOf 1 = true := ny_zv_of 102 529 527 528 (by decide +kernel)
theorem z_Ba_guestsOf : ny_zv m_Ba_guestsOf 1 = true := ny_zv_of 102 554 552 553 (by decide +kernel)
theorem z_Ba_isUp : ny_zv m_Ba_isUp 2 = true := ny_zv_of 102 548 546 547 (by decide +kernel)
theorem z_Ba_upSet : ny_zv m_Ba_upSet 1 = true := ny_zv_of 102 640 638 639 (by decide +kernel)
theorem z_Ba_wearies : ny_zv m_Ba_wearies 2 = true := ny_zv_of 102 525 523 524 (by decide +kernel)
theorem z_Ba_shows : ny_zv m_Ba_shows 2 = true := ny_zv_of 102 544 542 543 (by decide +kernel)
theorem z_Ba_pays : ny_zv m_Ba_pays 2 = true := ny_zv_of 102 564 562 563 (by decide +kernel)
theorem z_Ba_will : ny_zv m_Ba_will 2 = true := ny_zv_of 102 573 571 572 (by decide +kernel)
theorem z_Ba_mayBeRelieved : ny_zv m_Ba_mayBeRelieved 2 = true := ny_zv_of 102 568 566 567 (by decide +kernel)
theorem z_Ba_goBy : ny_zv m_Ba_goBy 2 = true := ny_zv_of 102 818 816 817 (by decide +kernel)
theorem z_Ba_restAct : ny_zv m_Ba_restAct 1 = true := ny_zv_of 102 809 807 808 (by decide +kernel)
theorem z_Ba_restWorth : ny_zv m_Ba_restWorth 1 = true := ny_zv_of 102 830 828 829 (by decide +kernel)
theorem z_Ba_restRelieves : ny_zv m_Ba_restRelieves 1 = true := ny_zv_of 102 850 848 849 (by decide +kernel)
theorem z_Ba_restFaints : ny_zv m_Ba_restFaints 1 = true := ny_zv_of 102 871 869 870 (by decide +kernel)
theorem z_Ba_restBestBy : ny_zv m_Ba_restBestBy 3 = true := ny_zv_of 102 858 856 857 (by decide +kernel)
theorem z_Ba_aheadOf : ny_zv m_Ba_aheadOf 1 = true := ny_zv_of 102 880 878 879 (by decide +kernel)
theorem z_Ba_areClose : ny_zv m_Ba_areClose 2 = true := ny_zv_of 102 901 900 19 (by decide +kernel)
theorem z_Ba_closeTo : ny_zv m_Ba_closeTo 2 = true := ny_zv_of 102 897 896 18 (by decide +kernel)
theorem z_Ba_ringOf : ny_zv m_Ba_ringOf 1 = true := ny_zv_of 102 893 891 892 (by decide +kernel)
theorem z_Ba_ringCount : ny_zv m_Ba_ringCount 0 = true := ny_zv_of 102 888 886 887 (by decide +kernel)
theorem z_Ba_stepsRound : ny_zv m_Ba_stepsRound 4 = true := ny_zv_of 102 913 911 912 (by decide +kernel)
theorem z_Ba_nextZ : ny_zs m_Ba_nextZ 1 = true := ny_zs_of 102 1030 1029 (by decide +kernel)
theorem z_Ba_actOf : ny_zv m_Ba_actOf 1 = true := ny_zv_of 102 1035 1033 1034 (by decide +kernel)
theorem z_Ba_timesByLot : ny_zv m_Ba_timesByLot 2 = true := ny_zv_of 102 1043 1041 1042 (by decide +kernel)
theorem z_Ki_isKind : ny_zs m_Ki_isKind 1 = true := ny_zs_of 113 753 752 (by decide +kernel)
theorem z_Ki_isMade : ny_zs m_Ki_isMade 1 = true := ny_zs_of 113 496 495 (by decide +kernel)
theorem z_Ki_isUnder : ny_zs m_Ki_isUnder 2 = true := ny_zs_of 113 580 579 (by decide +kernel)
theorem z_Ki_wearies : ny_zs m_Ki_wearies 3 = true := ny_zs_of 113 536 535 (by decide +kernel)
theorem z_Ki_shows : ny_zs m_Ki_shows 4 = true := ny_zs_of 113 557 556 (by decide +kernel)
theorem z_Mo_init : ny_zi m_Mo_init 0 = true := ny_zi_of 103 139 138 (by decide +kernel)
theorem z_Mo_become : ny_zv m_Mo_become 1 = true := ny_zv_of 103 838 836 837 (by decide +kernel)
theorem z_Mo_clear : ny_zv m_Mo_clear 0 = true := ny_zv_of 103 626 624 625 (by decide +kernel)
theorem z_Mo_isRelieved : ny_zv m_Mo_isRelieved 1 = true := ny_zv_of 103 518 516 517 (by decide +kernel)
theorem z_Mo_putRelieved : ny_zv m_Mo_putRelieved 2 = true := ny_zv_of 103 506 504 505 (by decide +kernel)
theorem z_Pl_init : ny_zi m_Pl_init 0 = true := ny_zi_of 108 346 345 (by decide +kernel)
theorem z_Pl_start : ny_zv m_Pl_start 2 = true := ny_zv_of 108 925 924 20 (by decide +kernel)
theorem z_Pl_tryAll : ny_zv m_Pl_tryAll 3 = true := ny_zv_of 108 921 919 920 (by decide +kernel)
theorem z_Pl_tryFrom : ny_zv m_Pl_tryFrom 4 = true := ny_zv_of 108 932 931 21 (by decide +kernel)
theorem z_Pl_noteWorth : ny_zv m_Pl_noteWorth 1 = true := ny_zv_of 108 936 935 22 (by decide +kernel)
theorem z_Pl_noteRelieved : ny_zv m_Pl_noteRelieved 2 = true := ny_zv_of 108 941 940 23 (by decide +kernel)
theorem z_Pl_valueOfGame : ny_zv m_Pl_valueOfGame 2 = true := ny_zv_of 108 970 968 969 (by decide +kernel)
theorem z_Pl_valueFrom : ny_zv m_Pl_valueFrom 2 = true := ny_zv_of 108 974 973 24 (by decide +kernel)
theorem z_Re_init : ny_zi m_Re_init 0 = true := ny_zi_of 105 203 202 (by decide +kernel)
theorem z_Re_become : ny_zv m_Re_become 1 = true := ny_zv_of 105 1225 1223 1224 (by decide +kernel)
theorem z_Re_add : ny_zv m_Re_add 4 = true := ny_zv_of 105 986 984 985 (by decide +kernel)
theorem z_Re_tryAll : ny_zv m_Re_tryAll 1 = true := ny_zv_of 105 998 996 997 (by decide +kernel)
theorem z_Re_tryOne : ny_zv m_Re_tryOne 4 = true := ny_zv_of 105 1002 1001 25 (by decide +kernel)
theorem z_Re_wrongBy : ny_zv m_Re_wrongBy 4 = true := ny_zv_of 105 1006 1005 26 (by decide +kernel)
theorem z_Re_wrongBehind : ny_zv m_Re_wrongBehind 3 = true := ny_zv_of 105 1010 1009 27 (by decide +kernel)
theorem z_Ru_init : ny_zi m_Ru_init 0 = true := ny_zi_of 104 163 162 (by decide +kernel)
theorem z_Ru_clear : ny_zv m_Ru_clear 0 = true := ny_zv_of 104 746 744 745 (by decide +kernel)
theorem z_Ru_become : ny_zv m_Ru_become 1 = true := ny_zv_of 104 798 796 797 (by decide +kernel)
theorem z_Ru_addNumber : ny_zv m_Ru_addNumber 1 = true := ny_zv_of 104 785 783 784 (by decide +kernel)
theorem z_Ru_addStep : ny_zv m_Ru_addStep 3 = true := ny_zv_of 104 790 788 789 (by decide +kernel)
theorem z_Ru_addRule : ny_zv m_Ru_addRule 2 = true := ny_zv_of 104 794 792 793 (by decide +kernel)
theorem z_Ru_tells : ny_zv m_Ru_tells 1 = true := ny_zv_of 104 577 575 576 (by decide +kernel)
theorem z_Ru_holds : ny_zv m_Ru_holds 2 = true := ny_zv_of 104 586 585 0 (by decide +kernel)
theorem z_Sh_init : ny_zi m_Sh_init 0 = true := ny_zi_of 110 426 425 (by decide +kernel)
theorem z_Sh_isSort : ny_zs m_Sh_isSort 1 = true := ny_zs_of 110 1082 1081 (by decide +kernel)
theorem z_Sh_becomeRow : ny_zv m_Sh_becomeRow 2 = true := ny_zv_of 110 1078 1076 1077 (by decide +kernel)
theorem z_Sh_has : ny_zv m_Sh_has 1 = true := ny_zv_of 110 1090 1088 1089 (by decide +kernel)
theorem z_Sh_refusalAs : ny_zv m_Sh_refusalAs 1 = true := ny_zv_of 110 1102 1100 1101 (by decide +kernel)
theorem z_Sh_narrowed : ny_zv m_Sh_narrowed 1 = true := ny_zv_of 110 1094 1092 1093 (by decide +kernel)
theorem z_Sf_init : ny_zi m_Sf_init 0 = true := ny_zi_of 111 444 443 (by decide +kernel)
theorem z_Sf_holdNothing : ny_zv m_Sf_holdNothing 0 = true := ny_zv_of 111 1126 1124 1125 (by decide +kernel)
theorem z_Sf_holdFigure : ny_zv m_Sf_holdFigure 1 = true := ny_zv_of 111 1122 1120 1121 (by decide +kernel)
theorem z_Sf_holdRow : ny_zv m_Sf_holdRow 2 = true := ny_zv_of 111 1130 1128 1129 (by decide +kernel)
theorem z_Sf_isRow : ny_zv m_Sf_isRow 0 = true := ny_zv_of 111 1141 1139 1140 (by decide +kernel)
theorem z_Ta_init : ny_zi m_Ta_init 0 = true := ny_zi_of 107 308 307 (by decide +kernel)
theorem z_Ta_takes : ny_zv m_Ta_takes 2 = true := ny_zv_of 107 648 646 647 (by decide +kernel)
theorem z_Ta_readInto : ny_zv m_Ta_readInto 1 = true := ny_zv_of 107 656 654 655 (by decide +kernel)
theorem z_Ta_isLetter : ny_zs m_Ta_isLetter 1 = true := ny_zs_of 107 667 666 (by decide +kernel)
theorem z_Ta_isDigit : ny_zs m_Ta_isDigit 1 = true := ny_zs_of 107 670 669 (by decide +kernel)
theorem z_Ta_isSign : ny_zs m_Ta_isSign 1 = true := ny_zs_of 107 734 733 (by decide +kernel)
theorem z_Ta_split : ny_zv m_Ta_split 0 = true := ny_zv_of 107 660 659 2 (by decide +kernel)
theorem z_Ta_goesOn : ny_zv m_Ta_goesOn 1 = true := ny_zv_of 107 664 663 3 (by decide +kernel)
theorem z_Ta_addToken : ny_zv m_Ta_addToken 2 = true := ny_zv_of 107 738 737 7 (by decide +kernel)
theorem z_Ta_endOf : ny_zv m_Ta_endOf 1 = true := ny_zv_of 107 678 677 5 (by decide +kernel)
theorem z_Ta_tokenAt : ny_zv m_Ta_tokenAt 1 = true := ny_zv_of 107 674 673 4 (by decide +kernel)
theorem z_Ta_wordAt : ny_zv m_Ta_wordAt 2 = true := ny_zv_of 107 682 681 6 (by decide +kernel)
theorem z_Ta_numberAt : ny_zv m_Ta_numberAt 1 = true := ny_zv_of 107 742 741 8 (by decide +kernel)
theorem z_Ta_pass : ny_zv m_Ta_pass 0 = true := ny_zv_of 107 757 756 10 (by decide +kernel)
theorem z_Ta_passes : ny_zv m_Ta_passes 1 = true := ny_zv_of 107 761 760 11 (by decide +kernel)
theorem z_Ta_readRule : ny_zv m_Ta_readRule 0 = true := ny_zv_of 107 750 749 9 (by decide +kernel)
theorem z_Ta_readCondition : ny_zv m_Ta_readCondition 1 = true := ny_zv_of 107 765 764 12 (by decide +kernel)
theorem z_Ta_readAll : ny_zv m_Ta_readAll 1 = true := ny_zv_of 107 769 768 13 (by decide +kernel)
theorem z_Ta_readOne : ny_zv m_Ta_readOne 1 = true := ny_zv_of 107 773 772 14 (by decide +kernel)
theorem z_Ta_readComparison : ny_zv m_Ta_readComparison 0 = true := ny_zv_of 107 777 776 15 (by decide +kernel)
theorem z_Ta_placeOfValue : ny_zv m_Ta_placeOfValue 0 = true := ny_zv_of 107 781 780 16 (by decide +kernel)
theorem z_No_init : ny_zi m_No_init 0 = true := ny_zi_of 101 125 124 (by decide +kernel)
theorem z_No_figure : ny_zv m_No_figure 4 = true := ny_zv_of 101 493 491 492 (by decide +kernel)
theorem z_No_figureOf : ny_zv m_No_figureOf 2 = true := ny_zv_of 101 510 508 509 (by decide +kernel)
theorem z_No_change : ny_zv m_No_change 3 = true := ny_zv_of 101 591 589 590 (by decide +kernel)
theorem z_No_remake : ny_zv m_No_remake 2 = true := ny_zv_of 101 602 600 601 (by decide +kernel)
theorem z_No_weather : ny_zv m_No_weather 2 = true := ny_zv_of 101 606 604 605 (by decide +kernel)
theorem z_No_niche : ny_zv m_No_niche 3 = true := ny_zv_of 101 610 608 609 (by decide +kernel)
theorem z_No_nicheOf : ny_zv m_No_nicheOf 2 = true := ny_zv_of 101 614 612 613 (by decide +kernel)
theorem z_No_ends : ny_zv m_No_ends 1 = true := ny_zv_of 101 618 616 617 (by decide +kernel)
theorem z_No_anew : ny_zv m_No_anew 0 = true := ny_zv_of 101 622 620 621 (by decide +kernel)
theorem z_No_state : ny_zv m_No_state 1 = true := ny_zv_of 101 631 629 630 (by decide +kernel)
theorem z_No_feed : ny_zv m_No_feed 2 = true := ny_zv_of 101 644 642 643 (by decide +kernel)
theorem z_No_rules : ny_zv m_No_rules 0 = true := ny_zv_of 101 652 650 651 (by decide +kernel)
theorem z_No_bell : ny_zv m_No_bell 0 = true := ny_zv_of 101 805 803 804 (by decide +kernel)
theorem z_No_on : ny_zv m_No_on 1 = true := ny_zv_of 101 826 824 825 (by decide +kernel)
theorem z_No_when : ny_zv m_No_when 1 = true := ny_zv_of 101 846 844 845 (by decide +kernel)
theorem z_No_graceFor : ny_zv m_No_graceFor 1 = true := ny_zv_of 101 854 852 853 (by decide +kernel)
theorem z_No_nicheFor : ny_zv m_No_nicheFor 1 = true := ny_zv_of 101 863 861 862 (by decide +kernel)
theorem z_No_faints : ny_zv m_No_faints 1 = true := ny_zv_of 101 867 865 866 (by decide +kernel)
theorem z_No_rank : ny_zv m_No_rank 1 = true := ny_zv_of 101 875 873 874 (by decide +kernel)
theorem z_No_rings : ny_zv m_No_rings 1 = true := ny_zv_of 101 884 882 883 (by decide +kernel)
theorem z_No_way : ny_zv m_No_way 3 = true := ny_zv_of 101 909 907 908 (by decide +kernel)
theorem z_No_best : ny_zv m_No_best 1 = true := ny_zv_of 101 917 915 916 (by decide +kernel)
theorem z_No_ith : ny_zv m_No_ith 2 = true := ny_zv_of 101 946 944 945 (by decide +kernel)
theorem z_No_ways : ny_zv m_No_ways 1 = true := ny_zv_of 101 950 948 949 (by decide +kernel)
theorem z_No_roster : ny_zv m_No_roster 2 = true := ny_zv_of 101 954 952 953 (by decide +kernel)
theorem z_No_bars : ny_zv m_No_bars 2 = true := ny_zv_of 101 962 960 961 (by decide +kernel)
theorem z_No_game : ny_zv m_No_game 1 = true := ny_zv_of 101 966 964 965 (by decide +kernel)
theorem z_No_play : ny_zv m_No_play 1 = true := ny_zv_of 101 978 976 977 (by decide +kernel)
theorem z_No_report : ny_zv m_No_report 4 = true := ny_zv_of 101 982 980 981 (by decide +kernel)
theorem z_No_forget : ny_zv m_No_forget 0 = true := ny_zv_of 101 990 988 989 (by decide +kernel)
theorem z_No_nymph : ny_zv m_No_nymph 1 = true := ny_zv_of 101 994 992 993 (by decide +kernel)
theorem z_No_liar : ny_zv m_No_liar 0 = true := ny_zv_of 101 1019 1017 1018 (by decide +kernel)
theorem z_No_seed : ny_zv m_No_seed 1 = true := ny_zv_of 101 1023 1021 1022 (by decide +kernel)
theorem z_No_lot : ny_zv m_No_lot 0 = true := ny_zv_of 101 1027 1025 1026 (by decide +kernel)
theorem z_No_times : ny_zv m_No_times 2 = true := ny_zv_of 101 1039 1037 1038 (by decide +kernel)
theorem z_No_prove : ny_zv m_No_prove 1 = true := ny_zv_of 101 1049 1047 1048 (by decide +kernel)
theorem z_No_row : ny_zv m_No_row 2 = true := ny_zv_of 101 1054 1052 1053 (by decide +kernel)
theorem z_No_alterRow : ny_zv m_No_alterRow 3 = true := ny_zv_of 101 1062 1060 1061 (by decide +kernel)
theorem z_No_judge : ny_zv m_No_judge 0 = true := ny_zv_of 101 1066 1064 1065 (by decide +kernel)
theorem z_No_sheet : ny_zv m_No_sheet 3 = true := ny_zv_of 101 1074 1072 1073 (by decide +kernel)
theorem z_No_write : ny_zv m_No_write 3 = true := ny_zv_of 101 1086 1084 1085 (by decide +kernel)
theorem z_No_item : ny_zv m_No_item 3 = true := ny_zv_of 101 1098 1096 1097 (by decide +kernel)
theorem z_No_goAll : ny_zv m_No_goAll 3 = true := ny_zv_of 101 1106 1104 1105 (by decide +kernel)
theorem z_No_wouldBe : ny_zv m_No_wouldBe 3 = true := ny_zv_of 101 1114 1112 1113 (by decide +kernel)
theorem z_No_shelf : ny_zv m_No_shelf 3 = true := ny_zv_of 101 1118 1116 1117 (by decide +kernel)
theorem z_No_taken : ny_zv m_No_taken 2 = true := ny_zv_of 101 1136 1134 1135 (by decide +kernel)
theorem z_No_act : ny_zv m_No_act 3 = true := ny_zv_of 101 1146 1144 1145 (by decide +kernel)
theorem z_No_trace : ny_zv m_No_trace 1 = true := ny_zv_of 101 1201 1199 1200 (by decide +kernel)
theorem z_No_many : ny_zv m_No_many 1 = true := ny_zv_of 101 1205 1203 1204 (by decide +kernel)
theorem z_No_keep : ny_zv m_No_keep 0 = true := ny_zv_of 101 1215 1213 1214 (by decide +kernel)
theorem z_No_again : ny_zv m_No_again 0 = true := ny_zv_of 101 1230 1228 1229 (by decide +kernel)
theorem z_No_isBetween : ny_zs m_No_isBetween 3 = true := ny_zs_of 101 499 498 (by decide +kernel)
theorem z_No_isNiche : ny_zs m_No_isNiche 1 = true := ny_zs_of 101 502 501 (by decide +kernel)
theorem z_No_oneIf : ny_zs m_No_oneIf 1 = true := ny_zs_of 101 521 520 (by decide +kernel)
theorem z_No_put : ny_zs m_No_put 3 = true := ny_zs_of 101 594 593 (by decide +kernel)
theorem z_No_changeRelieved : ny_zv m_No_changeRelieved 2 = true := ny_zv_of 101 598 597 1 (by decide +kernel)
theorem z_No_goOn : ny_zv m_No_goOn 1 = true := ny_zv_of 101 814 813 17 (by decide +kernel)
theorem z_No_isInRow : ny_zv m_No_isInRow 2 = true := ny_zv_of 101 1058 1057 28 (by decide +kernel)
theorem z_No_refusalOfActs : ny_zv m_No_refusalOfActs 2 = true := ny_zv_of 101 1110 1109 29 (by decide +kernel)
theorem z_Md_init : ny_zi m_Md_init 0 = true := ny_zi_of 112 1235 1234 (by decide +kernel)
theorem z_Md_isIn : ny_zs m_Md_isIn 3 = true := ny_zs_of 112 1365 1364 (by decide +kernel)
theorem z_Md_isOne : ny_zv m_Md_isOne 1 = true := ny_zv_of 112 1378 1377 36 (by decide +kernel)
theorem z_Md_isNiche : ny_zs m_Md_isNiche 1 = true := ny_zs_of 112 1370 1369 (by decide +kernel)
theorem z_Md_its : ny_zv m_Md_its 2 = true := ny_zv_of 112 1386 1385 38 (by decide +kernel)
theorem z_Md_becomes : ny_zv m_Md_becomes 2 = true := ny_zv_of 112 1447 1446 47 (by decide +kernel)
theorem z_Md_laysAside : ny_zv m_Md_laysAside 1 = true := ny_zv_of 112 1597 1596 71 (by decide +kernel)
theorem z_Md_laysBack : ny_zv m_Md_laysBack 1 = true := ny_zv_of 112 1601 1600 72 (by decide +kernel)
theorem z_Md_isOver : ny_zv m_Md_isOver 0 = true := ny_zv_of 112 1481 1480 48 (by decide +kernel)
theorem z_Md_size : ny_zs m_Md_size 1 = true := ny_zs_of 112 1869 1868 (by decide +kernel)
theorem z_Md_least : ny_zs m_Md_least 2 = true := ny_zs_of 112 1410 1409 (by decide +kernel)
theorem z_Md_greatest : ny_zs m_Md_greatest 2 = true := ny_zs_of 112 1396 1395 (by decide +kernel)
theorem z_Md_figure : ny_zv m_Md_figure 4 = true := ny_zv_of 112 1361 1359 1360 (by decide +kernel)
theorem z_Md_weatherOf : ny_zv m_Md_weatherOf 1 = true := ny_zv_of 112 1390 1389 39 (by decide +kernel)
theorem z_Md_wearies : ny_zs m_Md_wearies 3 = true := ny_zs_of 112 1393 1392 (by decide +kernel)
theorem z_Md_shows : ny_zs m_Md_shows 4 = true := ny_zs_of 112 1407 1406 (by decide +kernel)
theorem z_Md_isUp : ny_zv m_Md_isUp 1 = true := ny_zv_of 112 1404 1403 41 (by decide +kernel)
theorem z_Md_wearied : ny_zv m_Md_wearied 1 = true := ny_zv_of 112 1382 1381 37 (by decide +kernel)
theorem z_Md_shown : ny_zv m_Md_shown 1 = true := ny_zv_of 112 1400 1399 40 (by decide +kernel)
theorem z_Md_pays : ny_zv m_Md_pays 1 = true := ny_zv_of 112 1414 1413 42 (by decide +kernel)
theorem z_Md_isUnder : ny_zs m_Md_isUnder 2 = true := ny_zs_of 112 1425 1424 (by decide +kernel)
theorem z_Md_valueOf : ny_zv m_Md_valueOf 2 = true := ny_zv_of 112 1433 1432 46 (by decide +kernel)
theorem z_Md_holds : ny_zv m_Md_holds 2 = true := ny_zv_of 112 1429 1428 45 (by decide +kernel)
theorem z_Md_will : ny_zv m_Md_will 1 = true := ny_zv_of 112 1422 1421 44 (by decide +kernel)
theorem z_Md_mayBe : ny_zv m_Md_mayBe 1 = true := ny_zv_of 112 1418 1417 43 (by decide +kernel)
theorem z_Md_figureOf : ny_zv m_Md_figureOf 2 = true := ny_zv_of 112 1374 1372 1373 (by decide +kernel)
theorem z_Md_greatestOf : ny_zs m_Md_greatestOf 1 = true := ny_zs_of 112 1443 1442 (by decide +kernel)
theorem z_Md_change : ny_zv m_Md_change 3 = true := ny_zv_of 112 1439 1437 1438 (by decide +kernel)
theorem z_Md_remake : ny_zv m_Md_remake 2 = true := ny_zv_of 112 1451 1449 1450 (by decide +kernel)
theorem z_Md_weather : ny_zv m_Md_weather 2 = true := ny_zv_of 112 1455 1453 1454 (by decide +kernel)
theorem z_Md_niche : ny_zv m_Md_niche 3 = true := ny_zv_of 112 1460 1458 1459 (by decide +kernel)
theorem z_Md_nicheOf : ny_zv m_Md_nicheOf 2 = true := ny_zv_of 112 1464 1462 1463 (by decide +kernel)
theorem z_Md_ends : ny_zv m_Md_ends 1 = true := ny_zv_of 112 1468 1466 1467 (by decide +kernel)
theorem z_Md_anew : ny_zv m_Md_anew 0 = true := ny_zv_of 112 1473 1471 1472 (by decide +kernel)
theorem z_Md_relievedOnes : ny_zv m_Md_relievedOnes 0 = true := ny_zv_of 112 1485 1484 49 (by decide +kernel)
theorem z_Md_thoseUp : ny_zv m_Md_thoseUp 0 = true := ny_zv_of 112 1489 1488 50 (by decide +kernel)
theorem z_Md_state : ny_zv m_Md_state 1 = true := ny_zv_of 112 1477 1475 1476 (by decide +kernel)
theorem z_Md_feed : ny_zv m_Md_feed 2 = true := ny_zv_of 112 1493 1491 1492 (by decide +kernel)
theorem z_Md_isAlpha : ny_zs m_Md_isAlpha 1 = true := ny_zs_of 112 1510 1509 (by decide +kernel)
theorem z_Md_isDigit : ny_zs m_Md_isDigit 1 = true := ny_zs_of 112 1513 1512 (by decide +kernel)
theorem z_Md_byteAt : ny_zv m_Md_byteAt 1 = true := ny_zv_of 112 1507 1506 52 (by decide +kernel)
theorem z_Md_nextToken : ny_zv m_Md_nextToken 0 = true := ny_zv_of 112 1503 1502 51 (by decide +kernel)
theorem z_Md_needs : ny_zv m_Md_needs 1 = true := ny_zv_of 112 1533 1532 57 (by decide +kernel)
theorem z_Md_isByte : ny_zv m_Md_isByte 1 = true := ny_zv_of 112 1553 1552 62 (by decide +kernel)
theorem z_Md_isName : ny_zv m_Md_isName 5 = true := ny_zv_of 112 1525 1524 55 (by decide +kernel)
theorem z_Md_isSame : ny_zv m_Md_isSame 4 = true := ny_zv_of 112 1529 1528 56 (by decide +kernel)
theorem z_Md_kindHere : ny_zv m_Md_kindHere 0 = true := ny_zv_of 112 1521 1520 54 (by decide +kernel)
theorem z_Md_doHere : ny_zv m_Md_doHere 0 = true := ny_zv_of 112 1573 1572 67 (by decide +kernel)
theorem z_Md_factHere : ny_zv m_Md_factHere 0 = true := ny_zv_of 112 1565 1564 65 (by decide +kernel)
theorem z_Md_isTwo : ny_zv m_Md_isTwo 2 = true := ny_zv_of 112 1537 1536 58 (by decide +kernel)
theorem z_Md_steps : ny_zv m_Md_steps 3 = true := ny_zv_of 112 1569 1568 66 (by decide +kernel)
theorem z_Md_valueHere : ny_zv m_Md_valueHere 0 = true := ny_zv_of 112 1561 1560 64 (by decide +kernel)
theorem z_Md_comparesHere : ny_zv m_Md_comparesHere 0 = true := ny_zv_of 112 1557 1556 63 (by decide +kernel)
theorem z_Md_oneHere : ny_zv m_Md_oneHere 0 = true := ny_zv_of 112 1549 1548 61 (by decide +kernel)
theorem z_Md_allHere : ny_zv m_Md_allHere 0 = true := ny_zv_of 112 1545 1544 60 (by decide +kernel)
theorem z_Md_condHere : ny_zv m_Md_condHere 0 = true := ny_zv_of 112 1541 1540 59 (by decide +kernel)
theorem z_Md_ruleHere : ny_zv m_Md_ruleHere 0 = true := ny_zv_of 112 1517 1516 53 (by decide +kernel)
theorem z_Md_rules : ny_zv m_Md_rules 0 = true := ny_zv_of 112 1499 1497 1498 (by decide +kernel)
theorem z_Md_goesWith : ny_zv m_Md_goesWith 1 = true := ny_zv_of 112 1585 1584 69 (by decide +kernel)
theorem z_Md_restAct : ny_zv m_Md_restAct 0 = true := ny_zv_of 112 1581 1580 68 (by decide +kernel)
theorem z_Md_bell : ny_zv m_Md_bell 0 = true := ny_zv_of 112 1577 1575 1576 (by decide +kernel)
theorem z_Md_onBy : ny_zv m_Md_onBy 1 = true := ny_zv_of 112 1593 1592 70 (by decide +kernel)
theorem z_Md_on : ny_zv m_Md_on 1 = true := ny_zv_of 112 1589 1587 1588 (by decide +kernel)
theorem z_Md_when : ny_zv m_Md_when 1 = true := ny_zv_of 112 1605 1603 1604 (by decide +kernel)
theorem z_Md_valueFor : ny_zv m_Md_valueFor 2 = true := ny_zv_of 112 1613 1612 73 (by decide +kernel)
theorem z_Md_graceFor : ny_zv m_Md_graceFor 1 = true := ny_zv_of 112 1609 1607 1608 (by decide +kernel)
theorem z_Md_nicheFor : ny_zv m_Md_nicheFor 1 = true := ny_zv_of 112 1617 1615 1616 (by decide +kernel)
theorem z_Md_faints : ny_zv m_Md_faints 1 = true := ny_zv_of 112 1621 1619 1620 (by decide +kernel)
theorem z_Md_rank : ny_zv m_Md_rank 1 = true := ny_zv_of 112 1625 1623 1624 (by decide +kernel)
theorem z_Md_areClose : ny_zv m_Md_areClose 2 = true := ny_zv_of 112 1637 1636 75 (by decide +kernel)
theorem z_Md_ringOf : ny_zv m_Md_ringOf 1 = true := ny_zv_of 112 1633 1632 74 (by decide +kernel)
theorem z_Md_rings : ny_zv m_Md_rings 1 = true := ny_zv_of 112 1629 1627 1628 (by decide +kernel)
theorem z_Md_stepsBy : ny_zv m_Md_stepsBy 4 = true := ny_zv_of 112 1645 1644 76 (by decide +kernel)
theorem z_Md_way : ny_zv m_Md_way 3 = true := ny_zv_of 112 1641 1639 1640 (by decide +kernel)
theorem z_Md_isSet : ny_zv m_Md_isSet 1 = true := ny_zv_of 112 1677 1676 79 (by decide +kernel)
theorem z_Md_plans : ny_zv m_Md_plans 4 = true := ny_zv_of 112 1660 1659 78 (by decide +kernel)
theorem z_Md_findsPlans : ny_zv m_Md_findsPlans 2 = true := ny_zv_of 112 1656 1655 77 (by decide +kernel)
theorem z_Md_isLong : ny_zs m_Md_isLong 1 = true := ny_zs_of 112 1652 1651 (by decide +kernel)
theorem z_Md_best : ny_zv m_Md_best 1 = true := ny_zv_of 112 1649 1647 1648 (by decide +kernel)
theorem z_Md_ith : ny_zv m_Md_ith 2 = true := ny_zv_of 112 1664 1662 1663 (by decide +kernel)
theorem z_Md_ways : ny_zv m_Md_ways 1 = true := ny_zv_of 112 1669 1667 1668 (by decide +kernel)
theorem z_Md_roster : ny_zv m_Md_roster 2 = true := ny_zv_of 112 1673 1671 1672 (by decide +kernel)
theorem z_Md_bars : ny_zv m_Md_bars 2 = true := ny_zv_of 112 1681 1679 1680 (by decide +kernel)
theorem z_Md_valueFrom : ny_zv m_Md_valueFrom 2 = true := ny_zv_of 112 1689 1688 80 (by decide +kernel)
theorem z_Md_game : ny_zv m_Md_game 1 = true := ny_zv_of 112 1685 1683 1684 (by decide +kernel)
theorem z_Md_play : ny_zv m_Md_play 1 = true := ny_zv_of 112 1693 1691 1692 (by decide +kernel)
theorem z_Md_report : ny_zv m_Md_report 4 = true := ny_zv_of 112 1697 1695 1696 (by decide +kernel)
theorem z_Md_forget : ny_zv m_Md_forget 0 = true := ny_zv_of 112 1701 1699 1700 (by decide +kernel)
theorem z_Md_stands : ny_zv m_Md_stands 3 = true := ny_zv_of 112 1713 1712 82 (by decide +kernel)
theorem z_Md_isFit : ny_zv m_Md_isFit 1 = true := ny_zv_of 112 1717 1716 83 (by decide +kernel)
theorem z_Md_findsFits : ny_zv m_Md_findsFits 1 = true := ny_zv_of 112 1709 1708 81 (by decide +kernel)
theorem z_Md_nymph : ny_zv m_Md_nymph 1 = true := ny_zv_of 112 1705 1703 1704 (by decide +kernel)
theorem z_Md_liar : ny_zv m_Md_liar 0 = true := ny_zv_of 112 1721 1719 1720 (by decide +kernel)
theorem z_Md_seed : ny_zv m_Md_seed 1 = true := ny_zv_of 112 1725 1723 1724 (by decide +kernel)
theorem z_Md_goesByLot : ny_zv m_Md_goesByLot 0 = true := ny_zv_of 112 1733 1732 84 (by decide +kernel)
theorem z_Md_lot : ny_zv m_Md_lot 0 = true := ny_zv_of 112 1729 1727 1728 (by decide +kernel)
theorem z_Md_times : ny_zv m_Md_times 2 = true := ny_zv_of 112 1738 1736 1737 (by decide +kernel)
theorem z_Md_prove : ny_zv m_Md_prove 1 = true := ny_zv_of 112 1744 1742 1743 (by decide +kernel)
theorem z_Md_isRow : ny_zv m_Md_isRow 2 = true := ny_zv_of 112 1752 1751 85 (by decide +kernel)
theorem z_Md_row : ny_zv m_Md_row 2 = true := ny_zv_of 112 1748 1746 1747 (by decide +kernel)
theorem z_Md_alterRow : ny_zv m_Md_alterRow 3 = true := ny_zv_of 112 1756 1754 1755 (by decide +kernel)
theorem z_Md_isAct : ny_zv m_Md_isAct 1 = true := ny_zv_of 112 1764 1763 86 (by decide +kernel)
theorem z_Md_judge : ny_zv m_Md_judge 0 = true := ny_zv_of 112 1760 1758 1759 (by decide +kernel)
theorem z_Md_isSheet : ny_zs m_Md_isSheet 1 = true := ny_zs_of 112 1771 1770 (by decide +kernel)
theorem z_Md_isShelf : ny_zs m_Md_isShelf 1 = true := ny_zs_of 112 1804 1803 (by decide +kernel)
theorem z_Md_sheet : ny_zv m_Md_sheet 3 = true := ny_zv_of 112 1768 1766 1767 (by decide +kernel)
theorem z_Md_write : ny_zv m_Md_write 3 = true := ny_zv_of 112 1776 1774 1775 (by decide +kernel)
theorem z_Md_lacks : ny_zv m_Md_lacks 2 = true := ny_zv_of 112 1784 1783 87 (by decide +kernel)
theorem z_Md_item : ny_zv m_Md_item 3 = true := ny_zv_of 112 1780 1778 1779 (by decide +kernel)
theorem z_Md_goAll : ny_zv m_Md_goAll 3 = true := ny_zv_of 112 1788 1786 1787 (by decide +kernel)
theorem z_Md_sumBy : ny_zv m_Md_sumBy 3 = true := ny_zv_of 112 1797 1796 88 (by decide +kernel)
theorem z_Md_wouldBe : ny_zv m_Md_wouldBe 3 = true := ny_zv_of 112 1793 1791 1792 (by decide +kernel)
theorem z_Md_shelf : ny_zv m_Md_shelf 3 = true := ny_zv_of 112 1801 1799 1800 (by decide +kernel)
theorem z_Md_heldOn : ny_zv m_Md_heldOn 1 = true := ny_zv_of 112 1814 1813 89 (by decide +kernel)
theorem z_Md_taken : ny_zv m_Md_taken 2 = true := ny_zv_of 112 1808 1806 1807 (by decide +kernel)
theorem z_Md_runs : ny_zv m_Md_runs 1 = true := ny_zv_of 112 1826 1825 91 (by decide +kernel)
theorem z_Md_posesPlain : ny_zv m_Md_posesPlain 1 = true := ny_zv_of 112 1830 1829 92 (by decide +kernel)
theorem z_Md_poses : ny_zv m_Md_poses 1 = true := ny_zv_of 112 1822 1821 90 (by decide +kernel)
theorem z_Md_dripsPlain : ny_zv m_Md_dripsPlain 1 = true := ny_zv_of 112 1838 1837 94 (by decide +kernel)
theorem z_Md_drips : ny_zv m_Md_drips 1 = true := ny_zv_of 112 1834 1833 93 (by decide +kernel)
theorem z_Md_glancesPlain : ny_zv m_Md_glancesPlain 1 = true := ny_zv_of 112 1850 1849 97 (by decide +kernel)
theorem z_Md_glancesOfNovice : ny_zv m_Md_glancesOfNovice 1 = true := ny_zv_of 112 1846 1845 96 (by decide +kernel)
theorem z_Md_glances : ny_zv m_Md_glances 1 = true := ny_zv_of 112 1842 1841 95 (by decide +kernel)
theorem z_Md_leavesPlain : ny_zv m_Md_leavesPlain 1 = true := ny_zv_of 112 1858 1857 99 (by decide +kernel)
theorem z_Md_leaves : ny_zv m_Md_leaves 1 = true := ny_zv_of 112 1854 1853 98 (by decide +kernel)
theorem z_Md_act : ny_zv m_Md_act 3 = true := ny_zv_of 112 1818 1816 1817 (by decide +kernel)
theorem z_Md_trace : ny_zv m_Md_trace 1 = true := ny_zv_of 112 1862 1860 1861 (by decide +kernel)
theorem z_Md_many : ny_zv m_Md_many 1 = true := ny_zv_of 112 1866 1864 1865 (by decide +kernel)
theorem z_Md_keep : ny_zv m_Md_keep 0 = true := ny_zv_of 112 1873 1871 1872 (by decide +kernel)
theorem z_Md_again : ny_zv m_Md_again 0 = true := ny_zv_of 112 1877 1875 1876 (by decide +kernel)
theorem z_Ji_bitCount : ny_zs m_Ji_bitCount 1 = true := ny_zs_of 120 1208 1207 (by decide +kernel)
theorem z_Js_length : ny_zv m_Js_length 0 = true := ny_zv_of 115 687 685 686 (by decide +kernel)
theorem z_Js_charAt : ny_zv m_Js_charAt 1 = true := ny_zv_of 115 697 695 696 (by decide +kernel)
theorem z_Js_coder : ny_zv m_Js_coder 0 = true := ny_zv_of 115 691 689 690 (by decide +kernel)
theorem z_Js_isLatin1 : ny_zv m_Js_isLatin1 0 = true := ny_zv_of 115 701 699 700 (by decide +kernel)
theorem z_Js_checkIndex : ny_zs m_Js_checkIndex 2 = true := ny_zs_of 115 707 706 (by decide +kernel)
theorem z_Jl_charAt : ny_zs m_Jl_charAt 2 = true := ny_zs_of 116 704 703 (by decide +kernel)
theorem z_Ja_fill : ny_zs m_Ja_fill 2 = true := ny_zs_of 106 244 243 (by decide +kernel)
theorem z_Jp_checkIndex : ny_zs m_Jp_checkIndex 3 = true := ny_zs_of 117 712 711 (by decide +kernel)
theorem l_Ac_30 : ny_mem (.methodLink "NymphRota$Acting" 30 m_Ac_ran.1) = true := ny_at_mem (i := 1159) (by decide +kernel)
theorem l_Ac_34 : ny_mem (.methodLink "NymphRota$Acting" 34 m_Ac_figurePoses.1) = true := ny_at_mem (i := 1163) (by decide +kernel)
theorem l_Ac_38 : ny_mem (.methodLink "NymphRota$Acting" 38 m_Ac_figureDrips.1) = true := ny_at_mem (i := 1171) (by decide +kernel)
theorem l_Ac_41 : ny_mem (.methodLink "NymphRota$Acting" 41 m_Ac_noviceGlances.1) = true := ny_at_mem (i := 1180) (by decide +kernel)
theorem l_Ac_44 : ny_mem (.methodLink "NymphRota$Acting" 44 m_Ac_poses.1) = true := ny_at_mem (i := 1175) (by decide +kernel)
theorem l_Ac_47 : ny_mem (.methodLink "NymphRota$Acting" 47 m_Ac_figureGlances.1) = true := ny_at_mem (i := 1184) (by decide +kernel)
theorem l_Ac_52 : ny_mem (.methodLink "NymphRota$Acting" 52 m_Ac_figureLeaves.1) = true := ny_at_mem (i := 1192) (by decide +kernel)
theorem l_Ac_55 : ny_mem (.methodLink "NymphRota$Acting" 55 m_Ac_drips.1) = true := ny_at_mem (i := 1196) (by decide +kernel)
theorem l_Ac_58 : ny_mem (.methodLink "NymphRota$Acting" 58 m_Ac_glances.1) = true := ny_at_mem (i := 1197) (by decide +kernel)
theorem l_Ba_67 : ny_mem (.methodLink "NymphRota$Basin" 67 m_Ja_fill.1) = true := ny_at_mem (i := 242) (by decide +kernel)
theorem l_Ba_73 : ny_mem (.methodLink "NymphRota$Basin" 73 m_Mo_become.1) = true := ny_at_mem (i := 835) (by decide +kernel)
theorem l_Ba_83 : ny_mem (.methodLink "NymphRota$Basin" 83 m_Ru_become.1) = true := ny_at_mem (i := 1221) (by decide +kernel)
theorem l_Ba_86 : ny_mem (.methodLink "NymphRota$Basin" 86 m_Re_become.1) = true := ny_at_mem (i := 1222) (by decide +kernel)
theorem l_Ba_92 : ny_mem (.methodLink "NymphRota$Basin" 92 m_Ba_weatherOf.1) = true := ny_at_mem (i := 530) (by decide +kernel)
theorem l_Ba_96 : ny_mem (.methodLink "NymphRota$Basin" 96 m_Ba_isFigure.1) = true := ny_at_mem (i := 549) (by decide +kernel)
theorem l_Ba_100 : ny_mem (.methodLink "NymphRota$Basin" 100 m_Mo_isRelieved.1) = true := ny_at_mem (i := 550) (by decide +kernel)
theorem l_Ba_106 : ny_mem (.methodLink "NymphRota$Basin" 106 m_Ba_isUp.1) = true := ny_at_mem (i := 545) (by decide +kernel)
theorem l_Ba_110 : ny_mem (.methodLink "NymphRota$Basin" 110 m_Ba_sunOf.1) = true := ny_at_mem (i := 526) (by decide +kernel)
theorem l_Ba_113 : ny_mem (.methodLink "NymphRota$Basin" 113 m_Ki_wearies.1) = true := ny_at_mem (i := 534) (by decide +kernel)
theorem l_Ba_125 : ny_mem (.methodLink "NymphRota$Basin" 125 m_Ba_guestsOf.1) = true := ny_at_mem (i := 551) (by decide +kernel)
theorem l_Ba_128 : ny_mem (.methodLink "NymphRota$Basin" 128 m_Ki_shows.1) = true := ny_at_mem (i := 555) (by decide +kernel)
theorem l_Ba_135 : ny_mem (.methodLink "NymphRota$Basin" 135 m_Ru_tells.1) = true := ny_at_mem (i := 574) (by decide +kernel)
theorem l_Ba_138 : ny_mem (.methodLink "NymphRota$Basin" 138 m_Ba_pays.1) = true := ny_at_mem (i := 569) (by decide +kernel)
theorem l_Ba_142 : ny_mem (.methodLink "NymphRota$Basin" 142 m_Ba_will.1) = true := ny_at_mem (i := 570) (by decide +kernel)
theorem l_Ba_145 : ny_mem (.methodLink "NymphRota$Basin" 145 m_Mo_putRelieved.1) = true := ny_at_mem (i := 819) (by decide +kernel)
theorem l_Ba_149 : ny_mem (.methodLink "NymphRota$Basin" 149 m_Ba_shows.1) = true := ny_at_mem (i := 820) (by decide +kernel)
theorem l_Ba_151 : ny_mem (.methodLink "NymphRota$Basin" 151 m_Ba_wearies.1) = true := ny_at_mem (i := 821) (by decide +kernel)
theorem l_Ba_156 : ny_mem (.methodLink "NymphRota$Basin" 156 m_Ba_mayBeRelieved.1) = true := ny_at_mem (i := 810) (by decide +kernel)
theorem l_Ba_159 : ny_mem (.methodLink "NymphRota$Basin" 159 m_Ba_copyOfNow.1) = true := ny_at_mem (i := 831) (by decide +kernel)
theorem l_Ba_163 : ny_mem (.methodLink "NymphRota$Basin" 163 m_Ba_isOver.1) = true := ny_at_mem (i := 840) (by decide +kernel)
theorem l_Ba_167 : ny_mem (.methodLink "NymphRota$Basin" 167 m_Ba_restAct.1) = true := ny_at_mem (i := 841) (by decide +kernel)
theorem l_Ba_171 : ny_mem (.methodLink "NymphRota$Basin" 171 m_Ba_goBy.1) = true := ny_at_mem (i := 842) (by decide +kernel)
theorem l_Ba_174 : ny_mem (.methodLink "NymphRota$Basin" 174 m_Ba_restWorth.1) = true := ny_at_mem (i := 859) (by decide +kernel)
theorem l_Ba_180 : ny_mem (.methodLink "NymphRota$Basin" 180 m_Ba_areClose.1) = true := ny_at_mem (i := 898) (by decide +kernel)
theorem l_Ba_184 : ny_mem (.methodLink "NymphRota$Basin" 184 m_Ba_upSet.1) = true := ny_at_mem (i := 889) (by decide +kernel)
theorem l_Ba_187 : ny_mem (.methodLink "NymphRota$Basin" 187 m_Ba_closeTo.1) = true := ny_at_mem (i := 894) (by decide +kernel)
theorem l_Ba_190 : ny_mem (.methodLink "NymphRota$Basin" 190 m_Ba_ringOf.1) = true := ny_at_mem (i := 890) (by decide +kernel)
theorem l_Ba_194 : ny_mem (.methodLink "NymphRota$Basin" 194 m_Ba_nextZ.1) = true := ny_at_mem (i := 1044) (by decide +kernel)
theorem l_Ba_197 : ny_mem (.methodLink "NymphRota$Basin" 197 m_Ba_actOf.1) = true := ny_at_mem (i := 1045) (by decide +kernel)
theorem l_Mo_28 : ny_mem (.methodLink "NymphRota$Moment" 28 m_Ja_fill.1) = true := ny_at_mem (i := 627) (by decide +kernel)
theorem l_Pl_68 : ny_mem (.methodLink "NymphRota$Plans" 68 m_Mo_become.1) = true := ny_at_mem (i := 928) (by decide +kernel)
theorem l_Pl_72 : ny_mem (.methodLink "NymphRota$Plans" 72 m_Pl_start.1) = true := ny_at_mem (i := 922) (by decide +kernel)
theorem l_Pl_76 : ny_mem (.methodLink "NymphRota$Plans" 76 m_Pl_tryFrom.1) = true := ny_at_mem (i := 929) (by decide +kernel)
theorem l_Pl_80 : ny_mem (.methodLink "NymphRota$Plans" 80 m_Pl_noteWorth.1) = true := ny_at_mem (i := 933) (by decide +kernel)
theorem l_Pl_87 : ny_mem (.methodLink "NymphRota$Plans" 87 m_Pl_noteRelieved.1) = true := ny_at_mem (i := 938) (by decide +kernel)
theorem l_Pl_94 : ny_mem (.methodLink "NymphRota$Plans" 94 m_Ba_goBy.1) = true := ny_at_mem (i := 942) (by decide +kernel)
theorem l_Pl_104 : ny_mem (.methodLink "NymphRota$Plans" 104 m_Pl_valueFrom.1) = true := ny_at_mem (i := 971) (by decide +kernel)
theorem l_Re_51 : ny_mem (.methodLink "NymphRota$Reports" 51 m_Re_tryOne.1) = true := ny_at_mem (i := 999) (by decide +kernel)
theorem l_Re_55 : ny_mem (.methodLink "NymphRota$Reports" 55 m_Re_wrongBy.1) = true := ny_at_mem (i := 1003) (by decide +kernel)
theorem l_Re_59 : ny_mem (.methodLink "NymphRota$Reports" 59 m_Re_wrongBehind.1) = true := ny_at_mem (i := 1007) (by decide +kernel)
theorem l_Re_63 : ny_mem (.methodLink "NymphRota$Reports" 63 m_Ba_guestsOf.1) = true := ny_at_mem (i := 1011) (by decide +kernel)
theorem l_Re_69 : ny_mem (.methodLink "NymphRota$Reports" 69 m_Ki_shows.1) = true := ny_at_mem (i := 1012) (by decide +kernel)
theorem l_Re_73 : ny_mem (.methodLink "NymphRota$Reports" 73 m_Ba_sunOf.1) = true := ny_at_mem (i := 1013) (by decide +kernel)
theorem l_Re_76 : ny_mem (.methodLink "NymphRota$Reports" 76 m_Ki_wearies.1) = true := ny_at_mem (i := 1014) (by decide +kernel)
theorem l_Ru_57 : ny_mem (.methodLink "NymphRota$Rules" 57 m_Ki_isUnder.1) = true := ny_at_mem (i := 578) (by decide +kernel)
theorem l_Ru_63 : ny_mem (.methodLink "NymphRota$Rules" 63 m_Ru_holds.1) = true := ny_at_mem (i := 583) (by decide +kernel)
theorem l_Sh_22 : ny_mem (.methodLink "NymphRota$Sheet" 22 m_Ja_fill.1) = true := ny_at_mem (i := 1079) (by decide +kernel)
theorem l_Sf_23 : ny_mem (.methodLink "NymphRota$Shelf" 23 m_Sf_holdRow.1) = true := ny_at_mem (i := 1127) (by decide +kernel)
theorem l_Sf_27 : ny_mem (.methodLink "NymphRota$Shelf" 27 m_Sf_holdNothing.1) = true := ny_at_mem (i := 1123) (by decide +kernel)
theorem l_Ta_45 : ny_mem (.methodLink "NymphRota$Tape" 45 m_Ta_split.1) = true := ny_at_mem (i := 657) (by decide +kernel)
theorem l_Ta_48 : ny_mem (.methodLink "NymphRota$Tape" 48 m_Ru_clear.1) = true := ny_at_mem (i := 743) (by decide +kernel)
theorem l_Ta_51 : ny_mem (.methodLink "NymphRota$Tape" 51 m_Ta_readRule.1) = true := ny_at_mem (i := 747) (by decide +kernel)
theorem l_Ta_55 : ny_mem (.methodLink "NymphRota$Tape" 55 m_Ru_become.1) = true := ny_at_mem (i := 795) (by decide +kernel)
theorem l_Ta_62 : ny_mem (.methodLink "NymphRota$Tape" 62 m_Ta_goesOn.1) = true := ny_at_mem (i := 661) (by decide +kernel)
theorem l_Ta_66 : ny_mem (.methodLink "NymphRota$Tape" 66 m_Ta_tokenAt.1) = true := ny_at_mem (i := 671) (by decide +kernel)
theorem l_Ta_70 : ny_mem (.methodLink "NymphRota$Tape" 70 m_Ta_addToken.1) = true := ny_at_mem (i := 735) (by decide +kernel)
theorem l_Ta_74 : ny_mem (.methodLink "NymphRota$Tape" 74 m_Ta_isLetter.1) = true := ny_at_mem (i := 665) (by decide +kernel)
theorem l_Ta_78 : ny_mem (.methodLink "NymphRota$Tape" 78 m_Ta_isDigit.1) = true := ny_at_mem (i := 668) (by decide +kernel)
theorem l_Ta_81 : ny_mem (.methodLink "NymphRota$Tape" 81 m_Ta_numberAt.1) = true := ny_at_mem (i := 739) (by decide +kernel)
theorem l_Ta_84 : ny_mem (.methodLink "NymphRota$Tape" 84 m_Ta_endOf.1) = true := ny_at_mem (i := 675) (by decide +kernel)
theorem l_Ta_87 : ny_mem (.methodLink "NymphRota$Tape" 87 m_Ta_wordAt.1) = true := ny_at_mem (i := 679) (by decide +kernel)
theorem l_Ta_91 : ny_mem (.methodLink "NymphRota$Tape" 91 m_Ta_isSign.1) = true := ny_at_mem (i := 732) (by decide +kernel)
theorem l_Ta_96 : ny_mem (.methodLink "NymphRota$Tape" 96 m_Js_length.1) = true := ny_at_mem (i := 684) (by decide +kernel)
theorem l_Ta_102 : ny_mem (.methodLink "NymphRota$Tape" 102 m_Js_charAt.1) = true := ny_at_mem (i := 694) (by decide +kernel)
theorem l_Ta_106 : ny_mem (.methodLink "NymphRota$Tape" 106 m_Ta_pass.1) = true := ny_at_mem (i := 754) (by decide +kernel)
theorem l_Ta_109 : ny_mem (.methodLink "NymphRota$Tape" 109 m_Ki_isKind.1) = true := ny_at_mem (i := 751) (by decide +kernel)
theorem l_Ta_114 : ny_mem (.methodLink "NymphRota$Tape" 114 m_Ta_passes.1) = true := ny_at_mem (i := 758) (by decide +kernel)
theorem l_Ta_117 : ny_mem (.methodLink "NymphRota$Tape" 117 m_Ta_readCondition.1) = true := ny_at_mem (i := 762) (by decide +kernel)
theorem l_Ta_120 : ny_mem (.methodLink "NymphRota$Tape" 120 m_Ru_addRule.1) = true := ny_at_mem (i := 791) (by decide +kernel)
theorem l_Ta_123 : ny_mem (.methodLink "NymphRota$Tape" 123 m_Ta_readAll.1) = true := ny_at_mem (i := 766) (by decide +kernel)
theorem l_Ta_126 : ny_mem (.methodLink "NymphRota$Tape" 126 m_Ru_addStep.1) = true := ny_at_mem (i := 787) (by decide +kernel)
theorem l_Ta_130 : ny_mem (.methodLink "NymphRota$Tape" 130 m_Ta_readOne.1) = true := ny_at_mem (i := 770) (by decide +kernel)
theorem l_Ta_133 : ny_mem (.methodLink "NymphRota$Tape" 133 m_Ta_readComparison.1) = true := ny_at_mem (i := 774) (by decide +kernel)
theorem l_Ta_136 : ny_mem (.methodLink "NymphRota$Tape" 136 m_Ta_placeOfValue.1) = true := ny_at_mem (i := 778) (by decide +kernel)
theorem l_Ta_139 : ny_mem (.methodLink "NymphRota$Tape" 139 m_Ru_addNumber.1) = true := ny_at_mem (i := 782) (by decide +kernel)
theorem l_No_67 : ny_mem (.methodLink "NymphRota" 67 m_Ki_isMade.1) = true := ny_at_mem (i := 494) (by decide +kernel)
theorem l_No_73 : ny_mem (.methodLink "NymphRota" 73 m_No_isBetween.1) = true := ny_at_mem (i := 497) (by decide +kernel)
theorem l_No_77 : ny_mem (.methodLink "NymphRota" 77 m_No_isNiche.1) = true := ny_at_mem (i := 500) (by decide +kernel)
theorem l_No_102 : ny_mem (.methodLink "NymphRota" 102 m_Mo_putRelieved.1) = true := ny_at_mem (i := 503) (by decide +kernel)
theorem l_No_106 : ny_mem (.methodLink "NymphRota" 106 m_Ba_isFigure.1) = true := ny_at_mem (i := 511) (by decide +kernel)
theorem l_No_109 : ny_mem (.methodLink "NymphRota" 109 m_Mo_isRelieved.1) = true := ny_at_mem (i := 515) (by decide +kernel)
theorem l_No_112 : ny_mem (.methodLink "NymphRota" 112 m_No_oneIf.1) = true := ny_at_mem (i := 519) (by decide +kernel)
theorem l_No_116 : ny_mem (.methodLink "NymphRota" 116 m_Ba_wearies.1) = true := ny_at_mem (i := 522) (by decide +kernel)
theorem l_No_120 : ny_mem (.methodLink "NymphRota" 120 m_Ba_shows.1) = true := ny_at_mem (i := 541) (by decide +kernel)
theorem l_No_123 : ny_mem (.methodLink "NymphRota" 123 m_Ba_pays.1) = true := ny_at_mem (i := 561) (by decide +kernel)
theorem l_No_126 : ny_mem (.methodLink "NymphRota" 126 m_Ba_mayBeRelieved.1) = true := ny_at_mem (i := 565) (by decide +kernel)
theorem l_No_130 : ny_mem (.methodLink "NymphRota" 130 m_Ba_will.1) = true := ny_at_mem (i := 587) (by decide +kernel)
theorem l_No_133 : ny_mem (.methodLink "NymphRota" 133 m_No_put.1) = true := ny_at_mem (i := 592) (by decide +kernel)
theorem l_No_137 : ny_mem (.methodLink "NymphRota" 137 m_No_changeRelieved.1) = true := ny_at_mem (i := 595) (by decide +kernel)
theorem l_No_156 : ny_mem (.methodLink "NymphRota" 156 m_Mo_clear.1) = true := ny_at_mem (i := 623) (by decide +kernel)
theorem l_No_162 : ny_mem (.methodLink "NymphRota" 162 m_Ba_isOver.1) = true := ny_at_mem (i := 632) (by decide +kernel)
theorem l_No_169 : ny_mem (.methodLink "NymphRota" 169 m_Ba_weatherOf.1) = true := ny_at_mem (i := 636) (by decide +kernel)
theorem l_No_173 : ny_mem (.methodLink "NymphRota" 173 m_Ba_upSet.1) = true := ny_at_mem (i := 637) (by decide +kernel)
theorem l_No_177 : ny_mem (.methodLink "NymphRota" 177 m_Ta_takes.1) = true := ny_at_mem (i := 645) (by decide +kernel)
theorem l_No_188 : ny_mem (.methodLink "NymphRota" 188 m_Ta_readInto.1) = true := ny_at_mem (i := 653) (by decide +kernel)
theorem l_No_192 : ny_mem (.methodLink "NymphRota" 192 m_Ba_restAct.1) = true := ny_at_mem (i := 806) (by decide +kernel)
theorem l_No_195 : ny_mem (.methodLink "NymphRota" 195 m_No_goOn.1) = true := ny_at_mem (i := 811) (by decide +kernel)
theorem l_No_198 : ny_mem (.methodLink "NymphRota" 198 m_Ba_restWorth.1) = true := ny_at_mem (i := 827) (by decide +kernel)
theorem l_No_201 : ny_mem (.methodLink "NymphRota" 201 m_Ba_restRelieves.1) = true := ny_at_mem (i := 847) (by decide +kernel)
theorem l_No_204 : ny_mem (.methodLink "NymphRota" 204 m_Ba_restBestBy.1) = true := ny_at_mem (i := 855) (by decide +kernel)
theorem l_No_207 : ny_mem (.methodLink "NymphRota" 207 m_Ba_restFaints.1) = true := ny_at_mem (i := 868) (by decide +kernel)
theorem l_No_210 : ny_mem (.methodLink "NymphRota" 210 m_Ba_isUp.1) = true := ny_at_mem (i := 876) (by decide +kernel)
theorem l_No_213 : ny_mem (.methodLink "NymphRota" 213 m_Ba_aheadOf.1) = true := ny_at_mem (i := 877) (by decide +kernel)
theorem l_No_216 : ny_mem (.methodLink "NymphRota" 216 m_Ba_ringCount.1) = true := ny_at_mem (i := 885) (by decide +kernel)
theorem l_No_220 : ny_mem (.methodLink "NymphRota" 220 m_Ba_ringOf.1) = true := ny_at_mem (i := 905) (by decide +kernel)
theorem l_No_223 : ny_mem (.methodLink "NymphRota" 223 m_Ba_stepsRound.1) = true := ny_at_mem (i := 910) (by decide +kernel)
theorem l_No_227 : ny_mem (.methodLink "NymphRota" 227 m_Pl_tryAll.1) = true := ny_at_mem (i := 918) (by decide +kernel)
theorem l_No_243 : ny_mem (.methodLink "NymphRota" 243 m_Ba_isSet.1) = true := ny_at_mem (i := 955) (by decide +kernel)
theorem l_No_252 : ny_mem (.methodLink "NymphRota" 252 m_Pl_valueOfGame.1) = true := ny_at_mem (i := 967) (by decide +kernel)
theorem l_No_263 : ny_mem (.methodLink "NymphRota" 263 m_Re_add.1) = true := ny_at_mem (i := 983) (by decide +kernel)
theorem l_No_269 : ny_mem (.methodLink "NymphRota" 269 m_Re_tryAll.1) = true := ny_at_mem (i := 995) (by decide +kernel)
theorem l_No_290 : ny_mem (.methodLink "NymphRota" 290 m_Ba_nextZ.1) = true := ny_at_mem (i := 1028) (by decide +kernel)
theorem l_No_293 : ny_mem (.methodLink "NymphRota" 293 m_Ba_actOf.1) = true := ny_at_mem (i := 1032) (by decide +kernel)
theorem l_No_296 : ny_mem (.methodLink "NymphRota" 296 m_Ba_timesByLot.1) = true := ny_at_mem (i := 1040) (by decide +kernel)
theorem l_No_300 : ny_mem (.methodLink "NymphRota" 300 m_Ba_copyOfNow.1) = true := ny_at_mem (i := 1050) (by decide +kernel)
theorem l_No_304 : ny_mem (.methodLink "NymphRota" 304 m_Ba_goBy.1) = true := ny_at_mem (i := 815) (by decide +kernel)
theorem l_No_307 : ny_mem (.methodLink "NymphRota" 307 m_No_isInRow.1) = true := ny_at_mem (i := 1055) (by decide +kernel)
theorem l_No_311 : ny_mem (.methodLink "NymphRota" 311 m_Ba_isAct.1) = true := ny_at_mem (i := 1067) (by decide +kernel)
theorem l_No_314 : ny_mem (.methodLink "NymphRota" 314 m_Sh_becomeRow.1) = true := ny_at_mem (i := 1075) (by decide +kernel)
theorem l_No_318 : ny_mem (.methodLink "NymphRota" 318 m_Sh_isSort.1) = true := ny_at_mem (i := 1080) (by decide +kernel)
theorem l_No_324 : ny_mem (.methodLink "NymphRota" 324 m_Sh_has.1) = true := ny_at_mem (i := 1087) (by decide +kernel)
theorem l_No_330 : ny_mem (.methodLink "NymphRota" 330 m_Sh_narrowed.1) = true := ny_at_mem (i := 1091) (by decide +kernel)
theorem l_No_333 : ny_mem (.methodLink "NymphRota" 333 m_Sh_refusalAs.1) = true := ny_at_mem (i := 1099) (by decide +kernel)
theorem l_No_336 : ny_mem (.methodLink "NymphRota" 336 m_No_refusalOfActs.1) = true := ny_at_mem (i := 1107) (by decide +kernel)
theorem l_No_339 : ny_mem (.methodLink "NymphRota" 339 m_Sf_holdFigure.1) = true := ny_at_mem (i := 1119) (by decide +kernel)
theorem l_No_344 : ny_mem (.methodLink "NymphRota" 344 m_Sf_holdRow.1) = true := ny_at_mem (i := 1131) (by decide +kernel)
theorem l_No_347 : ny_mem (.methodLink "NymphRota" 347 m_Sf_holdNothing.1) = true := ny_at_mem (i := 1132) (by decide +kernel)
theorem l_No_350 : ny_mem (.methodLink "NymphRota" 350 m_Ki_isKind.1) = true := ny_at_mem (i := 1137) (by decide +kernel)
theorem l_No_353 : ny_mem (.methodLink "NymphRota" 353 m_Sf_isRow.1) = true := ny_at_mem (i := 1138) (by decide +kernel)
theorem l_No_362 : ny_mem (.methodLink "NymphRota" 362 m_Ki_isUnder.1) = true := ny_at_mem (i := 1142) (by decide +kernel)
theorem l_No_365 : ny_mem (.methodLink "NymphRota" 365 m_Ac_clear.1) = true := ny_at_mem (i := 1147) (by decide +kernel)
theorem l_No_366 : ny_mem (.methodLink "NymphRota" 366 m_Ac_begin.1) = true := ny_at_mem (i := 1151) (by decide +kernel)
theorem l_No_370 : ny_mem (.methodLink "NymphRota" 370 m_Ac_poses.1) = true := ny_at_mem (i := 1155) (by decide +kernel)
theorem l_No_373 : ny_mem (.methodLink "NymphRota" 373 m_Ac_drips.1) = true := ny_at_mem (i := 1167) (by decide +kernel)
theorem l_No_376 : ny_mem (.methodLink "NymphRota" 376 m_Ac_glances.1) = true := ny_at_mem (i := 1176) (by decide +kernel)
theorem l_No_379 : ny_mem (.methodLink "NymphRota" 379 m_Ac_leaves.1) = true := ny_at_mem (i := 1188) (by decide +kernel)
theorem l_No_392 : ny_mem (.methodLink "NymphRota" 392 m_Ji_bitCount.1) = true := ny_at_mem (i := 1206) (by decide +kernel)
theorem l_No_397 : ny_mem (.methodLink "NymphRota" 397 m_Ba_become.1) = true := ny_at_mem (i := 1216) (by decide +kernel)
theorem l_Md_63 : ny_mem (.methodLink "NymphRotaModel" 63 m_Md_isIn.1) = true := ny_at_mem (i := 1363) (by decide +kernel)
theorem l_Md_71 : ny_mem (.methodLink "NymphRotaModel" 71 m_Md_isNiche.1) = true := ny_at_mem (i := 1368) (by decide +kernel)
theorem l_Md_75 : ny_mem (.methodLink "NymphRotaModel" 75 m_Md_greatest.1) = true := ny_at_mem (i := 1394) (by decide +kernel)
theorem l_Md_79 : ny_mem (.methodLink "NymphRotaModel" 79 m_Md_least.1) = true := ny_at_mem (i := 1408) (by decide +kernel)
theorem l_Md_82 : ny_mem (.methodLink "NymphRotaModel" 82 m_Md_its.1) = true := ny_at_mem (i := 1383) (by decide +kernel)
theorem l_Md_85 : ny_mem (.methodLink "NymphRotaModel" 85 m_Md_weatherOf.1) = true := ny_at_mem (i := 1387) (by decide +kernel)
theorem l_Md_89 : ny_mem (.methodLink "NymphRotaModel" 89 m_Md_wearies.1) = true := ny_at_mem (i := 1391) (by decide +kernel)
theorem l_Md_93 : ny_mem (.methodLink "NymphRotaModel" 93 m_Md_isUp.1) = true := ny_at_mem (i := 1401) (by decide +kernel)
theorem l_Md_96 : ny_mem (.methodLink "NymphRotaModel" 96 m_Md_shows.1) = true := ny_at_mem (i := 1405) (by decide +kernel)
theorem l_Md_100 : ny_mem (.methodLink "NymphRotaModel" 100 m_Md_valueOf.1) = true := ny_at_mem (i := 1430) (by decide +kernel)
theorem l_Md_107 : ny_mem (.methodLink "NymphRotaModel" 107 m_Md_isUnder.1) = true := ny_at_mem (i := 1423) (by decide +kernel)
theorem l_Md_111 : ny_mem (.methodLink "NymphRotaModel" 111 m_Md_holds.1) = true := ny_at_mem (i := 1426) (by decide +kernel)
theorem l_Md_114 : ny_mem (.methodLink "NymphRotaModel" 114 m_Md_pays.1) = true := ny_at_mem (i := 1411) (by decide +kernel)
theorem l_Md_117 : ny_mem (.methodLink "NymphRotaModel" 117 m_Md_will.1) = true := ny_at_mem (i := 1419) (by decide +kernel)
theorem l_Md_120 : ny_mem (.methodLink "NymphRotaModel" 120 m_Md_isOne.1) = true := ny_at_mem (i := 1375) (by decide +kernel)
theorem l_Md_123 : ny_mem (.methodLink "NymphRotaModel" 123 m_Md_wearied.1) = true := ny_at_mem (i := 1379) (by decide +kernel)
theorem l_Md_126 : ny_mem (.methodLink "NymphRotaModel" 126 m_Md_shown.1) = true := ny_at_mem (i := 1397) (by decide +kernel)
theorem l_Md_129 : ny_mem (.methodLink "NymphRotaModel" 129 m_Md_mayBe.1) = true := ny_at_mem (i := 1415) (by decide +kernel)
theorem l_Md_134 : ny_mem (.methodLink "NymphRotaModel" 134 m_Md_greatestOf.1) = true := ny_at_mem (i := 1441) (by decide +kernel)
theorem l_Md_137 : ny_mem (.methodLink "NymphRotaModel" 137 m_Md_becomes.1) = true := ny_at_mem (i := 1444) (by decide +kernel)
theorem l_Md_144 : ny_mem (.methodLink "NymphRotaModel" 144 m_Md_isOver.1) = true := ny_at_mem (i := 1478) (by decide +kernel)
theorem l_Md_148 : ny_mem (.methodLink "NymphRotaModel" 148 m_Md_relievedOnes.1) = true := ny_at_mem (i := 1482) (by decide +kernel)
theorem l_Md_152 : ny_mem (.methodLink "NymphRotaModel" 152 m_Md_thoseUp.1) = true := ny_at_mem (i := 1486) (by decide +kernel)
theorem l_Md_169 : ny_mem (.methodLink "NymphRotaModel" 169 m_Md_byteAt.1) = true := ny_at_mem (i := 1504) (by decide +kernel)
theorem l_Md_172 : ny_mem (.methodLink "NymphRotaModel" 172 m_Md_isAlpha.1) = true := ny_at_mem (i := 1508) (by decide +kernel)
theorem l_Md_175 : ny_mem (.methodLink "NymphRotaModel" 175 m_Md_isDigit.1) = true := ny_at_mem (i := 1511) (by decide +kernel)
theorem l_Md_188 : ny_mem (.methodLink "NymphRotaModel" 188 m_Md_nextToken.1) = true := ny_at_mem (i := 1500) (by decide +kernel)
theorem l_Md_191 : ny_mem (.methodLink "NymphRotaModel" 191 m_Md_isName.1) = true := ny_at_mem (i := 1522) (by decide +kernel)
theorem l_Md_195 : ny_mem (.methodLink "NymphRotaModel" 195 m_Md_isSame.1) = true := ny_at_mem (i := 1526) (by decide +kernel)
theorem l_Md_199 : ny_mem (.methodLink "NymphRotaModel" 199 m_Md_factHere.1) = true := ny_at_mem (i := 1562) (by decide +kernel)
theorem l_Md_202 : ny_mem (.methodLink "NymphRotaModel" 202 m_Md_needs.1) = true := ny_at_mem (i := 1530) (by decide +kernel)
theorem l_Md_206 : ny_mem (.methodLink "NymphRotaModel" 206 m_Md_valueHere.1) = true := ny_at_mem (i := 1558) (by decide +kernel)
theorem l_Md_209 : ny_mem (.methodLink "NymphRotaModel" 209 m_Md_isByte.1) = true := ny_at_mem (i := 1550) (by decide +kernel)
theorem l_Md_212 : ny_mem (.methodLink "NymphRotaModel" 212 m_Md_steps.1) = true := ny_at_mem (i := 1566) (by decide +kernel)
theorem l_Md_219 : ny_mem (.methodLink "NymphRotaModel" 219 m_Md_condHere.1) = true := ny_at_mem (i := 1538) (by decide +kernel)
theorem l_Md_222 : ny_mem (.methodLink "NymphRotaModel" 222 m_Md_comparesHere.1) = true := ny_at_mem (i := 1554) (by decide +kernel)
theorem l_Md_225 : ny_mem (.methodLink "NymphRotaModel" 225 m_Md_oneHere.1) = true := ny_at_mem (i := 1546) (by decide +kernel)
theorem l_Md_228 : ny_mem (.methodLink "NymphRotaModel" 228 m_Md_allHere.1) = true := ny_at_mem (i := 1542) (by decide +kernel)
theorem l_Md_231 : ny_mem (.methodLink "NymphRotaModel" 231 m_Md_isTwo.1) = true := ny_at_mem (i := 1534) (by decide +kernel)
theorem l_Md_234 : ny_mem (.methodLink "NymphRotaModel" 234 m_Md_kindHere.1) = true := ny_at_mem (i := 1518) (by decide +kernel)
theorem l_Md_237 : ny_mem (.methodLink "NymphRotaModel" 237 m_Md_doHere.1) = true := ny_at_mem (i := 1570) (by decide +kernel)
theorem l_Md_240 : ny_mem (.methodLink "NymphRotaModel" 240 m_Md_ruleHere.1) = true := ny_at_mem (i := 1514) (by decide +kernel)
theorem l_Md_243 : ny_mem (.methodLink "NymphRotaModel" 243 m_Md_restAct.1) = true := ny_at_mem (i := 1578) (by decide +kernel)
theorem l_Md_246 : ny_mem (.methodLink "NymphRotaModel" 246 m_Md_goesWith.1) = true := ny_at_mem (i := 1582) (by decide +kernel)
theorem l_Md_249 : ny_mem (.methodLink "NymphRotaModel" 249 m_Md_laysAside.1) = true := ny_at_mem (i := 1594) (by decide +kernel)
theorem l_Md_253 : ny_mem (.methodLink "NymphRotaModel" 253 m_Md_laysBack.1) = true := ny_at_mem (i := 1598) (by decide +kernel)
theorem l_Md_256 : ny_mem (.methodLink "NymphRotaModel" 256 m_Md_onBy.1) = true := ny_at_mem (i := 1590) (by decide +kernel)
theorem l_Md_259 : ny_mem (.methodLink "NymphRotaModel" 259 m_Md_valueFor.1) = true := ny_at_mem (i := 1610) (by decide +kernel)
theorem l_Md_262 : ny_mem (.methodLink "NymphRotaModel" 262 m_Md_areClose.1) = true := ny_at_mem (i := 1634) (by decide +kernel)
theorem l_Md_265 : ny_mem (.methodLink "NymphRotaModel" 265 m_Md_ringOf.1) = true := ny_at_mem (i := 1630) (by decide +kernel)
theorem l_Md_268 : ny_mem (.methodLink "NymphRotaModel" 268 m_Md_stepsBy.1) = true := ny_at_mem (i := 1642) (by decide +kernel)
theorem l_Md_289 : ny_mem (.methodLink "NymphRotaModel" 289 m_Md_plans.1) = true := ny_at_mem (i := 1657) (by decide +kernel)
theorem l_Md_293 : ny_mem (.methodLink "NymphRotaModel" 293 m_Md_isLong.1) = true := ny_at_mem (i := 1650) (by decide +kernel)
theorem l_Md_296 : ny_mem (.methodLink "NymphRotaModel" 296 m_Md_findsPlans.1) = true := ny_at_mem (i := 1653) (by decide +kernel)
theorem l_Md_302 : ny_mem (.methodLink "NymphRotaModel" 302 m_Md_isSet.1) = true := ny_at_mem (i := 1674) (by decide +kernel)
theorem l_Md_305 : ny_mem (.methodLink "NymphRotaModel" 305 m_Md_valueFrom.1) = true := ny_at_mem (i := 1686) (by decide +kernel)
theorem l_Md_317 : ny_mem (.methodLink "NymphRotaModel" 317 m_Md_stands.1) = true := ny_at_mem (i := 1710) (by decide +kernel)
theorem l_Md_320 : ny_mem (.methodLink "NymphRotaModel" 320 m_Md_isFit.1) = true := ny_at_mem (i := 1714) (by decide +kernel)
theorem l_Md_323 : ny_mem (.methodLink "NymphRotaModel" 323 m_Md_findsFits.1) = true := ny_at_mem (i := 1706) (by decide +kernel)
theorem l_Md_327 : ny_mem (.methodLink "NymphRotaModel" 327 m_Md_goesByLot.1) = true := ny_at_mem (i := 1730) (by decide +kernel)
theorem l_Md_337 : ny_mem (.methodLink "NymphRotaModel" 337 m_Md_isRow.1) = true := ny_at_mem (i := 1749) (by decide +kernel)
theorem l_Md_340 : ny_mem (.methodLink "NymphRotaModel" 340 m_Md_isAct.1) = true := ny_at_mem (i := 1761) (by decide +kernel)
theorem l_Md_343 : ny_mem (.methodLink "NymphRotaModel" 343 m_Md_isSheet.1) = true := ny_at_mem (i := 1769) (by decide +kernel)
theorem l_Md_348 : ny_mem (.methodLink "NymphRotaModel" 348 m_Md_lacks.1) = true := ny_at_mem (i := 1781) (by decide +kernel)
theorem l_Md_353 : ny_mem (.methodLink "NymphRotaModel" 353 m_Md_sumBy.1) = true := ny_at_mem (i := 1794) (by decide +kernel)
theorem l_Md_356 : ny_mem (.methodLink "NymphRotaModel" 356 m_Md_isShelf.1) = true := ny_at_mem (i := 1802) (by decide +kernel)
theorem l_Md_363 : ny_mem (.methodLink "NymphRotaModel" 363 m_Md_heldOn.1) = true := ny_at_mem (i := 1811) (by decide +kernel)
theorem l_Md_369 : ny_mem (.methodLink "NymphRotaModel" 369 m_Md_runs.1) = true := ny_at_mem (i := 1823) (by decide +kernel)
theorem l_Md_378 : ny_mem (.methodLink "NymphRotaModel" 378 m_Md_posesPlain.1) = true := ny_at_mem (i := 1827) (by decide +kernel)
theorem l_Md_381 : ny_mem (.methodLink "NymphRotaModel" 381 m_Md_poses.1) = true := ny_at_mem (i := 1819) (by decide +kernel)
theorem l_Md_387 : ny_mem (.methodLink "NymphRotaModel" 387 m_Md_dripsPlain.1) = true := ny_at_mem (i := 1835) (by decide +kernel)
theorem l_Md_393 : ny_mem (.methodLink "NymphRotaModel" 393 m_Md_glancesPlain.1) = true := ny_at_mem (i := 1847) (by decide +kernel)
theorem l_Md_396 : ny_mem (.methodLink "NymphRotaModel" 396 m_Md_glancesOfNovice.1) = true := ny_at_mem (i := 1843) (by decide +kernel)
theorem l_Md_399 : ny_mem (.methodLink "NymphRotaModel" 399 m_Md_drips.1) = true := ny_at_mem (i := 1831) (by decide +kernel)
theorem l_Md_402 : ny_mem (.methodLink "NymphRotaModel" 402 m_Md_glances.1) = true := ny_at_mem (i := 1839) (by decide +kernel)
theorem l_Md_405 : ny_mem (.methodLink "NymphRotaModel" 405 m_Md_leavesPlain.1) = true := ny_at_mem (i := 1855) (by decide +kernel)
theorem l_Md_408 : ny_mem (.methodLink "NymphRotaModel" 408 m_Md_leaves.1) = true := ny_at_mem (i := 1851) (by decide +kernel)
theorem l_Md_411 : ny_mem (.methodLink "NymphRotaModel" 411 m_Md_size.1) = true := ny_at_mem (i := 1867) (by decide +kernel)
theorem l_Js_335 : ny_mem (.methodLink "java/lang/String" 335 m_Js_coder.1) = true := ny_at_mem (i := 688) (by decide +kernel)
theorem l_Js_492 : ny_mem (.methodLink "java/lang/String" 492 m_Js_isLatin1.1) = true := ny_at_mem (i := 698) (by decide +kernel)
theorem l_Js_495 : ny_mem (.methodLink "java/lang/String" 495 m_Jl_charAt.1) = true := ny_at_mem (i := 702) (by decide +kernel)
theorem l_Js_1059 : ny_mem (.methodLink "java/lang/String" 1059 m_Jp_checkIndex.1) = true := ny_at_mem (i := 710) (by decide +kernel)
theorem l_Lw_13 : ny_mem (.methodLink "NymphRotaLaw" 13 m_No_figure.1) = true := ny_at_mem (i := 490) (by decide +kernel)
theorem l_Lw_17 : ny_mem (.methodLink "NymphRotaLaw" 17 m_Md_figure.1) = true := ny_at_mem (i := 1358) (by decide +kernel)
theorem l_Lw_18 : ny_mem (.methodLink "NymphRotaLaw" 18 m_No_figureOf.1) = true := ny_at_mem (i := 507) (by decide +kernel)
theorem l_Lw_22 : ny_mem (.methodLink "NymphRotaLaw" 22 m_Md_figureOf.1) = true := ny_at_mem (i := 1371) (by decide +kernel)
theorem l_Lw_23 : ny_mem (.methodLink "NymphRotaLaw" 23 m_No_change.1) = true := ny_at_mem (i := 588) (by decide +kernel)
theorem l_Lw_27 : ny_mem (.methodLink "NymphRotaLaw" 27 m_Md_change.1) = true := ny_at_mem (i := 1436) (by decide +kernel)
theorem l_Lw_28 : ny_mem (.methodLink "NymphRotaLaw" 28 m_No_remake.1) = true := ny_at_mem (i := 599) (by decide +kernel)
theorem l_Lw_31 : ny_mem (.methodLink "NymphRotaLaw" 31 m_Md_remake.1) = true := ny_at_mem (i := 1448) (by decide +kernel)
theorem l_Lw_32 : ny_mem (.methodLink "NymphRotaLaw" 32 m_No_weather.1) = true := ny_at_mem (i := 603) (by decide +kernel)
theorem l_Lw_35 : ny_mem (.methodLink "NymphRotaLaw" 35 m_Md_weather.1) = true := ny_at_mem (i := 1452) (by decide +kernel)
theorem l_Lw_36 : ny_mem (.methodLink "NymphRotaLaw" 36 m_No_niche.1) = true := ny_at_mem (i := 607) (by decide +kernel)
theorem l_Lw_39 : ny_mem (.methodLink "NymphRotaLaw" 39 m_Md_niche.1) = true := ny_at_mem (i := 1457) (by decide +kernel)
theorem l_Lw_40 : ny_mem (.methodLink "NymphRotaLaw" 40 m_No_nicheOf.1) = true := ny_at_mem (i := 611) (by decide +kernel)
theorem l_Lw_43 : ny_mem (.methodLink "NymphRotaLaw" 43 m_Md_nicheOf.1) = true := ny_at_mem (i := 1461) (by decide +kernel)
theorem l_Lw_44 : ny_mem (.methodLink "NymphRotaLaw" 44 m_No_ends.1) = true := ny_at_mem (i := 615) (by decide +kernel)
theorem l_Lw_48 : ny_mem (.methodLink "NymphRotaLaw" 48 m_Md_ends.1) = true := ny_at_mem (i := 1465) (by decide +kernel)
theorem l_Lw_49 : ny_mem (.methodLink "NymphRotaLaw" 49 m_No_anew.1) = true := ny_at_mem (i := 619) (by decide +kernel)
theorem l_Lw_53 : ny_mem (.methodLink "NymphRotaLaw" 53 m_Md_anew.1) = true := ny_at_mem (i := 1470) (by decide +kernel)
theorem l_Lw_54 : ny_mem (.methodLink "NymphRotaLaw" 54 m_No_state.1) = true := ny_at_mem (i := 628) (by decide +kernel)
theorem l_Lw_57 : ny_mem (.methodLink "NymphRotaLaw" 57 m_Md_state.1) = true := ny_at_mem (i := 1474) (by decide +kernel)
theorem l_Lw_60 : ny_mem (.methodLink "NymphRotaLaw" 60 m_No_feed.1) = true := ny_at_mem (i := 641) (by decide +kernel)
theorem l_Lw_64 : ny_mem (.methodLink "NymphRotaLaw" 64 m_Md_feed.1) = true := ny_at_mem (i := 1490) (by decide +kernel)
theorem l_Lw_65 : ny_mem (.methodLink "NymphRotaLaw" 65 m_No_rules.1) = true := ny_at_mem (i := 649) (by decide +kernel)
theorem l_Lw_68 : ny_mem (.methodLink "NymphRotaLaw" 68 m_Md_rules.1) = true := ny_at_mem (i := 1496) (by decide +kernel)
theorem l_Lw_69 : ny_mem (.methodLink "NymphRotaLaw" 69 m_No_bell.1) = true := ny_at_mem (i := 802) (by decide +kernel)
theorem l_Lw_72 : ny_mem (.methodLink "NymphRotaLaw" 72 m_Md_bell.1) = true := ny_at_mem (i := 1574) (by decide +kernel)
theorem l_Lw_73 : ny_mem (.methodLink "NymphRotaLaw" 73 m_No_on.1) = true := ny_at_mem (i := 823) (by decide +kernel)
theorem l_Lw_76 : ny_mem (.methodLink "NymphRotaLaw" 76 m_Md_on.1) = true := ny_at_mem (i := 1586) (by decide +kernel)
theorem l_Lw_77 : ny_mem (.methodLink "NymphRotaLaw" 77 m_No_when.1) = true := ny_at_mem (i := 843) (by decide +kernel)
theorem l_Lw_80 : ny_mem (.methodLink "NymphRotaLaw" 80 m_Md_when.1) = true := ny_at_mem (i := 1602) (by decide +kernel)
theorem l_Lw_81 : ny_mem (.methodLink "NymphRotaLaw" 81 m_No_graceFor.1) = true := ny_at_mem (i := 851) (by decide +kernel)
theorem l_Lw_84 : ny_mem (.methodLink "NymphRotaLaw" 84 m_Md_graceFor.1) = true := ny_at_mem (i := 1606) (by decide +kernel)
theorem l_Lw_85 : ny_mem (.methodLink "NymphRotaLaw" 85 m_No_nicheFor.1) = true := ny_at_mem (i := 860) (by decide +kernel)
theorem l_Lw_88 : ny_mem (.methodLink "NymphRotaLaw" 88 m_Md_nicheFor.1) = true := ny_at_mem (i := 1614) (by decide +kernel)
theorem l_Lw_89 : ny_mem (.methodLink "NymphRotaLaw" 89 m_No_faints.1) = true := ny_at_mem (i := 864) (by decide +kernel)
theorem l_Lw_92 : ny_mem (.methodLink "NymphRotaLaw" 92 m_Md_faints.1) = true := ny_at_mem (i := 1618) (by decide +kernel)
theorem l_Lw_93 : ny_mem (.methodLink "NymphRotaLaw" 93 m_No_rank.1) = true := ny_at_mem (i := 872) (by decide +kernel)
theorem l_Lw_96 : ny_mem (.methodLink "NymphRotaLaw" 96 m_Md_rank.1) = true := ny_at_mem (i := 1622) (by decide +kernel)
theorem l_Lw_97 : ny_mem (.methodLink "NymphRotaLaw" 97 m_No_rings.1) = true := ny_at_mem (i := 881) (by decide +kernel)
theorem l_Lw_100 : ny_mem (.methodLink "NymphRotaLaw" 100 m_Md_rings.1) = true := ny_at_mem (i := 1626) (by decide +kernel)
theorem l_Lw_101 : ny_mem (.methodLink "NymphRotaLaw" 101 m_No_way.1) = true := ny_at_mem (i := 906) (by decide +kernel)
theorem l_Lw_104 : ny_mem (.methodLink "NymphRotaLaw" 104 m_Md_way.1) = true := ny_at_mem (i := 1638) (by decide +kernel)
theorem l_Lw_105 : ny_mem (.methodLink "NymphRotaLaw" 105 m_No_best.1) = true := ny_at_mem (i := 914) (by decide +kernel)
theorem l_Lw_108 : ny_mem (.methodLink "NymphRotaLaw" 108 m_Md_best.1) = true := ny_at_mem (i := 1646) (by decide +kernel)
theorem l_Lw_109 : ny_mem (.methodLink "NymphRotaLaw" 109 m_No_ith.1) = true := ny_at_mem (i := 943) (by decide +kernel)
theorem l_Lw_112 : ny_mem (.methodLink "NymphRotaLaw" 112 m_Md_ith.1) = true := ny_at_mem (i := 1661) (by decide +kernel)
theorem l_Lw_113 : ny_mem (.methodLink "NymphRotaLaw" 113 m_No_ways.1) = true := ny_at_mem (i := 947) (by decide +kernel)
theorem l_Lw_116 : ny_mem (.methodLink "NymphRotaLaw" 116 m_Md_ways.1) = true := ny_at_mem (i := 1666) (by decide +kernel)
theorem l_Lw_117 : ny_mem (.methodLink "NymphRotaLaw" 117 m_No_roster.1) = true := ny_at_mem (i := 951) (by decide +kernel)
theorem l_Lw_120 : ny_mem (.methodLink "NymphRotaLaw" 120 m_Md_roster.1) = true := ny_at_mem (i := 1670) (by decide +kernel)
theorem l_Lw_121 : ny_mem (.methodLink "NymphRotaLaw" 121 m_No_bars.1) = true := ny_at_mem (i := 959) (by decide +kernel)
theorem l_Lw_124 : ny_mem (.methodLink "NymphRotaLaw" 124 m_Md_bars.1) = true := ny_at_mem (i := 1678) (by decide +kernel)
theorem l_Lw_125 : ny_mem (.methodLink "NymphRotaLaw" 125 m_No_game.1) = true := ny_at_mem (i := 963) (by decide +kernel)
theorem l_Lw_128 : ny_mem (.methodLink "NymphRotaLaw" 128 m_Md_game.1) = true := ny_at_mem (i := 1682) (by decide +kernel)
theorem l_Lw_129 : ny_mem (.methodLink "NymphRotaLaw" 129 m_No_play.1) = true := ny_at_mem (i := 975) (by decide +kernel)
theorem l_Lw_132 : ny_mem (.methodLink "NymphRotaLaw" 132 m_Md_play.1) = true := ny_at_mem (i := 1690) (by decide +kernel)
theorem l_Lw_133 : ny_mem (.methodLink "NymphRotaLaw" 133 m_No_report.1) = true := ny_at_mem (i := 979) (by decide +kernel)
theorem l_Lw_136 : ny_mem (.methodLink "NymphRotaLaw" 136 m_Md_report.1) = true := ny_at_mem (i := 1694) (by decide +kernel)
theorem l_Lw_137 : ny_mem (.methodLink "NymphRotaLaw" 137 m_No_forget.1) = true := ny_at_mem (i := 987) (by decide +kernel)
theorem l_Lw_140 : ny_mem (.methodLink "NymphRotaLaw" 140 m_Md_forget.1) = true := ny_at_mem (i := 1698) (by decide +kernel)
theorem l_Lw_141 : ny_mem (.methodLink "NymphRotaLaw" 141 m_No_nymph.1) = true := ny_at_mem (i := 991) (by decide +kernel)
theorem l_Lw_144 : ny_mem (.methodLink "NymphRotaLaw" 144 m_Md_nymph.1) = true := ny_at_mem (i := 1702) (by decide +kernel)
theorem l_Lw_145 : ny_mem (.methodLink "NymphRotaLaw" 145 m_No_liar.1) = true := ny_at_mem (i := 1016) (by decide +kernel)
theorem l_Lw_148 : ny_mem (.methodLink "NymphRotaLaw" 148 m_Md_liar.1) = true := ny_at_mem (i := 1718) (by decide +kernel)
theorem l_Lw_149 : ny_mem (.methodLink "NymphRotaLaw" 149 m_No_seed.1) = true := ny_at_mem (i := 1020) (by decide +kernel)
theorem l_Lw_152 : ny_mem (.methodLink "NymphRotaLaw" 152 m_Md_seed.1) = true := ny_at_mem (i := 1722) (by decide +kernel)
theorem l_Lw_153 : ny_mem (.methodLink "NymphRotaLaw" 153 m_No_lot.1) = true := ny_at_mem (i := 1024) (by decide +kernel)
theorem l_Lw_156 : ny_mem (.methodLink "NymphRotaLaw" 156 m_Md_lot.1) = true := ny_at_mem (i := 1726) (by decide +kernel)
theorem l_Lw_157 : ny_mem (.methodLink "NymphRotaLaw" 157 m_No_times.1) = true := ny_at_mem (i := 1036) (by decide +kernel)
theorem l_Lw_160 : ny_mem (.methodLink "NymphRotaLaw" 160 m_Md_times.1) = true := ny_at_mem (i := 1735) (by decide +kernel)
theorem l_Lw_161 : ny_mem (.methodLink "NymphRotaLaw" 161 m_No_prove.1) = true := ny_at_mem (i := 1046) (by decide +kernel)
theorem l_Lw_164 : ny_mem (.methodLink "NymphRotaLaw" 164 m_Md_prove.1) = true := ny_at_mem (i := 1741) (by decide +kernel)
theorem l_Lw_165 : ny_mem (.methodLink "NymphRotaLaw" 165 m_No_row.1) = true := ny_at_mem (i := 1051) (by decide +kernel)
theorem l_Lw_168 : ny_mem (.methodLink "NymphRotaLaw" 168 m_Md_row.1) = true := ny_at_mem (i := 1745) (by decide +kernel)
theorem l_Lw_169 : ny_mem (.methodLink "NymphRotaLaw" 169 m_No_alterRow.1) = true := ny_at_mem (i := 1059) (by decide +kernel)
theorem l_Lw_172 : ny_mem (.methodLink "NymphRotaLaw" 172 m_Md_alterRow.1) = true := ny_at_mem (i := 1753) (by decide +kernel)
theorem l_Lw_173 : ny_mem (.methodLink "NymphRotaLaw" 173 m_No_judge.1) = true := ny_at_mem (i := 1063) (by decide +kernel)
theorem l_Lw_176 : ny_mem (.methodLink "NymphRotaLaw" 176 m_Md_judge.1) = true := ny_at_mem (i := 1757) (by decide +kernel)
theorem l_Lw_177 : ny_mem (.methodLink "NymphRotaLaw" 177 m_No_sheet.1) = true := ny_at_mem (i := 1071) (by decide +kernel)
theorem l_Lw_180 : ny_mem (.methodLink "NymphRotaLaw" 180 m_Md_sheet.1) = true := ny_at_mem (i := 1765) (by decide +kernel)
theorem l_Lw_181 : ny_mem (.methodLink "NymphRotaLaw" 181 m_No_write.1) = true := ny_at_mem (i := 1083) (by decide +kernel)
theorem l_Lw_184 : ny_mem (.methodLink "NymphRotaLaw" 184 m_Md_write.1) = true := ny_at_mem (i := 1773) (by decide +kernel)
theorem l_Lw_185 : ny_mem (.methodLink "NymphRotaLaw" 185 m_No_item.1) = true := ny_at_mem (i := 1095) (by decide +kernel)
theorem l_Lw_188 : ny_mem (.methodLink "NymphRotaLaw" 188 m_Md_item.1) = true := ny_at_mem (i := 1777) (by decide +kernel)
theorem l_Lw_189 : ny_mem (.methodLink "NymphRotaLaw" 189 m_No_goAll.1) = true := ny_at_mem (i := 1103) (by decide +kernel)
theorem l_Lw_192 : ny_mem (.methodLink "NymphRotaLaw" 192 m_Md_goAll.1) = true := ny_at_mem (i := 1785) (by decide +kernel)
theorem l_Lw_193 : ny_mem (.methodLink "NymphRotaLaw" 193 m_No_wouldBe.1) = true := ny_at_mem (i := 1111) (by decide +kernel)
theorem l_Lw_196 : ny_mem (.methodLink "NymphRotaLaw" 196 m_Md_wouldBe.1) = true := ny_at_mem (i := 1790) (by decide +kernel)
theorem l_Lw_197 : ny_mem (.methodLink "NymphRotaLaw" 197 m_No_shelf.1) = true := ny_at_mem (i := 1115) (by decide +kernel)
theorem l_Lw_200 : ny_mem (.methodLink "NymphRotaLaw" 200 m_Md_shelf.1) = true := ny_at_mem (i := 1798) (by decide +kernel)
theorem l_Lw_201 : ny_mem (.methodLink "NymphRotaLaw" 201 m_No_taken.1) = true := ny_at_mem (i := 1133) (by decide +kernel)
theorem l_Lw_204 : ny_mem (.methodLink "NymphRotaLaw" 204 m_Md_taken.1) = true := ny_at_mem (i := 1805) (by decide +kernel)
theorem l_Lw_205 : ny_mem (.methodLink "NymphRotaLaw" 205 m_No_act.1) = true := ny_at_mem (i := 1143) (by decide +kernel)
theorem l_Lw_208 : ny_mem (.methodLink "NymphRotaLaw" 208 m_Md_act.1) = true := ny_at_mem (i := 1815) (by decide +kernel)
theorem l_Lw_209 : ny_mem (.methodLink "NymphRotaLaw" 209 m_No_trace.1) = true := ny_at_mem (i := 1198) (by decide +kernel)
theorem l_Lw_212 : ny_mem (.methodLink "NymphRotaLaw" 212 m_Md_trace.1) = true := ny_at_mem (i := 1859) (by decide +kernel)
theorem l_Lw_213 : ny_mem (.methodLink "NymphRotaLaw" 213 m_No_many.1) = true := ny_at_mem (i := 1202) (by decide +kernel)
theorem l_Lw_216 : ny_mem (.methodLink "NymphRotaLaw" 216 m_Md_many.1) = true := ny_at_mem (i := 1863) (by decide +kernel)
theorem l_Lw_217 : ny_mem (.methodLink "NymphRotaLaw" 217 m_No_keep.1) = true := ny_at_mem (i := 1212) (by decide +kernel)
theorem l_Lw_220 : ny_mem (.methodLink "NymphRotaLaw" 220 m_Md_keep.1) = true := ny_at_mem (i := 1870) (by decide +kernel)
theorem l_Lw_221 : ny_mem (.methodLink "NymphRotaLaw" 221 m_No_again.1) = true := ny_at_mem (i := 1227) (by decide +kernel)
theorem l_Lw_224 : ny_mem (.methodLink "NymphRotaLaw" 224 m_Md_again.1) = true := ny_at_mem (i := 1874) (by decide +kernel)
theorem l_Jl_9 : ny_mem (.methodLink "java/lang/StringLatin1" 9 m_Js_checkIndex.1) = true := ny_at_mem (i := 705) (by decide +kernel)
end
section
/-! the memory behind the constructors; the methods that are called -/
def ny_kl : ny_K := [(0, 9), (0, 1), (0, 2), (1, 6), (1, 6), (1, 6), (1, 6), (1, 16), (1, 6), (1, 6), (0, 5), (1, 8), (1, 8), (1, 8), (1, 200), (1, 200), (1, 200), (1, 205), (0, 4), (1, 6), (1, 6), (1, 6), (1, 6), (0, 2), (1, 6), (0, 1), (0, 2), (1, 6), (1, 6), (1, 6), (1, 6), (1, 16), (1, 6), (1, 6), (0, 5), (1, 8), (1, 8), (1, 8), (1, 200), (1, 200), (1, 200), (1, 205), (0, 4), (1, 6), (1, 6), (1, 6), (1, 6), (0, 2), (1, 6), (0, 8), (2, 200), (1, 201), (1, 201), (1, 201), (0, 5), (1, 8), (1, 8), (1, 8), (1, 200), (1, 200), (1, 200), (1, 205), (0, 3), (3, 5), (1, 4), (1, 4), (0, 2), (1, 6), (0, 2), (1, 6), (0, 2), (1, 6), (0, 2), (1, 6), (0, 2), (1, 6), (6, 4), (1, 3), (1, 3), (1, 3), (1, 3), (4, 4), (5, 4), (0, 0), (1, 30), (0, 6), (1, 40), (0, 6), (1, 40), (0, 6), (1, 40), (0, 6), (1, 40), (0, 7), (0, 7), (0, 7), (0, 7), (0, 10), (1, 572), (1, 572), (1, 190), (1, 200), (1, 572), (1, 4), (1, 4), (1, 16), (1, 16), (1, 12), (1, 4), (1, 4), (1, 160), (1, 4), (1, 4), (1, 4), (1, 30)]
def ny_KK (Ln : Nat) : ny_K := (1, Ln) :: (1, 6) :: (0, 11) :: (2, 105) :: (9, 0) :: ny_kl
def ny_big : Nat := 8869207396257023513071844503992252765388479899505143494148450006949864577025862670513842843745694690885240840096635190498195962080258696773673981426589421066212854421954358095688694067838674040964746592245778076610918251355036978525513086674214831710044415879429685463607810012944707890858392169128802867798820565108060749421319268120609596201787553782454435641244900766856682826903733254923986412708797201928450978460980965496353906260958305150539410517572019237058016266114658669939631922194415808947762025447448296429306654279102483141796531528177111385208179056864363155592309233057944098961306908130417172580390796685629453414483510945834371865547499158950524791428613051178777458562856100105541052710845542324073349790376241526646436523624929102721611986577066677037092895133560201486694268625954776402912565936702984770825920560132927107031096775311533944047362443309257140847590887671594817444686120880134942622609545045523604412697415006980946591239672149123750983933717218400432247238207873523555965492594145166713575679108836218273947220305889343079905590988349148903747893887464389998649953440337378437371451788712836802976400638012958880646947441930730633514564847082479720058215603188577149458520372438942783019220048383973660221862290509441589631351050617322571060379468613384842064826742070733660086149202657217291132139994243830085118159861267850447001606268779801477473425015488260035406869536893376404034897843407961860342074151555209069987543967669124441219017009054262722936899898209814839456284508736417646559593870807095286209465154366982766979450912495510736389114187479781540633973592282306812933443127427130729234812900014335271901067286547036892980094208113226119143463029149833832430726581775370655084109025727578279984601475500796801449895698772092425715655175140726832041691189256369758552582623309855941426897602822823014548749375441359232506189688483453249236378075439522519497786912580798039672640277449958509474841231224000428780128573584414374811205522717460101294822850588205185327025953496358509575712480837019781706725499513112598281119627543800371040480323578559097370306844302539065238823746304005934316001625621323710407521793177363553680653681417766427507117799826169519574858291595966197136261738304126090612899529644677062442489506980939665232291501530105753985208630183619019147089821121061629384976705947921011883944978526527695550619096382291807135753898171162198243432931191234009294339407456124045901862596097857505013727828237320934618845552239337866253825492655042138871157232069076310248689186986839952326637677045124572654151496820202352556426036207276860710186681670159726839794982571842015863890578997298669129157265224320201733612518272622775461447697814367716769528911202493594182353199931092387776069575105981050377675458998333009379062257709444958176248176786608600905996712515178061967381478361146545308221780209940432374258984812984300462120942656909611579880147483214896195463061114058209655946010874806765133158899751546160051060070422416137334062057373159600003278805866753694324081361916872616386114014502557099548042299831895657864648458715723398496108467300113245830166093823430905312376502428047183267411139573791589977735822826545981455848952835719553175708879724753300200082350091032076025795811654181313817436318127327134081374845394173363756168306489818312605567007814228290754857341471870342885909886847795849976612273879961452419616503593036230064223436910246255680028478706534099829561526459315779866855984777057019737152466648364075835029687790240586810405122642596626318686172790554968777763132148900813652933381993663229091132557687114582523375576252695224180310517881720087964728961109993080178640829065171191241008727965257572689833184462492154762222608381306388937549850662223100037336419333988936815711599444232206729612605193794316012336695049637329599825924545316839942245483725996282108788669060553690990087049123615117019948345340885351211001654736502869781681029487426898290593751632869239588567446520030531019290558185178882763107396000106815951824652819507525257698271648722494898268436765816541839334982616020142081191063711923187754367511383540041794772052699845422279818181399271927445745959446559715965607531919963638892374135453420559224030659356018994354902365156995807923560482103655240741337614152859922103885312766106173676108387478513923010159345393196121739513127043768585090321589295059318444112504083889537667652986700772120797625376505416677204848576437201366776306807751392313698620216969741746708553472322569936071520261785783458299122631903294997154018077252470032407873298994788280064983972051976539804136222659842779042548421185826385061456442400938156723352408876879438647275693258059857034250449324058106590371889717828002704380385473048827361558524919097823701580278136750977603941845459632014934057007938330274462160226700843951977262706313760879761839919083879431389584233888815980315098890613740419112597244038112393166306106180005870441951724236654864586335794197505916510249770686008884240711471997617446033936977891232958014724106551035832645750670131296557612783664760401836895236203595442963429414289633114136986487884441862382540122489030506822004939058220927755770834309820493971700357653835828683265928061090938073768670859939822968222299308861925238395459560812764991059205759507529102888775140551007936498911048772930574767987276798713911050412420804368260146803563965826790304651588081684907420146257326166362458570418249319500295889208648227905595667936383285776177435529118406967375013414628567038994789713144911189128912849521795543486463014789261291798610850073035392016961099033130754457107328307769940082165278241834135548039635711046780654126420698244892265622857900812152063535273870029702475968719035714069116285149870406189621161307077841773734398422887701278294134675354062803350244866725012884159428618531361434892436664978032467795566297680865133540799498695780304268192133799314761128304519221655882448184900266346728281808759211289455700655929949420594658769205876944370810212419181665864423047559336475947104170732635927789869428636278000949262373468933911113937277389582044493868933934036401753963588902526141485158386868143409738681928647499297786781221716972357080876821648062055945242678385453725784765319676064941927622349334744786889144085828357363205870039369157105684076518059198548869015058678166862394924699707044698559432316376827468059877923047001706481521943349346328769453057044374654406596305939518909809931664635961893777165469911472664541000046033920132587995132886808115075847955873292670686019146135610419002696910717842063793938689295414934251002688273954755958183366921667649705461326871789048336571776731299501871816591623615270136430826148523738772330676131856005122095734043841017020548926247709461578467454209861832079680215626729673113928073201221591734063296473709579079227035175317599952837772171951964998963056549744612298901249339741490021792096936674820924975935201223097920033198505000616431566331383254324971620443671146015570718638087528025812303172997210480979815612450501162612173640447867117079322752550805690596864645194793774630950364183988215064342927661226108523148543682937287188459395611522562376984609011713668063776817782566822240353270097120657659457895984058501190085811478857875720768476146016641184229965589749726011513381866047523453294305625611464805156144790659747715869923035834023062306852592066091009718782906660678472210737232138573818110530629158632160985780362622939025773395228276294787813977811172598869952335702731912536752009533271401543961593629356338722374249233593860021205699237061065504068166173052146507889523515151139497516241186471798921945048804582264392807253251396040106870281456562969641231979592084825602737523049642118789100421490866524302696419936468727423829110741468201644875274729253051415449256018635727051631215782662111088523163798231398360248930109734861395250125089531669310592054900455237943192451359989709832727504580582470087179407629053858485757239482781728506698003143030300502857152768196968009564442705402583768146887520049302789315395363176082460372542389757486786752486066928943514672465549690997673678429295979051860647118531431147866840499145934635468279518429869686599415883094687990257091764471450725853221332802468099717457905836298138592362110996676376751368586611804453295622423208318522318368686492764759356943811707260978299934858231773930020495819281733527672860263857366193114726874477344244748184746585167939346252103513091177385007493802702213130882401716300102884659166824724658450803244270277477045773688291004996162879647854599986582421220780362893051298518404478748278757021705738778968522753338032085452291863514907238147053868842222475586723539834304933654273794961366100872528281746275473595188470956500792737237398163128731030670851547691409165674252183257738151563393304529371289078794297007877543381824444830777481041871206634841896741330753507370103841341682685404052341387073750934405097710225154327658528408109931270684087079950143521771070906472046579344057740021936030829022868931874604811190253556305898668377181301598832316806061831074531659085290840991405736209529471684718322933668252138634039162651179132026417436810892020331889591094505566541084563054633115021050276528406876885701997090702191359697113775655395809184055032581936988094368820474334118777647835671128412150753948862224201663609591623112373263419166283312644082726816931872958732465435517001730449910709104479449648247897419947568441749466484015411664923714115161514068001819857891202480055824812709380893158345777809322620017905906658901831954419054604900605195788184395921619902568869408527875063206588811914529302828812009038807279834589667392011428055170656844298634699699954178758860870846485013137280246867926211849052044668535421326318800244266710052290888984809440425231973664689285168462488077318283474612282181859300021411137497878230582636473072842362218844022751187924817777929764090405059486866120918771221225390975843220461321562759287832576833400471983254235950044126731893629788279243780838179546604433184752639096398946448069091864110816430689708234583051750511442866278173840911314866800893092793614885860962654599301408889558901184747555548604371119232648319959835048393049114035126400876981175621565123763110827893674308330073902355948571311280532083812177152666060271484304901315594036554129633796723672679440973519793291702356165341660370327725977377191593904784224577952794467608099040876021519350265782976111396518763693858692127741763142214521444426258797755476205278832667786159600753464341302873583272501765760675334433748539179183861389546667053447691317263733992241170102159739399624240633749750111410803219634409131330456852344918184734539740791921776039585292831072107699883219208236237693797264276507833136161872496321303348386093439683555598082797872914451097733675640000181477705076787724160035860299128931594511934455020623275161151063217511565746910316312968080559420978147511439228498230421381667972129058436274852780711756840965983225221717500992538742333488332319401440244729417141418322435985683557011935829939464051589984788762237522719298298707152785907502936885946886791919371224793541039937466428912089482014001200300083180445403763906832348656631121418602420146178702389808569395975849534093597798076987416621948640789442140761393817064556695231686623056879646791909075992649570885268980799934379424462039108217454261995493864412956087435461180238293855177777978885791419969869466536817155147967257652499903387290337902061230976658682165721494686593442459799410123313143418895466219200322039507563274239554915378404390297141479527234412223789498028510219044981070812065596629293142528833320736756371807665064799947900470622170898796531135709908986414827023411994408853089011276922182673749861682734293346029079458270716786683633480055915046905594823295482895333459613654763750233879598356954359237446682088541861837579531256439232334608985445844052583763636890469846360310993833085791815116882812573096933518117423877550525685592545105320881199347909037046253550835099223152413814474475923558439843617112743027215482584986729567280954883902821253176055068402412019367281837572978985128236235957985030874401731715796953476207373706580579277275370940628037370669345992320345583576549672310073868692094477288802025835930160695452991436832478930766405954696299381620800659984269875951355353938156737482045940224838818809069633241553831418591304152393125133731171808950635221353411323521326866891002266254068582409163211841481683178063807920159750889673576783588855347808680997223227101829446271584042695841647761467356705721534118170778392454575201946561093877217496025595987577192533947175083200167962060574395582502825994132968294638491130491210160888732590140454084034807128689654613315322600292473484131383278278475841264371469943436339894301404117721335037810159036087101347883913965596697892808516587240967459164627645133088399135156607232796020792893692193767437376002840230418072380594014245750489681843501908868914480597212795686858353856591941048023928143039024682470995443090521397341519493890018610787947157364171967903196258155996239531983815381087862564069188143930157811195553151612577714484472837861126957736617336189533046553338859472985265137672632886836065927961608231200944713912928693784865815444803278688895648682318410541196477873100676001648771397612408920683253496595919480652454170681459200552241646502058074345246925855191594993448913561207013474373367863219808918654117172716291243302823693708306444637199544626634568062459004456333009975453410943015446823424544055048314578793043336674777783745846523790129094244500875763348888387117987312407040852748190540962626292252762466462983579162151728647370639572974356293019588165577878554285045609430859058601645277859581046015605779564040429508339547818680644907102670026462592806980713932602586742483011168804157193645696536338722783102439829630215545756818128492876872493015276985013357868385399817772246737541784682769084019152638355563887816218873978816546409973572979170910702412758940910138060059697988298552514040906222987203244279160863947871292460280636317682239770748331470792624798168505773266297993314700205397804152124505885018246992178114961349497138866152715350372862819816104308038270870012955181192140827137207803421094090989203383158044075361767230881703037144133262932025728804477203433093139049599032291615923466378695189359124915685398403590439307120780034305595076786635216838086985290726072405356080388155633377090056040901774439140792415176549222574568109672930686058226034579137562198885637208691848262933129345030443889506771687265922755146875493497493633915795996389178683272124429937279844820517945595521916355857552459348852717469970902063740636134604124359706208634956600476855856238388119961939662434969429524763083581094929602080901173796336985807409871606282057462126720740282935153188860662636914653000126600950101554548904848437116421149408697837277346908019837126931337842676298352281635485168197356675195080155213991408770242707535933259122913133210323291297386629688857078766179100371616590482340781517272915541066921806137918229490306713980345478355508730254243446576011246269520271932130520535830172233955931287426699827937210875751922885287311739909089441567496957402749584732940875953780281464239019743234135878693638053799015832252886657774696640035106128743460854491389456947713704690894315654346466683090220321701208507793176622265967560318419974515661228646450352527509091060349529435118971989011039359507811288306848632530095185308329911758943125030811424104536936661915517813160033767070151679510830252303170190396788397840544943397816098780392541398218776226207851899401795126838026840395952409995181562624558590058971322222800866423804752793504059444478711139399599979871253909081984129397575683881761243136
def ny_RR : ny_R := fun c j => match Nat.ble 64 j with
  | true => none
  | false => match (ny_big >>> (8 * (64 * c + j))) % 256 with
    | 0 => none
    | v + 1 => some (v + 1)
def ny_bk : Nat := 1492641212458249193066128957540625398438047072672639544329401933996693193343829333878414973344682833124845939500896284336254199424412797360953741192505308501238537999046455754547330714633503971437527156017331503938002279284554132912224898591049490859355349950887546064297900731575094868420971579978069195447550799630126816485248059190005546573013780505136803789064528931807691155207742050412307898051764831572766965749847722063890620296157217715614281504538213429227574736682409174871609580349128740421221797318016301440185904265246831985965450141925033878068014458112901523216
def ny_mk : List Nat := [309485009821345068724781056, 1073741888, 805163489832876552224896, 147573952589676412928, 140737496743936, 576461302059270144, 105224903339257323366425559040, 4753689750855860255612637020160, 18014398509481984, 32, 5070602400912917605986812821504, 4]
theorem ny_kaf_all : ((List.range 120).all fun c => (Nat.beq c 0) || decide ((ny_KK 0)[c]? = some (((ny_bk >>> (16 * c)) % 65536) / 1000, ((ny_bk >>> (16 * c)) % 65536) % 1000))) = true := by decide +kernel
theorem ny_KK_c (Ln : Nat) {c : Nat} (h : c ≠ 0) : (ny_KK Ln)[c]? = (ny_KK 0)[c]? := by
  obtain ⟨k, rfl⟩ := Nat.exists_eq_succ_of_ne_zero h
  rfl
/-- what kind cell c is, by a number -/
theorem ny_kaf {Ln c t n : Nat} (h : (Nat.blt 0 c && Nat.blt c 120 && Nat.blt n 1000 && Nat.beq ((ny_bk >>> (16 * c)) % 65536) (1000 * t + n)) = true) : (ny_KK Ln)[c]? = some (t, n) := by
  simp only [Bool.and_eq_true] at h
  obtain ⟨⟨⟨h0, h1⟩, h2⟩, h3⟩ := h
  have h0 := Nat.le_of_ble_eq_true h0
  have h1 := Nat.le_of_ble_eq_true h1
  have h2 := Nat.le_of_ble_eq_true h2
  have h3 := Nat.eq_of_beq_eq_true h3
  rw [ny_KK_c Ln (by omega)]
  have h4 := List.all_eq_true.mp ny_kaf_all c (List.mem_range.mpr h1)
  rw [Bool.or_eq_true] at h4
  rcases h4 with h4 | h4
  · have := Nat.eq_of_beq_eq_true h4; omega
  · have h4 := of_decide_eq_true h4
    rw [h4, h3]
    congr 2 <;> omega
theorem ny_kdf {Ln c ci : Nat} (h : (Nat.blt 0 c && Nat.blt c 120 && Nat.blt ci 1000 && Nat.beq ((ny_bk >>> (16 * c)) % 65536) ci) = true) : ny_kd (ny_KK Ln) c (0, ci) = true := by
  refine decide_eq_true (ny_kaf ?_)
  simp only [Nat.mul_zero, Nat.zero_add]
  exact h
theorem ny_and2 {a b : Bool} (h1 : a = true) (h2 : b = true) : (a && b) = true := by rw [h1, h2]; rfl
def ny_r1 (Ln : Nat) (Q : Int32 → ny_I → Prop) : ny_Q := fun v K' I' R' => K' = ny_KK Ln ∧ R' = ny_RR ∧ ∃ x : Int32, v = some (.int x) ∧ Q x I'
def ny_r0 (Ln : Nat) (Q : ny_I → Prop) : ny_Q := fun v K' I' R' => K' = ny_KK Ln ∧ R' = ny_RR ∧ v = none ∧ Q I'
def ny_rr (Ln : Nat) (Q : Nat → ny_I → Prop) : ny_Q := fun v K' I' R' => K' = ny_KK Ln ∧ R' = ny_RR ∧ ∃ x : Nat, v = some (.ref x) ∧ Q x I'
def ny_Cg (d : Nat) (z : ny_M) (av : List Value) (Ln : Nat) (I : ny_I) (Ret : ny_Q) : Prop := ny_Call d 0 0 z av (ny_KK Ln) I ny_RR Ret
def ny_C1 (d : Nat) (z : ny_M) (av : List Value) (Ln : Nat) (I : ny_I) (Q : Int32 → ny_I → Prop) : Prop := ny_Call d 0 0 z av (ny_KK Ln) I ny_RR (ny_r1 Ln Q)
def ny_C0 (d : Nat) (z : ny_M) (av : List Value) (Ln : Nat) (I : ny_I) (Q : ny_I → Prop) : Prop := ny_Call d 0 0 z av (ny_KK Ln) I ny_RR (ny_r0 Ln Q)
def ny_Cr (d : Nat) (z : ny_M) (av : List Value) (Ln : Nat) (I : ny_I) (Q : Nat → ny_I → Prop) : Prop := ny_Call d 0 0 z av (ny_KK Ln) I ny_RR (ny_rr Ln Q)
def ny_g (d : Nat) (y : ny_M) (pc : Nat) (L : ny_Lc) (S : List Value) (Ln : Nat) (I : ny_I) (Ret : ny_Q) : Prop := ny_G d 0 0 y pc L S (ny_KK Ln) I ny_RR 0 0 Ret
section NYSD
variable {d own Ln : Nat} {y z : ny_M} {pc i a b idx na : Nat} {v : Int32} {w : Int64} {L : ny_Lc} {S St av : List Value} {I : ny_I} {Ret : ny_Q} {Q1 : Int32 → ny_I → Prop} {Q0 : ny_I → Prop} {Qr : Nat → ny_I → Prop}
theorem ny_cv1 (o ci : Nat) (hy : ny_chk own y = true) (hi : y.2.2.2.2.2[i]? = some (pc, 3, .invokevirtual idx, a, b, v, w)) (hz : ny_zv z na = true) (hlk : ny_mem (.methodLink y.1.cls idx z.1) = true) (hkd : ny_kd (ny_KK Ln) o (0, ci) = true) (hci : ci < 11) (hcn : ny_cn.getD ci "" = z.1.cls)
    (hst : St = av.reverse ++ .ref o :: S) (hna : av.length = na) (hS4 : S.length ≤ 4) (hcall : ny_C1 d z (.ref o :: av) Ln I Q1) (kk : ∀ r I', Q1 r I' → ny_g (d + 1) y (pc + 3) L (.int r :: S) Ln I' Ret) : ny_g (d + 1) y pc L St Ln I Ret :=
  ny_callV (mc' := 0) (ms' := 0) hy hi hz hlk hkd hci hcn hst hna ⟨Nat.le_refl _, Nat.le_refl _⟩ hS4 hcall (fun v K' I' R' ⟨h1, h2, x, h3, h4⟩ => by subst h1; subst h2; subst h3; exact kk x I' h4)
theorem ny_cv0 (o ci : Nat) (hy : ny_chk own y = true) (hi : y.2.2.2.2.2[i]? = some (pc, 3, .invokevirtual idx, a, b, v, w)) (hz : ny_zv z na = true) (hlk : ny_mem (.methodLink y.1.cls idx z.1) = true) (hkd : ny_kd (ny_KK Ln) o (0, ci) = true) (hci : ci < 11) (hcn : ny_cn.getD ci "" = z.1.cls)
    (hst : St = av.reverse ++ .ref o :: S) (hna : av.length = na) (hS4 : S.length ≤ 4) (hcall : ny_C0 d z (.ref o :: av) Ln I Q0) (kk : ∀ I', Q0 I' → ny_g (d + 1) y (pc + 3) L S Ln I' Ret) : ny_g (d + 1) y pc L St Ln I Ret :=
  ny_callV (mc' := 0) (ms' := 0) hy hi hz hlk hkd hci hcn hst hna ⟨Nat.le_refl _, Nat.le_refl _⟩ hS4 hcall (fun v K' I' R' ⟨h1, h2, h3, h4⟩ => by subst h1; subst h2; subst h3; exact kk I' h4)
theorem ny_cvr (o ci : Nat) (hy : ny_chk own y = true) (hi : y.2.2.2.2.2[i]? = some (pc, 3, .invokevirtual idx, a, b, v, w)) (hz : ny_zv z na = true) (hlk : ny_mem (.methodLink y.1.cls idx z.1) = true) (hkd : ny_kd (ny_KK Ln) o (0, ci) = true) (hci : ci < 11) (hcn : ny_cn.getD ci "" = z.1.cls)
    (hst : St = av.reverse ++ .ref o :: S) (hna : av.length = na) (hS4 : S.length ≤ 4) (hcall : ny_Cr d z (.ref o :: av) Ln I Qr) (kk : ∀ r I', Qr r I' → ny_g (d + 1) y (pc + 3) L (.ref r :: S) Ln I' Ret) : ny_g (d + 1) y pc L St Ln I Ret :=
  ny_callV (mc' := 0) (ms' := 0) hy hi hz hlk hkd hci hcn hst hna ⟨Nat.le_refl _, Nat.le_refl _⟩ hS4 hcall (fun v K' I' R' ⟨h1, h2, x, h3, h4⟩ => by subst h1; subst h2; subst h3; exact kk x I' h4)
theorem ny_cs1 (hy : ny_chk own y = true) (hi : y.2.2.2.2.2[i]? = some (pc, 3, .invokestatic idx, a, b, v, w)) (hz : ny_zs z na = true) (hlk : ny_mem (.methodLink y.1.cls idx z.1) = true)
    (hst : St = av.reverse ++ S) (hna : av.length = na) (hS4 : S.length ≤ 4) (hcall : ny_C1 d z av Ln I Q1) (kk : ∀ r I', Q1 r I' → ny_g (d + 1) y (pc + 3) L (.int r :: S) Ln I' Ret) : ny_g (d + 1) y pc L St Ln I Ret :=
  ny_callS (mc' := 0) (ms' := 0) hy hi hz hlk hst hna ⟨Nat.le_refl _, Nat.le_refl _⟩ hS4 hcall (fun v K' I' R' ⟨h1, h2, x, h3, h4⟩ => by subst h1; subst h2; subst h3; exact kk x I' h4)
theorem ny_cs0 (hy : ny_chk own y = true) (hi : y.2.2.2.2.2[i]? = some (pc, 3, .invokestatic idx, a, b, v, w)) (hz : ny_zs z na = true) (hlk : ny_mem (.methodLink y.1.cls idx z.1) = true)
    (hst : St = av.reverse ++ S) (hna : av.length = na) (hS4 : S.length ≤ 4) (hcall : ny_C0 d z av Ln I Q0) (kk : ∀ I', Q0 I' → ny_g (d + 1) y (pc + 3) L S Ln I' Ret) : ny_g (d + 1) y pc L St Ln I Ret :=
  ny_callS (mc' := 0) (ms' := 0) hy hi hz hlk hst hna ⟨Nat.le_refl _, Nat.le_refl _⟩ hS4 hcall (fun v K' I' R' ⟨h1, h2, h3, h4⟩ => by subst h1; subst h2; subst h3; exact kk I' h4)
/-- an end -/
theorem ny_e1 {ty : FieldType} {x : Int32} (hy : ny_chk own y = true) (hi : y.2.2.2.2.2[i]? = some (pc, 1, .ireturn, a, b, v, w)) (ht : y.2.2.2.1 = some ty) (hn2 : narrow ty (.int x) = .int x) (h : Q1 x I) : ny_g d y pc L [.int x] Ln I (ny_r1 Ln Q1) :=
  ny_iret hy hi ht hn2 rfl ⟨rfl, rfl, x, rfl, h⟩
theorem ny_e0 (hy : ny_chk own y = true) (hi : y.2.2.2.2.2[i]? = some (pc, 1, .return_, a, b, v, w)) (ht : y.2.2.2.1 = none) (h : Q0 I) : ny_g d y pc L [] Ln I (ny_r0 Ln Q0) :=
  ny_vret hy hi ht rfl ⟨rfl, rfl, rfl, h⟩
theorem ny_er {o : Nat} {nm : String} (hy : ny_chk own y = true) (hi : y.2.2.2.2.2[i]? = some (pc, 1, .areturn, a, b, v, w)) (ht : y.2.2.2.1 = some (.object nm)) (ho : o ≠ 4) (h : Qr o I) : ny_g d y pc L [.ref o] Ln I (ny_rr Ln Qr) :=
  ny_aret hy hi ht ho rfl ⟨rfl, rfl, o, rfl, h⟩
theorem ny_nb {x : Int32} (h : x = 0 ∨ x = 1) : narrow .boolean (.int x) = .int x := by
  rcases h with rfl | rfl <;> decide +kernel
theorem ny_n1 (hz : ny_zb z na = true) (hL : (lg_sl av).length ≤ z.2.2.1) (h : ny_g d z 0 (lv_args 0 av) [] Ln I (ny_r1 Ln Q1)) : ny_C1 d z av Ln I Q1 := ny_ent hz hL h
theorem ny_n0 (hz : ny_zb z na = true) (hL : (lg_sl av).length ≤ z.2.2.1) (h : ny_g d z 0 (lv_args 0 av) [] Ln I (ny_r0 Ln Q0)) : ny_C0 d z av Ln I Q0 := ny_ent hz hL h
theorem ny_nr (hz : ny_zb z na = true) (hL : (lg_sl av).length ≤ z.2.2.1) (h : ny_g d z 0 (lv_args 0 av) [] Ln I (ny_rr Ln Qr)) : ny_Cr d z av Ln I Qr := ny_ent hz hL h
theorem ny_zv_b (h : ny_zv z na = true) : ny_zb z na = true := by
  simp only [ny_zv, Bool.and_eq_true] at h
  exact h.1.1
theorem ny_zs_b (h : ny_zs z na = true) : ny_zb z na = true := by
  simp only [ny_zs, Bool.and_eq_true] at h
  exact h.1
end NYSD
end
section
/-! helps for the printed walks -/
theorem ny_arg {K : ny_K} {t o n : Nat} {j : Int32} (hk : K[o]? = some (t, n)) (h : ny_in j n = true) : ny_ar K t o j = true := by
  unfold ny_ar
  rw [hk]
  simp [h]
theorem ny_awg {K : ny_K} {t o n : Nat} {j : Int32} (hk : K[o]? = some (t, n)) (h5 : Nat.ble 5 o = true) (h : ny_in j n = true) : ny_aw K t o j = true := by
  unfold ny_aw
  rw [ny_arg hk h, Bool.true_and, decide_eq_true_eq]
  exact Nat.le_of_ble_eq_true h5
theorem ny_pfg {b : Bool} {x : Int32} (hb : b = true) (h : x = 0 ∨ x = 1) : (b && (decide (x = 0) || decide (x = 1))) = true := by
  rw [hb]
  rcases h with rfl | rfl <;> rfl
theorem ny_ne {x c : Int32} {z : Int} (hz : c.toInt = z) (h : ¬ x = c) : ¬ x.toInt = z := fun e => h (Int32.toInt_inj.mp (e.trans hz.symm))
def ny_cbl (s d n1 n2 : Nat) (sp dp n : Int32) : Bool := decide (5 ≤ s) && decide (5 ≤ d) && !(decide (s = d)) && !(decide (sp < 0)) && !(decide (dp < 0)) && !(decide (n < 0)) && decide (sp.toNatClampNeg + n.toNatClampNeg ≤ n1) && decide (dp.toNatClampNeg + n.toNatClampNeg ≤ n2)
theorem ny_cbg {K : ny_K} {s d n1 n2 : Nat} {sp dp n : Int32} (h1 : K[s]? = some (1, n1)) (h2 : K[d]? = some (1, n2)) (h : ny_cbl s d n1 n2 sp dp n = true) : ny_cb K s d sp dp n = true := by
  have e : ∀ {o m : Nat}, K[o]? = some (1, m) → K.getD o (0, 0) = (1, m) := fun h => by rw [List.getD_eq_getElem?_getD, h]; rfl
  unfold ny_cb ny_ln
  rw [e h1, e h2]
  simp only [ny_cbl, Bool.and_eq_true] at h
  simp only [Bool.and_eq_true, decide_true]
  obtain ⟨⟨⟨⟨⟨⟨⟨a1, a2⟩, a3⟩, a4⟩, a5⟩, a6⟩, a7⟩, a8⟩ := h
  exact ⟨⟨⟨⟨⟨⟨⟨⟨⟨a1, a2⟩, a3⟩, trivial⟩, trivial⟩, a4⟩, a5⟩, a6⟩, a7⟩, a8⟩
/-- fewer locals, by their places -/
theorem ny_pick {L L2 : ny_Lc} (ks : List Nat) (h : ks.filterMap (fun k => L[k]?) = L2) : ∀ q ∈ L2, q ∈ L := by
  intro q hq
  rw [← h] at hq
  obtain ⟨k, -, hk⟩ := List.mem_filterMap.mp hq
  exact List.mem_of_getElem? hk
theorem ny_in_ex {j : Int32} {n : Nat} (h : ny_in j n = true) : j.toNatClampNeg < n := by
  simp only [ny_in, Bool.and_eq_true, decide_eq_true_eq] at h
  exact h.2
section NYAA
variable {d mc ms own : Nat} {y z : ny_M} {pc i a b idx na Ln : Nat} {v : Int32} {w : Int64} {L : ny_Lc} {S St av : List Value} {K : ny_K} {I : ny_I} {R : ny_R} {k n : Nat} {Ret : ny_Q} {Q1 : Int32 → ny_I → Prop} {Q0 : ny_I → Prop} {Qr : Nat → ny_I → Prop}
theorem ny_aaG {ob t nn base step : Nat} {j : Int32} (hk : K[ob]? = some (t + 3, nn)) (ht : t < 4) (hr : ∀ q, q < nn → R ob q = some (base + step * q)) (hb : 5 ≤ base) (hy : ny_chk own y = true) (hi : y.2.2.2.2.2[i]? = some (pc, 1, .aaload, a, b, v, w)) (h : ny_in j nn = true)
    (kk : ny_G d mc ms y (pc + 1) L (.ref (base + step * j.toNatClampNeg) :: S) K I R k n Ret) : ny_G d mc ms y pc L (.int j :: .ref ob :: S) K I R k n Ret := by
  refine ny_G_run hy [(pc, 1, .aaload, a, b, v, w)] pc L _ I (fun q hq => by rw [List.mem_singleton.mp hq]; exact List.mem_of_getElem? hi) ?_
  have e := hr _ (ny_in_ex h)
  have e2 : ny_ra K ob j = true := by
    unfold ny_ra
    rw [hk]
    simp only [h, Bool.and_true, Bool.and_eq_true, decide_eq_true_eq]
    omega
  have e3 : ny_rs (R ob j.toNatClampNeg) = true := by
    rw [e]
    unfold ny_rs
    simp only [Bool.not_eq_true']
    cases hb2 : Nat.beq (base + step * j.toNatClampNeg) 4 with
    | false => rfl
    | true => exact absurd (Nat.eq_of_beq_eq_true hb2) (by omega)
  have e4 : (R ob j.toNatClampNeg).getD 0 = base + step * j.toNatClampNeg := by rw [e]; rfl
  rw [← e4] at kk
  unfold ny_run
  rw [show Nat.beq ((pc, 1, Instr.aaload, a, b, v, w) : ny_Op).1 pc = true from Nat.beq_refl pc]
  exact ⟨by rw [e2, e3]; rfl, kk⟩
theorem ny_rr68 : ∀ q, q < 5 → ny_RR 68 q = some (71 + 2 * q) := by decide +kernel
theorem ny_rr86 : ∀ q, q < 4 → ny_RR 86 q = some (90 + 2 * q) := by decide +kernel
theorem ny_rr87 : ∀ q, q < 4 → ny_RR 87 q = some (98 + 1 * q) := by decide +kernel
theorem ny_rr81 : ∀ q, q < 4 → ny_RR 81 q = some (82 + 1 * q) := by decide +kernel
theorem ny_aa68 {j : Int32} (hy : ny_chk own y = true) (hi : y.2.2.2.2.2[i]? = some (pc, 1, .aaload, a, b, v, w)) (h : ny_in j 5 = true) (kk : ny_g d y (pc + 1) L (.ref (71 + 2 * j.toNatClampNeg) :: S) Ln I Ret) : ny_g d y pc L (.int j :: .ref 68 :: S) Ln I Ret := ny_aaG (t := 0) rfl (by decide) ny_rr68 (by decide) hy hi h kk
theorem ny_aa86 {j : Int32} (hy : ny_chk own y = true) (hi : y.2.2.2.2.2[i]? = some (pc, 1, .aaload, a, b, v, w)) (h : ny_in j 4 = true) (kk : ny_g d y (pc + 1) L (.ref (90 + 2 * j.toNatClampNeg) :: S) Ln I Ret) : ny_g d y pc L (.int j :: .ref 86 :: S) Ln I Ret := ny_aaG (t := 1) rfl (by decide) ny_rr86 (by decide) hy hi h kk
theorem ny_aa87 {j : Int32} (hy : ny_chk own y = true) (hi : y.2.2.2.2.2[i]? = some (pc, 1, .aaload, a, b, v, w)) (h : ny_in j 4 = true) (kk : ny_g d y (pc + 1) L (.ref (98 + 1 * j.toNatClampNeg) :: S) Ln I Ret) : ny_g d y pc L (.int j :: .ref 87 :: S) Ln I Ret := ny_aaG (t := 2) rfl (by decide) ny_rr87 (by decide) hy hi h kk
theorem ny_aa81 {j : Int32} (hy : ny_chk own y = true) (hi : y.2.2.2.2.2[i]? = some (pc, 1, .aaload, a, b, v, w)) (h : ny_in j 4 = true) (kk : ny_g d y (pc + 1) L (.ref (82 + 1 * j.toNatClampNeg) :: S) Ln I Ret) : ny_g d y pc L (.int j :: .ref 81 :: S) Ln I Ret := ny_aaG (t := 3) rfl (by decide) ny_rr81 (by decide) hy hi h kk
theorem ny_dv1 (ci : Nat) {o : Nat} (hy : ny_chk own y = true) (hi : y.2.2.2.2.2[i]? = some (pc, 3, .invokevirtual idx, a, b, v, w)) (hz : ny_zv z na = true) (hlk : ny_mem (.methodLink y.1.cls idx z.1) = true)
    (hst : St = av.reverse ++ .ref o :: S) (hkd : ny_kd (ny_KK Ln) o (0, ci) = true) (hci : ci < 11) (hcn : ny_cn.getD ci "" = z.1.cls) (hna : av.length = na) (hS4 : Nat.ble S.length 4 = true) (hcall : ny_C1 d z (.ref o :: av) Ln I Q1) (kk : ∀ r I', Q1 r I' → ny_g (d + 1) y (pc + 3) L (.int r :: S) Ln I' Ret) : ny_g (d + 1) y pc L St Ln I Ret :=
  ny_cv1 o ci hy hi hz hlk hkd hci hcn hst hna (Nat.le_of_ble_eq_true hS4) hcall kk
theorem ny_dv0 (ci : Nat) {o : Nat} (hy : ny_chk own y = true) (hi : y.2.2.2.2.2[i]? = some (pc, 3, .invokevirtual idx, a, b, v, w)) (hz : ny_zv z na = true) (hlk : ny_mem (.methodLink y.1.cls idx z.1) = true)
    (hst : St = av.reverse ++ .ref o :: S) (hkd : ny_kd (ny_KK Ln) o (0, ci) = true) (hci : ci < 11) (hcn : ny_cn.getD ci "" = z.1.cls) (hna : av.length = na) (hS4 : Nat.ble S.length 4 = true) (hcall : ny_C0 d z (.ref o :: av) Ln I Q0) (kk : ∀ I', Q0 I' → ny_g (d + 1) y (pc + 3) L S Ln I' Ret) : ny_g (d + 1) y pc L St Ln I Ret :=
  ny_cv0 o ci hy hi hz hlk hkd hci hcn hst hna (Nat.le_of_ble_eq_true hS4) hcall kk
theorem ny_dvr (ci : Nat) {o : Nat} (hy : ny_chk own y = true) (hi : y.2.2.2.2.2[i]? = some (pc, 3, .invokevirtual idx, a, b, v, w)) (hz : ny_zv z na = true) (hlk : ny_mem (.methodLink y.1.cls idx z.1) = true)
    (hst : St = av.reverse ++ .ref o :: S) (hkd : ny_kd (ny_KK Ln) o (0, ci) = true) (hci : ci < 11) (hcn : ny_cn.getD ci "" = z.1.cls) (hna : av.length = na) (hS4 : Nat.ble S.length 4 = true) (hcall : ny_Cr d z (.ref o :: av) Ln I Qr) (kk : ∀ r I', Qr r I' → ny_g (d + 1) y (pc + 3) L (.ref r :: S) Ln I' Ret) : ny_g (d + 1) y pc L St Ln I Ret :=
  ny_cvr o ci hy hi hz hlk hkd hci hcn hst hna (Nat.le_of_ble_eq_true hS4) hcall kk
theorem ny_ds1 (hy : ny_chk own y = true) (hi : y.2.2.2.2.2[i]? = some (pc, 3, .invokestatic idx, a, b, v, w)) (hz : ny_zs z na = true) (hlk : ny_mem (.methodLink y.1.cls idx z.1) = true)
    (hst : St = av.reverse ++ S) (hna : av.length = na) (hS4 : Nat.ble S.length 4 = true) (hcall : ny_C1 d z av Ln I Q1) (kk : ∀ r I', Q1 r I' → ny_g (d + 1) y (pc + 3) L (.int r :: S) Ln I' Ret) : ny_g (d + 1) y pc L St Ln I Ret :=
  ny_cs1 hy hi hz hlk hst hna (Nat.le_of_ble_eq_true hS4) hcall kk
theorem ny_ds0 (hy : ny_chk own y = true) (hi : y.2.2.2.2.2[i]? = some (pc, 3, .invokestatic idx, a, b, v, w)) (hz : ny_zs z na = true) (hlk : ny_mem (.methodLink y.1.cls idx z.1) = true)
    (hst : St = av.reverse ++ S) (hna : av.length = na) (hS4 : Nat.ble S.length 4 = true) (hcall : ny_C0 d z av Ln I Q0) (kk : ∀ I', Q0 I' → ny_g (d + 1) y (pc + 3) L S Ln I' Ret) : ny_g (d + 1) y pc L St Ln I Ret :=
  ny_cs0 hy hi hz hlk hst hna (Nat.le_of_ble_eq_true hS4) hcall kk
theorem ny_n1' (hz : ny_zb z na = true) (hL : Nat.ble (lg_sl av).length z.2.2.1 = true) (h : ny_g d z 0 (lv_args 0 av) [] Ln I (ny_r1 Ln Q1)) : ny_C1 d z av Ln I Q1 := ny_n1 hz (Nat.le_of_ble_eq_true hL) h
theorem ny_n0' (hz : ny_zb z na = true) (hL : Nat.ble (lg_sl av).length z.2.2.1 = true) (h : ny_g d z 0 (lv_args 0 av) [] Ln I (ny_r0 Ln Q0)) : ny_C0 d z av Ln I Q0 := ny_n0 hz (Nat.le_of_ble_eq_true hL) h
theorem ny_nr' (hz : ny_zb z na = true) (hL : Nat.ble (lg_sl av).length z.2.2.1 = true) (h : ny_g d z 0 (lv_args 0 av) [] Ln I (ny_rr Ln Qr)) : ny_Cr d z av Ln I Qr := ny_nr hz (Nat.le_of_ble_eq_true hL) h
end NYAA
end
