section
-- ===== PART A: goes FIRST, ahead of the names: the tables' words, and 'selects' of the private methods out of them =====
/-- a private method of a class that the tables say can be made, by its rows of tables_1 -/
def lw_okq (q : MethodName × Nat) : Prop := (q.1.cls ≠ "java/lang/invoke/MethodHandle" ∧ q.1.cls ≠ "java/lang/invoke/VarHandle") ∧ Cond.instantiable q.1.cls q.2 ∈ tables_1 ∧ Cond.privateMethod q.1 ∈ tables_1 ∧ Cond.instanceMethod q.1 ∈ tables_1
theorem lw_p0 : lw_okq (⟨"BreathSold", "textOf", "(I)LBreathSold$Text;"⟩, 14) := ⟨⟨by decide +kernel, by decide +kernel⟩, List.mem_of_getElem? (i := 18) (by decide +kernel), List.mem_of_getElem? (i := 329) (by decide +kernel), List.mem_of_getElem? (i := 330) (by decide +kernel)⟩
theorem lw_p1 : lw_okq (⟨"BreathSold", "takeTexts", "()V"⟩, 14) := ⟨⟨by decide +kernel, by decide +kernel⟩, List.mem_of_getElem? (i := 18) (by decide +kernel), List.mem_of_getElem? (i := 333) (by decide +kernel), List.mem_of_getElem? (i := 334) (by decide +kernel)⟩
theorem lw_p2 : lw_okq (⟨"BreathSold$Text", "mayStandAt", "(I)Z"⟩, 3) := ⟨⟨by decide +kernel, by decide +kernel⟩, List.mem_of_getElem? (i := 26) (by decide +kernel), List.mem_of_getElem? (i := 345) (by decide +kernel), List.mem_of_getElem? (i := 346) (by decide +kernel)⟩
theorem lw_p3 : lw_okq (⟨"BreathSold", "forgetDays", "()V"⟩, 14) := ⟨⟨by decide +kernel, by decide +kernel⟩, List.mem_of_getElem? (i := 18) (by decide +kernel), List.mem_of_getElem? (i := 365) (by decide +kernel), List.mem_of_getElem? (i := 366) (by decide +kernel)⟩
theorem lw_p4 : lw_okq (⟨"BreathSold", "isBottle", "(I)Z"⟩, 14) := ⟨⟨by decide +kernel, by decide +kernel⟩, List.mem_of_getElem? (i := 18) (by decide +kernel), List.mem_of_getElem? (i := 387) (by decide +kernel), List.mem_of_getElem? (i := 388) (by decide +kernel)⟩
theorem lw_p5 : lw_okq (⟨"BreathSold", "find", "(I)I"⟩, 14) := ⟨⟨by decide +kernel, by decide +kernel⟩, List.mem_of_getElem? (i := 18) (by decide +kernel), List.mem_of_getElem? (i := 418) (by decide +kernel), List.mem_of_getElem? (i := 419) (by decide +kernel)⟩
theorem lw_p6 : lw_okq (⟨"BreathSold", "behind", "(I)LBreathSold$State;"⟩, 14) := ⟨⟨by decide +kernel, by decide +kernel⟩, List.mem_of_getElem? (i := 18) (by decide +kernel), List.mem_of_getElem? (i := 427) (by decide +kernel), List.mem_of_getElem? (i := 428) (by decide +kernel)⟩
theorem lw_p7 : lw_okq (⟨"BreathSold$State", "pourInto", "(II)V"⟩, 13) := ⟨⟨by decide +kernel, by decide +kernel⟩, List.mem_of_getElem? (i := 222) (by decide +kernel), List.mem_of_getElem? (i := 453) (by decide +kernel), List.mem_of_getElem? (i := 454) (by decide +kernel)⟩
theorem lw_p8 : lw_okq (⟨"BreathSold$State", "letGo", "(I[I)V"⟩, 13) := ⟨⟨by decide +kernel, by decide +kernel⟩, List.mem_of_getElem? (i := 222) (by decide +kernel), List.mem_of_getElem? (i := 457) (by decide +kernel), List.mem_of_getElem? (i := 458) (by decide +kernel)⟩
theorem lw_p9 : lw_okq (⟨"BreathSold$State", "leak", "()V"⟩, 13) := ⟨⟨by decide +kernel, by decide +kernel⟩, List.mem_of_getElem? (i := 222) (by decide +kernel), List.mem_of_getElem? (i := 461) (by decide +kernel), List.mem_of_getElem? (i := 462) (by decide +kernel)⟩
theorem lw_p10 : lw_okq (⟨"BreathSold$Singer", "voices", "()I"⟩, 6) := ⟨⟨by decide +kernel, by decide +kernel⟩, List.mem_of_getElem? (i := 146) (by decide +kernel), List.mem_of_getElem? (i := 539) (by decide +kernel), List.mem_of_getElem? (i := 540) (by decide +kernel)⟩
theorem lw_p11 : lw_okq (⟨"BreathSold$Singer", "isFree", "(III)Z"⟩, 6) := ⟨⟨by decide +kernel, by decide +kernel⟩, List.mem_of_getElem? (i := 146) (by decide +kernel), List.mem_of_getElem? (i := 551) (by decide +kernel), List.mem_of_getElem? (i := 552) (by decide +kernel)⟩
theorem lw_p12 : lw_okq (⟨"BreathSold$Singer", "leastNext", "(II)I"⟩, 6) := ⟨⟨by decide +kernel, by decide +kernel⟩, List.mem_of_getElem? (i := 146) (by decide +kernel), List.mem_of_getElem? (i := 555) (by decide +kernel), List.mem_of_getElem? (i := 556) (by decide +kernel)⟩
theorem lw_p13 : lw_okq (⟨"BreathSold", "seekCorks", "(I)I"⟩, 14) := ⟨⟨by decide +kernel, by decide +kernel⟩, List.mem_of_getElem? (i := 18) (by decide +kernel), List.mem_of_getElem? (i := 563) (by decide +kernel), List.mem_of_getElem? (i := 564) (by decide +kernel)⟩
theorem lw_p14 : lw_okq (⟨"BreathSold", "areBottles", "(I)Z"⟩, 14) := ⟨⟨by decide +kernel, by decide +kernel⟩, List.mem_of_getElem? (i := 18) (by decide +kernel), List.mem_of_getElem? (i := 573) (by decide +kernel), List.mem_of_getElem? (i := 574) (by decide +kernel)⟩
theorem lw_p15 : lw_okq (⟨"BreathSold", "singsCorked", "(II)Z"⟩, 14) := ⟨⟨by decide +kernel, by decide +kernel⟩, List.mem_of_getElem? (i := 18) (by decide +kernel), List.mem_of_getElem? (i := 577) (by decide +kernel), List.mem_of_getElem? (i := 578) (by decide +kernel)⟩
def lw_privs_1 : List (MethodName × Nat) := [(⟨"BreathSold", "textOf", "(I)LBreathSold$Text;"⟩, 14), (⟨"BreathSold", "takeTexts", "()V"⟩, 14), (⟨"BreathSold$Text", "mayStandAt", "(I)Z"⟩, 3), (⟨"BreathSold", "forgetDays", "()V"⟩, 14), (⟨"BreathSold", "isBottle", "(I)Z"⟩, 14), (⟨"BreathSold", "find", "(I)I"⟩, 14), (⟨"BreathSold", "behind", "(I)LBreathSold$State;"⟩, 14), (⟨"BreathSold$State", "pourInto", "(II)V"⟩, 13), (⟨"BreathSold$State", "letGo", "(I[I)V"⟩, 13), (⟨"BreathSold$State", "leak", "()V"⟩, 13), (⟨"BreathSold$Singer", "voices", "()I"⟩, 6), (⟨"BreathSold$Singer", "isFree", "(III)Z"⟩, 6), (⟨"BreathSold$Singer", "leastNext", "(II)I"⟩, 6), (⟨"BreathSold", "seekCorks", "(I)I"⟩, 14), (⟨"BreathSold", "areBottles", "(I)Z"⟩, 14), (⟨"BreathSold", "singsCorked", "(II)Z"⟩, 14)]
theorem lw_r1 : ∀ q ∈ lw_privs_1, lw_okq q := List.forall_mem_cons.mpr ⟨lw_p0, List.forall_mem_cons.mpr ⟨lw_p1, List.forall_mem_cons.mpr ⟨lw_p2, List.forall_mem_cons.mpr ⟨lw_p3, List.forall_mem_cons.mpr ⟨lw_p4, List.forall_mem_cons.mpr ⟨lw_p5, List.forall_mem_cons.mpr ⟨lw_p6, List.forall_mem_cons.mpr ⟨lw_p7, List.forall_mem_cons.mpr ⟨lw_p8, List.forall_mem_cons.mpr ⟨lw_p9, List.forall_mem_cons.mpr ⟨lw_p10, List.forall_mem_cons.mpr ⟨lw_p11, List.forall_mem_cons.mpr ⟨lw_p12, List.forall_mem_cons.mpr ⟨lw_p13, List.forall_mem_cons.mpr ⟨lw_p14, List.forall_mem_cons.mpr ⟨lw_p15, fun _ h => absurd h List.not_mem_nil⟩⟩⟩⟩⟩⟩⟩⟩⟩⟩⟩⟩⟩⟩⟩⟩
theorem lw_p16 : lw_okq (⟨"BreathSold", "corkedAt", "(I)I"⟩, 14) := ⟨⟨by decide +kernel, by decide +kernel⟩, List.mem_of_getElem? (i := 18) (by decide +kernel), List.mem_of_getElem? (i := 585) (by decide +kernel), List.mem_of_getElem? (i := 586) (by decide +kernel)⟩
theorem lw_p17 : lw_okq (⟨"BreathSold", "comesOut", "(III)Z"⟩, 14) := ⟨⟨by decide +kernel, by decide +kernel⟩, List.mem_of_getElem? (i := 18) (by decide +kernel), List.mem_of_getElem? (i := 605) (by decide +kernel), List.mem_of_getElem? (i := 606) (by decide +kernel)⟩
theorem lw_p18 : lw_okq (⟨"BreathSold", "holdWithoutEach", "(II)V"⟩, 14) := ⟨⟨by decide +kernel, by decide +kernel⟩, List.mem_of_getElem? (i := 18) (by decide +kernel), List.mem_of_getElem? (i := 630) (by decide +kernel), List.mem_of_getElem? (i := 631) (by decide +kernel)⟩
theorem lw_p19 : lw_okq (⟨"BreathSold", "mostAlike", "(II)I"⟩, 14) := ⟨⟨by decide +kernel, by decide +kernel⟩, List.mem_of_getElem? (i := 18) (by decide +kernel), List.mem_of_getElem? (i := 634) (by decide +kernel), List.mem_of_getElem? (i := 635) (by decide +kernel)⟩
theorem lw_p20 : lw_okq (⟨"BreathSold", "mixBottle", "(JI)J"⟩, 14) := ⟨⟨by decide +kernel, by decide +kernel⟩, List.mem_of_getElem? (i := 18) (by decide +kernel), List.mem_of_getElem? (i := 727) (by decide +kernel), List.mem_of_getElem? (i := 728) (by decide +kernel)⟩
theorem lw_p21 : lw_okq (⟨"BreathSoldModel", "faultOf", "(I)I"⟩, 47) := ⟨⟨by decide +kernel, by decide +kernel⟩, List.mem_of_getElem? (i := 749) (by decide +kernel), List.mem_of_getElem? (i := 920) (by decide +kernel), List.mem_of_getElem? (i := 921) (by decide +kernel)⟩
theorem lw_p22 : lw_okq (⟨"BreathSoldModel", "readsBottles", "()I"⟩, 47) := ⟨⟨by decide +kernel, by decide +kernel⟩, List.mem_of_getElem? (i := 749) (by decide +kernel), List.mem_of_getElem? (i := 924) (by decide +kernel), List.mem_of_getElem? (i := 925) (by decide +kernel)⟩
theorem lw_p23 : lw_okq (⟨"BreathSoldModel", "readsBottle", "(II)I"⟩, 47) := ⟨⟨by decide +kernel, by decide +kernel⟩, List.mem_of_getElem? (i := 749) (by decide +kernel), List.mem_of_getElem? (i := 928) (by decide +kernel), List.mem_of_getElem? (i := 929) (by decide +kernel)⟩
theorem lw_p24 : lw_okq (⟨"BreathSoldModel", "byteAt", "(II)I"⟩, 47) := ⟨⟨by decide +kernel, by decide +kernel⟩, List.mem_of_getElem? (i := 749) (by decide +kernel), List.mem_of_getElem? (i := 932) (by decide +kernel), List.mem_of_getElem? (i := 933) (by decide +kernel)⟩
theorem lw_p25 : lw_okq (⟨"BreathSoldModel", "readsSong", "()I"⟩, 47) := ⟨⟨by decide +kernel, by decide +kernel⟩, List.mem_of_getElem? (i := 749) (by decide +kernel), List.mem_of_getElem? (i := 936) (by decide +kernel), List.mem_of_getElem? (i := 937) (by decide +kernel)⟩
theorem lw_p26 : lw_okq (⟨"BreathSoldModel", "isBottle", "(I)Z"⟩, 47) := ⟨⟨by decide +kernel, by decide +kernel⟩, List.mem_of_getElem? (i := 749) (by decide +kernel), List.mem_of_getElem? (i := 944) (by decide +kernel), List.mem_of_getElem? (i := 945) (by decide +kernel)⟩
theorem lw_p27 : lw_okq (⟨"BreathSoldModel", "reads", "()V"⟩, 47) := ⟨⟨by decide +kernel, by decide +kernel⟩, List.mem_of_getElem? (i := 749) (by decide +kernel), List.mem_of_getElem? (i := 948) (by decide +kernel), List.mem_of_getElem? (i := 949) (by decide +kernel)⟩
theorem lw_p28 : lw_okq (⟨"BreathSoldModel", "bottleOf", "(II)I"⟩, 47) := ⟨⟨by decide +kernel, by decide +kernel⟩, List.mem_of_getElem? (i := 749) (by decide +kernel), List.mem_of_getElem? (i := 952) (by decide +kernel), List.mem_of_getElem? (i := 953) (by decide +kernel)⟩
theorem lw_p29 : lw_okq (⟨"BreathSoldModel", "noteOf", "(I)I"⟩, 47) := ⟨⟨by decide +kernel, by decide +kernel⟩, List.mem_of_getElem? (i := 749) (by decide +kernel), List.mem_of_getElem? (i := 963) (by decide +kernel), List.mem_of_getElem? (i := 964) (by decide +kernel)⟩
theorem lw_p30 : lw_okq (⟨"BreathSoldModel", "meets", "(I)I"⟩, 47) := ⟨⟨by decide +kernel, by decide +kernel⟩, List.mem_of_getElem? (i := 749) (by decide +kernel), List.mem_of_getElem? (i := 993) (by decide +kernel), List.mem_of_getElem? (i := 994) (by decide +kernel)⟩
theorem lw_p31 : lw_okq (⟨"BreathSoldModel", "holdsOf", "(III)I"⟩, 47) := ⟨⟨by decide +kernel, by decide +kernel⟩, List.mem_of_getElem? (i := 749) (by decide +kernel), List.mem_of_getElem? (i := 1002) (by decide +kernel), List.mem_of_getElem? (i := 1003) (by decide +kernel)⟩
def lw_privs_2 : List (MethodName × Nat) := [(⟨"BreathSold", "corkedAt", "(I)I"⟩, 14), (⟨"BreathSold", "comesOut", "(III)Z"⟩, 14), (⟨"BreathSold", "holdWithoutEach", "(II)V"⟩, 14), (⟨"BreathSold", "mostAlike", "(II)I"⟩, 14), (⟨"BreathSold", "mixBottle", "(JI)J"⟩, 14), (⟨"BreathSoldModel", "faultOf", "(I)I"⟩, 47), (⟨"BreathSoldModel", "readsBottles", "()I"⟩, 47), (⟨"BreathSoldModel", "readsBottle", "(II)I"⟩, 47), (⟨"BreathSoldModel", "byteAt", "(II)I"⟩, 47), (⟨"BreathSoldModel", "readsSong", "()I"⟩, 47), (⟨"BreathSoldModel", "isBottle", "(I)Z"⟩, 47), (⟨"BreathSoldModel", "reads", "()V"⟩, 47), (⟨"BreathSoldModel", "bottleOf", "(II)I"⟩, 47), (⟨"BreathSoldModel", "noteOf", "(I)I"⟩, 47), (⟨"BreathSoldModel", "meets", "(I)I"⟩, 47), (⟨"BreathSoldModel", "holdsOf", "(III)I"⟩, 47)]
theorem lw_r2 : ∀ q ∈ lw_privs_2, lw_okq q := List.forall_mem_cons.mpr ⟨lw_p16, List.forall_mem_cons.mpr ⟨lw_p17, List.forall_mem_cons.mpr ⟨lw_p18, List.forall_mem_cons.mpr ⟨lw_p19, List.forall_mem_cons.mpr ⟨lw_p20, List.forall_mem_cons.mpr ⟨lw_p21, List.forall_mem_cons.mpr ⟨lw_p22, List.forall_mem_cons.mpr ⟨lw_p23, List.forall_mem_cons.mpr ⟨lw_p24, List.forall_mem_cons.mpr ⟨lw_p25, List.forall_mem_cons.mpr ⟨lw_p26, List.forall_mem_cons.mpr ⟨lw_p27, List.forall_mem_cons.mpr ⟨lw_p28, List.forall_mem_cons.mpr ⟨lw_p29, List.forall_mem_cons.mpr ⟨lw_p30, List.forall_mem_cons.mpr ⟨lw_p31, fun _ h => absurd h List.not_mem_nil⟩⟩⟩⟩⟩⟩⟩⟩⟩⟩⟩⟩⟩⟩⟩⟩
theorem lw_p32 : lw_okq (⟨"BreathSoldModel", "runsTold", "(I)V"⟩, 47) := ⟨⟨by decide +kernel, by decide +kernel⟩, List.mem_of_getElem? (i := 749) (by decide +kernel), List.mem_of_getElem? (i := 1006) (by decide +kernel), List.mem_of_getElem? (i := 1007) (by decide +kernel)⟩
theorem lw_p33 : lw_okq (⟨"BreathSoldModel", "asTold", "()V"⟩, 47) := ⟨⟨by decide +kernel, by decide +kernel⟩, List.mem_of_getElem? (i := 749) (by decide +kernel), List.mem_of_getElem? (i := 1010) (by decide +kernel), List.mem_of_getElem? (i := 1011) (by decide +kernel)⟩
theorem lw_p34 : lw_okq (⟨"BreathSoldModel", "runs", "(I)V"⟩, 47) := ⟨⟨by decide +kernel, by decide +kernel⟩, List.mem_of_getElem? (i := 749) (by decide +kernel), List.mem_of_getElem? (i := 1014) (by decide +kernel), List.mem_of_getElem? (i := 1015) (by decide +kernel)⟩
theorem lw_p35 : lw_okq (⟨"BreathSoldModel", "begins", "()V"⟩, 47) := ⟨⟨by decide +kernel, by decide +kernel⟩, List.mem_of_getElem? (i := 749) (by decide +kernel), List.mem_of_getElem? (i := 1018) (by decide +kernel), List.mem_of_getElem? (i := 1019) (by decide +kernel)⟩
theorem lw_p36 : lw_okq (⟨"BreathSoldModel", "as", "(I)I"⟩, 47) := ⟨⟨by decide +kernel, by decide +kernel⟩, List.mem_of_getElem? (i := 749) (by decide +kernel), List.mem_of_getElem? (i := 1022) (by decide +kernel), List.mem_of_getElem? (i := 1023) (by decide +kernel)⟩
theorem lw_p37 : lw_okq (⟨"BreathSoldModel", "goesBy", "(I)V"⟩, 47) := ⟨⟨by decide +kernel, by decide +kernel⟩, List.mem_of_getElem? (i := 749) (by decide +kernel), List.mem_of_getElem? (i := 1026) (by decide +kernel), List.mem_of_getElem? (i := 1027) (by decide +kernel)⟩
theorem lw_p38 : lw_okq (⟨"BreathSoldModel", "corksOne", "(I)Z"⟩, 47) := ⟨⟨by decide +kernel, by decide +kernel⟩, List.mem_of_getElem? (i := 749) (by decide +kernel), List.mem_of_getElem? (i := 1030) (by decide +kernel), List.mem_of_getElem? (i := 1031) (by decide +kernel)⟩
theorem lw_p39 : lw_okq (⟨"BreathSoldModel", "does", "(I)Z"⟩, 47) := ⟨⟨by decide +kernel, by decide +kernel⟩, List.mem_of_getElem? (i := 749) (by decide +kernel), List.mem_of_getElem? (i := 1034) (by decide +kernel), List.mem_of_getElem? (i := 1035) (by decide +kernel)⟩
theorem lw_p40 : lw_okq (⟨"BreathSoldModel", "sells", "(II)Z"⟩, 47) := ⟨⟨by decide +kernel, by decide +kernel⟩, List.mem_of_getElem? (i := 749) (by decide +kernel), List.mem_of_getElem? (i := 1038) (by decide +kernel), List.mem_of_getElem? (i := 1039) (by decide +kernel)⟩
theorem lw_p41 : lw_okq (⟨"BreathSoldModel", "joins", "(II)Z"⟩, 47) := ⟨⟨by decide +kernel, by decide +kernel⟩, List.mem_of_getElem? (i := 749) (by decide +kernel), List.mem_of_getElem? (i := 1042) (by decide +kernel), List.mem_of_getElem? (i := 1043) (by decide +kernel)⟩
theorem lw_p42 : lw_okq (⟨"BreathSoldModel", "breaks", "(I)Z"⟩, 47) := ⟨⟨by decide +kernel, by decide +kernel⟩, List.mem_of_getElem? (i := 749) (by decide +kernel), List.mem_of_getElem? (i := 1046) (by decide +kernel), List.mem_of_getElem? (i := 1047) (by decide +kernel)⟩
theorem lw_p43 : lw_okq (⟨"BreathSoldModel", "ends", "(IZ)V"⟩, 47) := ⟨⟨by decide +kernel, by decide +kernel⟩, List.mem_of_getElem? (i := 749) (by decide +kernel), List.mem_of_getElem? (i := 1050) (by decide +kernel), List.mem_of_getElem? (i := 1051) (by decide +kernel)⟩
theorem lw_p44 : lw_okq (⟨"BreathSoldModel", "allIn", "(I)I"⟩, 47) := ⟨⟨by decide +kernel, by decide +kernel⟩, List.mem_of_getElem? (i := 749) (by decide +kernel), List.mem_of_getElem? (i := 1054) (by decide +kernel), List.mem_of_getElem? (i := 1055) (by decide +kernel)⟩
theorem lw_p45 : lw_okq (⟨"BreathSoldModel", "whoOf", "(II)I"⟩, 47) := ⟨⟨by decide +kernel, by decide +kernel⟩, List.mem_of_getElem? (i := 749) (by decide +kernel), List.mem_of_getElem? (i := 1062) (by decide +kernel), List.mem_of_getElem? (i := 1063) (by decide +kernel)⟩
theorem lw_p46 : lw_okq (⟨"BreathSoldModel", "wholeOf", "(II)I"⟩, 47) := ⟨⟨by decide +kernel, by decide +kernel⟩, List.mem_of_getElem? (i := 749) (by decide +kernel), List.mem_of_getElem? (i := 1070) (by decide +kernel), List.mem_of_getElem? (i := 1071) (by decide +kernel)⟩
theorem lw_p47 : lw_okq (⟨"BreathSoldModel", "hasOf", "(II)I"⟩, 47) := ⟨⟨by decide +kernel, by decide +kernel⟩, List.mem_of_getElem? (i := 749) (by decide +kernel), List.mem_of_getElem? (i := 1078) (by decide +kernel), List.mem_of_getElem? (i := 1079) (by decide +kernel)⟩
def lw_privs_3 : List (MethodName × Nat) := [(⟨"BreathSoldModel", "runsTold", "(I)V"⟩, 47), (⟨"BreathSoldModel", "asTold", "()V"⟩, 47), (⟨"BreathSoldModel", "runs", "(I)V"⟩, 47), (⟨"BreathSoldModel", "begins", "()V"⟩, 47), (⟨"BreathSoldModel", "as", "(I)I"⟩, 47), (⟨"BreathSoldModel", "goesBy", "(I)V"⟩, 47), (⟨"BreathSoldModel", "corksOne", "(I)Z"⟩, 47), (⟨"BreathSoldModel", "does", "(I)Z"⟩, 47), (⟨"BreathSoldModel", "sells", "(II)Z"⟩, 47), (⟨"BreathSoldModel", "joins", "(II)Z"⟩, 47), (⟨"BreathSoldModel", "breaks", "(I)Z"⟩, 47), (⟨"BreathSoldModel", "ends", "(IZ)V"⟩, 47), (⟨"BreathSoldModel", "allIn", "(I)I"⟩, 47), (⟨"BreathSoldModel", "whoOf", "(II)I"⟩, 47), (⟨"BreathSoldModel", "wholeOf", "(II)I"⟩, 47), (⟨"BreathSoldModel", "hasOf", "(II)I"⟩, 47)]
theorem lw_r3 : ∀ q ∈ lw_privs_3, lw_okq q := List.forall_mem_cons.mpr ⟨lw_p32, List.forall_mem_cons.mpr ⟨lw_p33, List.forall_mem_cons.mpr ⟨lw_p34, List.forall_mem_cons.mpr ⟨lw_p35, List.forall_mem_cons.mpr ⟨lw_p36, List.forall_mem_cons.mpr ⟨lw_p37, List.forall_mem_cons.mpr ⟨lw_p38, List.forall_mem_cons.mpr ⟨lw_p39, List.forall_mem_cons.mpr ⟨lw_p40, List.forall_mem_cons.mpr ⟨lw_p41, List.forall_mem_cons.mpr ⟨lw_p42, List.forall_mem_cons.mpr ⟨lw_p43, List.forall_mem_cons.mpr ⟨lw_p44, List.forall_mem_cons.mpr ⟨lw_p45, List.forall_mem_cons.mpr ⟨lw_p46, List.forall_mem_cons.mpr ⟨lw_p47, fun _ h => absurd h List.not_mem_nil⟩⟩⟩⟩⟩⟩⟩⟩⟩⟩⟩⟩⟩⟩⟩⟩
theorem lw_p48 : lw_okq (⟨"BreathSoldModel", "heardOf", "(II)I"⟩, 47) := ⟨⟨by decide +kernel, by decide +kernel⟩, List.mem_of_getElem? (i := 749) (by decide +kernel), List.mem_of_getElem? (i := 1086) (by decide +kernel), List.mem_of_getElem? (i := 1087) (by decide +kernel)⟩
theorem lw_p49 : lw_okq (⟨"BreathSoldModel", "spilledOf", "(II)I"⟩, 47) := ⟨⟨by decide +kernel, by decide +kernel⟩, List.mem_of_getElem? (i := 749) (by decide +kernel), List.mem_of_getElem? (i := 1094) (by decide +kernel), List.mem_of_getElem? (i := 1095) (by decide +kernel)⟩
theorem lw_p50 : lw_okq (⟨"BreathSoldModel", "leakedOf", "(I)I"⟩, 47) := ⟨⟨by decide +kernel, by decide +kernel⟩, List.mem_of_getElem? (i := 749) (by decide +kernel), List.mem_of_getElem? (i := 1102) (by decide +kernel), List.mem_of_getElem? (i := 1103) (by decide +kernel)⟩
theorem lw_p51 : lw_okq (⟨"BreathSoldModel", "lostOf", "(I)I"⟩, 47) := ⟨⟨by decide +kernel, by decide +kernel⟩, List.mem_of_getElem? (i := 749) (by decide +kernel), List.mem_of_getElem? (i := 1110) (by decide +kernel), List.mem_of_getElem? (i := 1111) (by decide +kernel)⟩
theorem lw_p52 : lw_okq (⟨"BreathSoldModel", "worksOf", "(I)I"⟩, 47) := ⟨⟨by decide +kernel, by decide +kernel⟩, List.mem_of_getElem? (i := 749) (by decide +kernel), List.mem_of_getElem? (i := 1118) (by decide +kernel), List.mem_of_getElem? (i := 1119) (by decide +kernel)⟩
theorem lw_p53 : lw_okq (⟨"BreathSoldModel", "singOf", "(II)I"⟩, 47) := ⟨⟨by decide +kernel, by decide +kernel⟩, List.mem_of_getElem? (i := 749) (by decide +kernel), List.mem_of_getElem? (i := 1126) (by decide +kernel), List.mem_of_getElem? (i := 1127) (by decide +kernel)⟩
theorem lw_p54 : lw_okq (⟨"BreathSoldModel", "laysSpills", "()I"⟩, 47) := ⟨⟨by decide +kernel, by decide +kernel⟩, List.mem_of_getElem? (i := 749) (by decide +kernel), List.mem_of_getElem? (i := 1130) (by decide +kernel), List.mem_of_getElem? (i := 1131) (by decide +kernel)⟩
theorem lw_p55 : lw_okq (⟨"BreathSoldModel", "spill", "(II)I"⟩, 47) := ⟨⟨by decide +kernel, by decide +kernel⟩, List.mem_of_getElem? (i := 749) (by decide +kernel), List.mem_of_getElem? (i := 1138) (by decide +kernel), List.mem_of_getElem? (i := 1139) (by decide +kernel)⟩
theorem lw_p56 : lw_okq (⟨"BreathSoldModel", "corksBy", "(I)I"⟩, 47) := ⟨⟨by decide +kernel, by decide +kernel⟩, List.mem_of_getElem? (i := 749) (by decide +kernel), List.mem_of_getElem? (i := 1146) (by decide +kernel), List.mem_of_getElem? (i := 1147) (by decide +kernel)⟩
theorem lw_p57 : lw_okq (⟨"BreathSoldModel", "sings", "(IIIII)Z"⟩, 47) := ⟨⟨by decide +kernel, by decide +kernel⟩, List.mem_of_getElem? (i := 749) (by decide +kernel), List.mem_of_getElem? (i := 1150) (by decide +kernel), List.mem_of_getElem? (i := 1151) (by decide +kernel)⟩
theorem lw_p58 : lw_okq (⟨"BreathSoldModel", "ofCorks", "(II)I"⟩, 47) := ⟨⟨by decide +kernel, by decide +kernel⟩, List.mem_of_getElem? (i := 749) (by decide +kernel), List.mem_of_getElem? (i := 1154) (by decide +kernel), List.mem_of_getElem? (i := 1155) (by decide +kernel)⟩
theorem lw_p59 : lw_okq (⟨"BreathSoldModel", "mostOf", "(II)I"⟩, 47) := ⟨⟨by decide +kernel, by decide +kernel⟩, List.mem_of_getElem? (i := 749) (by decide +kernel), List.mem_of_getElem? (i := 1162) (by decide +kernel), List.mem_of_getElem? (i := 1163) (by decide +kernel)⟩
theorem lw_p60 : lw_okq (⟨"BreathSoldModel", "hidNow", "()I"⟩, 47) := ⟨⟨by decide +kernel, by decide +kernel⟩, List.mem_of_getElem? (i := 749) (by decide +kernel), List.mem_of_getElem? (i := 1178) (by decide +kernel), List.mem_of_getElem? (i := 1179) (by decide +kernel)⟩
theorem lw_p61 : lw_okq (⟨"BreathSoldModel", "isWeighed", "()Z"⟩, 47) := ⟨⟨by decide +kernel, by decide +kernel⟩, List.mem_of_getElem? (i := 749) (by decide +kernel), List.mem_of_getElem? (i := 1182) (by decide +kernel), List.mem_of_getElem? (i := 1183) (by decide +kernel)⟩
theorem lw_p62 : lw_okq (⟨"BreathSoldModel", "swappedOf", "(I)I"⟩, 47) := ⟨⟨by decide +kernel, by decide +kernel⟩, List.mem_of_getElem? (i := 749) (by decide +kernel), List.mem_of_getElem? (i := 1190) (by decide +kernel), List.mem_of_getElem? (i := 1191) (by decide +kernel)⟩
theorem lw_p63 : lw_okq (⟨"BreathSoldModel", "weighOf", "(I)I"⟩, 47) := ⟨⟨by decide +kernel, by decide +kernel⟩, List.mem_of_getElem? (i := 749) (by decide +kernel), List.mem_of_getElem? (i := 1198) (by decide +kernel), List.mem_of_getElem? (i := 1199) (by decide +kernel)⟩
def lw_privs_4 : List (MethodName × Nat) := [(⟨"BreathSoldModel", "heardOf", "(II)I"⟩, 47), (⟨"BreathSoldModel", "spilledOf", "(II)I"⟩, 47), (⟨"BreathSoldModel", "leakedOf", "(I)I"⟩, 47), (⟨"BreathSoldModel", "lostOf", "(I)I"⟩, 47), (⟨"BreathSoldModel", "worksOf", "(I)I"⟩, 47), (⟨"BreathSoldModel", "singOf", "(II)I"⟩, 47), (⟨"BreathSoldModel", "laysSpills", "()I"⟩, 47), (⟨"BreathSoldModel", "spill", "(II)I"⟩, 47), (⟨"BreathSoldModel", "corksBy", "(I)I"⟩, 47), (⟨"BreathSoldModel", "sings", "(IIIII)Z"⟩, 47), (⟨"BreathSoldModel", "ofCorks", "(II)I"⟩, 47), (⟨"BreathSoldModel", "mostOf", "(II)I"⟩, 47), (⟨"BreathSoldModel", "hidNow", "()I"⟩, 47), (⟨"BreathSoldModel", "isWeighed", "()Z"⟩, 47), (⟨"BreathSoldModel", "swappedOf", "(I)I"⟩, 47), (⟨"BreathSoldModel", "weighOf", "(I)I"⟩, 47)]
theorem lw_r4 : ∀ q ∈ lw_privs_4, lw_okq q := List.forall_mem_cons.mpr ⟨lw_p48, List.forall_mem_cons.mpr ⟨lw_p49, List.forall_mem_cons.mpr ⟨lw_p50, List.forall_mem_cons.mpr ⟨lw_p51, List.forall_mem_cons.mpr ⟨lw_p52, List.forall_mem_cons.mpr ⟨lw_p53, List.forall_mem_cons.mpr ⟨lw_p54, List.forall_mem_cons.mpr ⟨lw_p55, List.forall_mem_cons.mpr ⟨lw_p56, List.forall_mem_cons.mpr ⟨lw_p57, List.forall_mem_cons.mpr ⟨lw_p58, List.forall_mem_cons.mpr ⟨lw_p59, List.forall_mem_cons.mpr ⟨lw_p60, List.forall_mem_cons.mpr ⟨lw_p61, List.forall_mem_cons.mpr ⟨lw_p62, List.forall_mem_cons.mpr ⟨lw_p63, fun _ h => absurd h List.not_mem_nil⟩⟩⟩⟩⟩⟩⟩⟩⟩⟩⟩⟩⟩⟩⟩⟩
theorem lw_p64 : lw_okq (⟨"BreathSoldModel", "heatOf", "(IIII)J"⟩, 47) := ⟨⟨by decide +kernel, by decide +kernel⟩, List.mem_of_getElem? (i := 749) (by decide +kernel), List.mem_of_getElem? (i := 1206) (by decide +kernel), List.mem_of_getElem? (i := 1207) (by decide +kernel)⟩
theorem lw_p65 : lw_okq (⟨"BreathSoldModel", "marketOf", "(III)I"⟩, 47) := ⟨⟨by decide +kernel, by decide +kernel⟩, List.mem_of_getElem? (i := 749) (by decide +kernel), List.mem_of_getElem? (i := 1221) (by decide +kernel), List.mem_of_getElem? (i := 1222) (by decide +kernel)⟩
theorem lw_p66 : lw_okq (⟨"BreathSoldModel", "lacks", "(III)I"⟩, 47) := ⟨⟨by decide +kernel, by decide +kernel⟩, List.mem_of_getElem? (i := 749) (by decide +kernel), List.mem_of_getElem? (i := 1238) (by decide +kernel), List.mem_of_getElem? (i := 1239) (by decide +kernel)⟩
theorem lw_p67 : lw_okq (⟨"BreathSoldModel", "keep", "(III)V"⟩, 47) := ⟨⟨by decide +kernel, by decide +kernel⟩, List.mem_of_getElem? (i := 749) (by decide +kernel), List.mem_of_getElem? (i := 1242) (by decide +kernel), List.mem_of_getElem? (i := 1243) (by decide +kernel)⟩
theorem lw_p68 : lw_okq (⟨"BreathSoldModel", "sumOf", "(I)I"⟩, 47) := ⟨⟨by decide +kernel, by decide +kernel⟩, List.mem_of_getElem? (i := 749) (by decide +kernel), List.mem_of_getElem? (i := 1263) (by decide +kernel), List.mem_of_getElem? (i := 1264) (by decide +kernel)⟩
theorem lw_p69 : lw_okq (⟨"BreathSoldModel", "bottleDigest", "(JI)J"⟩, 47) := ⟨⟨by decide +kernel, by decide +kernel⟩, List.mem_of_getElem? (i := 749) (by decide +kernel), List.mem_of_getElem? (i := 1274) (by decide +kernel), List.mem_of_getElem? (i := 1275) (by decide +kernel)⟩
theorem lw_p70 : lw_okq (⟨"BreathSoldModel", "dayDigest", "(JI)J"⟩, 47) := ⟨⟨by decide +kernel, by decide +kernel⟩, List.mem_of_getElem? (i := 749) (by decide +kernel), List.mem_of_getElem? (i := 1278) (by decide +kernel), List.mem_of_getElem? (i := 1279) (by decide +kernel)⟩
def lw_privs_5 : List (MethodName × Nat) := [(⟨"BreathSoldModel", "heatOf", "(IIII)J"⟩, 47), (⟨"BreathSoldModel", "marketOf", "(III)I"⟩, 47), (⟨"BreathSoldModel", "lacks", "(III)I"⟩, 47), (⟨"BreathSoldModel", "keep", "(III)V"⟩, 47), (⟨"BreathSoldModel", "sumOf", "(I)I"⟩, 47), (⟨"BreathSoldModel", "bottleDigest", "(JI)J"⟩, 47), (⟨"BreathSoldModel", "dayDigest", "(JI)J"⟩, 47)]
theorem lw_r5 : ∀ q ∈ lw_privs_5, lw_okq q := List.forall_mem_cons.mpr ⟨lw_p64, List.forall_mem_cons.mpr ⟨lw_p65, List.forall_mem_cons.mpr ⟨lw_p66, List.forall_mem_cons.mpr ⟨lw_p67, List.forall_mem_cons.mpr ⟨lw_p68, List.forall_mem_cons.mpr ⟨lw_p69, List.forall_mem_cons.mpr ⟨lw_p70, fun _ h => absurd h List.not_mem_nil⟩⟩⟩⟩⟩⟩⟩
def lw_privs : List (MethodName × Nat) := lw_privs_1 ++ (lw_privs_2 ++ (lw_privs_3 ++ (lw_privs_4 ++ (lw_privs_5))))
def lw_tbl : List Cond := k2_sels lw_privs ++ tables_1
theorem lw_privs_ok : ∀ q ∈ lw_privs, lw_okq q := by
  show ∀ q ∈ lw_privs_1 ++ (lw_privs_2 ++ (lw_privs_3 ++ (lw_privs_4 ++ (lw_privs_5)))), lw_okq q
  exact List.forall_mem_append.mpr ⟨lw_r1, List.forall_mem_append.mpr ⟨lw_r2, List.forall_mem_append.mpr ⟨lw_r3, List.forall_mem_append.mpr ⟨lw_r4, lw_r5⟩⟩⟩⟩
end
section
/-! ===== BEGIN words of one list among another's, by their places ===== -/
theorem goodIn_r {big : List Cond} (ws : List Cond) (ps : List Nat) (hp : ws = ps.filterMap (fun i => big[i]?)) (h : ws.all goodWord = true) : GoodIn big ws := by
  intro w hw
  have h1 := List.all_eq_true.mp h w hw
  rw [hp] at hw
  obtain ⟨i, -, hi⟩ := List.mem_filterMap.mp hw
  have hm : w ∈ big := by first | exact List.mem_of_getElem? hi | exact List.getElem?_mem hi
  exact ⟨hm, good_of_word h1⟩
theorem goodIn_app {big a b : List Cond} (ha : GoodIn big a) (hb : GoodIn big b) : GoodIn big (a ++ b) := fun w h => (List.mem_append.mp h).elim (ha w) (hb w)
theorem goodIn_ca {big a b : List Cond} {c : Cond} (ha : GoodIn big (c :: a)) (hb : GoodIn big b) : GoodIn big (c :: (a ++ b)) := fun w h => (List.mem_cons.mp h).elim (fun e => ha w (List.mem_cons.mpr (Or.inl e))) (fun h => (List.mem_append.mp h).elim (fun h => ha w (List.mem_cons.mpr (Or.inr h))) (hb w))
theorem goodIn_sub {big ws : List Cond} (hm : ∀ w ∈ ws, w ∈ big) (h : ws.all goodWord = true) : GoodIn big ws := fun w hw => ⟨hm w hw, good_of_word (List.all_eq_true.mp h w hw)⟩
/-! ===== END ===== -/
def RX0 : String := "BreathSold$Acts"
def TX0 : u_T := fun k => match k with
  | 0 => ("BreathSold$Acts", "day", "[I", true)
  | 1 => ("BreathSold$Acts", "kind", "[I", true)
  | 2 => ("BreathSold$Acts", "bottle", "[I", true)
  | 3 => ("BreathSold$Acts", "to", "[I", true)
  | _ => ("BreathSold$Acts", "size", "I", false)
def tyX0 : Nat → FieldType := fun k => match k with
  | 0 => .array .int
  | 1 => .array .int
  | 2 => .array .int
  | 3 => .array .int
  | _ => .int
abbrev wsX00 : List Cond := u_ws RX0 TX0 5
theorem nmX0 : ∀ a, a < 5 → ∀ b, b < 5 → a ≠ b → (TX0 a).2.1 ≠ (TX0 b).2.1 := by decide +kernel
theorem tyX0_ok : ∀ k, k < 5 → parseFieldDescriptor (TX0 k).2.2.1 = some (tyX0 k) := by decide +kernel
abbrev cX0_init : ByteArray := prog_2_method_1_code
def yX0_init : MethodName := ⟨RX0, "<init>", "()V"⟩
def RX1 : String := "BreathSold$Sheets"
def TX1 : u_T := fun k => match k with
  | 0 => ("BreathSold$Sheets", "items", "[[I", true)
  | 1 => ("BreathSold$Sheets", "form", "[I", true)
  | _ => ("BreathSold$Sheets", "size", "[I", true)
def tyX1 : Nat → FieldType := fun k => match k with
  | 0 => .array (.array .int)
  | 1 => .array .int
  | _ => .array .int
abbrev wsX10 : List Cond := u_ws RX1 TX1 3
theorem nmX1 : ∀ a, a < 3 → ∀ b, b < 3 → a ≠ b → (TX1 a).2.1 ≠ (TX1 b).2.1 := by decide +kernel
theorem tyX1_ok : ∀ k, k < 3 → parseFieldDescriptor (TX1 k).2.2.1 = some (tyX1 k) := by decide +kernel
abbrev cX1_init : ByteArray := prog_3_method_1_code
def yX1_init : MethodName := ⟨RX1, "<init>", "()V"⟩
abbrev cX1_findingAt : ByteArray := prog_3_method_2_code
def yX1_findingAt : MethodName := ⟨RX1, "findingAt", "(III)I"⟩
abbrev cX1_hasItems : ByteArray := prog_3_method_3_code
def yX1_hasItems : MethodName := ⟨RX1, "hasItems", "(III)Z"⟩
abbrev cX1_setItem : ByteArray := prog_3_method_4_code
def yX1_setItem : MethodName := ⟨RX1, "setItem", "(III)V"⟩
def RX2 : String := "BreathSold$Singer"
def TX2 : u_T := fun k => match k with
  | 0 => ("BreathSold$Singer", "letters", "[I", true)
  | 1 => ("BreathSold$Singer", "row", "[I", true)
  | 2 => ("BreathSold$Singer", "others", "[I", true)
  | 3 => ("BreathSold$Singer", "leastBehind", "[I", true)
  | 4 => ("BreathSold$Singer", "size", "I", false)
  | _ => ("BreathSold$Singer", "spill", "I", false)
def tyX2 : Nat → FieldType := fun k => match k with
  | 0 => .array .int
  | 1 => .array .int
  | 2 => .array .int
  | 3 => .array .int
  | 4 => .int
  | _ => .int
abbrev wsX20 : List Cond := u_ws RX2 TX2 6
theorem nmX2 : ∀ a, a < 6 → ∀ b, b < 6 → a ≠ b → (TX2 a).2.1 ≠ (TX2 b).2.1 := by decide +kernel
theorem tyX2_ok : ∀ k, k < 6 → parseFieldDescriptor (TX2 k).2.2.1 = some (tyX2 k) := by decide +kernel
abbrev cX2_init : ByteArray := prog_4_method_1_code
def yX2_init : MethodName := ⟨RX2, "<init>", "()V"⟩
abbrev cX2_takeFrom : ByteArray := prog_4_method_2_code
def yX2_takeFrom : MethodName := ⟨RX2, "takeFrom", "(LBreathSold$Text;)V"⟩
abbrev cX2_seekLeast : ByteArray := prog_4_method_3_code
def yX2_seekLeast : MethodName := ⟨RX2, "seekLeast", "(LBreathSold$State;)V"⟩
abbrev cX2_seekRow : ByteArray := prog_4_method_4_code
def yX2_seekRow : MethodName := ⟨RX2, "seekRow", "(LBreathSold$State;)V"⟩
abbrev cX2_voices : ByteArray := prog_4_method_5_code
def yX2_voices : MethodName := ⟨RX2, "voices", "()I"⟩
abbrev cX2_leastFrom : ByteArray := prog_4_method_6_code
def yX2_leastFrom : MethodName := ⟨RX2, "leastFrom", "(LBreathSold$Singer;II)I"⟩
abbrev cX2_leastNext : ByteArray := prog_4_method_7_code
def yX2_leastNext : MethodName := ⟨RX2, "leastNext", "(II)I"⟩
abbrev cX2_isFree : ByteArray := prog_4_method_8_code
def yX2_isFree : MethodName := ⟨RX2, "isFree", "(III)Z"⟩
def RX3 : String := "BreathSold$State"
def TX3 : u_T := fun k => match k with
  | 0 => ("BreathSold$State", "voice", "[I", true)
  | 1 => ("BreathSold$State", "amount", "[I", true)
  | 2 => ("BreathSold$State", "place", "[I", true)
  | 3 => ("BreathSold$State", "cork", "[I", true)
  | 4 => ("BreathSold$State", "owner", "[I", true)
  | 5 => ("BreathSold$State", "heardOf", "[I", true)
  | 6 => ("BreathSold$State", "spilledOf", "[I", true)
  | 7 => ("BreathSold$State", "size", "I", false)
  | 8 => ("BreathSold$State", "south", "I", false)
  | 9 => ("BreathSold$State", "wholeBottles", "I", false)
  | 10 => ("BreathSold$State", "leakedInAll", "I", false)
  | 11 => ("BreathSold$State", "worked", "I", false)
  | _ => ("BreathSold$State", "day", "I", false)
def tyX3 : Nat → FieldType := fun k => match k with
  | 0 => .array .int
  | 1 => .array .int
  | 2 => .array .int
  | 3 => .array .int
  | 4 => .array .int
  | 5 => .array .int
  | 6 => .array .int
  | 7 => .int
  | 8 => .int
  | 9 => .int
  | 10 => .int
  | 11 => .int
  | _ => .int
abbrev wsX30 : List Cond := u_ws RX3 TX3 13
theorem nmX3 : ∀ a, a < 13 → ∀ b, b < 13 → a ≠ b → (TX3 a).2.1 ≠ (TX3 b).2.1 := by decide +kernel
theorem tyX3_ok : ∀ k, k < 13 → parseFieldDescriptor (TX3 k).2.2.1 = some (tyX3 k) := by decide +kernel
abbrev cX3_init : ByteArray := prog_5_method_1_code
def yX3_init : MethodName := ⟨RX3, "<init>", "()V"⟩
abbrev cX3_begin : ByteArray := prog_5_method_2_code
def yX3_begin : MethodName := ⟨RX3, "begin", "(LBreathSold$Stock;II)V"⟩
abbrev cX3_become : ByteArray := prog_5_method_3_code
def yX3_become : MethodName := ⟨RX3, "become", "(LBreathSold$State;)V"⟩
abbrev cX3_passDay : ByteArray := prog_5_method_4_code
def yX3_passDay : MethodName := ⟨RX3, "passDay", "(LBreathSold$Told;I)V"⟩
abbrev cX3_passUntilHeat : ByteArray := prog_5_method_5_code
def yX3_passUntilHeat : MethodName := ⟨RX3, "passUntilHeat", "(LBreathSold$Acts;I)V"⟩
abbrev cX3_doAct : ByteArray := prog_5_method_6_code
def yX3_doAct : MethodName := ⟨RX3, "doAct", "(III)Z"⟩
abbrev cX3_pourInto : ByteArray := prog_5_method_7_code
def yX3_pourInto : MethodName := ⟨RX3, "pourInto", "(II)V"⟩
abbrev cX3_letGo : ByteArray := prog_5_method_8_code
def yX3_letGo : MethodName := ⟨RX3, "letGo", "(I[I)V"⟩
abbrev cX3_leak : ByteArray := prog_5_method_9_code
def yX3_leak : MethodName := ⟨RX3, "leak", "()V"⟩
abbrev cX3_ripeBottles : ByteArray := prog_5_method_10_code
def yX3_ripeBottles : MethodName := ⟨RX3, "ripeBottles", "(I)I"⟩
abbrev cX3_burstAll : ByteArray := prog_5_method_11_code
def yX3_burstAll : MethodName := ⟨RX3, "burstAll", "(I)V"⟩
abbrev cX3_isWhole : ByteArray := prog_5_method_12_code
def yX3_isWhole : MethodName := ⟨RX3, "isWhole", "(I)Z"⟩
abbrev cX3_muchOf : ByteArray := prog_5_method_13_code
def yX3_muchOf : MethodName := ⟨RX3, "muchOf", "(II)I"⟩
abbrev cX3_allIn : ByteArray := prog_5_method_14_code
def yX3_allIn : MethodName := ⟨RX3, "allIn", "(I)I"⟩
abbrev cX3_voicesWith : ByteArray := prog_5_method_15_code
def yX3_voicesWith : MethodName := ⟨RX3, "voicesWith", "(I)I"⟩
def RX4 : String := "BreathSold$Stock"
def TX4 : u_T := fun k => match k with
  | 0 => ("BreathSold$Stock", "voice", "[I", true)
  | 1 => ("BreathSold$Stock", "much", "[I", true)
  | 2 => ("BreathSold$Stock", "cork", "[I", true)
  | 3 => ("BreathSold$Stock", "south", "I", false)
  | _ => ("BreathSold$Stock", "size", "I", false)
def tyX4 : Nat → FieldType := fun k => match k with
  | 0 => .array .int
  | 1 => .array .int
  | 2 => .array .int
  | 3 => .int
  | _ => .int
abbrev wsX40 : List Cond := u_ws RX4 TX4 5
theorem nmX4 : ∀ a, a < 5 → ∀ b, b < 5 → a ≠ b → (TX4 a).2.1 ≠ (TX4 b).2.1 := by decide +kernel
theorem tyX4_ok : ∀ k, k < 5 → parseFieldDescriptor (TX4 k).2.2.1 = some (tyX4 k) := by decide +kernel
abbrev cX4_init : ByteArray := prog_6_method_1_code
def yX4_init : MethodName := ⟨RX4, "<init>", "()V"⟩
abbrev cX4_takeFrom : ByteArray := prog_6_method_2_code
def yX4_takeFrom : MethodName := ⟨RX4, "takeFrom", "(LBreathSold$Text;)V"⟩
abbrev cX4_voices : ByteArray := prog_6_method_3_code
def yX4_voices : MethodName := ⟨RX4, "voices", "()I"⟩
def RX5 : String := "BreathSold$Text"
def TX5 : u_T := fun k => match k with
  | 0 => ("BreathSold$Text", "bytes", "[I", true)
  | 1 => ("BreathSold$Text", "most", "I", true)
  | _ => ("BreathSold$Text", "size", "I", false)
def tyX5 : Nat → FieldType := fun k => match k with
  | 0 => .array .int
  | 1 => .int
  | _ => .int
abbrev wsX50 : List Cond := u_ws RX5 TX5 3
theorem nmX5 : ∀ a, a < 3 → ∀ b, b < 3 → a ≠ b → (TX5 a).2.1 ≠ (TX5 b).2.1 := by decide +kernel
theorem tyX5_ok : ∀ k, k < 3 → parseFieldDescriptor (TX5 k).2.2.1 = some (tyX5 k) := by decide +kernel
abbrev cX5_init : ByteArray := prog_7_method_1_code
def yX5_init : MethodName := ⟨RX5, "<init>", "(I)V"⟩
abbrev cX5_faultAsBottles : ByteArray := prog_7_method_2_code
def yX5_faultAsBottles : MethodName := ⟨RX5, "faultAsBottles", "()I"⟩
abbrev cX5_mayStandAt : ByteArray := prog_7_method_3_code
def yX5_mayStandAt : MethodName := ⟨RX5, "mayStandAt", "(I)Z"⟩
abbrev cX5_faultAsSong : ByteArray := prog_7_method_4_code
def yX5_faultAsSong : MethodName := ⟨RX5, "faultAsSong", "()I"⟩
abbrev cX5_isLetter : ByteArray := prog_7_method_5_code
def yX5_isLetter : MethodName := ⟨RX5, "isLetter", "(I)Z"⟩
abbrev cX5_isFigure : ByteArray := prog_7_method_6_code
def yX5_isFigure : MethodName := ⟨RX5, "isFigure", "(I)Z"⟩
def RX6 : String := "BreathSold$Told"
def TX6 : u_T := fun k => match k with
  | 0 => ("BreathSold$Told", "stock", "LBreathSold$Stock;", true)
  | 1 => ("BreathSold$Told", "acts", "LBreathSold$Acts;", true)
  | 2 => ("BreathSold$Told", "hotDay", "[I", true)
  | 3 => ("BreathSold$Told", "hotDays", "I", false)
  | _ => ("BreathSold$Told", "burst", "I", false)
def tyX6 : Nat → FieldType := fun k => match k with
  | 0 => .object "BreathSold$Stock"
  | 1 => .object "BreathSold$Acts"
  | 2 => .array .int
  | 3 => .int
  | _ => .int
abbrev wsX60 : List Cond := u_ws RX6 TX6 5
theorem nmX6 : ∀ a, a < 5 → ∀ b, b < 5 → a ≠ b → (TX6 a).2.1 ≠ (TX6 b).2.1 := by decide +kernel
theorem tyX6_ok : ∀ k, k < 5 → parseFieldDescriptor (TX6 k).2.2.1 = some (tyX6 k) := by decide +kernel
abbrev cX6_init : ByteArray := prog_8_method_1_code
def yX6_init : MethodName := ⟨RX6, "<init>", "()V"⟩
abbrev cX6_isHot : ByteArray := prog_8_method_2_code
def yX6_isHot : MethodName := ⟨RX6, "isHot", "(I)Z"⟩
def RX7 : String := "BreathSold$Weighings"
def TX7 : u_T := fun k => match k with
  | 0 => ("BreathSold$Weighings", "day", "[I", true)
  | 1 => ("BreathSold$Weighings", "bottle", "[I", true)
  | 2 => ("BreathSold$Weighings", "much", "[I", true)
  | _ => ("BreathSold$Weighings", "size", "I", false)
def tyX7 : Nat → FieldType := fun k => match k with
  | 0 => .array .int
  | 1 => .array .int
  | 2 => .array .int
  | _ => .int
abbrev wsX70 : List Cond := u_ws RX7 TX7 4
theorem nmX7 : ∀ a, a < 4 → ∀ b, b < 4 → a ≠ b → (TX7 a).2.1 ≠ (TX7 b).2.1 := by decide +kernel
theorem tyX7_ok : ∀ k, k < 4 → parseFieldDescriptor (TX7 k).2.2.1 = some (tyX7 k) := by decide +kernel
abbrev cX7_init : ByteArray := prog_9_method_1_code
def yX7_init : MethodName := ⟨RX7, "<init>", "()V"⟩
abbrev cX7_lastDay : ByteArray := prog_9_method_2_code
def yX7_lastDay : MethodName := ⟨RX7, "lastDay", "()I"⟩
abbrev cX7_agreeWith : ByteArray := prog_9_method_3_code
def yX7_agreeWith : MethodName := ⟨RX7, "agreeWith", "(LBreathSold$State;)Z"⟩
def RX8 : String := "BreathSold"
def TX8 : u_T := fun k => match k with
  | 0 => ("BreathSold", "bottleText", "LBreathSold$Text;", true)
  | 1 => ("BreathSold", "songText", "LBreathSold$Text;", true)
  | 2 => ("BreathSold", "told", "LBreathSold$Told;", true)
  | 3 => ("BreathSold", "singer", "LBreathSold$Singer;", true)
  | 4 => ("BreathSold", "weighings", "LBreathSold$Weighings;", true)
  | 5 => ("BreathSold", "sheets", "LBreathSold$Sheets;", true)
  | 6 => ("BreathSold", "now", "LBreathSold$State;", true)
  | 7 => ("BreathSold", "trial", "LBreathSold$State;", true)
  | 8 => ("BreathSold", "heatStates", "[LBreathSold$State;", true)
  | 9 => ("BreathSold", "heldWithout", "[I", true)
  | 10 => ("BreathSold", "nowIsStale", "Z", false)
  | 11 => ("BreathSold", "corksDay", "I", false)
  | 12 => ("BreathSold", "corksFound", "I", false)
  | _ => ("BreathSold", "latestFinding", "I", false)
def tyX8 : Nat → FieldType := fun k => match k with
  | 0 => .object "BreathSold$Text"
  | 1 => .object "BreathSold$Text"
  | 2 => .object "BreathSold$Told"
  | 3 => .object "BreathSold$Singer"
  | 4 => .object "BreathSold$Weighings"
  | 5 => .object "BreathSold$Sheets"
  | 6 => .object "BreathSold$State"
  | 7 => .object "BreathSold$State"
  | 8 => .array (.object "BreathSold$State")
  | 9 => .array .int
  | 10 => .boolean
  | 11 => .int
  | 12 => .int
  | _ => .int
abbrev wsX80 : List Cond := u_ws RX8 TX8 14
theorem nmX8 : ∀ a, a < 14 → ∀ b, b < 14 → a ≠ b → (TX8 a).2.1 ≠ (TX8 b).2.1 := by decide +kernel
theorem tyX8_ok : ∀ k, k < 14 → parseFieldDescriptor (TX8 k).2.2.1 = some (tyX8 k) := by decide +kernel
abbrev cX8_init : ByteArray := prog_1_method_1_code
def yX8_init : MethodName := ⟨RX8, "<init>", "()V"⟩
abbrev cX8_type : ByteArray := prog_1_method_2_code
def yX8_type : MethodName := ⟨RX8, "type", "(II)I"⟩
abbrev cX8_wipe : ByteArray := prog_1_method_3_code
def yX8_wipe : MethodName := ⟨RX8, "wipe", "(I)I"⟩
abbrev cX8_undo : ByteArray := prog_1_method_4_code
def yX8_undo : MethodName := ⟨RX8, "undo", "(I)I"⟩
abbrev cX8_fault : ByteArray := prog_1_method_5_code
def yX8_fault : MethodName := ⟨RX8, "fault", "(I)I"⟩
abbrev cX8_bottle : ByteArray := prog_1_method_6_code
def yX8_bottle : MethodName := ⟨RX8, "bottle", "(II)I"⟩
abbrev cX8_note : ByteArray := prog_1_method_7_code
def yX8_note : MethodName := ⟨RX8, "note", "(I)I"⟩
abbrev cX8_burst : ByteArray := prog_1_method_8_code
def yX8_burst : MethodName := ⟨RX8, "burst", "(I)I"⟩
abbrev cX8_hot : ByteArray := prog_1_method_9_code
def yX8_hot : MethodName := ⟨RX8, "hot", "(I)I"⟩
abbrev cX8_act : ByteArray := prog_1_method_10_code
def yX8_act : MethodName := ⟨RX8, "act", "(IIII)I"⟩
abbrev cX8_back : ByteArray := prog_1_method_11_code
def yX8_back : MethodName := ⟨RX8, "back", "(I)I"⟩
abbrev cX8_read : ByteArray := prog_1_method_12_code
def yX8_read : MethodName := ⟨RX8, "read", "(I)I"⟩
abbrev cX8_holds : ByteArray := prog_1_method_13_code
def yX8_holds : MethodName := ⟨RX8, "holds", "(III)I"⟩
abbrev cX8_who : ByteArray := prog_1_method_14_code
def yX8_who : MethodName := ⟨RX8, "who", "(II)I"⟩
abbrev cX8_whole : ByteArray := prog_1_method_15_code
def yX8_whole : MethodName := ⟨RX8, "whole", "(II)I"⟩
abbrev cX8_has : ByteArray := prog_1_method_16_code
def yX8_has : MethodName := ⟨RX8, "has", "(II)I"⟩
abbrev cX8_heard : ByteArray := prog_1_method_17_code
def yX8_heard : MethodName := ⟨RX8, "heard", "(II)I"⟩
abbrev cX8_spilled : ByteArray := prog_1_method_18_code
def yX8_spilled : MethodName := ⟨RX8, "spilled", "(II)I"⟩
abbrev cX8_leaked : ByteArray := prog_1_method_19_code
def yX8_leaked : MethodName := ⟨RX8, "leaked", "(I)I"⟩
abbrev cX8_lost : ByteArray := prog_1_method_20_code
def yX8_lost : MethodName := ⟨RX8, "lost", "(I)I"⟩
abbrev cX8_works : ByteArray := prog_1_method_21_code
def yX8_works : MethodName := ⟨RX8, "works", "(I)I"⟩
abbrev cX8_sing : ByteArray := prog_1_method_22_code
def yX8_sing : MethodName := ⟨RX8, "sing", "(II)I"⟩
abbrev cX8_corks : ByteArray := prog_1_method_23_code
def yX8_corks : MethodName := ⟨RX8, "corks", "(II)I"⟩
abbrev cX8_most : ByteArray := prog_1_method_24_code
def yX8_most : MethodName := ⟨RX8, "most", "(II)I"⟩
abbrev cX8_weighed : ByteArray := prog_1_method_25_code
def yX8_weighed : MethodName := ⟨RX8, "weighed", "(III)I"⟩
abbrev cX8_forget : ByteArray := prog_1_method_26_code
def yX8_forget : MethodName := ⟨RX8, "forget", "()I"⟩
abbrev cX8_hid : ByteArray := prog_1_method_27_code
def yX8_hid : MethodName := ⟨RX8, "hid", "()I"⟩
abbrev cX8_swapped : ByteArray := prog_1_method_28_code
def yX8_swapped : MethodName := ⟨RX8, "swapped", "(I)I"⟩
abbrev cX8_weigh : ByteArray := prog_1_method_29_code
def yX8_weigh : MethodName := ⟨RX8, "weigh", "(I)I"⟩
abbrev cX8_heat : ByteArray := prog_1_method_30_code
def yX8_heat : MethodName := ⟨RX8, "heat", "(IIII)J"⟩
abbrev cX8_market : ByteArray := prog_1_method_31_code
def yX8_market : MethodName := ⟨RX8, "market", "(III)I"⟩
abbrev cX8_sheet : ByteArray := prog_1_method_32_code
def yX8_sheet : MethodName := ⟨RX8, "sheet", "(III)I"⟩
abbrev cX8_lose : ByteArray := prog_1_method_33_code
def yX8_lose : MethodName := ⟨RX8, "lose", "(I)I"⟩
abbrev cX8_put : ByteArray := prog_1_method_34_code
def yX8_put : MethodName := ⟨RX8, "put", "(IIII)I"⟩
abbrev cX8_get : ByteArray := prog_1_method_35_code
def yX8_get : MethodName := ⟨RX8, "get", "(III)I"⟩
abbrev cX8_copy : ByteArray := prog_1_method_36_code
def yX8_copy : MethodName := ⟨RX8, "copy", "(IIIII)I"⟩
abbrev cX8_write : ByteArray := prog_1_method_37_code
def yX8_write : MethodName := ⟨RX8, "write", "(II)I"⟩
abbrev cX8_count : ByteArray := prog_1_method_38_code
def yX8_count : MethodName := ⟨RX8, "count", "(I)I"⟩
abbrev cX8_digest : ByteArray := prog_1_method_39_code
def yX8_digest : MethodName := ⟨RX8, "digest", "()J"⟩
abbrev cX8_mixBottle : ByteArray := prog_1_method_40_code
def yX8_mixBottle : MethodName := ⟨RX8, "mixBottle", "(JI)J"⟩
abbrev cX8_isWithin : ByteArray := prog_1_method_41_code
def yX8_isWithin : MethodName := ⟨RX8, "isWithin", "(II)Z"⟩
abbrev cX8_isBottle : ByteArray := prog_1_method_42_code
def yX8_isBottle : MethodName := ⟨RX8, "isBottle", "(I)Z"⟩
abbrev cX8_textOf : ByteArray := prog_1_method_43_code
def yX8_textOf : MethodName := ⟨RX8, "textOf", "(I)LBreathSold$Text;"⟩
abbrev cX8_takeTexts : ByteArray := prog_1_method_44_code
def yX8_takeTexts : MethodName := ⟨RX8, "takeTexts", "()V"⟩
abbrev cX8_forgetDays : ByteArray := prog_1_method_45_code
def yX8_forgetDays : MethodName := ⟨RX8, "forgetDays", "()V"⟩
abbrev cX8_find : ByteArray := prog_1_method_46_code
def yX8_find : MethodName := ⟨RX8, "find", "(I)I"⟩
abbrev cX8_mayBeAct : ByteArray := prog_1_method_47_code
def yX8_mayBeAct : MethodName := ⟨RX8, "mayBeAct", "(IIII)Z"⟩
abbrev cX8_behind : ByteArray := prog_1_method_48_code
def yX8_behind : MethodName := ⟨RX8, "behind", "(I)LBreathSold$State;"⟩
abbrev cX8_seekCorks : ByteArray := prog_1_method_49_code
def yX8_seekCorks : MethodName := ⟨RX8, "seekCorks", "(I)I"⟩
abbrev cX8_areBottles : ByteArray := prog_1_method_50_code
def yX8_areBottles : MethodName := ⟨RX8, "areBottles", "(I)Z"⟩
abbrev cX8_isAmong : ByteArray := prog_1_method_51_code
def yX8_isAmong : MethodName := ⟨RX8, "isAmong", "(II)Z"⟩
abbrev cX8_singsCorked : ByteArray := prog_1_method_52_code
def yX8_singsCorked : MethodName := ⟨RX8, "singsCorked", "(II)Z"⟩
abbrev cX8_corkedAt : ByteArray := prog_1_method_53_code
def yX8_corkedAt : MethodName := ⟨RX8, "corkedAt", "(I)I"⟩
abbrev cX8_comesOut : ByteArray := prog_1_method_54_code
def yX8_comesOut : MethodName := ⟨RX8, "comesOut", "(III)Z"⟩
abbrev cX8_holdWithoutEach : ByteArray := prog_1_method_55_code
def yX8_holdWithoutEach : MethodName := ⟨RX8, "holdWithoutEach", "(II)V"⟩
abbrev cX8_mostAlike : ByteArray := prog_1_method_56_code
def yX8_mostAlike : MethodName := ⟨RX8, "mostAlike", "(II)I"⟩
abbrev cX8_wholeWays : ByteArray := prog_1_method_57_code
def yX8_wholeWays : MethodName := ⟨RX8, "wholeWays", "([LBreathSold$State;LBreathSold$Told;IIII)J"⟩
abbrev cX8_nextSeed : ByteArray := prog_1_method_58_code
def yX8_nextSeed : MethodName := ⟨RX8, "nextSeed", "(I)I"⟩
def RX9 : String := "BreathSoldModel"
def TX9 : u_T := fun k => match k with
  | 0 => ("BreathSoldModel", "typed", "[I", true)
  | 1 => ("BreathSoldModel", "texts", "[I", true)
  | 2 => ("BreathSoldModel", "bottles", "I", false)
  | 3 => ("BreathSoldModel", "voices", "[I", true)
  | 4 => ("BreathSoldModel", "muches", "[I", true)
  | 5 => ("BreathSoldModel", "corkTold", "[I", true)
  | 6 => ("BreathSoldModel", "souths", "[I", true)
  | 7 => ("BreathSoldModel", "letters", "I", false)
  | 8 => ("BreathSoldModel", "notes", "[I", true)
  | 9 => ("BreathSoldModel", "burstNow", "I", false)
  | 10 => ("BreathSoldModel", "hots", "I", false)
  | 11 => ("BreathSoldModel", "hotDay", "[I", true)
  | 12 => ("BreathSoldModel", "acts", "I", false)
  | 13 => ("BreathSoldModel", "actDay", "[I", true)
  | 14 => ("BreathSoldModel", "actKind", "[I", true)
  | 15 => ("BreathSoldModel", "actBottle", "[I", true)
  | 16 => ("BreathSoldModel", "actTo", "[I", true)
  | 17 => ("BreathSoldModel", "ahead", "I", false)
  | 18 => ("BreathSoldModel", "corkAhead", "[I", true)
  | 19 => ("BreathSoldModel", "sales", "I", false)
  | 20 => ("BreathSoldModel", "saleBottle", "[I", true)
  | 21 => ("BreathSoldModel", "saleTo", "[I", true)
  | 22 => ("BreathSoldModel", "vols", "[I", true)
  | 23 => ("BreathSoldModel", "owner", "[I", true)
  | 24 => ("BreathSoldModel", "corks", "[I", true)
  | 25 => ("BreathSoldModel", "isWhole", "[Z", true)
  | 26 => ("BreathSoldModel", "isHot", "[Z", true)
  | 27 => ("BreathSoldModel", "didWork", "[Z", true)
  | 28 => ("BreathSoldModel", "heardNow", "[I", true)
  | 29 => ("BreathSoldModel", "spilledNow", "[I", true)
  | 30 => ("BreathSoldModel", "leakedNow", "I", false)
  | 31 => ("BreathSoldModel", "saleWorks", "I", false)
  | 32 => ("BreathSoldModel", "without", "I", false)
  | 33 => ("BreathSoldModel", "one", "I", false)
  | 34 => ("BreathSoldModel", "two", "I", false)
  | 35 => ("BreathSoldModel", "spills", "[I", true)
  | 36 => ("BreathSoldModel", "weighings", "I", false)
  | 37 => ("BreathSoldModel", "weighedDay", "[I", true)
  | 38 => ("BreathSoldModel", "weighedBottle", "[I", true)
  | 39 => ("BreathSoldModel", "weighedMuch", "[I", true)
  | 40 => ("BreathSoldModel", "heldBy", "[I", true)
  | 41 => ("BreathSoldModel", "isThere", "[Z", true)
  | 42 => ("BreathSoldModel", "forms", "[I", true)
  | 43 => ("BreathSoldModel", "sizes", "[I", true)
  | 44 => ("BreathSoldModel", "items", "[I", true)
  | 45 => ("BreathSoldModel", "moved", "[I", true)
  | _ => ("BreathSoldModel", "finding", "I", false)
def tyX9 : Nat → FieldType := fun k => match k with
  | 0 => .array .int
  | 1 => .array .int
  | 2 => .int
  | 3 => .array .int
  | 4 => .array .int
  | 5 => .array .int
  | 6 => .array .int
  | 7 => .int
  | 8 => .array .int
  | 9 => .int
  | 10 => .int
  | 11 => .array .int
  | 12 => .int
  | 13 => .array .int
  | 14 => .array .int
  | 15 => .array .int
  | 16 => .array .int
  | 17 => .int
  | 18 => .array .int
  | 19 => .int
  | 20 => .array .int
  | 21 => .array .int
  | 22 => .array .int
  | 23 => .array .int
  | 24 => .array .int
  | 25 => .array .boolean
  | 26 => .array .boolean
  | 27 => .array .boolean
  | 28 => .array .int
  | 29 => .array .int
  | 30 => .int
  | 31 => .int
  | 32 => .int
  | 33 => .int
  | 34 => .int
  | 35 => .array .int
  | 36 => .int
  | 37 => .array .int
  | 38 => .array .int
  | 39 => .array .int
  | 40 => .array .int
  | 41 => .array .boolean
  | 42 => .array .int
  | 43 => .array .int
  | 44 => .array .int
  | 45 => .array .int
  | _ => .int
abbrev wsX90 : List Cond := u_ws RX9 TX9 47
theorem nmX9 : ∀ a, a < 47 → ∀ b, b < 47 → a ≠ b → (TX9 a).2.1 ≠ (TX9 b).2.1 := by decide +kernel
theorem tyX9_ok : ∀ k, k < 47 → parseFieldDescriptor (TX9 k).2.2.1 = some (tyX9 k) := by decide +kernel
abbrev cX9_init : ByteArray := prog_11_method_1_code
def yX9_init : MethodName := ⟨RX9, "<init>", "()V"⟩
abbrev cX9_in : ByteArray := prog_11_method_3_code
def yX9_in : MethodName := ⟨RX9, "in", "(III)Z"⟩
abbrev cX9_isIn : ByteArray := prog_11_method_4_code
def yX9_isIn : MethodName := ⟨RX9, "isIn", "(II)Z"⟩
abbrev cX9_no : ByteArray := prog_11_method_5_code
def yX9_no : MethodName := ⟨RX9, "no", "(I)J"⟩
abbrev cX9_lowest : ByteArray := prog_11_method_6_code
def yX9_lowest : MethodName := ⟨RX9, "lowest", "(JJI)J"⟩
abbrev cX9_isText : ByteArray := prog_11_method_7_code
def yX9_isText : MethodName := ⟨RX9, "isText", "(I)Z"⟩
abbrev cX9_isEight : ByteArray := prog_11_method_8_code
def yX9_isEight : MethodName := ⟨RX9, "isEight", "(I)Z"⟩
abbrev cX9_isDay : ByteArray := prog_11_method_9_code
def yX9_isDay : MethodName := ⟨RX9, "isDay", "(I)Z"⟩
abbrev cX9_type : ByteArray := prog_11_method_10_code
def yX9_type : MethodName := ⟨RX9, "type", "(II)I"⟩
abbrev cX9_wipe : ByteArray := prog_11_method_11_code
def yX9_wipe : MethodName := ⟨RX9, "wipe", "(I)I"⟩
abbrev cX9_undo : ByteArray := prog_11_method_12_code
def yX9_undo : MethodName := ⟨RX9, "undo", "(I)I"⟩
abbrev cX9_byteAt : ByteArray := prog_11_method_13_code
def yX9_byteAt : MethodName := ⟨RX9, "byteAt", "(II)I"⟩
abbrev cX9_readsBottle : ByteArray := prog_11_method_14_code
def yX9_readsBottle : MethodName := ⟨RX9, "readsBottle", "(II)I"⟩
abbrev cX9_readsBottles : ByteArray := prog_11_method_15_code
def yX9_readsBottles : MethodName := ⟨RX9, "readsBottles", "()I"⟩
abbrev cX9_readsSong : ByteArray := prog_11_method_16_code
def yX9_readsSong : MethodName := ⟨RX9, "readsSong", "()I"⟩
abbrev cX9_faultOf : ByteArray := prog_11_method_17_code
def yX9_faultOf : MethodName := ⟨RX9, "faultOf", "(I)I"⟩
abbrev cX9_reads : ByteArray := prog_11_method_18_code
def yX9_reads : MethodName := ⟨RX9, "reads", "()V"⟩
abbrev cX9_fault : ByteArray := prog_11_method_19_code
def yX9_fault : MethodName := ⟨RX9, "fault", "(I)I"⟩
abbrev cX9_isBottle : ByteArray := prog_11_method_20_code
def yX9_isBottle : MethodName := ⟨RX9, "isBottle", "(I)Z"⟩
abbrev cX9_bottleOf : ByteArray := prog_11_method_21_code
def yX9_bottleOf : MethodName := ⟨RX9, "bottleOf", "(II)I"⟩
abbrev cX9_bottle : ByteArray := prog_11_method_22_code
def yX9_bottle : MethodName := ⟨RX9, "bottle", "(II)I"⟩
abbrev cX9_noteOf : ByteArray := prog_11_method_23_code
def yX9_noteOf : MethodName := ⟨RX9, "noteOf", "(I)I"⟩
abbrev cX9_note : ByteArray := prog_11_method_24_code
def yX9_note : MethodName := ⟨RX9, "note", "(I)I"⟩
abbrev cX9_burst : ByteArray := prog_11_method_25_code
def yX9_burst : MethodName := ⟨RX9, "burst", "(I)I"⟩
abbrev cX9_hot : ByteArray := prog_11_method_26_code
def yX9_hot : MethodName := ⟨RX9, "hot", "(I)I"⟩
abbrev cX9_act : ByteArray := prog_11_method_27_code
def yX9_act : MethodName := ⟨RX9, "act", "(IIII)I"⟩
abbrev cX9_back : ByteArray := prog_11_method_28_code
def yX9_back : MethodName := ⟨RX9, "back", "(I)I"⟩
abbrev cX9_read : ByteArray := prog_11_method_29_code
def yX9_read : MethodName := ⟨RX9, "read", "(I)I"⟩
abbrev cX9_asTold : ByteArray := prog_11_method_30_code
def yX9_asTold : MethodName := ⟨RX9, "asTold", "()V"⟩
abbrev cX9_as : ByteArray := prog_11_method_31_code
def yX9_as : MethodName := ⟨RX9, "as", "(I)I"⟩
abbrev cX9_begins : ByteArray := prog_11_method_32_code
def yX9_begins : MethodName := ⟨RX9, "begins", "()V"⟩
abbrev cX9_sells : ByteArray := prog_11_method_33_code
def yX9_sells : MethodName := ⟨RX9, "sells", "(II)Z"⟩
abbrev cX9_corksOne : ByteArray := prog_11_method_34_code
def yX9_corksOne : MethodName := ⟨RX9, "corksOne", "(I)Z"⟩
abbrev cX9_joins : ByteArray := prog_11_method_35_code
def yX9_joins : MethodName := ⟨RX9, "joins", "(II)Z"⟩
abbrev cX9_breaks : ByteArray := prog_11_method_36_code
def yX9_breaks : MethodName := ⟨RX9, "breaks", "(I)Z"⟩
abbrev cX9_does : ByteArray := prog_11_method_37_code
def yX9_does : MethodName := ⟨RX9, "does", "(I)Z"⟩
abbrev cX9_allIn : ByteArray := prog_11_method_38_code
def yX9_allIn : MethodName := ⟨RX9, "allIn", "(I)I"⟩
abbrev cX9_ends : ByteArray := prog_11_method_39_code
def yX9_ends : MethodName := ⟨RX9, "ends", "(IZ)V"⟩
abbrev cX9_goesBy : ByteArray := prog_11_method_40_code
def yX9_goesBy : MethodName := ⟨RX9, "goesBy", "(I)V"⟩
abbrev cX9_runs : ByteArray := prog_11_method_41_code
def yX9_runs : MethodName := ⟨RX9, "runs", "(I)V"⟩
abbrev cX9_runsTold : ByteArray := prog_11_method_42_code
def yX9_runsTold : MethodName := ⟨RX9, "runsTold", "(I)V"⟩
abbrev cX9_holdsOf : ByteArray := prog_11_method_43_code
def yX9_holdsOf : MethodName := ⟨RX9, "holdsOf", "(III)I"⟩
abbrev cX9_holds : ByteArray := prog_11_method_44_code
def yX9_holds : MethodName := ⟨RX9, "holds", "(III)I"⟩
abbrev cX9_whoOf : ByteArray := prog_11_method_45_code
def yX9_whoOf : MethodName := ⟨RX9, "whoOf", "(II)I"⟩
abbrev cX9_who : ByteArray := prog_11_method_46_code
def yX9_who : MethodName := ⟨RX9, "who", "(II)I"⟩
abbrev cX9_wholeOf : ByteArray := prog_11_method_47_code
def yX9_wholeOf : MethodName := ⟨RX9, "wholeOf", "(II)I"⟩
abbrev cX9_whole : ByteArray := prog_11_method_48_code
def yX9_whole : MethodName := ⟨RX9, "whole", "(II)I"⟩
abbrev cX9_hasOf : ByteArray := prog_11_method_49_code
def yX9_hasOf : MethodName := ⟨RX9, "hasOf", "(II)I"⟩
abbrev cX9_has : ByteArray := prog_11_method_50_code
def yX9_has : MethodName := ⟨RX9, "has", "(II)I"⟩
abbrev cX9_heardOf : ByteArray := prog_11_method_51_code
def yX9_heardOf : MethodName := ⟨RX9, "heardOf", "(II)I"⟩
abbrev cX9_heard : ByteArray := prog_11_method_52_code
def yX9_heard : MethodName := ⟨RX9, "heard", "(II)I"⟩
abbrev cX9_spilledOf : ByteArray := prog_11_method_53_code
def yX9_spilledOf : MethodName := ⟨RX9, "spilledOf", "(II)I"⟩
abbrev cX9_spilled : ByteArray := prog_11_method_54_code
def yX9_spilled : MethodName := ⟨RX9, "spilled", "(II)I"⟩
abbrev cX9_leakedOf : ByteArray := prog_11_method_55_code
def yX9_leakedOf : MethodName := ⟨RX9, "leakedOf", "(I)I"⟩
abbrev cX9_leaked : ByteArray := prog_11_method_56_code
def yX9_leaked : MethodName := ⟨RX9, "leaked", "(I)I"⟩
abbrev cX9_lostOf : ByteArray := prog_11_method_57_code
def yX9_lostOf : MethodName := ⟨RX9, "lostOf", "(I)I"⟩
abbrev cX9_lost : ByteArray := prog_11_method_58_code
def yX9_lost : MethodName := ⟨RX9, "lost", "(I)I"⟩
abbrev cX9_worksOf : ByteArray := prog_11_method_59_code
def yX9_worksOf : MethodName := ⟨RX9, "worksOf", "(I)I"⟩
abbrev cX9_works : ByteArray := prog_11_method_60_code
def yX9_works : MethodName := ⟨RX9, "works", "(I)I"⟩
abbrev cX9_spill : ByteArray := prog_11_method_61_code
def yX9_spill : MethodName := ⟨RX9, "spill", "(II)I"⟩
abbrev cX9_laysSpills : ByteArray := prog_11_method_62_code
def yX9_laysSpills : MethodName := ⟨RX9, "laysSpills", "()I"⟩
abbrev cX9_singOf : ByteArray := prog_11_method_63_code
def yX9_singOf : MethodName := ⟨RX9, "singOf", "(II)I"⟩
abbrev cX9_sing : ByteArray := prog_11_method_64_code
def yX9_sing : MethodName := ⟨RX9, "sing", "(II)I"⟩
abbrev cX9_sings : ByteArray := prog_11_method_65_code
def yX9_sings : MethodName := ⟨RX9, "sings", "(IIIII)Z"⟩
abbrev cX9_corksBy : ByteArray := prog_11_method_66_code
def yX9_corksBy : MethodName := ⟨RX9, "corksBy", "(I)I"⟩
abbrev cX9_ofCorks : ByteArray := prog_11_method_67_code
def yX9_ofCorks : MethodName := ⟨RX9, "ofCorks", "(II)I"⟩
abbrev cX9_corks : ByteArray := prog_11_method_68_code
def yX9_corks : MethodName := ⟨RX9, "corks", "(II)I"⟩
abbrev cX9_mostOf : ByteArray := prog_11_method_69_code
def yX9_mostOf : MethodName := ⟨RX9, "mostOf", "(II)I"⟩
abbrev cX9_most : ByteArray := prog_11_method_70_code
def yX9_most : MethodName := ⟨RX9, "most", "(II)I"⟩
abbrev cX9_weighed : ByteArray := prog_11_method_71_code
def yX9_weighed : MethodName := ⟨RX9, "weighed", "(III)I"⟩
abbrev cX9_forget : ByteArray := prog_11_method_72_code
def yX9_forget : MethodName := ⟨RX9, "forget", "()I"⟩
abbrev cX9_isWeighed : ByteArray := prog_11_method_73_code
def yX9_isWeighed : MethodName := ⟨RX9, "isWeighed", "()Z"⟩
abbrev cX9_hidNow : ByteArray := prog_11_method_74_code
def yX9_hidNow : MethodName := ⟨RX9, "hidNow", "()I"⟩
abbrev cX9_hid : ByteArray := prog_11_method_75_code
def yX9_hid : MethodName := ⟨RX9, "hid", "()I"⟩
abbrev cX9_swappedOf : ByteArray := prog_11_method_76_code
def yX9_swappedOf : MethodName := ⟨RX9, "swappedOf", "(I)I"⟩
abbrev cX9_swapped : ByteArray := prog_11_method_77_code
def yX9_swapped : MethodName := ⟨RX9, "swapped", "(I)I"⟩
abbrev cX9_weighOf : ByteArray := prog_11_method_78_code
def yX9_weighOf : MethodName := ⟨RX9, "weighOf", "(I)I"⟩
abbrev cX9_weigh : ByteArray := prog_11_method_79_code
def yX9_weigh : MethodName := ⟨RX9, "weigh", "(I)I"⟩
abbrev cX9_heatOf : ByteArray := prog_11_method_80_code
def yX9_heatOf : MethodName := ⟨RX9, "heatOf", "(IIII)J"⟩
abbrev cX9_heat : ByteArray := prog_11_method_81_code
def yX9_heat : MethodName := ⟨RX9, "heat", "(IIII)J"⟩
abbrev cX9_marketOf : ByteArray := prog_11_method_82_code
def yX9_marketOf : MethodName := ⟨RX9, "marketOf", "(III)I"⟩
abbrev cX9_market : ByteArray := prog_11_method_83_code
def yX9_market : MethodName := ⟨RX9, "market", "(III)I"⟩
abbrev cX9_meets : ByteArray := prog_11_method_84_code
def yX9_meets : MethodName := ⟨RX9, "meets", "(I)I"⟩
abbrev cX9_isSheet : ByteArray := prog_11_method_85_code
def yX9_isSheet : MethodName := ⟨RX9, "isSheet", "(I)Z"⟩
abbrev cX9_sheet : ByteArray := prog_11_method_86_code
def yX9_sheet : MethodName := ⟨RX9, "sheet", "(III)I"⟩
abbrev cX9_lose : ByteArray := prog_11_method_87_code
def yX9_lose : MethodName := ⟨RX9, "lose", "(I)I"⟩
abbrev cX9_lacks : ByteArray := prog_11_method_88_code
def yX9_lacks : MethodName := ⟨RX9, "lacks", "(III)I"⟩
abbrev cX9_keep : ByteArray := prog_11_method_89_code
def yX9_keep : MethodName := ⟨RX9, "keep", "(III)V"⟩
abbrev cX9_put : ByteArray := prog_11_method_90_code
def yX9_put : MethodName := ⟨RX9, "put", "(IIII)I"⟩
abbrev cX9_get : ByteArray := prog_11_method_91_code
def yX9_get : MethodName := ⟨RX9, "get", "(III)I"⟩
abbrev cX9_copy : ByteArray := prog_11_method_92_code
def yX9_copy : MethodName := ⟨RX9, "copy", "(IIIII)I"⟩
abbrev cX9_write : ByteArray := prog_11_method_93_code
def yX9_write : MethodName := ⟨RX9, "write", "(II)I"⟩
abbrev cX9_sumOf : ByteArray := prog_11_method_94_code
def yX9_sumOf : MethodName := ⟨RX9, "sumOf", "(I)I"⟩
abbrev cX9_count : ByteArray := prog_11_method_95_code
def yX9_count : MethodName := ⟨RX9, "count", "(I)I"⟩
abbrev cX9_bottleDigest : ByteArray := prog_11_method_96_code
def yX9_bottleDigest : MethodName := ⟨RX9, "bottleDigest", "(JI)J"⟩
abbrev cX9_dayDigest : ByteArray := prog_11_method_97_code
def yX9_dayDigest : MethodName := ⟨RX9, "dayDigest", "(JI)J"⟩
abbrev cX9_digest : ByteArray := prog_11_method_98_code
def yX9_digest : MethodName := ⟨RX9, "digest", "()J"⟩
def RJx145de : String := "java/io/Serializable"
def TJx145de : u_T := fun k => match k with
  | _ => ("", "", "", false)
def tyJx145de : Nat → FieldType := fun k => match k with
  | _ => .int
abbrev wsJx145de0 : List Cond := u_ws RJx145de TJx145de 0
theorem nmJx145de : ∀ a, a < 0 → ∀ b, b < 0 → a ≠ b → (TJx145de a).2.1 ≠ (TJx145de b).2.1 := by decide +kernel
theorem tyJx145de_ok : ∀ k, k < 0 → parseFieldDescriptor (TJx145de k).2.2.1 = some (tyJx145de k) := by decide +kernel
def RJxb160c : String := "java/lang/Comparable"
def TJxb160c : u_T := fun k => match k with
  | _ => ("", "", "", false)
def tyJxb160c : Nat → FieldType := fun k => match k with
  | _ => .int
abbrev wsJxb160c0 : List Cond := u_ws RJxb160c TJxb160c 0
theorem nmJxb160c : ∀ a, a < 0 → ∀ b, b < 0 → a ≠ b → (TJxb160c a).2.1 ≠ (TJxb160c b).2.1 := by decide +kernel
theorem tyJxb160c_ok : ∀ k, k < 0 → parseFieldDescriptor (TJxb160c k).2.2.1 = some (tyJxb160c k) := by decide +kernel
def RJ6 : String := "java/lang/Integer"
def TJ6 : u_T := fun k => match k with
  | _ => ("", "", "", false)
def tyJ6 : Nat → FieldType := fun k => match k with
  | _ => .int
abbrev wsJ60 : List Cond := u_ws RJ6 TJ6 0
theorem nmJ6 : ∀ a, a < 0 → ∀ b, b < 0 → a ≠ b → (TJ6 a).2.1 ≠ (TJ6 b).2.1 := by decide +kernel
theorem tyJ6_ok : ∀ k, k < 0 → parseFieldDescriptor (TJ6 k).2.2.1 = some (tyJ6 k) := by decide +kernel
abbrev cJ6_numberOfTrailingZeros_0f7a4 : ByteArray := prog_12_method_48_code
def yJ6_numberOfTrailingZeros_0f7a4 : MethodName := ⟨RJ6, "numberOfTrailingZeros", "(I)I"⟩
abbrev cJ6_bitCount_0f7a4 : ByteArray := prog_12_method_49_code
def yJ6_bitCount_0f7a4 : MethodName := ⟨RJ6, "bitCount", "(I)I"⟩
def RJ13 : String := "java/lang/Long"
def TJ13 : u_T := fun k => match k with
  | _ => ("", "", "", false)
def tyJ13 : Nat → FieldType := fun k => match k with
  | _ => .int
abbrev wsJ130 : List Cond := u_ws RJ13 TJ13 0
theorem nmJ13 : ∀ a, a < 0 → ∀ b, b < 0 → a ≠ b → (TJ13 a).2.1 ≠ (TJ13 b).2.1 := by decide +kernel
theorem tyJ13_ok : ∀ k, k < 0 → parseFieldDescriptor (TJ13 k).2.2.1 = some (tyJ13 k) := by decide +kernel
abbrev cJ13_numberOfTrailingZeros_95d88 : ByteArray := prog_13_method_49_code
def yJ13_numberOfTrailingZeros_95d88 : MethodName := ⟨RJ13, "numberOfTrailingZeros", "(J)I"⟩
def RJ9 : String := "java/lang/Math"
def TJ9 : u_T := fun k => match k with
  | _ => ("", "", "", false)
def tyJ9 : Nat → FieldType := fun k => match k with
  | _ => .int
abbrev wsJ90 : List Cond := u_ws RJ9 TJ9 0
theorem nmJ9 : ∀ a, a < 0 → ∀ b, b < 0 → a ≠ b → (TJ9 a).2.1 ≠ (TJ9 b).2.1 := by decide +kernel
theorem tyJ9_ok : ∀ k, k < 0 → parseFieldDescriptor (TJ9 k).2.2.1 = some (tyJ9 k) := by decide +kernel
abbrev cJ9_max_7cf53 : ByteArray := prog_14_method_65_code
def yJ9_max_7cf53 : MethodName := ⟨RJ9, "max", "(II)I"⟩
abbrev cJ9_min_7cf53 : ByteArray := prog_14_method_69_code
def yJ9_min_7cf53 : MethodName := ⟨RJ9, "min", "(II)I"⟩
def RJxd2413 : String := "java/lang/Number"
def TJxd2413 : u_T := fun k => match k with
  | _ => ("", "", "", false)
def tyJxd2413 : Nat → FieldType := fun k => match k with
  | _ => .int
abbrev wsJxd24130 : List Cond := u_ws RJxd2413 TJxd2413 0
theorem nmJxd2413 : ∀ a, a < 0 → ∀ b, b < 0 → a ≠ b → (TJxd2413 a).2.1 ≠ (TJxd2413 b).2.1 := by decide +kernel
theorem tyJxd2413_ok : ∀ k, k < 0 → parseFieldDescriptor (TJxd2413 k).2.2.1 = some (tyJxd2413 k) := by decide +kernel
def RJ10 : String := "java/lang/System"
def TJ10 : u_T := fun k => match k with
  | _ => ("", "", "", false)
def tyJ10 : Nat → FieldType := fun k => match k with
  | _ => .int
abbrev wsJ100 : List Cond := u_ws RJ10 TJ10 0
theorem nmJ10 : ∀ a, a < 0 → ∀ b, b < 0 → a ≠ b → (TJ10 a).2.1 ≠ (TJ10 b).2.1 := by decide +kernel
theorem tyJ10_ok : ∀ k, k < 0 → parseFieldDescriptor (TJ10 k).2.2.1 = some (tyJ10 k) := by decide +kernel
def RJxfd54e : String := "java/lang/constant/Constable"
def TJxfd54e : u_T := fun k => match k with
  | _ => ("", "", "", false)
def tyJxfd54e : Nat → FieldType := fun k => match k with
  | _ => .int
abbrev wsJxfd54e0 : List Cond := u_ws RJxfd54e TJxfd54e 0
theorem nmJxfd54e : ∀ a, a < 0 → ∀ b, b < 0 → a ≠ b → (TJxfd54e a).2.1 ≠ (TJxfd54e b).2.1 := by decide +kernel
theorem tyJxfd54e_ok : ∀ k, k < 0 → parseFieldDescriptor (TJxfd54e k).2.2.1 = some (tyJxfd54e k) := by decide +kernel
def RJx3cf43 : String := "java/lang/constant/ConstantDesc"
def TJx3cf43 : u_T := fun k => match k with
  | _ => ("", "", "", false)
def tyJx3cf43 : Nat → FieldType := fun k => match k with
  | _ => .int
abbrev wsJx3cf430 : List Cond := u_ws RJx3cf43 TJx3cf43 0
theorem nmJx3cf43 : ∀ a, a < 0 → ∀ b, b < 0 → a ≠ b → (TJx3cf43 a).2.1 ≠ (TJx3cf43 b).2.1 := by decide +kernel
theorem tyJx3cf43_ok : ∀ k, k < 0 → parseFieldDescriptor (TJx3cf43 k).2.2.1 = some (tyJx3cf43 k) := by decide +kernel
def RJ7 : String := "java/util/Arrays"
def TJ7 : u_T := fun k => match k with
  | _ => ("", "", "", false)
def tyJ7 : Nat → FieldType := fun k => match k with
  | _ => .int
abbrev wsJ70 : List Cond := u_ws RJ7 TJ7 0
theorem nmJ7 : ∀ a, a < 0 → ∀ b, b < 0 → a ≠ b → (TJ7 a).2.1 ≠ (TJ7 b).2.1 := by decide +kernel
theorem tyJ7_ok : ∀ k, k < 0 → parseFieldDescriptor (TJ7 k).2.2.1 = some (tyJ7 k) := by decide +kernel
abbrev cJ7_fill_53178 : ByteArray := prog_17_method_103_code
def yJ7_fill_53178 : MethodName := ⟨RJ7, "fill", "([II)V"⟩
def RL : String := "BreathSoldLaw"
abbrev cL_law : ByteArray := code
def yL_law : MethodName := ⟨RL, "law", "([I)Z"⟩
theorem inX0 : ∀ w ∈ wsX00, w ∈ lw_tbl := by decide +kernel
theorem inX1 : ∀ w ∈ wsX10, w ∈ lw_tbl := by decide +kernel
theorem inX2 : ∀ w ∈ wsX20, w ∈ lw_tbl := by decide +kernel
theorem inX3 : ∀ w ∈ wsX30, w ∈ lw_tbl := by decide +kernel
theorem inX4 : ∀ w ∈ wsX40, w ∈ lw_tbl := by decide +kernel
theorem inX5 : ∀ w ∈ wsX50, w ∈ lw_tbl := by decide +kernel
theorem inX6 : ∀ w ∈ wsX60, w ∈ lw_tbl := by decide +kernel
theorem inX7 : ∀ w ∈ wsX70, w ∈ lw_tbl := by decide +kernel
theorem inX8 : ∀ w ∈ wsX80, w ∈ lw_tbl := by decide +kernel
theorem inX9 : ∀ w ∈ wsX90, w ∈ lw_tbl := by decide +kernel
theorem inJx145de : ∀ w ∈ wsJx145de0, w ∈ lw_tbl := by decide +kernel
theorem inJxb160c : ∀ w ∈ wsJxb160c0, w ∈ lw_tbl := by decide +kernel
theorem inJ6 : ∀ w ∈ wsJ60, w ∈ lw_tbl := by decide +kernel
theorem inJ13 : ∀ w ∈ wsJ130, w ∈ lw_tbl := by decide +kernel
theorem inJ9 : ∀ w ∈ wsJ90, w ∈ lw_tbl := by decide +kernel
theorem inJxd2413 : ∀ w ∈ wsJxd24130, w ∈ lw_tbl := by decide +kernel
theorem inJ10 : ∀ w ∈ wsJ100, w ∈ lw_tbl := by decide +kernel
theorem inJxfd54e : ∀ w ∈ wsJxfd54e0, w ∈ lw_tbl := by decide +kernel
theorem inJx3cf43 : ∀ w ∈ wsJx3cf430, w ∈ lw_tbl := by decide +kernel
theorem inJ7 : ∀ w ∈ wsJ70, w ∈ lw_tbl := by decide +kernel
abbrev vwCl : List vw_C := [(RX0, TX0, 5), (RX1, TX1, 3), (RX2, TX2, 6), (RX3, TX3, 13), (RX4, TX4, 5), (RX5, TX5, 3), (RX6, TX6, 5), (RX7, TX7, 4), (RX8, TX8, 14), (RX9, TX9, 47)]
end
section
theorem dX0_init_0 : decode cX0_init 0 = .ok (.aload_n 0, 1) := by decide +kernel
theorem dX0_init_1 : decode cX0_init 1 = .ok (.invokespecial 3, 3) := by decide +kernel
theorem dX0_init_4 : decode cX0_init 4 = .ok (.aload_n 0, 1) := by decide +kernel
theorem dX0_init_5 : decode cX0_init 5 = .ok (.bipush 16, 2) := by decide +kernel
theorem dX0_init_7 : decode cX0_init 7 = .ok (.newarray .int, 2) := by decide +kernel
theorem dX0_init_9 : decode cX0_init 9 = .ok (.putfield 9, 3) := by decide +kernel
theorem dX0_init_12 : decode cX0_init 12 = .ok (.aload_n 0, 1) := by decide +kernel
theorem dX0_init_13 : decode cX0_init 13 = .ok (.bipush 16, 2) := by decide +kernel
theorem dX0_init_15 : decode cX0_init 15 = .ok (.newarray .int, 2) := by decide +kernel
theorem dX0_init_17 : decode cX0_init 17 = .ok (.putfield 15, 3) := by decide +kernel
theorem dX0_init_20 : decode cX0_init 20 = .ok (.aload_n 0, 1) := by decide +kernel
theorem dX0_init_21 : decode cX0_init 21 = .ok (.bipush 16, 2) := by decide +kernel
theorem dX0_init_23 : decode cX0_init 23 = .ok (.newarray .int, 2) := by decide +kernel
theorem dX0_init_25 : decode cX0_init 25 = .ok (.putfield 18, 3) := by decide +kernel
theorem dX0_init_28 : decode cX0_init 28 = .ok (.aload_n 0, 1) := by decide +kernel
theorem dX0_init_29 : decode cX0_init 29 = .ok (.bipush 16, 2) := by decide +kernel
theorem dX0_init_31 : decode cX0_init 31 = .ok (.newarray .int, 2) := by decide +kernel
theorem dX0_init_33 : decode cX0_init 33 = .ok (.putfield 21, 3) := by decide +kernel
theorem dX0_init_36 : decode cX0_init 36 = .ok (.aload_n 0, 1) := by decide +kernel
theorem dX0_init_37 : decode cX0_init 37 = .ok (.iconst 0, 1) := by decide +kernel
theorem dX0_init_38 : decode cX0_init 38 = .ok (.putfield 24, 3) := by decide +kernel
theorem dX0_init_41 : decode cX0_init 41 = .ok (.return_, 1) := by decide +kernel
theorem dX1_init_0 : decode cX1_init 0 = .ok (.aload_n 0, 1) := by decide +kernel
theorem dX1_init_1 : decode cX1_init 1 = .ok (.invokespecial 3, 3) := by decide +kernel
theorem dX1_init_4 : decode cX1_init 4 = .ok (.aload_n 0, 1) := by decide +kernel
theorem dX1_init_5 : decode cX1_init 5 = .ok (.iconst 4, 1) := by decide +kernel
theorem dX1_init_6 : decode cX1_init 6 = .ok (.bipush 60, 2) := by decide +kernel
theorem dX1_init_8 : decode cX1_init 8 = .ok (.multianewarray 9 2, 4) := by decide +kernel
theorem dX1_init_12 : decode cX1_init 12 = .ok (.putfield 11, 3) := by decide +kernel
theorem dX1_init_15 : decode cX1_init 15 = .ok (.aload_n 0, 1) := by decide +kernel
theorem dX1_init_16 : decode cX1_init 16 = .ok (.iconst 4, 1) := by decide +kernel
theorem dX1_init_17 : decode cX1_init 17 = .ok (.newarray .int, 2) := by decide +kernel
theorem dX1_init_19 : decode cX1_init 19 = .ok (.putfield 16, 3) := by decide +kernel
theorem dX1_init_22 : decode cX1_init 22 = .ok (.aload_n 0, 1) := by decide +kernel
theorem dX1_init_23 : decode cX1_init 23 = .ok (.iconst 4, 1) := by decide +kernel
theorem dX1_init_24 : decode cX1_init 24 = .ok (.newarray .int, 2) := by decide +kernel
theorem dX1_init_26 : decode cX1_init 26 = .ok (.putfield 20, 3) := by decide +kernel
theorem dX1_init_29 : decode cX1_init 29 = .ok (.aload_n 0, 1) := by decide +kernel
theorem dX1_init_30 : decode cX1_init 30 = .ok (.getfield 16, 3) := by decide +kernel
theorem dX1_init_33 : decode cX1_init 33 = .ok (.iconst (-1), 1) := by decide +kernel
theorem dX1_init_34 : decode cX1_init 34 = .ok (.invokestatic 23, 3) := by decide +kernel
theorem dX1_init_37 : decode cX1_init 37 = .ok (.return_, 1) := by decide +kernel
theorem dX1_findingAt_0 : decode cX1_findingAt 0 = .ok (.aload_n 0, 1) := by decide +kernel
theorem dX1_findingAt_1 : decode cX1_findingAt 1 = .ok (.getfield 16, 3) := by decide +kernel
theorem dX1_findingAt_4 : decode cX1_findingAt 4 = .ok (.iload_n 1, 1) := by decide +kernel
theorem dX1_findingAt_5 : decode cX1_findingAt 5 = .ok (.iaload, 1) := by decide +kernel
theorem dX1_findingAt_6 : decode cX1_findingAt 6 = .ok (.iconst (-1), 1) := by decide +kernel
theorem dX1_findingAt_7 : decode cX1_findingAt 7 = .ok (.if_icmp .ne 5, 3) := by decide +kernel
theorem dX1_findingAt_10 : decode cX1_findingAt 10 = .ok (.iconst 1, 1) := by decide +kernel
theorem dX1_findingAt_11 : decode cX1_findingAt 11 = .ok (.ireturn, 1) := by decide +kernel
theorem dX1_findingAt_12 : decode cX1_findingAt 12 = .ok (.aload_n 0, 1) := by decide +kernel
theorem dX1_findingAt_13 : decode cX1_findingAt 13 = .ok (.getfield 16, 3) := by decide +kernel
theorem dX1_findingAt_16 : decode cX1_findingAt 16 = .ok (.iload_n 1, 1) := by decide +kernel
theorem dX1_findingAt_17 : decode cX1_findingAt 17 = .ok (.iaload, 1) := by decide +kernel
theorem dX1_findingAt_18 : decode cX1_findingAt 18 = .ok (.iload_n 2, 1) := by decide +kernel
theorem dX1_findingAt_19 : decode cX1_findingAt 19 = .ok (.if_icmp .eq 5, 3) := by decide +kernel
theorem dX1_findingAt_22 : decode cX1_findingAt 22 = .ok (.iconst 3, 1) := by decide +kernel
theorem dX1_findingAt_23 : decode cX1_findingAt 23 = .ok (.ireturn, 1) := by decide +kernel
theorem dX1_findingAt_24 : decode cX1_findingAt 24 = .ok (.iload_n 3, 1) := by decide +kernel
theorem dX1_findingAt_25 : decode cX1_findingAt 25 = .ok (.aload_n 0, 1) := by decide +kernel
theorem dX1_findingAt_26 : decode cX1_findingAt 26 = .ok (.getfield 20, 3) := by decide +kernel
theorem dX1_findingAt_29 : decode cX1_findingAt 29 = .ok (.iload_n 1, 1) := by decide +kernel
theorem dX1_findingAt_30 : decode cX1_findingAt 30 = .ok (.iaload, 1) := by decide +kernel
theorem dX1_findingAt_31 : decode cX1_findingAt 31 = .ok (.invokestatic 29, 3) := by decide +kernel
theorem dX1_findingAt_34 : decode cX1_findingAt 34 = .ok (.ifCond .eq 7, 3) := by decide +kernel
theorem dX1_findingAt_37 : decode cX1_findingAt 37 = .ok (.iconst 0, 1) := by decide +kernel
theorem dX1_findingAt_38 : decode cX1_findingAt 38 = .ok (.goto 4, 3) := by decide +kernel
theorem dX1_findingAt_41 : decode cX1_findingAt 41 = .ok (.iconst 2, 1) := by decide +kernel
theorem dX1_findingAt_42 : decode cX1_findingAt 42 = .ok (.ireturn, 1) := by decide +kernel
theorem dX1_hasItems_0 : decode cX1_hasItems 0 = .ok (.iload_n 2, 1) := by decide +kernel
theorem dX1_hasItems_1 : decode cX1_hasItems 1 = .ok (.ifCond .lt 33, 3) := by decide +kernel
theorem dX1_hasItems_4 : decode cX1_hasItems 4 = .ok (.iload_n 3, 1) := by decide +kernel
theorem dX1_hasItems_5 : decode cX1_hasItems 5 = .ok (.ifCond .lt 29, 3) := by decide +kernel
theorem dX1_hasItems_8 : decode cX1_hasItems 8 = .ok (.iload_n 3, 1) := by decide +kernel
theorem dX1_hasItems_9 : decode cX1_hasItems 9 = .ok (.aload_n 0, 1) := by decide +kernel
theorem dX1_hasItems_10 : decode cX1_hasItems 10 = .ok (.getfield 20, 3) := by decide +kernel
theorem dX1_hasItems_13 : decode cX1_hasItems 13 = .ok (.iload_n 1, 1) := by decide +kernel
theorem dX1_hasItems_14 : decode cX1_hasItems 14 = .ok (.iaload, 1) := by decide +kernel
theorem dX1_hasItems_15 : decode cX1_hasItems 15 = .ok (.if_icmp .gt 19, 3) := by decide +kernel
theorem dX1_hasItems_18 : decode cX1_hasItems 18 = .ok (.iload_n 2, 1) := by decide +kernel
theorem dX1_hasItems_19 : decode cX1_hasItems 19 = .ok (.aload_n 0, 1) := by decide +kernel
theorem dX1_hasItems_20 : decode cX1_hasItems 20 = .ok (.getfield 20, 3) := by decide +kernel
theorem dX1_hasItems_23 : decode cX1_hasItems 23 = .ok (.iload_n 1, 1) := by decide +kernel
theorem dX1_hasItems_24 : decode cX1_hasItems 24 = .ok (.iaload, 1) := by decide +kernel
theorem dX1_hasItems_25 : decode cX1_hasItems 25 = .ok (.iload_n 3, 1) := by decide +kernel
theorem dX1_hasItems_26 : decode cX1_hasItems 26 = .ok (.isub, 1) := by decide +kernel
theorem dX1_hasItems_27 : decode cX1_hasItems 27 = .ok (.if_icmp .gt 7, 3) := by decide +kernel
theorem dX1_hasItems_30 : decode cX1_hasItems 30 = .ok (.iconst 1, 1) := by decide +kernel
theorem dX1_hasItems_31 : decode cX1_hasItems 31 = .ok (.goto 4, 3) := by decide +kernel
theorem dX1_hasItems_34 : decode cX1_hasItems 34 = .ok (.iconst 0, 1) := by decide +kernel
theorem dX1_hasItems_35 : decode cX1_hasItems 35 = .ok (.ireturn, 1) := by decide +kernel
theorem dX1_setItem_0 : decode cX1_setItem 0 = .ok (.aload_n 0, 1) := by decide +kernel
theorem dX1_setItem_1 : decode cX1_setItem 1 = .ok (.getfield 11, 3) := by decide +kernel
theorem dX1_setItem_4 : decode cX1_setItem 4 = .ok (.iload_n 1, 1) := by decide +kernel
theorem dX1_setItem_5 : decode cX1_setItem 5 = .ok (.aaload, 1) := by decide +kernel
theorem dX1_setItem_6 : decode cX1_setItem 6 = .ok (.iload_n 2, 1) := by decide +kernel
theorem dX1_setItem_7 : decode cX1_setItem 7 = .ok (.aload_n 0, 1) := by decide +kernel
theorem dX1_setItem_8 : decode cX1_setItem 8 = .ok (.getfield 16, 3) := by decide +kernel
theorem dX1_setItem_11 : decode cX1_setItem 11 = .ok (.iload_n 1, 1) := by decide +kernel
theorem dX1_setItem_12 : decode cX1_setItem 12 = .ok (.iaload, 1) := by decide +kernel
theorem dX1_setItem_13 : decode cX1_setItem 13 = .ok (.ifCond .ne 8, 3) := by decide +kernel
theorem dX1_setItem_16 : decode cX1_setItem 16 = .ok (.iload_n 3, 1) := by decide +kernel
theorem dX1_setItem_17 : decode cX1_setItem 17 = .ok (.i2b, 1) := by decide +kernel
theorem dX1_setItem_18 : decode cX1_setItem 18 = .ok (.goto 19, 3) := by decide +kernel
theorem dX1_setItem_21 : decode cX1_setItem 21 = .ok (.aload_n 0, 1) := by decide +kernel
theorem dX1_setItem_22 : decode cX1_setItem 22 = .ok (.getfield 16, 3) := by decide +kernel
theorem dX1_setItem_25 : decode cX1_setItem 25 = .ok (.iload_n 1, 1) := by decide +kernel
theorem dX1_setItem_26 : decode cX1_setItem 26 = .ok (.iaload, 1) := by decide +kernel
theorem dX1_setItem_27 : decode cX1_setItem 27 = .ok (.iconst 1, 1) := by decide +kernel
theorem dX1_setItem_28 : decode cX1_setItem 28 = .ok (.if_icmp .ne 8, 3) := by decide +kernel
theorem dX1_setItem_31 : decode cX1_setItem 31 = .ok (.iload_n 3, 1) := by decide +kernel
theorem dX1_setItem_32 : decode cX1_setItem 32 = .ok (.i2s, 1) := by decide +kernel
theorem dX1_setItem_33 : decode cX1_setItem 33 = .ok (.goto 4, 3) := by decide +kernel
theorem dX1_setItem_36 : decode cX1_setItem 36 = .ok (.iload_n 3, 1) := by decide +kernel
theorem dX1_setItem_37 : decode cX1_setItem 37 = .ok (.iastore, 1) := by decide +kernel
theorem dX1_setItem_38 : decode cX1_setItem 38 = .ok (.return_, 1) := by decide +kernel
theorem dX2_init_0 : decode cX2_init 0 = .ok (.aload_n 0, 1) := by decide +kernel
theorem dX2_init_1 : decode cX2_init 1 = .ok (.invokespecial 3, 3) := by decide +kernel
theorem dX2_init_4 : decode cX2_init 4 = .ok (.aload_n 0, 1) := by decide +kernel
theorem dX2_init_5 : decode cX2_init 5 = .ok (.bipush 8, 2) := by decide +kernel
theorem dX2_init_7 : decode cX2_init 7 = .ok (.newarray .int, 2) := by decide +kernel
theorem dX2_init_9 : decode cX2_init 9 = .ok (.putfield 9, 3) := by decide +kernel
theorem dX2_init_12 : decode cX2_init 12 = .ok (.aload_n 0, 1) := by decide +kernel
theorem dX2_init_13 : decode cX2_init 13 = .ok (.bipush 8, 2) := by decide +kernel
theorem dX2_init_15 : decode cX2_init 15 = .ok (.newarray .int, 2) := by decide +kernel
theorem dX2_init_17 : decode cX2_init 17 = .ok (.putfield 15, 3) := by decide +kernel
theorem dX2_init_20 : decode cX2_init 20 = .ok (.aload_n 0, 1) := by decide +kernel
theorem dX2_init_21 : decode cX2_init 21 = .ok (.bipush 64, 2) := by decide +kernel
theorem dX2_init_23 : decode cX2_init 23 = .ok (.newarray .int, 2) := by decide +kernel
theorem dX2_init_25 : decode cX2_init 25 = .ok (.putfield 18, 3) := by decide +kernel
theorem dX2_init_28 : decode cX2_init 28 = .ok (.aload_n 0, 1) := by decide +kernel
theorem dX2_init_29 : decode cX2_init 29 = .ok (.sipush 256, 3) := by decide +kernel
theorem dX2_init_32 : decode cX2_init 32 = .ok (.newarray .int, 2) := by decide +kernel
theorem dX2_init_34 : decode cX2_init 34 = .ok (.putfield 21, 3) := by decide +kernel
theorem dX2_init_37 : decode cX2_init 37 = .ok (.aload_n 0, 1) := by decide +kernel
theorem dX2_init_38 : decode cX2_init 38 = .ok (.iconst 0, 1) := by decide +kernel
theorem dX2_init_39 : decode cX2_init 39 = .ok (.putfield 24, 3) := by decide +kernel
theorem dX2_init_42 : decode cX2_init 42 = .ok (.aload_n 0, 1) := by decide +kernel
theorem dX2_init_43 : decode cX2_init 43 = .ok (.iconst (-1), 1) := by decide +kernel
theorem dX2_init_44 : decode cX2_init 44 = .ok (.putfield 28, 3) := by decide +kernel
theorem dX2_init_47 : decode cX2_init 47 = .ok (.return_, 1) := by decide +kernel
theorem dX2_takeFrom_0 : decode cX2_takeFrom 0 = .ok (.aload_n 0, 1) := by decide +kernel
theorem dX2_takeFrom_1 : decode cX2_takeFrom 1 = .ok (.aload_n 1, 1) := by decide +kernel
theorem dX2_takeFrom_2 : decode cX2_takeFrom 2 = .ok (.invokevirtual 31, 3) := by decide +kernel
theorem dX2_takeFrom_5 : decode cX2_takeFrom 5 = .ok (.iconst (-1), 1) := by decide +kernel
theorem dX2_takeFrom_6 : decode cX2_takeFrom 6 = .ok (.if_icmp .ne 15, 3) := by decide +kernel
theorem dX2_takeFrom_9 : decode cX2_takeFrom 9 = .ok (.bipush 8, 2) := by decide +kernel
theorem dX2_takeFrom_11 : decode cX2_takeFrom 11 = .ok (.aload_n 1, 1) := by decide +kernel
theorem dX2_takeFrom_12 : decode cX2_takeFrom 12 = .ok (.getfield 37, 3) := by decide +kernel
theorem dX2_takeFrom_15 : decode cX2_takeFrom 15 = .ok (.invokestatic 38, 3) := by decide +kernel
theorem dX2_takeFrom_18 : decode cX2_takeFrom 18 = .ok (.goto 4, 3) := by decide +kernel
theorem dX2_takeFrom_21 : decode cX2_takeFrom 21 = .ok (.iconst 0, 1) := by decide +kernel
theorem dX2_takeFrom_22 : decode cX2_takeFrom 22 = .ok (.putfield 24, 3) := by decide +kernel
theorem dX2_takeFrom_25 : decode cX2_takeFrom 25 = .ok (.iconst 0, 1) := by decide +kernel
theorem dX2_takeFrom_26 : decode cX2_takeFrom 26 = .ok (.istore_n 2, 1) := by decide +kernel
theorem dX2_takeFrom_27 : decode cX2_takeFrom 27 = .ok (.iload_n 2, 1) := by decide +kernel
theorem dX2_takeFrom_28 : decode cX2_takeFrom 28 = .ok (.aload_n 0, 1) := by decide +kernel
theorem dX2_takeFrom_29 : decode cX2_takeFrom 29 = .ok (.getfield 24, 3) := by decide +kernel
theorem dX2_takeFrom_32 : decode cX2_takeFrom 32 = .ok (.if_icmp .ge 24, 3) := by decide +kernel
theorem dX2_takeFrom_35 : decode cX2_takeFrom 35 = .ok (.aload_n 0, 1) := by decide +kernel
theorem dX2_takeFrom_36 : decode cX2_takeFrom 36 = .ok (.getfield 9, 3) := by decide +kernel
theorem dX2_takeFrom_39 : decode cX2_takeFrom 39 = .ok (.iload_n 2, 1) := by decide +kernel
theorem dX2_takeFrom_40 : decode cX2_takeFrom 40 = .ok (.aload_n 1, 1) := by decide +kernel
theorem dX2_takeFrom_41 : decode cX2_takeFrom 41 = .ok (.getfield 44, 3) := by decide +kernel
theorem dX2_takeFrom_44 : decode cX2_takeFrom 44 = .ok (.iload_n 2, 1) := by decide +kernel
theorem dX2_takeFrom_45 : decode cX2_takeFrom 45 = .ok (.iaload, 1) := by decide +kernel
theorem dX2_takeFrom_46 : decode cX2_takeFrom 46 = .ok (.bipush 97, 2) := by decide +kernel
theorem dX2_takeFrom_48 : decode cX2_takeFrom 48 = .ok (.isub, 1) := by decide +kernel
theorem dX2_takeFrom_49 : decode cX2_takeFrom 49 = .ok (.iastore, 1) := by decide +kernel
theorem dX2_takeFrom_50 : decode cX2_takeFrom 50 = .ok (.iinc 2 1, 3) := by decide +kernel
theorem dX2_takeFrom_53 : decode cX2_takeFrom 53 = .ok (.goto (-26), 3) := by decide +kernel
theorem dX2_takeFrom_56 : decode cX2_takeFrom 56 = .ok (.return_, 1) := by decide +kernel
theorem dX2_seekLeast_0 : decode cX2_seekLeast 0 = .ok (.aload_n 0, 1) := by decide +kernel
theorem dX2_seekLeast_1 : decode cX2_seekLeast 1 = .ok (.iconst (-1), 1) := by decide +kernel
theorem dX2_seekLeast_2 : decode cX2_seekLeast 2 = .ok (.putfield 28, 3) := by decide +kernel
theorem dX2_seekLeast_5 : decode cX2_seekLeast 5 = .ok (.aload_n 0, 1) := by decide +kernel
theorem dX2_seekLeast_6 : decode cX2_seekLeast 6 = .ok (.getfield 24, 3) := by decide +kernel
theorem dX2_seekLeast_9 : decode cX2_seekLeast 9 = .ok (.aload_n 1, 1) := by decide +kernel
theorem dX2_seekLeast_10 : decode cX2_seekLeast 10 = .ok (.getfield 47, 3) := by decide +kernel
theorem dX2_seekLeast_13 : decode cX2_seekLeast 13 = .ok (.if_icmp .gt 18, 3) := by decide +kernel
theorem dX2_seekLeast_16 : decode cX2_seekLeast 16 = .ok (.aload_n 0, 1) := by decide +kernel
theorem dX2_seekLeast_17 : decode cX2_seekLeast 17 = .ok (.invokevirtual 50, 3) := by decide +kernel
theorem dX2_seekLeast_20 : decode cX2_seekLeast 20 = .ok (.aload_n 1, 1) := by decide +kernel
theorem dX2_seekLeast_21 : decode cX2_seekLeast 21 = .ok (.iconst (-1), 1) := by decide +kernel
theorem dX2_seekLeast_22 : decode cX2_seekLeast 22 = .ok (.invokevirtual 53, 3) := by decide +kernel
theorem dX2_seekLeast_25 : decode cX2_seekLeast 25 = .ok (.iconst (-1), 1) := by decide +kernel
theorem dX2_seekLeast_26 : decode cX2_seekLeast 26 = .ok (.ixor, 1) := by decide +kernel
theorem dX2_seekLeast_27 : decode cX2_seekLeast 27 = .ok (.iand, 1) := by decide +kernel
theorem dX2_seekLeast_28 : decode cX2_seekLeast 28 = .ok (.ifCond .eq 4, 3) := by decide +kernel
theorem dX2_seekLeast_31 : decode cX2_seekLeast 31 = .ok (.return_, 1) := by decide +kernel
theorem dX2_seekLeast_32 : decode cX2_seekLeast 32 = .ok (.iconst 0, 1) := by decide +kernel
theorem dX2_seekLeast_33 : decode cX2_seekLeast 33 = .ok (.istore_n 2, 1) := by decide +kernel
theorem dX2_seekLeast_34 : decode cX2_seekLeast 34 = .ok (.iload_n 2, 1) := by decide +kernel
theorem dX2_seekLeast_35 : decode cX2_seekLeast 35 = .ok (.aload_n 0, 1) := by decide +kernel
theorem dX2_seekLeast_36 : decode cX2_seekLeast 36 = .ok (.getfield 24, 3) := by decide +kernel
theorem dX2_seekLeast_39 : decode cX2_seekLeast 39 = .ok (.if_icmp .ge 65, 3) := by decide +kernel
theorem dX2_seekLeast_42 : decode cX2_seekLeast 42 = .ok (.iconst 0, 1) := by decide +kernel
theorem dX2_seekLeast_43 : decode cX2_seekLeast 43 = .ok (.istore_n 3, 1) := by decide +kernel
theorem dX2_seekLeast_44 : decode cX2_seekLeast 44 = .ok (.iload_n 3, 1) := by decide +kernel
theorem dX2_seekLeast_45 : decode cX2_seekLeast 45 = .ok (.bipush 8, 2) := by decide +kernel
theorem dX2_seekLeast_47 : decode cX2_seekLeast 47 = .ok (.if_icmp .ge 51, 3) := by decide +kernel
theorem dX2_seekLeast_50 : decode cX2_seekLeast 50 = .ok (.aload_n 1, 1) := by decide +kernel
theorem dX2_seekLeast_51 : decode cX2_seekLeast 51 = .ok (.iload_n 3, 1) := by decide +kernel
theorem dX2_seekLeast_52 : decode cX2_seekLeast 52 = .ok (.aload_n 0, 1) := by decide +kernel
theorem dX2_seekLeast_53 : decode cX2_seekLeast 53 = .ok (.getfield 9, 3) := by decide +kernel
theorem dX2_seekLeast_56 : decode cX2_seekLeast 56 = .ok (.iload_n 2, 1) := by decide +kernel
theorem dX2_seekLeast_57 : decode cX2_seekLeast 57 = .ok (.iaload, 1) := by decide +kernel
theorem dX2_seekLeast_58 : decode cX2_seekLeast 58 = .ok (.invokevirtual 57, 3) := by decide +kernel
theorem dX2_seekLeast_61 : decode cX2_seekLeast 61 = .ok (.istore 4, 2) := by decide +kernel
theorem dX2_seekLeast_63 : decode cX2_seekLeast 63 = .ok (.aload_n 0, 1) := by decide +kernel
theorem dX2_seekLeast_64 : decode cX2_seekLeast 64 = .ok (.getfield 18, 3) := by decide +kernel
theorem dX2_seekLeast_67 : decode cX2_seekLeast 67 = .ok (.bipush 8, 2) := by decide +kernel
theorem dX2_seekLeast_69 : decode cX2_seekLeast 69 = .ok (.iload_n 2, 1) := by decide +kernel
theorem dX2_seekLeast_70 : decode cX2_seekLeast 70 = .ok (.imul, 1) := by decide +kernel
theorem dX2_seekLeast_71 : decode cX2_seekLeast 71 = .ok (.iload_n 3, 1) := by decide +kernel
theorem dX2_seekLeast_72 : decode cX2_seekLeast 72 = .ok (.iadd, 1) := by decide +kernel
theorem dX2_seekLeast_73 : decode cX2_seekLeast 73 = .ok (.iload 4, 2) := by decide +kernel
theorem dX2_seekLeast_75 : decode cX2_seekLeast 75 = .ok (.ifCond .le 14, 3) := by decide +kernel
theorem dX2_seekLeast_78 : decode cX2_seekLeast 78 = .ok (.aload_n 1, 1) := by decide +kernel
theorem dX2_seekLeast_79 : decode cX2_seekLeast 79 = .ok (.iload_n 3, 1) := by decide +kernel
theorem dX2_seekLeast_80 : decode cX2_seekLeast 80 = .ok (.invokevirtual 60, 3) := by decide +kernel
theorem dX2_seekLeast_83 : decode cX2_seekLeast 83 = .ok (.iload 4, 2) := by decide +kernel
theorem dX2_seekLeast_85 : decode cX2_seekLeast 85 = .ok (.isub, 1) := by decide +kernel
theorem dX2_seekLeast_86 : decode cX2_seekLeast 86 = .ok (.goto 5, 3) := by decide +kernel
theorem dX2_seekLeast_89 : decode cX2_seekLeast 89 = .ok (.ldc 63, 2) := by decide +kernel
theorem dX2_seekLeast_91 : decode cX2_seekLeast 91 = .ok (.iastore, 1) := by decide +kernel
theorem dX2_seekLeast_92 : decode cX2_seekLeast 92 = .ok (.iinc 3 1, 3) := by decide +kernel
theorem dX2_seekLeast_95 : decode cX2_seekLeast 95 = .ok (.goto (-51), 3) := by decide +kernel
theorem dX2_seekLeast_98 : decode cX2_seekLeast 98 = .ok (.iinc 2 1, 3) := by decide +kernel
theorem dX2_seekLeast_101 : decode cX2_seekLeast 101 = .ok (.goto (-67), 3) := by decide +kernel
theorem dX2_seekLeast_104 : decode cX2_seekLeast 104 = .ok (.aload_n 0, 1) := by decide +kernel
theorem dX2_seekLeast_105 : decode cX2_seekLeast 105 = .ok (.getfield 21, 3) := by decide +kernel
theorem dX2_seekLeast_108 : decode cX2_seekLeast 108 = .ok (.iconst (-1), 1) := by decide +kernel
theorem dX2_seekLeast_109 : decode cX2_seekLeast 109 = .ok (.invokestatic 64, 3) := by decide +kernel
theorem dX2_seekLeast_112 : decode cX2_seekLeast 112 = .ok (.aload_n 0, 1) := by decide +kernel
theorem dX2_seekLeast_113 : decode cX2_seekLeast 113 = .ok (.iconst 0, 1) := by decide +kernel
theorem dX2_seekLeast_114 : decode cX2_seekLeast 114 = .ok (.iconst 0, 1) := by decide +kernel
theorem dX2_seekLeast_115 : decode cX2_seekLeast 115 = .ok (.invokestatic 70, 3) := by decide +kernel
theorem dX2_seekLeast_118 : decode cX2_seekLeast 118 = .ok (.istore_n 2, 1) := by decide +kernel
theorem dX2_seekLeast_119 : decode cX2_seekLeast 119 = .ok (.aload_n 0, 1) := by decide +kernel
theorem dX2_seekLeast_120 : decode cX2_seekLeast 120 = .ok (.iload_n 2, 1) := by decide +kernel
theorem dX2_seekLeast_121 : decode cX2_seekLeast 121 = .ok (.ldc 63, 2) := by decide +kernel
theorem dX2_seekLeast_123 : decode cX2_seekLeast 123 = .ok (.if_icmp .ge 7, 3) := by decide +kernel
theorem dX2_seekLeast_126 : decode cX2_seekLeast 126 = .ok (.iload_n 2, 1) := by decide +kernel
theorem dX2_seekLeast_127 : decode cX2_seekLeast 127 = .ok (.goto 4, 3) := by decide +kernel
theorem dX2_seekLeast_130 : decode cX2_seekLeast 130 = .ok (.iconst (-1), 1) := by decide +kernel
theorem dX2_seekLeast_131 : decode cX2_seekLeast 131 = .ok (.putfield 28, 3) := by decide +kernel
theorem dX2_seekLeast_134 : decode cX2_seekLeast 134 = .ok (.return_, 1) := by decide +kernel
theorem dX2_seekRow_0 : decode cX2_seekRow 0 = .ok (.aload_n 0, 1) := by decide +kernel
theorem dX2_seekRow_1 : decode cX2_seekRow 1 = .ok (.aload_n 1, 1) := by decide +kernel
theorem dX2_seekRow_2 : decode cX2_seekRow 2 = .ok (.invokevirtual 74, 3) := by decide +kernel
theorem dX2_seekRow_5 : decode cX2_seekRow 5 = .ok (.iconst 0, 1) := by decide +kernel
theorem dX2_seekRow_6 : decode cX2_seekRow 6 = .ok (.istore_n 2, 1) := by decide +kernel
theorem dX2_seekRow_7 : decode cX2_seekRow 7 = .ok (.iconst 0, 1) := by decide +kernel
theorem dX2_seekRow_8 : decode cX2_seekRow 8 = .ok (.istore_n 3, 1) := by decide +kernel
theorem dX2_seekRow_9 : decode cX2_seekRow 9 = .ok (.iload_n 3, 1) := by decide +kernel
theorem dX2_seekRow_10 : decode cX2_seekRow 10 = .ok (.aload_n 0, 1) := by decide +kernel
theorem dX2_seekRow_11 : decode cX2_seekRow 11 = .ok (.getfield 24, 3) := by decide +kernel
theorem dX2_seekRow_14 : decode cX2_seekRow 14 = .ok (.if_icmp .ge 40, 3) := by decide +kernel
theorem dX2_seekRow_17 : decode cX2_seekRow 17 = .ok (.aload_n 0, 1) := by decide +kernel
theorem dX2_seekRow_18 : decode cX2_seekRow 18 = .ok (.getfield 28, 3) := by decide +kernel
theorem dX2_seekRow_21 : decode cX2_seekRow 21 = .ok (.iconst (-1), 1) := by decide +kernel
theorem dX2_seekRow_22 : decode cX2_seekRow 22 = .ok (.if_icmp .eq 32, 3) := by decide +kernel
theorem dX2_seekRow_25 : decode cX2_seekRow 25 = .ok (.aload_n 0, 1) := by decide +kernel
theorem dX2_seekRow_26 : decode cX2_seekRow 26 = .ok (.getfield 15, 3) := by decide +kernel
theorem dX2_seekRow_29 : decode cX2_seekRow 29 = .ok (.iload_n 3, 1) := by decide +kernel
theorem dX2_seekRow_30 : decode cX2_seekRow 30 = .ok (.aload_n 0, 1) := by decide +kernel
theorem dX2_seekRow_31 : decode cX2_seekRow 31 = .ok (.iload_n 2, 1) := by decide +kernel
theorem dX2_seekRow_32 : decode cX2_seekRow 32 = .ok (.iload_n 3, 1) := by decide +kernel
theorem dX2_seekRow_33 : decode cX2_seekRow 33 = .ok (.invokevirtual 78, 3) := by decide +kernel
theorem dX2_seekRow_36 : decode cX2_seekRow 36 = .ok (.iastore, 1) := by decide +kernel
theorem dX2_seekRow_37 : decode cX2_seekRow 37 = .ok (.iload_n 2, 1) := by decide +kernel
theorem dX2_seekRow_38 : decode cX2_seekRow 38 = .ok (.iconst 1, 1) := by decide +kernel
theorem dX2_seekRow_39 : decode cX2_seekRow 39 = .ok (.aload_n 0, 1) := by decide +kernel
theorem dX2_seekRow_40 : decode cX2_seekRow 40 = .ok (.getfield 15, 3) := by decide +kernel
theorem dX2_seekRow_43 : decode cX2_seekRow 43 = .ok (.iload_n 3, 1) := by decide +kernel
theorem dX2_seekRow_44 : decode cX2_seekRow 44 = .ok (.iaload, 1) := by decide +kernel
theorem dX2_seekRow_45 : decode cX2_seekRow 45 = .ok (.ishl, 1) := by decide +kernel
theorem dX2_seekRow_46 : decode cX2_seekRow 46 = .ok (.ior, 1) := by decide +kernel
theorem dX2_seekRow_47 : decode cX2_seekRow 47 = .ok (.istore_n 2, 1) := by decide +kernel
theorem dX2_seekRow_48 : decode cX2_seekRow 48 = .ok (.iinc 3 1, 3) := by decide +kernel
theorem dX2_seekRow_51 : decode cX2_seekRow 51 = .ok (.goto (-42), 3) := by decide +kernel
theorem dX2_seekRow_54 : decode cX2_seekRow 54 = .ok (.return_, 1) := by decide +kernel
theorem dX2_voices_0 : decode cX2_voices 0 = .ok (.iconst 0, 1) := by decide +kernel
theorem dX2_voices_1 : decode cX2_voices 1 = .ok (.istore_n 1, 1) := by decide +kernel
theorem dX2_voices_2 : decode cX2_voices 2 = .ok (.iconst 0, 1) := by decide +kernel
theorem dX2_voices_3 : decode cX2_voices 3 = .ok (.istore_n 2, 1) := by decide +kernel
theorem dX2_voices_4 : decode cX2_voices 4 = .ok (.iload_n 2, 1) := by decide +kernel
theorem dX2_voices_5 : decode cX2_voices 5 = .ok (.aload_n 0, 1) := by decide +kernel
theorem dX2_voices_6 : decode cX2_voices 6 = .ok (.getfield 24, 3) := by decide +kernel
theorem dX2_voices_9 : decode cX2_voices 9 = .ok (.if_icmp .ge 20, 3) := by decide +kernel
theorem dX2_voices_12 : decode cX2_voices 12 = .ok (.iload_n 1, 1) := by decide +kernel
theorem dX2_voices_13 : decode cX2_voices 13 = .ok (.iconst 1, 1) := by decide +kernel
theorem dX2_voices_14 : decode cX2_voices 14 = .ok (.aload_n 0, 1) := by decide +kernel
theorem dX2_voices_15 : decode cX2_voices 15 = .ok (.getfield 9, 3) := by decide +kernel
theorem dX2_voices_18 : decode cX2_voices 18 = .ok (.iload_n 2, 1) := by decide +kernel
theorem dX2_voices_19 : decode cX2_voices 19 = .ok (.iaload, 1) := by decide +kernel
theorem dX2_voices_20 : decode cX2_voices 20 = .ok (.ishl, 1) := by decide +kernel
theorem dX2_voices_21 : decode cX2_voices 21 = .ok (.ior, 1) := by decide +kernel
theorem dX2_voices_22 : decode cX2_voices 22 = .ok (.istore_n 1, 1) := by decide +kernel
theorem dX2_voices_23 : decode cX2_voices 23 = .ok (.iinc 2 1, 3) := by decide +kernel
theorem dX2_voices_26 : decode cX2_voices 26 = .ok (.goto (-22), 3) := by decide +kernel
theorem dX2_voices_29 : decode cX2_voices 29 = .ok (.iload_n 1, 1) := by decide +kernel
theorem dX2_voices_30 : decode cX2_voices 30 = .ok (.ireturn, 1) := by decide +kernel
theorem dX2_leastFrom_0 : decode cX2_leastFrom 0 = .ok (.iload_n 2, 1) := by decide +kernel
theorem dX2_leastFrom_1 : decode cX2_leastFrom 1 = .ok (.aload_n 0, 1) := by decide +kernel
theorem dX2_leastFrom_2 : decode cX2_leastFrom 2 = .ok (.getfield 24, 3) := by decide +kernel
theorem dX2_leastFrom_5 : decode cX2_leastFrom 5 = .ok (.if_icmp .lt 5, 3) := by decide +kernel
theorem dX2_leastFrom_8 : decode cX2_leastFrom 8 = .ok (.iconst 0, 1) := by decide +kernel
theorem dX2_leastFrom_9 : decode cX2_leastFrom 9 = .ok (.ireturn, 1) := by decide +kernel
theorem dX2_leastFrom_10 : decode cX2_leastFrom 10 = .ok (.aload_n 0, 1) := by decide +kernel
theorem dX2_leastFrom_11 : decode cX2_leastFrom 11 = .ok (.getfield 21, 3) := by decide +kernel
theorem dX2_leastFrom_14 : decode cX2_leastFrom 14 = .ok (.iload_n 1, 1) := by decide +kernel
theorem dX2_leastFrom_15 : decode cX2_leastFrom 15 = .ok (.iaload, 1) := by decide +kernel
theorem dX2_leastFrom_16 : decode cX2_leastFrom 16 = .ok (.iconst (-1), 1) := by decide +kernel
theorem dX2_leastFrom_17 : decode cX2_leastFrom 17 = .ok (.if_icmp .eq 10, 3) := by decide +kernel
theorem dX2_leastFrom_20 : decode cX2_leastFrom 20 = .ok (.aload_n 0, 1) := by decide +kernel
theorem dX2_leastFrom_21 : decode cX2_leastFrom 21 = .ok (.getfield 21, 3) := by decide +kernel
theorem dX2_leastFrom_24 : decode cX2_leastFrom 24 = .ok (.iload_n 1, 1) := by decide +kernel
theorem dX2_leastFrom_25 : decode cX2_leastFrom 25 = .ok (.iaload, 1) := by decide +kernel
theorem dX2_leastFrom_26 : decode cX2_leastFrom 26 = .ok (.ireturn, 1) := by decide +kernel
theorem dX2_leastFrom_27 : decode cX2_leastFrom 27 = .ok (.ldc 63, 2) := by decide +kernel
theorem dX2_leastFrom_29 : decode cX2_leastFrom 29 = .ok (.istore_n 3, 1) := by decide +kernel
theorem dX2_leastFrom_30 : decode cX2_leastFrom 30 = .ok (.iconst 0, 1) := by decide +kernel
theorem dX2_leastFrom_31 : decode cX2_leastFrom 31 = .ok (.istore 4, 2) := by decide +kernel
theorem dX2_leastFrom_33 : decode cX2_leastFrom 33 = .ok (.iload 4, 2) := by decide +kernel
theorem dX2_leastFrom_35 : decode cX2_leastFrom 35 = .ok (.bipush 8, 2) := by decide +kernel
theorem dX2_leastFrom_37 : decode cX2_leastFrom 37 = .ok (.if_icmp .ge 51, 3) := by decide +kernel
theorem dX2_leastFrom_40 : decode cX2_leastFrom 40 = .ok (.aload_n 0, 1) := by decide +kernel
theorem dX2_leastFrom_41 : decode cX2_leastFrom 41 = .ok (.iload_n 1, 1) := by decide +kernel
theorem dX2_leastFrom_42 : decode cX2_leastFrom 42 = .ok (.iload_n 2, 1) := by decide +kernel
theorem dX2_leastFrom_43 : decode cX2_leastFrom 43 = .ok (.iload 4, 2) := by decide +kernel
theorem dX2_leastFrom_45 : decode cX2_leastFrom 45 = .ok (.invokevirtual 81, 3) := by decide +kernel
theorem dX2_leastFrom_48 : decode cX2_leastFrom 48 = .ok (.ifCond .eq 34, 3) := by decide +kernel
theorem dX2_leastFrom_51 : decode cX2_leastFrom 51 = .ok (.iload_n 3, 1) := by decide +kernel
theorem dX2_leastFrom_52 : decode cX2_leastFrom 52 = .ok (.aload_n 0, 1) := by decide +kernel
theorem dX2_leastFrom_53 : decode cX2_leastFrom 53 = .ok (.getfield 18, 3) := by decide +kernel
theorem dX2_leastFrom_56 : decode cX2_leastFrom 56 = .ok (.bipush 8, 2) := by decide +kernel
theorem dX2_leastFrom_58 : decode cX2_leastFrom 58 = .ok (.iload_n 2, 1) := by decide +kernel
theorem dX2_leastFrom_59 : decode cX2_leastFrom 59 = .ok (.imul, 1) := by decide +kernel
theorem dX2_leastFrom_60 : decode cX2_leastFrom 60 = .ok (.iload 4, 2) := by decide +kernel
theorem dX2_leastFrom_62 : decode cX2_leastFrom 62 = .ok (.iadd, 1) := by decide +kernel
theorem dX2_leastFrom_63 : decode cX2_leastFrom 63 = .ok (.iaload, 1) := by decide +kernel
theorem dX2_leastFrom_64 : decode cX2_leastFrom 64 = .ok (.aload_n 0, 1) := by decide +kernel
theorem dX2_leastFrom_65 : decode cX2_leastFrom 65 = .ok (.iload_n 1, 1) := by decide +kernel
theorem dX2_leastFrom_66 : decode cX2_leastFrom 66 = .ok (.iconst 1, 1) := by decide +kernel
theorem dX2_leastFrom_67 : decode cX2_leastFrom 67 = .ok (.iload 4, 2) := by decide +kernel
theorem dX2_leastFrom_69 : decode cX2_leastFrom 69 = .ok (.ishl, 1) := by decide +kernel
theorem dX2_leastFrom_70 : decode cX2_leastFrom 70 = .ok (.ior, 1) := by decide +kernel
theorem dX2_leastFrom_71 : decode cX2_leastFrom 71 = .ok (.iload_n 2, 1) := by decide +kernel
theorem dX2_leastFrom_72 : decode cX2_leastFrom 72 = .ok (.iconst 1, 1) := by decide +kernel
theorem dX2_leastFrom_73 : decode cX2_leastFrom 73 = .ok (.iadd, 1) := by decide +kernel
theorem dX2_leastFrom_74 : decode cX2_leastFrom 74 = .ok (.invokestatic 70, 3) := by decide +kernel
theorem dX2_leastFrom_77 : decode cX2_leastFrom 77 = .ok (.iadd, 1) := by decide +kernel
theorem dX2_leastFrom_78 : decode cX2_leastFrom 78 = .ok (.invokestatic 38, 3) := by decide +kernel
theorem dX2_leastFrom_81 : decode cX2_leastFrom 81 = .ok (.istore_n 3, 1) := by decide +kernel
theorem dX2_leastFrom_82 : decode cX2_leastFrom 82 = .ok (.iinc 4 1, 3) := by decide +kernel
theorem dX2_leastFrom_85 : decode cX2_leastFrom 85 = .ok (.goto (-52), 3) := by decide +kernel
theorem dX2_leastFrom_88 : decode cX2_leastFrom 88 = .ok (.aload_n 0, 1) := by decide +kernel
theorem dX2_leastFrom_89 : decode cX2_leastFrom 89 = .ok (.getfield 21, 3) := by decide +kernel
theorem dX2_leastFrom_92 : decode cX2_leastFrom 92 = .ok (.iload_n 1, 1) := by decide +kernel
theorem dX2_leastFrom_93 : decode cX2_leastFrom 93 = .ok (.iload_n 3, 1) := by decide +kernel
theorem dX2_leastFrom_94 : decode cX2_leastFrom 94 = .ok (.iastore, 1) := by decide +kernel
theorem dX2_leastFrom_95 : decode cX2_leastFrom 95 = .ok (.iload_n 3, 1) := by decide +kernel
theorem dX2_leastFrom_96 : decode cX2_leastFrom 96 = .ok (.ireturn, 1) := by decide +kernel
theorem dX2_leastNext_0 : decode cX2_leastNext 0 = .ok (.aload_n 0, 1) := by decide +kernel
theorem dX2_leastNext_1 : decode cX2_leastNext 1 = .ok (.iload_n 1, 1) := by decide +kernel
theorem dX2_leastNext_2 : decode cX2_leastNext 2 = .ok (.iload_n 2, 1) := by decide +kernel
theorem dX2_leastNext_3 : decode cX2_leastNext 3 = .ok (.invokestatic 70, 3) := by decide +kernel
theorem dX2_leastNext_6 : decode cX2_leastNext 6 = .ok (.istore_n 3, 1) := by decide +kernel
theorem dX2_leastNext_7 : decode cX2_leastNext 7 = .ok (.iconst 0, 1) := by decide +kernel
theorem dX2_leastNext_8 : decode cX2_leastNext 8 = .ok (.istore 4, 2) := by decide +kernel
theorem dX2_leastNext_10 : decode cX2_leastNext 10 = .ok (.iload 4, 2) := by decide +kernel
theorem dX2_leastNext_12 : decode cX2_leastNext 12 = .ok (.bipush 8, 2) := by decide +kernel
theorem dX2_leastNext_14 : decode cX2_leastNext 14 = .ok (.if_icmp .ge 53, 3) := by decide +kernel
theorem dX2_leastNext_17 : decode cX2_leastNext 17 = .ok (.aload_n 0, 1) := by decide +kernel
theorem dX2_leastNext_18 : decode cX2_leastNext 18 = .ok (.iload_n 1, 1) := by decide +kernel
theorem dX2_leastNext_19 : decode cX2_leastNext 19 = .ok (.iload_n 2, 1) := by decide +kernel
theorem dX2_leastNext_20 : decode cX2_leastNext 20 = .ok (.iload 4, 2) := by decide +kernel
theorem dX2_leastNext_22 : decode cX2_leastNext 22 = .ok (.invokevirtual 81, 3) := by decide +kernel
theorem dX2_leastNext_25 : decode cX2_leastNext 25 = .ok (.ifCond .eq 36, 3) := by decide +kernel
theorem dX2_leastNext_28 : decode cX2_leastNext 28 = .ok (.aload_n 0, 1) := by decide +kernel
theorem dX2_leastNext_29 : decode cX2_leastNext 29 = .ok (.getfield 18, 3) := by decide +kernel
theorem dX2_leastNext_32 : decode cX2_leastNext 32 = .ok (.bipush 8, 2) := by decide +kernel
theorem dX2_leastNext_34 : decode cX2_leastNext 34 = .ok (.iload_n 2, 1) := by decide +kernel
theorem dX2_leastNext_35 : decode cX2_leastNext 35 = .ok (.imul, 1) := by decide +kernel
theorem dX2_leastNext_36 : decode cX2_leastNext 36 = .ok (.iload 4, 2) := by decide +kernel
theorem dX2_leastNext_38 : decode cX2_leastNext 38 = .ok (.iadd, 1) := by decide +kernel
theorem dX2_leastNext_39 : decode cX2_leastNext 39 = .ok (.iaload, 1) := by decide +kernel
theorem dX2_leastNext_40 : decode cX2_leastNext 40 = .ok (.aload_n 0, 1) := by decide +kernel
theorem dX2_leastNext_41 : decode cX2_leastNext 41 = .ok (.iload_n 1, 1) := by decide +kernel
theorem dX2_leastNext_42 : decode cX2_leastNext 42 = .ok (.iconst 1, 1) := by decide +kernel
theorem dX2_leastNext_43 : decode cX2_leastNext 43 = .ok (.iload 4, 2) := by decide +kernel
theorem dX2_leastNext_45 : decode cX2_leastNext 45 = .ok (.ishl, 1) := by decide +kernel
theorem dX2_leastNext_46 : decode cX2_leastNext 46 = .ok (.ior, 1) := by decide +kernel
theorem dX2_leastNext_47 : decode cX2_leastNext 47 = .ok (.iload_n 2, 1) := by decide +kernel
theorem dX2_leastNext_48 : decode cX2_leastNext 48 = .ok (.iconst 1, 1) := by decide +kernel
theorem dX2_leastNext_49 : decode cX2_leastNext 49 = .ok (.iadd, 1) := by decide +kernel
theorem dX2_leastNext_50 : decode cX2_leastNext 50 = .ok (.invokestatic 70, 3) := by decide +kernel
theorem dX2_leastNext_53 : decode cX2_leastNext 53 = .ok (.iadd, 1) := by decide +kernel
theorem dX2_leastNext_54 : decode cX2_leastNext 54 = .ok (.iload_n 3, 1) := by decide +kernel
theorem dX2_leastNext_55 : decode cX2_leastNext 55 = .ok (.if_icmp .ne 6, 3) := by decide +kernel
theorem dX2_leastNext_58 : decode cX2_leastNext 58 = .ok (.iload 4, 2) := by decide +kernel
theorem dX2_leastNext_60 : decode cX2_leastNext 60 = .ok (.ireturn, 1) := by decide +kernel
theorem dX2_leastNext_61 : decode cX2_leastNext 61 = .ok (.iinc 4 1, 3) := by decide +kernel
theorem dX2_leastNext_64 : decode cX2_leastNext 64 = .ok (.goto (-54), 3) := by decide +kernel
theorem dX2_leastNext_67 : decode cX2_leastNext 67 = .ok (.iconst 0, 1) := by decide +kernel
theorem dX2_leastNext_68 : decode cX2_leastNext 68 = .ok (.ireturn, 1) := by decide +kernel
theorem dX2_isFree_0 : decode cX2_isFree 0 = .ok (.iload_n 1, 1) := by decide +kernel
theorem dX2_isFree_1 : decode cX2_isFree 1 = .ok (.iload_n 3, 1) := by decide +kernel
theorem dX2_isFree_2 : decode cX2_isFree 2 = .ok (.ishr, 1) := by decide +kernel
theorem dX2_isFree_3 : decode cX2_isFree 3 = .ok (.iconst 1, 1) := by decide +kernel
theorem dX2_isFree_4 : decode cX2_isFree 4 = .ok (.iand, 1) := by decide +kernel
theorem dX2_isFree_5 : decode cX2_isFree 5 = .ok (.ifCond .ne 23, 3) := by decide +kernel
theorem dX2_isFree_8 : decode cX2_isFree 8 = .ok (.aload_n 0, 1) := by decide +kernel
theorem dX2_isFree_9 : decode cX2_isFree 9 = .ok (.getfield 18, 3) := by decide +kernel
theorem dX2_isFree_12 : decode cX2_isFree 12 = .ok (.bipush 8, 2) := by decide +kernel
theorem dX2_isFree_14 : decode cX2_isFree 14 = .ok (.iload_n 2, 1) := by decide +kernel
theorem dX2_isFree_15 : decode cX2_isFree 15 = .ok (.imul, 1) := by decide +kernel
theorem dX2_isFree_16 : decode cX2_isFree 16 = .ok (.iload_n 3, 1) := by decide +kernel
theorem dX2_isFree_17 : decode cX2_isFree 17 = .ok (.iadd, 1) := by decide +kernel
theorem dX2_isFree_18 : decode cX2_isFree 18 = .ok (.iaload, 1) := by decide +kernel
theorem dX2_isFree_19 : decode cX2_isFree 19 = .ok (.ldc 63, 2) := by decide +kernel
theorem dX2_isFree_21 : decode cX2_isFree 21 = .ok (.if_icmp .ge 7, 3) := by decide +kernel
theorem dX2_isFree_24 : decode cX2_isFree 24 = .ok (.iconst 1, 1) := by decide +kernel
theorem dX2_isFree_25 : decode cX2_isFree 25 = .ok (.goto 4, 3) := by decide +kernel
theorem dX2_isFree_28 : decode cX2_isFree 28 = .ok (.iconst 0, 1) := by decide +kernel
theorem dX2_isFree_29 : decode cX2_isFree 29 = .ok (.ireturn, 1) := by decide +kernel
theorem dX3_init_0 : decode cX3_init 0 = .ok (.aload_n 0, 1) := by decide +kernel
theorem dX3_init_1 : decode cX3_init 1 = .ok (.invokespecial 3, 3) := by decide +kernel
theorem dX3_init_4 : decode cX3_init 4 = .ok (.aload_n 0, 1) := by decide +kernel
theorem dX3_init_5 : decode cX3_init 5 = .ok (.bipush 8, 2) := by decide +kernel
theorem dX3_init_7 : decode cX3_init 7 = .ok (.newarray .int, 2) := by decide +kernel
theorem dX3_init_9 : decode cX3_init 9 = .ok (.putfield 9, 3) := by decide +kernel
theorem dX3_init_12 : decode cX3_init 12 = .ok (.aload_n 0, 1) := by decide +kernel
theorem dX3_init_13 : decode cX3_init 13 = .ok (.bipush 8, 2) := by decide +kernel
theorem dX3_init_15 : decode cX3_init 15 = .ok (.newarray .int, 2) := by decide +kernel
theorem dX3_init_17 : decode cX3_init 17 = .ok (.putfield 15, 3) := by decide +kernel
theorem dX3_init_20 : decode cX3_init 20 = .ok (.aload_n 0, 1) := by decide +kernel
theorem dX3_init_21 : decode cX3_init 21 = .ok (.bipush 8, 2) := by decide +kernel
theorem dX3_init_23 : decode cX3_init 23 = .ok (.newarray .int, 2) := by decide +kernel
theorem dX3_init_25 : decode cX3_init 25 = .ok (.putfield 18, 3) := by decide +kernel
theorem dX3_init_28 : decode cX3_init 28 = .ok (.aload_n 0, 1) := by decide +kernel
theorem dX3_init_29 : decode cX3_init 29 = .ok (.bipush 8, 2) := by decide +kernel
theorem dX3_init_31 : decode cX3_init 31 = .ok (.newarray .int, 2) := by decide +kernel
theorem dX3_init_33 : decode cX3_init 33 = .ok (.putfield 21, 3) := by decide +kernel
theorem dX3_init_36 : decode cX3_init 36 = .ok (.aload_n 0, 1) := by decide +kernel
theorem dX3_init_37 : decode cX3_init 37 = .ok (.bipush 8, 2) := by decide +kernel
theorem dX3_init_39 : decode cX3_init 39 = .ok (.newarray .int, 2) := by decide +kernel
theorem dX3_init_41 : decode cX3_init 41 = .ok (.putfield 24, 3) := by decide +kernel
theorem dX3_init_44 : decode cX3_init 44 = .ok (.aload_n 0, 1) := by decide +kernel
theorem dX3_init_45 : decode cX3_init 45 = .ok (.bipush 8, 2) := by decide +kernel
theorem dX3_init_47 : decode cX3_init 47 = .ok (.newarray .int, 2) := by decide +kernel
theorem dX3_init_49 : decode cX3_init 49 = .ok (.putfield 27, 3) := by decide +kernel
theorem dX3_init_52 : decode cX3_init 52 = .ok (.aload_n 0, 1) := by decide +kernel
theorem dX3_init_53 : decode cX3_init 53 = .ok (.bipush 8, 2) := by decide +kernel
theorem dX3_init_55 : decode cX3_init 55 = .ok (.newarray .int, 2) := by decide +kernel
theorem dX3_init_57 : decode cX3_init 57 = .ok (.putfield 30, 3) := by decide +kernel
theorem dX3_init_60 : decode cX3_init 60 = .ok (.aload_n 0, 1) := by decide +kernel
theorem dX3_init_61 : decode cX3_init 61 = .ok (.iconst 0, 1) := by decide +kernel
theorem dX3_init_62 : decode cX3_init 62 = .ok (.putfield 33, 3) := by decide +kernel
theorem dX3_init_65 : decode cX3_init 65 = .ok (.aload_n 0, 1) := by decide +kernel
theorem dX3_init_66 : decode cX3_init 66 = .ok (.iconst 0, 1) := by decide +kernel
theorem dX3_init_67 : decode cX3_init 67 = .ok (.putfield 37, 3) := by decide +kernel
theorem dX3_init_70 : decode cX3_init 70 = .ok (.aload_n 0, 1) := by decide +kernel
theorem dX3_init_71 : decode cX3_init 71 = .ok (.iconst 0, 1) := by decide +kernel
theorem dX3_init_72 : decode cX3_init 72 = .ok (.putfield 40, 3) := by decide +kernel
theorem dX3_init_75 : decode cX3_init 75 = .ok (.aload_n 0, 1) := by decide +kernel
theorem dX3_init_76 : decode cX3_init 76 = .ok (.iconst 0, 1) := by decide +kernel
theorem dX3_init_77 : decode cX3_init 77 = .ok (.putfield 43, 3) := by decide +kernel
theorem dX3_init_80 : decode cX3_init 80 = .ok (.aload_n 0, 1) := by decide +kernel
theorem dX3_init_81 : decode cX3_init 81 = .ok (.iconst 0, 1) := by decide +kernel
theorem dX3_init_82 : decode cX3_init 82 = .ok (.putfield 46, 3) := by decide +kernel
theorem dX3_init_85 : decode cX3_init 85 = .ok (.aload_n 0, 1) := by decide +kernel
theorem dX3_init_86 : decode cX3_init 86 = .ok (.iconst (-1), 1) := by decide +kernel
theorem dX3_init_87 : decode cX3_init 87 = .ok (.putfield 49, 3) := by decide +kernel
theorem dX3_init_90 : decode cX3_init 90 = .ok (.return_, 1) := by decide +kernel
theorem dX3_begin_0 : decode cX3_begin 0 = .ok (.aload_n 0, 1) := by decide +kernel
theorem dX3_begin_1 : decode cX3_begin 1 = .ok (.aload_n 1, 1) := by decide +kernel
theorem dX3_begin_2 : decode cX3_begin 2 = .ok (.getfield 52, 3) := by decide +kernel
theorem dX3_begin_5 : decode cX3_begin 5 = .ok (.putfield 33, 3) := by decide +kernel
theorem dX3_begin_8 : decode cX3_begin 8 = .ok (.aload_n 0, 1) := by decide +kernel
theorem dX3_begin_9 : decode cX3_begin 9 = .ok (.iconst 0, 1) := by decide +kernel
theorem dX3_begin_10 : decode cX3_begin 10 = .ok (.putfield 37, 3) := by decide +kernel
theorem dX3_begin_13 : decode cX3_begin 13 = .ok (.iconst 0, 1) := by decide +kernel
theorem dX3_begin_14 : decode cX3_begin 14 = .ok (.istore 4, 2) := by decide +kernel
theorem dX3_begin_16 : decode cX3_begin 16 = .ok (.iload 4, 2) := by decide +kernel
theorem dX3_begin_18 : decode cX3_begin 18 = .ok (.aload_n 0, 1) := by decide +kernel
theorem dX3_begin_19 : decode cX3_begin 19 = .ok (.getfield 33, 3) := by decide +kernel
theorem dX3_begin_22 : decode cX3_begin 22 = .ok (.if_icmp .ge 113, 3) := by decide +kernel
theorem dX3_begin_25 : decode cX3_begin 25 = .ok (.iload 4, 2) := by decide +kernel
theorem dX3_begin_27 : decode cX3_begin 27 = .ok (.iload_n 2, 1) := by decide +kernel
theorem dX3_begin_28 : decode cX3_begin 28 = .ok (.if_icmp .ne 7, 3) := by decide +kernel
theorem dX3_begin_31 : decode cX3_begin 31 = .ok (.iload_n 3, 1) := by decide +kernel
theorem dX3_begin_32 : decode cX3_begin 32 = .ok (.goto 15, 3) := by decide +kernel
theorem dX3_begin_35 : decode cX3_begin 35 = .ok (.iload 4, 2) := by decide +kernel
theorem dX3_begin_37 : decode cX3_begin 37 = .ok (.iload_n 3, 1) := by decide +kernel
theorem dX3_begin_38 : decode cX3_begin 38 = .ok (.if_icmp .ne 7, 3) := by decide +kernel
theorem dX3_begin_41 : decode cX3_begin 41 = .ok (.iload_n 2, 1) := by decide +kernel
theorem dX3_begin_42 : decode cX3_begin 42 = .ok (.goto 5, 3) := by decide +kernel
theorem dX3_begin_45 : decode cX3_begin 45 = .ok (.iload 4, 2) := by decide +kernel
theorem dX3_begin_47 : decode cX3_begin 47 = .ok (.istore 5, 2) := by decide +kernel
theorem dX3_begin_49 : decode cX3_begin 49 = .ok (.aload_n 0, 1) := by decide +kernel
theorem dX3_begin_50 : decode cX3_begin 50 = .ok (.getfield 9, 3) := by decide +kernel
theorem dX3_begin_53 : decode cX3_begin 53 = .ok (.iload 4, 2) := by decide +kernel
theorem dX3_begin_55 : decode cX3_begin 55 = .ok (.aload_n 1, 1) := by decide +kernel
theorem dX3_begin_56 : decode cX3_begin 56 = .ok (.getfield 55, 3) := by decide +kernel
theorem dX3_begin_59 : decode cX3_begin 59 = .ok (.iload 5, 2) := by decide +kernel
theorem dX3_begin_61 : decode cX3_begin 61 = .ok (.iaload, 1) := by decide +kernel
theorem dX3_begin_62 : decode cX3_begin 62 = .ok (.iastore, 1) := by decide +kernel
theorem dX3_begin_63 : decode cX3_begin 63 = .ok (.aload_n 0, 1) := by decide +kernel
theorem dX3_begin_64 : decode cX3_begin 64 = .ok (.getfield 15, 3) := by decide +kernel
theorem dX3_begin_67 : decode cX3_begin 67 = .ok (.iload 4, 2) := by decide +kernel
theorem dX3_begin_69 : decode cX3_begin 69 = .ok (.aload_n 1, 1) := by decide +kernel
theorem dX3_begin_70 : decode cX3_begin 70 = .ok (.getfield 56, 3) := by decide +kernel
theorem dX3_begin_73 : decode cX3_begin 73 = .ok (.iload 5, 2) := by decide +kernel
theorem dX3_begin_75 : decode cX3_begin 75 = .ok (.iaload, 1) := by decide +kernel
theorem dX3_begin_76 : decode cX3_begin 76 = .ok (.iastore, 1) := by decide +kernel
theorem dX3_begin_77 : decode cX3_begin 77 = .ok (.aload_n 0, 1) := by decide +kernel
theorem dX3_begin_78 : decode cX3_begin 78 = .ok (.getfield 18, 3) := by decide +kernel
theorem dX3_begin_81 : decode cX3_begin 81 = .ok (.iload 4, 2) := by decide +kernel
theorem dX3_begin_83 : decode cX3_begin 83 = .ok (.iload 4, 2) := by decide +kernel
theorem dX3_begin_85 : decode cX3_begin 85 = .ok (.iastore, 1) := by decide +kernel
theorem dX3_begin_86 : decode cX3_begin 86 = .ok (.aload_n 0, 1) := by decide +kernel
theorem dX3_begin_87 : decode cX3_begin 87 = .ok (.getfield 21, 3) := by decide +kernel
theorem dX3_begin_90 : decode cX3_begin 90 = .ok (.iload 4, 2) := by decide +kernel
theorem dX3_begin_92 : decode cX3_begin 92 = .ok (.aload_n 1, 1) := by decide +kernel
theorem dX3_begin_93 : decode cX3_begin 93 = .ok (.getfield 59, 3) := by decide +kernel
theorem dX3_begin_96 : decode cX3_begin 96 = .ok (.iload 5, 2) := by decide +kernel
theorem dX3_begin_98 : decode cX3_begin 98 = .ok (.iaload, 1) := by decide +kernel
theorem dX3_begin_99 : decode cX3_begin 99 = .ok (.iastore, 1) := by decide +kernel
theorem dX3_begin_100 : decode cX3_begin 100 = .ok (.aload_n 0, 1) := by decide +kernel
theorem dX3_begin_101 : decode cX3_begin 101 = .ok (.getfield 24, 3) := by decide +kernel
theorem dX3_begin_104 : decode cX3_begin 104 = .ok (.iload 4, 2) := by decide +kernel
theorem dX3_begin_106 : decode cX3_begin 106 = .ok (.iconst 0, 1) := by decide +kernel
theorem dX3_begin_107 : decode cX3_begin 107 = .ok (.iastore, 1) := by decide +kernel
theorem dX3_begin_108 : decode cX3_begin 108 = .ok (.aload_n 0, 1) := by decide +kernel
theorem dX3_begin_109 : decode cX3_begin 109 = .ok (.dup, 1) := by decide +kernel
theorem dX3_begin_110 : decode cX3_begin 110 = .ok (.getfield 37, 3) := by decide +kernel
theorem dX3_begin_113 : decode cX3_begin 113 = .ok (.aload_n 1, 1) := by decide +kernel
theorem dX3_begin_114 : decode cX3_begin 114 = .ok (.getfield 60, 3) := by decide +kernel
theorem dX3_begin_117 : decode cX3_begin 117 = .ok (.iload 5, 2) := by decide +kernel
theorem dX3_begin_119 : decode cX3_begin 119 = .ok (.ishr, 1) := by decide +kernel
theorem dX3_begin_120 : decode cX3_begin 120 = .ok (.iconst 1, 1) := by decide +kernel
theorem dX3_begin_121 : decode cX3_begin 121 = .ok (.iand, 1) := by decide +kernel
theorem dX3_begin_122 : decode cX3_begin 122 = .ok (.iload 4, 2) := by decide +kernel
theorem dX3_begin_124 : decode cX3_begin 124 = .ok (.ishl, 1) := by decide +kernel
theorem dX3_begin_125 : decode cX3_begin 125 = .ok (.ior, 1) := by decide +kernel
theorem dX3_begin_126 : decode cX3_begin 126 = .ok (.putfield 37, 3) := by decide +kernel
theorem dX3_begin_129 : decode cX3_begin 129 = .ok (.iinc 4 1, 3) := by decide +kernel
theorem dX3_begin_132 : decode cX3_begin 132 = .ok (.goto (-116), 3) := by decide +kernel
theorem dX3_begin_135 : decode cX3_begin 135 = .ok (.aload_n 0, 1) := by decide +kernel
theorem dX3_begin_136 : decode cX3_begin 136 = .ok (.getfield 27, 3) := by decide +kernel
theorem dX3_begin_139 : decode cX3_begin 139 = .ok (.iconst 0, 1) := by decide +kernel
theorem dX3_begin_140 : decode cX3_begin 140 = .ok (.invokestatic 61, 3) := by decide +kernel
theorem dX3_begin_143 : decode cX3_begin 143 = .ok (.aload_n 0, 1) := by decide +kernel
theorem dX3_begin_144 : decode cX3_begin 144 = .ok (.getfield 30, 3) := by decide +kernel
theorem dX3_begin_147 : decode cX3_begin 147 = .ok (.iconst 0, 1) := by decide +kernel
theorem dX3_begin_148 : decode cX3_begin 148 = .ok (.invokestatic 61, 3) := by decide +kernel
theorem dX3_begin_151 : decode cX3_begin 151 = .ok (.aload_n 0, 1) := by decide +kernel
theorem dX3_begin_152 : decode cX3_begin 152 = .ok (.iconst 1, 1) := by decide +kernel
theorem dX3_begin_153 : decode cX3_begin 153 = .ok (.aload_n 0, 1) := by decide +kernel
theorem dX3_begin_154 : decode cX3_begin 154 = .ok (.getfield 33, 3) := by decide +kernel
theorem dX3_begin_157 : decode cX3_begin 157 = .ok (.ishl, 1) := by decide +kernel
theorem dX3_begin_158 : decode cX3_begin 158 = .ok (.iconst 1, 1) := by decide +kernel
theorem dX3_begin_159 : decode cX3_begin 159 = .ok (.isub, 1) := by decide +kernel
theorem dX3_begin_160 : decode cX3_begin 160 = .ok (.putfield 40, 3) := by decide +kernel
theorem dX3_begin_163 : decode cX3_begin 163 = .ok (.aload_n 0, 1) := by decide +kernel
theorem dX3_begin_164 : decode cX3_begin 164 = .ok (.iconst 0, 1) := by decide +kernel
theorem dX3_begin_165 : decode cX3_begin 165 = .ok (.putfield 43, 3) := by decide +kernel
theorem dX3_begin_168 : decode cX3_begin 168 = .ok (.aload_n 0, 1) := by decide +kernel
theorem dX3_begin_169 : decode cX3_begin 169 = .ok (.iconst 0, 1) := by decide +kernel
theorem dX3_begin_170 : decode cX3_begin 170 = .ok (.putfield 46, 3) := by decide +kernel
theorem dX3_begin_173 : decode cX3_begin 173 = .ok (.aload_n 0, 1) := by decide +kernel
theorem dX3_begin_174 : decode cX3_begin 174 = .ok (.iconst (-1), 1) := by decide +kernel
theorem dX3_begin_175 : decode cX3_begin 175 = .ok (.putfield 49, 3) := by decide +kernel
theorem dX3_begin_178 : decode cX3_begin 178 = .ok (.return_, 1) := by decide +kernel
theorem dX3_become_0 : decode cX3_become 0 = .ok (.aload_n 1, 1) := by decide +kernel
theorem dX3_become_1 : decode cX3_become 1 = .ok (.getfield 9, 3) := by decide +kernel
theorem dX3_become_4 : decode cX3_become 4 = .ok (.iconst 0, 1) := by decide +kernel
theorem dX3_become_5 : decode cX3_become 5 = .ok (.aload_n 0, 1) := by decide +kernel
theorem dX3_become_6 : decode cX3_become 6 = .ok (.getfield 9, 3) := by decide +kernel
theorem dX3_become_9 : decode cX3_become 9 = .ok (.iconst 0, 1) := by decide +kernel
theorem dX3_become_10 : decode cX3_become 10 = .ok (.bipush 8, 2) := by decide +kernel
theorem dX3_become_12 : decode cX3_become 12 = .ok (.invokestatic 67, 3) := by decide +kernel
theorem dX3_become_15 : decode cX3_become 15 = .ok (.aload_n 1, 1) := by decide +kernel
theorem dX3_become_16 : decode cX3_become 16 = .ok (.getfield 15, 3) := by decide +kernel
theorem dX3_become_19 : decode cX3_become 19 = .ok (.iconst 0, 1) := by decide +kernel
theorem dX3_become_20 : decode cX3_become 20 = .ok (.aload_n 0, 1) := by decide +kernel
theorem dX3_become_21 : decode cX3_become 21 = .ok (.getfield 15, 3) := by decide +kernel
theorem dX3_become_24 : decode cX3_become 24 = .ok (.iconst 0, 1) := by decide +kernel
theorem dX3_become_25 : decode cX3_become 25 = .ok (.bipush 8, 2) := by decide +kernel
theorem dX3_become_27 : decode cX3_become 27 = .ok (.invokestatic 67, 3) := by decide +kernel
theorem dX3_become_30 : decode cX3_become 30 = .ok (.aload_n 1, 1) := by decide +kernel
theorem dX3_become_31 : decode cX3_become 31 = .ok (.getfield 18, 3) := by decide +kernel
theorem dX3_become_34 : decode cX3_become 34 = .ok (.iconst 0, 1) := by decide +kernel
theorem dX3_become_35 : decode cX3_become 35 = .ok (.aload_n 0, 1) := by decide +kernel
theorem dX3_become_36 : decode cX3_become 36 = .ok (.getfield 18, 3) := by decide +kernel
theorem dX3_become_39 : decode cX3_become 39 = .ok (.iconst 0, 1) := by decide +kernel
theorem dX3_become_40 : decode cX3_become 40 = .ok (.bipush 8, 2) := by decide +kernel
theorem dX3_become_42 : decode cX3_become 42 = .ok (.invokestatic 67, 3) := by decide +kernel
theorem dX3_become_45 : decode cX3_become 45 = .ok (.aload_n 1, 1) := by decide +kernel
theorem dX3_become_46 : decode cX3_become 46 = .ok (.getfield 21, 3) := by decide +kernel
theorem dX3_become_49 : decode cX3_become 49 = .ok (.iconst 0, 1) := by decide +kernel
theorem dX3_become_50 : decode cX3_become 50 = .ok (.aload_n 0, 1) := by decide +kernel
theorem dX3_become_51 : decode cX3_become 51 = .ok (.getfield 21, 3) := by decide +kernel
theorem dX3_become_54 : decode cX3_become 54 = .ok (.iconst 0, 1) := by decide +kernel
theorem dX3_become_55 : decode cX3_become 55 = .ok (.bipush 8, 2) := by decide +kernel
theorem dX3_become_57 : decode cX3_become 57 = .ok (.invokestatic 67, 3) := by decide +kernel
theorem dX3_become_60 : decode cX3_become 60 = .ok (.aload_n 1, 1) := by decide +kernel
theorem dX3_become_61 : decode cX3_become 61 = .ok (.getfield 24, 3) := by decide +kernel
theorem dX3_become_64 : decode cX3_become 64 = .ok (.iconst 0, 1) := by decide +kernel
theorem dX3_become_65 : decode cX3_become 65 = .ok (.aload_n 0, 1) := by decide +kernel
theorem dX3_become_66 : decode cX3_become 66 = .ok (.getfield 24, 3) := by decide +kernel
theorem dX3_become_69 : decode cX3_become 69 = .ok (.iconst 0, 1) := by decide +kernel
theorem dX3_become_70 : decode cX3_become 70 = .ok (.bipush 8, 2) := by decide +kernel
theorem dX3_become_72 : decode cX3_become 72 = .ok (.invokestatic 67, 3) := by decide +kernel
theorem dX3_become_75 : decode cX3_become 75 = .ok (.aload_n 1, 1) := by decide +kernel
theorem dX3_become_76 : decode cX3_become 76 = .ok (.getfield 27, 3) := by decide +kernel
theorem dX3_become_79 : decode cX3_become 79 = .ok (.iconst 0, 1) := by decide +kernel
theorem dX3_become_80 : decode cX3_become 80 = .ok (.aload_n 0, 1) := by decide +kernel
theorem dX3_become_81 : decode cX3_become 81 = .ok (.getfield 27, 3) := by decide +kernel
theorem dX3_become_84 : decode cX3_become 84 = .ok (.iconst 0, 1) := by decide +kernel
theorem dX3_become_85 : decode cX3_become 85 = .ok (.bipush 8, 2) := by decide +kernel
theorem dX3_become_87 : decode cX3_become 87 = .ok (.invokestatic 67, 3) := by decide +kernel
theorem dX3_become_90 : decode cX3_become 90 = .ok (.aload_n 1, 1) := by decide +kernel
theorem dX3_become_91 : decode cX3_become 91 = .ok (.getfield 30, 3) := by decide +kernel
theorem dX3_become_94 : decode cX3_become 94 = .ok (.iconst 0, 1) := by decide +kernel
theorem dX3_become_95 : decode cX3_become 95 = .ok (.aload_n 0, 1) := by decide +kernel
theorem dX3_become_96 : decode cX3_become 96 = .ok (.getfield 30, 3) := by decide +kernel
theorem dX3_become_99 : decode cX3_become 99 = .ok (.iconst 0, 1) := by decide +kernel
theorem dX3_become_100 : decode cX3_become 100 = .ok (.bipush 8, 2) := by decide +kernel
theorem dX3_become_102 : decode cX3_become 102 = .ok (.invokestatic 67, 3) := by decide +kernel
theorem dX3_become_105 : decode cX3_become 105 = .ok (.aload_n 0, 1) := by decide +kernel
theorem dX3_become_106 : decode cX3_become 106 = .ok (.aload_n 1, 1) := by decide +kernel
theorem dX3_become_107 : decode cX3_become 107 = .ok (.getfield 33, 3) := by decide +kernel
theorem dX3_become_110 : decode cX3_become 110 = .ok (.putfield 33, 3) := by decide +kernel
theorem dX3_become_113 : decode cX3_become 113 = .ok (.aload_n 0, 1) := by decide +kernel
theorem dX3_become_114 : decode cX3_become 114 = .ok (.aload_n 1, 1) := by decide +kernel
theorem dX3_become_115 : decode cX3_become 115 = .ok (.getfield 37, 3) := by decide +kernel
theorem dX3_become_118 : decode cX3_become 118 = .ok (.putfield 37, 3) := by decide +kernel
theorem dX3_become_121 : decode cX3_become 121 = .ok (.aload_n 0, 1) := by decide +kernel
theorem dX3_become_122 : decode cX3_become 122 = .ok (.aload_n 1, 1) := by decide +kernel
theorem dX3_become_123 : decode cX3_become 123 = .ok (.getfield 40, 3) := by decide +kernel
theorem dX3_become_126 : decode cX3_become 126 = .ok (.putfield 40, 3) := by decide +kernel
theorem dX3_become_129 : decode cX3_become 129 = .ok (.aload_n 0, 1) := by decide +kernel
theorem dX3_become_130 : decode cX3_become 130 = .ok (.aload_n 1, 1) := by decide +kernel
theorem dX3_become_131 : decode cX3_become 131 = .ok (.getfield 43, 3) := by decide +kernel
theorem dX3_become_134 : decode cX3_become 134 = .ok (.putfield 43, 3) := by decide +kernel
theorem dX3_become_137 : decode cX3_become 137 = .ok (.aload_n 0, 1) := by decide +kernel
theorem dX3_become_138 : decode cX3_become 138 = .ok (.aload_n 1, 1) := by decide +kernel
theorem dX3_become_139 : decode cX3_become 139 = .ok (.getfield 46, 3) := by decide +kernel
theorem dX3_become_142 : decode cX3_become 142 = .ok (.putfield 46, 3) := by decide +kernel
theorem dX3_become_145 : decode cX3_become 145 = .ok (.aload_n 0, 1) := by decide +kernel
theorem dX3_become_146 : decode cX3_become 146 = .ok (.aload_n 1, 1) := by decide +kernel
theorem dX3_become_147 : decode cX3_become 147 = .ok (.getfield 49, 3) := by decide +kernel
theorem dX3_become_150 : decode cX3_become 150 = .ok (.putfield 49, 3) := by decide +kernel
theorem dX3_become_153 : decode cX3_become 153 = .ok (.return_, 1) := by decide +kernel
theorem dX3_passDay_0 : decode cX3_passDay 0 = .ok (.aload_n 0, 1) := by decide +kernel
theorem dX3_passDay_1 : decode cX3_passDay 1 = .ok (.aload_n 1, 1) := by decide +kernel
theorem dX3_passDay_2 : decode cX3_passDay 2 = .ok (.getfield 73, 3) := by decide +kernel
theorem dX3_passDay_5 : decode cX3_passDay 5 = .ok (.iload_n 2, 1) := by decide +kernel
theorem dX3_passDay_6 : decode cX3_passDay 6 = .ok (.invokevirtual 79, 3) := by decide +kernel
theorem dX3_passDay_9 : decode cX3_passDay 9 = .ok (.aload_n 1, 1) := by decide +kernel
theorem dX3_passDay_10 : decode cX3_passDay 10 = .ok (.aload_n 0, 1) := by decide +kernel
theorem dX3_passDay_11 : decode cX3_passDay 11 = .ok (.getfield 49, 3) := by decide +kernel
theorem dX3_passDay_14 : decode cX3_passDay 14 = .ok (.invokevirtual 83, 3) := by decide +kernel
theorem dX3_passDay_17 : decode cX3_passDay 17 = .ok (.ifCond .eq 15, 3) := by decide +kernel
theorem dX3_passDay_20 : decode cX3_passDay 20 = .ok (.aload_n 0, 1) := by decide +kernel
theorem dX3_passDay_21 : decode cX3_passDay 21 = .ok (.aload_n 0, 1) := by decide +kernel
theorem dX3_passDay_22 : decode cX3_passDay 22 = .ok (.aload_n 1, 1) := by decide +kernel
theorem dX3_passDay_23 : decode cX3_passDay 23 = .ok (.getfield 87, 3) := by decide +kernel
theorem dX3_passDay_26 : decode cX3_passDay 26 = .ok (.invokevirtual 90, 3) := by decide +kernel
theorem dX3_passDay_29 : decode cX3_passDay 29 = .ok (.invokevirtual 94, 3) := by decide +kernel
theorem dX3_passDay_32 : decode cX3_passDay 32 = .ok (.return_, 1) := by decide +kernel
theorem dX3_passUntilHeat_0 : decode cX3_passUntilHeat 0 = .ok (.aload_n 0, 1) := by decide +kernel
theorem dX3_passUntilHeat_1 : decode cX3_passUntilHeat 1 = .ok (.dup, 1) := by decide +kernel
theorem dX3_passUntilHeat_2 : decode cX3_passUntilHeat 2 = .ok (.getfield 49, 3) := by decide +kernel
theorem dX3_passUntilHeat_5 : decode cX3_passUntilHeat 5 = .ok (.iconst 1, 1) := by decide +kernel
theorem dX3_passUntilHeat_6 : decode cX3_passUntilHeat 6 = .ok (.iadd, 1) := by decide +kernel
theorem dX3_passUntilHeat_7 : decode cX3_passUntilHeat 7 = .ok (.putfield 49, 3) := by decide +kernel
theorem dX3_passUntilHeat_10 : decode cX3_passUntilHeat 10 = .ok (.iconst 0, 1) := by decide +kernel
theorem dX3_passUntilHeat_11 : decode cX3_passUntilHeat 11 = .ok (.istore_n 3, 1) := by decide +kernel
theorem dX3_passUntilHeat_12 : decode cX3_passUntilHeat 12 = .ok (.iload_n 3, 1) := by decide +kernel
theorem dX3_passUntilHeat_13 : decode cX3_passUntilHeat 13 = .ok (.aload_n 1, 1) := by decide +kernel
theorem dX3_passUntilHeat_14 : decode cX3_passUntilHeat 14 = .ok (.getfield 98, 3) := by decide +kernel
theorem dX3_passUntilHeat_17 : decode cX3_passUntilHeat 17 = .ok (.if_icmp .ge 64, 3) := by decide +kernel
theorem dX3_passUntilHeat_20 : decode cX3_passUntilHeat 20 = .ok (.aload_n 1, 1) := by decide +kernel
theorem dX3_passUntilHeat_21 : decode cX3_passUntilHeat 21 = .ok (.getfield 101, 3) := by decide +kernel
theorem dX3_passUntilHeat_24 : decode cX3_passUntilHeat 24 = .ok (.iload_n 3, 1) := by decide +kernel
theorem dX3_passUntilHeat_25 : decode cX3_passUntilHeat 25 = .ok (.iaload, 1) := by decide +kernel
theorem dX3_passUntilHeat_26 : decode cX3_passUntilHeat 26 = .ok (.aload_n 0, 1) := by decide +kernel
theorem dX3_passUntilHeat_27 : decode cX3_passUntilHeat 27 = .ok (.getfield 49, 3) := by decide +kernel
theorem dX3_passUntilHeat_30 : decode cX3_passUntilHeat 30 = .ok (.if_icmp .ne 45, 3) := by decide +kernel
theorem dX3_passUntilHeat_33 : decode cX3_passUntilHeat 33 = .ok (.iload_n 3, 1) := by decide +kernel
theorem dX3_passUntilHeat_34 : decode cX3_passUntilHeat 34 = .ok (.iload_n 2, 1) := by decide +kernel
theorem dX3_passUntilHeat_35 : decode cX3_passUntilHeat 35 = .ok (.if_icmp .eq 40, 3) := by decide +kernel
theorem dX3_passUntilHeat_38 : decode cX3_passUntilHeat 38 = .ok (.aload_n 0, 1) := by decide +kernel
theorem dX3_passUntilHeat_39 : decode cX3_passUntilHeat 39 = .ok (.aload_n 1, 1) := by decide +kernel
theorem dX3_passUntilHeat_40 : decode cX3_passUntilHeat 40 = .ok (.getfield 103, 3) := by decide +kernel
theorem dX3_passUntilHeat_43 : decode cX3_passUntilHeat 43 = .ok (.iload_n 3, 1) := by decide +kernel
theorem dX3_passUntilHeat_44 : decode cX3_passUntilHeat 44 = .ok (.iaload, 1) := by decide +kernel
theorem dX3_passUntilHeat_45 : decode cX3_passUntilHeat 45 = .ok (.aload_n 1, 1) := by decide +kernel
theorem dX3_passUntilHeat_46 : decode cX3_passUntilHeat 46 = .ok (.getfield 106, 3) := by decide +kernel
theorem dX3_passUntilHeat_49 : decode cX3_passUntilHeat 49 = .ok (.iload_n 3, 1) := by decide +kernel
theorem dX3_passUntilHeat_50 : decode cX3_passUntilHeat 50 = .ok (.iaload, 1) := by decide +kernel
theorem dX3_passUntilHeat_51 : decode cX3_passUntilHeat 51 = .ok (.aload_n 1, 1) := by decide +kernel
theorem dX3_passUntilHeat_52 : decode cX3_passUntilHeat 52 = .ok (.getfield 109, 3) := by decide +kernel
theorem dX3_passUntilHeat_55 : decode cX3_passUntilHeat 55 = .ok (.iload_n 3, 1) := by decide +kernel
theorem dX3_passUntilHeat_56 : decode cX3_passUntilHeat 56 = .ok (.iaload, 1) := by decide +kernel
theorem dX3_passUntilHeat_57 : decode cX3_passUntilHeat 57 = .ok (.invokevirtual 112, 3) := by decide +kernel
theorem dX3_passUntilHeat_60 : decode cX3_passUntilHeat 60 = .ok (.ifCond .eq 15, 3) := by decide +kernel
theorem dX3_passUntilHeat_63 : decode cX3_passUntilHeat 63 = .ok (.aload_n 0, 1) := by decide +kernel
theorem dX3_passUntilHeat_64 : decode cX3_passUntilHeat 64 = .ok (.dup, 1) := by decide +kernel
theorem dX3_passUntilHeat_65 : decode cX3_passUntilHeat 65 = .ok (.getfield 46, 3) := by decide +kernel
theorem dX3_passUntilHeat_68 : decode cX3_passUntilHeat 68 = .ok (.iconst 1, 1) := by decide +kernel
theorem dX3_passUntilHeat_69 : decode cX3_passUntilHeat 69 = .ok (.iload_n 3, 1) := by decide +kernel
theorem dX3_passUntilHeat_70 : decode cX3_passUntilHeat 70 = .ok (.ishl, 1) := by decide +kernel
theorem dX3_passUntilHeat_71 : decode cX3_passUntilHeat 71 = .ok (.ior, 1) := by decide +kernel
theorem dX3_passUntilHeat_72 : decode cX3_passUntilHeat 72 = .ok (.putfield 46, 3) := by decide +kernel
theorem dX3_passUntilHeat_75 : decode cX3_passUntilHeat 75 = .ok (.iinc 3 1, 3) := by decide +kernel
theorem dX3_passUntilHeat_78 : decode cX3_passUntilHeat 78 = .ok (.goto (-66), 3) := by decide +kernel
theorem dX3_passUntilHeat_81 : decode cX3_passUntilHeat 81 = .ok (.aload_n 0, 1) := by decide +kernel
theorem dX3_passUntilHeat_82 : decode cX3_passUntilHeat 82 = .ok (.invokevirtual 116, 3) := by decide +kernel
theorem dX3_passUntilHeat_85 : decode cX3_passUntilHeat 85 = .ok (.return_, 1) := by decide +kernel
theorem dX3_doAct_0 : decode cX3_doAct 0 = .ok (.iload_n 2, 1) := by decide +kernel
theorem dX3_doAct_1 : decode cX3_doAct 1 = .ok (.aload_n 0, 1) := by decide +kernel
theorem dX3_doAct_2 : decode cX3_doAct 2 = .ok (.getfield 33, 3) := by decide +kernel
theorem dX3_doAct_5 : decode cX3_doAct 5 = .ok (.invokestatic 119, 3) := by decide +kernel
theorem dX3_doAct_8 : decode cX3_doAct 8 = .ok (.ifCond .ne 5, 3) := by decide +kernel
theorem dX3_doAct_11 : decode cX3_doAct 11 = .ok (.iconst 0, 1) := by decide +kernel
theorem dX3_doAct_12 : decode cX3_doAct 12 = .ok (.ireturn, 1) := by decide +kernel
theorem dX3_doAct_13 : decode cX3_doAct 13 = .ok (.iconst 0, 1) := by decide +kernel
theorem dX3_doAct_14 : decode cX3_doAct 14 = .ok (.istore 4, 2) := by decide +kernel
theorem dX3_doAct_16 : decode cX3_doAct 16 = .ok (.iload_n 1, 1) := by decide +kernel
theorem dX3_doAct_17 : decode cX3_doAct 17 = .ok (.tableswitch 148 0 3 #[31, 58, 100, 119], 31) := by decide +kernel
theorem dX3_doAct_48 : decode cX3_doAct 48 = .ok (.aload_n 0, 1) := by decide +kernel
theorem dX3_doAct_49 : decode cX3_doAct 49 = .ok (.getfield 24, 3) := by decide +kernel
theorem dX3_doAct_52 : decode cX3_doAct 52 = .ok (.iload_n 2, 1) := by decide +kernel
theorem dX3_doAct_53 : decode cX3_doAct 53 = .ok (.iaload, 1) := by decide +kernel
theorem dX3_doAct_54 : decode cX3_doAct 54 = .ok (.iload_n 3, 1) := by decide +kernel
theorem dX3_doAct_55 : decode cX3_doAct 55 = .ok (.if_icmp .eq 7, 3) := by decide +kernel
theorem dX3_doAct_58 : decode cX3_doAct 58 = .ok (.iconst 1, 1) := by decide +kernel
theorem dX3_doAct_59 : decode cX3_doAct 59 = .ok (.goto 4, 3) := by decide +kernel
theorem dX3_doAct_62 : decode cX3_doAct 62 = .ok (.iconst 0, 1) := by decide +kernel
theorem dX3_doAct_63 : decode cX3_doAct 63 = .ok (.istore 4, 2) := by decide +kernel
theorem dX3_doAct_65 : decode cX3_doAct 65 = .ok (.aload_n 0, 1) := by decide +kernel
theorem dX3_doAct_66 : decode cX3_doAct 66 = .ok (.getfield 24, 3) := by decide +kernel
theorem dX3_doAct_69 : decode cX3_doAct 69 = .ok (.iload_n 2, 1) := by decide +kernel
theorem dX3_doAct_70 : decode cX3_doAct 70 = .ok (.iload_n 3, 1) := by decide +kernel
theorem dX3_doAct_71 : decode cX3_doAct 71 = .ok (.iastore, 1) := by decide +kernel
theorem dX3_doAct_72 : decode cX3_doAct 72 = .ok (.goto 93, 3) := by decide +kernel
theorem dX3_doAct_75 : decode cX3_doAct 75 = .ok (.iload_n 2, 1) := by decide +kernel
theorem dX3_doAct_76 : decode cX3_doAct 76 = .ok (.iload_n 3, 1) := by decide +kernel
theorem dX3_doAct_77 : decode cX3_doAct 77 = .ok (.if_icmp .eq 23, 3) := by decide +kernel
theorem dX3_doAct_80 : decode cX3_doAct 80 = .ok (.aload_n 0, 1) := by decide +kernel
theorem dX3_doAct_81 : decode cX3_doAct 81 = .ok (.iload_n 2, 1) := by decide +kernel
theorem dX3_doAct_82 : decode cX3_doAct 82 = .ok (.invokevirtual 123, 3) := by decide +kernel
theorem dX3_doAct_85 : decode cX3_doAct 85 = .ok (.ifCond .eq 15, 3) := by decide +kernel
theorem dX3_doAct_88 : decode cX3_doAct 88 = .ok (.aload_n 0, 1) := by decide +kernel
theorem dX3_doAct_89 : decode cX3_doAct 89 = .ok (.iload_n 3, 1) := by decide +kernel
theorem dX3_doAct_90 : decode cX3_doAct 90 = .ok (.invokevirtual 123, 3) := by decide +kernel
theorem dX3_doAct_93 : decode cX3_doAct 93 = .ok (.ifCond .eq 7, 3) := by decide +kernel
theorem dX3_doAct_96 : decode cX3_doAct 96 = .ok (.iconst 1, 1) := by decide +kernel
theorem dX3_doAct_97 : decode cX3_doAct 97 = .ok (.goto 4, 3) := by decide +kernel
theorem dX3_doAct_100 : decode cX3_doAct 100 = .ok (.iconst 0, 1) := by decide +kernel
theorem dX3_doAct_101 : decode cX3_doAct 101 = .ok (.istore 4, 2) := by decide +kernel
theorem dX3_doAct_103 : decode cX3_doAct 103 = .ok (.iload 4, 2) := by decide +kernel
theorem dX3_doAct_105 : decode cX3_doAct 105 = .ok (.ifCond .eq 60, 3) := by decide +kernel
theorem dX3_doAct_108 : decode cX3_doAct 108 = .ok (.aload_n 0, 1) := by decide +kernel
theorem dX3_doAct_109 : decode cX3_doAct 109 = .ok (.iload_n 2, 1) := by decide +kernel
theorem dX3_doAct_110 : decode cX3_doAct 110 = .ok (.iload_n 3, 1) := by decide +kernel
theorem dX3_doAct_111 : decode cX3_doAct 111 = .ok (.invokevirtual 126, 3) := by decide +kernel
theorem dX3_doAct_114 : decode cX3_doAct 114 = .ok (.goto 51, 3) := by decide +kernel
theorem dX3_doAct_117 : decode cX3_doAct 117 = .ok (.aload_n 0, 1) := by decide +kernel
theorem dX3_doAct_118 : decode cX3_doAct 118 = .ok (.iload_n 2, 1) := by decide +kernel
theorem dX3_doAct_119 : decode cX3_doAct 119 = .ok (.invokevirtual 123, 3) := by decide +kernel
theorem dX3_doAct_122 : decode cX3_doAct 122 = .ok (.istore 4, 2) := by decide +kernel
theorem dX3_doAct_124 : decode cX3_doAct 124 = .ok (.aload_n 0, 1) := by decide +kernel
theorem dX3_doAct_125 : decode cX3_doAct 125 = .ok (.iload_n 2, 1) := by decide +kernel
theorem dX3_doAct_126 : decode cX3_doAct 126 = .ok (.aload_n 0, 1) := by decide +kernel
theorem dX3_doAct_127 : decode cX3_doAct 127 = .ok (.getfield 27, 3) := by decide +kernel
theorem dX3_doAct_130 : decode cX3_doAct 130 = .ok (.invokevirtual 130, 3) := by decide +kernel
theorem dX3_doAct_133 : decode cX3_doAct 133 = .ok (.goto 32, 3) := by decide +kernel
theorem dX3_doAct_136 : decode cX3_doAct 136 = .ok (.aload_n 0, 1) := by decide +kernel
theorem dX3_doAct_137 : decode cX3_doAct 137 = .ok (.getfield 21, 3) := by decide +kernel
theorem dX3_doAct_140 : decode cX3_doAct 140 = .ok (.iload_n 2, 1) := by decide +kernel
theorem dX3_doAct_141 : decode cX3_doAct 141 = .ok (.iaload, 1) := by decide +kernel
theorem dX3_doAct_142 : decode cX3_doAct 142 = .ok (.bipush 9, 2) := by decide +kernel
theorem dX3_doAct_144 : decode cX3_doAct 144 = .ok (.if_icmp .eq 7, 3) := by decide +kernel
theorem dX3_doAct_147 : decode cX3_doAct 147 = .ok (.iconst 1, 1) := by decide +kernel
theorem dX3_doAct_148 : decode cX3_doAct 148 = .ok (.goto 4, 3) := by decide +kernel
theorem dX3_doAct_151 : decode cX3_doAct 151 = .ok (.iconst 0, 1) := by decide +kernel
theorem dX3_doAct_152 : decode cX3_doAct 152 = .ok (.istore 4, 2) := by decide +kernel
theorem dX3_doAct_154 : decode cX3_doAct 154 = .ok (.aload_n 0, 1) := by decide +kernel
theorem dX3_doAct_155 : decode cX3_doAct 155 = .ok (.getfield 21, 3) := by decide +kernel
theorem dX3_doAct_158 : decode cX3_doAct 158 = .ok (.iload_n 2, 1) := by decide +kernel
theorem dX3_doAct_159 : decode cX3_doAct 159 = .ok (.bipush 9, 2) := by decide +kernel
theorem dX3_doAct_161 : decode cX3_doAct 161 = .ok (.iastore, 1) := by decide +kernel
theorem dX3_doAct_162 : decode cX3_doAct 162 = .ok (.goto 3, 3) := by decide +kernel
theorem dX3_doAct_165 : decode cX3_doAct 165 = .ok (.iload 4, 2) := by decide +kernel
theorem dX3_doAct_167 : decode cX3_doAct 167 = .ok (.ireturn, 1) := by decide +kernel
theorem dX3_pourInto_0 : decode cX3_pourInto 0 = .ok (.iconst 0, 1) := by decide +kernel
theorem dX3_pourInto_1 : decode cX3_pourInto 1 = .ok (.istore_n 3, 1) := by decide +kernel
theorem dX3_pourInto_2 : decode cX3_pourInto 2 = .ok (.iload_n 3, 1) := by decide +kernel
theorem dX3_pourInto_3 : decode cX3_pourInto 3 = .ok (.aload_n 0, 1) := by decide +kernel
theorem dX3_pourInto_4 : decode cX3_pourInto 4 = .ok (.getfield 33, 3) := by decide +kernel
theorem dX3_pourInto_7 : decode cX3_pourInto 7 = .ok (.if_icmp .ge 104, 3) := by decide +kernel
theorem dX3_pourInto_10 : decode cX3_pourInto 10 = .ok (.aload_n 0, 1) := by decide +kernel
theorem dX3_pourInto_11 : decode cX3_pourInto 11 = .ok (.getfield 18, 3) := by decide +kernel
theorem dX3_pourInto_14 : decode cX3_pourInto 14 = .ok (.iload_n 3, 1) := by decide +kernel
theorem dX3_pourInto_15 : decode cX3_pourInto 15 = .ok (.iaload, 1) := by decide +kernel
theorem dX3_pourInto_16 : decode cX3_pourInto 16 = .ok (.iload_n 1, 1) := by decide +kernel
theorem dX3_pourInto_17 : decode cX3_pourInto 17 = .ok (.if_icmp .eq 6, 3) := by decide +kernel
theorem dX3_pourInto_20 : decode cX3_pourInto 20 = .ok (.goto 85, 3) := by decide +kernel
theorem dX3_pourInto_23 : decode cX3_pourInto 23 = .ok (.aload_n 0, 1) := by decide +kernel
theorem dX3_pourInto_24 : decode cX3_pourInto 24 = .ok (.getfield 18, 3) := by decide +kernel
theorem dX3_pourInto_27 : decode cX3_pourInto 27 = .ok (.iload_n 3, 1) := by decide +kernel
theorem dX3_pourInto_28 : decode cX3_pourInto 28 = .ok (.iload_n 2, 1) := by decide +kernel
theorem dX3_pourInto_29 : decode cX3_pourInto 29 = .ok (.iastore, 1) := by decide +kernel
theorem dX3_pourInto_30 : decode cX3_pourInto 30 = .ok (.iconst 0, 1) := by decide +kernel
theorem dX3_pourInto_31 : decode cX3_pourInto 31 = .ok (.istore 4, 2) := by decide +kernel
theorem dX3_pourInto_33 : decode cX3_pourInto 33 = .ok (.iload 4, 2) := by decide +kernel
theorem dX3_pourInto_35 : decode cX3_pourInto 35 = .ok (.aload_n 0, 1) := by decide +kernel
theorem dX3_pourInto_36 : decode cX3_pourInto 36 = .ok (.getfield 33, 3) := by decide +kernel
theorem dX3_pourInto_39 : decode cX3_pourInto 39 = .ok (.if_icmp .ge 66, 3) := by decide +kernel
theorem dX3_pourInto_42 : decode cX3_pourInto 42 = .ok (.iload 4, 2) := by decide +kernel
theorem dX3_pourInto_44 : decode cX3_pourInto 44 = .ok (.iload_n 3, 1) := by decide +kernel
theorem dX3_pourInto_45 : decode cX3_pourInto 45 = .ok (.if_icmp .eq 54, 3) := by decide +kernel
theorem dX3_pourInto_48 : decode cX3_pourInto 48 = .ok (.aload_n 0, 1) := by decide +kernel
theorem dX3_pourInto_49 : decode cX3_pourInto 49 = .ok (.getfield 18, 3) := by decide +kernel
theorem dX3_pourInto_52 : decode cX3_pourInto 52 = .ok (.iload 4, 2) := by decide +kernel
theorem dX3_pourInto_54 : decode cX3_pourInto 54 = .ok (.iaload, 1) := by decide +kernel
theorem dX3_pourInto_55 : decode cX3_pourInto 55 = .ok (.iload_n 2, 1) := by decide +kernel
theorem dX3_pourInto_56 : decode cX3_pourInto 56 = .ok (.if_icmp .ne 43, 3) := by decide +kernel
theorem dX3_pourInto_59 : decode cX3_pourInto 59 = .ok (.aload_n 0, 1) := by decide +kernel
theorem dX3_pourInto_60 : decode cX3_pourInto 60 = .ok (.getfield 9, 3) := by decide +kernel
theorem dX3_pourInto_63 : decode cX3_pourInto 63 = .ok (.iload 4, 2) := by decide +kernel
theorem dX3_pourInto_65 : decode cX3_pourInto 65 = .ok (.iaload, 1) := by decide +kernel
theorem dX3_pourInto_66 : decode cX3_pourInto 66 = .ok (.aload_n 0, 1) := by decide +kernel
theorem dX3_pourInto_67 : decode cX3_pourInto 67 = .ok (.getfield 9, 3) := by decide +kernel
theorem dX3_pourInto_70 : decode cX3_pourInto 70 = .ok (.iload_n 3, 1) := by decide +kernel
theorem dX3_pourInto_71 : decode cX3_pourInto 71 = .ok (.iaload, 1) := by decide +kernel
theorem dX3_pourInto_72 : decode cX3_pourInto 72 = .ok (.if_icmp .ne 27, 3) := by decide +kernel
theorem dX3_pourInto_75 : decode cX3_pourInto 75 = .ok (.aload_n 0, 1) := by decide +kernel
theorem dX3_pourInto_76 : decode cX3_pourInto 76 = .ok (.getfield 15, 3) := by decide +kernel
theorem dX3_pourInto_79 : decode cX3_pourInto 79 = .ok (.iload_n 3, 1) := by decide +kernel
theorem dX3_pourInto_80 : decode cX3_pourInto 80 = .ok (.dup2, 1) := by decide +kernel
theorem dX3_pourInto_81 : decode cX3_pourInto 81 = .ok (.iaload, 1) := by decide +kernel
theorem dX3_pourInto_82 : decode cX3_pourInto 82 = .ok (.aload_n 0, 1) := by decide +kernel
theorem dX3_pourInto_83 : decode cX3_pourInto 83 = .ok (.getfield 15, 3) := by decide +kernel
theorem dX3_pourInto_86 : decode cX3_pourInto 86 = .ok (.iload 4, 2) := by decide +kernel
theorem dX3_pourInto_88 : decode cX3_pourInto 88 = .ok (.iaload, 1) := by decide +kernel
theorem dX3_pourInto_89 : decode cX3_pourInto 89 = .ok (.iadd, 1) := by decide +kernel
theorem dX3_pourInto_90 : decode cX3_pourInto 90 = .ok (.iastore, 1) := by decide +kernel
theorem dX3_pourInto_91 : decode cX3_pourInto 91 = .ok (.aload_n 0, 1) := by decide +kernel
theorem dX3_pourInto_92 : decode cX3_pourInto 92 = .ok (.getfield 15, 3) := by decide +kernel
theorem dX3_pourInto_95 : decode cX3_pourInto 95 = .ok (.iload 4, 2) := by decide +kernel
theorem dX3_pourInto_97 : decode cX3_pourInto 97 = .ok (.iconst 0, 1) := by decide +kernel
theorem dX3_pourInto_98 : decode cX3_pourInto 98 = .ok (.iastore, 1) := by decide +kernel
theorem dX3_pourInto_99 : decode cX3_pourInto 99 = .ok (.iinc 4 1, 3) := by decide +kernel
theorem dX3_pourInto_102 : decode cX3_pourInto 102 = .ok (.goto (-69), 3) := by decide +kernel
theorem dX3_pourInto_105 : decode cX3_pourInto 105 = .ok (.iinc 3 1, 3) := by decide +kernel
theorem dX3_pourInto_108 : decode cX3_pourInto 108 = .ok (.goto (-106), 3) := by decide +kernel
theorem dX3_pourInto_111 : decode cX3_pourInto 111 = .ok (.return_, 1) := by decide +kernel
theorem dX3_letGo_0 : decode cX3_letGo 0 = .ok (.aload_n 0, 1) := by decide +kernel
theorem dX3_letGo_1 : decode cX3_letGo 1 = .ok (.dup, 1) := by decide +kernel
theorem dX3_letGo_2 : decode cX3_letGo 2 = .ok (.getfield 40, 3) := by decide +kernel
theorem dX3_letGo_5 : decode cX3_letGo 5 = .ok (.iconst 1, 1) := by decide +kernel
theorem dX3_letGo_6 : decode cX3_letGo 6 = .ok (.iload_n 1, 1) := by decide +kernel
theorem dX3_letGo_7 : decode cX3_letGo 7 = .ok (.ishl, 1) := by decide +kernel
theorem dX3_letGo_8 : decode cX3_letGo 8 = .ok (.iconst (-1), 1) := by decide +kernel
theorem dX3_letGo_9 : decode cX3_letGo 9 = .ok (.ixor, 1) := by decide +kernel
theorem dX3_letGo_10 : decode cX3_letGo 10 = .ok (.iand, 1) := by decide +kernel
theorem dX3_letGo_11 : decode cX3_letGo 11 = .ok (.putfield 40, 3) := by decide +kernel
theorem dX3_letGo_14 : decode cX3_letGo 14 = .ok (.iconst 0, 1) := by decide +kernel
theorem dX3_letGo_15 : decode cX3_letGo 15 = .ok (.istore_n 3, 1) := by decide +kernel
theorem dX3_letGo_16 : decode cX3_letGo 16 = .ok (.iload_n 3, 1) := by decide +kernel
theorem dX3_letGo_17 : decode cX3_letGo 17 = .ok (.aload_n 0, 1) := by decide +kernel
theorem dX3_letGo_18 : decode cX3_letGo 18 = .ok (.getfield 33, 3) := by decide +kernel
theorem dX3_letGo_21 : decode cX3_letGo 21 = .ok (.if_icmp .ge 43, 3) := by decide +kernel
theorem dX3_letGo_24 : decode cX3_letGo 24 = .ok (.aload_n 0, 1) := by decide +kernel
theorem dX3_letGo_25 : decode cX3_letGo 25 = .ok (.getfield 18, 3) := by decide +kernel
theorem dX3_letGo_28 : decode cX3_letGo 28 = .ok (.iload_n 3, 1) := by decide +kernel
theorem dX3_letGo_29 : decode cX3_letGo 29 = .ok (.iaload, 1) := by decide +kernel
theorem dX3_letGo_30 : decode cX3_letGo 30 = .ok (.iload_n 1, 1) := by decide +kernel
theorem dX3_letGo_31 : decode cX3_letGo 31 = .ok (.if_icmp .ne 27, 3) := by decide +kernel
theorem dX3_letGo_34 : decode cX3_letGo 34 = .ok (.aload_n 2, 1) := by decide +kernel
theorem dX3_letGo_35 : decode cX3_letGo 35 = .ok (.aload_n 0, 1) := by decide +kernel
theorem dX3_letGo_36 : decode cX3_letGo 36 = .ok (.getfield 9, 3) := by decide +kernel
theorem dX3_letGo_39 : decode cX3_letGo 39 = .ok (.iload_n 3, 1) := by decide +kernel
theorem dX3_letGo_40 : decode cX3_letGo 40 = .ok (.iaload, 1) := by decide +kernel
theorem dX3_letGo_41 : decode cX3_letGo 41 = .ok (.dup2, 1) := by decide +kernel
theorem dX3_letGo_42 : decode cX3_letGo 42 = .ok (.iaload, 1) := by decide +kernel
theorem dX3_letGo_43 : decode cX3_letGo 43 = .ok (.aload_n 0, 1) := by decide +kernel
theorem dX3_letGo_44 : decode cX3_letGo 44 = .ok (.getfield 15, 3) := by decide +kernel
theorem dX3_letGo_47 : decode cX3_letGo 47 = .ok (.iload_n 3, 1) := by decide +kernel
theorem dX3_letGo_48 : decode cX3_letGo 48 = .ok (.iaload, 1) := by decide +kernel
theorem dX3_letGo_49 : decode cX3_letGo 49 = .ok (.iadd, 1) := by decide +kernel
theorem dX3_letGo_50 : decode cX3_letGo 50 = .ok (.iastore, 1) := by decide +kernel
theorem dX3_letGo_51 : decode cX3_letGo 51 = .ok (.aload_n 0, 1) := by decide +kernel
theorem dX3_letGo_52 : decode cX3_letGo 52 = .ok (.getfield 15, 3) := by decide +kernel
theorem dX3_letGo_55 : decode cX3_letGo 55 = .ok (.iload_n 3, 1) := by decide +kernel
theorem dX3_letGo_56 : decode cX3_letGo 56 = .ok (.iconst 0, 1) := by decide +kernel
theorem dX3_letGo_57 : decode cX3_letGo 57 = .ok (.iastore, 1) := by decide +kernel
theorem dX3_letGo_58 : decode cX3_letGo 58 = .ok (.iinc 3 1, 3) := by decide +kernel
theorem dX3_letGo_61 : decode cX3_letGo 61 = .ok (.goto (-45), 3) := by decide +kernel
theorem dX3_letGo_64 : decode cX3_letGo 64 = .ok (.return_, 1) := by decide +kernel
theorem dX3_leak_0 : decode cX3_leak 0 = .ok (.iconst 0, 1) := by decide +kernel
theorem dX3_leak_1 : decode cX3_leak 1 = .ok (.istore_n 1, 1) := by decide +kernel
theorem dX3_leak_2 : decode cX3_leak 2 = .ok (.iload_n 1, 1) := by decide +kernel
theorem dX3_leak_3 : decode cX3_leak 3 = .ok (.aload_n 0, 1) := by decide +kernel
theorem dX3_leak_4 : decode cX3_leak 4 = .ok (.getfield 33, 3) := by decide +kernel
theorem dX3_leak_7 : decode cX3_leak 7 = .ok (.if_icmp .ge 78, 3) := by decide +kernel
theorem dX3_leak_10 : decode cX3_leak 10 = .ok (.aload_n 0, 1) := by decide +kernel
theorem dX3_leak_11 : decode cX3_leak 11 = .ok (.getfield 15, 3) := by decide +kernel
theorem dX3_leak_14 : decode cX3_leak 14 = .ok (.iload_n 1, 1) := by decide +kernel
theorem dX3_leak_15 : decode cX3_leak 15 = .ok (.iaload, 1) := by decide +kernel
theorem dX3_leak_16 : decode cX3_leak 16 = .ok (.ifCond .ne 6, 3) := by decide +kernel
theorem dX3_leak_19 : decode cX3_leak 19 = .ok (.goto 60, 3) := by decide +kernel
theorem dX3_leak_22 : decode cX3_leak 22 = .ok (.aload_n 0, 1) := by decide +kernel
theorem dX3_leak_23 : decode cX3_leak 23 = .ok (.getfield 21, 3) := by decide +kernel
theorem dX3_leak_26 : decode cX3_leak 26 = .ok (.aload_n 0, 1) := by decide +kernel
theorem dX3_leak_27 : decode cX3_leak 27 = .ok (.getfield 18, 3) := by decide +kernel
theorem dX3_leak_30 : decode cX3_leak 30 = .ok (.iload_n 1, 1) := by decide +kernel
theorem dX3_leak_31 : decode cX3_leak 31 = .ok (.iaload, 1) := by decide +kernel
theorem dX3_leak_32 : decode cX3_leak 32 = .ok (.iaload, 1) := by decide +kernel
theorem dX3_leak_33 : decode cX3_leak 33 = .ok (.istore_n 2, 1) := by decide +kernel
theorem dX3_leak_34 : decode cX3_leak 34 = .ok (.aload_n 0, 1) := by decide +kernel
theorem dX3_leak_35 : decode cX3_leak 35 = .ok (.getfield 15, 3) := by decide +kernel
theorem dX3_leak_38 : decode cX3_leak 38 = .ok (.iload_n 1, 1) := by decide +kernel
theorem dX3_leak_39 : decode cX3_leak 39 = .ok (.iaload, 1) := by decide +kernel
theorem dX3_leak_40 : decode cX3_leak 40 = .ok (.bipush 10, 2) := by decide +kernel
theorem dX3_leak_42 : decode cX3_leak 42 = .ok (.iload_n 2, 1) := by decide +kernel
theorem dX3_leak_43 : decode cX3_leak 43 = .ok (.isub, 1) := by decide +kernel
theorem dX3_leak_44 : decode cX3_leak 44 = .ok (.imul, 1) := by decide +kernel
theorem dX3_leak_45 : decode cX3_leak 45 = .ok (.bipush 100, 2) := by decide +kernel
theorem dX3_leak_47 : decode cX3_leak 47 = .ok (.idiv, 1) := by decide +kernel
theorem dX3_leak_48 : decode cX3_leak 48 = .ok (.iload_n 2, 1) := by decide +kernel
theorem dX3_leak_49 : decode cX3_leak 49 = .ok (.ifCond .ne 7, 3) := by decide +kernel
theorem dX3_leak_52 : decode cX3_leak 52 = .ok (.iconst 1, 1) := by decide +kernel
theorem dX3_leak_53 : decode cX3_leak 53 = .ok (.goto 4, 3) := by decide +kernel
theorem dX3_leak_56 : decode cX3_leak 56 = .ok (.iconst 0, 1) := by decide +kernel
theorem dX3_leak_57 : decode cX3_leak 57 = .ok (.iadd, 1) := by decide +kernel
theorem dX3_leak_58 : decode cX3_leak 58 = .ok (.istore_n 3, 1) := by decide +kernel
theorem dX3_leak_59 : decode cX3_leak 59 = .ok (.aload_n 0, 1) := by decide +kernel
theorem dX3_leak_60 : decode cX3_leak 60 = .ok (.getfield 15, 3) := by decide +kernel
theorem dX3_leak_63 : decode cX3_leak 63 = .ok (.iload_n 1, 1) := by decide +kernel
theorem dX3_leak_64 : decode cX3_leak 64 = .ok (.dup2, 1) := by decide +kernel
theorem dX3_leak_65 : decode cX3_leak 65 = .ok (.iaload, 1) := by decide +kernel
theorem dX3_leak_66 : decode cX3_leak 66 = .ok (.iload_n 3, 1) := by decide +kernel
theorem dX3_leak_67 : decode cX3_leak 67 = .ok (.isub, 1) := by decide +kernel
theorem dX3_leak_68 : decode cX3_leak 68 = .ok (.iastore, 1) := by decide +kernel
theorem dX3_leak_69 : decode cX3_leak 69 = .ok (.aload_n 0, 1) := by decide +kernel
theorem dX3_leak_70 : decode cX3_leak 70 = .ok (.dup, 1) := by decide +kernel
theorem dX3_leak_71 : decode cX3_leak 71 = .ok (.getfield 43, 3) := by decide +kernel
theorem dX3_leak_74 : decode cX3_leak 74 = .ok (.iload_n 3, 1) := by decide +kernel
theorem dX3_leak_75 : decode cX3_leak 75 = .ok (.iadd, 1) := by decide +kernel
theorem dX3_leak_76 : decode cX3_leak 76 = .ok (.putfield 43, 3) := by decide +kernel
theorem dX3_leak_79 : decode cX3_leak 79 = .ok (.iinc 1 1, 3) := by decide +kernel
theorem dX3_leak_82 : decode cX3_leak 82 = .ok (.goto (-80), 3) := by decide +kernel
theorem dX3_leak_85 : decode cX3_leak 85 = .ok (.return_, 1) := by decide +kernel
theorem dX3_ripeBottles_0 : decode cX3_ripeBottles 0 = .ok (.iconst 0, 1) := by decide +kernel
theorem dX3_ripeBottles_1 : decode cX3_ripeBottles 1 = .ok (.istore_n 2, 1) := by decide +kernel
theorem dX3_ripeBottles_2 : decode cX3_ripeBottles 2 = .ok (.iconst 0, 1) := by decide +kernel
theorem dX3_ripeBottles_3 : decode cX3_ripeBottles 3 = .ok (.istore_n 3, 1) := by decide +kernel
theorem dX3_ripeBottles_4 : decode cX3_ripeBottles 4 = .ok (.iload_n 3, 1) := by decide +kernel
theorem dX3_ripeBottles_5 : decode cX3_ripeBottles 5 = .ok (.aload_n 0, 1) := by decide +kernel
theorem dX3_ripeBottles_6 : decode cX3_ripeBottles 6 = .ok (.getfield 33, 3) := by decide +kernel
theorem dX3_ripeBottles_9 : decode cX3_ripeBottles 9 = .ok (.if_icmp .ge 36, 3) := by decide +kernel
theorem dX3_ripeBottles_12 : decode cX3_ripeBottles 12 = .ok (.aload_n 0, 1) := by decide +kernel
theorem dX3_ripeBottles_13 : decode cX3_ripeBottles 13 = .ok (.getfield 37, 3) := by decide +kernel
theorem dX3_ripeBottles_16 : decode cX3_ripeBottles 16 = .ok (.iload_n 3, 1) := by decide +kernel
theorem dX3_ripeBottles_17 : decode cX3_ripeBottles 17 = .ok (.ishr, 1) := by decide +kernel
theorem dX3_ripeBottles_18 : decode cX3_ripeBottles 18 = .ok (.iconst 1, 1) := by decide +kernel
theorem dX3_ripeBottles_19 : decode cX3_ripeBottles 19 = .ok (.iand, 1) := by decide +kernel
theorem dX3_ripeBottles_20 : decode cX3_ripeBottles 20 = .ok (.iconst 1, 1) := by decide +kernel
theorem dX3_ripeBottles_21 : decode cX3_ripeBottles 21 = .ok (.if_icmp .ne 18, 3) := by decide +kernel
theorem dX3_ripeBottles_24 : decode cX3_ripeBottles 24 = .ok (.aload_n 0, 1) := by decide +kernel
theorem dX3_ripeBottles_25 : decode cX3_ripeBottles 25 = .ok (.iload_n 3, 1) := by decide +kernel
theorem dX3_ripeBottles_26 : decode cX3_ripeBottles 26 = .ok (.invokevirtual 134, 3) := by decide +kernel
theorem dX3_ripeBottles_29 : decode cX3_ripeBottles 29 = .ok (.iload_n 1, 1) := by decide +kernel
theorem dX3_ripeBottles_30 : decode cX3_ripeBottles 30 = .ok (.if_icmp .lt 9, 3) := by decide +kernel
theorem dX3_ripeBottles_33 : decode cX3_ripeBottles 33 = .ok (.iload_n 2, 1) := by decide +kernel
theorem dX3_ripeBottles_34 : decode cX3_ripeBottles 34 = .ok (.iconst 1, 1) := by decide +kernel
theorem dX3_ripeBottles_35 : decode cX3_ripeBottles 35 = .ok (.iload_n 3, 1) := by decide +kernel
theorem dX3_ripeBottles_36 : decode cX3_ripeBottles 36 = .ok (.ishl, 1) := by decide +kernel
theorem dX3_ripeBottles_37 : decode cX3_ripeBottles 37 = .ok (.ior, 1) := by decide +kernel
theorem dX3_ripeBottles_38 : decode cX3_ripeBottles 38 = .ok (.istore_n 2, 1) := by decide +kernel
theorem dX3_ripeBottles_39 : decode cX3_ripeBottles 39 = .ok (.iinc 3 1, 3) := by decide +kernel
theorem dX3_ripeBottles_42 : decode cX3_ripeBottles 42 = .ok (.goto (-38), 3) := by decide +kernel
theorem dX3_ripeBottles_45 : decode cX3_ripeBottles 45 = .ok (.iload_n 2, 1) := by decide +kernel
theorem dX3_ripeBottles_46 : decode cX3_ripeBottles 46 = .ok (.ireturn, 1) := by decide +kernel
theorem dX3_burstAll_0 : decode cX3_burstAll 0 = .ok (.iconst 0, 1) := by decide +kernel
theorem dX3_burstAll_1 : decode cX3_burstAll 1 = .ok (.istore_n 2, 1) := by decide +kernel
theorem dX3_burstAll_2 : decode cX3_burstAll 2 = .ok (.iload_n 2, 1) := by decide +kernel
theorem dX3_burstAll_3 : decode cX3_burstAll 3 = .ok (.aload_n 0, 1) := by decide +kernel
theorem dX3_burstAll_4 : decode cX3_burstAll 4 = .ok (.getfield 33, 3) := by decide +kernel
theorem dX3_burstAll_7 : decode cX3_burstAll 7 = .ok (.if_icmp .ge 27, 3) := by decide +kernel
theorem dX3_burstAll_10 : decode cX3_burstAll 10 = .ok (.iload_n 1, 1) := by decide +kernel
theorem dX3_burstAll_11 : decode cX3_burstAll 11 = .ok (.iload_n 2, 1) := by decide +kernel
theorem dX3_burstAll_12 : decode cX3_burstAll 12 = .ok (.ishr, 1) := by decide +kernel
theorem dX3_burstAll_13 : decode cX3_burstAll 13 = .ok (.iconst 1, 1) := by decide +kernel
theorem dX3_burstAll_14 : decode cX3_burstAll 14 = .ok (.iand, 1) := by decide +kernel
theorem dX3_burstAll_15 : decode cX3_burstAll 15 = .ok (.iconst 1, 1) := by decide +kernel
theorem dX3_burstAll_16 : decode cX3_burstAll 16 = .ok (.if_icmp .ne 12, 3) := by decide +kernel
theorem dX3_burstAll_19 : decode cX3_burstAll 19 = .ok (.aload_n 0, 1) := by decide +kernel
theorem dX3_burstAll_20 : decode cX3_burstAll 20 = .ok (.iload_n 2, 1) := by decide +kernel
theorem dX3_burstAll_21 : decode cX3_burstAll 21 = .ok (.aload_n 0, 1) := by decide +kernel
theorem dX3_burstAll_22 : decode cX3_burstAll 22 = .ok (.getfield 30, 3) := by decide +kernel
theorem dX3_burstAll_25 : decode cX3_burstAll 25 = .ok (.invokevirtual 130, 3) := by decide +kernel
theorem dX3_burstAll_28 : decode cX3_burstAll 28 = .ok (.iinc 2 1, 3) := by decide +kernel
theorem dX3_burstAll_31 : decode cX3_burstAll 31 = .ok (.goto (-29), 3) := by decide +kernel
theorem dX3_burstAll_34 : decode cX3_burstAll 34 = .ok (.return_, 1) := by decide +kernel
theorem dX3_isWhole_0 : decode cX3_isWhole 0 = .ok (.iload_n 1, 1) := by decide +kernel
theorem dX3_isWhole_1 : decode cX3_isWhole 1 = .ok (.ifCond .lt 27, 3) := by decide +kernel
theorem dX3_isWhole_4 : decode cX3_isWhole 4 = .ok (.iload_n 1, 1) := by decide +kernel
theorem dX3_isWhole_5 : decode cX3_isWhole 5 = .ok (.aload_n 0, 1) := by decide +kernel
theorem dX3_isWhole_6 : decode cX3_isWhole 6 = .ok (.getfield 33, 3) := by decide +kernel
theorem dX3_isWhole_9 : decode cX3_isWhole 9 = .ok (.if_icmp .ge 19, 3) := by decide +kernel
theorem dX3_isWhole_12 : decode cX3_isWhole 12 = .ok (.aload_n 0, 1) := by decide +kernel
theorem dX3_isWhole_13 : decode cX3_isWhole 13 = .ok (.getfield 40, 3) := by decide +kernel
theorem dX3_isWhole_16 : decode cX3_isWhole 16 = .ok (.iload_n 1, 1) := by decide +kernel
theorem dX3_isWhole_17 : decode cX3_isWhole 17 = .ok (.ishr, 1) := by decide +kernel
theorem dX3_isWhole_18 : decode cX3_isWhole 18 = .ok (.iconst 1, 1) := by decide +kernel
theorem dX3_isWhole_19 : decode cX3_isWhole 19 = .ok (.iand, 1) := by decide +kernel
theorem dX3_isWhole_20 : decode cX3_isWhole 20 = .ok (.iconst 1, 1) := by decide +kernel
theorem dX3_isWhole_21 : decode cX3_isWhole 21 = .ok (.if_icmp .ne 7, 3) := by decide +kernel
theorem dX3_isWhole_24 : decode cX3_isWhole 24 = .ok (.iconst 1, 1) := by decide +kernel
theorem dX3_isWhole_25 : decode cX3_isWhole 25 = .ok (.goto 4, 3) := by decide +kernel
theorem dX3_isWhole_28 : decode cX3_isWhole 28 = .ok (.iconst 0, 1) := by decide +kernel
theorem dX3_isWhole_29 : decode cX3_isWhole 29 = .ok (.ireturn, 1) := by decide +kernel
theorem dX3_muchOf_0 : decode cX3_muchOf 0 = .ok (.iconst 0, 1) := by decide +kernel
theorem dX3_muchOf_1 : decode cX3_muchOf 1 = .ok (.istore_n 3, 1) := by decide +kernel
theorem dX3_muchOf_2 : decode cX3_muchOf 2 = .ok (.iconst 0, 1) := by decide +kernel
theorem dX3_muchOf_3 : decode cX3_muchOf 3 = .ok (.istore 4, 2) := by decide +kernel
theorem dX3_muchOf_5 : decode cX3_muchOf 5 = .ok (.iload 4, 2) := by decide +kernel
theorem dX3_muchOf_7 : decode cX3_muchOf 7 = .ok (.aload_n 0, 1) := by decide +kernel
theorem dX3_muchOf_8 : decode cX3_muchOf 8 = .ok (.getfield 33, 3) := by decide +kernel
theorem dX3_muchOf_11 : decode cX3_muchOf 11 = .ok (.if_icmp .ge 41, 3) := by decide +kernel
theorem dX3_muchOf_14 : decode cX3_muchOf 14 = .ok (.aload_n 0, 1) := by decide +kernel
theorem dX3_muchOf_15 : decode cX3_muchOf 15 = .ok (.getfield 18, 3) := by decide +kernel
theorem dX3_muchOf_18 : decode cX3_muchOf 18 = .ok (.iload 4, 2) := by decide +kernel
theorem dX3_muchOf_20 : decode cX3_muchOf 20 = .ok (.iaload, 1) := by decide +kernel
theorem dX3_muchOf_21 : decode cX3_muchOf 21 = .ok (.iload_n 1, 1) := by decide +kernel
theorem dX3_muchOf_22 : decode cX3_muchOf 22 = .ok (.if_icmp .ne 24, 3) := by decide +kernel
theorem dX3_muchOf_25 : decode cX3_muchOf 25 = .ok (.aload_n 0, 1) := by decide +kernel
theorem dX3_muchOf_26 : decode cX3_muchOf 26 = .ok (.getfield 9, 3) := by decide +kernel
theorem dX3_muchOf_29 : decode cX3_muchOf 29 = .ok (.iload 4, 2) := by decide +kernel
theorem dX3_muchOf_31 : decode cX3_muchOf 31 = .ok (.iaload, 1) := by decide +kernel
theorem dX3_muchOf_32 : decode cX3_muchOf 32 = .ok (.iload_n 2, 1) := by decide +kernel
theorem dX3_muchOf_33 : decode cX3_muchOf 33 = .ok (.if_icmp .ne 13, 3) := by decide +kernel
theorem dX3_muchOf_36 : decode cX3_muchOf 36 = .ok (.iload_n 3, 1) := by decide +kernel
theorem dX3_muchOf_37 : decode cX3_muchOf 37 = .ok (.aload_n 0, 1) := by decide +kernel
theorem dX3_muchOf_38 : decode cX3_muchOf 38 = .ok (.getfield 15, 3) := by decide +kernel
theorem dX3_muchOf_41 : decode cX3_muchOf 41 = .ok (.iload 4, 2) := by decide +kernel
theorem dX3_muchOf_43 : decode cX3_muchOf 43 = .ok (.iaload, 1) := by decide +kernel
theorem dX3_muchOf_44 : decode cX3_muchOf 44 = .ok (.iadd, 1) := by decide +kernel
theorem dX3_muchOf_45 : decode cX3_muchOf 45 = .ok (.istore_n 3, 1) := by decide +kernel
theorem dX3_muchOf_46 : decode cX3_muchOf 46 = .ok (.iinc 4 1, 3) := by decide +kernel
theorem dX3_muchOf_49 : decode cX3_muchOf 49 = .ok (.goto (-44), 3) := by decide +kernel
theorem dX3_muchOf_52 : decode cX3_muchOf 52 = .ok (.iload_n 3, 1) := by decide +kernel
theorem dX3_muchOf_53 : decode cX3_muchOf 53 = .ok (.ireturn, 1) := by decide +kernel
theorem dX3_allIn_0 : decode cX3_allIn 0 = .ok (.iconst 0, 1) := by decide +kernel
theorem dX3_allIn_1 : decode cX3_allIn 1 = .ok (.istore_n 2, 1) := by decide +kernel
theorem dX3_allIn_2 : decode cX3_allIn 2 = .ok (.iconst 0, 1) := by decide +kernel
theorem dX3_allIn_3 : decode cX3_allIn 3 = .ok (.istore_n 3, 1) := by decide +kernel
theorem dX3_allIn_4 : decode cX3_allIn 4 = .ok (.iload_n 3, 1) := by decide +kernel
theorem dX3_allIn_5 : decode cX3_allIn 5 = .ok (.aload_n 0, 1) := by decide +kernel
theorem dX3_allIn_6 : decode cX3_allIn 6 = .ok (.getfield 33, 3) := by decide +kernel
theorem dX3_allIn_9 : decode cX3_allIn 9 = .ok (.if_icmp .ge 28, 3) := by decide +kernel
theorem dX3_allIn_12 : decode cX3_allIn 12 = .ok (.aload_n 0, 1) := by decide +kernel
theorem dX3_allIn_13 : decode cX3_allIn 13 = .ok (.getfield 18, 3) := by decide +kernel
theorem dX3_allIn_16 : decode cX3_allIn 16 = .ok (.iload_n 3, 1) := by decide +kernel
theorem dX3_allIn_17 : decode cX3_allIn 17 = .ok (.iaload, 1) := by decide +kernel
theorem dX3_allIn_18 : decode cX3_allIn 18 = .ok (.iload_n 1, 1) := by decide +kernel
theorem dX3_allIn_19 : decode cX3_allIn 19 = .ok (.if_icmp .ne 12, 3) := by decide +kernel
theorem dX3_allIn_22 : decode cX3_allIn 22 = .ok (.iload_n 2, 1) := by decide +kernel
theorem dX3_allIn_23 : decode cX3_allIn 23 = .ok (.aload_n 0, 1) := by decide +kernel
theorem dX3_allIn_24 : decode cX3_allIn 24 = .ok (.getfield 15, 3) := by decide +kernel
theorem dX3_allIn_27 : decode cX3_allIn 27 = .ok (.iload_n 3, 1) := by decide +kernel
theorem dX3_allIn_28 : decode cX3_allIn 28 = .ok (.iaload, 1) := by decide +kernel
theorem dX3_allIn_29 : decode cX3_allIn 29 = .ok (.iadd, 1) := by decide +kernel
theorem dX3_allIn_30 : decode cX3_allIn 30 = .ok (.istore_n 2, 1) := by decide +kernel
theorem dX3_allIn_31 : decode cX3_allIn 31 = .ok (.iinc 3 1, 3) := by decide +kernel
theorem dX3_allIn_34 : decode cX3_allIn 34 = .ok (.goto (-30), 3) := by decide +kernel
theorem dX3_allIn_37 : decode cX3_allIn 37 = .ok (.iload_n 2, 1) := by decide +kernel
theorem dX3_allIn_38 : decode cX3_allIn 38 = .ok (.ireturn, 1) := by decide +kernel
theorem dX3_voicesWith_0 : decode cX3_voicesWith 0 = .ok (.iconst 0, 1) := by decide +kernel
theorem dX3_voicesWith_1 : decode cX3_voicesWith 1 = .ok (.istore_n 2, 1) := by decide +kernel
theorem dX3_voicesWith_2 : decode cX3_voicesWith 2 = .ok (.iconst 0, 1) := by decide +kernel
theorem dX3_voicesWith_3 : decode cX3_voicesWith 3 = .ok (.istore_n 3, 1) := by decide +kernel
theorem dX3_voicesWith_4 : decode cX3_voicesWith 4 = .ok (.iload_n 3, 1) := by decide +kernel
theorem dX3_voicesWith_5 : decode cX3_voicesWith 5 = .ok (.aload_n 0, 1) := by decide +kernel
theorem dX3_voicesWith_6 : decode cX3_voicesWith 6 = .ok (.getfield 33, 3) := by decide +kernel
theorem dX3_voicesWith_9 : decode cX3_voicesWith 9 = .ok (.if_icmp .ge 49, 3) := by decide +kernel
theorem dX3_voicesWith_12 : decode cX3_voicesWith 12 = .ok (.aload_n 0, 1) := by decide +kernel
theorem dX3_voicesWith_13 : decode cX3_voicesWith 13 = .ok (.getfield 15, 3) := by decide +kernel
theorem dX3_voicesWith_16 : decode cX3_voicesWith 16 = .ok (.iload_n 3, 1) := by decide +kernel
theorem dX3_voicesWith_17 : decode cX3_voicesWith 17 = .ok (.iaload, 1) := by decide +kernel
theorem dX3_voicesWith_18 : decode cX3_voicesWith 18 = .ok (.ifCond .le 34, 3) := by decide +kernel
theorem dX3_voicesWith_21 : decode cX3_voicesWith 21 = .ok (.iload_n 1, 1) := by decide +kernel
theorem dX3_voicesWith_22 : decode cX3_voicesWith 22 = .ok (.iconst (-1), 1) := by decide +kernel
theorem dX3_voicesWith_23 : decode cX3_voicesWith 23 = .ok (.if_icmp .eq 18, 3) := by decide +kernel
theorem dX3_voicesWith_26 : decode cX3_voicesWith 26 = .ok (.aload_n 0, 1) := by decide +kernel
theorem dX3_voicesWith_27 : decode cX3_voicesWith 27 = .ok (.getfield 24, 3) := by decide +kernel
theorem dX3_voicesWith_30 : decode cX3_voicesWith 30 = .ok (.aload_n 0, 1) := by decide +kernel
theorem dX3_voicesWith_31 : decode cX3_voicesWith 31 = .ok (.getfield 18, 3) := by decide +kernel
theorem dX3_voicesWith_34 : decode cX3_voicesWith 34 = .ok (.iload_n 3, 1) := by decide +kernel
theorem dX3_voicesWith_35 : decode cX3_voicesWith 35 = .ok (.iaload, 1) := by decide +kernel
theorem dX3_voicesWith_36 : decode cX3_voicesWith 36 = .ok (.iaload, 1) := by decide +kernel
theorem dX3_voicesWith_37 : decode cX3_voicesWith 37 = .ok (.iload_n 1, 1) := by decide +kernel
theorem dX3_voicesWith_38 : decode cX3_voicesWith 38 = .ok (.if_icmp .ne 14, 3) := by decide +kernel
theorem dX3_voicesWith_41 : decode cX3_voicesWith 41 = .ok (.iload_n 2, 1) := by decide +kernel
theorem dX3_voicesWith_42 : decode cX3_voicesWith 42 = .ok (.iconst 1, 1) := by decide +kernel
theorem dX3_voicesWith_43 : decode cX3_voicesWith 43 = .ok (.aload_n 0, 1) := by decide +kernel
theorem dX3_voicesWith_44 : decode cX3_voicesWith 44 = .ok (.getfield 9, 3) := by decide +kernel
theorem dX3_voicesWith_47 : decode cX3_voicesWith 47 = .ok (.iload_n 3, 1) := by decide +kernel
theorem dX3_voicesWith_48 : decode cX3_voicesWith 48 = .ok (.iaload, 1) := by decide +kernel
theorem dX3_voicesWith_49 : decode cX3_voicesWith 49 = .ok (.ishl, 1) := by decide +kernel
theorem dX3_voicesWith_50 : decode cX3_voicesWith 50 = .ok (.ior, 1) := by decide +kernel
theorem dX3_voicesWith_51 : decode cX3_voicesWith 51 = .ok (.istore_n 2, 1) := by decide +kernel
theorem dX3_voicesWith_52 : decode cX3_voicesWith 52 = .ok (.iinc 3 1, 3) := by decide +kernel
theorem dX3_voicesWith_55 : decode cX3_voicesWith 55 = .ok (.goto (-51), 3) := by decide +kernel
theorem dX3_voicesWith_58 : decode cX3_voicesWith 58 = .ok (.iload_n 2, 1) := by decide +kernel
theorem dX3_voicesWith_59 : decode cX3_voicesWith 59 = .ok (.ireturn, 1) := by decide +kernel
theorem dX4_init_0 : decode cX4_init 0 = .ok (.aload_n 0, 1) := by decide +kernel
theorem dX4_init_1 : decode cX4_init 1 = .ok (.invokespecial 3, 3) := by decide +kernel
theorem dX4_init_4 : decode cX4_init 4 = .ok (.aload_n 0, 1) := by decide +kernel
theorem dX4_init_5 : decode cX4_init 5 = .ok (.bipush 8, 2) := by decide +kernel
theorem dX4_init_7 : decode cX4_init 7 = .ok (.newarray .int, 2) := by decide +kernel
theorem dX4_init_9 : decode cX4_init 9 = .ok (.putfield 9, 3) := by decide +kernel
theorem dX4_init_12 : decode cX4_init 12 = .ok (.aload_n 0, 1) := by decide +kernel
theorem dX4_init_13 : decode cX4_init 13 = .ok (.bipush 8, 2) := by decide +kernel
theorem dX4_init_15 : decode cX4_init 15 = .ok (.newarray .int, 2) := by decide +kernel
theorem dX4_init_17 : decode cX4_init 17 = .ok (.putfield 15, 3) := by decide +kernel
theorem dX4_init_20 : decode cX4_init 20 = .ok (.aload_n 0, 1) := by decide +kernel
theorem dX4_init_21 : decode cX4_init 21 = .ok (.bipush 8, 2) := by decide +kernel
theorem dX4_init_23 : decode cX4_init 23 = .ok (.newarray .int, 2) := by decide +kernel
theorem dX4_init_25 : decode cX4_init 25 = .ok (.putfield 18, 3) := by decide +kernel
theorem dX4_init_28 : decode cX4_init 28 = .ok (.aload_n 0, 1) := by decide +kernel
theorem dX4_init_29 : decode cX4_init 29 = .ok (.iconst 0, 1) := by decide +kernel
theorem dX4_init_30 : decode cX4_init 30 = .ok (.putfield 21, 3) := by decide +kernel
theorem dX4_init_33 : decode cX4_init 33 = .ok (.aload_n 0, 1) := by decide +kernel
theorem dX4_init_34 : decode cX4_init 34 = .ok (.iconst 0, 1) := by decide +kernel
theorem dX4_init_35 : decode cX4_init 35 = .ok (.putfield 25, 3) := by decide +kernel
theorem dX4_init_38 : decode cX4_init 38 = .ok (.return_, 1) := by decide +kernel
theorem dX4_takeFrom_0 : decode cX4_takeFrom 0 = .ok (.aload_n 0, 1) := by decide +kernel
theorem dX4_takeFrom_1 : decode cX4_takeFrom 1 = .ok (.aload_n 1, 1) := by decide +kernel
theorem dX4_takeFrom_2 : decode cX4_takeFrom 2 = .ok (.invokevirtual 28, 3) := by decide +kernel
theorem dX4_takeFrom_5 : decode cX4_takeFrom 5 = .ok (.iconst (-1), 1) := by decide +kernel
theorem dX4_takeFrom_6 : decode cX4_takeFrom 6 = .ok (.if_icmp .ne 20, 3) := by decide +kernel
theorem dX4_takeFrom_9 : decode cX4_takeFrom 9 = .ok (.bipush 8, 2) := by decide +kernel
theorem dX4_takeFrom_11 : decode cX4_takeFrom 11 = .ok (.aload_n 1, 1) := by decide +kernel
theorem dX4_takeFrom_12 : decode cX4_takeFrom 12 = .ok (.getfield 34, 3) := by decide +kernel
theorem dX4_takeFrom_15 : decode cX4_takeFrom 15 = .ok (.iconst 1, 1) := by decide +kernel
theorem dX4_takeFrom_16 : decode cX4_takeFrom 16 = .ok (.iadd, 1) := by decide +kernel
theorem dX4_takeFrom_17 : decode cX4_takeFrom 17 = .ok (.bipush 6, 2) := by decide +kernel
theorem dX4_takeFrom_19 : decode cX4_takeFrom 19 = .ok (.idiv, 1) := by decide +kernel
theorem dX4_takeFrom_20 : decode cX4_takeFrom 20 = .ok (.invokestatic 35, 3) := by decide +kernel
theorem dX4_takeFrom_23 : decode cX4_takeFrom 23 = .ok (.goto 4, 3) := by decide +kernel
theorem dX4_takeFrom_26 : decode cX4_takeFrom 26 = .ok (.iconst 0, 1) := by decide +kernel
theorem dX4_takeFrom_27 : decode cX4_takeFrom 27 = .ok (.putfield 25, 3) := by decide +kernel
theorem dX4_takeFrom_30 : decode cX4_takeFrom 30 = .ok (.aload_n 0, 1) := by decide +kernel
theorem dX4_takeFrom_31 : decode cX4_takeFrom 31 = .ok (.iconst 0, 1) := by decide +kernel
theorem dX4_takeFrom_32 : decode cX4_takeFrom 32 = .ok (.putfield 21, 3) := by decide +kernel
theorem dX4_takeFrom_35 : decode cX4_takeFrom 35 = .ok (.iconst 0, 1) := by decide +kernel
theorem dX4_takeFrom_36 : decode cX4_takeFrom 36 = .ok (.istore_n 2, 1) := by decide +kernel
theorem dX4_takeFrom_37 : decode cX4_takeFrom 37 = .ok (.iload_n 2, 1) := by decide +kernel
theorem dX4_takeFrom_38 : decode cX4_takeFrom 38 = .ok (.aload_n 0, 1) := by decide +kernel
theorem dX4_takeFrom_39 : decode cX4_takeFrom 39 = .ok (.getfield 25, 3) := by decide +kernel
theorem dX4_takeFrom_42 : decode cX4_takeFrom 42 = .ok (.if_icmp .ge 103, 3) := by decide +kernel
theorem dX4_takeFrom_45 : decode cX4_takeFrom 45 = .ok (.bipush 6, 2) := by decide +kernel
theorem dX4_takeFrom_47 : decode cX4_takeFrom 47 = .ok (.iload_n 2, 1) := by decide +kernel
theorem dX4_takeFrom_48 : decode cX4_takeFrom 48 = .ok (.imul, 1) := by decide +kernel
theorem dX4_takeFrom_49 : decode cX4_takeFrom 49 = .ok (.istore_n 3, 1) := by decide +kernel
theorem dX4_takeFrom_50 : decode cX4_takeFrom 50 = .ok (.aload_n 0, 1) := by decide +kernel
theorem dX4_takeFrom_51 : decode cX4_takeFrom 51 = .ok (.getfield 9, 3) := by decide +kernel
theorem dX4_takeFrom_54 : decode cX4_takeFrom 54 = .ok (.iload_n 2, 1) := by decide +kernel
theorem dX4_takeFrom_55 : decode cX4_takeFrom 55 = .ok (.aload_n 1, 1) := by decide +kernel
theorem dX4_takeFrom_56 : decode cX4_takeFrom 56 = .ok (.getfield 41, 3) := by decide +kernel
theorem dX4_takeFrom_59 : decode cX4_takeFrom 59 = .ok (.iload_n 3, 1) := by decide +kernel
theorem dX4_takeFrom_60 : decode cX4_takeFrom 60 = .ok (.iaload, 1) := by decide +kernel
theorem dX4_takeFrom_61 : decode cX4_takeFrom 61 = .ok (.bipush 97, 2) := by decide +kernel
theorem dX4_takeFrom_63 : decode cX4_takeFrom 63 = .ok (.isub, 1) := by decide +kernel
theorem dX4_takeFrom_64 : decode cX4_takeFrom 64 = .ok (.iastore, 1) := by decide +kernel
theorem dX4_takeFrom_65 : decode cX4_takeFrom 65 = .ok (.aload_n 0, 1) := by decide +kernel
theorem dX4_takeFrom_66 : decode cX4_takeFrom 66 = .ok (.getfield 15, 3) := by decide +kernel
theorem dX4_takeFrom_69 : decode cX4_takeFrom 69 = .ok (.iload_n 2, 1) := by decide +kernel
theorem dX4_takeFrom_70 : decode cX4_takeFrom 70 = .ok (.bipush 10, 2) := by decide +kernel
theorem dX4_takeFrom_72 : decode cX4_takeFrom 72 = .ok (.aload_n 1, 1) := by decide +kernel
theorem dX4_takeFrom_73 : decode cX4_takeFrom 73 = .ok (.getfield 41, 3) := by decide +kernel
theorem dX4_takeFrom_76 : decode cX4_takeFrom 76 = .ok (.iload_n 3, 1) := by decide +kernel
theorem dX4_takeFrom_77 : decode cX4_takeFrom 77 = .ok (.iconst 1, 1) := by decide +kernel
theorem dX4_takeFrom_78 : decode cX4_takeFrom 78 = .ok (.iadd, 1) := by decide +kernel
theorem dX4_takeFrom_79 : decode cX4_takeFrom 79 = .ok (.iaload, 1) := by decide +kernel
theorem dX4_takeFrom_80 : decode cX4_takeFrom 80 = .ok (.bipush 48, 2) := by decide +kernel
theorem dX4_takeFrom_82 : decode cX4_takeFrom 82 = .ok (.isub, 1) := by decide +kernel
theorem dX4_takeFrom_83 : decode cX4_takeFrom 83 = .ok (.imul, 1) := by decide +kernel
theorem dX4_takeFrom_84 : decode cX4_takeFrom 84 = .ok (.aload_n 1, 1) := by decide +kernel
theorem dX4_takeFrom_85 : decode cX4_takeFrom 85 = .ok (.getfield 41, 3) := by decide +kernel
theorem dX4_takeFrom_88 : decode cX4_takeFrom 88 = .ok (.iload_n 3, 1) := by decide +kernel
theorem dX4_takeFrom_89 : decode cX4_takeFrom 89 = .ok (.iconst 2, 1) := by decide +kernel
theorem dX4_takeFrom_90 : decode cX4_takeFrom 90 = .ok (.iadd, 1) := by decide +kernel
theorem dX4_takeFrom_91 : decode cX4_takeFrom 91 = .ok (.iaload, 1) := by decide +kernel
theorem dX4_takeFrom_92 : decode cX4_takeFrom 92 = .ok (.iadd, 1) := by decide +kernel
theorem dX4_takeFrom_93 : decode cX4_takeFrom 93 = .ok (.bipush 48, 2) := by decide +kernel
theorem dX4_takeFrom_95 : decode cX4_takeFrom 95 = .ok (.isub, 1) := by decide +kernel
theorem dX4_takeFrom_96 : decode cX4_takeFrom 96 = .ok (.iastore, 1) := by decide +kernel
theorem dX4_takeFrom_97 : decode cX4_takeFrom 97 = .ok (.aload_n 0, 1) := by decide +kernel
theorem dX4_takeFrom_98 : decode cX4_takeFrom 98 = .ok (.getfield 18, 3) := by decide +kernel
theorem dX4_takeFrom_101 : decode cX4_takeFrom 101 = .ok (.iload_n 2, 1) := by decide +kernel
theorem dX4_takeFrom_102 : decode cX4_takeFrom 102 = .ok (.aload_n 1, 1) := by decide +kernel
theorem dX4_takeFrom_103 : decode cX4_takeFrom 103 = .ok (.getfield 41, 3) := by decide +kernel
theorem dX4_takeFrom_106 : decode cX4_takeFrom 106 = .ok (.iload_n 3, 1) := by decide +kernel
theorem dX4_takeFrom_107 : decode cX4_takeFrom 107 = .ok (.iconst 3, 1) := by decide +kernel
theorem dX4_takeFrom_108 : decode cX4_takeFrom 108 = .ok (.iadd, 1) := by decide +kernel
theorem dX4_takeFrom_109 : decode cX4_takeFrom 109 = .ok (.iaload, 1) := by decide +kernel
theorem dX4_takeFrom_110 : decode cX4_takeFrom 110 = .ok (.bipush 48, 2) := by decide +kernel
theorem dX4_takeFrom_112 : decode cX4_takeFrom 112 = .ok (.isub, 1) := by decide +kernel
theorem dX4_takeFrom_113 : decode cX4_takeFrom 113 = .ok (.iastore, 1) := by decide +kernel
theorem dX4_takeFrom_114 : decode cX4_takeFrom 114 = .ok (.aload_n 1, 1) := by decide +kernel
theorem dX4_takeFrom_115 : decode cX4_takeFrom 115 = .ok (.getfield 41, 3) := by decide +kernel
theorem dX4_takeFrom_118 : decode cX4_takeFrom 118 = .ok (.iload_n 3, 1) := by decide +kernel
theorem dX4_takeFrom_119 : decode cX4_takeFrom 119 = .ok (.iconst 4, 1) := by decide +kernel
theorem dX4_takeFrom_120 : decode cX4_takeFrom 120 = .ok (.iadd, 1) := by decide +kernel
theorem dX4_takeFrom_121 : decode cX4_takeFrom 121 = .ok (.iaload, 1) := by decide +kernel
theorem dX4_takeFrom_122 : decode cX4_takeFrom 122 = .ok (.bipush 115, 2) := by decide +kernel
theorem dX4_takeFrom_124 : decode cX4_takeFrom 124 = .ok (.if_icmp .ne 15, 3) := by decide +kernel
theorem dX4_takeFrom_127 : decode cX4_takeFrom 127 = .ok (.aload_n 0, 1) := by decide +kernel
theorem dX4_takeFrom_128 : decode cX4_takeFrom 128 = .ok (.dup, 1) := by decide +kernel
theorem dX4_takeFrom_129 : decode cX4_takeFrom 129 = .ok (.getfield 21, 3) := by decide +kernel
theorem dX4_takeFrom_132 : decode cX4_takeFrom 132 = .ok (.iconst 1, 1) := by decide +kernel
theorem dX4_takeFrom_133 : decode cX4_takeFrom 133 = .ok (.iload_n 2, 1) := by decide +kernel
theorem dX4_takeFrom_134 : decode cX4_takeFrom 134 = .ok (.ishl, 1) := by decide +kernel
theorem dX4_takeFrom_135 : decode cX4_takeFrom 135 = .ok (.ior, 1) := by decide +kernel
theorem dX4_takeFrom_136 : decode cX4_takeFrom 136 = .ok (.putfield 21, 3) := by decide +kernel
theorem dX4_takeFrom_139 : decode cX4_takeFrom 139 = .ok (.iinc 2 1, 3) := by decide +kernel
theorem dX4_takeFrom_142 : decode cX4_takeFrom 142 = .ok (.goto (-105), 3) := by decide +kernel
theorem dX4_takeFrom_145 : decode cX4_takeFrom 145 = .ok (.return_, 1) := by decide +kernel
theorem dX4_voices_0 : decode cX4_voices 0 = .ok (.iconst 0, 1) := by decide +kernel
theorem dX4_voices_1 : decode cX4_voices 1 = .ok (.istore_n 1, 1) := by decide +kernel
theorem dX4_voices_2 : decode cX4_voices 2 = .ok (.iconst 0, 1) := by decide +kernel
theorem dX4_voices_3 : decode cX4_voices 3 = .ok (.istore_n 2, 1) := by decide +kernel
theorem dX4_voices_4 : decode cX4_voices 4 = .ok (.iload_n 2, 1) := by decide +kernel
theorem dX4_voices_5 : decode cX4_voices 5 = .ok (.aload_n 0, 1) := by decide +kernel
theorem dX4_voices_6 : decode cX4_voices 6 = .ok (.getfield 25, 3) := by decide +kernel
theorem dX4_voices_9 : decode cX4_voices 9 = .ok (.if_icmp .ge 20, 3) := by decide +kernel
theorem dX4_voices_12 : decode cX4_voices 12 = .ok (.iload_n 1, 1) := by decide +kernel
theorem dX4_voices_13 : decode cX4_voices 13 = .ok (.iconst 1, 1) := by decide +kernel
theorem dX4_voices_14 : decode cX4_voices 14 = .ok (.aload_n 0, 1) := by decide +kernel
theorem dX4_voices_15 : decode cX4_voices 15 = .ok (.getfield 9, 3) := by decide +kernel
theorem dX4_voices_18 : decode cX4_voices 18 = .ok (.iload_n 2, 1) := by decide +kernel
theorem dX4_voices_19 : decode cX4_voices 19 = .ok (.iaload, 1) := by decide +kernel
theorem dX4_voices_20 : decode cX4_voices 20 = .ok (.ishl, 1) := by decide +kernel
theorem dX4_voices_21 : decode cX4_voices 21 = .ok (.ior, 1) := by decide +kernel
theorem dX4_voices_22 : decode cX4_voices 22 = .ok (.istore_n 1, 1) := by decide +kernel
theorem dX4_voices_23 : decode cX4_voices 23 = .ok (.iinc 2 1, 3) := by decide +kernel
theorem dX4_voices_26 : decode cX4_voices 26 = .ok (.goto (-22), 3) := by decide +kernel
theorem dX4_voices_29 : decode cX4_voices 29 = .ok (.iload_n 1, 1) := by decide +kernel
theorem dX4_voices_30 : decode cX4_voices 30 = .ok (.ireturn, 1) := by decide +kernel
theorem dX5_init_0 : decode cX5_init 0 = .ok (.aload_n 0, 1) := by decide +kernel
theorem dX5_init_1 : decode cX5_init 1 = .ok (.invokespecial 3, 3) := by decide +kernel
theorem dX5_init_4 : decode cX5_init 4 = .ok (.aload_n 0, 1) := by decide +kernel
theorem dX5_init_5 : decode cX5_init 5 = .ok (.bipush 47, 2) := by decide +kernel
theorem dX5_init_7 : decode cX5_init 7 = .ok (.newarray .int, 2) := by decide +kernel
theorem dX5_init_9 : decode cX5_init 9 = .ok (.putfield 9, 3) := by decide +kernel
theorem dX5_init_12 : decode cX5_init 12 = .ok (.aload_n 0, 1) := by decide +kernel
theorem dX5_init_13 : decode cX5_init 13 = .ok (.iconst 0, 1) := by decide +kernel
theorem dX5_init_14 : decode cX5_init 14 = .ok (.putfield 15, 3) := by decide +kernel
theorem dX5_init_17 : decode cX5_init 17 = .ok (.aload_n 0, 1) := by decide +kernel
theorem dX5_init_18 : decode cX5_init 18 = .ok (.iload_n 1, 1) := by decide +kernel
theorem dX5_init_19 : decode cX5_init 19 = .ok (.bipush 47, 2) := by decide +kernel
theorem dX5_init_21 : decode cX5_init 21 = .ok (.invokestatic 19, 3) := by decide +kernel
theorem dX5_init_24 : decode cX5_init 24 = .ok (.putfield 25, 3) := by decide +kernel
theorem dX5_init_27 : decode cX5_init 27 = .ok (.return_, 1) := by decide +kernel
theorem dX5_faultAsBottles_0 : decode cX5_faultAsBottles 0 = .ok (.iconst 0, 1) := by decide +kernel
theorem dX5_faultAsBottles_1 : decode cX5_faultAsBottles 1 = .ok (.istore_n 1, 1) := by decide +kernel
theorem dX5_faultAsBottles_2 : decode cX5_faultAsBottles 2 = .ok (.iload_n 1, 1) := by decide +kernel
theorem dX5_faultAsBottles_3 : decode cX5_faultAsBottles 3 = .ok (.aload_n 0, 1) := by decide +kernel
theorem dX5_faultAsBottles_4 : decode cX5_faultAsBottles 4 = .ok (.getfield 15, 3) := by decide +kernel
theorem dX5_faultAsBottles_7 : decode cX5_faultAsBottles 7 = .ok (.if_icmp .ge 19, 3) := by decide +kernel
theorem dX5_faultAsBottles_10 : decode cX5_faultAsBottles 10 = .ok (.aload_n 0, 1) := by decide +kernel
theorem dX5_faultAsBottles_11 : decode cX5_faultAsBottles 11 = .ok (.iload_n 1, 1) := by decide +kernel
theorem dX5_faultAsBottles_12 : decode cX5_faultAsBottles 12 = .ok (.invokevirtual 28, 3) := by decide +kernel
theorem dX5_faultAsBottles_15 : decode cX5_faultAsBottles 15 = .ok (.ifCond .ne 5, 3) := by decide +kernel
theorem dX5_faultAsBottles_18 : decode cX5_faultAsBottles 18 = .ok (.iload_n 1, 1) := by decide +kernel
theorem dX5_faultAsBottles_19 : decode cX5_faultAsBottles 19 = .ok (.ireturn, 1) := by decide +kernel
theorem dX5_faultAsBottles_20 : decode cX5_faultAsBottles 20 = .ok (.iinc 1 1, 3) := by decide +kernel
theorem dX5_faultAsBottles_23 : decode cX5_faultAsBottles 23 = .ok (.goto (-21), 3) := by decide +kernel
theorem dX5_faultAsBottles_26 : decode cX5_faultAsBottles 26 = .ok (.aload_n 0, 1) := by decide +kernel
theorem dX5_faultAsBottles_27 : decode cX5_faultAsBottles 27 = .ok (.getfield 15, 3) := by decide +kernel
theorem dX5_faultAsBottles_30 : decode cX5_faultAsBottles 30 = .ok (.ifCond .eq 14, 3) := by decide +kernel
theorem dX5_faultAsBottles_33 : decode cX5_faultAsBottles 33 = .ok (.aload_n 0, 1) := by decide +kernel
theorem dX5_faultAsBottles_34 : decode cX5_faultAsBottles 34 = .ok (.getfield 15, 3) := by decide +kernel
theorem dX5_faultAsBottles_37 : decode cX5_faultAsBottles 37 = .ok (.bipush 6, 2) := by decide +kernel
theorem dX5_faultAsBottles_39 : decode cX5_faultAsBottles 39 = .ok (.irem, 1) := by decide +kernel
theorem dX5_faultAsBottles_40 : decode cX5_faultAsBottles 40 = .ok (.iconst 5, 1) := by decide +kernel
theorem dX5_faultAsBottles_41 : decode cX5_faultAsBottles 41 = .ok (.if_icmp .ne 7, 3) := by decide +kernel
theorem dX5_faultAsBottles_44 : decode cX5_faultAsBottles 44 = .ok (.iconst (-1), 1) := by decide +kernel
theorem dX5_faultAsBottles_45 : decode cX5_faultAsBottles 45 = .ok (.goto 7, 3) := by decide +kernel
theorem dX5_faultAsBottles_48 : decode cX5_faultAsBottles 48 = .ok (.aload_n 0, 1) := by decide +kernel
theorem dX5_faultAsBottles_49 : decode cX5_faultAsBottles 49 = .ok (.getfield 15, 3) := by decide +kernel
theorem dX5_faultAsBottles_52 : decode cX5_faultAsBottles 52 = .ok (.ireturn, 1) := by decide +kernel
theorem dX5_mayStandAt_0 : decode cX5_mayStandAt 0 = .ok (.aload_n 0, 1) := by decide +kernel
theorem dX5_mayStandAt_1 : decode cX5_mayStandAt 1 = .ok (.getfield 9, 3) := by decide +kernel
theorem dX5_mayStandAt_4 : decode cX5_mayStandAt 4 = .ok (.iload_n 1, 1) := by decide +kernel
theorem dX5_mayStandAt_5 : decode cX5_mayStandAt 5 = .ok (.iaload, 1) := by decide +kernel
theorem dX5_mayStandAt_6 : decode cX5_mayStandAt 6 = .ok (.istore_n 2, 1) := by decide +kernel
theorem dX5_mayStandAt_7 : decode cX5_mayStandAt 7 = .ok (.iload_n 1, 1) := by decide +kernel
theorem dX5_mayStandAt_8 : decode cX5_mayStandAt 8 = .ok (.bipush 6, 2) := by decide +kernel
theorem dX5_mayStandAt_10 : decode cX5_mayStandAt 10 = .ok (.irem, 1) := by decide +kernel
theorem dX5_mayStandAt_11 : decode cX5_mayStandAt 11 = .ok (.tableswitch 98 0 4 #[33, 38, 43, 38, 80], 33) := by decide +kernel
theorem dX5_mayStandAt_44 : decode cX5_mayStandAt 44 = .ok (.iload_n 2, 1) := by decide +kernel
theorem dX5_mayStandAt_45 : decode cX5_mayStandAt 45 = .ok (.invokestatic 32, 3) := by decide +kernel
theorem dX5_mayStandAt_48 : decode cX5_mayStandAt 48 = .ok (.ireturn, 1) := by decide +kernel
theorem dX5_mayStandAt_49 : decode cX5_mayStandAt 49 = .ok (.iload_n 2, 1) := by decide +kernel
theorem dX5_mayStandAt_50 : decode cX5_mayStandAt 50 = .ok (.invokestatic 35, 3) := by decide +kernel
theorem dX5_mayStandAt_53 : decode cX5_mayStandAt 53 = .ok (.ireturn, 1) := by decide +kernel
theorem dX5_mayStandAt_54 : decode cX5_mayStandAt 54 = .ok (.iload_n 2, 1) := by decide +kernel
theorem dX5_mayStandAt_55 : decode cX5_mayStandAt 55 = .ok (.invokestatic 35, 3) := by decide +kernel
theorem dX5_mayStandAt_58 : decode cX5_mayStandAt 58 = .ok (.ifCond .eq 31, 3) := by decide +kernel
theorem dX5_mayStandAt_61 : decode cX5_mayStandAt 61 = .ok (.iload_n 2, 1) := by decide +kernel
theorem dX5_mayStandAt_62 : decode cX5_mayStandAt 62 = .ok (.bipush 48, 2) := by decide +kernel
theorem dX5_mayStandAt_64 : decode cX5_mayStandAt 64 = .ok (.if_icmp .ne 21, 3) := by decide +kernel
theorem dX5_mayStandAt_67 : decode cX5_mayStandAt 67 = .ok (.iload_n 1, 1) := by decide +kernel
theorem dX5_mayStandAt_68 : decode cX5_mayStandAt 68 = .ok (.iconst 1, 1) := by decide +kernel
theorem dX5_mayStandAt_69 : decode cX5_mayStandAt 69 = .ok (.if_icmp .lt 16, 3) := by decide +kernel
theorem dX5_mayStandAt_72 : decode cX5_mayStandAt 72 = .ok (.aload_n 0, 1) := by decide +kernel
theorem dX5_mayStandAt_73 : decode cX5_mayStandAt 73 = .ok (.getfield 9, 3) := by decide +kernel
theorem dX5_mayStandAt_76 : decode cX5_mayStandAt 76 = .ok (.iload_n 1, 1) := by decide +kernel
theorem dX5_mayStandAt_77 : decode cX5_mayStandAt 77 = .ok (.iconst 1, 1) := by decide +kernel
theorem dX5_mayStandAt_78 : decode cX5_mayStandAt 78 = .ok (.isub, 1) := by decide +kernel
theorem dX5_mayStandAt_79 : decode cX5_mayStandAt 79 = .ok (.iaload, 1) := by decide +kernel
theorem dX5_mayStandAt_80 : decode cX5_mayStandAt 80 = .ok (.bipush 48, 2) := by decide +kernel
theorem dX5_mayStandAt_82 : decode cX5_mayStandAt 82 = .ok (.if_icmp .eq 7, 3) := by decide +kernel
theorem dX5_mayStandAt_85 : decode cX5_mayStandAt 85 = .ok (.iconst 1, 1) := by decide +kernel
theorem dX5_mayStandAt_86 : decode cX5_mayStandAt 86 = .ok (.goto 4, 3) := by decide +kernel
theorem dX5_mayStandAt_89 : decode cX5_mayStandAt 89 = .ok (.iconst 0, 1) := by decide +kernel
theorem dX5_mayStandAt_90 : decode cX5_mayStandAt 90 = .ok (.ireturn, 1) := by decide +kernel
theorem dX5_mayStandAt_91 : decode cX5_mayStandAt 91 = .ok (.iload_n 2, 1) := by decide +kernel
theorem dX5_mayStandAt_92 : decode cX5_mayStandAt 92 = .ok (.bipush 110, 2) := by decide +kernel
theorem dX5_mayStandAt_94 : decode cX5_mayStandAt 94 = .ok (.if_icmp .eq 9, 3) := by decide +kernel
theorem dX5_mayStandAt_97 : decode cX5_mayStandAt 97 = .ok (.iload_n 2, 1) := by decide +kernel
theorem dX5_mayStandAt_98 : decode cX5_mayStandAt 98 = .ok (.bipush 115, 2) := by decide +kernel
theorem dX5_mayStandAt_100 : decode cX5_mayStandAt 100 = .ok (.if_icmp .ne 7, 3) := by decide +kernel
theorem dX5_mayStandAt_103 : decode cX5_mayStandAt 103 = .ok (.iconst 1, 1) := by decide +kernel
theorem dX5_mayStandAt_104 : decode cX5_mayStandAt 104 = .ok (.goto 4, 3) := by decide +kernel
theorem dX5_mayStandAt_107 : decode cX5_mayStandAt 107 = .ok (.iconst 0, 1) := by decide +kernel
theorem dX5_mayStandAt_108 : decode cX5_mayStandAt 108 = .ok (.ireturn, 1) := by decide +kernel
theorem dX5_mayStandAt_109 : decode cX5_mayStandAt 109 = .ok (.iload_n 2, 1) := by decide +kernel
theorem dX5_mayStandAt_110 : decode cX5_mayStandAt 110 = .ok (.bipush 59, 2) := by decide +kernel
theorem dX5_mayStandAt_112 : decode cX5_mayStandAt 112 = .ok (.if_icmp .ne 7, 3) := by decide +kernel
theorem dX5_mayStandAt_115 : decode cX5_mayStandAt 115 = .ok (.iconst 1, 1) := by decide +kernel
theorem dX5_mayStandAt_116 : decode cX5_mayStandAt 116 = .ok (.goto 4, 3) := by decide +kernel
theorem dX5_mayStandAt_119 : decode cX5_mayStandAt 119 = .ok (.iconst 0, 1) := by decide +kernel
theorem dX5_mayStandAt_120 : decode cX5_mayStandAt 120 = .ok (.ireturn, 1) := by decide +kernel
theorem dX5_faultAsSong_0 : decode cX5_faultAsSong 0 = .ok (.iconst 0, 1) := by decide +kernel
theorem dX5_faultAsSong_1 : decode cX5_faultAsSong 1 = .ok (.istore_n 1, 1) := by decide +kernel
theorem dX5_faultAsSong_2 : decode cX5_faultAsSong 2 = .ok (.iload_n 1, 1) := by decide +kernel
theorem dX5_faultAsSong_3 : decode cX5_faultAsSong 3 = .ok (.aload_n 0, 1) := by decide +kernel
theorem dX5_faultAsSong_4 : decode cX5_faultAsSong 4 = .ok (.getfield 15, 3) := by decide +kernel
theorem dX5_faultAsSong_7 : decode cX5_faultAsSong 7 = .ok (.if_icmp .ge 23, 3) := by decide +kernel
theorem dX5_faultAsSong_10 : decode cX5_faultAsSong 10 = .ok (.aload_n 0, 1) := by decide +kernel
theorem dX5_faultAsSong_11 : decode cX5_faultAsSong 11 = .ok (.getfield 9, 3) := by decide +kernel
theorem dX5_faultAsSong_14 : decode cX5_faultAsSong 14 = .ok (.iload_n 1, 1) := by decide +kernel
theorem dX5_faultAsSong_15 : decode cX5_faultAsSong 15 = .ok (.iaload, 1) := by decide +kernel
theorem dX5_faultAsSong_16 : decode cX5_faultAsSong 16 = .ok (.invokestatic 32, 3) := by decide +kernel
theorem dX5_faultAsSong_19 : decode cX5_faultAsSong 19 = .ok (.ifCond .ne 5, 3) := by decide +kernel
theorem dX5_faultAsSong_22 : decode cX5_faultAsSong 22 = .ok (.iload_n 1, 1) := by decide +kernel
theorem dX5_faultAsSong_23 : decode cX5_faultAsSong 23 = .ok (.ireturn, 1) := by decide +kernel
theorem dX5_faultAsSong_24 : decode cX5_faultAsSong 24 = .ok (.iinc 1 1, 3) := by decide +kernel
theorem dX5_faultAsSong_27 : decode cX5_faultAsSong 27 = .ok (.goto (-25), 3) := by decide +kernel
theorem dX5_faultAsSong_30 : decode cX5_faultAsSong 30 = .ok (.iconst (-1), 1) := by decide +kernel
theorem dX5_faultAsSong_31 : decode cX5_faultAsSong 31 = .ok (.ireturn, 1) := by decide +kernel
theorem dX5_isLetter_0 : decode cX5_isLetter 0 = .ok (.iload_n 0, 1) := by decide +kernel
theorem dX5_isLetter_1 : decode cX5_isLetter 1 = .ok (.bipush 97, 2) := by decide +kernel
theorem dX5_isLetter_3 : decode cX5_isLetter 3 = .ok (.if_icmp .lt 13, 3) := by decide +kernel
theorem dX5_isLetter_6 : decode cX5_isLetter 6 = .ok (.iload_n 0, 1) := by decide +kernel
theorem dX5_isLetter_7 : decode cX5_isLetter 7 = .ok (.bipush 104, 2) := by decide +kernel
theorem dX5_isLetter_9 : decode cX5_isLetter 9 = .ok (.if_icmp .gt 7, 3) := by decide +kernel
theorem dX5_isLetter_12 : decode cX5_isLetter 12 = .ok (.iconst 1, 1) := by decide +kernel
theorem dX5_isLetter_13 : decode cX5_isLetter 13 = .ok (.goto 4, 3) := by decide +kernel
theorem dX5_isLetter_16 : decode cX5_isLetter 16 = .ok (.iconst 0, 1) := by decide +kernel
theorem dX5_isLetter_17 : decode cX5_isLetter 17 = .ok (.ireturn, 1) := by decide +kernel
theorem dX5_isFigure_0 : decode cX5_isFigure 0 = .ok (.iload_n 0, 1) := by decide +kernel
theorem dX5_isFigure_1 : decode cX5_isFigure 1 = .ok (.bipush 48, 2) := by decide +kernel
theorem dX5_isFigure_3 : decode cX5_isFigure 3 = .ok (.if_icmp .lt 13, 3) := by decide +kernel
theorem dX5_isFigure_6 : decode cX5_isFigure 6 = .ok (.iload_n 0, 1) := by decide +kernel
theorem dX5_isFigure_7 : decode cX5_isFigure 7 = .ok (.bipush 57, 2) := by decide +kernel
theorem dX5_isFigure_9 : decode cX5_isFigure 9 = .ok (.if_icmp .gt 7, 3) := by decide +kernel
theorem dX5_isFigure_12 : decode cX5_isFigure 12 = .ok (.iconst 1, 1) := by decide +kernel
theorem dX5_isFigure_13 : decode cX5_isFigure 13 = .ok (.goto 4, 3) := by decide +kernel
theorem dX5_isFigure_16 : decode cX5_isFigure 16 = .ok (.iconst 0, 1) := by decide +kernel
theorem dX5_isFigure_17 : decode cX5_isFigure 17 = .ok (.ireturn, 1) := by decide +kernel
theorem dX6_init_0 : decode cX6_init 0 = .ok (.aload_n 0, 1) := by decide +kernel
theorem dX6_init_1 : decode cX6_init 1 = .ok (.invokespecial 3, 3) := by decide +kernel
theorem dX6_init_4 : decode cX6_init 4 = .ok (.aload_n 0, 1) := by decide +kernel
theorem dX6_init_5 : decode cX6_init 5 = .ok (.new 9, 3) := by decide +kernel
theorem dX6_init_8 : decode cX6_init 8 = .ok (.dup, 1) := by decide +kernel
theorem dX6_init_9 : decode cX6_init 9 = .ok (.invokespecial 11, 3) := by decide +kernel
theorem dX6_init_12 : decode cX6_init 12 = .ok (.putfield 12, 3) := by decide +kernel
theorem dX6_init_15 : decode cX6_init 15 = .ok (.aload_n 0, 1) := by decide +kernel
theorem dX6_init_16 : decode cX6_init 16 = .ok (.new 18, 3) := by decide +kernel
theorem dX6_init_19 : decode cX6_init 19 = .ok (.dup, 1) := by decide +kernel
theorem dX6_init_20 : decode cX6_init 20 = .ok (.invokespecial 20, 3) := by decide +kernel
theorem dX6_init_23 : decode cX6_init 23 = .ok (.putfield 21, 3) := by decide +kernel
theorem dX6_init_26 : decode cX6_init 26 = .ok (.aload_n 0, 1) := by decide +kernel
theorem dX6_init_27 : decode cX6_init 27 = .ok (.bipush 8, 2) := by decide +kernel
theorem dX6_init_29 : decode cX6_init 29 = .ok (.newarray .int, 2) := by decide +kernel
theorem dX6_init_31 : decode cX6_init 31 = .ok (.putfield 25, 3) := by decide +kernel
theorem dX6_init_34 : decode cX6_init 34 = .ok (.aload_n 0, 1) := by decide +kernel
theorem dX6_init_35 : decode cX6_init 35 = .ok (.iconst 0, 1) := by decide +kernel
theorem dX6_init_36 : decode cX6_init 36 = .ok (.putfield 29, 3) := by decide +kernel
theorem dX6_init_39 : decode cX6_init 39 = .ok (.aload_n 0, 1) := by decide +kernel
theorem dX6_init_40 : decode cX6_init 40 = .ok (.bipush 60, 2) := by decide +kernel
theorem dX6_init_42 : decode cX6_init 42 = .ok (.putfield 33, 3) := by decide +kernel
theorem dX6_init_45 : decode cX6_init 45 = .ok (.return_, 1) := by decide +kernel
theorem dX6_isHot_0 : decode cX6_isHot 0 = .ok (.iconst 0, 1) := by decide +kernel
theorem dX6_isHot_1 : decode cX6_isHot 1 = .ok (.istore_n 2, 1) := by decide +kernel
theorem dX6_isHot_2 : decode cX6_isHot 2 = .ok (.iload_n 2, 1) := by decide +kernel
theorem dX6_isHot_3 : decode cX6_isHot 3 = .ok (.aload_n 0, 1) := by decide +kernel
theorem dX6_isHot_4 : decode cX6_isHot 4 = .ok (.getfield 29, 3) := by decide +kernel
theorem dX6_isHot_7 : decode cX6_isHot 7 = .ok (.if_icmp .ge 21, 3) := by decide +kernel
theorem dX6_isHot_10 : decode cX6_isHot 10 = .ok (.aload_n 0, 1) := by decide +kernel
theorem dX6_isHot_11 : decode cX6_isHot 11 = .ok (.getfield 25, 3) := by decide +kernel
theorem dX6_isHot_14 : decode cX6_isHot 14 = .ok (.iload_n 2, 1) := by decide +kernel
theorem dX6_isHot_15 : decode cX6_isHot 15 = .ok (.iaload, 1) := by decide +kernel
theorem dX6_isHot_16 : decode cX6_isHot 16 = .ok (.iload_n 1, 1) := by decide +kernel
theorem dX6_isHot_17 : decode cX6_isHot 17 = .ok (.if_icmp .ne 5, 3) := by decide +kernel
theorem dX6_isHot_20 : decode cX6_isHot 20 = .ok (.iconst 1, 1) := by decide +kernel
theorem dX6_isHot_21 : decode cX6_isHot 21 = .ok (.ireturn, 1) := by decide +kernel
theorem dX6_isHot_22 : decode cX6_isHot 22 = .ok (.iinc 2 1, 3) := by decide +kernel
theorem dX6_isHot_25 : decode cX6_isHot 25 = .ok (.goto (-23), 3) := by decide +kernel
theorem dX6_isHot_28 : decode cX6_isHot 28 = .ok (.iconst 0, 1) := by decide +kernel
theorem dX6_isHot_29 : decode cX6_isHot 29 = .ok (.ireturn, 1) := by decide +kernel
theorem dX7_init_0 : decode cX7_init 0 = .ok (.aload_n 0, 1) := by decide +kernel
theorem dX7_init_1 : decode cX7_init 1 = .ok (.invokespecial 3, 3) := by decide +kernel
theorem dX7_init_4 : decode cX7_init 4 = .ok (.aload_n 0, 1) := by decide +kernel
theorem dX7_init_5 : decode cX7_init 5 = .ok (.bipush 8, 2) := by decide +kernel
theorem dX7_init_7 : decode cX7_init 7 = .ok (.newarray .int, 2) := by decide +kernel
theorem dX7_init_9 : decode cX7_init 9 = .ok (.putfield 9, 3) := by decide +kernel
theorem dX7_init_12 : decode cX7_init 12 = .ok (.aload_n 0, 1) := by decide +kernel
theorem dX7_init_13 : decode cX7_init 13 = .ok (.bipush 8, 2) := by decide +kernel
theorem dX7_init_15 : decode cX7_init 15 = .ok (.newarray .int, 2) := by decide +kernel
theorem dX7_init_17 : decode cX7_init 17 = .ok (.putfield 15, 3) := by decide +kernel
theorem dX7_init_20 : decode cX7_init 20 = .ok (.aload_n 0, 1) := by decide +kernel
theorem dX7_init_21 : decode cX7_init 21 = .ok (.bipush 8, 2) := by decide +kernel
theorem dX7_init_23 : decode cX7_init 23 = .ok (.newarray .int, 2) := by decide +kernel
theorem dX7_init_25 : decode cX7_init 25 = .ok (.putfield 18, 3) := by decide +kernel
theorem dX7_init_28 : decode cX7_init 28 = .ok (.aload_n 0, 1) := by decide +kernel
theorem dX7_init_29 : decode cX7_init 29 = .ok (.iconst 0, 1) := by decide +kernel
theorem dX7_init_30 : decode cX7_init 30 = .ok (.putfield 21, 3) := by decide +kernel
theorem dX7_init_33 : decode cX7_init 33 = .ok (.return_, 1) := by decide +kernel
theorem dX7_lastDay_0 : decode cX7_lastDay 0 = .ok (.iconst (-1), 1) := by decide +kernel
theorem dX7_lastDay_1 : decode cX7_lastDay 1 = .ok (.istore_n 1, 1) := by decide +kernel
theorem dX7_lastDay_2 : decode cX7_lastDay 2 = .ok (.iconst 0, 1) := by decide +kernel
theorem dX7_lastDay_3 : decode cX7_lastDay 3 = .ok (.istore_n 2, 1) := by decide +kernel
theorem dX7_lastDay_4 : decode cX7_lastDay 4 = .ok (.iload_n 2, 1) := by decide +kernel
theorem dX7_lastDay_5 : decode cX7_lastDay 5 = .ok (.aload_n 0, 1) := by decide +kernel
theorem dX7_lastDay_6 : decode cX7_lastDay 6 = .ok (.getfield 21, 3) := by decide +kernel
theorem dX7_lastDay_9 : decode cX7_lastDay 9 = .ok (.if_icmp .ge 20, 3) := by decide +kernel
theorem dX7_lastDay_12 : decode cX7_lastDay 12 = .ok (.iload_n 1, 1) := by decide +kernel
theorem dX7_lastDay_13 : decode cX7_lastDay 13 = .ok (.aload_n 0, 1) := by decide +kernel
theorem dX7_lastDay_14 : decode cX7_lastDay 14 = .ok (.getfield 9, 3) := by decide +kernel
theorem dX7_lastDay_17 : decode cX7_lastDay 17 = .ok (.iload_n 2, 1) := by decide +kernel
theorem dX7_lastDay_18 : decode cX7_lastDay 18 = .ok (.iaload, 1) := by decide +kernel
theorem dX7_lastDay_19 : decode cX7_lastDay 19 = .ok (.invokestatic 25, 3) := by decide +kernel
theorem dX7_lastDay_22 : decode cX7_lastDay 22 = .ok (.istore_n 1, 1) := by decide +kernel
theorem dX7_lastDay_23 : decode cX7_lastDay 23 = .ok (.iinc 2 1, 3) := by decide +kernel
theorem dX7_lastDay_26 : decode cX7_lastDay 26 = .ok (.goto (-22), 3) := by decide +kernel
theorem dX7_lastDay_29 : decode cX7_lastDay 29 = .ok (.iload_n 1, 1) := by decide +kernel
theorem dX7_lastDay_30 : decode cX7_lastDay 30 = .ok (.ireturn, 1) := by decide +kernel
theorem dX7_agreeWith_0 : decode cX7_agreeWith 0 = .ok (.iconst 0, 1) := by decide +kernel
theorem dX7_agreeWith_1 : decode cX7_agreeWith 1 = .ok (.istore_n 2, 1) := by decide +kernel
theorem dX7_agreeWith_2 : decode cX7_agreeWith 2 = .ok (.iload_n 2, 1) := by decide +kernel
theorem dX7_agreeWith_3 : decode cX7_agreeWith 3 = .ok (.aload_n 0, 1) := by decide +kernel
theorem dX7_agreeWith_4 : decode cX7_agreeWith 4 = .ok (.getfield 21, 3) := by decide +kernel
theorem dX7_agreeWith_7 : decode cX7_agreeWith 7 = .ok (.if_icmp .ge 56, 3) := by decide +kernel
theorem dX7_agreeWith_10 : decode cX7_agreeWith 10 = .ok (.aload_n 0, 1) := by decide +kernel
theorem dX7_agreeWith_11 : decode cX7_agreeWith 11 = .ok (.getfield 9, 3) := by decide +kernel
theorem dX7_agreeWith_14 : decode cX7_agreeWith 14 = .ok (.iload_n 2, 1) := by decide +kernel
theorem dX7_agreeWith_15 : decode cX7_agreeWith 15 = .ok (.iaload, 1) := by decide +kernel
theorem dX7_agreeWith_16 : decode cX7_agreeWith 16 = .ok (.aload_n 1, 1) := by decide +kernel
theorem dX7_agreeWith_17 : decode cX7_agreeWith 17 = .ok (.getfield 31, 3) := by decide +kernel
theorem dX7_agreeWith_20 : decode cX7_agreeWith 20 = .ok (.if_icmp .ne 37, 3) := by decide +kernel
theorem dX7_agreeWith_23 : decode cX7_agreeWith 23 = .ok (.aload_n 0, 1) := by decide +kernel
theorem dX7_agreeWith_24 : decode cX7_agreeWith 24 = .ok (.getfield 15, 3) := by decide +kernel
theorem dX7_agreeWith_27 : decode cX7_agreeWith 27 = .ok (.iload_n 2, 1) := by decide +kernel
theorem dX7_agreeWith_28 : decode cX7_agreeWith 28 = .ok (.iaload, 1) := by decide +kernel
theorem dX7_agreeWith_29 : decode cX7_agreeWith 29 = .ok (.aload_n 1, 1) := by decide +kernel
theorem dX7_agreeWith_30 : decode cX7_agreeWith 30 = .ok (.getfield 35, 3) := by decide +kernel
theorem dX7_agreeWith_33 : decode cX7_agreeWith 33 = .ok (.if_icmp .ge 22, 3) := by decide +kernel
theorem dX7_agreeWith_36 : decode cX7_agreeWith 36 = .ok (.aload_n 1, 1) := by decide +kernel
theorem dX7_agreeWith_37 : decode cX7_agreeWith 37 = .ok (.aload_n 0, 1) := by decide +kernel
theorem dX7_agreeWith_38 : decode cX7_agreeWith 38 = .ok (.getfield 15, 3) := by decide +kernel
theorem dX7_agreeWith_41 : decode cX7_agreeWith 41 = .ok (.iload_n 2, 1) := by decide +kernel
theorem dX7_agreeWith_42 : decode cX7_agreeWith 42 = .ok (.iaload, 1) := by decide +kernel
theorem dX7_agreeWith_43 : decode cX7_agreeWith 43 = .ok (.invokevirtual 36, 3) := by decide +kernel
theorem dX7_agreeWith_46 : decode cX7_agreeWith 46 = .ok (.aload_n 0, 1) := by decide +kernel
theorem dX7_agreeWith_47 : decode cX7_agreeWith 47 = .ok (.getfield 18, 3) := by decide +kernel
theorem dX7_agreeWith_50 : decode cX7_agreeWith 50 = .ok (.iload_n 2, 1) := by decide +kernel
theorem dX7_agreeWith_51 : decode cX7_agreeWith 51 = .ok (.iaload, 1) := by decide +kernel
theorem dX7_agreeWith_52 : decode cX7_agreeWith 52 = .ok (.if_icmp .eq 5, 3) := by decide +kernel
theorem dX7_agreeWith_55 : decode cX7_agreeWith 55 = .ok (.iconst 0, 1) := by decide +kernel
theorem dX7_agreeWith_56 : decode cX7_agreeWith 56 = .ok (.ireturn, 1) := by decide +kernel
theorem dX7_agreeWith_57 : decode cX7_agreeWith 57 = .ok (.iinc 2 1, 3) := by decide +kernel
theorem dX7_agreeWith_60 : decode cX7_agreeWith 60 = .ok (.goto (-58), 3) := by decide +kernel
theorem dX7_agreeWith_63 : decode cX7_agreeWith 63 = .ok (.iconst 1, 1) := by decide +kernel
theorem dX7_agreeWith_64 : decode cX7_agreeWith 64 = .ok (.ireturn, 1) := by decide +kernel
theorem dJ6_numberOfTrailingZeros_0f7a4_0 : decode cJ6_numberOfTrailingZeros_0f7a4 0 = .ok (.iload_n 0, 1) := by decide +kernel
theorem dJ6_numberOfTrailingZeros_0f7a4_1 : decode cJ6_numberOfTrailingZeros_0f7a4 1 = .ok (.iconst (-1), 1) := by decide +kernel
theorem dJ6_numberOfTrailingZeros_0f7a4_2 : decode cJ6_numberOfTrailingZeros_0f7a4 2 = .ok (.ixor, 1) := by decide +kernel
theorem dJ6_numberOfTrailingZeros_0f7a4_3 : decode cJ6_numberOfTrailingZeros_0f7a4 3 = .ok (.iload_n 0, 1) := by decide +kernel
theorem dJ6_numberOfTrailingZeros_0f7a4_4 : decode cJ6_numberOfTrailingZeros_0f7a4 4 = .ok (.iconst 1, 1) := by decide +kernel
theorem dJ6_numberOfTrailingZeros_0f7a4_5 : decode cJ6_numberOfTrailingZeros_0f7a4 5 = .ok (.isub, 1) := by decide +kernel
theorem dJ6_numberOfTrailingZeros_0f7a4_6 : decode cJ6_numberOfTrailingZeros_0f7a4 6 = .ok (.iand, 1) := by decide +kernel
theorem dJ6_numberOfTrailingZeros_0f7a4_7 : decode cJ6_numberOfTrailingZeros_0f7a4 7 = .ok (.istore_n 0, 1) := by decide +kernel
theorem dJ6_numberOfTrailingZeros_0f7a4_8 : decode cJ6_numberOfTrailingZeros_0f7a4 8 = .ok (.iload_n 0, 1) := by decide +kernel
theorem dJ6_numberOfTrailingZeros_0f7a4_9 : decode cJ6_numberOfTrailingZeros_0f7a4 9 = .ok (.ifCond .gt 8, 3) := by decide +kernel
theorem dJ6_numberOfTrailingZeros_0f7a4_12 : decode cJ6_numberOfTrailingZeros_0f7a4 12 = .ok (.iload_n 0, 1) := by decide +kernel
theorem dJ6_numberOfTrailingZeros_0f7a4_13 : decode cJ6_numberOfTrailingZeros_0f7a4 13 = .ok (.bipush 32, 2) := by decide +kernel
theorem dJ6_numberOfTrailingZeros_0f7a4_15 : decode cJ6_numberOfTrailingZeros_0f7a4 15 = .ok (.iand, 1) := by decide +kernel
theorem dJ6_numberOfTrailingZeros_0f7a4_16 : decode cJ6_numberOfTrailingZeros_0f7a4 16 = .ok (.ireturn, 1) := by decide +kernel
theorem dJ6_numberOfTrailingZeros_0f7a4_17 : decode cJ6_numberOfTrailingZeros_0f7a4 17 = .ok (.iconst 1, 1) := by decide +kernel
theorem dJ6_numberOfTrailingZeros_0f7a4_18 : decode cJ6_numberOfTrailingZeros_0f7a4 18 = .ok (.istore_n 1, 1) := by decide +kernel
theorem dJ6_numberOfTrailingZeros_0f7a4_19 : decode cJ6_numberOfTrailingZeros_0f7a4 19 = .ok (.iload_n 0, 1) := by decide +kernel
theorem dJ6_numberOfTrailingZeros_0f7a4_20 : decode cJ6_numberOfTrailingZeros_0f7a4 20 = .ok (.ldc_w 264, 3) := by decide +kernel
theorem dJ6_numberOfTrailingZeros_0f7a4_23 : decode cJ6_numberOfTrailingZeros_0f7a4 23 = .ok (.if_icmp .le 11, 3) := by decide +kernel
theorem dJ6_numberOfTrailingZeros_0f7a4_26 : decode cJ6_numberOfTrailingZeros_0f7a4 26 = .ok (.iinc 1 16, 3) := by decide +kernel
theorem dJ6_numberOfTrailingZeros_0f7a4_29 : decode cJ6_numberOfTrailingZeros_0f7a4 29 = .ok (.iload_n 0, 1) := by decide +kernel
theorem dJ6_numberOfTrailingZeros_0f7a4_30 : decode cJ6_numberOfTrailingZeros_0f7a4 30 = .ok (.bipush 16, 2) := by decide +kernel
theorem dJ6_numberOfTrailingZeros_0f7a4_32 : decode cJ6_numberOfTrailingZeros_0f7a4 32 = .ok (.iushr, 1) := by decide +kernel
theorem dJ6_numberOfTrailingZeros_0f7a4_33 : decode cJ6_numberOfTrailingZeros_0f7a4 33 = .ok (.istore_n 0, 1) := by decide +kernel
theorem dJ6_numberOfTrailingZeros_0f7a4_34 : decode cJ6_numberOfTrailingZeros_0f7a4 34 = .ok (.iload_n 0, 1) := by decide +kernel
theorem dJ6_numberOfTrailingZeros_0f7a4_35 : decode cJ6_numberOfTrailingZeros_0f7a4 35 = .ok (.sipush 256, 3) := by decide +kernel
theorem dJ6_numberOfTrailingZeros_0f7a4_38 : decode cJ6_numberOfTrailingZeros_0f7a4 38 = .ok (.if_icmp .le 11, 3) := by decide +kernel
theorem dJ6_numberOfTrailingZeros_0f7a4_41 : decode cJ6_numberOfTrailingZeros_0f7a4 41 = .ok (.iinc 1 8, 3) := by decide +kernel
theorem dJ6_numberOfTrailingZeros_0f7a4_44 : decode cJ6_numberOfTrailingZeros_0f7a4 44 = .ok (.iload_n 0, 1) := by decide +kernel
theorem dJ6_numberOfTrailingZeros_0f7a4_45 : decode cJ6_numberOfTrailingZeros_0f7a4 45 = .ok (.bipush 8, 2) := by decide +kernel
theorem dJ6_numberOfTrailingZeros_0f7a4_47 : decode cJ6_numberOfTrailingZeros_0f7a4 47 = .ok (.iushr, 1) := by decide +kernel
theorem dJ6_numberOfTrailingZeros_0f7a4_48 : decode cJ6_numberOfTrailingZeros_0f7a4 48 = .ok (.istore_n 0, 1) := by decide +kernel
theorem dJ6_numberOfTrailingZeros_0f7a4_49 : decode cJ6_numberOfTrailingZeros_0f7a4 49 = .ok (.iload_n 0, 1) := by decide +kernel
theorem dJ6_numberOfTrailingZeros_0f7a4_50 : decode cJ6_numberOfTrailingZeros_0f7a4 50 = .ok (.bipush 16, 2) := by decide +kernel
theorem dJ6_numberOfTrailingZeros_0f7a4_52 : decode cJ6_numberOfTrailingZeros_0f7a4 52 = .ok (.if_icmp .le 10, 3) := by decide +kernel
theorem dJ6_numberOfTrailingZeros_0f7a4_55 : decode cJ6_numberOfTrailingZeros_0f7a4 55 = .ok (.iinc 1 4, 3) := by decide +kernel
theorem dJ6_numberOfTrailingZeros_0f7a4_58 : decode cJ6_numberOfTrailingZeros_0f7a4 58 = .ok (.iload_n 0, 1) := by decide +kernel
theorem dJ6_numberOfTrailingZeros_0f7a4_59 : decode cJ6_numberOfTrailingZeros_0f7a4 59 = .ok (.iconst 4, 1) := by decide +kernel
theorem dJ6_numberOfTrailingZeros_0f7a4_60 : decode cJ6_numberOfTrailingZeros_0f7a4 60 = .ok (.iushr, 1) := by decide +kernel
theorem dJ6_numberOfTrailingZeros_0f7a4_61 : decode cJ6_numberOfTrailingZeros_0f7a4 61 = .ok (.istore_n 0, 1) := by decide +kernel
theorem dJ6_numberOfTrailingZeros_0f7a4_62 : decode cJ6_numberOfTrailingZeros_0f7a4 62 = .ok (.iload_n 0, 1) := by decide +kernel
theorem dJ6_numberOfTrailingZeros_0f7a4_63 : decode cJ6_numberOfTrailingZeros_0f7a4 63 = .ok (.iconst 4, 1) := by decide +kernel
theorem dJ6_numberOfTrailingZeros_0f7a4_64 : decode cJ6_numberOfTrailingZeros_0f7a4 64 = .ok (.if_icmp .le 10, 3) := by decide +kernel
theorem dJ6_numberOfTrailingZeros_0f7a4_67 : decode cJ6_numberOfTrailingZeros_0f7a4 67 = .ok (.iinc 1 2, 3) := by decide +kernel
theorem dJ6_numberOfTrailingZeros_0f7a4_70 : decode cJ6_numberOfTrailingZeros_0f7a4 70 = .ok (.iload_n 0, 1) := by decide +kernel
theorem dJ6_numberOfTrailingZeros_0f7a4_71 : decode cJ6_numberOfTrailingZeros_0f7a4 71 = .ok (.iconst 2, 1) := by decide +kernel
theorem dJ6_numberOfTrailingZeros_0f7a4_72 : decode cJ6_numberOfTrailingZeros_0f7a4 72 = .ok (.iushr, 1) := by decide +kernel
theorem dJ6_numberOfTrailingZeros_0f7a4_73 : decode cJ6_numberOfTrailingZeros_0f7a4 73 = .ok (.istore_n 0, 1) := by decide +kernel
theorem dJ6_numberOfTrailingZeros_0f7a4_74 : decode cJ6_numberOfTrailingZeros_0f7a4 74 = .ok (.iload_n 1, 1) := by decide +kernel
theorem dJ6_numberOfTrailingZeros_0f7a4_75 : decode cJ6_numberOfTrailingZeros_0f7a4 75 = .ok (.iload_n 0, 1) := by decide +kernel
theorem dJ6_numberOfTrailingZeros_0f7a4_76 : decode cJ6_numberOfTrailingZeros_0f7a4 76 = .ok (.iconst 1, 1) := by decide +kernel
theorem dJ6_numberOfTrailingZeros_0f7a4_77 : decode cJ6_numberOfTrailingZeros_0f7a4 77 = .ok (.iushr, 1) := by decide +kernel
theorem dJ6_numberOfTrailingZeros_0f7a4_78 : decode cJ6_numberOfTrailingZeros_0f7a4 78 = .ok (.iadd, 1) := by decide +kernel
theorem dJ6_numberOfTrailingZeros_0f7a4_79 : decode cJ6_numberOfTrailingZeros_0f7a4 79 = .ok (.ireturn, 1) := by decide +kernel
theorem dJ6_bitCount_0f7a4_0 : decode cJ6_bitCount_0f7a4 0 = .ok (.iload_n 0, 1) := by decide +kernel
theorem dJ6_bitCount_0f7a4_1 : decode cJ6_bitCount_0f7a4 1 = .ok (.iload_n 0, 1) := by decide +kernel
theorem dJ6_bitCount_0f7a4_2 : decode cJ6_bitCount_0f7a4 2 = .ok (.iconst 1, 1) := by decide +kernel
theorem dJ6_bitCount_0f7a4_3 : decode cJ6_bitCount_0f7a4 3 = .ok (.iushr, 1) := by decide +kernel
theorem dJ6_bitCount_0f7a4_4 : decode cJ6_bitCount_0f7a4 4 = .ok (.ldc_w 265, 3) := by decide +kernel
theorem dJ6_bitCount_0f7a4_7 : decode cJ6_bitCount_0f7a4 7 = .ok (.iand, 1) := by decide +kernel
theorem dJ6_bitCount_0f7a4_8 : decode cJ6_bitCount_0f7a4 8 = .ok (.isub, 1) := by decide +kernel
theorem dJ6_bitCount_0f7a4_9 : decode cJ6_bitCount_0f7a4 9 = .ok (.istore_n 0, 1) := by decide +kernel
theorem dJ6_bitCount_0f7a4_10 : decode cJ6_bitCount_0f7a4 10 = .ok (.iload_n 0, 1) := by decide +kernel
theorem dJ6_bitCount_0f7a4_11 : decode cJ6_bitCount_0f7a4 11 = .ok (.ldc_w 266, 3) := by decide +kernel
theorem dJ6_bitCount_0f7a4_14 : decode cJ6_bitCount_0f7a4 14 = .ok (.iand, 1) := by decide +kernel
theorem dJ6_bitCount_0f7a4_15 : decode cJ6_bitCount_0f7a4 15 = .ok (.iload_n 0, 1) := by decide +kernel
theorem dJ6_bitCount_0f7a4_16 : decode cJ6_bitCount_0f7a4 16 = .ok (.iconst 2, 1) := by decide +kernel
theorem dJ6_bitCount_0f7a4_17 : decode cJ6_bitCount_0f7a4 17 = .ok (.iushr, 1) := by decide +kernel
theorem dJ6_bitCount_0f7a4_18 : decode cJ6_bitCount_0f7a4 18 = .ok (.ldc_w 266, 3) := by decide +kernel
theorem dJ6_bitCount_0f7a4_21 : decode cJ6_bitCount_0f7a4 21 = .ok (.iand, 1) := by decide +kernel
theorem dJ6_bitCount_0f7a4_22 : decode cJ6_bitCount_0f7a4 22 = .ok (.iadd, 1) := by decide +kernel
theorem dJ6_bitCount_0f7a4_23 : decode cJ6_bitCount_0f7a4 23 = .ok (.istore_n 0, 1) := by decide +kernel
theorem dJ6_bitCount_0f7a4_24 : decode cJ6_bitCount_0f7a4 24 = .ok (.iload_n 0, 1) := by decide +kernel
theorem dJ6_bitCount_0f7a4_25 : decode cJ6_bitCount_0f7a4 25 = .ok (.iload_n 0, 1) := by decide +kernel
theorem dJ6_bitCount_0f7a4_26 : decode cJ6_bitCount_0f7a4 26 = .ok (.iconst 4, 1) := by decide +kernel
theorem dJ6_bitCount_0f7a4_27 : decode cJ6_bitCount_0f7a4 27 = .ok (.iushr, 1) := by decide +kernel
theorem dJ6_bitCount_0f7a4_28 : decode cJ6_bitCount_0f7a4 28 = .ok (.iadd, 1) := by decide +kernel
theorem dJ6_bitCount_0f7a4_29 : decode cJ6_bitCount_0f7a4 29 = .ok (.ldc_w 267, 3) := by decide +kernel
theorem dJ6_bitCount_0f7a4_32 : decode cJ6_bitCount_0f7a4 32 = .ok (.iand, 1) := by decide +kernel
theorem dJ6_bitCount_0f7a4_33 : decode cJ6_bitCount_0f7a4 33 = .ok (.istore_n 0, 1) := by decide +kernel
theorem dJ6_bitCount_0f7a4_34 : decode cJ6_bitCount_0f7a4 34 = .ok (.iload_n 0, 1) := by decide +kernel
theorem dJ6_bitCount_0f7a4_35 : decode cJ6_bitCount_0f7a4 35 = .ok (.iload_n 0, 1) := by decide +kernel
theorem dJ6_bitCount_0f7a4_36 : decode cJ6_bitCount_0f7a4 36 = .ok (.bipush 8, 2) := by decide +kernel
theorem dJ6_bitCount_0f7a4_38 : decode cJ6_bitCount_0f7a4 38 = .ok (.iushr, 1) := by decide +kernel
theorem dJ6_bitCount_0f7a4_39 : decode cJ6_bitCount_0f7a4 39 = .ok (.iadd, 1) := by decide +kernel
theorem dJ6_bitCount_0f7a4_40 : decode cJ6_bitCount_0f7a4 40 = .ok (.istore_n 0, 1) := by decide +kernel
theorem dJ6_bitCount_0f7a4_41 : decode cJ6_bitCount_0f7a4 41 = .ok (.iload_n 0, 1) := by decide +kernel
theorem dJ6_bitCount_0f7a4_42 : decode cJ6_bitCount_0f7a4 42 = .ok (.iload_n 0, 1) := by decide +kernel
theorem dJ6_bitCount_0f7a4_43 : decode cJ6_bitCount_0f7a4 43 = .ok (.bipush 16, 2) := by decide +kernel
theorem dJ6_bitCount_0f7a4_45 : decode cJ6_bitCount_0f7a4 45 = .ok (.iushr, 1) := by decide +kernel
theorem dJ6_bitCount_0f7a4_46 : decode cJ6_bitCount_0f7a4 46 = .ok (.iadd, 1) := by decide +kernel
theorem dJ6_bitCount_0f7a4_47 : decode cJ6_bitCount_0f7a4 47 = .ok (.istore_n 0, 1) := by decide +kernel
theorem dJ6_bitCount_0f7a4_48 : decode cJ6_bitCount_0f7a4 48 = .ok (.iload_n 0, 1) := by decide +kernel
theorem dJ6_bitCount_0f7a4_49 : decode cJ6_bitCount_0f7a4 49 = .ok (.bipush 63, 2) := by decide +kernel
theorem dJ6_bitCount_0f7a4_51 : decode cJ6_bitCount_0f7a4 51 = .ok (.iand, 1) := by decide +kernel
theorem dJ6_bitCount_0f7a4_52 : decode cJ6_bitCount_0f7a4 52 = .ok (.ireturn, 1) := by decide +kernel
theorem dJ13_numberOfTrailingZeros_95d88_0 : decode cJ13_numberOfTrailingZeros_95d88 0 = .ok (.lload_n 0, 1) := by decide +kernel
theorem dJ13_numberOfTrailingZeros_95d88_1 : decode cJ13_numberOfTrailingZeros_95d88 1 = .ok (.l2i, 1) := by decide +kernel
theorem dJ13_numberOfTrailingZeros_95d88_2 : decode cJ13_numberOfTrailingZeros_95d88 2 = .ok (.istore_n 2, 1) := by decide +kernel
theorem dJ13_numberOfTrailingZeros_95d88_3 : decode cJ13_numberOfTrailingZeros_95d88 3 = .ok (.iload_n 2, 1) := by decide +kernel
theorem dJ13_numberOfTrailingZeros_95d88_4 : decode cJ13_numberOfTrailingZeros_95d88 4 = .ok (.ifCond .ne 17, 3) := by decide +kernel
theorem dJ13_numberOfTrailingZeros_95d88_7 : decode cJ13_numberOfTrailingZeros_95d88 7 = .ok (.bipush 32, 2) := by decide +kernel
theorem dJ13_numberOfTrailingZeros_95d88_9 : decode cJ13_numberOfTrailingZeros_95d88 9 = .ok (.lload_n 0, 1) := by decide +kernel
theorem dJ13_numberOfTrailingZeros_95d88_10 : decode cJ13_numberOfTrailingZeros_95d88 10 = .ok (.bipush 32, 2) := by decide +kernel
theorem dJ13_numberOfTrailingZeros_95d88_12 : decode cJ13_numberOfTrailingZeros_95d88 12 = .ok (.lushr, 1) := by decide +kernel
theorem dJ13_numberOfTrailingZeros_95d88_13 : decode cJ13_numberOfTrailingZeros_95d88 13 = .ok (.l2i, 1) := by decide +kernel
theorem dJ13_numberOfTrailingZeros_95d88_14 : decode cJ13_numberOfTrailingZeros_95d88 14 = .ok (.invokestatic 311, 3) := by decide +kernel
theorem dJ13_numberOfTrailingZeros_95d88_17 : decode cJ13_numberOfTrailingZeros_95d88 17 = .ok (.iadd, 1) := by decide +kernel
theorem dJ13_numberOfTrailingZeros_95d88_18 : decode cJ13_numberOfTrailingZeros_95d88 18 = .ok (.goto 7, 3) := by decide +kernel
theorem dJ13_numberOfTrailingZeros_95d88_21 : decode cJ13_numberOfTrailingZeros_95d88 21 = .ok (.iload_n 2, 1) := by decide +kernel
theorem dJ13_numberOfTrailingZeros_95d88_22 : decode cJ13_numberOfTrailingZeros_95d88 22 = .ok (.invokestatic 311, 3) := by decide +kernel
theorem dJ13_numberOfTrailingZeros_95d88_25 : decode cJ13_numberOfTrailingZeros_95d88 25 = .ok (.ireturn, 1) := by decide +kernel
theorem dJ9_max_7cf53_0 : decode cJ9_max_7cf53 0 = .ok (.iload_n 0, 1) := by decide +kernel
theorem dJ9_max_7cf53_1 : decode cJ9_max_7cf53 1 = .ok (.iload_n 1, 1) := by decide +kernel
theorem dJ9_max_7cf53_2 : decode cJ9_max_7cf53 2 = .ok (.if_icmp .lt 7, 3) := by decide +kernel
theorem dJ9_max_7cf53_5 : decode cJ9_max_7cf53 5 = .ok (.iload_n 0, 1) := by decide +kernel
theorem dJ9_max_7cf53_6 : decode cJ9_max_7cf53 6 = .ok (.goto 4, 3) := by decide +kernel
theorem dJ9_max_7cf53_9 : decode cJ9_max_7cf53 9 = .ok (.iload_n 1, 1) := by decide +kernel
theorem dJ9_max_7cf53_10 : decode cJ9_max_7cf53 10 = .ok (.ireturn, 1) := by decide +kernel
theorem dJ9_min_7cf53_0 : decode cJ9_min_7cf53 0 = .ok (.iload_n 0, 1) := by decide +kernel
theorem dJ9_min_7cf53_1 : decode cJ9_min_7cf53 1 = .ok (.iload_n 1, 1) := by decide +kernel
theorem dJ9_min_7cf53_2 : decode cJ9_min_7cf53 2 = .ok (.if_icmp .gt 7, 3) := by decide +kernel
theorem dJ9_min_7cf53_5 : decode cJ9_min_7cf53 5 = .ok (.iload_n 0, 1) := by decide +kernel
theorem dJ9_min_7cf53_6 : decode cJ9_min_7cf53 6 = .ok (.goto 4, 3) := by decide +kernel
theorem dJ9_min_7cf53_9 : decode cJ9_min_7cf53 9 = .ok (.iload_n 1, 1) := by decide +kernel
theorem dJ9_min_7cf53_10 : decode cJ9_min_7cf53 10 = .ok (.ireturn, 1) := by decide +kernel
theorem dJ7_fill_53178_0 : decode cJ7_fill_53178 0 = .ok (.iconst 0, 1) := by decide +kernel
theorem dJ7_fill_53178_1 : decode cJ7_fill_53178 1 = .ok (.istore_n 2, 1) := by decide +kernel
theorem dJ7_fill_53178_2 : decode cJ7_fill_53178 2 = .ok (.aload_n 0, 1) := by decide +kernel
theorem dJ7_fill_53178_3 : decode cJ7_fill_53178 3 = .ok (.arraylength, 1) := by decide +kernel
theorem dJ7_fill_53178_4 : decode cJ7_fill_53178 4 = .ok (.istore_n 3, 1) := by decide +kernel
theorem dJ7_fill_53178_5 : decode cJ7_fill_53178 5 = .ok (.iload_n 2, 1) := by decide +kernel
theorem dJ7_fill_53178_6 : decode cJ7_fill_53178 6 = .ok (.iload_n 3, 1) := by decide +kernel
theorem dJ7_fill_53178_7 : decode cJ7_fill_53178 7 = .ok (.if_icmp .ge 13, 3) := by decide +kernel
theorem dJ7_fill_53178_10 : decode cJ7_fill_53178 10 = .ok (.aload_n 0, 1) := by decide +kernel
theorem dJ7_fill_53178_11 : decode cJ7_fill_53178 11 = .ok (.iload_n 2, 1) := by decide +kernel
theorem dJ7_fill_53178_12 : decode cJ7_fill_53178 12 = .ok (.iload_n 1, 1) := by decide +kernel
theorem dJ7_fill_53178_13 : decode cJ7_fill_53178 13 = .ok (.iastore, 1) := by decide +kernel
theorem dJ7_fill_53178_14 : decode cJ7_fill_53178 14 = .ok (.iinc 2 1, 3) := by decide +kernel
theorem dJ7_fill_53178_17 : decode cJ7_fill_53178 17 = .ok (.goto (-12), 3) := by decide +kernel
theorem dJ7_fill_53178_20 : decode cJ7_fill_53178 20 = .ok (.return_, 1) := by decide +kernel
end
section
theorem dX8_init_0 : decode cX8_init 0 = .ok (.aload_n 0, 1) := by decide +kernel
theorem dX8_init_1 : decode cX8_init 1 = .ok (.invokespecial 1, 3) := by decide +kernel
theorem dX8_init_4 : decode cX8_init 4 = .ok (.aload_n 0, 1) := by decide +kernel
theorem dX8_init_5 : decode cX8_init 5 = .ok (.new 7, 3) := by decide +kernel
theorem dX8_init_8 : decode cX8_init 8 = .ok (.dup, 1) := by decide +kernel
theorem dX8_init_9 : decode cX8_init 9 = .ok (.bipush 47, 2) := by decide +kernel
theorem dX8_init_11 : decode cX8_init 11 = .ok (.invokespecial 11, 3) := by decide +kernel
theorem dX8_init_14 : decode cX8_init 14 = .ok (.putfield 14, 3) := by decide +kernel
theorem dX8_init_17 : decode cX8_init 17 = .ok (.aload_n 0, 1) := by decide +kernel
theorem dX8_init_18 : decode cX8_init 18 = .ok (.new 7, 3) := by decide +kernel
theorem dX8_init_21 : decode cX8_init 21 = .ok (.dup, 1) := by decide +kernel
theorem dX8_init_22 : decode cX8_init 22 = .ok (.bipush 8, 2) := by decide +kernel
theorem dX8_init_24 : decode cX8_init 24 = .ok (.invokespecial 11, 3) := by decide +kernel
theorem dX8_init_27 : decode cX8_init 27 = .ok (.putfield 18, 3) := by decide +kernel
theorem dX8_init_30 : decode cX8_init 30 = .ok (.aload_n 0, 1) := by decide +kernel
theorem dX8_init_31 : decode cX8_init 31 = .ok (.new 21, 3) := by decide +kernel
theorem dX8_init_34 : decode cX8_init 34 = .ok (.dup, 1) := by decide +kernel
theorem dX8_init_35 : decode cX8_init 35 = .ok (.invokespecial 23, 3) := by decide +kernel
theorem dX8_init_38 : decode cX8_init 38 = .ok (.putfield 24, 3) := by decide +kernel
theorem dX8_init_41 : decode cX8_init 41 = .ok (.aload_n 0, 1) := by decide +kernel
theorem dX8_init_42 : decode cX8_init 42 = .ok (.new 28, 3) := by decide +kernel
theorem dX8_init_45 : decode cX8_init 45 = .ok (.dup, 1) := by decide +kernel
theorem dX8_init_46 : decode cX8_init 46 = .ok (.invokespecial 30, 3) := by decide +kernel
theorem dX8_init_49 : decode cX8_init 49 = .ok (.putfield 31, 3) := by decide +kernel
theorem dX8_init_52 : decode cX8_init 52 = .ok (.aload_n 0, 1) := by decide +kernel
theorem dX8_init_53 : decode cX8_init 53 = .ok (.new 35, 3) := by decide +kernel
theorem dX8_init_56 : decode cX8_init 56 = .ok (.dup, 1) := by decide +kernel
theorem dX8_init_57 : decode cX8_init 57 = .ok (.invokespecial 37, 3) := by decide +kernel
theorem dX8_init_60 : decode cX8_init 60 = .ok (.putfield 38, 3) := by decide +kernel
theorem dX8_init_63 : decode cX8_init 63 = .ok (.aload_n 0, 1) := by decide +kernel
theorem dX8_init_64 : decode cX8_init 64 = .ok (.new 42, 3) := by decide +kernel
theorem dX8_init_67 : decode cX8_init 67 = .ok (.dup, 1) := by decide +kernel
theorem dX8_init_68 : decode cX8_init 68 = .ok (.invokespecial 44, 3) := by decide +kernel
theorem dX8_init_71 : decode cX8_init 71 = .ok (.putfield 45, 3) := by decide +kernel
theorem dX8_init_74 : decode cX8_init 74 = .ok (.aload_n 0, 1) := by decide +kernel
theorem dX8_init_75 : decode cX8_init 75 = .ok (.new 49, 3) := by decide +kernel
theorem dX8_init_78 : decode cX8_init 78 = .ok (.dup, 1) := by decide +kernel
theorem dX8_init_79 : decode cX8_init 79 = .ok (.invokespecial 51, 3) := by decide +kernel
theorem dX8_init_82 : decode cX8_init 82 = .ok (.putfield 52, 3) := by decide +kernel
theorem dX8_init_85 : decode cX8_init 85 = .ok (.aload_n 0, 1) := by decide +kernel
theorem dX8_init_86 : decode cX8_init 86 = .ok (.new 49, 3) := by decide +kernel
theorem dX8_init_89 : decode cX8_init 89 = .ok (.dup, 1) := by decide +kernel
theorem dX8_init_90 : decode cX8_init 90 = .ok (.invokespecial 51, 3) := by decide +kernel
theorem dX8_init_93 : decode cX8_init 93 = .ok (.putfield 56, 3) := by decide +kernel
theorem dX8_init_96 : decode cX8_init 96 = .ok (.aload_n 0, 1) := by decide +kernel
theorem dX8_init_97 : decode cX8_init 97 = .ok (.bipush 11, 2) := by decide +kernel
theorem dX8_init_99 : decode cX8_init 99 = .ok (.anewarray 49, 3) := by decide +kernel
theorem dX8_init_102 : decode cX8_init 102 = .ok (.putfield 59, 3) := by decide +kernel
theorem dX8_init_105 : decode cX8_init 105 = .ok (.aload_n 0, 1) := by decide +kernel
theorem dX8_init_106 : decode cX8_init 106 = .ok (.sipush 128, 3) := by decide +kernel
theorem dX8_init_109 : decode cX8_init 109 = .ok (.newarray .int, 2) := by decide +kernel
theorem dX8_init_111 : decode cX8_init 111 = .ok (.putfield 63, 3) := by decide +kernel
theorem dX8_init_114 : decode cX8_init 114 = .ok (.aload_n 0, 1) := by decide +kernel
theorem dX8_init_115 : decode cX8_init 115 = .ok (.iconst 1, 1) := by decide +kernel
theorem dX8_init_116 : decode cX8_init 116 = .ok (.putfield 67, 3) := by decide +kernel
theorem dX8_init_119 : decode cX8_init 119 = .ok (.aload_n 0, 1) := by decide +kernel
theorem dX8_init_120 : decode cX8_init 120 = .ok (.iconst (-1), 1) := by decide +kernel
theorem dX8_init_121 : decode cX8_init 121 = .ok (.putfield 71, 3) := by decide +kernel
theorem dX8_init_124 : decode cX8_init 124 = .ok (.aload_n 0, 1) := by decide +kernel
theorem dX8_init_125 : decode cX8_init 125 = .ok (.iconst (-1), 1) := by decide +kernel
theorem dX8_init_126 : decode cX8_init 126 = .ok (.putfield 75, 3) := by decide +kernel
theorem dX8_init_129 : decode cX8_init 129 = .ok (.aload_n 0, 1) := by decide +kernel
theorem dX8_init_130 : decode cX8_init 130 = .ok (.iconst 0, 1) := by decide +kernel
theorem dX8_init_131 : decode cX8_init 131 = .ok (.putfield 78, 3) := by decide +kernel
theorem dX8_init_134 : decode cX8_init 134 = .ok (.iconst 0, 1) := by decide +kernel
theorem dX8_init_135 : decode cX8_init 135 = .ok (.istore_n 1, 1) := by decide +kernel
theorem dX8_init_136 : decode cX8_init 136 = .ok (.iload_n 1, 1) := by decide +kernel
theorem dX8_init_137 : decode cX8_init 137 = .ok (.aload_n 0, 1) := by decide +kernel
theorem dX8_init_138 : decode cX8_init 138 = .ok (.getfield 59, 3) := by decide +kernel
theorem dX8_init_141 : decode cX8_init 141 = .ok (.arraylength, 1) := by decide +kernel
theorem dX8_init_142 : decode cX8_init 142 = .ok (.if_icmp .ge 22, 3) := by decide +kernel
theorem dX8_init_145 : decode cX8_init 145 = .ok (.aload_n 0, 1) := by decide +kernel
theorem dX8_init_146 : decode cX8_init 146 = .ok (.getfield 59, 3) := by decide +kernel
theorem dX8_init_149 : decode cX8_init 149 = .ok (.iload_n 1, 1) := by decide +kernel
theorem dX8_init_150 : decode cX8_init 150 = .ok (.new 49, 3) := by decide +kernel
theorem dX8_init_153 : decode cX8_init 153 = .ok (.dup, 1) := by decide +kernel
theorem dX8_init_154 : decode cX8_init 154 = .ok (.invokespecial 51, 3) := by decide +kernel
theorem dX8_init_157 : decode cX8_init 157 = .ok (.aastore, 1) := by decide +kernel
theorem dX8_init_158 : decode cX8_init 158 = .ok (.iinc 1 1, 3) := by decide +kernel
theorem dX8_init_161 : decode cX8_init 161 = .ok (.goto (-25), 3) := by decide +kernel
theorem dX8_init_164 : decode cX8_init 164 = .ok (.return_, 1) := by decide +kernel
theorem dX8_type_0 : decode cX8_type 0 = .ok (.iload_n 1, 1) := by decide +kernel
theorem dX8_type_1 : decode cX8_type 1 = .ok (.iconst 2, 1) := by decide +kernel
theorem dX8_type_2 : decode cX8_type 2 = .ok (.invokestatic 81, 3) := by decide +kernel
theorem dX8_type_5 : decode cX8_type 5 = .ok (.ifCond .eq 13, 3) := by decide +kernel
theorem dX8_type_8 : decode cX8_type 8 = .ok (.iload_n 2, 1) := by decide +kernel
theorem dX8_type_9 : decode cX8_type 9 = .ok (.sipush 256, 3) := by decide +kernel
theorem dX8_type_12 : decode cX8_type 12 = .ok (.invokestatic 81, 3) := by decide +kernel
theorem dX8_type_15 : decode cX8_type 15 = .ok (.ifCond .ne 6, 3) := by decide +kernel
theorem dX8_type_18 : decode cX8_type 18 = .ok (.bipush (-2), 2) := by decide +kernel
theorem dX8_type_20 : decode cX8_type 20 = .ok (.ireturn, 1) := by decide +kernel
theorem dX8_type_21 : decode cX8_type 21 = .ok (.aload_n 0, 1) := by decide +kernel
theorem dX8_type_22 : decode cX8_type 22 = .ok (.iload_n 1, 1) := by decide +kernel
theorem dX8_type_23 : decode cX8_type 23 = .ok (.invokevirtual 85, 3) := by decide +kernel
theorem dX8_type_26 : decode cX8_type 26 = .ok (.astore_n 3, 1) := by decide +kernel
theorem dX8_type_27 : decode cX8_type 27 = .ok (.aload_n 3, 1) := by decide +kernel
theorem dX8_type_28 : decode cX8_type 28 = .ok (.getfield 89, 3) := by decide +kernel
theorem dX8_type_31 : decode cX8_type 31 = .ok (.aload_n 3, 1) := by decide +kernel
theorem dX8_type_32 : decode cX8_type 32 = .ok (.getfield 92, 3) := by decide +kernel
theorem dX8_type_35 : decode cX8_type 35 = .ok (.if_icmp .lt 6, 3) := by decide +kernel
theorem dX8_type_38 : decode cX8_type 38 = .ok (.bipush (-4), 2) := by decide +kernel
theorem dX8_type_40 : decode cX8_type 40 = .ok (.ireturn, 1) := by decide +kernel
theorem dX8_type_41 : decode cX8_type 41 = .ok (.aload_n 3, 1) := by decide +kernel
theorem dX8_type_42 : decode cX8_type 42 = .ok (.getfield 95, 3) := by decide +kernel
theorem dX8_type_45 : decode cX8_type 45 = .ok (.aload_n 3, 1) := by decide +kernel
theorem dX8_type_46 : decode cX8_type 46 = .ok (.getfield 89, 3) := by decide +kernel
theorem dX8_type_49 : decode cX8_type 49 = .ok (.iload_n 2, 1) := by decide +kernel
theorem dX8_type_50 : decode cX8_type 50 = .ok (.iastore, 1) := by decide +kernel
theorem dX8_type_51 : decode cX8_type 51 = .ok (.aload_n 3, 1) := by decide +kernel
theorem dX8_type_52 : decode cX8_type 52 = .ok (.dup, 1) := by decide +kernel
theorem dX8_type_53 : decode cX8_type 53 = .ok (.getfield 89, 3) := by decide +kernel
theorem dX8_type_56 : decode cX8_type 56 = .ok (.iconst 1, 1) := by decide +kernel
theorem dX8_type_57 : decode cX8_type 57 = .ok (.iadd, 1) := by decide +kernel
theorem dX8_type_58 : decode cX8_type 58 = .ok (.putfield 89, 3) := by decide +kernel
theorem dX8_type_61 : decode cX8_type 61 = .ok (.aload_n 0, 1) := by decide +kernel
theorem dX8_type_62 : decode cX8_type 62 = .ok (.invokevirtual 98, 3) := by decide +kernel
theorem dX8_type_65 : decode cX8_type 65 = .ok (.aload_n 3, 1) := by decide +kernel
theorem dX8_type_66 : decode cX8_type 66 = .ok (.getfield 89, 3) := by decide +kernel
theorem dX8_type_69 : decode cX8_type 69 = .ok (.ireturn, 1) := by decide +kernel
theorem dX8_wipe_0 : decode cX8_wipe 0 = .ok (.iload_n 1, 1) := by decide +kernel
theorem dX8_wipe_1 : decode cX8_wipe 1 = .ok (.iconst 2, 1) := by decide +kernel
theorem dX8_wipe_2 : decode cX8_wipe 2 = .ok (.invokestatic 81, 3) := by decide +kernel
theorem dX8_wipe_5 : decode cX8_wipe 5 = .ok (.ifCond .ne 6, 3) := by decide +kernel
theorem dX8_wipe_8 : decode cX8_wipe 8 = .ok (.bipush (-2), 2) := by decide +kernel
theorem dX8_wipe_10 : decode cX8_wipe 10 = .ok (.ireturn, 1) := by decide +kernel
theorem dX8_wipe_11 : decode cX8_wipe 11 = .ok (.aload_n 0, 1) := by decide +kernel
theorem dX8_wipe_12 : decode cX8_wipe 12 = .ok (.iload_n 1, 1) := by decide +kernel
theorem dX8_wipe_13 : decode cX8_wipe 13 = .ok (.invokevirtual 85, 3) := by decide +kernel
theorem dX8_wipe_16 : decode cX8_wipe 16 = .ok (.astore_n 2, 1) := by decide +kernel
theorem dX8_wipe_17 : decode cX8_wipe 17 = .ok (.aload_n 2, 1) := by decide +kernel
theorem dX8_wipe_18 : decode cX8_wipe 18 = .ok (.getfield 89, 3) := by decide +kernel
theorem dX8_wipe_21 : decode cX8_wipe 21 = .ok (.istore_n 3, 1) := by decide +kernel
theorem dX8_wipe_22 : decode cX8_wipe 22 = .ok (.aload_n 2, 1) := by decide +kernel
theorem dX8_wipe_23 : decode cX8_wipe 23 = .ok (.iconst 0, 1) := by decide +kernel
theorem dX8_wipe_24 : decode cX8_wipe 24 = .ok (.putfield 89, 3) := by decide +kernel
theorem dX8_wipe_27 : decode cX8_wipe 27 = .ok (.aload_n 0, 1) := by decide +kernel
theorem dX8_wipe_28 : decode cX8_wipe 28 = .ok (.invokevirtual 98, 3) := by decide +kernel
theorem dX8_wipe_31 : decode cX8_wipe 31 = .ok (.iload_n 3, 1) := by decide +kernel
theorem dX8_wipe_32 : decode cX8_wipe 32 = .ok (.ireturn, 1) := by decide +kernel
theorem dX8_undo_0 : decode cX8_undo 0 = .ok (.iload_n 1, 1) := by decide +kernel
theorem dX8_undo_1 : decode cX8_undo 1 = .ok (.iconst 2, 1) := by decide +kernel
theorem dX8_undo_2 : decode cX8_undo 2 = .ok (.invokestatic 81, 3) := by decide +kernel
theorem dX8_undo_5 : decode cX8_undo 5 = .ok (.ifCond .ne 6, 3) := by decide +kernel
theorem dX8_undo_8 : decode cX8_undo 8 = .ok (.bipush (-2), 2) := by decide +kernel
theorem dX8_undo_10 : decode cX8_undo 10 = .ok (.ireturn, 1) := by decide +kernel
theorem dX8_undo_11 : decode cX8_undo 11 = .ok (.aload_n 0, 1) := by decide +kernel
theorem dX8_undo_12 : decode cX8_undo 12 = .ok (.iload_n 1, 1) := by decide +kernel
theorem dX8_undo_13 : decode cX8_undo 13 = .ok (.invokevirtual 85, 3) := by decide +kernel
theorem dX8_undo_16 : decode cX8_undo 16 = .ok (.astore_n 2, 1) := by decide +kernel
theorem dX8_undo_17 : decode cX8_undo 17 = .ok (.aload_n 2, 1) := by decide +kernel
theorem dX8_undo_18 : decode cX8_undo 18 = .ok (.getfield 89, 3) := by decide +kernel
theorem dX8_undo_21 : decode cX8_undo 21 = .ok (.ifCond .ne 6, 3) := by decide +kernel
theorem dX8_undo_24 : decode cX8_undo 24 = .ok (.bipush (-3), 2) := by decide +kernel
theorem dX8_undo_26 : decode cX8_undo 26 = .ok (.ireturn, 1) := by decide +kernel
theorem dX8_undo_27 : decode cX8_undo 27 = .ok (.aload_n 2, 1) := by decide +kernel
theorem dX8_undo_28 : decode cX8_undo 28 = .ok (.dup, 1) := by decide +kernel
theorem dX8_undo_29 : decode cX8_undo 29 = .ok (.getfield 89, 3) := by decide +kernel
theorem dX8_undo_32 : decode cX8_undo 32 = .ok (.iconst 1, 1) := by decide +kernel
theorem dX8_undo_33 : decode cX8_undo 33 = .ok (.isub, 1) := by decide +kernel
theorem dX8_undo_34 : decode cX8_undo 34 = .ok (.putfield 89, 3) := by decide +kernel
theorem dX8_undo_37 : decode cX8_undo 37 = .ok (.aload_n 0, 1) := by decide +kernel
theorem dX8_undo_38 : decode cX8_undo 38 = .ok (.invokevirtual 98, 3) := by decide +kernel
theorem dX8_undo_41 : decode cX8_undo 41 = .ok (.aload_n 2, 1) := by decide +kernel
theorem dX8_undo_42 : decode cX8_undo 42 = .ok (.getfield 89, 3) := by decide +kernel
theorem dX8_undo_45 : decode cX8_undo 45 = .ok (.ireturn, 1) := by decide +kernel
theorem dX8_fault_0 : decode cX8_fault 0 = .ok (.iload_n 1, 1) := by decide +kernel
theorem dX8_fault_1 : decode cX8_fault 1 = .ok (.iconst 2, 1) := by decide +kernel
theorem dX8_fault_2 : decode cX8_fault 2 = .ok (.invokestatic 81, 3) := by decide +kernel
theorem dX8_fault_5 : decode cX8_fault 5 = .ok (.ifCond .ne 6, 3) := by decide +kernel
theorem dX8_fault_8 : decode cX8_fault 8 = .ok (.bipush (-2), 2) := by decide +kernel
theorem dX8_fault_10 : decode cX8_fault 10 = .ok (.ireturn, 1) := by decide +kernel
theorem dX8_fault_11 : decode cX8_fault 11 = .ok (.iload_n 1, 1) := by decide +kernel
theorem dX8_fault_12 : decode cX8_fault 12 = .ok (.ifCond .ne 13, 3) := by decide +kernel
theorem dX8_fault_15 : decode cX8_fault 15 = .ok (.aload_n 0, 1) := by decide +kernel
theorem dX8_fault_16 : decode cX8_fault 16 = .ok (.getfield 14, 3) := by decide +kernel
theorem dX8_fault_19 : decode cX8_fault 19 = .ok (.invokevirtual 101, 3) := by decide +kernel
theorem dX8_fault_22 : decode cX8_fault 22 = .ok (.goto 10, 3) := by decide +kernel
theorem dX8_fault_25 : decode cX8_fault 25 = .ok (.aload_n 0, 1) := by decide +kernel
theorem dX8_fault_26 : decode cX8_fault 26 = .ok (.getfield 18, 3) := by decide +kernel
theorem dX8_fault_29 : decode cX8_fault 29 = .ok (.invokevirtual 105, 3) := by decide +kernel
theorem dX8_fault_32 : decode cX8_fault 32 = .ok (.ireturn, 1) := by decide +kernel
theorem dX8_bottle_0 : decode cX8_bottle 0 = .ok (.aload_n 0, 1) := by decide +kernel
theorem dX8_bottle_1 : decode cX8_bottle 1 = .ok (.iload_n 1, 1) := by decide +kernel
theorem dX8_bottle_2 : decode cX8_bottle 2 = .ok (.invokevirtual 108, 3) := by decide +kernel
theorem dX8_bottle_5 : decode cX8_bottle 5 = .ok (.ifCond .ne 6, 3) := by decide +kernel
theorem dX8_bottle_8 : decode cX8_bottle 8 = .ok (.bipush (-2), 2) := by decide +kernel
theorem dX8_bottle_10 : decode cX8_bottle 10 = .ok (.ireturn, 1) := by decide +kernel
theorem dX8_bottle_11 : decode cX8_bottle 11 = .ok (.iload_n 2, 1) := by decide +kernel
theorem dX8_bottle_12 : decode cX8_bottle 12 = .ok (.tableswitch 86 0 3 #[32, 45, 58, 71], 32) := by decide +kernel
theorem dX8_bottle_44 : decode cX8_bottle 44 = .ok (.aload_n 0, 1) := by decide +kernel
theorem dX8_bottle_45 : decode cX8_bottle 45 = .ok (.getfield 24, 3) := by decide +kernel
theorem dX8_bottle_48 : decode cX8_bottle 48 = .ok (.getfield 112, 3) := by decide +kernel
theorem dX8_bottle_51 : decode cX8_bottle 51 = .ok (.getfield 116, 3) := by decide +kernel
theorem dX8_bottle_54 : decode cX8_bottle 54 = .ok (.iload_n 1, 1) := by decide +kernel
theorem dX8_bottle_55 : decode cX8_bottle 55 = .ok (.iaload, 1) := by decide +kernel
theorem dX8_bottle_56 : decode cX8_bottle 56 = .ok (.ireturn, 1) := by decide +kernel
theorem dX8_bottle_57 : decode cX8_bottle 57 = .ok (.aload_n 0, 1) := by decide +kernel
theorem dX8_bottle_58 : decode cX8_bottle 58 = .ok (.getfield 24, 3) := by decide +kernel
theorem dX8_bottle_61 : decode cX8_bottle 61 = .ok (.getfield 112, 3) := by decide +kernel
theorem dX8_bottle_64 : decode cX8_bottle 64 = .ok (.getfield 121, 3) := by decide +kernel
theorem dX8_bottle_67 : decode cX8_bottle 67 = .ok (.iload_n 1, 1) := by decide +kernel
theorem dX8_bottle_68 : decode cX8_bottle 68 = .ok (.iaload, 1) := by decide +kernel
theorem dX8_bottle_69 : decode cX8_bottle 69 = .ok (.ireturn, 1) := by decide +kernel
theorem dX8_bottle_70 : decode cX8_bottle 70 = .ok (.aload_n 0, 1) := by decide +kernel
theorem dX8_bottle_71 : decode cX8_bottle 71 = .ok (.getfield 24, 3) := by decide +kernel
theorem dX8_bottle_74 : decode cX8_bottle 74 = .ok (.getfield 112, 3) := by decide +kernel
theorem dX8_bottle_77 : decode cX8_bottle 77 = .ok (.getfield 124, 3) := by decide +kernel
theorem dX8_bottle_80 : decode cX8_bottle 80 = .ok (.iload_n 1, 1) := by decide +kernel
theorem dX8_bottle_81 : decode cX8_bottle 81 = .ok (.iaload, 1) := by decide +kernel
theorem dX8_bottle_82 : decode cX8_bottle 82 = .ok (.ireturn, 1) := by decide +kernel
theorem dX8_bottle_83 : decode cX8_bottle 83 = .ok (.aload_n 0, 1) := by decide +kernel
theorem dX8_bottle_84 : decode cX8_bottle 84 = .ok (.getfield 24, 3) := by decide +kernel
theorem dX8_bottle_87 : decode cX8_bottle 87 = .ok (.getfield 112, 3) := by decide +kernel
theorem dX8_bottle_90 : decode cX8_bottle 90 = .ok (.getfield 127, 3) := by decide +kernel
theorem dX8_bottle_93 : decode cX8_bottle 93 = .ok (.iload_n 1, 1) := by decide +kernel
theorem dX8_bottle_94 : decode cX8_bottle 94 = .ok (.ishr, 1) := by decide +kernel
theorem dX8_bottle_95 : decode cX8_bottle 95 = .ok (.iconst 1, 1) := by decide +kernel
theorem dX8_bottle_96 : decode cX8_bottle 96 = .ok (.iand, 1) := by decide +kernel
theorem dX8_bottle_97 : decode cX8_bottle 97 = .ok (.ireturn, 1) := by decide +kernel
theorem dX8_bottle_98 : decode cX8_bottle 98 = .ok (.bipush (-2), 2) := by decide +kernel
theorem dX8_bottle_100 : decode cX8_bottle 100 = .ok (.ireturn, 1) := by decide +kernel
theorem dX8_note_0 : decode cX8_note 0 = .ok (.iload_n 1, 1) := by decide +kernel
theorem dX8_note_1 : decode cX8_note 1 = .ok (.bipush 8, 2) := by decide +kernel
theorem dX8_note_3 : decode cX8_note 3 = .ok (.invokestatic 81, 3) := by decide +kernel
theorem dX8_note_6 : decode cX8_note 6 = .ok (.ifCond .ne 6, 3) := by decide +kernel
theorem dX8_note_9 : decode cX8_note 9 = .ok (.bipush (-2), 2) := by decide +kernel
theorem dX8_note_11 : decode cX8_note 11 = .ok (.ireturn, 1) := by decide +kernel
theorem dX8_note_12 : decode cX8_note 12 = .ok (.iload_n 1, 1) := by decide +kernel
theorem dX8_note_13 : decode cX8_note 13 = .ok (.aload_n 0, 1) := by decide +kernel
theorem dX8_note_14 : decode cX8_note 14 = .ok (.getfield 31, 3) := by decide +kernel
theorem dX8_note_17 : decode cX8_note 17 = .ok (.getfield 130, 3) := by decide +kernel
theorem dX8_note_20 : decode cX8_note 20 = .ok (.if_icmp .ge 15, 3) := by decide +kernel
theorem dX8_note_23 : decode cX8_note 23 = .ok (.aload_n 0, 1) := by decide +kernel
theorem dX8_note_24 : decode cX8_note 24 = .ok (.getfield 31, 3) := by decide +kernel
theorem dX8_note_27 : decode cX8_note 27 = .ok (.getfield 131, 3) := by decide +kernel
theorem dX8_note_30 : decode cX8_note 30 = .ok (.iload_n 1, 1) := by decide +kernel
theorem dX8_note_31 : decode cX8_note 31 = .ok (.iaload, 1) := by decide +kernel
theorem dX8_note_32 : decode cX8_note 32 = .ok (.goto 4, 3) := by decide +kernel
theorem dX8_note_35 : decode cX8_note 35 = .ok (.iconst (-1), 1) := by decide +kernel
theorem dX8_note_36 : decode cX8_note 36 = .ok (.ireturn, 1) := by decide +kernel
theorem dX8_burst_0 : decode cX8_burst 0 = .ok (.iload_n 1, 1) := by decide +kernel
theorem dX8_burst_1 : decode cX8_burst 1 = .ok (.iconst 1, 1) := by decide +kernel
theorem dX8_burst_2 : decode cX8_burst 2 = .ok (.if_icmp .lt 10, 3) := by decide +kernel
theorem dX8_burst_5 : decode cX8_burst 5 = .ok (.iload_n 1, 1) := by decide +kernel
theorem dX8_burst_6 : decode cX8_burst 6 = .ok (.sipush 200, 3) := by decide +kernel
theorem dX8_burst_9 : decode cX8_burst 9 = .ok (.if_icmp .le 6, 3) := by decide +kernel
theorem dX8_burst_12 : decode cX8_burst 12 = .ok (.bipush (-2), 2) := by decide +kernel
theorem dX8_burst_14 : decode cX8_burst 14 = .ok (.ireturn, 1) := by decide +kernel
theorem dX8_burst_15 : decode cX8_burst 15 = .ok (.aload_n 0, 1) := by decide +kernel
theorem dX8_burst_16 : decode cX8_burst 16 = .ok (.getfield 24, 3) := by decide +kernel
theorem dX8_burst_19 : decode cX8_burst 19 = .ok (.getfield 134, 3) := by decide +kernel
theorem dX8_burst_22 : decode cX8_burst 22 = .ok (.istore_n 2, 1) := by decide +kernel
theorem dX8_burst_23 : decode cX8_burst 23 = .ok (.aload_n 0, 1) := by decide +kernel
theorem dX8_burst_24 : decode cX8_burst 24 = .ok (.getfield 24, 3) := by decide +kernel
theorem dX8_burst_27 : decode cX8_burst 27 = .ok (.iload_n 1, 1) := by decide +kernel
theorem dX8_burst_28 : decode cX8_burst 28 = .ok (.putfield 134, 3) := by decide +kernel
theorem dX8_burst_31 : decode cX8_burst 31 = .ok (.aload_n 0, 1) := by decide +kernel
theorem dX8_burst_32 : decode cX8_burst 32 = .ok (.invokevirtual 137, 3) := by decide +kernel
theorem dX8_burst_35 : decode cX8_burst 35 = .ok (.iload_n 2, 1) := by decide +kernel
theorem dX8_burst_36 : decode cX8_burst 36 = .ok (.ireturn, 1) := by decide +kernel
theorem dX8_hot_0 : decode cX8_hot 0 = .ok (.iload_n 1, 1) := by decide +kernel
theorem dX8_hot_1 : decode cX8_hot 1 = .ok (.bipush 40, 2) := by decide +kernel
theorem dX8_hot_3 : decode cX8_hot 3 = .ok (.invokestatic 81, 3) := by decide +kernel
theorem dX8_hot_6 : decode cX8_hot 6 = .ok (.ifCond .ne 6, 3) := by decide +kernel
theorem dX8_hot_9 : decode cX8_hot 9 = .ok (.bipush (-2), 2) := by decide +kernel
theorem dX8_hot_11 : decode cX8_hot 11 = .ok (.ireturn, 1) := by decide +kernel
theorem dX8_hot_12 : decode cX8_hot 12 = .ok (.aload_n 0, 1) := by decide +kernel
theorem dX8_hot_13 : decode cX8_hot 13 = .ok (.getfield 24, 3) := by decide +kernel
theorem dX8_hot_16 : decode cX8_hot 16 = .ok (.getfield 140, 3) := by decide +kernel
theorem dX8_hot_19 : decode cX8_hot 19 = .ok (.bipush 8, 2) := by decide +kernel
theorem dX8_hot_21 : decode cX8_hot 21 = .ok (.if_icmp .lt 6, 3) := by decide +kernel
theorem dX8_hot_24 : decode cX8_hot 24 = .ok (.bipush (-4), 2) := by decide +kernel
theorem dX8_hot_26 : decode cX8_hot 26 = .ok (.ireturn, 1) := by decide +kernel
theorem dX8_hot_27 : decode cX8_hot 27 = .ok (.aload_n 0, 1) := by decide +kernel
theorem dX8_hot_28 : decode cX8_hot 28 = .ok (.getfield 24, 3) := by decide +kernel
theorem dX8_hot_31 : decode cX8_hot 31 = .ok (.getfield 143, 3) := by decide +kernel
theorem dX8_hot_34 : decode cX8_hot 34 = .ok (.aload_n 0, 1) := by decide +kernel
theorem dX8_hot_35 : decode cX8_hot 35 = .ok (.getfield 24, 3) := by decide +kernel
theorem dX8_hot_38 : decode cX8_hot 38 = .ok (.getfield 140, 3) := by decide +kernel
theorem dX8_hot_41 : decode cX8_hot 41 = .ok (.iload_n 1, 1) := by decide +kernel
theorem dX8_hot_42 : decode cX8_hot 42 = .ok (.iastore, 1) := by decide +kernel
theorem dX8_hot_43 : decode cX8_hot 43 = .ok (.aload_n 0, 1) := by decide +kernel
theorem dX8_hot_44 : decode cX8_hot 44 = .ok (.getfield 24, 3) := by decide +kernel
theorem dX8_hot_47 : decode cX8_hot 47 = .ok (.dup, 1) := by decide +kernel
theorem dX8_hot_48 : decode cX8_hot 48 = .ok (.getfield 140, 3) := by decide +kernel
theorem dX8_hot_51 : decode cX8_hot 51 = .ok (.iconst 1, 1) := by decide +kernel
theorem dX8_hot_52 : decode cX8_hot 52 = .ok (.iadd, 1) := by decide +kernel
theorem dX8_hot_53 : decode cX8_hot 53 = .ok (.putfield 140, 3) := by decide +kernel
theorem dX8_hot_56 : decode cX8_hot 56 = .ok (.aload_n 0, 1) := by decide +kernel
theorem dX8_hot_57 : decode cX8_hot 57 = .ok (.invokevirtual 137, 3) := by decide +kernel
theorem dX8_hot_60 : decode cX8_hot 60 = .ok (.aload_n 0, 1) := by decide +kernel
theorem dX8_hot_61 : decode cX8_hot 61 = .ok (.getfield 24, 3) := by decide +kernel
theorem dX8_hot_64 : decode cX8_hot 64 = .ok (.getfield 140, 3) := by decide +kernel
theorem dX8_hot_67 : decode cX8_hot 67 = .ok (.ireturn, 1) := by decide +kernel
theorem dX8_act_0 : decode cX8_act 0 = .ok (.iload_n 1, 1) := by decide +kernel
theorem dX8_act_1 : decode cX8_act 1 = .ok (.iload_n 2, 1) := by decide +kernel
theorem dX8_act_2 : decode cX8_act 2 = .ok (.iload_n 3, 1) := by decide +kernel
theorem dX8_act_3 : decode cX8_act 3 = .ok (.iload 4, 2) := by decide +kernel
theorem dX8_act_5 : decode cX8_act 5 = .ok (.invokestatic 146, 3) := by decide +kernel
theorem dX8_act_8 : decode cX8_act 8 = .ok (.ifCond .ne 6, 3) := by decide +kernel
theorem dX8_act_11 : decode cX8_act 11 = .ok (.bipush (-2), 2) := by decide +kernel
theorem dX8_act_13 : decode cX8_act 13 = .ok (.ireturn, 1) := by decide +kernel
theorem dX8_act_14 : decode cX8_act 14 = .ok (.aload_n 0, 1) := by decide +kernel
theorem dX8_act_15 : decode cX8_act 15 = .ok (.getfield 24, 3) := by decide +kernel
theorem dX8_act_18 : decode cX8_act 18 = .ok (.getfield 150, 3) := by decide +kernel
theorem dX8_act_21 : decode cX8_act 21 = .ok (.astore 5, 2) := by decide +kernel
theorem dX8_act_23 : decode cX8_act 23 = .ok (.aload 5, 2) := by decide +kernel
theorem dX8_act_25 : decode cX8_act 25 = .ok (.getfield 154, 3) := by decide +kernel
theorem dX8_act_28 : decode cX8_act 28 = .ok (.istore 6, 2) := by decide +kernel
theorem dX8_act_30 : decode cX8_act 30 = .ok (.iload 6, 2) := by decide +kernel
theorem dX8_act_32 : decode cX8_act 32 = .ok (.bipush 16, 2) := by decide +kernel
theorem dX8_act_34 : decode cX8_act 34 = .ok (.if_icmp .lt 6, 3) := by decide +kernel
theorem dX8_act_37 : decode cX8_act 37 = .ok (.bipush (-4), 2) := by decide +kernel
theorem dX8_act_39 : decode cX8_act 39 = .ok (.ireturn, 1) := by decide +kernel
theorem dX8_act_40 : decode cX8_act 40 = .ok (.aload 5, 2) := by decide +kernel
theorem dX8_act_42 : decode cX8_act 42 = .ok (.getfield 157, 3) := by decide +kernel
theorem dX8_act_45 : decode cX8_act 45 = .ok (.iload 6, 2) := by decide +kernel
theorem dX8_act_47 : decode cX8_act 47 = .ok (.iload_n 1, 1) := by decide +kernel
theorem dX8_act_48 : decode cX8_act 48 = .ok (.iastore, 1) := by decide +kernel
theorem dX8_act_49 : decode cX8_act 49 = .ok (.aload 5, 2) := by decide +kernel
theorem dX8_act_51 : decode cX8_act 51 = .ok (.getfield 160, 3) := by decide +kernel
theorem dX8_act_54 : decode cX8_act 54 = .ok (.iload 6, 2) := by decide +kernel
theorem dX8_act_56 : decode cX8_act 56 = .ok (.iload_n 2, 1) := by decide +kernel
theorem dX8_act_57 : decode cX8_act 57 = .ok (.iastore, 1) := by decide +kernel
theorem dX8_act_58 : decode cX8_act 58 = .ok (.aload 5, 2) := by decide +kernel
theorem dX8_act_60 : decode cX8_act 60 = .ok (.getfield 163, 3) := by decide +kernel
theorem dX8_act_63 : decode cX8_act 63 = .ok (.iload 6, 2) := by decide +kernel
theorem dX8_act_65 : decode cX8_act 65 = .ok (.iload_n 3, 1) := by decide +kernel
theorem dX8_act_66 : decode cX8_act 66 = .ok (.iastore, 1) := by decide +kernel
theorem dX8_act_67 : decode cX8_act 67 = .ok (.aload 5, 2) := by decide +kernel
theorem dX8_act_69 : decode cX8_act 69 = .ok (.getfield 166, 3) := by decide +kernel
theorem dX8_act_72 : decode cX8_act 72 = .ok (.iload 6, 2) := by decide +kernel
theorem dX8_act_74 : decode cX8_act 74 = .ok (.iload 4, 2) := by decide +kernel
theorem dX8_act_76 : decode cX8_act 76 = .ok (.iastore, 1) := by decide +kernel
theorem dX8_act_77 : decode cX8_act 77 = .ok (.aload 5, 2) := by decide +kernel
theorem dX8_act_79 : decode cX8_act 79 = .ok (.dup, 1) := by decide +kernel
theorem dX8_act_80 : decode cX8_act 80 = .ok (.getfield 154, 3) := by decide +kernel
theorem dX8_act_83 : decode cX8_act 83 = .ok (.iconst 1, 1) := by decide +kernel
theorem dX8_act_84 : decode cX8_act 84 = .ok (.iadd, 1) := by decide +kernel
theorem dX8_act_85 : decode cX8_act 85 = .ok (.putfield 154, 3) := by decide +kernel
theorem dX8_act_88 : decode cX8_act 88 = .ok (.aload_n 0, 1) := by decide +kernel
theorem dX8_act_89 : decode cX8_act 89 = .ok (.invokevirtual 137, 3) := by decide +kernel
theorem dX8_act_92 : decode cX8_act 92 = .ok (.aload 5, 2) := by decide +kernel
theorem dX8_act_94 : decode cX8_act 94 = .ok (.getfield 154, 3) := by decide +kernel
theorem dX8_act_97 : decode cX8_act 97 = .ok (.ireturn, 1) := by decide +kernel
theorem dX8_back_0 : decode cX8_back 0 = .ok (.iload_n 1, 1) := by decide +kernel
theorem dX8_back_1 : decode cX8_back 1 = .ok (.iconst 2, 1) := by decide +kernel
theorem dX8_back_2 : decode cX8_back 2 = .ok (.invokestatic 81, 3) := by decide +kernel
theorem dX8_back_5 : decode cX8_back 5 = .ok (.ifCond .ne 6, 3) := by decide +kernel
theorem dX8_back_8 : decode cX8_back 8 = .ok (.bipush (-2), 2) := by decide +kernel
theorem dX8_back_10 : decode cX8_back 10 = .ok (.ireturn, 1) := by decide +kernel
theorem dX8_back_11 : decode cX8_back 11 = .ok (.iload_n 1, 1) := by decide +kernel
theorem dX8_back_12 : decode cX8_back 12 = .ok (.ifCond .ne 16, 3) := by decide +kernel
theorem dX8_back_15 : decode cX8_back 15 = .ok (.aload_n 0, 1) := by decide +kernel
theorem dX8_back_16 : decode cX8_back 16 = .ok (.getfield 24, 3) := by decide +kernel
theorem dX8_back_19 : decode cX8_back 19 = .ok (.getfield 150, 3) := by decide +kernel
theorem dX8_back_22 : decode cX8_back 22 = .ok (.getfield 154, 3) := by decide +kernel
theorem dX8_back_25 : decode cX8_back 25 = .ok (.goto 10, 3) := by decide +kernel
theorem dX8_back_28 : decode cX8_back 28 = .ok (.aload_n 0, 1) := by decide +kernel
theorem dX8_back_29 : decode cX8_back 29 = .ok (.getfield 24, 3) := by decide +kernel
theorem dX8_back_32 : decode cX8_back 32 = .ok (.getfield 140, 3) := by decide +kernel
theorem dX8_back_35 : decode cX8_back 35 = .ok (.istore_n 2, 1) := by decide +kernel
theorem dX8_back_36 : decode cX8_back 36 = .ok (.iload_n 2, 1) := by decide +kernel
theorem dX8_back_37 : decode cX8_back 37 = .ok (.ifCond .ne 6, 3) := by decide +kernel
theorem dX8_back_40 : decode cX8_back 40 = .ok (.bipush (-3), 2) := by decide +kernel
theorem dX8_back_42 : decode cX8_back 42 = .ok (.ireturn, 1) := by decide +kernel
theorem dX8_back_43 : decode cX8_back 43 = .ok (.iload_n 1, 1) := by decide +kernel
theorem dX8_back_44 : decode cX8_back 44 = .ok (.ifCond .ne 22, 3) := by decide +kernel
theorem dX8_back_47 : decode cX8_back 47 = .ok (.aload_n 0, 1) := by decide +kernel
theorem dX8_back_48 : decode cX8_back 48 = .ok (.getfield 24, 3) := by decide +kernel
theorem dX8_back_51 : decode cX8_back 51 = .ok (.getfield 150, 3) := by decide +kernel
theorem dX8_back_54 : decode cX8_back 54 = .ok (.dup, 1) := by decide +kernel
theorem dX8_back_55 : decode cX8_back 55 = .ok (.getfield 154, 3) := by decide +kernel
theorem dX8_back_58 : decode cX8_back 58 = .ok (.iconst 1, 1) := by decide +kernel
theorem dX8_back_59 : decode cX8_back 59 = .ok (.isub, 1) := by decide +kernel
theorem dX8_back_60 : decode cX8_back 60 = .ok (.putfield 154, 3) := by decide +kernel
theorem dX8_back_63 : decode cX8_back 63 = .ok (.goto 16, 3) := by decide +kernel
theorem dX8_back_66 : decode cX8_back 66 = .ok (.aload_n 0, 1) := by decide +kernel
theorem dX8_back_67 : decode cX8_back 67 = .ok (.getfield 24, 3) := by decide +kernel
theorem dX8_back_70 : decode cX8_back 70 = .ok (.dup, 1) := by decide +kernel
theorem dX8_back_71 : decode cX8_back 71 = .ok (.getfield 140, 3) := by decide +kernel
theorem dX8_back_74 : decode cX8_back 74 = .ok (.iconst 1, 1) := by decide +kernel
theorem dX8_back_75 : decode cX8_back 75 = .ok (.isub, 1) := by decide +kernel
theorem dX8_back_76 : decode cX8_back 76 = .ok (.putfield 140, 3) := by decide +kernel
theorem dX8_back_79 : decode cX8_back 79 = .ok (.aload_n 0, 1) := by decide +kernel
theorem dX8_back_80 : decode cX8_back 80 = .ok (.invokevirtual 137, 3) := by decide +kernel
theorem dX8_back_83 : decode cX8_back 83 = .ok (.iload_n 2, 1) := by decide +kernel
theorem dX8_back_84 : decode cX8_back 84 = .ok (.iconst 1, 1) := by decide +kernel
theorem dX8_back_85 : decode cX8_back 85 = .ok (.isub, 1) := by decide +kernel
theorem dX8_back_86 : decode cX8_back 86 = .ok (.ireturn, 1) := by decide +kernel
theorem dX8_read_0 : decode cX8_read 0 = .ok (.iload_n 1, 1) := by decide +kernel
theorem dX8_read_1 : decode cX8_read 1 = .ok (.iconst 4, 1) := by decide +kernel
theorem dX8_read_2 : decode cX8_read 2 = .ok (.invokestatic 81, 3) := by decide +kernel
theorem dX8_read_5 : decode cX8_read 5 = .ok (.ifCond .ne 6, 3) := by decide +kernel
theorem dX8_read_8 : decode cX8_read 8 = .ok (.bipush (-2), 2) := by decide +kernel
theorem dX8_read_10 : decode cX8_read 10 = .ok (.ireturn, 1) := by decide +kernel
theorem dX8_read_11 : decode cX8_read 11 = .ok (.aload_n 0, 1) := by decide +kernel
theorem dX8_read_12 : decode cX8_read 12 = .ok (.getfield 45, 3) := by decide +kernel
theorem dX8_read_15 : decode cX8_read 15 = .ok (.getfield 169, 3) := by decide +kernel
theorem dX8_read_18 : decode cX8_read 18 = .ok (.iload_n 1, 1) := by decide +kernel
theorem dX8_read_19 : decode cX8_read 19 = .ok (.iaload, 1) := by decide +kernel
theorem dX8_read_20 : decode cX8_read 20 = .ok (.iconst (-1), 1) := by decide +kernel
theorem dX8_read_21 : decode cX8_read 21 = .ok (.if_icmp .ne 9, 3) := by decide +kernel
theorem dX8_read_24 : decode cX8_read 24 = .ok (.aload_n 0, 1) := by decide +kernel
theorem dX8_read_25 : decode cX8_read 25 = .ok (.iconst 1, 1) := by decide +kernel
theorem dX8_read_26 : decode cX8_read 26 = .ok (.invokevirtual 172, 3) := by decide +kernel
theorem dX8_read_29 : decode cX8_read 29 = .ok (.ireturn, 1) := by decide +kernel
theorem dX8_read_30 : decode cX8_read 30 = .ok (.aload_n 0, 1) := by decide +kernel
theorem dX8_read_31 : decode cX8_read 31 = .ok (.getfield 45, 3) := by decide +kernel
theorem dX8_read_34 : decode cX8_read 34 = .ok (.getfield 176, 3) := by decide +kernel
theorem dX8_read_37 : decode cX8_read 37 = .ok (.iload_n 1, 1) := by decide +kernel
theorem dX8_read_38 : decode cX8_read 38 = .ok (.aaload, 1) := by decide +kernel
theorem dX8_read_39 : decode cX8_read 39 = .ok (.astore_n 2, 1) := by decide +kernel
theorem dX8_read_40 : decode cX8_read 40 = .ok (.aload_n 0, 1) := by decide +kernel
theorem dX8_read_41 : decode cX8_read 41 = .ok (.getfield 45, 3) := by decide +kernel
theorem dX8_read_44 : decode cX8_read 44 = .ok (.getfield 180, 3) := by decide +kernel
theorem dX8_read_47 : decode cX8_read 47 = .ok (.iload_n 1, 1) := by decide +kernel
theorem dX8_read_48 : decode cX8_read 48 = .ok (.iaload, 1) := by decide +kernel
theorem dX8_read_49 : decode cX8_read 49 = .ok (.iconst 4, 1) := by decide +kernel
theorem dX8_read_50 : decode cX8_read 50 = .ok (.idiv, 1) := by decide +kernel
theorem dX8_read_51 : decode cX8_read 51 = .ok (.istore_n 3, 1) := by decide +kernel
theorem dX8_read_52 : decode cX8_read 52 = .ok (.iconst 0, 1) := by decide +kernel
theorem dX8_read_53 : decode cX8_read 53 = .ok (.istore 4, 2) := by decide +kernel
theorem dX8_read_55 : decode cX8_read 55 = .ok (.iload 4, 2) := by decide +kernel
theorem dX8_read_57 : decode cX8_read 57 = .ok (.iload_n 3, 1) := by decide +kernel
theorem dX8_read_58 : decode cX8_read 58 = .ok (.if_icmp .ge 47, 3) := by decide +kernel
theorem dX8_read_61 : decode cX8_read 61 = .ok (.iconst 4, 1) := by decide +kernel
theorem dX8_read_62 : decode cX8_read 62 = .ok (.iload 4, 2) := by decide +kernel
theorem dX8_read_64 : decode cX8_read 64 = .ok (.imul, 1) := by decide +kernel
theorem dX8_read_65 : decode cX8_read 65 = .ok (.istore 5, 2) := by decide +kernel
theorem dX8_read_67 : decode cX8_read 67 = .ok (.aload_n 0, 1) := by decide +kernel
theorem dX8_read_68 : decode cX8_read 68 = .ok (.aload_n 2, 1) := by decide +kernel
theorem dX8_read_69 : decode cX8_read 69 = .ok (.iload 5, 2) := by decide +kernel
theorem dX8_read_71 : decode cX8_read 71 = .ok (.iaload, 1) := by decide +kernel
theorem dX8_read_72 : decode cX8_read 72 = .ok (.aload_n 2, 1) := by decide +kernel
theorem dX8_read_73 : decode cX8_read 73 = .ok (.iload 5, 2) := by decide +kernel
theorem dX8_read_75 : decode cX8_read 75 = .ok (.iconst 1, 1) := by decide +kernel
theorem dX8_read_76 : decode cX8_read 76 = .ok (.iadd, 1) := by decide +kernel
theorem dX8_read_77 : decode cX8_read 77 = .ok (.iaload, 1) := by decide +kernel
theorem dX8_read_78 : decode cX8_read 78 = .ok (.aload_n 2, 1) := by decide +kernel
theorem dX8_read_79 : decode cX8_read 79 = .ok (.iload 5, 2) := by decide +kernel
theorem dX8_read_81 : decode cX8_read 81 = .ok (.iconst 2, 1) := by decide +kernel
theorem dX8_read_82 : decode cX8_read 82 = .ok (.iadd, 1) := by decide +kernel
theorem dX8_read_83 : decode cX8_read 83 = .ok (.iaload, 1) := by decide +kernel
theorem dX8_read_84 : decode cX8_read 84 = .ok (.aload_n 2, 1) := by decide +kernel
theorem dX8_read_85 : decode cX8_read 85 = .ok (.iload 5, 2) := by decide +kernel
theorem dX8_read_87 : decode cX8_read 87 = .ok (.iconst 3, 1) := by decide +kernel
theorem dX8_read_88 : decode cX8_read 88 = .ok (.iadd, 1) := by decide +kernel
theorem dX8_read_89 : decode cX8_read 89 = .ok (.iaload, 1) := by decide +kernel
theorem dX8_read_90 : decode cX8_read 90 = .ok (.invokevirtual 182, 3) := by decide +kernel
theorem dX8_read_93 : decode cX8_read 93 = .ok (.ifCond .ge 6, 3) := by decide +kernel
theorem dX8_read_96 : decode cX8_read 96 = .ok (.iload 4, 2) := by decide +kernel
theorem dX8_read_98 : decode cX8_read 98 = .ok (.ireturn, 1) := by decide +kernel
theorem dX8_read_99 : decode cX8_read 99 = .ok (.iinc 4 1, 3) := by decide +kernel
theorem dX8_read_102 : decode cX8_read 102 = .ok (.goto (-47), 3) := by decide +kernel
theorem dX8_read_105 : decode cX8_read 105 = .ok (.iload_n 3, 1) := by decide +kernel
theorem dX8_read_106 : decode cX8_read 106 = .ok (.ireturn, 1) := by decide +kernel
theorem dX8_holds_0 : decode cX8_holds 0 = .ok (.iload_n 1, 1) := by decide +kernel
theorem dX8_holds_1 : decode cX8_holds 1 = .ok (.bipush 40, 2) := by decide +kernel
theorem dX8_holds_3 : decode cX8_holds 3 = .ok (.invokestatic 81, 3) := by decide +kernel
theorem dX8_holds_6 : decode cX8_holds 6 = .ok (.ifCond .eq 25, 3) := by decide +kernel
theorem dX8_holds_9 : decode cX8_holds 9 = .ok (.aload_n 0, 1) := by decide +kernel
theorem dX8_holds_10 : decode cX8_holds 10 = .ok (.iload_n 2, 1) := by decide +kernel
theorem dX8_holds_11 : decode cX8_holds 11 = .ok (.invokevirtual 108, 3) := by decide +kernel
theorem dX8_holds_14 : decode cX8_holds 14 = .ok (.ifCond .eq 17, 3) := by decide +kernel
theorem dX8_holds_17 : decode cX8_holds 17 = .ok (.iload_n 3, 1) := by decide +kernel
theorem dX8_holds_18 : decode cX8_holds 18 = .ok (.iconst (-1), 1) := by decide +kernel
theorem dX8_holds_19 : decode cX8_holds 19 = .ok (.if_icmp .eq 15, 3) := by decide +kernel
theorem dX8_holds_22 : decode cX8_holds 22 = .ok (.iload_n 3, 1) := by decide +kernel
theorem dX8_holds_23 : decode cX8_holds 23 = .ok (.bipush 8, 2) := by decide +kernel
theorem dX8_holds_25 : decode cX8_holds 25 = .ok (.invokestatic 81, 3) := by decide +kernel
theorem dX8_holds_28 : decode cX8_holds 28 = .ok (.ifCond .ne 6, 3) := by decide +kernel
theorem dX8_holds_31 : decode cX8_holds 31 = .ok (.bipush (-2), 2) := by decide +kernel
theorem dX8_holds_33 : decode cX8_holds 33 = .ok (.ireturn, 1) := by decide +kernel
theorem dX8_holds_34 : decode cX8_holds 34 = .ok (.aload_n 0, 1) := by decide +kernel
theorem dX8_holds_35 : decode cX8_holds 35 = .ok (.iload_n 1, 1) := by decide +kernel
theorem dX8_holds_36 : decode cX8_holds 36 = .ok (.invokevirtual 186, 3) := by decide +kernel
theorem dX8_holds_39 : decode cX8_holds 39 = .ok (.astore 4, 2) := by decide +kernel
theorem dX8_holds_41 : decode cX8_holds 41 = .ok (.iload_n 3, 1) := by decide +kernel
theorem dX8_holds_42 : decode cX8_holds 42 = .ok (.iconst (-1), 1) := by decide +kernel
theorem dX8_holds_43 : decode cX8_holds 43 = .ok (.if_icmp .ne 12, 3) := by decide +kernel
theorem dX8_holds_46 : decode cX8_holds 46 = .ok (.aload 4, 2) := by decide +kernel
theorem dX8_holds_48 : decode cX8_holds 48 = .ok (.iload_n 2, 1) := by decide +kernel
theorem dX8_holds_49 : decode cX8_holds 49 = .ok (.invokevirtual 190, 3) := by decide +kernel
theorem dX8_holds_52 : decode cX8_holds 52 = .ok (.goto 10, 3) := by decide +kernel
theorem dX8_holds_55 : decode cX8_holds 55 = .ok (.aload 4, 2) := by decide +kernel
theorem dX8_holds_57 : decode cX8_holds 57 = .ok (.iload_n 2, 1) := by decide +kernel
theorem dX8_holds_58 : decode cX8_holds 58 = .ok (.iload_n 3, 1) := by decide +kernel
theorem dX8_holds_59 : decode cX8_holds 59 = .ok (.invokevirtual 193, 3) := by decide +kernel
theorem dX8_holds_62 : decode cX8_holds 62 = .ok (.ireturn, 1) := by decide +kernel
theorem dX8_who_0 : decode cX8_who 0 = .ok (.iload_n 1, 1) := by decide +kernel
theorem dX8_who_1 : decode cX8_who 1 = .ok (.bipush 40, 2) := by decide +kernel
theorem dX8_who_3 : decode cX8_who 3 = .ok (.invokestatic 81, 3) := by decide +kernel
theorem dX8_who_6 : decode cX8_who 6 = .ok (.ifCond .eq 11, 3) := by decide +kernel
theorem dX8_who_9 : decode cX8_who 9 = .ok (.aload_n 0, 1) := by decide +kernel
theorem dX8_who_10 : decode cX8_who 10 = .ok (.iload_n 2, 1) := by decide +kernel
theorem dX8_who_11 : decode cX8_who 11 = .ok (.invokevirtual 108, 3) := by decide +kernel
theorem dX8_who_14 : decode cX8_who 14 = .ok (.ifCond .ne 6, 3) := by decide +kernel
theorem dX8_who_17 : decode cX8_who 17 = .ok (.bipush (-2), 2) := by decide +kernel
theorem dX8_who_19 : decode cX8_who 19 = .ok (.ireturn, 1) := by decide +kernel
theorem dX8_who_20 : decode cX8_who 20 = .ok (.aload_n 0, 1) := by decide +kernel
theorem dX8_who_21 : decode cX8_who 21 = .ok (.iload_n 1, 1) := by decide +kernel
theorem dX8_who_22 : decode cX8_who 22 = .ok (.invokevirtual 186, 3) := by decide +kernel
theorem dX8_who_25 : decode cX8_who 25 = .ok (.getfield 197, 3) := by decide +kernel
theorem dX8_who_28 : decode cX8_who 28 = .ok (.iload_n 2, 1) := by decide +kernel
theorem dX8_who_29 : decode cX8_who 29 = .ok (.iaload, 1) := by decide +kernel
theorem dX8_who_30 : decode cX8_who 30 = .ok (.ireturn, 1) := by decide +kernel
theorem dX8_whole_0 : decode cX8_whole 0 = .ok (.iload_n 1, 1) := by decide +kernel
theorem dX8_whole_1 : decode cX8_whole 1 = .ok (.bipush 40, 2) := by decide +kernel
theorem dX8_whole_3 : decode cX8_whole 3 = .ok (.invokestatic 81, 3) := by decide +kernel
theorem dX8_whole_6 : decode cX8_whole 6 = .ok (.ifCond .eq 11, 3) := by decide +kernel
theorem dX8_whole_9 : decode cX8_whole 9 = .ok (.aload_n 0, 1) := by decide +kernel
theorem dX8_whole_10 : decode cX8_whole 10 = .ok (.iload_n 2, 1) := by decide +kernel
theorem dX8_whole_11 : decode cX8_whole 11 = .ok (.invokevirtual 108, 3) := by decide +kernel
theorem dX8_whole_14 : decode cX8_whole 14 = .ok (.ifCond .ne 6, 3) := by decide +kernel
theorem dX8_whole_17 : decode cX8_whole 17 = .ok (.bipush (-2), 2) := by decide +kernel
theorem dX8_whole_19 : decode cX8_whole 19 = .ok (.ireturn, 1) := by decide +kernel
theorem dX8_whole_20 : decode cX8_whole 20 = .ok (.aload_n 0, 1) := by decide +kernel
theorem dX8_whole_21 : decode cX8_whole 21 = .ok (.iload_n 1, 1) := by decide +kernel
theorem dX8_whole_22 : decode cX8_whole 22 = .ok (.invokevirtual 186, 3) := by decide +kernel
theorem dX8_whole_25 : decode cX8_whole 25 = .ok (.iload_n 2, 1) := by decide +kernel
theorem dX8_whole_26 : decode cX8_whole 26 = .ok (.invokevirtual 200, 3) := by decide +kernel
theorem dX8_whole_29 : decode cX8_whole 29 = .ok (.ifCond .eq 7, 3) := by decide +kernel
theorem dX8_whole_32 : decode cX8_whole 32 = .ok (.iconst 1, 1) := by decide +kernel
theorem dX8_whole_33 : decode cX8_whole 33 = .ok (.goto 4, 3) := by decide +kernel
theorem dX8_whole_36 : decode cX8_whole 36 = .ok (.iconst 0, 1) := by decide +kernel
theorem dX8_whole_37 : decode cX8_whole 37 = .ok (.ireturn, 1) := by decide +kernel
theorem dX8_has_0 : decode cX8_has 0 = .ok (.iload_n 1, 1) := by decide +kernel
theorem dX8_has_1 : decode cX8_has 1 = .ok (.bipush 40, 2) := by decide +kernel
theorem dX8_has_3 : decode cX8_has 3 = .ok (.invokestatic 81, 3) := by decide +kernel
theorem dX8_has_6 : decode cX8_has 6 = .ok (.ifCond .eq 12, 3) := by decide +kernel
theorem dX8_has_9 : decode cX8_has 9 = .ok (.iload_n 2, 1) := by decide +kernel
theorem dX8_has_10 : decode cX8_has 10 = .ok (.bipush 6, 2) := by decide +kernel
theorem dX8_has_12 : decode cX8_has 12 = .ok (.invokestatic 81, 3) := by decide +kernel
theorem dX8_has_15 : decode cX8_has 15 = .ok (.ifCond .ne 6, 3) := by decide +kernel
theorem dX8_has_18 : decode cX8_has 18 = .ok (.bipush (-2), 2) := by decide +kernel
theorem dX8_has_20 : decode cX8_has 20 = .ok (.ireturn, 1) := by decide +kernel
theorem dX8_has_21 : decode cX8_has 21 = .ok (.aload_n 0, 1) := by decide +kernel
theorem dX8_has_22 : decode cX8_has 22 = .ok (.iload_n 1, 1) := by decide +kernel
theorem dX8_has_23 : decode cX8_has 23 = .ok (.invokevirtual 186, 3) := by decide +kernel
theorem dX8_has_26 : decode cX8_has 26 = .ok (.iload_n 2, 1) := by decide +kernel
theorem dX8_has_27 : decode cX8_has 27 = .ok (.invokevirtual 203, 3) := by decide +kernel
theorem dX8_has_30 : decode cX8_has 30 = .ok (.ireturn, 1) := by decide +kernel
theorem dX8_heard_0 : decode cX8_heard 0 = .ok (.iload_n 1, 1) := by decide +kernel
theorem dX8_heard_1 : decode cX8_heard 1 = .ok (.bipush 40, 2) := by decide +kernel
theorem dX8_heard_3 : decode cX8_heard 3 = .ok (.invokestatic 81, 3) := by decide +kernel
theorem dX8_heard_6 : decode cX8_heard 6 = .ok (.ifCond .eq 12, 3) := by decide +kernel
theorem dX8_heard_9 : decode cX8_heard 9 = .ok (.iload_n 2, 1) := by decide +kernel
theorem dX8_heard_10 : decode cX8_heard 10 = .ok (.bipush 8, 2) := by decide +kernel
theorem dX8_heard_12 : decode cX8_heard 12 = .ok (.invokestatic 81, 3) := by decide +kernel
theorem dX8_heard_15 : decode cX8_heard 15 = .ok (.ifCond .ne 6, 3) := by decide +kernel
theorem dX8_heard_18 : decode cX8_heard 18 = .ok (.bipush (-2), 2) := by decide +kernel
theorem dX8_heard_20 : decode cX8_heard 20 = .ok (.ireturn, 1) := by decide +kernel
theorem dX8_heard_21 : decode cX8_heard 21 = .ok (.aload_n 0, 1) := by decide +kernel
theorem dX8_heard_22 : decode cX8_heard 22 = .ok (.iload_n 1, 1) := by decide +kernel
theorem dX8_heard_23 : decode cX8_heard 23 = .ok (.invokevirtual 186, 3) := by decide +kernel
theorem dX8_heard_26 : decode cX8_heard 26 = .ok (.getfield 206, 3) := by decide +kernel
theorem dX8_heard_29 : decode cX8_heard 29 = .ok (.iload_n 2, 1) := by decide +kernel
theorem dX8_heard_30 : decode cX8_heard 30 = .ok (.iaload, 1) := by decide +kernel
theorem dX8_heard_31 : decode cX8_heard 31 = .ok (.ireturn, 1) := by decide +kernel
theorem dX8_spilled_0 : decode cX8_spilled 0 = .ok (.iload_n 1, 1) := by decide +kernel
theorem dX8_spilled_1 : decode cX8_spilled 1 = .ok (.bipush 40, 2) := by decide +kernel
theorem dX8_spilled_3 : decode cX8_spilled 3 = .ok (.invokestatic 81, 3) := by decide +kernel
theorem dX8_spilled_6 : decode cX8_spilled 6 = .ok (.ifCond .eq 12, 3) := by decide +kernel
theorem dX8_spilled_9 : decode cX8_spilled 9 = .ok (.iload_n 2, 1) := by decide +kernel
theorem dX8_spilled_10 : decode cX8_spilled 10 = .ok (.bipush 8, 2) := by decide +kernel
theorem dX8_spilled_12 : decode cX8_spilled 12 = .ok (.invokestatic 81, 3) := by decide +kernel
theorem dX8_spilled_15 : decode cX8_spilled 15 = .ok (.ifCond .ne 6, 3) := by decide +kernel
theorem dX8_spilled_18 : decode cX8_spilled 18 = .ok (.bipush (-2), 2) := by decide +kernel
theorem dX8_spilled_20 : decode cX8_spilled 20 = .ok (.ireturn, 1) := by decide +kernel
theorem dX8_spilled_21 : decode cX8_spilled 21 = .ok (.aload_n 0, 1) := by decide +kernel
theorem dX8_spilled_22 : decode cX8_spilled 22 = .ok (.iload_n 1, 1) := by decide +kernel
theorem dX8_spilled_23 : decode cX8_spilled 23 = .ok (.invokevirtual 186, 3) := by decide +kernel
theorem dX8_spilled_26 : decode cX8_spilled 26 = .ok (.getfield 209, 3) := by decide +kernel
theorem dX8_spilled_29 : decode cX8_spilled 29 = .ok (.iload_n 2, 1) := by decide +kernel
theorem dX8_spilled_30 : decode cX8_spilled 30 = .ok (.iaload, 1) := by decide +kernel
theorem dX8_spilled_31 : decode cX8_spilled 31 = .ok (.ireturn, 1) := by decide +kernel
theorem dX8_leaked_0 : decode cX8_leaked 0 = .ok (.iload_n 1, 1) := by decide +kernel
theorem dX8_leaked_1 : decode cX8_leaked 1 = .ok (.bipush 40, 2) := by decide +kernel
theorem dX8_leaked_3 : decode cX8_leaked 3 = .ok (.invokestatic 81, 3) := by decide +kernel
theorem dX8_leaked_6 : decode cX8_leaked 6 = .ok (.ifCond .ne 6, 3) := by decide +kernel
theorem dX8_leaked_9 : decode cX8_leaked 9 = .ok (.bipush (-2), 2) := by decide +kernel
theorem dX8_leaked_11 : decode cX8_leaked 11 = .ok (.ireturn, 1) := by decide +kernel
theorem dX8_leaked_12 : decode cX8_leaked 12 = .ok (.aload_n 0, 1) := by decide +kernel
theorem dX8_leaked_13 : decode cX8_leaked 13 = .ok (.iload_n 1, 1) := by decide +kernel
theorem dX8_leaked_14 : decode cX8_leaked 14 = .ok (.invokevirtual 186, 3) := by decide +kernel
theorem dX8_leaked_17 : decode cX8_leaked 17 = .ok (.getfield 212, 3) := by decide +kernel
theorem dX8_leaked_20 : decode cX8_leaked 20 = .ok (.ireturn, 1) := by decide +kernel
theorem dX8_lost_0 : decode cX8_lost 0 = .ok (.iload_n 1, 1) := by decide +kernel
theorem dX8_lost_1 : decode cX8_lost 1 = .ok (.bipush 40, 2) := by decide +kernel
theorem dX8_lost_3 : decode cX8_lost 3 = .ok (.invokestatic 81, 3) := by decide +kernel
theorem dX8_lost_6 : decode cX8_lost 6 = .ok (.ifCond .ne 6, 3) := by decide +kernel
theorem dX8_lost_9 : decode cX8_lost 9 = .ok (.bipush (-2), 2) := by decide +kernel
theorem dX8_lost_11 : decode cX8_lost 11 = .ok (.ireturn, 1) := by decide +kernel
theorem dX8_lost_12 : decode cX8_lost 12 = .ok (.aload_n 0, 1) := by decide +kernel
theorem dX8_lost_13 : decode cX8_lost 13 = .ok (.getfield 24, 3) := by decide +kernel
theorem dX8_lost_16 : decode cX8_lost 16 = .ok (.getfield 112, 3) := by decide +kernel
theorem dX8_lost_19 : decode cX8_lost 19 = .ok (.invokevirtual 215, 3) := by decide +kernel
theorem dX8_lost_22 : decode cX8_lost 22 = .ok (.aload_n 0, 1) := by decide +kernel
theorem dX8_lost_23 : decode cX8_lost 23 = .ok (.iload_n 1, 1) := by decide +kernel
theorem dX8_lost_24 : decode cX8_lost 24 = .ok (.invokevirtual 186, 3) := by decide +kernel
theorem dX8_lost_27 : decode cX8_lost 27 = .ok (.iconst (-1), 1) := by decide +kernel
theorem dX8_lost_28 : decode cX8_lost 28 = .ok (.invokevirtual 203, 3) := by decide +kernel
theorem dX8_lost_31 : decode cX8_lost 31 = .ok (.iconst (-1), 1) := by decide +kernel
theorem dX8_lost_32 : decode cX8_lost 32 = .ok (.ixor, 1) := by decide +kernel
theorem dX8_lost_33 : decode cX8_lost 33 = .ok (.iand, 1) := by decide +kernel
theorem dX8_lost_34 : decode cX8_lost 34 = .ok (.ireturn, 1) := by decide +kernel
theorem dX8_works_0 : decode cX8_works 0 = .ok (.iload_n 1, 1) := by decide +kernel
theorem dX8_works_1 : decode cX8_works 1 = .ok (.aload_n 0, 1) := by decide +kernel
theorem dX8_works_2 : decode cX8_works 2 = .ok (.getfield 24, 3) := by decide +kernel
theorem dX8_works_5 : decode cX8_works 5 = .ok (.getfield 150, 3) := by decide +kernel
theorem dX8_works_8 : decode cX8_works 8 = .ok (.getfield 154, 3) := by decide +kernel
theorem dX8_works_11 : decode cX8_works 11 = .ok (.invokestatic 81, 3) := by decide +kernel
theorem dX8_works_14 : decode cX8_works 14 = .ok (.ifCond .ne 6, 3) := by decide +kernel
theorem dX8_works_17 : decode cX8_works 17 = .ok (.bipush (-2), 2) := by decide +kernel
theorem dX8_works_19 : decode cX8_works 19 = .ok (.ireturn, 1) := by decide +kernel
theorem dX8_works_20 : decode cX8_works 20 = .ok (.aload_n 0, 1) := by decide +kernel
theorem dX8_works_21 : decode cX8_works 21 = .ok (.aload_n 0, 1) := by decide +kernel
theorem dX8_works_22 : decode cX8_works 22 = .ok (.getfield 24, 3) := by decide +kernel
theorem dX8_works_25 : decode cX8_works 25 = .ok (.getfield 150, 3) := by decide +kernel
theorem dX8_works_28 : decode cX8_works 28 = .ok (.getfield 157, 3) := by decide +kernel
theorem dX8_works_31 : decode cX8_works 31 = .ok (.iload_n 1, 1) := by decide +kernel
theorem dX8_works_32 : decode cX8_works 32 = .ok (.iaload, 1) := by decide +kernel
theorem dX8_works_33 : decode cX8_works 33 = .ok (.invokevirtual 186, 3) := by decide +kernel
theorem dX8_works_36 : decode cX8_works 36 = .ok (.getfield 218, 3) := by decide +kernel
theorem dX8_works_39 : decode cX8_works 39 = .ok (.iload_n 1, 1) := by decide +kernel
theorem dX8_works_40 : decode cX8_works 40 = .ok (.ishr, 1) := by decide +kernel
theorem dX8_works_41 : decode cX8_works 41 = .ok (.iconst 1, 1) := by decide +kernel
theorem dX8_works_42 : decode cX8_works 42 = .ok (.iand, 1) := by decide +kernel
theorem dX8_works_43 : decode cX8_works 43 = .ok (.ireturn, 1) := by decide +kernel
theorem dX8_sing_0 : decode cX8_sing 0 = .ok (.iload_n 1, 1) := by decide +kernel
theorem dX8_sing_1 : decode cX8_sing 1 = .ok (.bipush 40, 2) := by decide +kernel
theorem dX8_sing_3 : decode cX8_sing 3 = .ok (.invokestatic 81, 3) := by decide +kernel
theorem dX8_sing_6 : decode cX8_sing 6 = .ok (.ifCond .eq 17, 3) := by decide +kernel
theorem dX8_sing_9 : decode cX8_sing 9 = .ok (.iload_n 2, 1) := by decide +kernel
theorem dX8_sing_10 : decode cX8_sing 10 = .ok (.iconst (-1), 1) := by decide +kernel
theorem dX8_sing_11 : decode cX8_sing 11 = .ok (.if_icmp .eq 15, 3) := by decide +kernel
theorem dX8_sing_14 : decode cX8_sing 14 = .ok (.iload_n 2, 1) := by decide +kernel
theorem dX8_sing_15 : decode cX8_sing 15 = .ok (.bipush 8, 2) := by decide +kernel
theorem dX8_sing_17 : decode cX8_sing 17 = .ok (.invokestatic 81, 3) := by decide +kernel
theorem dX8_sing_20 : decode cX8_sing 20 = .ok (.ifCond .ne 6, 3) := by decide +kernel
theorem dX8_sing_23 : decode cX8_sing 23 = .ok (.bipush (-2), 2) := by decide +kernel
theorem dX8_sing_25 : decode cX8_sing 25 = .ok (.ireturn, 1) := by decide +kernel
theorem dX8_sing_26 : decode cX8_sing 26 = .ok (.aload_n 0, 1) := by decide +kernel
theorem dX8_sing_27 : decode cX8_sing 27 = .ok (.getfield 31, 3) := by decide +kernel
theorem dX8_sing_30 : decode cX8_sing 30 = .ok (.aload_n 0, 1) := by decide +kernel
theorem dX8_sing_31 : decode cX8_sing 31 = .ok (.iload_n 1, 1) := by decide +kernel
theorem dX8_sing_32 : decode cX8_sing 32 = .ok (.invokevirtual 186, 3) := by decide +kernel
theorem dX8_sing_35 : decode cX8_sing 35 = .ok (.invokevirtual 221, 3) := by decide +kernel
theorem dX8_sing_38 : decode cX8_sing 38 = .ok (.iload_n 2, 1) := by decide +kernel
theorem dX8_sing_39 : decode cX8_sing 39 = .ok (.iconst (-1), 1) := by decide +kernel
theorem dX8_sing_40 : decode cX8_sing 40 = .ok (.if_icmp .eq 14, 3) := by decide +kernel
theorem dX8_sing_43 : decode cX8_sing 43 = .ok (.aload_n 0, 1) := by decide +kernel
theorem dX8_sing_44 : decode cX8_sing 44 = .ok (.getfield 31, 3) := by decide +kernel
theorem dX8_sing_47 : decode cX8_sing 47 = .ok (.getfield 225, 3) := by decide +kernel
theorem dX8_sing_50 : decode cX8_sing 50 = .ok (.iconst (-1), 1) := by decide +kernel
theorem dX8_sing_51 : decode cX8_sing 51 = .ok (.if_icmp .ne 11, 3) := by decide +kernel
theorem dX8_sing_54 : decode cX8_sing 54 = .ok (.aload_n 0, 1) := by decide +kernel
theorem dX8_sing_55 : decode cX8_sing 55 = .ok (.getfield 31, 3) := by decide +kernel
theorem dX8_sing_58 : decode cX8_sing 58 = .ok (.getfield 225, 3) := by decide +kernel
theorem dX8_sing_61 : decode cX8_sing 61 = .ok (.ireturn, 1) := by decide +kernel
theorem dX8_sing_62 : decode cX8_sing 62 = .ok (.iload_n 2, 1) := by decide +kernel
theorem dX8_sing_63 : decode cX8_sing 63 = .ok (.aload_n 0, 1) := by decide +kernel
theorem dX8_sing_64 : decode cX8_sing 64 = .ok (.getfield 31, 3) := by decide +kernel
theorem dX8_sing_67 : decode cX8_sing 67 = .ok (.getfield 130, 3) := by decide +kernel
theorem dX8_sing_70 : decode cX8_sing 70 = .ok (.if_icmp .ge 15, 3) := by decide +kernel
theorem dX8_sing_73 : decode cX8_sing 73 = .ok (.aload_n 0, 1) := by decide +kernel
theorem dX8_sing_74 : decode cX8_sing 74 = .ok (.getfield 31, 3) := by decide +kernel
theorem dX8_sing_77 : decode cX8_sing 77 = .ok (.getfield 228, 3) := by decide +kernel
theorem dX8_sing_80 : decode cX8_sing 80 = .ok (.iload_n 2, 1) := by decide +kernel
theorem dX8_sing_81 : decode cX8_sing 81 = .ok (.iaload, 1) := by decide +kernel
theorem dX8_sing_82 : decode cX8_sing 82 = .ok (.goto 4, 3) := by decide +kernel
theorem dX8_sing_85 : decode cX8_sing 85 = .ok (.iconst (-1), 1) := by decide +kernel
theorem dX8_sing_86 : decode cX8_sing 86 = .ok (.ireturn, 1) := by decide +kernel
theorem dX8_corks_0 : decode cX8_corks 0 = .ok (.iload_n 1, 1) := by decide +kernel
theorem dX8_corks_1 : decode cX8_corks 1 = .ok (.bipush 40, 2) := by decide +kernel
theorem dX8_corks_3 : decode cX8_corks 3 = .ok (.invokestatic 81, 3) := by decide +kernel
theorem dX8_corks_6 : decode cX8_corks 6 = .ok (.ifCond .eq 16, 3) := by decide +kernel
theorem dX8_corks_9 : decode cX8_corks 9 = .ok (.iload_n 2, 1) := by decide +kernel
theorem dX8_corks_10 : decode cX8_corks 10 = .ok (.iconst (-1), 1) := by decide +kernel
theorem dX8_corks_11 : decode cX8_corks 11 = .ok (.if_icmp .eq 14, 3) := by decide +kernel
theorem dX8_corks_14 : decode cX8_corks 14 = .ok (.iload_n 2, 1) := by decide +kernel
theorem dX8_corks_15 : decode cX8_corks 15 = .ok (.iconst 3, 1) := by decide +kernel
theorem dX8_corks_16 : decode cX8_corks 16 = .ok (.invokestatic 81, 3) := by decide +kernel
theorem dX8_corks_19 : decode cX8_corks 19 = .ok (.ifCond .ne 6, 3) := by decide +kernel
theorem dX8_corks_22 : decode cX8_corks 22 = .ok (.bipush (-2), 2) := by decide +kernel
theorem dX8_corks_24 : decode cX8_corks 24 = .ok (.ireturn, 1) := by decide +kernel
theorem dX8_corks_25 : decode cX8_corks 25 = .ok (.aload_n 0, 1) := by decide +kernel
theorem dX8_corks_26 : decode cX8_corks 26 = .ok (.getfield 71, 3) := by decide +kernel
theorem dX8_corks_29 : decode cX8_corks 29 = .ok (.iload_n 1, 1) := by decide +kernel
theorem dX8_corks_30 : decode cX8_corks 30 = .ok (.if_icmp .eq 17, 3) := by decide +kernel
theorem dX8_corks_33 : decode cX8_corks 33 = .ok (.aload_n 0, 1) := by decide +kernel
theorem dX8_corks_34 : decode cX8_corks 34 = .ok (.aload_n 0, 1) := by decide +kernel
theorem dX8_corks_35 : decode cX8_corks 35 = .ok (.iload_n 1, 1) := by decide +kernel
theorem dX8_corks_36 : decode cX8_corks 36 = .ok (.invokevirtual 231, 3) := by decide +kernel
theorem dX8_corks_39 : decode cX8_corks 39 = .ok (.putfield 75, 3) := by decide +kernel
theorem dX8_corks_42 : decode cX8_corks 42 = .ok (.aload_n 0, 1) := by decide +kernel
theorem dX8_corks_43 : decode cX8_corks 43 = .ok (.iload_n 1, 1) := by decide +kernel
theorem dX8_corks_44 : decode cX8_corks 44 = .ok (.putfield 71, 3) := by decide +kernel
theorem dX8_corks_47 : decode cX8_corks 47 = .ok (.aload_n 0, 1) := by decide +kernel
theorem dX8_corks_48 : decode cX8_corks 48 = .ok (.getfield 75, 3) := by decide +kernel
theorem dX8_corks_51 : decode cX8_corks 51 = .ok (.iconst (-1), 1) := by decide +kernel
theorem dX8_corks_52 : decode cX8_corks 52 = .ok (.if_icmp .ne 5, 3) := by decide +kernel
theorem dX8_corks_55 : decode cX8_corks 55 = .ok (.iconst (-1), 1) := by decide +kernel
theorem dX8_corks_56 : decode cX8_corks 56 = .ok (.ireturn, 1) := by decide +kernel
theorem dX8_corks_57 : decode cX8_corks 57 = .ok (.iload_n 2, 1) := by decide +kernel
theorem dX8_corks_58 : decode cX8_corks 58 = .ok (.iconst (-1), 1) := by decide +kernel
theorem dX8_corks_59 : decode cX8_corks 59 = .ok (.if_icmp .ne 13, 3) := by decide +kernel
theorem dX8_corks_62 : decode cX8_corks 62 = .ok (.aload_n 0, 1) := by decide +kernel
theorem dX8_corks_63 : decode cX8_corks 63 = .ok (.getfield 75, 3) := by decide +kernel
theorem dX8_corks_66 : decode cX8_corks 66 = .ok (.invokestatic 234, 3) := by decide +kernel
theorem dX8_corks_69 : decode cX8_corks 69 = .ok (.goto 8, 3) := by decide +kernel
theorem dX8_corks_72 : decode cX8_corks 72 = .ok (.aload_n 0, 1) := by decide +kernel
theorem dX8_corks_73 : decode cX8_corks 73 = .ok (.iload_n 2, 1) := by decide +kernel
theorem dX8_corks_74 : decode cX8_corks 74 = .ok (.invokevirtual 239, 3) := by decide +kernel
theorem dX8_corks_77 : decode cX8_corks 77 = .ok (.ireturn, 1) := by decide +kernel
theorem dX8_most_0 : decode cX8_most 0 = .ok (.iload_n 1, 1) := by decide +kernel
theorem dX8_most_1 : decode cX8_most 1 = .ok (.bipush 40, 2) := by decide +kernel
theorem dX8_most_3 : decode cX8_most 3 = .ok (.invokestatic 81, 3) := by decide +kernel
theorem dX8_most_6 : decode cX8_most 6 = .ok (.ifCond .eq 12, 3) := by decide +kernel
theorem dX8_most_9 : decode cX8_most 9 = .ok (.iload_n 2, 1) := by decide +kernel
theorem dX8_most_10 : decode cX8_most 10 = .ok (.bipush 8, 2) := by decide +kernel
theorem dX8_most_12 : decode cX8_most 12 = .ok (.invokestatic 81, 3) := by decide +kernel
theorem dX8_most_15 : decode cX8_most 15 = .ok (.ifCond .ne 6, 3) := by decide +kernel
theorem dX8_most_18 : decode cX8_most 18 = .ok (.bipush (-2), 2) := by decide +kernel
theorem dX8_most_20 : decode cX8_most 20 = .ok (.ireturn, 1) := by decide +kernel
theorem dX8_most_21 : decode cX8_most 21 = .ok (.aload_n 0, 1) := by decide +kernel
theorem dX8_most_22 : decode cX8_most 22 = .ok (.iload_n 1, 1) := by decide +kernel
theorem dX8_most_23 : decode cX8_most 23 = .ok (.invokevirtual 186, 3) := by decide +kernel
theorem dX8_most_26 : decode cX8_most 26 = .ok (.astore_n 3, 1) := by decide +kernel
theorem dX8_most_27 : decode cX8_most 27 = .ok (.iconst (-1), 1) := by decide +kernel
theorem dX8_most_28 : decode cX8_most 28 = .ok (.istore 4, 2) := by decide +kernel
theorem dX8_most_30 : decode cX8_most 30 = .ok (.iconst 0, 1) := by decide +kernel
theorem dX8_most_31 : decode cX8_most 31 = .ok (.istore 5, 2) := by decide +kernel
theorem dX8_most_33 : decode cX8_most 33 = .ok (.iconst 0, 1) := by decide +kernel
theorem dX8_most_34 : decode cX8_most 34 = .ok (.istore 6, 2) := by decide +kernel
theorem dX8_most_36 : decode cX8_most 36 = .ok (.iload 6, 2) := by decide +kernel
theorem dX8_most_38 : decode cX8_most 38 = .ok (.aload_n 0, 1) := by decide +kernel
theorem dX8_most_39 : decode cX8_most 39 = .ok (.getfield 24, 3) := by decide +kernel
theorem dX8_most_42 : decode cX8_most 42 = .ok (.getfield 112, 3) := by decide +kernel
theorem dX8_most_45 : decode cX8_most 45 = .ok (.getfield 242, 3) := by decide +kernel
theorem dX8_most_48 : decode cX8_most 48 = .ok (.if_icmp .ge 34, 3) := by decide +kernel
theorem dX8_most_51 : decode cX8_most 51 = .ok (.aload_n 3, 1) := by decide +kernel
theorem dX8_most_52 : decode cX8_most 52 = .ok (.iload 6, 2) := by decide +kernel
theorem dX8_most_54 : decode cX8_most 54 = .ok (.iload_n 2, 1) := by decide +kernel
theorem dX8_most_55 : decode cX8_most 55 = .ok (.invokevirtual 193, 3) := by decide +kernel
theorem dX8_most_58 : decode cX8_most 58 = .ok (.iload 5, 2) := by decide +kernel
theorem dX8_most_60 : decode cX8_most 60 = .ok (.if_icmp .le 16, 3) := by decide +kernel
theorem dX8_most_63 : decode cX8_most 63 = .ok (.iload 6, 2) := by decide +kernel
theorem dX8_most_65 : decode cX8_most 65 = .ok (.istore 4, 2) := by decide +kernel
theorem dX8_most_67 : decode cX8_most 67 = .ok (.aload_n 3, 1) := by decide +kernel
theorem dX8_most_68 : decode cX8_most 68 = .ok (.iload 6, 2) := by decide +kernel
theorem dX8_most_70 : decode cX8_most 70 = .ok (.iload_n 2, 1) := by decide +kernel
theorem dX8_most_71 : decode cX8_most 71 = .ok (.invokevirtual 193, 3) := by decide +kernel
theorem dX8_most_74 : decode cX8_most 74 = .ok (.istore 5, 2) := by decide +kernel
theorem dX8_most_76 : decode cX8_most 76 = .ok (.iinc 6 1, 3) := by decide +kernel
theorem dX8_most_79 : decode cX8_most 79 = .ok (.goto (-43), 3) := by decide +kernel
theorem dX8_most_82 : decode cX8_most 82 = .ok (.iload 4, 2) := by decide +kernel
theorem dX8_most_84 : decode cX8_most 84 = .ok (.ireturn, 1) := by decide +kernel
theorem dX8_weighed_0 : decode cX8_weighed 0 = .ok (.iload_n 1, 1) := by decide +kernel
theorem dX8_weighed_1 : decode cX8_weighed 1 = .ok (.bipush 40, 2) := by decide +kernel
theorem dX8_weighed_3 : decode cX8_weighed 3 = .ok (.invokestatic 81, 3) := by decide +kernel
theorem dX8_weighed_6 : decode cX8_weighed 6 = .ok (.ifCond .eq 22, 3) := by decide +kernel
theorem dX8_weighed_9 : decode cX8_weighed 9 = .ok (.iload_n 2, 1) := by decide +kernel
theorem dX8_weighed_10 : decode cX8_weighed 10 = .ok (.bipush 8, 2) := by decide +kernel
theorem dX8_weighed_12 : decode cX8_weighed 12 = .ok (.invokestatic 81, 3) := by decide +kernel
theorem dX8_weighed_15 : decode cX8_weighed 15 = .ok (.ifCond .eq 13, 3) := by decide +kernel
theorem dX8_weighed_18 : decode cX8_weighed 18 = .ok (.iload_n 3, 1) := by decide +kernel
theorem dX8_weighed_19 : decode cX8_weighed 19 = .ok (.sipush 1000, 3) := by decide +kernel
theorem dX8_weighed_22 : decode cX8_weighed 22 = .ok (.invokestatic 81, 3) := by decide +kernel
theorem dX8_weighed_25 : decode cX8_weighed 25 = .ok (.ifCond .ne 6, 3) := by decide +kernel
theorem dX8_weighed_28 : decode cX8_weighed 28 = .ok (.bipush (-2), 2) := by decide +kernel
theorem dX8_weighed_30 : decode cX8_weighed 30 = .ok (.ireturn, 1) := by decide +kernel
theorem dX8_weighed_31 : decode cX8_weighed 31 = .ok (.aload_n 0, 1) := by decide +kernel
theorem dX8_weighed_32 : decode cX8_weighed 32 = .ok (.getfield 38, 3) := by decide +kernel
theorem dX8_weighed_35 : decode cX8_weighed 35 = .ok (.getfield 243, 3) := by decide +kernel
theorem dX8_weighed_38 : decode cX8_weighed 38 = .ok (.istore 4, 2) := by decide +kernel
theorem dX8_weighed_40 : decode cX8_weighed 40 = .ok (.iload 4, 2) := by decide +kernel
theorem dX8_weighed_42 : decode cX8_weighed 42 = .ok (.bipush 8, 2) := by decide +kernel
theorem dX8_weighed_44 : decode cX8_weighed 44 = .ok (.if_icmp .lt 6, 3) := by decide +kernel
theorem dX8_weighed_47 : decode cX8_weighed 47 = .ok (.bipush (-4), 2) := by decide +kernel
theorem dX8_weighed_49 : decode cX8_weighed 49 = .ok (.ireturn, 1) := by decide +kernel
theorem dX8_weighed_50 : decode cX8_weighed 50 = .ok (.aload_n 0, 1) := by decide +kernel
theorem dX8_weighed_51 : decode cX8_weighed 51 = .ok (.getfield 38, 3) := by decide +kernel
theorem dX8_weighed_54 : decode cX8_weighed 54 = .ok (.getfield 244, 3) := by decide +kernel
theorem dX8_weighed_57 : decode cX8_weighed 57 = .ok (.iload 4, 2) := by decide +kernel
theorem dX8_weighed_59 : decode cX8_weighed 59 = .ok (.iload_n 1, 1) := by decide +kernel
theorem dX8_weighed_60 : decode cX8_weighed 60 = .ok (.iastore, 1) := by decide +kernel
theorem dX8_weighed_61 : decode cX8_weighed 61 = .ok (.aload_n 0, 1) := by decide +kernel
theorem dX8_weighed_62 : decode cX8_weighed 62 = .ok (.getfield 38, 3) := by decide +kernel
theorem dX8_weighed_65 : decode cX8_weighed 65 = .ok (.getfield 245, 3) := by decide +kernel
theorem dX8_weighed_68 : decode cX8_weighed 68 = .ok (.iload 4, 2) := by decide +kernel
theorem dX8_weighed_70 : decode cX8_weighed 70 = .ok (.iload_n 2, 1) := by decide +kernel
theorem dX8_weighed_71 : decode cX8_weighed 71 = .ok (.iastore, 1) := by decide +kernel
theorem dX8_weighed_72 : decode cX8_weighed 72 = .ok (.aload_n 0, 1) := by decide +kernel
theorem dX8_weighed_73 : decode cX8_weighed 73 = .ok (.getfield 38, 3) := by decide +kernel
theorem dX8_weighed_76 : decode cX8_weighed 76 = .ok (.getfield 246, 3) := by decide +kernel
theorem dX8_weighed_79 : decode cX8_weighed 79 = .ok (.iload 4, 2) := by decide +kernel
theorem dX8_weighed_81 : decode cX8_weighed 81 = .ok (.iload_n 3, 1) := by decide +kernel
theorem dX8_weighed_82 : decode cX8_weighed 82 = .ok (.iastore, 1) := by decide +kernel
theorem dX8_weighed_83 : decode cX8_weighed 83 = .ok (.aload_n 0, 1) := by decide +kernel
theorem dX8_weighed_84 : decode cX8_weighed 84 = .ok (.getfield 38, 3) := by decide +kernel
theorem dX8_weighed_87 : decode cX8_weighed 87 = .ok (.dup, 1) := by decide +kernel
theorem dX8_weighed_88 : decode cX8_weighed 88 = .ok (.getfield 243, 3) := by decide +kernel
theorem dX8_weighed_91 : decode cX8_weighed 91 = .ok (.iconst 1, 1) := by decide +kernel
theorem dX8_weighed_92 : decode cX8_weighed 92 = .ok (.iadd, 1) := by decide +kernel
theorem dX8_weighed_93 : decode cX8_weighed 93 = .ok (.putfield 243, 3) := by decide +kernel
theorem dX8_weighed_96 : decode cX8_weighed 96 = .ok (.aload_n 0, 1) := by decide +kernel
theorem dX8_weighed_97 : decode cX8_weighed 97 = .ok (.getfield 38, 3) := by decide +kernel
theorem dX8_weighed_100 : decode cX8_weighed 100 = .ok (.getfield 243, 3) := by decide +kernel
theorem dX8_weighed_103 : decode cX8_weighed 103 = .ok (.ireturn, 1) := by decide +kernel
theorem dX8_forget_0 : decode cX8_forget 0 = .ok (.aload_n 0, 1) := by decide +kernel
theorem dX8_forget_1 : decode cX8_forget 1 = .ok (.getfield 38, 3) := by decide +kernel
theorem dX8_forget_4 : decode cX8_forget 4 = .ok (.getfield 243, 3) := by decide +kernel
theorem dX8_forget_7 : decode cX8_forget 7 = .ok (.istore_n 1, 1) := by decide +kernel
theorem dX8_forget_8 : decode cX8_forget 8 = .ok (.aload_n 0, 1) := by decide +kernel
theorem dX8_forget_9 : decode cX8_forget 9 = .ok (.getfield 38, 3) := by decide +kernel
theorem dX8_forget_12 : decode cX8_forget 12 = .ok (.iconst 0, 1) := by decide +kernel
theorem dX8_forget_13 : decode cX8_forget 13 = .ok (.putfield 243, 3) := by decide +kernel
theorem dX8_forget_16 : decode cX8_forget 16 = .ok (.iload_n 1, 1) := by decide +kernel
theorem dX8_forget_17 : decode cX8_forget 17 = .ok (.ireturn, 1) := by decide +kernel
theorem dX8_hid_0 : decode cX8_hid 0 = .ok (.iconst 0, 1) := by decide +kernel
theorem dX8_hid_1 : decode cX8_hid 1 = .ok (.istore_n 1, 1) := by decide +kernel
theorem dX8_hid_2 : decode cX8_hid 2 = .ok (.iconst 0, 1) := by decide +kernel
theorem dX8_hid_3 : decode cX8_hid 3 = .ok (.istore_n 2, 1) := by decide +kernel
theorem dX8_hid_4 : decode cX8_hid 4 = .ok (.iload_n 2, 1) := by decide +kernel
theorem dX8_hid_5 : decode cX8_hid 5 = .ok (.aload_n 0, 1) := by decide +kernel
theorem dX8_hid_6 : decode cX8_hid 6 = .ok (.getfield 24, 3) := by decide +kernel
theorem dX8_hid_9 : decode cX8_hid 9 = .ok (.getfield 150, 3) := by decide +kernel
theorem dX8_hid_12 : decode cX8_hid 12 = .ok (.getfield 154, 3) := by decide +kernel
theorem dX8_hid_15 : decode cX8_hid 15 = .ok (.if_icmp .ge 25, 3) := by decide +kernel
theorem dX8_hid_18 : decode cX8_hid 18 = .ok (.aload_n 0, 1) := by decide +kernel
theorem dX8_hid_19 : decode cX8_hid 19 = .ok (.iload_n 2, 1) := by decide +kernel
theorem dX8_hid_20 : decode cX8_hid 20 = .ok (.iconst 0, 1) := by decide +kernel
theorem dX8_hid_21 : decode cX8_hid 21 = .ok (.iconst 0, 1) := by decide +kernel
theorem dX8_hid_22 : decode cX8_hid 22 = .ok (.invokevirtual 247, 3) := by decide +kernel
theorem dX8_hid_25 : decode cX8_hid 25 = .ok (.ifCond .eq 9, 3) := by decide +kernel
theorem dX8_hid_28 : decode cX8_hid 28 = .ok (.iload_n 1, 1) := by decide +kernel
theorem dX8_hid_29 : decode cX8_hid 29 = .ok (.iconst 1, 1) := by decide +kernel
theorem dX8_hid_30 : decode cX8_hid 30 = .ok (.iload_n 2, 1) := by decide +kernel
theorem dX8_hid_31 : decode cX8_hid 31 = .ok (.ishl, 1) := by decide +kernel
theorem dX8_hid_32 : decode cX8_hid 32 = .ok (.ior, 1) := by decide +kernel
theorem dX8_hid_33 : decode cX8_hid 33 = .ok (.istore_n 1, 1) := by decide +kernel
theorem dX8_hid_34 : decode cX8_hid 34 = .ok (.iinc 2 1, 3) := by decide +kernel
theorem dX8_hid_37 : decode cX8_hid 37 = .ok (.goto (-33), 3) := by decide +kernel
theorem dX8_hid_40 : decode cX8_hid 40 = .ok (.iload_n 1, 1) := by decide +kernel
theorem dX8_hid_41 : decode cX8_hid 41 = .ok (.ireturn, 1) := by decide +kernel
theorem dX8_swapped_0 : decode cX8_swapped 0 = .ok (.iload_n 1, 1) := by decide +kernel
theorem dX8_swapped_1 : decode cX8_swapped 1 = .ok (.iconst 2, 1) := by decide +kernel
theorem dX8_swapped_2 : decode cX8_swapped 2 = .ok (.invokestatic 81, 3) := by decide +kernel
theorem dX8_swapped_5 : decode cX8_swapped 5 = .ok (.ifCond .ne 6, 3) := by decide +kernel
theorem dX8_swapped_8 : decode cX8_swapped 8 = .ok (.bipush (-2), 2) := by decide +kernel
theorem dX8_swapped_10 : decode cX8_swapped 10 = .ok (.ireturn, 1) := by decide +kernel
theorem dX8_swapped_11 : decode cX8_swapped 11 = .ok (.iconst 0, 1) := by decide +kernel
theorem dX8_swapped_12 : decode cX8_swapped 12 = .ok (.istore_n 2, 1) := by decide +kernel
theorem dX8_swapped_13 : decode cX8_swapped 13 = .ok (.iconst (-1), 1) := by decide +kernel
theorem dX8_swapped_14 : decode cX8_swapped 14 = .ok (.istore_n 3, 1) := by decide +kernel
theorem dX8_swapped_15 : decode cX8_swapped 15 = .ok (.iconst 0, 1) := by decide +kernel
theorem dX8_swapped_16 : decode cX8_swapped 16 = .ok (.istore 4, 2) := by decide +kernel
theorem dX8_swapped_18 : decode cX8_swapped 18 = .ok (.iload 4, 2) := by decide +kernel
theorem dX8_swapped_20 : decode cX8_swapped 20 = .ok (.aload_n 0, 1) := by decide +kernel
theorem dX8_swapped_21 : decode cX8_swapped 21 = .ok (.getfield 24, 3) := by decide +kernel
theorem dX8_swapped_24 : decode cX8_swapped 24 = .ok (.getfield 112, 3) := by decide +kernel
theorem dX8_swapped_27 : decode cX8_swapped 27 = .ok (.getfield 242, 3) := by decide +kernel
theorem dX8_swapped_30 : decode cX8_swapped 30 = .ok (.if_icmp .ge 68, 3) := by decide +kernel
theorem dX8_swapped_33 : decode cX8_swapped 33 = .ok (.iload 4, 2) := by decide +kernel
theorem dX8_swapped_35 : decode cX8_swapped 35 = .ok (.iconst 1, 1) := by decide +kernel
theorem dX8_swapped_36 : decode cX8_swapped 36 = .ok (.iadd, 1) := by decide +kernel
theorem dX8_swapped_37 : decode cX8_swapped 37 = .ok (.istore 5, 2) := by decide +kernel
theorem dX8_swapped_39 : decode cX8_swapped 39 = .ok (.iload 5, 2) := by decide +kernel
theorem dX8_swapped_41 : decode cX8_swapped 41 = .ok (.aload_n 0, 1) := by decide +kernel
theorem dX8_swapped_42 : decode cX8_swapped 42 = .ok (.getfield 24, 3) := by decide +kernel
theorem dX8_swapped_45 : decode cX8_swapped 45 = .ok (.getfield 112, 3) := by decide +kernel
theorem dX8_swapped_48 : decode cX8_swapped 48 = .ok (.getfield 242, 3) := by decide +kernel
theorem dX8_swapped_51 : decode cX8_swapped 51 = .ok (.if_icmp .ge 41, 3) := by decide +kernel
theorem dX8_swapped_54 : decode cX8_swapped 54 = .ok (.aload_n 0, 1) := by decide +kernel
theorem dX8_swapped_55 : decode cX8_swapped 55 = .ok (.iconst (-1), 1) := by decide +kernel
theorem dX8_swapped_56 : decode cX8_swapped 56 = .ok (.iload 4, 2) := by decide +kernel
theorem dX8_swapped_58 : decode cX8_swapped 58 = .ok (.iload 5, 2) := by decide +kernel
theorem dX8_swapped_60 : decode cX8_swapped 60 = .ok (.invokevirtual 247, 3) := by decide +kernel
theorem dX8_swapped_63 : decode cX8_swapped 63 = .ok (.ifCond .ne 6, 3) := by decide +kernel
theorem dX8_swapped_66 : decode cX8_swapped 66 = .ok (.goto 20, 3) := by decide +kernel
theorem dX8_swapped_69 : decode cX8_swapped 69 = .ok (.iinc 2 1, 3) := by decide +kernel
theorem dX8_swapped_72 : decode cX8_swapped 72 = .ok (.iload_n 3, 1) := by decide +kernel
theorem dX8_swapped_73 : decode cX8_swapped 73 = .ok (.iconst (-1), 1) := by decide +kernel
theorem dX8_swapped_74 : decode cX8_swapped 74 = .ok (.if_icmp .ne 12, 3) := by decide +kernel
theorem dX8_swapped_77 : decode cX8_swapped 77 = .ok (.bipush 8, 2) := by decide +kernel
theorem dX8_swapped_79 : decode cX8_swapped 79 = .ok (.iload 4, 2) := by decide +kernel
theorem dX8_swapped_81 : decode cX8_swapped 81 = .ok (.imul, 1) := by decide +kernel
theorem dX8_swapped_82 : decode cX8_swapped 82 = .ok (.iload 5, 2) := by decide +kernel
theorem dX8_swapped_84 : decode cX8_swapped 84 = .ok (.iadd, 1) := by decide +kernel
theorem dX8_swapped_85 : decode cX8_swapped 85 = .ok (.istore_n 3, 1) := by decide +kernel
theorem dX8_swapped_86 : decode cX8_swapped 86 = .ok (.iinc 5 1, 3) := by decide +kernel
theorem dX8_swapped_89 : decode cX8_swapped 89 = .ok (.goto (-50), 3) := by decide +kernel
theorem dX8_swapped_92 : decode cX8_swapped 92 = .ok (.iinc 4 1, 3) := by decide +kernel
theorem dX8_swapped_95 : decode cX8_swapped 95 = .ok (.goto (-77), 3) := by decide +kernel
theorem dX8_swapped_98 : decode cX8_swapped 98 = .ok (.iload_n 1, 1) := by decide +kernel
theorem dX8_swapped_99 : decode cX8_swapped 99 = .ok (.ifCond .ne 7, 3) := by decide +kernel
theorem dX8_swapped_102 : decode cX8_swapped 102 = .ok (.iload_n 2, 1) := by decide +kernel
theorem dX8_swapped_103 : decode cX8_swapped 103 = .ok (.goto 4, 3) := by decide +kernel
theorem dX8_swapped_106 : decode cX8_swapped 106 = .ok (.iload_n 3, 1) := by decide +kernel
theorem dX8_swapped_107 : decode cX8_swapped 107 = .ok (.ireturn, 1) := by decide +kernel
theorem dX8_weigh_0 : decode cX8_weigh 0 = .ok (.iload_n 1, 1) := by decide +kernel
theorem dX8_weigh_1 : decode cX8_weigh 1 = .ok (.bipush 40, 2) := by decide +kernel
theorem dX8_weigh_3 : decode cX8_weigh 3 = .ok (.invokestatic 81, 3) := by decide +kernel
theorem dX8_weigh_6 : decode cX8_weigh 6 = .ok (.ifCond .ne 6, 3) := by decide +kernel
theorem dX8_weigh_9 : decode cX8_weigh 9 = .ok (.bipush (-2), 2) := by decide +kernel
theorem dX8_weigh_11 : decode cX8_weigh 11 = .ok (.ireturn, 1) := by decide +kernel
theorem dX8_weigh_12 : decode cX8_weigh 12 = .ok (.aload_n 0, 1) := by decide +kernel
theorem dX8_weigh_13 : decode cX8_weigh 13 = .ok (.invokevirtual 251, 3) := by decide +kernel
theorem dX8_weigh_16 : decode cX8_weigh 16 = .ok (.istore_n 2, 1) := by decide +kernel
theorem dX8_weigh_17 : decode cX8_weigh 17 = .ok (.aload_n 0, 1) := by decide +kernel
theorem dX8_weigh_18 : decode cX8_weigh 18 = .ok (.iload_n 2, 1) := by decide +kernel
theorem dX8_weigh_19 : decode cX8_weigh 19 = .ok (.iload_n 1, 1) := by decide +kernel
theorem dX8_weigh_20 : decode cX8_weigh 20 = .ok (.invokevirtual 254, 3) := by decide +kernel
theorem dX8_weigh_23 : decode cX8_weigh 23 = .ok (.iconst (-1), 1) := by decide +kernel
theorem dX8_weigh_24 : decode cX8_weigh 24 = .ok (.istore_n 3, 1) := by decide +kernel
theorem dX8_weigh_25 : decode cX8_weigh 25 = .ok (.iconst 0, 1) := by decide +kernel
theorem dX8_weigh_26 : decode cX8_weigh 26 = .ok (.istore 4, 2) := by decide +kernel
theorem dX8_weigh_28 : decode cX8_weigh 28 = .ok (.iconst 0, 1) := by decide +kernel
theorem dX8_weigh_29 : decode cX8_weigh 29 = .ok (.istore 5, 2) := by decide +kernel
theorem dX8_weigh_31 : decode cX8_weigh 31 = .ok (.iload 5, 2) := by decide +kernel
theorem dX8_weigh_33 : decode cX8_weigh 33 = .ok (.aload_n 0, 1) := by decide +kernel
theorem dX8_weigh_34 : decode cX8_weigh 34 = .ok (.getfield 24, 3) := by decide +kernel
theorem dX8_weigh_37 : decode cX8_weigh 37 = .ok (.getfield 112, 3) := by decide +kernel
theorem dX8_weigh_40 : decode cX8_weigh 40 = .ok (.getfield 242, 3) := by decide +kernel
theorem dX8_weigh_43 : decode cX8_weigh 43 = .ok (.if_icmp .ge 37, 3) := by decide +kernel
theorem dX8_weigh_46 : decode cX8_weigh 46 = .ok (.aload_n 0, 1) := by decide +kernel
theorem dX8_weigh_47 : decode cX8_weigh 47 = .ok (.iload_n 2, 1) := by decide +kernel
theorem dX8_weigh_48 : decode cX8_weigh 48 = .ok (.iload 5, 2) := by decide +kernel
theorem dX8_weigh_50 : decode cX8_weigh 50 = .ok (.invokevirtual 258, 3) := by decide +kernel
theorem dX8_weigh_53 : decode cX8_weigh 53 = .ok (.istore 6, 2) := by decide +kernel
theorem dX8_weigh_55 : decode cX8_weigh 55 = .ok (.iload_n 3, 1) := by decide +kernel
theorem dX8_weigh_56 : decode cX8_weigh 56 = .ok (.iconst (-1), 1) := by decide +kernel
theorem dX8_weigh_57 : decode cX8_weigh 57 = .ok (.if_icmp .eq 10, 3) := by decide +kernel
theorem dX8_weigh_60 : decode cX8_weigh 60 = .ok (.iload 6, 2) := by decide +kernel
theorem dX8_weigh_62 : decode cX8_weigh 62 = .ok (.iload 4, 2) := by decide +kernel
theorem dX8_weigh_64 : decode cX8_weigh 64 = .ok (.if_icmp .ge 10, 3) := by decide +kernel
theorem dX8_weigh_67 : decode cX8_weigh 67 = .ok (.iload 5, 2) := by decide +kernel
theorem dX8_weigh_69 : decode cX8_weigh 69 = .ok (.istore_n 3, 1) := by decide +kernel
theorem dX8_weigh_70 : decode cX8_weigh 70 = .ok (.iload 6, 2) := by decide +kernel
theorem dX8_weigh_72 : decode cX8_weigh 72 = .ok (.istore 4, 2) := by decide +kernel
theorem dX8_weigh_74 : decode cX8_weigh 74 = .ok (.iinc 5 1, 3) := by decide +kernel
theorem dX8_weigh_77 : decode cX8_weigh 77 = .ok (.goto (-46), 3) := by decide +kernel
theorem dX8_weigh_80 : decode cX8_weigh 80 = .ok (.iload_n 3, 1) := by decide +kernel
theorem dX8_weigh_81 : decode cX8_weigh 81 = .ok (.ireturn, 1) := by decide +kernel
theorem dX8_heat_0 : decode cX8_heat 0 = .ok (.iload_n 1, 1) := by decide +kernel
theorem dX8_heat_1 : decode cX8_heat 1 = .ok (.bipush 17, 2) := by decide +kernel
theorem dX8_heat_3 : decode cX8_heat 3 = .ok (.invokestatic 81, 3) := by decide +kernel
theorem dX8_heat_6 : decode cX8_heat 6 = .ok (.ifCond .eq 29, 3) := by decide +kernel
theorem dX8_heat_9 : decode cX8_heat 9 = .ok (.aload_n 0, 1) := by decide +kernel
theorem dX8_heat_10 : decode cX8_heat 10 = .ok (.iload_n 2, 1) := by decide +kernel
theorem dX8_heat_11 : decode cX8_heat 11 = .ok (.invokevirtual 108, 3) := by decide +kernel
theorem dX8_heat_14 : decode cX8_heat 14 = .ok (.ifCond .eq 21, 3) := by decide +kernel
theorem dX8_heat_17 : decode cX8_heat 17 = .ok (.iload_n 3, 1) := by decide +kernel
theorem dX8_heat_18 : decode cX8_heat 18 = .ok (.bipush 10, 2) := by decide +kernel
theorem dX8_heat_20 : decode cX8_heat 20 = .ok (.invokestatic 81, 3) := by decide +kernel
theorem dX8_heat_23 : decode cX8_heat 23 = .ok (.ifCond .eq 12, 3) := by decide +kernel
theorem dX8_heat_26 : decode cX8_heat 26 = .ok (.iload 4, 2) := by decide +kernel
theorem dX8_heat_28 : decode cX8_heat 28 = .ok (.iconst 2, 1) := by decide +kernel
theorem dX8_heat_29 : decode cX8_heat 29 = .ok (.invokestatic 81, 3) := by decide +kernel
theorem dX8_heat_32 : decode cX8_heat 32 = .ok (.ifCond .ne 7, 3) := by decide +kernel
theorem dX8_heat_35 : decode cX8_heat 35 = .ok (.ldc2_w 263, 3) := by decide +kernel
theorem dX8_heat_38 : decode cX8_heat 38 = .ok (.lreturn, 1) := by decide +kernel
theorem dX8_heat_39 : decode cX8_heat 39 = .ok (.aload_n 0, 1) := by decide +kernel
theorem dX8_heat_40 : decode cX8_heat 40 = .ok (.getfield 59, 3) := by decide +kernel
theorem dX8_heat_43 : decode cX8_heat 43 = .ok (.iconst 0, 1) := by decide +kernel
theorem dX8_heat_44 : decode cX8_heat 44 = .ok (.aaload, 1) := by decide +kernel
theorem dX8_heat_45 : decode cX8_heat 45 = .ok (.aload_n 0, 1) := by decide +kernel
theorem dX8_heat_46 : decode cX8_heat 46 = .ok (.getfield 24, 3) := by decide +kernel
theorem dX8_heat_49 : decode cX8_heat 49 = .ok (.getfield 112, 3) := by decide +kernel
theorem dX8_heat_52 : decode cX8_heat 52 = .ok (.iconst 0, 1) := by decide +kernel
theorem dX8_heat_53 : decode cX8_heat 53 = .ok (.iconst 0, 1) := by decide +kernel
theorem dX8_heat_54 : decode cX8_heat 54 = .ok (.invokevirtual 265, 3) := by decide +kernel
theorem dX8_heat_57 : decode cX8_heat 57 = .ok (.aload_n 0, 1) := by decide +kernel
theorem dX8_heat_58 : decode cX8_heat 58 = .ok (.getfield 59, 3) := by decide +kernel
theorem dX8_heat_61 : decode cX8_heat 61 = .ok (.aload_n 0, 1) := by decide +kernel
theorem dX8_heat_62 : decode cX8_heat 62 = .ok (.getfield 24, 3) := by decide +kernel
theorem dX8_heat_65 : decode cX8_heat 65 = .ok (.iconst 0, 1) := by decide +kernel
theorem dX8_heat_66 : decode cX8_heat 66 = .ok (.iload_n 3, 1) := by decide +kernel
theorem dX8_heat_67 : decode cX8_heat 67 = .ok (.iload_n 1, 1) := by decide +kernel
theorem dX8_heat_68 : decode cX8_heat 68 = .ok (.iload_n 2, 1) := by decide +kernel
theorem dX8_heat_69 : decode cX8_heat 69 = .ok (.invokestatic 269, 3) := by decide +kernel
theorem dX8_heat_72 : decode cX8_heat 72 = .ok (.lstore 5, 2) := by decide +kernel
theorem dX8_heat_74 : decode cX8_heat 74 = .ok (.lconst 1, 1) := by decide +kernel
theorem dX8_heat_75 : decode cX8_heat 75 = .ok (.iconst 4, 1) := by decide +kernel
theorem dX8_heat_76 : decode cX8_heat 76 = .ok (.iload_n 3, 1) := by decide +kernel
theorem dX8_heat_77 : decode cX8_heat 77 = .ok (.iconst 1, 1) := by decide +kernel
theorem dX8_heat_78 : decode cX8_heat 78 = .ok (.iadd, 1) := by decide +kernel
theorem dX8_heat_79 : decode cX8_heat 79 = .ok (.imul, 1) := by decide +kernel
theorem dX8_heat_80 : decode cX8_heat 80 = .ok (.lshl, 1) := by decide +kernel
theorem dX8_heat_81 : decode cX8_heat 81 = .ok (.lstore 7, 2) := by decide +kernel
theorem dX8_heat_83 : decode cX8_heat 83 = .ok (.lload 5, 2) := by decide +kernel
theorem dX8_heat_85 : decode cX8_heat 85 = .ok (.lconst 0, 1) := by decide +kernel
theorem dX8_heat_86 : decode cX8_heat 86 = .ok (.lcmp, 1) := by decide +kernel
theorem dX8_heat_87 : decode cX8_heat 87 = .ok (.ifCond .ne 6, 3) := by decide +kernel
theorem dX8_heat_90 : decode cX8_heat 90 = .ok (.lconst 1, 1) := by decide +kernel
theorem dX8_heat_91 : decode cX8_heat 91 = .ok (.lstore 7, 2) := by decide +kernel
theorem dX8_heat_93 : decode cX8_heat 93 = .ok (.lload 5, 2) := by decide +kernel
theorem dX8_heat_95 : decode cX8_heat 95 = .ok (.invokestatic 273, 3) := by decide +kernel
theorem dX8_heat_98 : decode cX8_heat 98 = .ok (.lload 7, 2) := by decide +kernel
theorem dX8_heat_100 : decode cX8_heat 100 = .ok (.invokestatic 273, 3) := by decide +kernel
theorem dX8_heat_103 : decode cX8_heat 103 = .ok (.invokestatic 277, 3) := by decide +kernel
theorem dX8_heat_106 : decode cX8_heat 106 = .ok (.istore 9, 2) := by decide +kernel
theorem dX8_heat_108 : decode cX8_heat 108 = .ok (.iload 4, 2) := by decide +kernel
theorem dX8_heat_110 : decode cX8_heat 110 = .ok (.ifCond .ne 8, 3) := by decide +kernel
theorem dX8_heat_113 : decode cX8_heat 113 = .ok (.lload 5, 2) := by decide +kernel
theorem dX8_heat_115 : decode cX8_heat 115 = .ok (.goto 5, 3) := by decide +kernel
theorem dX8_heat_118 : decode cX8_heat 118 = .ok (.lload 7, 2) := by decide +kernel
theorem dX8_heat_120 : decode cX8_heat 120 = .ok (.iload 9, 2) := by decide +kernel
theorem dX8_heat_122 : decode cX8_heat 122 = .ok (.lshr, 1) := by decide +kernel
theorem dX8_heat_123 : decode cX8_heat 123 = .ok (.lreturn, 1) := by decide +kernel
theorem dX8_market_0 : decode cX8_market 0 = .ok (.iload_n 2, 1) := by decide +kernel
theorem dX8_market_1 : decode cX8_market 1 = .ok (.bipush 40, 2) := by decide +kernel
theorem dX8_market_3 : decode cX8_market 3 = .ok (.invokestatic 81, 3) := by decide +kernel
theorem dX8_market_6 : decode cX8_market 6 = .ok (.ifCond .eq 16, 3) := by decide +kernel
theorem dX8_market_9 : decode cX8_market 9 = .ok (.iload_n 3, 1) := by decide +kernel
theorem dX8_market_10 : decode cX8_market 10 = .ok (.iconst (-1), 1) := by decide +kernel
theorem dX8_market_11 : decode cX8_market 11 = .ok (.if_icmp .eq 14, 3) := by decide +kernel
theorem dX8_market_14 : decode cX8_market 14 = .ok (.aload_n 0, 1) := by decide +kernel
theorem dX8_market_15 : decode cX8_market 15 = .ok (.iload_n 3, 1) := by decide +kernel
theorem dX8_market_16 : decode cX8_market 16 = .ok (.invokevirtual 108, 3) := by decide +kernel
theorem dX8_market_19 : decode cX8_market 19 = .ok (.ifCond .ne 6, 3) := by decide +kernel
theorem dX8_market_22 : decode cX8_market 22 = .ok (.bipush (-2), 2) := by decide +kernel
theorem dX8_market_24 : decode cX8_market 24 = .ok (.ireturn, 1) := by decide +kernel
theorem dX8_market_25 : decode cX8_market 25 = .ok (.aload_n 0, 1) := by decide +kernel
theorem dX8_market_26 : decode cX8_market 26 = .ok (.getfield 24, 3) := by decide +kernel
theorem dX8_market_29 : decode cX8_market 29 = .ok (.getfield 112, 3) := by decide +kernel
theorem dX8_market_32 : decode cX8_market 32 = .ok (.getfield 242, 3) := by decide +kernel
theorem dX8_market_35 : decode cX8_market 35 = .ok (.istore 4, 2) := by decide +kernel
theorem dX8_market_37 : decode cX8_market 37 = .ok (.iconst 0, 1) := by decide +kernel
theorem dX8_market_38 : decode cX8_market 38 = .ok (.istore 5, 2) := by decide +kernel
theorem dX8_market_40 : decode cX8_market 40 = .ok (.iload_n 1, 1) := by decide +kernel
theorem dX8_market_41 : decode cX8_market 41 = .ok (.istore 6, 2) := by decide +kernel
theorem dX8_market_43 : decode cX8_market 43 = .ok (.aload_n 0, 1) := by decide +kernel
theorem dX8_market_44 : decode cX8_market 44 = .ok (.getfield 56, 3) := by decide +kernel
theorem dX8_market_47 : decode cX8_market 47 = .ok (.aload_n 0, 1) := by decide +kernel
theorem dX8_market_48 : decode cX8_market 48 = .ok (.getfield 24, 3) := by decide +kernel
theorem dX8_market_51 : decode cX8_market 51 = .ok (.getfield 112, 3) := by decide +kernel
theorem dX8_market_54 : decode cX8_market 54 = .ok (.iconst 0, 1) := by decide +kernel
theorem dX8_market_55 : decode cX8_market 55 = .ok (.iconst 0, 1) := by decide +kernel
theorem dX8_market_56 : decode cX8_market 56 = .ok (.invokevirtual 265, 3) := by decide +kernel
theorem dX8_market_59 : decode cX8_market 59 = .ok (.iconst 0, 1) := by decide +kernel
theorem dX8_market_60 : decode cX8_market 60 = .ok (.istore 7, 2) := by decide +kernel
theorem dX8_market_62 : decode cX8_market 62 = .ok (.iload 7, 2) := by decide +kernel
theorem dX8_market_64 : decode cX8_market 64 = .ok (.iload_n 2, 1) := by decide +kernel
theorem dX8_market_65 : decode cX8_market 65 = .ok (.if_icmp .gt 74, 3) := by decide +kernel
theorem dX8_market_68 : decode cX8_market 68 = .ok (.iload 4, 2) := by decide +kernel
theorem dX8_market_70 : decode cX8_market 70 = .ok (.ifCond .le 69, 3) := by decide +kernel
theorem dX8_market_73 : decode cX8_market 73 = .ok (.aload_n 0, 1) := by decide +kernel
theorem dX8_market_74 : decode cX8_market 74 = .ok (.getfield 56, 3) := by decide +kernel
theorem dX8_market_77 : decode cX8_market 77 = .ok (.aload_n 0, 1) := by decide +kernel
theorem dX8_market_78 : decode cX8_market 78 = .ok (.getfield 24, 3) := by decide +kernel
theorem dX8_market_81 : decode cX8_market 81 = .ok (.iconst (-1), 1) := by decide +kernel
theorem dX8_market_82 : decode cX8_market 82 = .ok (.invokevirtual 282, 3) := by decide +kernel
theorem dX8_market_85 : decode cX8_market 85 = .ok (.iload 6, 2) := by decide +kernel
theorem dX8_market_87 : decode cX8_market 87 = .ok (.invokestatic 286, 3) := by decide +kernel
theorem dX8_market_90 : decode cX8_market 90 = .ok (.istore 6, 2) := by decide +kernel
theorem dX8_market_92 : decode cX8_market 92 = .ok (.iload 6, 2) := by decide +kernel
theorem dX8_market_94 : decode cX8_market 94 = .ok (.bipush 16, 2) := by decide +kernel
theorem dX8_market_96 : decode cX8_market 96 = .ok (.iushr, 1) := by decide +kernel
theorem dX8_market_97 : decode cX8_market 97 = .ok (.iload 4, 2) := by decide +kernel
theorem dX8_market_99 : decode cX8_market 99 = .ok (.irem, 1) := by decide +kernel
theorem dX8_market_100 : decode cX8_market 100 = .ok (.istore 8, 2) := by decide +kernel
theorem dX8_market_102 : decode cX8_market 102 = .ok (.iload 6, 2) := by decide +kernel
theorem dX8_market_104 : decode cX8_market 104 = .ok (.invokestatic 286, 3) := by decide +kernel
theorem dX8_market_107 : decode cX8_market 107 = .ok (.istore 6, 2) := by decide +kernel
theorem dX8_market_109 : decode cX8_market 109 = .ok (.aload_n 0, 1) := by decide +kernel
theorem dX8_market_110 : decode cX8_market 110 = .ok (.getfield 56, 3) := by decide +kernel
theorem dX8_market_113 : decode cX8_market 113 = .ok (.iconst 0, 1) := by decide +kernel
theorem dX8_market_114 : decode cX8_market 114 = .ok (.iload 8, 2) := by decide +kernel
theorem dX8_market_116 : decode cX8_market 116 = .ok (.iload 6, 2) := by decide +kernel
theorem dX8_market_118 : decode cX8_market 118 = .ok (.bipush 16, 2) := by decide +kernel
theorem dX8_market_120 : decode cX8_market 120 = .ok (.iushr, 1) := by decide +kernel
theorem dX8_market_121 : decode cX8_market 121 = .ok (.bipush 6, 2) := by decide +kernel
theorem dX8_market_123 : decode cX8_market 123 = .ok (.irem, 1) := by decide +kernel
theorem dX8_market_124 : decode cX8_market 124 = .ok (.invokevirtual 289, 3) := by decide +kernel
theorem dX8_market_127 : decode cX8_market 127 = .ok (.ifCond .eq 6, 3) := by decide +kernel
theorem dX8_market_130 : decode cX8_market 130 = .ok (.iinc 5 1, 3) := by decide +kernel
theorem dX8_market_133 : decode cX8_market 133 = .ok (.iinc 7 1, 3) := by decide +kernel
theorem dX8_market_136 : decode cX8_market 136 = .ok (.goto (-74), 3) := by decide +kernel
theorem dX8_market_139 : decode cX8_market 139 = .ok (.iload_n 3, 1) := by decide +kernel
theorem dX8_market_140 : decode cX8_market 140 = .ok (.iconst (-1), 1) := by decide +kernel
theorem dX8_market_141 : decode cX8_market 141 = .ok (.if_icmp .ne 8, 3) := by decide +kernel
theorem dX8_market_144 : decode cX8_market 144 = .ok (.iload 5, 2) := by decide +kernel
theorem dX8_market_146 : decode cX8_market 146 = .ok (.goto 12, 3) := by decide +kernel
theorem dX8_market_149 : decode cX8_market 149 = .ok (.aload_n 0, 1) := by decide +kernel
theorem dX8_market_150 : decode cX8_market 150 = .ok (.getfield 56, 3) := by decide +kernel
theorem dX8_market_153 : decode cX8_market 153 = .ok (.getfield 197, 3) := by decide +kernel
theorem dX8_market_156 : decode cX8_market 156 = .ok (.iload_n 3, 1) := by decide +kernel
theorem dX8_market_157 : decode cX8_market 157 = .ok (.iaload, 1) := by decide +kernel
theorem dX8_market_158 : decode cX8_market 158 = .ok (.ireturn, 1) := by decide +kernel
theorem dX8_sheet_0 : decode cX8_sheet 0 = .ok (.iload_n 1, 1) := by decide +kernel
theorem dX8_sheet_1 : decode cX8_sheet 1 = .ok (.iconst 4, 1) := by decide +kernel
theorem dX8_sheet_2 : decode cX8_sheet 2 = .ok (.invokestatic 81, 3) := by decide +kernel
theorem dX8_sheet_5 : decode cX8_sheet 5 = .ok (.ifCond .eq 17, 3) := by decide +kernel
theorem dX8_sheet_8 : decode cX8_sheet 8 = .ok (.iload_n 2, 1) := by decide +kernel
theorem dX8_sheet_9 : decode cX8_sheet 9 = .ok (.iconst 3, 1) := by decide +kernel
theorem dX8_sheet_10 : decode cX8_sheet 10 = .ok (.invokestatic 81, 3) := by decide +kernel
theorem dX8_sheet_13 : decode cX8_sheet 13 = .ok (.ifCond .eq 9, 3) := by decide +kernel
theorem dX8_sheet_16 : decode cX8_sheet 16 = .ok (.iload_n 3, 1) := by decide +kernel
theorem dX8_sheet_17 : decode cX8_sheet 17 = .ok (.bipush 60, 2) := by decide +kernel
theorem dX8_sheet_19 : decode cX8_sheet 19 = .ok (.if_icmp .le 6, 3) := by decide +kernel
theorem dX8_sheet_22 : decode cX8_sheet 22 = .ok (.bipush (-2), 2) := by decide +kernel
theorem dX8_sheet_24 : decode cX8_sheet 24 = .ok (.ireturn, 1) := by decide +kernel
theorem dX8_sheet_25 : decode cX8_sheet 25 = .ok (.iload_n 3, 1) := by decide +kernel
theorem dX8_sheet_26 : decode cX8_sheet 26 = .ok (.ifCond .ge 9, 3) := by decide +kernel
theorem dX8_sheet_29 : decode cX8_sheet 29 = .ok (.aload_n 0, 1) := by decide +kernel
theorem dX8_sheet_30 : decode cX8_sheet 30 = .ok (.iconst 5, 1) := by decide +kernel
theorem dX8_sheet_31 : decode cX8_sheet 31 = .ok (.invokevirtual 172, 3) := by decide +kernel
theorem dX8_sheet_34 : decode cX8_sheet 34 = .ok (.ireturn, 1) := by decide +kernel
theorem dX8_sheet_35 : decode cX8_sheet 35 = .ok (.aload_n 0, 1) := by decide +kernel
theorem dX8_sheet_36 : decode cX8_sheet 36 = .ok (.getfield 45, 3) := by decide +kernel
theorem dX8_sheet_39 : decode cX8_sheet 39 = .ok (.getfield 169, 3) := by decide +kernel
theorem dX8_sheet_42 : decode cX8_sheet 42 = .ok (.iload_n 1, 1) := by decide +kernel
theorem dX8_sheet_43 : decode cX8_sheet 43 = .ok (.iload_n 2, 1) := by decide +kernel
theorem dX8_sheet_44 : decode cX8_sheet 44 = .ok (.iastore, 1) := by decide +kernel
theorem dX8_sheet_45 : decode cX8_sheet 45 = .ok (.aload_n 0, 1) := by decide +kernel
theorem dX8_sheet_46 : decode cX8_sheet 46 = .ok (.getfield 45, 3) := by decide +kernel
theorem dX8_sheet_49 : decode cX8_sheet 49 = .ok (.getfield 180, 3) := by decide +kernel
theorem dX8_sheet_52 : decode cX8_sheet 52 = .ok (.iload_n 1, 1) := by decide +kernel
theorem dX8_sheet_53 : decode cX8_sheet 53 = .ok (.iload_n 3, 1) := by decide +kernel
theorem dX8_sheet_54 : decode cX8_sheet 54 = .ok (.iastore, 1) := by decide +kernel
theorem dX8_sheet_55 : decode cX8_sheet 55 = .ok (.aload_n 0, 1) := by decide +kernel
theorem dX8_sheet_56 : decode cX8_sheet 56 = .ok (.getfield 45, 3) := by decide +kernel
theorem dX8_sheet_59 : decode cX8_sheet 59 = .ok (.getfield 176, 3) := by decide +kernel
theorem dX8_sheet_62 : decode cX8_sheet 62 = .ok (.iload_n 1, 1) := by decide +kernel
theorem dX8_sheet_63 : decode cX8_sheet 63 = .ok (.aaload, 1) := by decide +kernel
theorem dX8_sheet_64 : decode cX8_sheet 64 = .ok (.iconst 0, 1) := by decide +kernel
theorem dX8_sheet_65 : decode cX8_sheet 65 = .ok (.invokestatic 292, 3) := by decide +kernel
theorem dX8_sheet_68 : decode cX8_sheet 68 = .ok (.iload_n 3, 1) := by decide +kernel
theorem dX8_sheet_69 : decode cX8_sheet 69 = .ok (.ireturn, 1) := by decide +kernel
theorem dX8_lose_0 : decode cX8_lose 0 = .ok (.iload_n 1, 1) := by decide +kernel
theorem dX8_lose_1 : decode cX8_lose 1 = .ok (.iconst 4, 1) := by decide +kernel
theorem dX8_lose_2 : decode cX8_lose 2 = .ok (.invokestatic 81, 3) := by decide +kernel
theorem dX8_lose_5 : decode cX8_lose 5 = .ok (.ifCond .ne 6, 3) := by decide +kernel
theorem dX8_lose_8 : decode cX8_lose 8 = .ok (.bipush (-2), 2) := by decide +kernel
theorem dX8_lose_10 : decode cX8_lose 10 = .ok (.ireturn, 1) := by decide +kernel
theorem dX8_lose_11 : decode cX8_lose 11 = .ok (.aload_n 0, 1) := by decide +kernel
theorem dX8_lose_12 : decode cX8_lose 12 = .ok (.getfield 45, 3) := by decide +kernel
theorem dX8_lose_15 : decode cX8_lose 15 = .ok (.getfield 169, 3) := by decide +kernel
theorem dX8_lose_18 : decode cX8_lose 18 = .ok (.iload_n 1, 1) := by decide +kernel
theorem dX8_lose_19 : decode cX8_lose 19 = .ok (.iaload, 1) := by decide +kernel
theorem dX8_lose_20 : decode cX8_lose 20 = .ok (.iconst (-1), 1) := by decide +kernel
theorem dX8_lose_21 : decode cX8_lose 21 = .ok (.if_icmp .ne 9, 3) := by decide +kernel
theorem dX8_lose_24 : decode cX8_lose 24 = .ok (.aload_n 0, 1) := by decide +kernel
theorem dX8_lose_25 : decode cX8_lose 25 = .ok (.iconst 1, 1) := by decide +kernel
theorem dX8_lose_26 : decode cX8_lose 26 = .ok (.invokevirtual 172, 3) := by decide +kernel
theorem dX8_lose_29 : decode cX8_lose 29 = .ok (.ireturn, 1) := by decide +kernel
theorem dX8_lose_30 : decode cX8_lose 30 = .ok (.aload_n 0, 1) := by decide +kernel
theorem dX8_lose_31 : decode cX8_lose 31 = .ok (.getfield 45, 3) := by decide +kernel
theorem dX8_lose_34 : decode cX8_lose 34 = .ok (.getfield 180, 3) := by decide +kernel
theorem dX8_lose_37 : decode cX8_lose 37 = .ok (.iload_n 1, 1) := by decide +kernel
theorem dX8_lose_38 : decode cX8_lose 38 = .ok (.iaload, 1) := by decide +kernel
theorem dX8_lose_39 : decode cX8_lose 39 = .ok (.istore_n 2, 1) := by decide +kernel
theorem dX8_lose_40 : decode cX8_lose 40 = .ok (.aload_n 0, 1) := by decide +kernel
theorem dX8_lose_41 : decode cX8_lose 41 = .ok (.getfield 45, 3) := by decide +kernel
theorem dX8_lose_44 : decode cX8_lose 44 = .ok (.getfield 169, 3) := by decide +kernel
theorem dX8_lose_47 : decode cX8_lose 47 = .ok (.iload_n 1, 1) := by decide +kernel
theorem dX8_lose_48 : decode cX8_lose 48 = .ok (.iconst (-1), 1) := by decide +kernel
theorem dX8_lose_49 : decode cX8_lose 49 = .ok (.iastore, 1) := by decide +kernel
theorem dX8_lose_50 : decode cX8_lose 50 = .ok (.aload_n 0, 1) := by decide +kernel
theorem dX8_lose_51 : decode cX8_lose 51 = .ok (.getfield 45, 3) := by decide +kernel
theorem dX8_lose_54 : decode cX8_lose 54 = .ok (.getfield 180, 3) := by decide +kernel
theorem dX8_lose_57 : decode cX8_lose 57 = .ok (.iload_n 1, 1) := by decide +kernel
theorem dX8_lose_58 : decode cX8_lose 58 = .ok (.iconst 0, 1) := by decide +kernel
theorem dX8_lose_59 : decode cX8_lose 59 = .ok (.iastore, 1) := by decide +kernel
theorem dX8_lose_60 : decode cX8_lose 60 = .ok (.iload_n 2, 1) := by decide +kernel
theorem dX8_lose_61 : decode cX8_lose 61 = .ok (.ireturn, 1) := by decide +kernel
theorem dX8_put_0 : decode cX8_put 0 = .ok (.iload_n 1, 1) := by decide +kernel
theorem dX8_put_1 : decode cX8_put 1 = .ok (.iconst 4, 1) := by decide +kernel
theorem dX8_put_2 : decode cX8_put 2 = .ok (.invokestatic 81, 3) := by decide +kernel
theorem dX8_put_5 : decode cX8_put 5 = .ok (.ifCond .eq 11, 3) := by decide +kernel
theorem dX8_put_8 : decode cX8_put 8 = .ok (.iload_n 2, 1) := by decide +kernel
theorem dX8_put_9 : decode cX8_put 9 = .ok (.iconst 3, 1) := by decide +kernel
theorem dX8_put_10 : decode cX8_put 10 = .ok (.invokestatic 81, 3) := by decide +kernel
theorem dX8_put_13 : decode cX8_put 13 = .ok (.ifCond .ne 6, 3) := by decide +kernel
theorem dX8_put_16 : decode cX8_put 16 = .ok (.bipush (-2), 2) := by decide +kernel
theorem dX8_put_18 : decode cX8_put 18 = .ok (.ireturn, 1) := by decide +kernel
theorem dX8_put_19 : decode cX8_put 19 = .ok (.aload_n 0, 1) := by decide +kernel
theorem dX8_put_20 : decode cX8_put 20 = .ok (.getfield 45, 3) := by decide +kernel
theorem dX8_put_23 : decode cX8_put 23 = .ok (.iload_n 1, 1) := by decide +kernel
theorem dX8_put_24 : decode cX8_put 24 = .ok (.iload_n 2, 1) := by decide +kernel
theorem dX8_put_25 : decode cX8_put 25 = .ok (.iload_n 3, 1) := by decide +kernel
theorem dX8_put_26 : decode cX8_put 26 = .ok (.invokevirtual 298, 3) := by decide +kernel
theorem dX8_put_29 : decode cX8_put 29 = .ok (.istore 5, 2) := by decide +kernel
theorem dX8_put_31 : decode cX8_put 31 = .ok (.iload 5, 2) := by decide +kernel
theorem dX8_put_33 : decode cX8_put 33 = .ok (.ifCond .eq 10, 3) := by decide +kernel
theorem dX8_put_36 : decode cX8_put 36 = .ok (.aload_n 0, 1) := by decide +kernel
theorem dX8_put_37 : decode cX8_put 37 = .ok (.iload 5, 2) := by decide +kernel
theorem dX8_put_39 : decode cX8_put 39 = .ok (.invokevirtual 172, 3) := by decide +kernel
theorem dX8_put_42 : decode cX8_put 42 = .ok (.ireturn, 1) := by decide +kernel
theorem dX8_put_43 : decode cX8_put 43 = .ok (.aload_n 0, 1) := by decide +kernel
theorem dX8_put_44 : decode cX8_put 44 = .ok (.getfield 45, 3) := by decide +kernel
theorem dX8_put_47 : decode cX8_put 47 = .ok (.iload_n 1, 1) := by decide +kernel
theorem dX8_put_48 : decode cX8_put 48 = .ok (.iload_n 3, 1) := by decide +kernel
theorem dX8_put_49 : decode cX8_put 49 = .ok (.iload 4, 2) := by decide +kernel
theorem dX8_put_51 : decode cX8_put 51 = .ok (.invokevirtual 302, 3) := by decide +kernel
theorem dX8_put_54 : decode cX8_put 54 = .ok (.iconst 1, 1) := by decide +kernel
theorem dX8_put_55 : decode cX8_put 55 = .ok (.ireturn, 1) := by decide +kernel
theorem dX8_get_0 : decode cX8_get 0 = .ok (.iload_n 1, 1) := by decide +kernel
theorem dX8_get_1 : decode cX8_get 1 = .ok (.iconst 4, 1) := by decide +kernel
theorem dX8_get_2 : decode cX8_get 2 = .ok (.invokestatic 81, 3) := by decide +kernel
theorem dX8_get_5 : decode cX8_get 5 = .ok (.ifCond .eq 11, 3) := by decide +kernel
theorem dX8_get_8 : decode cX8_get 8 = .ok (.iload_n 2, 1) := by decide +kernel
theorem dX8_get_9 : decode cX8_get 9 = .ok (.iconst 3, 1) := by decide +kernel
theorem dX8_get_10 : decode cX8_get 10 = .ok (.invokestatic 81, 3) := by decide +kernel
theorem dX8_get_13 : decode cX8_get 13 = .ok (.ifCond .ne 7, 3) := by decide +kernel
theorem dX8_get_16 : decode cX8_get 16 = .ok (.ldc_w 306, 3) := by decide +kernel
theorem dX8_get_19 : decode cX8_get 19 = .ok (.ireturn, 1) := by decide +kernel
theorem dX8_get_20 : decode cX8_get 20 = .ok (.aload_n 0, 1) := by decide +kernel
theorem dX8_get_21 : decode cX8_get 21 = .ok (.getfield 45, 3) := by decide +kernel
theorem dX8_get_24 : decode cX8_get 24 = .ok (.iload_n 1, 1) := by decide +kernel
theorem dX8_get_25 : decode cX8_get 25 = .ok (.iload_n 2, 1) := by decide +kernel
theorem dX8_get_26 : decode cX8_get 26 = .ok (.iload_n 3, 1) := by decide +kernel
theorem dX8_get_27 : decode cX8_get 27 = .ok (.invokevirtual 298, 3) := by decide +kernel
theorem dX8_get_30 : decode cX8_get 30 = .ok (.istore 4, 2) := by decide +kernel
theorem dX8_get_32 : decode cX8_get 32 = .ok (.iload 4, 2) := by decide +kernel
theorem dX8_get_34 : decode cX8_get 34 = .ok (.ifCond .eq 14, 3) := by decide +kernel
theorem dX8_get_37 : decode cX8_get 37 = .ok (.aload_n 0, 1) := by decide +kernel
theorem dX8_get_38 : decode cX8_get 38 = .ok (.iload 4, 2) := by decide +kernel
theorem dX8_get_40 : decode cX8_get 40 = .ok (.invokevirtual 172, 3) := by decide +kernel
theorem dX8_get_43 : decode cX8_get 43 = .ok (.pop, 1) := by decide +kernel
theorem dX8_get_44 : decode cX8_get 44 = .ok (.ldc_w 306, 3) := by decide +kernel
theorem dX8_get_47 : decode cX8_get 47 = .ok (.ireturn, 1) := by decide +kernel
theorem dX8_get_48 : decode cX8_get 48 = .ok (.aload_n 0, 1) := by decide +kernel
theorem dX8_get_49 : decode cX8_get 49 = .ok (.getfield 45, 3) := by decide +kernel
theorem dX8_get_52 : decode cX8_get 52 = .ok (.getfield 176, 3) := by decide +kernel
theorem dX8_get_55 : decode cX8_get 55 = .ok (.iload_n 1, 1) := by decide +kernel
theorem dX8_get_56 : decode cX8_get 56 = .ok (.aaload, 1) := by decide +kernel
theorem dX8_get_57 : decode cX8_get 57 = .ok (.iload_n 3, 1) := by decide +kernel
theorem dX8_get_58 : decode cX8_get 58 = .ok (.iaload, 1) := by decide +kernel
theorem dX8_get_59 : decode cX8_get 59 = .ok (.ireturn, 1) := by decide +kernel
theorem dX8_copy_0 : decode cX8_copy 0 = .ok (.iload_n 1, 1) := by decide +kernel
theorem dX8_copy_1 : decode cX8_copy 1 = .ok (.iconst 4, 1) := by decide +kernel
theorem dX8_copy_2 : decode cX8_copy 2 = .ok (.invokestatic 81, 3) := by decide +kernel
theorem dX8_copy_5 : decode cX8_copy 5 = .ok (.ifCond .eq 11, 3) := by decide +kernel
theorem dX8_copy_8 : decode cX8_copy 8 = .ok (.iload_n 3, 1) := by decide +kernel
theorem dX8_copy_9 : decode cX8_copy 9 = .ok (.iconst 4, 1) := by decide +kernel
theorem dX8_copy_10 : decode cX8_copy 10 = .ok (.invokestatic 81, 3) := by decide +kernel
theorem dX8_copy_13 : decode cX8_copy 13 = .ok (.ifCond .ne 6, 3) := by decide +kernel
theorem dX8_copy_16 : decode cX8_copy 16 = .ok (.bipush (-2), 2) := by decide +kernel
theorem dX8_copy_18 : decode cX8_copy 18 = .ok (.ireturn, 1) := by decide +kernel
theorem dX8_copy_19 : decode cX8_copy 19 = .ok (.aload_n 0, 1) := by decide +kernel
theorem dX8_copy_20 : decode cX8_copy 20 = .ok (.getfield 45, 3) := by decide +kernel
theorem dX8_copy_23 : decode cX8_copy 23 = .ok (.getfield 169, 3) := by decide +kernel
theorem dX8_copy_26 : decode cX8_copy 26 = .ok (.iload_n 1, 1) := by decide +kernel
theorem dX8_copy_27 : decode cX8_copy 27 = .ok (.iaload, 1) := by decide +kernel
theorem dX8_copy_28 : decode cX8_copy 28 = .ok (.iconst (-1), 1) := by decide +kernel
theorem dX8_copy_29 : decode cX8_copy 29 = .ok (.if_icmp .eq 16, 3) := by decide +kernel
theorem dX8_copy_32 : decode cX8_copy 32 = .ok (.aload_n 0, 1) := by decide +kernel
theorem dX8_copy_33 : decode cX8_copy 33 = .ok (.getfield 45, 3) := by decide +kernel
theorem dX8_copy_36 : decode cX8_copy 36 = .ok (.getfield 169, 3) := by decide +kernel
theorem dX8_copy_39 : decode cX8_copy 39 = .ok (.iload_n 3, 1) := by decide +kernel
theorem dX8_copy_40 : decode cX8_copy 40 = .ok (.iaload, 1) := by decide +kernel
theorem dX8_copy_41 : decode cX8_copy 41 = .ok (.iconst (-1), 1) := by decide +kernel
theorem dX8_copy_42 : decode cX8_copy 42 = .ok (.if_icmp .ne 9, 3) := by decide +kernel
theorem dX8_copy_45 : decode cX8_copy 45 = .ok (.aload_n 0, 1) := by decide +kernel
theorem dX8_copy_46 : decode cX8_copy 46 = .ok (.iconst 1, 1) := by decide +kernel
theorem dX8_copy_47 : decode cX8_copy 47 = .ok (.invokevirtual 172, 3) := by decide +kernel
theorem dX8_copy_50 : decode cX8_copy 50 = .ok (.ireturn, 1) := by decide +kernel
theorem dX8_copy_51 : decode cX8_copy 51 = .ok (.aload_n 0, 1) := by decide +kernel
theorem dX8_copy_52 : decode cX8_copy 52 = .ok (.getfield 45, 3) := by decide +kernel
theorem dX8_copy_55 : decode cX8_copy 55 = .ok (.getfield 169, 3) := by decide +kernel
theorem dX8_copy_58 : decode cX8_copy 58 = .ok (.iload_n 1, 1) := by decide +kernel
theorem dX8_copy_59 : decode cX8_copy 59 = .ok (.iaload, 1) := by decide +kernel
theorem dX8_copy_60 : decode cX8_copy 60 = .ok (.aload_n 0, 1) := by decide +kernel
theorem dX8_copy_61 : decode cX8_copy 61 = .ok (.getfield 45, 3) := by decide +kernel
theorem dX8_copy_64 : decode cX8_copy 64 = .ok (.getfield 169, 3) := by decide +kernel
theorem dX8_copy_67 : decode cX8_copy 67 = .ok (.iload_n 3, 1) := by decide +kernel
theorem dX8_copy_68 : decode cX8_copy 68 = .ok (.iaload, 1) := by decide +kernel
theorem dX8_copy_69 : decode cX8_copy 69 = .ok (.if_icmp .eq 9, 3) := by decide +kernel
theorem dX8_copy_72 : decode cX8_copy 72 = .ok (.aload_n 0, 1) := by decide +kernel
theorem dX8_copy_73 : decode cX8_copy 73 = .ok (.iconst 4, 1) := by decide +kernel
theorem dX8_copy_74 : decode cX8_copy 74 = .ok (.invokevirtual 172, 3) := by decide +kernel
theorem dX8_copy_77 : decode cX8_copy 77 = .ok (.ireturn, 1) := by decide +kernel
theorem dX8_copy_78 : decode cX8_copy 78 = .ok (.aload_n 0, 1) := by decide +kernel
theorem dX8_copy_79 : decode cX8_copy 79 = .ok (.getfield 45, 3) := by decide +kernel
theorem dX8_copy_82 : decode cX8_copy 82 = .ok (.iload_n 1, 1) := by decide +kernel
theorem dX8_copy_83 : decode cX8_copy 83 = .ok (.iload_n 2, 1) := by decide +kernel
theorem dX8_copy_84 : decode cX8_copy 84 = .ok (.iload 5, 2) := by decide +kernel
theorem dX8_copy_86 : decode cX8_copy 86 = .ok (.invokevirtual 307, 3) := by decide +kernel
theorem dX8_copy_89 : decode cX8_copy 89 = .ok (.ifCond .eq 18, 3) := by decide +kernel
theorem dX8_copy_92 : decode cX8_copy 92 = .ok (.aload_n 0, 1) := by decide +kernel
theorem dX8_copy_93 : decode cX8_copy 93 = .ok (.getfield 45, 3) := by decide +kernel
theorem dX8_copy_96 : decode cX8_copy 96 = .ok (.iload_n 3, 1) := by decide +kernel
theorem dX8_copy_97 : decode cX8_copy 97 = .ok (.iload 4, 2) := by decide +kernel
theorem dX8_copy_99 : decode cX8_copy 99 = .ok (.iload 5, 2) := by decide +kernel
theorem dX8_copy_101 : decode cX8_copy 101 = .ok (.invokevirtual 307, 3) := by decide +kernel
theorem dX8_copy_104 : decode cX8_copy 104 = .ok (.ifCond .ne 9, 3) := by decide +kernel
theorem dX8_copy_107 : decode cX8_copy 107 = .ok (.aload_n 0, 1) := by decide +kernel
theorem dX8_copy_108 : decode cX8_copy 108 = .ok (.iconst 2, 1) := by decide +kernel
theorem dX8_copy_109 : decode cX8_copy 109 = .ok (.invokevirtual 172, 3) := by decide +kernel
theorem dX8_copy_112 : decode cX8_copy 112 = .ok (.ireturn, 1) := by decide +kernel
theorem dX8_copy_113 : decode cX8_copy 113 = .ok (.aload_n 0, 1) := by decide +kernel
theorem dX8_copy_114 : decode cX8_copy 114 = .ok (.getfield 45, 3) := by decide +kernel
theorem dX8_copy_117 : decode cX8_copy 117 = .ok (.getfield 176, 3) := by decide +kernel
theorem dX8_copy_120 : decode cX8_copy 120 = .ok (.iload_n 1, 1) := by decide +kernel
theorem dX8_copy_121 : decode cX8_copy 121 = .ok (.aaload, 1) := by decide +kernel
theorem dX8_copy_122 : decode cX8_copy 122 = .ok (.iload_n 2, 1) := by decide +kernel
theorem dX8_copy_123 : decode cX8_copy 123 = .ok (.aload_n 0, 1) := by decide +kernel
theorem dX8_copy_124 : decode cX8_copy 124 = .ok (.getfield 45, 3) := by decide +kernel
theorem dX8_copy_127 : decode cX8_copy 127 = .ok (.getfield 176, 3) := by decide +kernel
theorem dX8_copy_130 : decode cX8_copy 130 = .ok (.iload_n 3, 1) := by decide +kernel
theorem dX8_copy_131 : decode cX8_copy 131 = .ok (.aaload, 1) := by decide +kernel
theorem dX8_copy_132 : decode cX8_copy 132 = .ok (.iload 4, 2) := by decide +kernel
theorem dX8_copy_134 : decode cX8_copy 134 = .ok (.iload 5, 2) := by decide +kernel
theorem dX8_copy_136 : decode cX8_copy 136 = .ok (.invokestatic 310, 3) := by decide +kernel
theorem dX8_copy_139 : decode cX8_copy 139 = .ok (.iconst 1, 1) := by decide +kernel
theorem dX8_copy_140 : decode cX8_copy 140 = .ok (.ireturn, 1) := by decide +kernel
theorem dX8_write_0 : decode cX8_write 0 = .ok (.aload_n 0, 1) := by decide +kernel
theorem dX8_write_1 : decode cX8_write 1 = .ok (.iload_n 1, 1) := by decide +kernel
theorem dX8_write_2 : decode cX8_write 2 = .ok (.invokevirtual 108, 3) := by decide +kernel
theorem dX8_write_5 : decode cX8_write 5 = .ok (.ifCond .eq 11, 3) := by decide +kernel
theorem dX8_write_8 : decode cX8_write 8 = .ok (.iload_n 2, 1) := by decide +kernel
theorem dX8_write_9 : decode cX8_write 9 = .ok (.iconst 4, 1) := by decide +kernel
theorem dX8_write_10 : decode cX8_write 10 = .ok (.invokestatic 81, 3) := by decide +kernel
theorem dX8_write_13 : decode cX8_write 13 = .ok (.ifCond .ne 6, 3) := by decide +kernel
theorem dX8_write_16 : decode cX8_write 16 = .ok (.bipush (-2), 2) := by decide +kernel
theorem dX8_write_18 : decode cX8_write 18 = .ok (.ireturn, 1) := by decide +kernel
theorem dX8_write_19 : decode cX8_write 19 = .ok (.aload_n 0, 1) := by decide +kernel
theorem dX8_write_20 : decode cX8_write 20 = .ok (.getfield 45, 3) := by decide +kernel
theorem dX8_write_23 : decode cX8_write 23 = .ok (.getfield 169, 3) := by decide +kernel
theorem dX8_write_26 : decode cX8_write 26 = .ok (.iload_n 2, 1) := by decide +kernel
theorem dX8_write_27 : decode cX8_write 27 = .ok (.iaload, 1) := by decide +kernel
theorem dX8_write_28 : decode cX8_write 28 = .ok (.iconst (-1), 1) := by decide +kernel
theorem dX8_write_29 : decode cX8_write 29 = .ok (.if_icmp .ne 9, 3) := by decide +kernel
theorem dX8_write_32 : decode cX8_write 32 = .ok (.aload_n 0, 1) := by decide +kernel
theorem dX8_write_33 : decode cX8_write 33 = .ok (.iconst 1, 1) := by decide +kernel
theorem dX8_write_34 : decode cX8_write 34 = .ok (.invokevirtual 172, 3) := by decide +kernel
theorem dX8_write_37 : decode cX8_write 37 = .ok (.ireturn, 1) := by decide +kernel
theorem dX8_write_38 : decode cX8_write 38 = .ok (.aload_n 0, 1) := by decide +kernel
theorem dX8_write_39 : decode cX8_write 39 = .ok (.getfield 45, 3) := by decide +kernel
theorem dX8_write_42 : decode cX8_write 42 = .ok (.getfield 180, 3) := by decide +kernel
theorem dX8_write_45 : decode cX8_write 45 = .ok (.iload_n 2, 1) := by decide +kernel
theorem dX8_write_46 : decode cX8_write 46 = .ok (.iaload, 1) := by decide +kernel
theorem dX8_write_47 : decode cX8_write 47 = .ok (.bipush 40, 2) := by decide +kernel
theorem dX8_write_49 : decode cX8_write 49 = .ok (.invokestatic 277, 3) := by decide +kernel
theorem dX8_write_52 : decode cX8_write 52 = .ok (.istore_n 3, 1) := by decide +kernel
theorem dX8_write_53 : decode cX8_write 53 = .ok (.iconst 0, 1) := by decide +kernel
theorem dX8_write_54 : decode cX8_write 54 = .ok (.istore 4, 2) := by decide +kernel
theorem dX8_write_56 : decode cX8_write 56 = .ok (.iload 4, 2) := by decide +kernel
theorem dX8_write_58 : decode cX8_write 58 = .ok (.iload_n 3, 1) := by decide +kernel
theorem dX8_write_59 : decode cX8_write 59 = .ok (.if_icmp .ge 29, 3) := by decide +kernel
theorem dX8_write_62 : decode cX8_write 62 = .ok (.aload_n 0, 1) := by decide +kernel
theorem dX8_write_63 : decode cX8_write 63 = .ok (.getfield 45, 3) := by decide +kernel
theorem dX8_write_66 : decode cX8_write 66 = .ok (.iload_n 2, 1) := by decide +kernel
theorem dX8_write_67 : decode cX8_write 67 = .ok (.iload 4, 2) := by decide +kernel
theorem dX8_write_69 : decode cX8_write 69 = .ok (.aload_n 0, 1) := by decide +kernel
theorem dX8_write_70 : decode cX8_write 70 = .ok (.iload 4, 2) := by decide +kernel
theorem dX8_write_72 : decode cX8_write 72 = .ok (.invokevirtual 186, 3) := by decide +kernel
theorem dX8_write_75 : decode cX8_write 75 = .ok (.iload_n 1, 1) := by decide +kernel
theorem dX8_write_76 : decode cX8_write 76 = .ok (.invokevirtual 190, 3) := by decide +kernel
theorem dX8_write_79 : decode cX8_write 79 = .ok (.invokevirtual 302, 3) := by decide +kernel
theorem dX8_write_82 : decode cX8_write 82 = .ok (.iinc 4 1, 3) := by decide +kernel
theorem dX8_write_85 : decode cX8_write 85 = .ok (.goto (-29), 3) := by decide +kernel
theorem dX8_write_88 : decode cX8_write 88 = .ok (.iload_n 3, 1) := by decide +kernel
theorem dX8_write_89 : decode cX8_write 89 = .ok (.ireturn, 1) := by decide +kernel
theorem dX8_count_0 : decode cX8_count 0 = .ok (.iload_n 1, 1) := by decide +kernel
theorem dX8_count_1 : decode cX8_count 1 = .ok (.tableswitch 131 0 8 #[51, 62, 70, 78, 86, 97, 110, 118, 126], 51) := by decide +kernel
theorem dX8_count_52 : decode cX8_count 52 = .ok (.aload_n 0, 1) := by decide +kernel
theorem dX8_count_53 : decode cX8_count 53 = .ok (.getfield 24, 3) := by decide +kernel
theorem dX8_count_56 : decode cX8_count 56 = .ok (.getfield 112, 3) := by decide +kernel
theorem dX8_count_59 : decode cX8_count 59 = .ok (.getfield 242, 3) := by decide +kernel
theorem dX8_count_62 : decode cX8_count 62 = .ok (.ireturn, 1) := by decide +kernel
theorem dX8_count_63 : decode cX8_count 63 = .ok (.aload_n 0, 1) := by decide +kernel
theorem dX8_count_64 : decode cX8_count 64 = .ok (.getfield 31, 3) := by decide +kernel
theorem dX8_count_67 : decode cX8_count 67 = .ok (.getfield 130, 3) := by decide +kernel
theorem dX8_count_70 : decode cX8_count 70 = .ok (.ireturn, 1) := by decide +kernel
theorem dX8_count_71 : decode cX8_count 71 = .ok (.aload_n 0, 1) := by decide +kernel
theorem dX8_count_72 : decode cX8_count 72 = .ok (.getfield 14, 3) := by decide +kernel
theorem dX8_count_75 : decode cX8_count 75 = .ok (.getfield 89, 3) := by decide +kernel
theorem dX8_count_78 : decode cX8_count 78 = .ok (.ireturn, 1) := by decide +kernel
theorem dX8_count_79 : decode cX8_count 79 = .ok (.aload_n 0, 1) := by decide +kernel
theorem dX8_count_80 : decode cX8_count 80 = .ok (.getfield 18, 3) := by decide +kernel
theorem dX8_count_83 : decode cX8_count 83 = .ok (.getfield 89, 3) := by decide +kernel
theorem dX8_count_86 : decode cX8_count 86 = .ok (.ireturn, 1) := by decide +kernel
theorem dX8_count_87 : decode cX8_count 87 = .ok (.aload_n 0, 1) := by decide +kernel
theorem dX8_count_88 : decode cX8_count 88 = .ok (.getfield 24, 3) := by decide +kernel
theorem dX8_count_91 : decode cX8_count 91 = .ok (.getfield 150, 3) := by decide +kernel
theorem dX8_count_94 : decode cX8_count 94 = .ok (.getfield 154, 3) := by decide +kernel
theorem dX8_count_97 : decode cX8_count 97 = .ok (.ireturn, 1) := by decide +kernel
theorem dX8_count_98 : decode cX8_count 98 = .ok (.aload_n 0, 1) := by decide +kernel
theorem dX8_count_99 : decode cX8_count 99 = .ok (.bipush 39, 2) := by decide +kernel
theorem dX8_count_101 : decode cX8_count 101 = .ok (.invokevirtual 186, 3) := by decide +kernel
theorem dX8_count_104 : decode cX8_count 104 = .ok (.getfield 218, 3) := by decide +kernel
theorem dX8_count_107 : decode cX8_count 107 = .ok (.invokestatic 234, 3) := by decide +kernel
theorem dX8_count_110 : decode cX8_count 110 = .ok (.ireturn, 1) := by decide +kernel
theorem dX8_count_111 : decode cX8_count 111 = .ok (.aload_n 0, 1) := by decide +kernel
theorem dX8_count_112 : decode cX8_count 112 = .ok (.getfield 24, 3) := by decide +kernel
theorem dX8_count_115 : decode cX8_count 115 = .ok (.getfield 140, 3) := by decide +kernel
theorem dX8_count_118 : decode cX8_count 118 = .ok (.ireturn, 1) := by decide +kernel
theorem dX8_count_119 : decode cX8_count 119 = .ok (.aload_n 0, 1) := by decide +kernel
theorem dX8_count_120 : decode cX8_count 120 = .ok (.getfield 38, 3) := by decide +kernel
theorem dX8_count_123 : decode cX8_count 123 = .ok (.getfield 243, 3) := by decide +kernel
theorem dX8_count_126 : decode cX8_count 126 = .ok (.ireturn, 1) := by decide +kernel
theorem dX8_count_127 : decode cX8_count 127 = .ok (.aload_n 0, 1) := by decide +kernel
theorem dX8_count_128 : decode cX8_count 128 = .ok (.getfield 78, 3) := by decide +kernel
theorem dX8_count_131 : decode cX8_count 131 = .ok (.ireturn, 1) := by decide +kernel
theorem dX8_count_132 : decode cX8_count 132 = .ok (.bipush (-2), 2) := by decide +kernel
theorem dX8_count_134 : decode cX8_count 134 = .ok (.ireturn, 1) := by decide +kernel
theorem dX8_digest_0 : decode cX8_digest 0 = .ok (.ldc2_w 316, 3) := by decide +kernel
theorem dX8_digest_3 : decode cX8_digest 3 = .ok (.lstore_n 1, 1) := by decide +kernel
theorem dX8_digest_4 : decode cX8_digest 4 = .ok (.iconst 0, 1) := by decide +kernel
theorem dX8_digest_5 : decode cX8_digest 5 = .ok (.istore_n 3, 1) := by decide +kernel
theorem dX8_digest_6 : decode cX8_digest 6 = .ok (.iload_n 3, 1) := by decide +kernel
theorem dX8_digest_7 : decode cX8_digest 7 = .ok (.bipush 7, 2) := by decide +kernel
theorem dX8_digest_9 : decode cX8_digest 9 = .ok (.if_icmp .gt 22, 3) := by decide +kernel
theorem dX8_digest_12 : decode cX8_digest 12 = .ok (.ldc2_w 318, 3) := by decide +kernel
theorem dX8_digest_15 : decode cX8_digest 15 = .ok (.lload_n 1, 1) := by decide +kernel
theorem dX8_digest_16 : decode cX8_digest 16 = .ok (.lmul, 1) := by decide +kernel
theorem dX8_digest_17 : decode cX8_digest 17 = .ok (.aload_n 0, 1) := by decide +kernel
theorem dX8_digest_18 : decode cX8_digest 18 = .ok (.iload_n 3, 1) := by decide +kernel
theorem dX8_digest_19 : decode cX8_digest 19 = .ok (.invokevirtual 320, 3) := by decide +kernel
theorem dX8_digest_22 : decode cX8_digest 22 = .ok (.i2l, 1) := by decide +kernel
theorem dX8_digest_23 : decode cX8_digest 23 = .ok (.ladd, 1) := by decide +kernel
theorem dX8_digest_24 : decode cX8_digest 24 = .ok (.lstore_n 1, 1) := by decide +kernel
theorem dX8_digest_25 : decode cX8_digest 25 = .ok (.iinc 3 1, 3) := by decide +kernel
theorem dX8_digest_28 : decode cX8_digest 28 = .ok (.goto (-22), 3) := by decide +kernel
theorem dX8_digest_31 : decode cX8_digest 31 = .ok (.iconst 0, 1) := by decide +kernel
theorem dX8_digest_32 : decode cX8_digest 32 = .ok (.istore_n 3, 1) := by decide +kernel
theorem dX8_digest_33 : decode cX8_digest 33 = .ok (.iload_n 3, 1) := by decide +kernel
theorem dX8_digest_34 : decode cX8_digest 34 = .ok (.iconst 2, 1) := by decide +kernel
theorem dX8_digest_35 : decode cX8_digest 35 = .ok (.if_icmp .ge 22, 3) := by decide +kernel
theorem dX8_digest_38 : decode cX8_digest 38 = .ok (.ldc2_w 318, 3) := by decide +kernel
theorem dX8_digest_41 : decode cX8_digest 41 = .ok (.lload_n 1, 1) := by decide +kernel
theorem dX8_digest_42 : decode cX8_digest 42 = .ok (.lmul, 1) := by decide +kernel
theorem dX8_digest_43 : decode cX8_digest 43 = .ok (.aload_n 0, 1) := by decide +kernel
theorem dX8_digest_44 : decode cX8_digest 44 = .ok (.iload_n 3, 1) := by decide +kernel
theorem dX8_digest_45 : decode cX8_digest 45 = .ok (.invokevirtual 323, 3) := by decide +kernel
theorem dX8_digest_48 : decode cX8_digest 48 = .ok (.i2l, 1) := by decide +kernel
theorem dX8_digest_49 : decode cX8_digest 49 = .ok (.ladd, 1) := by decide +kernel
theorem dX8_digest_50 : decode cX8_digest 50 = .ok (.lstore_n 1, 1) := by decide +kernel
theorem dX8_digest_51 : decode cX8_digest 51 = .ok (.iinc 3 1, 3) := by decide +kernel
theorem dX8_digest_54 : decode cX8_digest 54 = .ok (.goto (-21), 3) := by decide +kernel
theorem dX8_digest_57 : decode cX8_digest 57 = .ok (.iconst 0, 1) := by decide +kernel
theorem dX8_digest_58 : decode cX8_digest 58 = .ok (.istore_n 3, 1) := by decide +kernel
theorem dX8_digest_59 : decode cX8_digest 59 = .ok (.iload_n 3, 1) := by decide +kernel
theorem dX8_digest_60 : decode cX8_digest 60 = .ok (.aload_n 0, 1) := by decide +kernel
theorem dX8_digest_61 : decode cX8_digest 61 = .ok (.getfield 24, 3) := by decide +kernel
theorem dX8_digest_64 : decode cX8_digest 64 = .ok (.getfield 112, 3) := by decide +kernel
theorem dX8_digest_67 : decode cX8_digest 67 = .ok (.getfield 242, 3) := by decide +kernel
theorem dX8_digest_70 : decode cX8_digest 70 = .ok (.if_icmp .ge 16, 3) := by decide +kernel
theorem dX8_digest_73 : decode cX8_digest 73 = .ok (.aload_n 0, 1) := by decide +kernel
theorem dX8_digest_74 : decode cX8_digest 74 = .ok (.lload_n 1, 1) := by decide +kernel
theorem dX8_digest_75 : decode cX8_digest 75 = .ok (.iload_n 3, 1) := by decide +kernel
theorem dX8_digest_76 : decode cX8_digest 76 = .ok (.invokevirtual 326, 3) := by decide +kernel
theorem dX8_digest_79 : decode cX8_digest 79 = .ok (.lstore_n 1, 1) := by decide +kernel
theorem dX8_digest_80 : decode cX8_digest 80 = .ok (.iinc 3 1, 3) := by decide +kernel
theorem dX8_digest_83 : decode cX8_digest 83 = .ok (.goto (-24), 3) := by decide +kernel
theorem dX8_digest_86 : decode cX8_digest 86 = .ok (.iconst 0, 1) := by decide +kernel
theorem dX8_digest_87 : decode cX8_digest 87 = .ok (.istore_n 3, 1) := by decide +kernel
theorem dX8_digest_88 : decode cX8_digest 88 = .ok (.iload_n 3, 1) := by decide +kernel
theorem dX8_digest_89 : decode cX8_digest 89 = .ok (.aload_n 0, 1) := by decide +kernel
theorem dX8_digest_90 : decode cX8_digest 90 = .ok (.getfield 31, 3) := by decide +kernel
theorem dX8_digest_93 : decode cX8_digest 93 = .ok (.getfield 130, 3) := by decide +kernel
theorem dX8_digest_96 : decode cX8_digest 96 = .ok (.if_icmp .ge 22, 3) := by decide +kernel
theorem dX8_digest_99 : decode cX8_digest 99 = .ok (.ldc2_w 318, 3) := by decide +kernel
theorem dX8_digest_102 : decode cX8_digest 102 = .ok (.lload_n 1, 1) := by decide +kernel
theorem dX8_digest_103 : decode cX8_digest 103 = .ok (.lmul, 1) := by decide +kernel
theorem dX8_digest_104 : decode cX8_digest 104 = .ok (.aload_n 0, 1) := by decide +kernel
theorem dX8_digest_105 : decode cX8_digest 105 = .ok (.iload_n 3, 1) := by decide +kernel
theorem dX8_digest_106 : decode cX8_digest 106 = .ok (.invokevirtual 330, 3) := by decide +kernel
theorem dX8_digest_109 : decode cX8_digest 109 = .ok (.i2l, 1) := by decide +kernel
theorem dX8_digest_110 : decode cX8_digest 110 = .ok (.ladd, 1) := by decide +kernel
theorem dX8_digest_111 : decode cX8_digest 111 = .ok (.lstore_n 1, 1) := by decide +kernel
theorem dX8_digest_112 : decode cX8_digest 112 = .ok (.iinc 3 1, 3) := by decide +kernel
theorem dX8_digest_115 : decode cX8_digest 115 = .ok (.goto (-27), 3) := by decide +kernel
theorem dX8_digest_118 : decode cX8_digest 118 = .ok (.iconst 0, 1) := by decide +kernel
theorem dX8_digest_119 : decode cX8_digest 119 = .ok (.istore_n 3, 1) := by decide +kernel
theorem dX8_digest_120 : decode cX8_digest 120 = .ok (.iload_n 3, 1) := by decide +kernel
theorem dX8_digest_121 : decode cX8_digest 121 = .ok (.bipush 8, 2) := by decide +kernel
theorem dX8_digest_123 : decode cX8_digest 123 = .ok (.if_icmp .ge 53, 3) := by decide +kernel
theorem dX8_digest_126 : decode cX8_digest 126 = .ok (.ldc2_w 318, 3) := by decide +kernel
theorem dX8_digest_129 : decode cX8_digest 129 = .ok (.lload_n 1, 1) := by decide +kernel
theorem dX8_digest_130 : decode cX8_digest 130 = .ok (.lmul, 1) := by decide +kernel
theorem dX8_digest_131 : decode cX8_digest 131 = .ok (.aload_n 0, 1) := by decide +kernel
theorem dX8_digest_132 : decode cX8_digest 132 = .ok (.bipush 39, 2) := by decide +kernel
theorem dX8_digest_134 : decode cX8_digest 134 = .ok (.iload_n 3, 1) := by decide +kernel
theorem dX8_digest_135 : decode cX8_digest 135 = .ok (.invokevirtual 333, 3) := by decide +kernel
theorem dX8_digest_138 : decode cX8_digest 138 = .ok (.i2l, 1) := by decide +kernel
theorem dX8_digest_139 : decode cX8_digest 139 = .ok (.ladd, 1) := by decide +kernel
theorem dX8_digest_140 : decode cX8_digest 140 = .ok (.lstore_n 1, 1) := by decide +kernel
theorem dX8_digest_141 : decode cX8_digest 141 = .ok (.ldc2_w 318, 3) := by decide +kernel
theorem dX8_digest_144 : decode cX8_digest 144 = .ok (.lload_n 1, 1) := by decide +kernel
theorem dX8_digest_145 : decode cX8_digest 145 = .ok (.lmul, 1) := by decide +kernel
theorem dX8_digest_146 : decode cX8_digest 146 = .ok (.aload_n 0, 1) := by decide +kernel
theorem dX8_digest_147 : decode cX8_digest 147 = .ok (.bipush 39, 2) := by decide +kernel
theorem dX8_digest_149 : decode cX8_digest 149 = .ok (.iload_n 3, 1) := by decide +kernel
theorem dX8_digest_150 : decode cX8_digest 150 = .ok (.invokevirtual 336, 3) := by decide +kernel
theorem dX8_digest_153 : decode cX8_digest 153 = .ok (.i2l, 1) := by decide +kernel
theorem dX8_digest_154 : decode cX8_digest 154 = .ok (.ladd, 1) := by decide +kernel
theorem dX8_digest_155 : decode cX8_digest 155 = .ok (.lstore_n 1, 1) := by decide +kernel
theorem dX8_digest_156 : decode cX8_digest 156 = .ok (.ldc2_w 318, 3) := by decide +kernel
theorem dX8_digest_159 : decode cX8_digest 159 = .ok (.lload_n 1, 1) := by decide +kernel
theorem dX8_digest_160 : decode cX8_digest 160 = .ok (.lmul, 1) := by decide +kernel
theorem dX8_digest_161 : decode cX8_digest 161 = .ok (.aload_n 0, 1) := by decide +kernel
theorem dX8_digest_162 : decode cX8_digest 162 = .ok (.iconst 5, 1) := by decide +kernel
theorem dX8_digest_163 : decode cX8_digest 163 = .ok (.iload_n 3, 1) := by decide +kernel
theorem dX8_digest_164 : decode cX8_digest 164 = .ok (.invokevirtual 339, 3) := by decide +kernel
theorem dX8_digest_167 : decode cX8_digest 167 = .ok (.i2l, 1) := by decide +kernel
theorem dX8_digest_168 : decode cX8_digest 168 = .ok (.ladd, 1) := by decide +kernel
theorem dX8_digest_169 : decode cX8_digest 169 = .ok (.lstore_n 1, 1) := by decide +kernel
theorem dX8_digest_170 : decode cX8_digest 170 = .ok (.iinc 3 1, 3) := by decide +kernel
theorem dX8_digest_173 : decode cX8_digest 173 = .ok (.goto (-53), 3) := by decide +kernel
theorem dX8_digest_176 : decode cX8_digest 176 = .ok (.iconst 0, 1) := by decide +kernel
theorem dX8_digest_177 : decode cX8_digest 177 = .ok (.istore_n 3, 1) := by decide +kernel
theorem dX8_digest_178 : decode cX8_digest 178 = .ok (.iload_n 3, 1) := by decide +kernel
theorem dX8_digest_179 : decode cX8_digest 179 = .ok (.bipush 6, 2) := by decide +kernel
theorem dX8_digest_181 : decode cX8_digest 181 = .ok (.if_icmp .ge 24, 3) := by decide +kernel
theorem dX8_digest_184 : decode cX8_digest 184 = .ok (.ldc2_w 318, 3) := by decide +kernel
theorem dX8_digest_187 : decode cX8_digest 187 = .ok (.lload_n 1, 1) := by decide +kernel
theorem dX8_digest_188 : decode cX8_digest 188 = .ok (.lmul, 1) := by decide +kernel
theorem dX8_digest_189 : decode cX8_digest 189 = .ok (.aload_n 0, 1) := by decide +kernel
theorem dX8_digest_190 : decode cX8_digest 190 = .ok (.bipush 9, 2) := by decide +kernel
theorem dX8_digest_192 : decode cX8_digest 192 = .ok (.iload_n 3, 1) := by decide +kernel
theorem dX8_digest_193 : decode cX8_digest 193 = .ok (.invokevirtual 341, 3) := by decide +kernel
theorem dX8_digest_196 : decode cX8_digest 196 = .ok (.i2l, 1) := by decide +kernel
theorem dX8_digest_197 : decode cX8_digest 197 = .ok (.ladd, 1) := by decide +kernel
theorem dX8_digest_198 : decode cX8_digest 198 = .ok (.lstore_n 1, 1) := by decide +kernel
theorem dX8_digest_199 : decode cX8_digest 199 = .ok (.iinc 3 1, 3) := by decide +kernel
theorem dX8_digest_202 : decode cX8_digest 202 = .ok (.goto (-24), 3) := by decide +kernel
theorem dX8_digest_205 : decode cX8_digest 205 = .ok (.iconst 0, 1) := by decide +kernel
theorem dX8_digest_206 : decode cX8_digest 206 = .ok (.istore_n 3, 1) := by decide +kernel
theorem dX8_digest_207 : decode cX8_digest 207 = .ok (.iload_n 3, 1) := by decide +kernel
theorem dX8_digest_208 : decode cX8_digest 208 = .ok (.iconst 3, 1) := by decide +kernel
theorem dX8_digest_209 : decode cX8_digest 209 = .ok (.if_icmp .ge 132, 3) := by decide +kernel
theorem dX8_digest_212 : decode cX8_digest 212 = .ok (.iload_n 3, 1) := by decide +kernel
theorem dX8_digest_213 : decode cX8_digest 213 = .ok (.ifCond .ne 7, 3) := by decide +kernel
theorem dX8_digest_216 : decode cX8_digest 216 = .ok (.iconst 0, 1) := by decide +kernel
theorem dX8_digest_217 : decode cX8_digest 217 = .ok (.goto 14, 3) := by decide +kernel
theorem dX8_digest_220 : decode cX8_digest 220 = .ok (.iload_n 3, 1) := by decide +kernel
theorem dX8_digest_221 : decode cX8_digest 221 = .ok (.iconst 1, 1) := by decide +kernel
theorem dX8_digest_222 : decode cX8_digest 222 = .ok (.if_icmp .ne 7, 3) := by decide +kernel
theorem dX8_digest_225 : decode cX8_digest 225 = .ok (.iconst 5, 1) := by decide +kernel
theorem dX8_digest_226 : decode cX8_digest 226 = .ok (.goto 5, 3) := by decide +kernel
theorem dX8_digest_229 : decode cX8_digest 229 = .ok (.bipush 39, 2) := by decide +kernel
theorem dX8_digest_231 : decode cX8_digest 231 = .ok (.istore 4, 2) := by decide +kernel
theorem dX8_digest_233 : decode cX8_digest 233 = .ok (.ldc2_w 318, 3) := by decide +kernel
theorem dX8_digest_236 : decode cX8_digest 236 = .ok (.lload_n 1, 1) := by decide +kernel
theorem dX8_digest_237 : decode cX8_digest 237 = .ok (.lmul, 1) := by decide +kernel
theorem dX8_digest_238 : decode cX8_digest 238 = .ok (.aload_n 0, 1) := by decide +kernel
theorem dX8_digest_239 : decode cX8_digest 239 = .ok (.iload 4, 2) := by decide +kernel
theorem dX8_digest_241 : decode cX8_digest 241 = .ok (.invokevirtual 344, 3) := by decide +kernel
theorem dX8_digest_244 : decode cX8_digest 244 = .ok (.i2l, 1) := by decide +kernel
theorem dX8_digest_245 : decode cX8_digest 245 = .ok (.ladd, 1) := by decide +kernel
theorem dX8_digest_246 : decode cX8_digest 246 = .ok (.lstore_n 1, 1) := by decide +kernel
theorem dX8_digest_247 : decode cX8_digest 247 = .ok (.ldc2_w 318, 3) := by decide +kernel
theorem dX8_digest_250 : decode cX8_digest 250 = .ok (.lload_n 1, 1) := by decide +kernel
theorem dX8_digest_251 : decode cX8_digest 251 = .ok (.lmul, 1) := by decide +kernel
theorem dX8_digest_252 : decode cX8_digest 252 = .ok (.aload_n 0, 1) := by decide +kernel
theorem dX8_digest_253 : decode cX8_digest 253 = .ok (.iload 4, 2) := by decide +kernel
theorem dX8_digest_255 : decode cX8_digest 255 = .ok (.invokevirtual 347, 3) := by decide +kernel
theorem dX8_digest_258 : decode cX8_digest 258 = .ok (.i2l, 1) := by decide +kernel
theorem dX8_digest_259 : decode cX8_digest 259 = .ok (.ladd, 1) := by decide +kernel
theorem dX8_digest_260 : decode cX8_digest 260 = .ok (.lstore_n 1, 1) := by decide +kernel
theorem dX8_digest_261 : decode cX8_digest 261 = .ok (.ldc2_w 318, 3) := by decide +kernel
theorem dX8_digest_264 : decode cX8_digest 264 = .ok (.lload_n 1, 1) := by decide +kernel
theorem dX8_digest_265 : decode cX8_digest 265 = .ok (.lmul, 1) := by decide +kernel
theorem dX8_digest_266 : decode cX8_digest 266 = .ok (.aload_n 0, 1) := by decide +kernel
theorem dX8_digest_267 : decode cX8_digest 267 = .ok (.iload 4, 2) := by decide +kernel
theorem dX8_digest_269 : decode cX8_digest 269 = .ok (.iconst (-1), 1) := by decide +kernel
theorem dX8_digest_270 : decode cX8_digest 270 = .ok (.invokevirtual 350, 3) := by decide +kernel
theorem dX8_digest_273 : decode cX8_digest 273 = .ok (.i2l, 1) := by decide +kernel
theorem dX8_digest_274 : decode cX8_digest 274 = .ok (.ladd, 1) := by decide +kernel
theorem dX8_digest_275 : decode cX8_digest 275 = .ok (.lstore_n 1, 1) := by decide +kernel
theorem dX8_digest_276 : decode cX8_digest 276 = .ok (.ldc2_w 318, 3) := by decide +kernel
theorem dX8_digest_279 : decode cX8_digest 279 = .ok (.lload_n 1, 1) := by decide +kernel
theorem dX8_digest_280 : decode cX8_digest 280 = .ok (.lmul, 1) := by decide +kernel
theorem dX8_digest_281 : decode cX8_digest 281 = .ok (.aload_n 0, 1) := by decide +kernel
theorem dX8_digest_282 : decode cX8_digest 282 = .ok (.iload 4, 2) := by decide +kernel
theorem dX8_digest_284 : decode cX8_digest 284 = .ok (.iconst 0, 1) := by decide +kernel
theorem dX8_digest_285 : decode cX8_digest 285 = .ok (.invokevirtual 350, 3) := by decide +kernel
theorem dX8_digest_288 : decode cX8_digest 288 = .ok (.i2l, 1) := by decide +kernel
theorem dX8_digest_289 : decode cX8_digest 289 = .ok (.ladd, 1) := by decide +kernel
theorem dX8_digest_290 : decode cX8_digest 290 = .ok (.lstore_n 1, 1) := by decide +kernel
theorem dX8_digest_291 : decode cX8_digest 291 = .ok (.ldc2_w 318, 3) := by decide +kernel
theorem dX8_digest_294 : decode cX8_digest 294 = .ok (.lload_n 1, 1) := by decide +kernel
theorem dX8_digest_295 : decode cX8_digest 295 = .ok (.lmul, 1) := by decide +kernel
theorem dX8_digest_296 : decode cX8_digest 296 = .ok (.aload_n 0, 1) := by decide +kernel
theorem dX8_digest_297 : decode cX8_digest 297 = .ok (.iload 4, 2) := by decide +kernel
theorem dX8_digest_299 : decode cX8_digest 299 = .ok (.iconst (-1), 1) := by decide +kernel
theorem dX8_digest_300 : decode cX8_digest 300 = .ok (.invokevirtual 353, 3) := by decide +kernel
theorem dX8_digest_303 : decode cX8_digest 303 = .ok (.i2l, 1) := by decide +kernel
theorem dX8_digest_304 : decode cX8_digest 304 = .ok (.ladd, 1) := by decide +kernel
theorem dX8_digest_305 : decode cX8_digest 305 = .ok (.lstore_n 1, 1) := by decide +kernel
theorem dX8_digest_306 : decode cX8_digest 306 = .ok (.ldc2_w 318, 3) := by decide +kernel
theorem dX8_digest_309 : decode cX8_digest 309 = .ok (.lload_n 1, 1) := by decide +kernel
theorem dX8_digest_310 : decode cX8_digest 310 = .ok (.lmul, 1) := by decide +kernel
theorem dX8_digest_311 : decode cX8_digest 311 = .ok (.aload_n 0, 1) := by decide +kernel
theorem dX8_digest_312 : decode cX8_digest 312 = .ok (.iload 4, 2) := by decide +kernel
theorem dX8_digest_314 : decode cX8_digest 314 = .ok (.iconst 0, 1) := by decide +kernel
theorem dX8_digest_315 : decode cX8_digest 315 = .ok (.invokevirtual 353, 3) := by decide +kernel
theorem dX8_digest_318 : decode cX8_digest 318 = .ok (.i2l, 1) := by decide +kernel
theorem dX8_digest_319 : decode cX8_digest 319 = .ok (.ladd, 1) := by decide +kernel
theorem dX8_digest_320 : decode cX8_digest 320 = .ok (.lstore_n 1, 1) := by decide +kernel
theorem dX8_digest_321 : decode cX8_digest 321 = .ok (.ldc2_w 318, 3) := by decide +kernel
theorem dX8_digest_324 : decode cX8_digest 324 = .ok (.lload_n 1, 1) := by decide +kernel
theorem dX8_digest_325 : decode cX8_digest 325 = .ok (.lmul, 1) := by decide +kernel
theorem dX8_digest_326 : decode cX8_digest 326 = .ok (.aload_n 0, 1) := by decide +kernel
theorem dX8_digest_327 : decode cX8_digest 327 = .ok (.iload 4, 2) := by decide +kernel
theorem dX8_digest_329 : decode cX8_digest 329 = .ok (.invokevirtual 356, 3) := by decide +kernel
theorem dX8_digest_332 : decode cX8_digest 332 = .ok (.i2l, 1) := by decide +kernel
theorem dX8_digest_333 : decode cX8_digest 333 = .ok (.ladd, 1) := by decide +kernel
theorem dX8_digest_334 : decode cX8_digest 334 = .ok (.lstore_n 1, 1) := by decide +kernel
theorem dX8_digest_335 : decode cX8_digest 335 = .ok (.iinc 3 1, 3) := by decide +kernel
theorem dX8_digest_338 : decode cX8_digest 338 = .ok (.goto (-131), 3) := by decide +kernel
theorem dX8_digest_341 : decode cX8_digest 341 = .ok (.iconst 0, 1) := by decide +kernel
theorem dX8_digest_342 : decode cX8_digest 342 = .ok (.istore_n 3, 1) := by decide +kernel
theorem dX8_digest_343 : decode cX8_digest 343 = .ok (.iload_n 3, 1) := by decide +kernel
theorem dX8_digest_344 : decode cX8_digest 344 = .ok (.aload_n 0, 1) := by decide +kernel
theorem dX8_digest_345 : decode cX8_digest 345 = .ok (.getfield 24, 3) := by decide +kernel
theorem dX8_digest_348 : decode cX8_digest 348 = .ok (.getfield 150, 3) := by decide +kernel
theorem dX8_digest_351 : decode cX8_digest 351 = .ok (.getfield 154, 3) := by decide +kernel
theorem dX8_digest_354 : decode cX8_digest 354 = .ok (.if_icmp .ge 22, 3) := by decide +kernel
theorem dX8_digest_357 : decode cX8_digest 357 = .ok (.ldc2_w 318, 3) := by decide +kernel
theorem dX8_digest_360 : decode cX8_digest 360 = .ok (.lload_n 1, 1) := by decide +kernel
theorem dX8_digest_361 : decode cX8_digest 361 = .ok (.lmul, 1) := by decide +kernel
theorem dX8_digest_362 : decode cX8_digest 362 = .ok (.aload_n 0, 1) := by decide +kernel
theorem dX8_digest_363 : decode cX8_digest 363 = .ok (.iload_n 3, 1) := by decide +kernel
theorem dX8_digest_364 : decode cX8_digest 364 = .ok (.invokevirtual 359, 3) := by decide +kernel
theorem dX8_digest_367 : decode cX8_digest 367 = .ok (.i2l, 1) := by decide +kernel
theorem dX8_digest_368 : decode cX8_digest 368 = .ok (.ladd, 1) := by decide +kernel
theorem dX8_digest_369 : decode cX8_digest 369 = .ok (.lstore_n 1, 1) := by decide +kernel
theorem dX8_digest_370 : decode cX8_digest 370 = .ok (.iinc 3 1, 3) := by decide +kernel
theorem dX8_digest_373 : decode cX8_digest 373 = .ok (.goto (-30), 3) := by decide +kernel
theorem dX8_digest_376 : decode cX8_digest 376 = .ok (.ldc2_w 318, 3) := by decide +kernel
theorem dX8_digest_379 : decode cX8_digest 379 = .ok (.lload_n 1, 1) := by decide +kernel
theorem dX8_digest_380 : decode cX8_digest 380 = .ok (.lmul, 1) := by decide +kernel
theorem dX8_digest_381 : decode cX8_digest 381 = .ok (.aload_n 0, 1) := by decide +kernel
theorem dX8_digest_382 : decode cX8_digest 382 = .ok (.invokevirtual 251, 3) := by decide +kernel
theorem dX8_digest_385 : decode cX8_digest 385 = .ok (.i2l, 1) := by decide +kernel
theorem dX8_digest_386 : decode cX8_digest 386 = .ok (.ladd, 1) := by decide +kernel
theorem dX8_digest_387 : decode cX8_digest 387 = .ok (.lstore_n 1, 1) := by decide +kernel
theorem dX8_digest_388 : decode cX8_digest 388 = .ok (.ldc2_w 318, 3) := by decide +kernel
theorem dX8_digest_391 : decode cX8_digest 391 = .ok (.lload_n 1, 1) := by decide +kernel
theorem dX8_digest_392 : decode cX8_digest 392 = .ok (.lmul, 1) := by decide +kernel
theorem dX8_digest_393 : decode cX8_digest 393 = .ok (.aload_n 0, 1) := by decide +kernel
theorem dX8_digest_394 : decode cX8_digest 394 = .ok (.iconst 0, 1) := by decide +kernel
theorem dX8_digest_395 : decode cX8_digest 395 = .ok (.invokevirtual 362, 3) := by decide +kernel
theorem dX8_digest_398 : decode cX8_digest 398 = .ok (.i2l, 1) := by decide +kernel
theorem dX8_digest_399 : decode cX8_digest 399 = .ok (.ladd, 1) := by decide +kernel
theorem dX8_digest_400 : decode cX8_digest 400 = .ok (.lstore_n 1, 1) := by decide +kernel
theorem dX8_digest_401 : decode cX8_digest 401 = .ok (.ldc2_w 318, 3) := by decide +kernel
theorem dX8_digest_404 : decode cX8_digest 404 = .ok (.lload_n 1, 1) := by decide +kernel
theorem dX8_digest_405 : decode cX8_digest 405 = .ok (.lmul, 1) := by decide +kernel
theorem dX8_digest_406 : decode cX8_digest 406 = .ok (.aload_n 0, 1) := by decide +kernel
theorem dX8_digest_407 : decode cX8_digest 407 = .ok (.iconst 1, 1) := by decide +kernel
theorem dX8_digest_408 : decode cX8_digest 408 = .ok (.invokevirtual 362, 3) := by decide +kernel
theorem dX8_digest_411 : decode cX8_digest 411 = .ok (.i2l, 1) := by decide +kernel
theorem dX8_digest_412 : decode cX8_digest 412 = .ok (.ladd, 1) := by decide +kernel
theorem dX8_digest_413 : decode cX8_digest 413 = .ok (.lstore_n 1, 1) := by decide +kernel
theorem dX8_digest_414 : decode cX8_digest 414 = .ok (.ldc2_w 318, 3) := by decide +kernel
theorem dX8_digest_417 : decode cX8_digest 417 = .ok (.lload_n 1, 1) := by decide +kernel
theorem dX8_digest_418 : decode cX8_digest 418 = .ok (.lmul, 1) := by decide +kernel
theorem dX8_digest_419 : decode cX8_digest 419 = .ok (.aload_n 0, 1) := by decide +kernel
theorem dX8_digest_420 : decode cX8_digest 420 = .ok (.bipush 7, 2) := by decide +kernel
theorem dX8_digest_422 : decode cX8_digest 422 = .ok (.bipush 20, 2) := by decide +kernel
theorem dX8_digest_424 : decode cX8_digest 424 = .ok (.iconst (-1), 1) := by decide +kernel
theorem dX8_digest_425 : decode cX8_digest 425 = .ok (.invokevirtual 365, 3) := by decide +kernel
theorem dX8_digest_428 : decode cX8_digest 428 = .ok (.i2l, 1) := by decide +kernel
theorem dX8_digest_429 : decode cX8_digest 429 = .ok (.ladd, 1) := by decide +kernel
theorem dX8_digest_430 : decode cX8_digest 430 = .ok (.lreturn, 1) := by decide +kernel
theorem dX8_mixBottle_0 : decode cX8_mixBottle 0 = .ok (.lload_n 1, 1) := by decide +kernel
theorem dX8_mixBottle_1 : decode cX8_mixBottle 1 = .ok (.lstore 4, 2) := by decide +kernel
theorem dX8_mixBottle_3 : decode cX8_mixBottle 3 = .ok (.iconst 0, 1) := by decide +kernel
theorem dX8_mixBottle_4 : decode cX8_mixBottle 4 = .ok (.istore 6, 2) := by decide +kernel
theorem dX8_mixBottle_6 : decode cX8_mixBottle 6 = .ok (.iload 6, 2) := by decide +kernel
theorem dX8_mixBottle_8 : decode cX8_mixBottle 8 = .ok (.iconst 3, 1) := by decide +kernel
theorem dX8_mixBottle_9 : decode cX8_mixBottle 9 = .ok (.if_icmp .gt 26, 3) := by decide +kernel
theorem dX8_mixBottle_12 : decode cX8_mixBottle 12 = .ok (.ldc2_w 318, 3) := by decide +kernel
theorem dX8_mixBottle_15 : decode cX8_mixBottle 15 = .ok (.lload 4, 2) := by decide +kernel
theorem dX8_mixBottle_17 : decode cX8_mixBottle 17 = .ok (.lmul, 1) := by decide +kernel
theorem dX8_mixBottle_18 : decode cX8_mixBottle 18 = .ok (.aload_n 0, 1) := by decide +kernel
theorem dX8_mixBottle_19 : decode cX8_mixBottle 19 = .ok (.iload_n 3, 1) := by decide +kernel
theorem dX8_mixBottle_20 : decode cX8_mixBottle 20 = .ok (.iload 6, 2) := by decide +kernel
theorem dX8_mixBottle_22 : decode cX8_mixBottle 22 = .ok (.invokevirtual 368, 3) := by decide +kernel
theorem dX8_mixBottle_25 : decode cX8_mixBottle 25 = .ok (.i2l, 1) := by decide +kernel
theorem dX8_mixBottle_26 : decode cX8_mixBottle 26 = .ok (.ladd, 1) := by decide +kernel
theorem dX8_mixBottle_27 : decode cX8_mixBottle 27 = .ok (.lstore 4, 2) := by decide +kernel
theorem dX8_mixBottle_29 : decode cX8_mixBottle 29 = .ok (.iinc 6 1, 3) := by decide +kernel
theorem dX8_mixBottle_32 : decode cX8_mixBottle 32 = .ok (.goto (-26), 3) := by decide +kernel
theorem dX8_mixBottle_35 : decode cX8_mixBottle 35 = .ok (.ldc2_w 318, 3) := by decide +kernel
theorem dX8_mixBottle_38 : decode cX8_mixBottle 38 = .ok (.lload 4, 2) := by decide +kernel
theorem dX8_mixBottle_40 : decode cX8_mixBottle 40 = .ok (.lmul, 1) := by decide +kernel
theorem dX8_mixBottle_41 : decode cX8_mixBottle 41 = .ok (.aload_n 0, 1) := by decide +kernel
theorem dX8_mixBottle_42 : decode cX8_mixBottle 42 = .ok (.iconst 5, 1) := by decide +kernel
theorem dX8_mixBottle_43 : decode cX8_mixBottle 43 = .ok (.iload_n 3, 1) := by decide +kernel
theorem dX8_mixBottle_44 : decode cX8_mixBottle 44 = .ok (.iconst (-1), 1) := by decide +kernel
theorem dX8_mixBottle_45 : decode cX8_mixBottle 45 = .ok (.invokevirtual 370, 3) := by decide +kernel
theorem dX8_mixBottle_48 : decode cX8_mixBottle 48 = .ok (.i2l, 1) := by decide +kernel
theorem dX8_mixBottle_49 : decode cX8_mixBottle 49 = .ok (.ladd, 1) := by decide +kernel
theorem dX8_mixBottle_50 : decode cX8_mixBottle 50 = .ok (.lstore 4, 2) := by decide +kernel
theorem dX8_mixBottle_52 : decode cX8_mixBottle 52 = .ok (.ldc2_w 318, 3) := by decide +kernel
theorem dX8_mixBottle_55 : decode cX8_mixBottle 55 = .ok (.lload 4, 2) := by decide +kernel
theorem dX8_mixBottle_57 : decode cX8_mixBottle 57 = .ok (.lmul, 1) := by decide +kernel
theorem dX8_mixBottle_58 : decode cX8_mixBottle 58 = .ok (.aload_n 0, 1) := by decide +kernel
theorem dX8_mixBottle_59 : decode cX8_mixBottle 59 = .ok (.bipush 39, 2) := by decide +kernel
theorem dX8_mixBottle_61 : decode cX8_mixBottle 61 = .ok (.iload_n 3, 1) := by decide +kernel
theorem dX8_mixBottle_62 : decode cX8_mixBottle 62 = .ok (.iconst (-1), 1) := by decide +kernel
theorem dX8_mixBottle_63 : decode cX8_mixBottle 63 = .ok (.invokevirtual 370, 3) := by decide +kernel
theorem dX8_mixBottle_66 : decode cX8_mixBottle 66 = .ok (.i2l, 1) := by decide +kernel
theorem dX8_mixBottle_67 : decode cX8_mixBottle 67 = .ok (.ladd, 1) := by decide +kernel
theorem dX8_mixBottle_68 : decode cX8_mixBottle 68 = .ok (.lstore 4, 2) := by decide +kernel
theorem dX8_mixBottle_70 : decode cX8_mixBottle 70 = .ok (.ldc2_w 318, 3) := by decide +kernel
theorem dX8_mixBottle_73 : decode cX8_mixBottle 73 = .ok (.lload 4, 2) := by decide +kernel
theorem dX8_mixBottle_75 : decode cX8_mixBottle 75 = .ok (.lmul, 1) := by decide +kernel
theorem dX8_mixBottle_76 : decode cX8_mixBottle 76 = .ok (.aload_n 0, 1) := by decide +kernel
theorem dX8_mixBottle_77 : decode cX8_mixBottle 77 = .ok (.bipush 9, 2) := by decide +kernel
theorem dX8_mixBottle_79 : decode cX8_mixBottle 79 = .ok (.iload_n 3, 1) := by decide +kernel
theorem dX8_mixBottle_80 : decode cX8_mixBottle 80 = .ok (.invokevirtual 373, 3) := by decide +kernel
theorem dX8_mixBottle_83 : decode cX8_mixBottle 83 = .ok (.i2l, 1) := by decide +kernel
theorem dX8_mixBottle_84 : decode cX8_mixBottle 84 = .ok (.ladd, 1) := by decide +kernel
theorem dX8_mixBottle_85 : decode cX8_mixBottle 85 = .ok (.lstore 4, 2) := by decide +kernel
theorem dX8_mixBottle_87 : decode cX8_mixBottle 87 = .ok (.ldc2_w 318, 3) := by decide +kernel
theorem dX8_mixBottle_90 : decode cX8_mixBottle 90 = .ok (.lload 4, 2) := by decide +kernel
theorem dX8_mixBottle_92 : decode cX8_mixBottle 92 = .ok (.lmul, 1) := by decide +kernel
theorem dX8_mixBottle_93 : decode cX8_mixBottle 93 = .ok (.aload_n 0, 1) := by decide +kernel
theorem dX8_mixBottle_94 : decode cX8_mixBottle 94 = .ok (.bipush 39, 2) := by decide +kernel
theorem dX8_mixBottle_96 : decode cX8_mixBottle 96 = .ok (.iload_n 3, 1) := by decide +kernel
theorem dX8_mixBottle_97 : decode cX8_mixBottle 97 = .ok (.invokevirtual 376, 3) := by decide +kernel
theorem dX8_mixBottle_100 : decode cX8_mixBottle 100 = .ok (.i2l, 1) := by decide +kernel
theorem dX8_mixBottle_101 : decode cX8_mixBottle 101 = .ok (.ladd, 1) := by decide +kernel
theorem dX8_mixBottle_102 : decode cX8_mixBottle 102 = .ok (.lstore 4, 2) := by decide +kernel
theorem dX8_mixBottle_104 : decode cX8_mixBottle 104 = .ok (.ldc2_w 318, 3) := by decide +kernel
theorem dX8_mixBottle_107 : decode cX8_mixBottle 107 = .ok (.lload 4, 2) := by decide +kernel
theorem dX8_mixBottle_109 : decode cX8_mixBottle 109 = .ok (.lmul, 1) := by decide +kernel
theorem dX8_mixBottle_110 : decode cX8_mixBottle 110 = .ok (.aload_n 0, 1) := by decide +kernel
theorem dX8_mixBottle_111 : decode cX8_mixBottle 111 = .ok (.iconst 5, 1) := by decide +kernel
theorem dX8_mixBottle_112 : decode cX8_mixBottle 112 = .ok (.iload_n 3, 1) := by decide +kernel
theorem dX8_mixBottle_113 : decode cX8_mixBottle 113 = .ok (.bipush 6, 2) := by decide +kernel
theorem dX8_mixBottle_115 : decode cX8_mixBottle 115 = .ok (.iconst 0, 1) := by decide +kernel
theorem dX8_mixBottle_116 : decode cX8_mixBottle 116 = .ok (.invokevirtual 379, 3) := by decide +kernel
theorem dX8_mixBottle_119 : decode cX8_mixBottle 119 = .ok (.ladd, 1) := by decide +kernel
theorem dX8_mixBottle_120 : decode cX8_mixBottle 120 = .ok (.lstore 4, 2) := by decide +kernel
theorem dX8_mixBottle_122 : decode cX8_mixBottle 122 = .ok (.ldc2_w 318, 3) := by decide +kernel
theorem dX8_mixBottle_125 : decode cX8_mixBottle 125 = .ok (.lload 4, 2) := by decide +kernel
theorem dX8_mixBottle_127 : decode cX8_mixBottle 127 = .ok (.lmul, 1) := by decide +kernel
theorem dX8_mixBottle_128 : decode cX8_mixBottle 128 = .ok (.aload_n 0, 1) := by decide +kernel
theorem dX8_mixBottle_129 : decode cX8_mixBottle 129 = .ok (.iconst 5, 1) := by decide +kernel
theorem dX8_mixBottle_130 : decode cX8_mixBottle 130 = .ok (.iload_n 3, 1) := by decide +kernel
theorem dX8_mixBottle_131 : decode cX8_mixBottle 131 = .ok (.bipush 6, 2) := by decide +kernel
theorem dX8_mixBottle_133 : decode cX8_mixBottle 133 = .ok (.iconst 1, 1) := by decide +kernel
theorem dX8_mixBottle_134 : decode cX8_mixBottle 134 = .ok (.invokevirtual 379, 3) := by decide +kernel
theorem dX8_mixBottle_137 : decode cX8_mixBottle 137 = .ok (.ladd, 1) := by decide +kernel
theorem dX8_mixBottle_138 : decode cX8_mixBottle 138 = .ok (.lstore 4, 2) := by decide +kernel
theorem dX8_mixBottle_140 : decode cX8_mixBottle 140 = .ok (.ldc2_w 318, 3) := by decide +kernel
theorem dX8_mixBottle_143 : decode cX8_mixBottle 143 = .ok (.lload 4, 2) := by decide +kernel
theorem dX8_mixBottle_145 : decode cX8_mixBottle 145 = .ok (.lmul, 1) := by decide +kernel
theorem dX8_mixBottle_146 : decode cX8_mixBottle 146 = .ok (.aload_n 0, 1) := by decide +kernel
theorem dX8_mixBottle_147 : decode cX8_mixBottle 147 = .ok (.bipush 7, 2) := by decide +kernel
theorem dX8_mixBottle_149 : decode cX8_mixBottle 149 = .ok (.bipush 20, 2) := by decide +kernel
theorem dX8_mixBottle_151 : decode cX8_mixBottle 151 = .ok (.iload_n 3, 1) := by decide +kernel
theorem dX8_mixBottle_152 : decode cX8_mixBottle 152 = .ok (.invokevirtual 365, 3) := by decide +kernel
theorem dX8_mixBottle_155 : decode cX8_mixBottle 155 = .ok (.i2l, 1) := by decide +kernel
theorem dX8_mixBottle_156 : decode cX8_mixBottle 156 = .ok (.ladd, 1) := by decide +kernel
theorem dX8_mixBottle_157 : decode cX8_mixBottle 157 = .ok (.lreturn, 1) := by decide +kernel
theorem dX8_isWithin_0 : decode cX8_isWithin 0 = .ok (.iload_n 0, 1) := by decide +kernel
theorem dX8_isWithin_1 : decode cX8_isWithin 1 = .ok (.ifCond .lt 12, 3) := by decide +kernel
theorem dX8_isWithin_4 : decode cX8_isWithin 4 = .ok (.iload_n 0, 1) := by decide +kernel
theorem dX8_isWithin_5 : decode cX8_isWithin 5 = .ok (.iload_n 1, 1) := by decide +kernel
theorem dX8_isWithin_6 : decode cX8_isWithin 6 = .ok (.if_icmp .ge 7, 3) := by decide +kernel
theorem dX8_isWithin_9 : decode cX8_isWithin 9 = .ok (.iconst 1, 1) := by decide +kernel
theorem dX8_isWithin_10 : decode cX8_isWithin 10 = .ok (.goto 4, 3) := by decide +kernel
theorem dX8_isWithin_13 : decode cX8_isWithin 13 = .ok (.iconst 0, 1) := by decide +kernel
theorem dX8_isWithin_14 : decode cX8_isWithin 14 = .ok (.ireturn, 1) := by decide +kernel
theorem dX8_isBottle_0 : decode cX8_isBottle 0 = .ok (.iload_n 1, 1) := by decide +kernel
theorem dX8_isBottle_1 : decode cX8_isBottle 1 = .ok (.aload_n 0, 1) := by decide +kernel
theorem dX8_isBottle_2 : decode cX8_isBottle 2 = .ok (.getfield 24, 3) := by decide +kernel
theorem dX8_isBottle_5 : decode cX8_isBottle 5 = .ok (.getfield 112, 3) := by decide +kernel
theorem dX8_isBottle_8 : decode cX8_isBottle 8 = .ok (.getfield 242, 3) := by decide +kernel
theorem dX8_isBottle_11 : decode cX8_isBottle 11 = .ok (.invokestatic 81, 3) := by decide +kernel
theorem dX8_isBottle_14 : decode cX8_isBottle 14 = .ok (.ireturn, 1) := by decide +kernel
theorem dX8_textOf_0 : decode cX8_textOf 0 = .ok (.iload_n 1, 1) := by decide +kernel
theorem dX8_textOf_1 : decode cX8_textOf 1 = .ok (.ifCond .ne 10, 3) := by decide +kernel
theorem dX8_textOf_4 : decode cX8_textOf 4 = .ok (.aload_n 0, 1) := by decide +kernel
theorem dX8_textOf_5 : decode cX8_textOf 5 = .ok (.getfield 14, 3) := by decide +kernel
theorem dX8_textOf_8 : decode cX8_textOf 8 = .ok (.goto 7, 3) := by decide +kernel
theorem dX8_textOf_11 : decode cX8_textOf 11 = .ok (.aload_n 0, 1) := by decide +kernel
theorem dX8_textOf_12 : decode cX8_textOf 12 = .ok (.getfield 18, 3) := by decide +kernel
theorem dX8_textOf_15 : decode cX8_textOf 15 = .ok (.areturn, 1) := by decide +kernel
theorem dX8_takeTexts_0 : decode cX8_takeTexts 0 = .ok (.aload_n 0, 1) := by decide +kernel
theorem dX8_takeTexts_1 : decode cX8_takeTexts 1 = .ok (.getfield 24, 3) := by decide +kernel
theorem dX8_takeTexts_4 : decode cX8_takeTexts 4 = .ok (.getfield 112, 3) := by decide +kernel
theorem dX8_takeTexts_7 : decode cX8_takeTexts 7 = .ok (.aload_n 0, 1) := by decide +kernel
theorem dX8_takeTexts_8 : decode cX8_takeTexts 8 = .ok (.getfield 14, 3) := by decide +kernel
theorem dX8_takeTexts_11 : decode cX8_takeTexts 11 = .ok (.invokevirtual 383, 3) := by decide +kernel
theorem dX8_takeTexts_14 : decode cX8_takeTexts 14 = .ok (.aload_n 0, 1) := by decide +kernel
theorem dX8_takeTexts_15 : decode cX8_takeTexts 15 = .ok (.getfield 31, 3) := by decide +kernel
theorem dX8_takeTexts_18 : decode cX8_takeTexts 18 = .ok (.aload_n 0, 1) := by decide +kernel
theorem dX8_takeTexts_19 : decode cX8_takeTexts 19 = .ok (.getfield 18, 3) := by decide +kernel
theorem dX8_takeTexts_22 : decode cX8_takeTexts 22 = .ok (.invokevirtual 387, 3) := by decide +kernel
theorem dX8_takeTexts_25 : decode cX8_takeTexts 25 = .ok (.aload_n 0, 1) := by decide +kernel
theorem dX8_takeTexts_26 : decode cX8_takeTexts 26 = .ok (.invokevirtual 137, 3) := by decide +kernel
theorem dX8_takeTexts_29 : decode cX8_takeTexts 29 = .ok (.return_, 1) := by decide +kernel
theorem dX8_forgetDays_0 : decode cX8_forgetDays 0 = .ok (.aload_n 0, 1) := by decide +kernel
theorem dX8_forgetDays_1 : decode cX8_forgetDays 1 = .ok (.iconst 1, 1) := by decide +kernel
theorem dX8_forgetDays_2 : decode cX8_forgetDays 2 = .ok (.putfield 67, 3) := by decide +kernel
theorem dX8_forgetDays_5 : decode cX8_forgetDays 5 = .ok (.aload_n 0, 1) := by decide +kernel
theorem dX8_forgetDays_6 : decode cX8_forgetDays 6 = .ok (.iconst (-1), 1) := by decide +kernel
theorem dX8_forgetDays_7 : decode cX8_forgetDays 7 = .ok (.putfield 71, 3) := by decide +kernel
theorem dX8_forgetDays_10 : decode cX8_forgetDays 10 = .ok (.return_, 1) := by decide +kernel
theorem dX8_find_0 : decode cX8_find 0 = .ok (.aload_n 0, 1) := by decide +kernel
theorem dX8_find_1 : decode cX8_find 1 = .ok (.iload_n 1, 1) := by decide +kernel
theorem dX8_find_2 : decode cX8_find 2 = .ok (.putfield 78, 3) := by decide +kernel
theorem dX8_find_5 : decode cX8_find 5 = .ok (.bipush (-10), 2) := by decide +kernel
theorem dX8_find_7 : decode cX8_find 7 = .ok (.iload_n 1, 1) := by decide +kernel
theorem dX8_find_8 : decode cX8_find 8 = .ok (.isub, 1) := by decide +kernel
theorem dX8_find_9 : decode cX8_find 9 = .ok (.ireturn, 1) := by decide +kernel
theorem dX8_mayBeAct_0 : decode cX8_mayBeAct 0 = .ok (.iload_n 0, 1) := by decide +kernel
theorem dX8_mayBeAct_1 : decode cX8_mayBeAct 1 = .ok (.bipush 40, 2) := by decide +kernel
theorem dX8_mayBeAct_3 : decode cX8_mayBeAct 3 = .ok (.invokestatic 81, 3) := by decide +kernel
theorem dX8_mayBeAct_6 : decode cX8_mayBeAct 6 = .ok (.ifCond .eq 20, 3) := by decide +kernel
theorem dX8_mayBeAct_9 : decode cX8_mayBeAct 9 = .ok (.iload_n 1, 1) := by decide +kernel
theorem dX8_mayBeAct_10 : decode cX8_mayBeAct 10 = .ok (.iconst 4, 1) := by decide +kernel
theorem dX8_mayBeAct_11 : decode cX8_mayBeAct 11 = .ok (.invokestatic 81, 3) := by decide +kernel
theorem dX8_mayBeAct_14 : decode cX8_mayBeAct 14 = .ok (.ifCond .eq 12, 3) := by decide +kernel
theorem dX8_mayBeAct_17 : decode cX8_mayBeAct 17 = .ok (.iload_n 2, 1) := by decide +kernel
theorem dX8_mayBeAct_18 : decode cX8_mayBeAct 18 = .ok (.bipush 8, 2) := by decide +kernel
theorem dX8_mayBeAct_20 : decode cX8_mayBeAct 20 = .ok (.invokestatic 81, 3) := by decide +kernel
theorem dX8_mayBeAct_23 : decode cX8_mayBeAct 23 = .ok (.ifCond .ne 5, 3) := by decide +kernel
theorem dX8_mayBeAct_26 : decode cX8_mayBeAct 26 = .ok (.iconst 0, 1) := by decide +kernel
theorem dX8_mayBeAct_27 : decode cX8_mayBeAct 27 = .ok (.ireturn, 1) := by decide +kernel
theorem dX8_mayBeAct_28 : decode cX8_mayBeAct 28 = .ok (.iload_n 3, 1) := by decide +kernel
theorem dX8_mayBeAct_29 : decode cX8_mayBeAct 29 = .ok (.iload_n 1, 1) := by decide +kernel
theorem dX8_mayBeAct_30 : decode cX8_mayBeAct 30 = .ok (.ifCond .ne 8, 3) := by decide +kernel
theorem dX8_mayBeAct_33 : decode cX8_mayBeAct 33 = .ok (.bipush 6, 2) := by decide +kernel
theorem dX8_mayBeAct_35 : decode cX8_mayBeAct 35 = .ok (.goto 14, 3) := by decide +kernel
theorem dX8_mayBeAct_38 : decode cX8_mayBeAct 38 = .ok (.iload_n 1, 1) := by decide +kernel
theorem dX8_mayBeAct_39 : decode cX8_mayBeAct 39 = .ok (.iconst 1, 1) := by decide +kernel
theorem dX8_mayBeAct_40 : decode cX8_mayBeAct 40 = .ok (.if_icmp .ne 8, 3) := by decide +kernel
theorem dX8_mayBeAct_43 : decode cX8_mayBeAct 43 = .ok (.bipush 8, 2) := by decide +kernel
theorem dX8_mayBeAct_45 : decode cX8_mayBeAct 45 = .ok (.goto 4, 3) := by decide +kernel
theorem dX8_mayBeAct_48 : decode cX8_mayBeAct 48 = .ok (.iconst 1, 1) := by decide +kernel
theorem dX8_mayBeAct_49 : decode cX8_mayBeAct 49 = .ok (.invokestatic 81, 3) := by decide +kernel
theorem dX8_mayBeAct_52 : decode cX8_mayBeAct 52 = .ok (.ireturn, 1) := by decide +kernel
theorem dX8_behind_0 : decode cX8_behind 0 = .ok (.aload_n 0, 1) := by decide +kernel
theorem dX8_behind_1 : decode cX8_behind 1 = .ok (.getfield 67, 3) := by decide +kernel
theorem dX8_behind_4 : decode cX8_behind 4 = .ok (.ifCond .ne 14, 3) := by decide +kernel
theorem dX8_behind_7 : decode cX8_behind 7 = .ok (.aload_n 0, 1) := by decide +kernel
theorem dX8_behind_8 : decode cX8_behind 8 = .ok (.getfield 52, 3) := by decide +kernel
theorem dX8_behind_11 : decode cX8_behind 11 = .ok (.getfield 388, 3) := by decide +kernel
theorem dX8_behind_14 : decode cX8_behind 14 = .ok (.iload_n 1, 1) := by decide +kernel
theorem dX8_behind_15 : decode cX8_behind 15 = .ok (.if_icmp .le 24, 3) := by decide +kernel
theorem dX8_behind_18 : decode cX8_behind 18 = .ok (.aload_n 0, 1) := by decide +kernel
theorem dX8_behind_19 : decode cX8_behind 19 = .ok (.getfield 52, 3) := by decide +kernel
theorem dX8_behind_22 : decode cX8_behind 22 = .ok (.aload_n 0, 1) := by decide +kernel
theorem dX8_behind_23 : decode cX8_behind 23 = .ok (.getfield 24, 3) := by decide +kernel
theorem dX8_behind_26 : decode cX8_behind 26 = .ok (.getfield 112, 3) := by decide +kernel
theorem dX8_behind_29 : decode cX8_behind 29 = .ok (.iconst 0, 1) := by decide +kernel
theorem dX8_behind_30 : decode cX8_behind 30 = .ok (.iconst 0, 1) := by decide +kernel
theorem dX8_behind_31 : decode cX8_behind 31 = .ok (.invokevirtual 265, 3) := by decide +kernel
theorem dX8_behind_34 : decode cX8_behind 34 = .ok (.aload_n 0, 1) := by decide +kernel
theorem dX8_behind_35 : decode cX8_behind 35 = .ok (.iconst 0, 1) := by decide +kernel
theorem dX8_behind_36 : decode cX8_behind 36 = .ok (.putfield 67, 3) := by decide +kernel
theorem dX8_behind_39 : decode cX8_behind 39 = .ok (.aload_n 0, 1) := by decide +kernel
theorem dX8_behind_40 : decode cX8_behind 40 = .ok (.getfield 52, 3) := by decide +kernel
theorem dX8_behind_43 : decode cX8_behind 43 = .ok (.getfield 388, 3) := by decide +kernel
theorem dX8_behind_46 : decode cX8_behind 46 = .ok (.iconst 1, 1) := by decide +kernel
theorem dX8_behind_47 : decode cX8_behind 47 = .ok (.iadd, 1) := by decide +kernel
theorem dX8_behind_48 : decode cX8_behind 48 = .ok (.istore_n 2, 1) := by decide +kernel
theorem dX8_behind_49 : decode cX8_behind 49 = .ok (.iload_n 2, 1) := by decide +kernel
theorem dX8_behind_50 : decode cX8_behind 50 = .ok (.iload_n 1, 1) := by decide +kernel
theorem dX8_behind_51 : decode cX8_behind 51 = .ok (.if_icmp .gt 21, 3) := by decide +kernel
theorem dX8_behind_54 : decode cX8_behind 54 = .ok (.aload_n 0, 1) := by decide +kernel
theorem dX8_behind_55 : decode cX8_behind 55 = .ok (.getfield 52, 3) := by decide +kernel
theorem dX8_behind_58 : decode cX8_behind 58 = .ok (.aload_n 0, 1) := by decide +kernel
theorem dX8_behind_59 : decode cX8_behind 59 = .ok (.getfield 24, 3) := by decide +kernel
theorem dX8_behind_62 : decode cX8_behind 62 = .ok (.iconst (-1), 1) := by decide +kernel
theorem dX8_behind_63 : decode cX8_behind 63 = .ok (.invokevirtual 282, 3) := by decide +kernel
theorem dX8_behind_66 : decode cX8_behind 66 = .ok (.iinc 2 1, 3) := by decide +kernel
theorem dX8_behind_69 : decode cX8_behind 69 = .ok (.goto (-20), 3) := by decide +kernel
theorem dX8_behind_72 : decode cX8_behind 72 = .ok (.aload_n 0, 1) := by decide +kernel
theorem dX8_behind_73 : decode cX8_behind 73 = .ok (.getfield 52, 3) := by decide +kernel
theorem dX8_behind_76 : decode cX8_behind 76 = .ok (.areturn, 1) := by decide +kernel
theorem dX8_seekCorks_0 : decode cX8_seekCorks 0 = .ok (.iconst 0, 1) := by decide +kernel
theorem dX8_seekCorks_1 : decode cX8_seekCorks 1 = .ok (.istore_n 2, 1) := by decide +kernel
theorem dX8_seekCorks_2 : decode cX8_seekCorks 2 = .ok (.iload_n 2, 1) := by decide +kernel
theorem dX8_seekCorks_3 : decode cX8_seekCorks 3 = .ok (.iconst 3, 1) := by decide +kernel
theorem dX8_seekCorks_4 : decode cX8_seekCorks 4 = .ok (.if_icmp .gt 50, 3) := by decide +kernel
theorem dX8_seekCorks_7 : decode cX8_seekCorks 7 = .ok (.sipush 255, 3) := by decide +kernel
theorem dX8_seekCorks_10 : decode cX8_seekCorks 10 = .ok (.istore_n 3, 1) := by decide +kernel
theorem dX8_seekCorks_11 : decode cX8_seekCorks 11 = .ok (.iload_n 3, 1) := by decide +kernel
theorem dX8_seekCorks_12 : decode cX8_seekCorks 12 = .ok (.ifCond .lt 36, 3) := by decide +kernel
theorem dX8_seekCorks_15 : decode cX8_seekCorks 15 = .ok (.iload_n 3, 1) := by decide +kernel
theorem dX8_seekCorks_16 : decode cX8_seekCorks 16 = .ok (.invokestatic 234, 3) := by decide +kernel
theorem dX8_seekCorks_19 : decode cX8_seekCorks 19 = .ok (.iload_n 2, 1) := by decide +kernel
theorem dX8_seekCorks_20 : decode cX8_seekCorks 20 = .ok (.if_icmp .ne 22, 3) := by decide +kernel
theorem dX8_seekCorks_23 : decode cX8_seekCorks 23 = .ok (.aload_n 0, 1) := by decide +kernel
theorem dX8_seekCorks_24 : decode cX8_seekCorks 24 = .ok (.iload_n 3, 1) := by decide +kernel
theorem dX8_seekCorks_25 : decode cX8_seekCorks 25 = .ok (.invokevirtual 390, 3) := by decide +kernel
theorem dX8_seekCorks_28 : decode cX8_seekCorks 28 = .ok (.ifCond .eq 14, 3) := by decide +kernel
theorem dX8_seekCorks_31 : decode cX8_seekCorks 31 = .ok (.aload_n 0, 1) := by decide +kernel
theorem dX8_seekCorks_32 : decode cX8_seekCorks 32 = .ok (.iload_n 3, 1) := by decide +kernel
theorem dX8_seekCorks_33 : decode cX8_seekCorks 33 = .ok (.iload_n 1, 1) := by decide +kernel
theorem dX8_seekCorks_34 : decode cX8_seekCorks 34 = .ok (.invokevirtual 393, 3) := by decide +kernel
theorem dX8_seekCorks_37 : decode cX8_seekCorks 37 = .ok (.ifCond .eq 5, 3) := by decide +kernel
theorem dX8_seekCorks_40 : decode cX8_seekCorks 40 = .ok (.iload_n 3, 1) := by decide +kernel
theorem dX8_seekCorks_41 : decode cX8_seekCorks 41 = .ok (.ireturn, 1) := by decide +kernel
theorem dX8_seekCorks_42 : decode cX8_seekCorks 42 = .ok (.iinc 3 (-1), 3) := by decide +kernel
theorem dX8_seekCorks_45 : decode cX8_seekCorks 45 = .ok (.goto (-34), 3) := by decide +kernel
theorem dX8_seekCorks_48 : decode cX8_seekCorks 48 = .ok (.iinc 2 1, 3) := by decide +kernel
theorem dX8_seekCorks_51 : decode cX8_seekCorks 51 = .ok (.goto (-49), 3) := by decide +kernel
theorem dX8_seekCorks_54 : decode cX8_seekCorks 54 = .ok (.iconst (-1), 1) := by decide +kernel
theorem dX8_seekCorks_55 : decode cX8_seekCorks 55 = .ok (.ireturn, 1) := by decide +kernel
theorem dX8_areBottles_0 : decode cX8_areBottles 0 = .ok (.iload_n 1, 1) := by decide +kernel
theorem dX8_areBottles_1 : decode cX8_areBottles 1 = .ok (.sipush 255, 3) := by decide +kernel
theorem dX8_areBottles_4 : decode cX8_areBottles 4 = .ok (.aload_n 0, 1) := by decide +kernel
theorem dX8_areBottles_5 : decode cX8_areBottles 5 = .ok (.getfield 24, 3) := by decide +kernel
theorem dX8_areBottles_8 : decode cX8_areBottles 8 = .ok (.getfield 112, 3) := by decide +kernel
theorem dX8_areBottles_11 : decode cX8_areBottles 11 = .ok (.getfield 242, 3) := by decide +kernel
theorem dX8_areBottles_14 : decode cX8_areBottles 14 = .ok (.ishr, 1) := by decide +kernel
theorem dX8_areBottles_15 : decode cX8_areBottles 15 = .ok (.iand, 1) := by decide +kernel
theorem dX8_areBottles_16 : decode cX8_areBottles 16 = .ok (.ifCond .ne 7, 3) := by decide +kernel
theorem dX8_areBottles_19 : decode cX8_areBottles 19 = .ok (.iconst 1, 1) := by decide +kernel
theorem dX8_areBottles_20 : decode cX8_areBottles 20 = .ok (.goto 4, 3) := by decide +kernel
theorem dX8_areBottles_23 : decode cX8_areBottles 23 = .ok (.iconst 0, 1) := by decide +kernel
theorem dX8_areBottles_24 : decode cX8_areBottles 24 = .ok (.ireturn, 1) := by decide +kernel
theorem dX8_isAmong_0 : decode cX8_isAmong 0 = .ok (.iload_n 0, 1) := by decide +kernel
theorem dX8_isAmong_1 : decode cX8_isAmong 1 = .ok (.bipush 7, 2) := by decide +kernel
theorem dX8_isAmong_3 : decode cX8_isAmong 3 = .ok (.iload_n 1, 1) := by decide +kernel
theorem dX8_isAmong_4 : decode cX8_isAmong 4 = .ok (.isub, 1) := by decide +kernel
theorem dX8_isAmong_5 : decode cX8_isAmong 5 = .ok (.ishr, 1) := by decide +kernel
theorem dX8_isAmong_6 : decode cX8_isAmong 6 = .ok (.iconst 1, 1) := by decide +kernel
theorem dX8_isAmong_7 : decode cX8_isAmong 7 = .ok (.iand, 1) := by decide +kernel
theorem dX8_isAmong_8 : decode cX8_isAmong 8 = .ok (.iconst 1, 1) := by decide +kernel
theorem dX8_isAmong_9 : decode cX8_isAmong 9 = .ok (.if_icmp .ne 7, 3) := by decide +kernel
theorem dX8_isAmong_12 : decode cX8_isAmong 12 = .ok (.iconst 1, 1) := by decide +kernel
theorem dX8_isAmong_13 : decode cX8_isAmong 13 = .ok (.goto 4, 3) := by decide +kernel
theorem dX8_isAmong_16 : decode cX8_isAmong 16 = .ok (.iconst 0, 1) := by decide +kernel
theorem dX8_isAmong_17 : decode cX8_isAmong 17 = .ok (.ireturn, 1) := by decide +kernel
theorem dX8_singsCorked_0 : decode cX8_singsCorked 0 = .ok (.aload_n 0, 1) := by decide +kernel
theorem dX8_singsCorked_1 : decode cX8_singsCorked 1 = .ok (.getfield 56, 3) := by decide +kernel
theorem dX8_singsCorked_4 : decode cX8_singsCorked 4 = .ok (.aload_n 0, 1) := by decide +kernel
theorem dX8_singsCorked_5 : decode cX8_singsCorked 5 = .ok (.getfield 24, 3) := by decide +kernel
theorem dX8_singsCorked_8 : decode cX8_singsCorked 8 = .ok (.getfield 112, 3) := by decide +kernel
theorem dX8_singsCorked_11 : decode cX8_singsCorked 11 = .ok (.iconst 0, 1) := by decide +kernel
theorem dX8_singsCorked_12 : decode cX8_singsCorked 12 = .ok (.iconst 0, 1) := by decide +kernel
theorem dX8_singsCorked_13 : decode cX8_singsCorked 13 = .ok (.invokevirtual 265, 3) := by decide +kernel
theorem dX8_singsCorked_16 : decode cX8_singsCorked 16 = .ok (.iconst 0, 1) := by decide +kernel
theorem dX8_singsCorked_17 : decode cX8_singsCorked 17 = .ok (.istore_n 3, 1) := by decide +kernel
theorem dX8_singsCorked_18 : decode cX8_singsCorked 18 = .ok (.iload_n 3, 1) := by decide +kernel
theorem dX8_singsCorked_19 : decode cX8_singsCorked 19 = .ok (.bipush 8, 2) := by decide +kernel
theorem dX8_singsCorked_21 : decode cX8_singsCorked 21 = .ok (.if_icmp .ge 28, 3) := by decide +kernel
theorem dX8_singsCorked_24 : decode cX8_singsCorked 24 = .ok (.iload_n 1, 1) := by decide +kernel
theorem dX8_singsCorked_25 : decode cX8_singsCorked 25 = .ok (.iload_n 3, 1) := by decide +kernel
theorem dX8_singsCorked_26 : decode cX8_singsCorked 26 = .ok (.invokestatic 396, 3) := by decide +kernel
theorem dX8_singsCorked_29 : decode cX8_singsCorked 29 = .ok (.ifCond .eq 14, 3) := by decide +kernel
theorem dX8_singsCorked_32 : decode cX8_singsCorked 32 = .ok (.aload_n 0, 1) := by decide +kernel
theorem dX8_singsCorked_33 : decode cX8_singsCorked 33 = .ok (.getfield 56, 3) := by decide +kernel
theorem dX8_singsCorked_36 : decode cX8_singsCorked 36 = .ok (.getfield 399, 3) := by decide +kernel
theorem dX8_singsCorked_39 : decode cX8_singsCorked 39 = .ok (.iload_n 3, 1) := by decide +kernel
theorem dX8_singsCorked_40 : decode cX8_singsCorked 40 = .ok (.bipush 9, 2) := by decide +kernel
theorem dX8_singsCorked_42 : decode cX8_singsCorked 42 = .ok (.iastore, 1) := by decide +kernel
theorem dX8_singsCorked_43 : decode cX8_singsCorked 43 = .ok (.iinc 3 1, 3) := by decide +kernel
theorem dX8_singsCorked_46 : decode cX8_singsCorked 46 = .ok (.goto (-28), 3) := by decide +kernel
theorem dX8_singsCorked_49 : decode cX8_singsCorked 49 = .ok (.iconst 0, 1) := by decide +kernel
theorem dX8_singsCorked_50 : decode cX8_singsCorked 50 = .ok (.istore_n 3, 1) := by decide +kernel
theorem dX8_singsCorked_51 : decode cX8_singsCorked 51 = .ok (.iload_n 3, 1) := by decide +kernel
theorem dX8_singsCorked_52 : decode cX8_singsCorked 52 = .ok (.iload_n 2, 1) := by decide +kernel
theorem dX8_singsCorked_53 : decode cX8_singsCorked 53 = .ok (.if_icmp .gt 21, 3) := by decide +kernel
theorem dX8_singsCorked_56 : decode cX8_singsCorked 56 = .ok (.aload_n 0, 1) := by decide +kernel
theorem dX8_singsCorked_57 : decode cX8_singsCorked 57 = .ok (.getfield 56, 3) := by decide +kernel
theorem dX8_singsCorked_60 : decode cX8_singsCorked 60 = .ok (.aload_n 0, 1) := by decide +kernel
theorem dX8_singsCorked_61 : decode cX8_singsCorked 61 = .ok (.getfield 24, 3) := by decide +kernel
theorem dX8_singsCorked_64 : decode cX8_singsCorked 64 = .ok (.iconst (-1), 1) := by decide +kernel
theorem dX8_singsCorked_65 : decode cX8_singsCorked 65 = .ok (.invokevirtual 282, 3) := by decide +kernel
theorem dX8_singsCorked_68 : decode cX8_singsCorked 68 = .ok (.iinc 3 1, 3) := by decide +kernel
theorem dX8_singsCorked_71 : decode cX8_singsCorked 71 = .ok (.goto (-20), 3) := by decide +kernel
theorem dX8_singsCorked_74 : decode cX8_singsCorked 74 = .ok (.aload_n 0, 1) := by decide +kernel
theorem dX8_singsCorked_75 : decode cX8_singsCorked 75 = .ok (.getfield 31, 3) := by decide +kernel
theorem dX8_singsCorked_78 : decode cX8_singsCorked 78 = .ok (.aload_n 0, 1) := by decide +kernel
theorem dX8_singsCorked_79 : decode cX8_singsCorked 79 = .ok (.getfield 56, 3) := by decide +kernel
theorem dX8_singsCorked_82 : decode cX8_singsCorked 82 = .ok (.invokevirtual 400, 3) := by decide +kernel
theorem dX8_singsCorked_85 : decode cX8_singsCorked 85 = .ok (.aload_n 0, 1) := by decide +kernel
theorem dX8_singsCorked_86 : decode cX8_singsCorked 86 = .ok (.getfield 31, 3) := by decide +kernel
theorem dX8_singsCorked_89 : decode cX8_singsCorked 89 = .ok (.getfield 225, 3) := by decide +kernel
theorem dX8_singsCorked_92 : decode cX8_singsCorked 92 = .ok (.iconst (-1), 1) := by decide +kernel
theorem dX8_singsCorked_93 : decode cX8_singsCorked 93 = .ok (.if_icmp .eq 7, 3) := by decide +kernel
theorem dX8_singsCorked_96 : decode cX8_singsCorked 96 = .ok (.iconst 1, 1) := by decide +kernel
theorem dX8_singsCorked_97 : decode cX8_singsCorked 97 = .ok (.goto 4, 3) := by decide +kernel
theorem dX8_singsCorked_100 : decode cX8_singsCorked 100 = .ok (.iconst 0, 1) := by decide +kernel
theorem dX8_singsCorked_101 : decode cX8_singsCorked 101 = .ok (.ireturn, 1) := by decide +kernel
theorem dX8_corkedAt_0 : decode cX8_corkedAt 0 = .ok (.iconst 0, 1) := by decide +kernel
theorem dX8_corkedAt_1 : decode cX8_corkedAt 1 = .ok (.istore_n 2, 1) := by decide +kernel
theorem dX8_corkedAt_2 : decode cX8_corkedAt 2 = .ok (.iconst 0, 1) := by decide +kernel
theorem dX8_corkedAt_3 : decode cX8_corkedAt 3 = .ok (.istore_n 3, 1) := by decide +kernel
theorem dX8_corkedAt_4 : decode cX8_corkedAt 4 = .ok (.iload_n 3, 1) := by decide +kernel
theorem dX8_corkedAt_5 : decode cX8_corkedAt 5 = .ok (.bipush 8, 2) := by decide +kernel
theorem dX8_corkedAt_7 : decode cX8_corkedAt 7 = .ok (.if_icmp .ge 46, 3) := by decide +kernel
theorem dX8_corkedAt_10 : decode cX8_corkedAt 10 = .ok (.aload_n 0, 1) := by decide +kernel
theorem dX8_corkedAt_11 : decode cX8_corkedAt 11 = .ok (.getfield 75, 3) := by decide +kernel
theorem dX8_corkedAt_14 : decode cX8_corkedAt 14 = .ok (.iload_n 3, 1) := by decide +kernel
theorem dX8_corkedAt_15 : decode cX8_corkedAt 15 = .ok (.invokestatic 396, 3) := by decide +kernel
theorem dX8_corkedAt_18 : decode cX8_corkedAt 18 = .ok (.ifCond .eq 10, 3) := by decide +kernel
theorem dX8_corkedAt_21 : decode cX8_corkedAt 21 = .ok (.iload_n 2, 1) := by decide +kernel
theorem dX8_corkedAt_22 : decode cX8_corkedAt 22 = .ok (.iload_n 1, 1) := by decide +kernel
theorem dX8_corkedAt_23 : decode cX8_corkedAt 23 = .ok (.if_icmp .ne 5, 3) := by decide +kernel
theorem dX8_corkedAt_26 : decode cX8_corkedAt 26 = .ok (.iload_n 3, 1) := by decide +kernel
theorem dX8_corkedAt_27 : decode cX8_corkedAt 27 = .ok (.ireturn, 1) := by decide +kernel
theorem dX8_corkedAt_28 : decode cX8_corkedAt 28 = .ok (.iload_n 2, 1) := by decide +kernel
theorem dX8_corkedAt_29 : decode cX8_corkedAt 29 = .ok (.aload_n 0, 1) := by decide +kernel
theorem dX8_corkedAt_30 : decode cX8_corkedAt 30 = .ok (.getfield 75, 3) := by decide +kernel
theorem dX8_corkedAt_33 : decode cX8_corkedAt 33 = .ok (.iload_n 3, 1) := by decide +kernel
theorem dX8_corkedAt_34 : decode cX8_corkedAt 34 = .ok (.invokestatic 396, 3) := by decide +kernel
theorem dX8_corkedAt_37 : decode cX8_corkedAt 37 = .ok (.ifCond .eq 7, 3) := by decide +kernel
theorem dX8_corkedAt_40 : decode cX8_corkedAt 40 = .ok (.iconst 1, 1) := by decide +kernel
theorem dX8_corkedAt_41 : decode cX8_corkedAt 41 = .ok (.goto 4, 3) := by decide +kernel
theorem dX8_corkedAt_44 : decode cX8_corkedAt 44 = .ok (.iconst 0, 1) := by decide +kernel
theorem dX8_corkedAt_45 : decode cX8_corkedAt 45 = .ok (.iadd, 1) := by decide +kernel
theorem dX8_corkedAt_46 : decode cX8_corkedAt 46 = .ok (.istore_n 2, 1) := by decide +kernel
theorem dX8_corkedAt_47 : decode cX8_corkedAt 47 = .ok (.iinc 3 1, 3) := by decide +kernel
theorem dX8_corkedAt_50 : decode cX8_corkedAt 50 = .ok (.goto (-46), 3) := by decide +kernel
theorem dX8_corkedAt_53 : decode cX8_corkedAt 53 = .ok (.iconst (-1), 1) := by decide +kernel
theorem dX8_corkedAt_54 : decode cX8_corkedAt 54 = .ok (.ireturn, 1) := by decide +kernel
theorem dX8_comesOut_0 : decode cX8_comesOut 0 = .ok (.aload_n 0, 1) := by decide +kernel
theorem dX8_comesOut_1 : decode cX8_comesOut 1 = .ok (.getfield 38, 3) := by decide +kernel
theorem dX8_comesOut_4 : decode cX8_comesOut 4 = .ok (.invokevirtual 403, 3) := by decide +kernel
theorem dX8_comesOut_7 : decode cX8_comesOut 7 = .ok (.istore 4, 2) := by decide +kernel
theorem dX8_comesOut_9 : decode cX8_comesOut 9 = .ok (.aload_n 0, 1) := by decide +kernel
theorem dX8_comesOut_10 : decode cX8_comesOut 10 = .ok (.getfield 56, 3) := by decide +kernel
theorem dX8_comesOut_13 : decode cX8_comesOut 13 = .ok (.aload_n 0, 1) := by decide +kernel
theorem dX8_comesOut_14 : decode cX8_comesOut 14 = .ok (.getfield 24, 3) := by decide +kernel
theorem dX8_comesOut_17 : decode cX8_comesOut 17 = .ok (.getfield 112, 3) := by decide +kernel
theorem dX8_comesOut_20 : decode cX8_comesOut 20 = .ok (.iload_n 2, 1) := by decide +kernel
theorem dX8_comesOut_21 : decode cX8_comesOut 21 = .ok (.iload_n 3, 1) := by decide +kernel
theorem dX8_comesOut_22 : decode cX8_comesOut 22 = .ok (.invokevirtual 265, 3) := by decide +kernel
theorem dX8_comesOut_25 : decode cX8_comesOut 25 = .ok (.iconst 0, 1) := by decide +kernel
theorem dX8_comesOut_26 : decode cX8_comesOut 26 = .ok (.istore 5, 2) := by decide +kernel
theorem dX8_comesOut_28 : decode cX8_comesOut 28 = .ok (.iload 5, 2) := by decide +kernel
theorem dX8_comesOut_30 : decode cX8_comesOut 30 = .ok (.iload 4, 2) := by decide +kernel
theorem dX8_comesOut_32 : decode cX8_comesOut 32 = .ok (.if_icmp .gt 37, 3) := by decide +kernel
theorem dX8_comesOut_35 : decode cX8_comesOut 35 = .ok (.aload_n 0, 1) := by decide +kernel
theorem dX8_comesOut_36 : decode cX8_comesOut 36 = .ok (.getfield 56, 3) := by decide +kernel
theorem dX8_comesOut_39 : decode cX8_comesOut 39 = .ok (.aload_n 0, 1) := by decide +kernel
theorem dX8_comesOut_40 : decode cX8_comesOut 40 = .ok (.getfield 24, 3) := by decide +kernel
theorem dX8_comesOut_43 : decode cX8_comesOut 43 = .ok (.iload_n 1, 1) := by decide +kernel
theorem dX8_comesOut_44 : decode cX8_comesOut 44 = .ok (.invokevirtual 282, 3) := by decide +kernel
theorem dX8_comesOut_47 : decode cX8_comesOut 47 = .ok (.aload_n 0, 1) := by decide +kernel
theorem dX8_comesOut_48 : decode cX8_comesOut 48 = .ok (.getfield 38, 3) := by decide +kernel
theorem dX8_comesOut_51 : decode cX8_comesOut 51 = .ok (.aload_n 0, 1) := by decide +kernel
theorem dX8_comesOut_52 : decode cX8_comesOut 52 = .ok (.getfield 56, 3) := by decide +kernel
theorem dX8_comesOut_55 : decode cX8_comesOut 55 = .ok (.invokevirtual 406, 3) := by decide +kernel
theorem dX8_comesOut_58 : decode cX8_comesOut 58 = .ok (.ifCond .ne 5, 3) := by decide +kernel
theorem dX8_comesOut_61 : decode cX8_comesOut 61 = .ok (.iconst 0, 1) := by decide +kernel
theorem dX8_comesOut_62 : decode cX8_comesOut 62 = .ok (.ireturn, 1) := by decide +kernel
theorem dX8_comesOut_63 : decode cX8_comesOut 63 = .ok (.iinc 5 1, 3) := by decide +kernel
theorem dX8_comesOut_66 : decode cX8_comesOut 66 = .ok (.goto (-38), 3) := by decide +kernel
theorem dX8_comesOut_69 : decode cX8_comesOut 69 = .ok (.iconst 1, 1) := by decide +kernel
theorem dX8_comesOut_70 : decode cX8_comesOut 70 = .ok (.ireturn, 1) := by decide +kernel
theorem dX8_holdWithoutEach_0 : decode cX8_holdWithoutEach 0 = .ok (.iconst 0, 1) := by decide +kernel
theorem dX8_holdWithoutEach_1 : decode cX8_holdWithoutEach 1 = .ok (.istore_n 3, 1) := by decide +kernel
theorem dX8_holdWithoutEach_2 : decode cX8_holdWithoutEach 2 = .ok (.iload_n 3, 1) := by decide +kernel
theorem dX8_holdWithoutEach_3 : decode cX8_holdWithoutEach 3 = .ok (.aload_n 0, 1) := by decide +kernel
theorem dX8_holdWithoutEach_4 : decode cX8_holdWithoutEach 4 = .ok (.getfield 24, 3) := by decide +kernel
theorem dX8_holdWithoutEach_7 : decode cX8_holdWithoutEach 7 = .ok (.getfield 150, 3) := by decide +kernel
theorem dX8_holdWithoutEach_10 : decode cX8_holdWithoutEach 10 = .ok (.getfield 154, 3) := by decide +kernel
theorem dX8_holdWithoutEach_13 : decode cX8_holdWithoutEach 13 = .ok (.if_icmp .ge 108, 3) := by decide +kernel
theorem dX8_holdWithoutEach_16 : decode cX8_holdWithoutEach 16 = .ok (.iload_n 1, 1) := by decide +kernel
theorem dX8_holdWithoutEach_17 : decode cX8_holdWithoutEach 17 = .ok (.iload_n 3, 1) := by decide +kernel
theorem dX8_holdWithoutEach_18 : decode cX8_holdWithoutEach 18 = .ok (.ishr, 1) := by decide +kernel
theorem dX8_holdWithoutEach_19 : decode cX8_holdWithoutEach 19 = .ok (.iconst 1, 1) := by decide +kernel
theorem dX8_holdWithoutEach_20 : decode cX8_holdWithoutEach 20 = .ok (.iand, 1) := by decide +kernel
theorem dX8_holdWithoutEach_21 : decode cX8_holdWithoutEach 21 = .ok (.ifCond .ne 6, 3) := by decide +kernel
theorem dX8_holdWithoutEach_24 : decode cX8_holdWithoutEach 24 = .ok (.goto 91, 3) := by decide +kernel
theorem dX8_holdWithoutEach_27 : decode cX8_holdWithoutEach 27 = .ok (.aload_n 0, 1) := by decide +kernel
theorem dX8_holdWithoutEach_28 : decode cX8_holdWithoutEach 28 = .ok (.getfield 56, 3) := by decide +kernel
theorem dX8_holdWithoutEach_31 : decode cX8_holdWithoutEach 31 = .ok (.aload_n 0, 1) := by decide +kernel
theorem dX8_holdWithoutEach_32 : decode cX8_holdWithoutEach 32 = .ok (.getfield 24, 3) := by decide +kernel
theorem dX8_holdWithoutEach_35 : decode cX8_holdWithoutEach 35 = .ok (.getfield 112, 3) := by decide +kernel
theorem dX8_holdWithoutEach_38 : decode cX8_holdWithoutEach 38 = .ok (.iconst 0, 1) := by decide +kernel
theorem dX8_holdWithoutEach_39 : decode cX8_holdWithoutEach 39 = .ok (.iconst 0, 1) := by decide +kernel
theorem dX8_holdWithoutEach_40 : decode cX8_holdWithoutEach 40 = .ok (.invokevirtual 265, 3) := by decide +kernel
theorem dX8_holdWithoutEach_43 : decode cX8_holdWithoutEach 43 = .ok (.iconst 0, 1) := by decide +kernel
theorem dX8_holdWithoutEach_44 : decode cX8_holdWithoutEach 44 = .ok (.istore 4, 2) := by decide +kernel
theorem dX8_holdWithoutEach_46 : decode cX8_holdWithoutEach 46 = .ok (.iload 4, 2) := by decide +kernel
theorem dX8_holdWithoutEach_48 : decode cX8_holdWithoutEach 48 = .ok (.iload_n 2, 1) := by decide +kernel
theorem dX8_holdWithoutEach_49 : decode cX8_holdWithoutEach 49 = .ok (.if_icmp .gt 21, 3) := by decide +kernel
theorem dX8_holdWithoutEach_52 : decode cX8_holdWithoutEach 52 = .ok (.aload_n 0, 1) := by decide +kernel
theorem dX8_holdWithoutEach_53 : decode cX8_holdWithoutEach 53 = .ok (.getfield 56, 3) := by decide +kernel
theorem dX8_holdWithoutEach_56 : decode cX8_holdWithoutEach 56 = .ok (.aload_n 0, 1) := by decide +kernel
theorem dX8_holdWithoutEach_57 : decode cX8_holdWithoutEach 57 = .ok (.getfield 24, 3) := by decide +kernel
theorem dX8_holdWithoutEach_60 : decode cX8_holdWithoutEach 60 = .ok (.iload_n 3, 1) := by decide +kernel
theorem dX8_holdWithoutEach_61 : decode cX8_holdWithoutEach 61 = .ok (.invokevirtual 282, 3) := by decide +kernel
theorem dX8_holdWithoutEach_64 : decode cX8_holdWithoutEach 64 = .ok (.iinc 4 1, 3) := by decide +kernel
theorem dX8_holdWithoutEach_67 : decode cX8_holdWithoutEach 67 = .ok (.goto (-21), 3) := by decide +kernel
theorem dX8_holdWithoutEach_70 : decode cX8_holdWithoutEach 70 = .ok (.iconst 0, 1) := by decide +kernel
theorem dX8_holdWithoutEach_71 : decode cX8_holdWithoutEach 71 = .ok (.istore 4, 2) := by decide +kernel
theorem dX8_holdWithoutEach_73 : decode cX8_holdWithoutEach 73 = .ok (.iload 4, 2) := by decide +kernel
theorem dX8_holdWithoutEach_75 : decode cX8_holdWithoutEach 75 = .ok (.aload_n 0, 1) := by decide +kernel
theorem dX8_holdWithoutEach_76 : decode cX8_holdWithoutEach 76 = .ok (.getfield 24, 3) := by decide +kernel
theorem dX8_holdWithoutEach_79 : decode cX8_holdWithoutEach 79 = .ok (.getfield 112, 3) := by decide +kernel
theorem dX8_holdWithoutEach_82 : decode cX8_holdWithoutEach 82 = .ok (.getfield 242, 3) := by decide +kernel
theorem dX8_holdWithoutEach_85 : decode cX8_holdWithoutEach 85 = .ok (.if_icmp .ge 30, 3) := by decide +kernel
theorem dX8_holdWithoutEach_88 : decode cX8_holdWithoutEach 88 = .ok (.aload_n 0, 1) := by decide +kernel
theorem dX8_holdWithoutEach_89 : decode cX8_holdWithoutEach 89 = .ok (.getfield 63, 3) := by decide +kernel
theorem dX8_holdWithoutEach_92 : decode cX8_holdWithoutEach 92 = .ok (.bipush 8, 2) := by decide +kernel
theorem dX8_holdWithoutEach_94 : decode cX8_holdWithoutEach 94 = .ok (.iload_n 3, 1) := by decide +kernel
theorem dX8_holdWithoutEach_95 : decode cX8_holdWithoutEach 95 = .ok (.imul, 1) := by decide +kernel
theorem dX8_holdWithoutEach_96 : decode cX8_holdWithoutEach 96 = .ok (.iload 4, 2) := by decide +kernel
theorem dX8_holdWithoutEach_98 : decode cX8_holdWithoutEach 98 = .ok (.iadd, 1) := by decide +kernel
theorem dX8_holdWithoutEach_99 : decode cX8_holdWithoutEach 99 = .ok (.aload_n 0, 1) := by decide +kernel
theorem dX8_holdWithoutEach_100 : decode cX8_holdWithoutEach 100 = .ok (.getfield 56, 3) := by decide +kernel
theorem dX8_holdWithoutEach_103 : decode cX8_holdWithoutEach 103 = .ok (.iload 4, 2) := by decide +kernel
theorem dX8_holdWithoutEach_105 : decode cX8_holdWithoutEach 105 = .ok (.invokevirtual 190, 3) := by decide +kernel
theorem dX8_holdWithoutEach_108 : decode cX8_holdWithoutEach 108 = .ok (.iastore, 1) := by decide +kernel
theorem dX8_holdWithoutEach_109 : decode cX8_holdWithoutEach 109 = .ok (.iinc 4 1, 3) := by decide +kernel
theorem dX8_holdWithoutEach_112 : decode cX8_holdWithoutEach 112 = .ok (.goto (-39), 3) := by decide +kernel
theorem dX8_holdWithoutEach_115 : decode cX8_holdWithoutEach 115 = .ok (.iinc 3 1, 3) := by decide +kernel
theorem dX8_holdWithoutEach_118 : decode cX8_holdWithoutEach 118 = .ok (.goto (-116), 3) := by decide +kernel
theorem dX8_holdWithoutEach_121 : decode cX8_holdWithoutEach 121 = .ok (.return_, 1) := by decide +kernel
theorem dX8_mostAlike_0 : decode cX8_mostAlike 0 = .ok (.iconst 0, 1) := by decide +kernel
theorem dX8_mostAlike_1 : decode cX8_mostAlike 1 = .ok (.istore_n 3, 1) := by decide +kernel
theorem dX8_mostAlike_2 : decode cX8_mostAlike 2 = .ok (.iconst 0, 1) := by decide +kernel
theorem dX8_mostAlike_3 : decode cX8_mostAlike 3 = .ok (.istore 4, 2) := by decide +kernel
theorem dX8_mostAlike_5 : decode cX8_mostAlike 5 = .ok (.iload 4, 2) := by decide +kernel
theorem dX8_mostAlike_7 : decode cX8_mostAlike 7 = .ok (.bipush 16, 2) := by decide +kernel
theorem dX8_mostAlike_9 : decode cX8_mostAlike 9 = .ok (.if_icmp .ge 92, 3) := by decide +kernel
theorem dX8_mostAlike_12 : decode cX8_mostAlike 12 = .ok (.iconst 0, 1) := by decide +kernel
theorem dX8_mostAlike_13 : decode cX8_mostAlike 13 = .ok (.istore 5, 2) := by decide +kernel
theorem dX8_mostAlike_15 : decode cX8_mostAlike 15 = .ok (.iconst 0, 1) := by decide +kernel
theorem dX8_mostAlike_16 : decode cX8_mostAlike 16 = .ok (.istore 6, 2) := by decide +kernel
theorem dX8_mostAlike_18 : decode cX8_mostAlike 18 = .ok (.iload 6, 2) := by decide +kernel
theorem dX8_mostAlike_20 : decode cX8_mostAlike 20 = .ok (.bipush 16, 2) := by decide +kernel
theorem dX8_mostAlike_22 : decode cX8_mostAlike 22 = .ok (.if_icmp .ge 66, 3) := by decide +kernel
theorem dX8_mostAlike_25 : decode cX8_mostAlike 25 = .ok (.iload_n 1, 1) := by decide +kernel
theorem dX8_mostAlike_26 : decode cX8_mostAlike 26 = .ok (.iload 4, 2) := by decide +kernel
theorem dX8_mostAlike_28 : decode cX8_mostAlike 28 = .ok (.ishr, 1) := by decide +kernel
theorem dX8_mostAlike_29 : decode cX8_mostAlike 29 = .ok (.iload_n 1, 1) := by decide +kernel
theorem dX8_mostAlike_30 : decode cX8_mostAlike 30 = .ok (.iload 6, 2) := by decide +kernel
theorem dX8_mostAlike_32 : decode cX8_mostAlike 32 = .ok (.ishr, 1) := by decide +kernel
theorem dX8_mostAlike_33 : decode cX8_mostAlike 33 = .ok (.iand, 1) := by decide +kernel
theorem dX8_mostAlike_34 : decode cX8_mostAlike 34 = .ok (.iconst 1, 1) := by decide +kernel
theorem dX8_mostAlike_35 : decode cX8_mostAlike 35 = .ok (.iand, 1) := by decide +kernel
theorem dX8_mostAlike_36 : decode cX8_mostAlike 36 = .ok (.iconst 1, 1) := by decide +kernel
theorem dX8_mostAlike_37 : decode cX8_mostAlike 37 = .ok (.if_icmp .ne 7, 3) := by decide +kernel
theorem dX8_mostAlike_40 : decode cX8_mostAlike 40 = .ok (.iconst 1, 1) := by decide +kernel
theorem dX8_mostAlike_41 : decode cX8_mostAlike 41 = .ok (.goto 4, 3) := by decide +kernel
theorem dX8_mostAlike_44 : decode cX8_mostAlike 44 = .ok (.iconst 0, 1) := by decide +kernel
theorem dX8_mostAlike_45 : decode cX8_mostAlike 45 = .ok (.istore 7, 2) := by decide +kernel
theorem dX8_mostAlike_47 : decode cX8_mostAlike 47 = .ok (.iload 7, 2) := by decide +kernel
theorem dX8_mostAlike_49 : decode cX8_mostAlike 49 = .ok (.ifCond .eq 33, 3) := by decide +kernel
theorem dX8_mostAlike_52 : decode cX8_mostAlike 52 = .ok (.aload_n 0, 1) := by decide +kernel
theorem dX8_mostAlike_53 : decode cX8_mostAlike 53 = .ok (.getfield 63, 3) := by decide +kernel
theorem dX8_mostAlike_56 : decode cX8_mostAlike 56 = .ok (.bipush 8, 2) := by decide +kernel
theorem dX8_mostAlike_58 : decode cX8_mostAlike 58 = .ok (.iload 4, 2) := by decide +kernel
theorem dX8_mostAlike_60 : decode cX8_mostAlike 60 = .ok (.imul, 1) := by decide +kernel
theorem dX8_mostAlike_61 : decode cX8_mostAlike 61 = .ok (.iload_n 2, 1) := by decide +kernel
theorem dX8_mostAlike_62 : decode cX8_mostAlike 62 = .ok (.iadd, 1) := by decide +kernel
theorem dX8_mostAlike_63 : decode cX8_mostAlike 63 = .ok (.iaload, 1) := by decide +kernel
theorem dX8_mostAlike_64 : decode cX8_mostAlike 64 = .ok (.aload_n 0, 1) := by decide +kernel
theorem dX8_mostAlike_65 : decode cX8_mostAlike 65 = .ok (.getfield 63, 3) := by decide +kernel
theorem dX8_mostAlike_68 : decode cX8_mostAlike 68 = .ok (.bipush 8, 2) := by decide +kernel
theorem dX8_mostAlike_70 : decode cX8_mostAlike 70 = .ok (.iload 6, 2) := by decide +kernel
theorem dX8_mostAlike_72 : decode cX8_mostAlike 72 = .ok (.imul, 1) := by decide +kernel
theorem dX8_mostAlike_73 : decode cX8_mostAlike 73 = .ok (.iload_n 2, 1) := by decide +kernel
theorem dX8_mostAlike_74 : decode cX8_mostAlike 74 = .ok (.iadd, 1) := by decide +kernel
theorem dX8_mostAlike_75 : decode cX8_mostAlike 75 = .ok (.iaload, 1) := by decide +kernel
theorem dX8_mostAlike_76 : decode cX8_mostAlike 76 = .ok (.if_icmp .ne 6, 3) := by decide +kernel
theorem dX8_mostAlike_79 : decode cX8_mostAlike 79 = .ok (.iinc 5 1, 3) := by decide +kernel
theorem dX8_mostAlike_82 : decode cX8_mostAlike 82 = .ok (.iinc 6 1, 3) := by decide +kernel
theorem dX8_mostAlike_85 : decode cX8_mostAlike 85 = .ok (.goto (-67), 3) := by decide +kernel
theorem dX8_mostAlike_88 : decode cX8_mostAlike 88 = .ok (.iload_n 3, 1) := by decide +kernel
theorem dX8_mostAlike_89 : decode cX8_mostAlike 89 = .ok (.iload 5, 2) := by decide +kernel
theorem dX8_mostAlike_91 : decode cX8_mostAlike 91 = .ok (.invokestatic 410, 3) := by decide +kernel
theorem dX8_mostAlike_94 : decode cX8_mostAlike 94 = .ok (.istore_n 3, 1) := by decide +kernel
theorem dX8_mostAlike_95 : decode cX8_mostAlike 95 = .ok (.iinc 4 1, 3) := by decide +kernel
theorem dX8_mostAlike_98 : decode cX8_mostAlike 98 = .ok (.goto (-93), 3) := by decide +kernel
theorem dX8_mostAlike_101 : decode cX8_mostAlike 101 = .ok (.iload_n 3, 1) := by decide +kernel
theorem dX8_mostAlike_102 : decode cX8_mostAlike 102 = .ok (.ireturn, 1) := by decide +kernel
theorem dX8_wholeWays_0 : decode cX8_wholeWays 0 = .ok (.iload_n 2, 1) := by decide +kernel
theorem dX8_wholeWays_1 : decode cX8_wholeWays 1 = .ok (.aload_n 0, 1) := by decide +kernel
theorem dX8_wholeWays_2 : decode cX8_wholeWays 2 = .ok (.arraylength, 1) := by decide +kernel
theorem dX8_wholeWays_3 : decode cX8_wholeWays 3 = .ok (.invokestatic 81, 3) := by decide +kernel
theorem dX8_wholeWays_6 : decode cX8_wholeWays 6 = .ok (.ifCond .eq 14, 3) := by decide +kernel
theorem dX8_wholeWays_9 : decode cX8_wholeWays 9 = .ok (.aload_n 0, 1) := by decide +kernel
theorem dX8_wholeWays_10 : decode cX8_wholeWays 10 = .ok (.iload_n 2, 1) := by decide +kernel
theorem dX8_wholeWays_11 : decode cX8_wholeWays 11 = .ok (.aaload, 1) := by decide +kernel
theorem dX8_wholeWays_12 : decode cX8_wholeWays 12 = .ok (.iload 5, 2) := by decide +kernel
theorem dX8_wholeWays_14 : decode cX8_wholeWays 14 = .ok (.invokevirtual 200, 3) := by decide +kernel
theorem dX8_wholeWays_17 : decode cX8_wholeWays 17 = .ok (.ifCond .ne 5, 3) := by decide +kernel
theorem dX8_wholeWays_20 : decode cX8_wholeWays 20 = .ok (.lconst 0, 1) := by decide +kernel
theorem dX8_wholeWays_21 : decode cX8_wholeWays 21 = .ok (.lreturn, 1) := by decide +kernel
theorem dX8_wholeWays_22 : decode cX8_wholeWays 22 = .ok (.iload_n 2, 1) := by decide +kernel
theorem dX8_wholeWays_23 : decode cX8_wholeWays 23 = .ok (.iload_n 3, 1) := by decide +kernel
theorem dX8_wholeWays_24 : decode cX8_wholeWays 24 = .ok (.if_icmp .gt 11, 3) := by decide +kernel
theorem dX8_wholeWays_27 : decode cX8_wholeWays 27 = .ok (.iload_n 2, 1) := by decide +kernel
theorem dX8_wholeWays_28 : decode cX8_wholeWays 28 = .ok (.iconst 1, 1) := by decide +kernel
theorem dX8_wholeWays_29 : decode cX8_wholeWays 29 = .ok (.iadd, 1) := by decide +kernel
theorem dX8_wholeWays_30 : decode cX8_wholeWays 30 = .ok (.aload_n 0, 1) := by decide +kernel
theorem dX8_wholeWays_31 : decode cX8_wholeWays 31 = .ok (.arraylength, 1) := by decide +kernel
theorem dX8_wholeWays_32 : decode cX8_wholeWays 32 = .ok (.if_icmp .lt 5, 3) := by decide +kernel
theorem dX8_wholeWays_35 : decode cX8_wholeWays 35 = .ok (.lconst 1, 1) := by decide +kernel
theorem dX8_wholeWays_36 : decode cX8_wholeWays 36 = .ok (.lreturn, 1) := by decide +kernel
theorem dX8_wholeWays_37 : decode cX8_wholeWays 37 = .ok (.aload_n 0, 1) := by decide +kernel
theorem dX8_wholeWays_38 : decode cX8_wholeWays 38 = .ok (.iload_n 2, 1) := by decide +kernel
theorem dX8_wholeWays_39 : decode cX8_wholeWays 39 = .ok (.iconst 1, 1) := by decide +kernel
theorem dX8_wholeWays_40 : decode cX8_wholeWays 40 = .ok (.iadd, 1) := by decide +kernel
theorem dX8_wholeWays_41 : decode cX8_wholeWays 41 = .ok (.aaload, 1) := by decide +kernel
theorem dX8_wholeWays_42 : decode cX8_wholeWays 42 = .ok (.astore 6, 2) := by decide +kernel
theorem dX8_wholeWays_44 : decode cX8_wholeWays 44 = .ok (.aload 6, 2) := by decide +kernel
theorem dX8_wholeWays_46 : decode cX8_wholeWays 46 = .ok (.aload_n 0, 1) := by decide +kernel
theorem dX8_wholeWays_47 : decode cX8_wholeWays 47 = .ok (.iload_n 2, 1) := by decide +kernel
theorem dX8_wholeWays_48 : decode cX8_wholeWays 48 = .ok (.aaload, 1) := by decide +kernel
theorem dX8_wholeWays_49 : decode cX8_wholeWays 49 = .ok (.invokevirtual 413, 3) := by decide +kernel
theorem dX8_wholeWays_52 : decode cX8_wholeWays 52 = .ok (.aload 6, 2) := by decide +kernel
theorem dX8_wholeWays_54 : decode cX8_wholeWays 54 = .ok (.aload_n 1, 1) := by decide +kernel
theorem dX8_wholeWays_55 : decode cX8_wholeWays 55 = .ok (.getfield 150, 3) := by decide +kernel
theorem dX8_wholeWays_58 : decode cX8_wholeWays 58 = .ok (.iconst (-1), 1) := by decide +kernel
theorem dX8_wholeWays_59 : decode cX8_wholeWays 59 = .ok (.invokevirtual 416, 3) := by decide +kernel
theorem dX8_wholeWays_62 : decode cX8_wholeWays 62 = .ok (.aload 6, 2) := by decide +kernel
theorem dX8_wholeWays_64 : decode cX8_wholeWays 64 = .ok (.aload_n 1, 1) := by decide +kernel
theorem dX8_wholeWays_65 : decode cX8_wholeWays 65 = .ok (.getfield 134, 3) := by decide +kernel
theorem dX8_wholeWays_68 : decode cX8_wholeWays 68 = .ok (.invokevirtual 420, 3) := by decide +kernel
theorem dX8_wholeWays_71 : decode cX8_wholeWays 71 = .ok (.istore 7, 2) := by decide +kernel
theorem dX8_wholeWays_73 : decode cX8_wholeWays 73 = .ok (.iload 7, 2) := by decide +kernel
theorem dX8_wholeWays_75 : decode cX8_wholeWays 75 = .ok (.ifCond .ne 21, 3) := by decide +kernel
theorem dX8_wholeWays_78 : decode cX8_wholeWays 78 = .ok (.ldc2_w 423, 3) := by decide +kernel
theorem dX8_wholeWays_81 : decode cX8_wholeWays 81 = .ok (.aload_n 0, 1) := by decide +kernel
theorem dX8_wholeWays_82 : decode cX8_wholeWays 82 = .ok (.aload_n 1, 1) := by decide +kernel
theorem dX8_wholeWays_83 : decode cX8_wholeWays 83 = .ok (.iload_n 2, 1) := by decide +kernel
theorem dX8_wholeWays_84 : decode cX8_wholeWays 84 = .ok (.iconst 1, 1) := by decide +kernel
theorem dX8_wholeWays_85 : decode cX8_wholeWays 85 = .ok (.iadd, 1) := by decide +kernel
theorem dX8_wholeWays_86 : decode cX8_wholeWays 86 = .ok (.iload_n 3, 1) := by decide +kernel
theorem dX8_wholeWays_87 : decode cX8_wholeWays 87 = .ok (.iload 4, 2) := by decide +kernel
theorem dX8_wholeWays_89 : decode cX8_wholeWays 89 = .ok (.iload 5, 2) := by decide +kernel
theorem dX8_wholeWays_91 : decode cX8_wholeWays 91 = .ok (.invokestatic 269, 3) := by decide +kernel
theorem dX8_wholeWays_94 : decode cX8_wholeWays 94 = .ok (.lmul, 1) := by decide +kernel
theorem dX8_wholeWays_95 : decode cX8_wholeWays 95 = .ok (.lreturn, 1) := by decide +kernel
theorem dX8_wholeWays_96 : decode cX8_wholeWays 96 = .ok (.bipush 16, 2) := by decide +kernel
theorem dX8_wholeWays_98 : decode cX8_wholeWays 98 = .ok (.iload 4, 2) := by decide +kernel
theorem dX8_wholeWays_100 : decode cX8_wholeWays 100 = .ok (.isub, 1) := by decide +kernel
theorem dX8_wholeWays_101 : decode cX8_wholeWays 101 = .ok (.i2l, 1) := by decide +kernel
theorem dX8_wholeWays_102 : decode cX8_wholeWays 102 = .ok (.aload_n 0, 1) := by decide +kernel
theorem dX8_wholeWays_103 : decode cX8_wholeWays 103 = .ok (.aload_n 1, 1) := by decide +kernel
theorem dX8_wholeWays_104 : decode cX8_wholeWays 104 = .ok (.iload_n 2, 1) := by decide +kernel
theorem dX8_wholeWays_105 : decode cX8_wholeWays 105 = .ok (.iconst 1, 1) := by decide +kernel
theorem dX8_wholeWays_106 : decode cX8_wholeWays 106 = .ok (.iadd, 1) := by decide +kernel
theorem dX8_wholeWays_107 : decode cX8_wholeWays 107 = .ok (.iload_n 3, 1) := by decide +kernel
theorem dX8_wholeWays_108 : decode cX8_wholeWays 108 = .ok (.iload 4, 2) := by decide +kernel
theorem dX8_wholeWays_110 : decode cX8_wholeWays 110 = .ok (.iload 5, 2) := by decide +kernel
theorem dX8_wholeWays_112 : decode cX8_wholeWays 112 = .ok (.invokestatic 269, 3) := by decide +kernel
theorem dX8_wholeWays_115 : decode cX8_wholeWays 115 = .ok (.lmul, 1) := by decide +kernel
theorem dX8_wholeWays_116 : decode cX8_wholeWays 116 = .ok (.lstore 8, 2) := by decide +kernel
theorem dX8_wholeWays_118 : decode cX8_wholeWays 118 = .ok (.aload 6, 2) := by decide +kernel
theorem dX8_wholeWays_120 : decode cX8_wholeWays 120 = .ok (.iload 7, 2) := by decide +kernel
theorem dX8_wholeWays_122 : decode cX8_wholeWays 122 = .ok (.invokevirtual 425, 3) := by decide +kernel
theorem dX8_wholeWays_125 : decode cX8_wholeWays 125 = .ok (.lload 8, 2) := by decide +kernel
theorem dX8_wholeWays_127 : decode cX8_wholeWays 127 = .ok (.iload 4, 2) := by decide +kernel
theorem dX8_wholeWays_129 : decode cX8_wholeWays 129 = .ok (.i2l, 1) := by decide +kernel
theorem dX8_wholeWays_130 : decode cX8_wholeWays 130 = .ok (.aload_n 0, 1) := by decide +kernel
theorem dX8_wholeWays_131 : decode cX8_wholeWays 131 = .ok (.aload_n 1, 1) := by decide +kernel
theorem dX8_wholeWays_132 : decode cX8_wholeWays 132 = .ok (.iload_n 2, 1) := by decide +kernel
theorem dX8_wholeWays_133 : decode cX8_wholeWays 133 = .ok (.iconst 1, 1) := by decide +kernel
theorem dX8_wholeWays_134 : decode cX8_wholeWays 134 = .ok (.iadd, 1) := by decide +kernel
theorem dX8_wholeWays_135 : decode cX8_wholeWays 135 = .ok (.iload_n 3, 1) := by decide +kernel
theorem dX8_wholeWays_136 : decode cX8_wholeWays 136 = .ok (.iload 4, 2) := by decide +kernel
theorem dX8_wholeWays_138 : decode cX8_wholeWays 138 = .ok (.iload 5, 2) := by decide +kernel
theorem dX8_wholeWays_140 : decode cX8_wholeWays 140 = .ok (.invokestatic 269, 3) := by decide +kernel
theorem dX8_wholeWays_143 : decode cX8_wholeWays 143 = .ok (.lmul, 1) := by decide +kernel
theorem dX8_wholeWays_144 : decode cX8_wholeWays 144 = .ok (.ladd, 1) := by decide +kernel
theorem dX8_wholeWays_145 : decode cX8_wholeWays 145 = .ok (.lreturn, 1) := by decide +kernel
theorem dX8_nextSeed_0 : decode cX8_nextSeed 0 = .ok (.ldc_w 428, 3) := by decide +kernel
theorem dX8_nextSeed_3 : decode cX8_nextSeed 3 = .ok (.iload_n 0, 1) := by decide +kernel
theorem dX8_nextSeed_4 : decode cX8_nextSeed 4 = .ok (.imul, 1) := by decide +kernel
theorem dX8_nextSeed_5 : decode cX8_nextSeed 5 = .ok (.sipush 12345, 3) := by decide +kernel
theorem dX8_nextSeed_8 : decode cX8_nextSeed 8 = .ok (.iadd, 1) := by decide +kernel
theorem dX8_nextSeed_9 : decode cX8_nextSeed 9 = .ok (.ireturn, 1) := by decide +kernel
end
section
theorem dX9_init_0 : decode cX9_init 0 = .ok (.aload_n 0, 1) := by decide +kernel
theorem dX9_init_1 : decode cX9_init 1 = .ok (.invokespecial 1, 3) := by decide +kernel
theorem dX9_init_4 : decode cX9_init 4 = .ok (.aload_n 0, 1) := by decide +kernel
theorem dX9_init_5 : decode cX9_init 5 = .ok (.iconst 2, 1) := by decide +kernel
theorem dX9_init_6 : decode cX9_init 6 = .ok (.newarray .int, 2) := by decide +kernel
theorem dX9_init_8 : decode cX9_init 8 = .ok (.putfield 7, 3) := by decide +kernel
theorem dX9_init_11 : decode cX9_init 11 = .ok (.aload_n 0, 1) := by decide +kernel
theorem dX9_init_12 : decode cX9_init 12 = .ok (.bipush 94, 2) := by decide +kernel
theorem dX9_init_14 : decode cX9_init 14 = .ok (.newarray .int, 2) := by decide +kernel
theorem dX9_init_16 : decode cX9_init 16 = .ok (.putfield 13, 3) := by decide +kernel
theorem dX9_init_19 : decode cX9_init 19 = .ok (.aload_n 0, 1) := by decide +kernel
theorem dX9_init_20 : decode cX9_init 20 = .ok (.bipush 9, 2) := by decide +kernel
theorem dX9_init_22 : decode cX9_init 22 = .ok (.newarray .int, 2) := by decide +kernel
theorem dX9_init_24 : decode cX9_init 24 = .ok (.putfield 16, 3) := by decide +kernel
theorem dX9_init_27 : decode cX9_init 27 = .ok (.aload_n 0, 1) := by decide +kernel
theorem dX9_init_28 : decode cX9_init 28 = .ok (.bipush 9, 2) := by decide +kernel
theorem dX9_init_30 : decode cX9_init 30 = .ok (.newarray .int, 2) := by decide +kernel
theorem dX9_init_32 : decode cX9_init 32 = .ok (.putfield 19, 3) := by decide +kernel
theorem dX9_init_35 : decode cX9_init 35 = .ok (.aload_n 0, 1) := by decide +kernel
theorem dX9_init_36 : decode cX9_init 36 = .ok (.bipush 9, 2) := by decide +kernel
theorem dX9_init_38 : decode cX9_init 38 = .ok (.newarray .int, 2) := by decide +kernel
theorem dX9_init_40 : decode cX9_init 40 = .ok (.putfield 22, 3) := by decide +kernel
theorem dX9_init_43 : decode cX9_init 43 = .ok (.aload_n 0, 1) := by decide +kernel
theorem dX9_init_44 : decode cX9_init 44 = .ok (.bipush 9, 2) := by decide +kernel
theorem dX9_init_46 : decode cX9_init 46 = .ok (.newarray .int, 2) := by decide +kernel
theorem dX9_init_48 : decode cX9_init 48 = .ok (.putfield 25, 3) := by decide +kernel
theorem dX9_init_51 : decode cX9_init 51 = .ok (.aload_n 0, 1) := by decide +kernel
theorem dX9_init_52 : decode cX9_init 52 = .ok (.bipush 8, 2) := by decide +kernel
theorem dX9_init_54 : decode cX9_init 54 = .ok (.newarray .int, 2) := by decide +kernel
theorem dX9_init_56 : decode cX9_init 56 = .ok (.putfield 28, 3) := by decide +kernel
theorem dX9_init_59 : decode cX9_init 59 = .ok (.aload_n 0, 1) := by decide +kernel
theorem dX9_init_60 : decode cX9_init 60 = .ok (.bipush 8, 2) := by decide +kernel
theorem dX9_init_62 : decode cX9_init 62 = .ok (.newarray .int, 2) := by decide +kernel
theorem dX9_init_64 : decode cX9_init 64 = .ok (.putfield 31, 3) := by decide +kernel
theorem dX9_init_67 : decode cX9_init 67 = .ok (.aload_n 0, 1) := by decide +kernel
theorem dX9_init_68 : decode cX9_init 68 = .ok (.bipush 16, 2) := by decide +kernel
theorem dX9_init_70 : decode cX9_init 70 = .ok (.newarray .int, 2) := by decide +kernel
theorem dX9_init_72 : decode cX9_init 72 = .ok (.putfield 34, 3) := by decide +kernel
theorem dX9_init_75 : decode cX9_init 75 = .ok (.aload_n 0, 1) := by decide +kernel
theorem dX9_init_76 : decode cX9_init 76 = .ok (.bipush 16, 2) := by decide +kernel
theorem dX9_init_78 : decode cX9_init 78 = .ok (.newarray .int, 2) := by decide +kernel
theorem dX9_init_80 : decode cX9_init 80 = .ok (.putfield 37, 3) := by decide +kernel
theorem dX9_init_83 : decode cX9_init 83 = .ok (.aload_n 0, 1) := by decide +kernel
theorem dX9_init_84 : decode cX9_init 84 = .ok (.bipush 16, 2) := by decide +kernel
theorem dX9_init_86 : decode cX9_init 86 = .ok (.newarray .int, 2) := by decide +kernel
theorem dX9_init_88 : decode cX9_init 88 = .ok (.putfield 40, 3) := by decide +kernel
theorem dX9_init_91 : decode cX9_init 91 = .ok (.aload_n 0, 1) := by decide +kernel
theorem dX9_init_92 : decode cX9_init 92 = .ok (.bipush 16, 2) := by decide +kernel
theorem dX9_init_94 : decode cX9_init 94 = .ok (.newarray .int, 2) := by decide +kernel
theorem dX9_init_96 : decode cX9_init 96 = .ok (.putfield 43, 3) := by decide +kernel
theorem dX9_init_99 : decode cX9_init 99 = .ok (.aload_n 0, 1) := by decide +kernel
theorem dX9_init_100 : decode cX9_init 100 = .ok (.iconst 3, 1) := by decide +kernel
theorem dX9_init_101 : decode cX9_init 101 = .ok (.newarray .int, 2) := by decide +kernel
theorem dX9_init_103 : decode cX9_init 103 = .ok (.putfield 46, 3) := by decide +kernel
theorem dX9_init_106 : decode cX9_init 106 = .ok (.aload_n 0, 1) := by decide +kernel
theorem dX9_init_107 : decode cX9_init 107 = .ok (.bipush 40, 2) := by decide +kernel
theorem dX9_init_109 : decode cX9_init 109 = .ok (.newarray .int, 2) := by decide +kernel
theorem dX9_init_111 : decode cX9_init 111 = .ok (.putfield 49, 3) := by decide +kernel
theorem dX9_init_114 : decode cX9_init 114 = .ok (.aload_n 0, 1) := by decide +kernel
theorem dX9_init_115 : decode cX9_init 115 = .ok (.bipush 40, 2) := by decide +kernel
theorem dX9_init_117 : decode cX9_init 117 = .ok (.newarray .int, 2) := by decide +kernel
theorem dX9_init_119 : decode cX9_init 119 = .ok (.putfield 52, 3) := by decide +kernel
theorem dX9_init_122 : decode cX9_init 122 = .ok (.aload_n 0, 1) := by decide +kernel
theorem dX9_init_123 : decode cX9_init 123 = .ok (.bipush 64, 2) := by decide +kernel
theorem dX9_init_125 : decode cX9_init 125 = .ok (.newarray .int, 2) := by decide +kernel
theorem dX9_init_127 : decode cX9_init 127 = .ok (.putfield 55, 3) := by decide +kernel
theorem dX9_init_130 : decode cX9_init 130 = .ok (.aload_n 0, 1) := by decide +kernel
theorem dX9_init_131 : decode cX9_init 131 = .ok (.bipush 8, 2) := by decide +kernel
theorem dX9_init_133 : decode cX9_init 133 = .ok (.newarray .int, 2) := by decide +kernel
theorem dX9_init_135 : decode cX9_init 135 = .ok (.putfield 58, 3) := by decide +kernel
theorem dX9_init_138 : decode cX9_init 138 = .ok (.aload_n 0, 1) := by decide +kernel
theorem dX9_init_139 : decode cX9_init 139 = .ok (.bipush 8, 2) := by decide +kernel
theorem dX9_init_141 : decode cX9_init 141 = .ok (.newarray .int, 2) := by decide +kernel
theorem dX9_init_143 : decode cX9_init 143 = .ok (.putfield 61, 3) := by decide +kernel
theorem dX9_init_146 : decode cX9_init 146 = .ok (.aload_n 0, 1) := by decide +kernel
theorem dX9_init_147 : decode cX9_init 147 = .ok (.bipush 8, 2) := by decide +kernel
theorem dX9_init_149 : decode cX9_init 149 = .ok (.newarray .boolean, 2) := by decide +kernel
theorem dX9_init_151 : decode cX9_init 151 = .ok (.putfield 64, 3) := by decide +kernel
theorem dX9_init_154 : decode cX9_init 154 = .ok (.aload_n 0, 1) := by decide +kernel
theorem dX9_init_155 : decode cX9_init 155 = .ok (.bipush 40, 2) := by decide +kernel
theorem dX9_init_157 : decode cX9_init 157 = .ok (.newarray .boolean, 2) := by decide +kernel
theorem dX9_init_159 : decode cX9_init 159 = .ok (.putfield 68, 3) := by decide +kernel
theorem dX9_init_162 : decode cX9_init 162 = .ok (.aload_n 0, 1) := by decide +kernel
theorem dX9_init_163 : decode cX9_init 163 = .ok (.bipush 16, 2) := by decide +kernel
theorem dX9_init_165 : decode cX9_init 165 = .ok (.newarray .boolean, 2) := by decide +kernel
theorem dX9_init_167 : decode cX9_init 167 = .ok (.putfield 71, 3) := by decide +kernel
theorem dX9_init_170 : decode cX9_init 170 = .ok (.aload_n 0, 1) := by decide +kernel
theorem dX9_init_171 : decode cX9_init 171 = .ok (.bipush 8, 2) := by decide +kernel
theorem dX9_init_173 : decode cX9_init 173 = .ok (.newarray .int, 2) := by decide +kernel
theorem dX9_init_175 : decode cX9_init 175 = .ok (.putfield 74, 3) := by decide +kernel
theorem dX9_init_178 : decode cX9_init 178 = .ok (.aload_n 0, 1) := by decide +kernel
theorem dX9_init_179 : decode cX9_init 179 = .ok (.bipush 8, 2) := by decide +kernel
theorem dX9_init_181 : decode cX9_init 181 = .ok (.newarray .int, 2) := by decide +kernel
theorem dX9_init_183 : decode cX9_init 183 = .ok (.putfield 77, 3) := by decide +kernel
theorem dX9_init_186 : decode cX9_init 186 = .ok (.aload_n 0, 1) := by decide +kernel
theorem dX9_init_187 : decode cX9_init 187 = .ok (.sipush 2304, 3) := by decide +kernel
theorem dX9_init_190 : decode cX9_init 190 = .ok (.newarray .int, 2) := by decide +kernel
theorem dX9_init_192 : decode cX9_init 192 = .ok (.putfield 80, 3) := by decide +kernel
theorem dX9_init_195 : decode cX9_init 195 = .ok (.aload_n 0, 1) := by decide +kernel
theorem dX9_init_196 : decode cX9_init 196 = .ok (.bipush 8, 2) := by decide +kernel
theorem dX9_init_198 : decode cX9_init 198 = .ok (.newarray .int, 2) := by decide +kernel
theorem dX9_init_200 : decode cX9_init 200 = .ok (.putfield 83, 3) := by decide +kernel
theorem dX9_init_203 : decode cX9_init 203 = .ok (.aload_n 0, 1) := by decide +kernel
theorem dX9_init_204 : decode cX9_init 204 = .ok (.bipush 8, 2) := by decide +kernel
theorem dX9_init_206 : decode cX9_init 206 = .ok (.newarray .int, 2) := by decide +kernel
theorem dX9_init_208 : decode cX9_init 208 = .ok (.putfield 86, 3) := by decide +kernel
theorem dX9_init_211 : decode cX9_init 211 = .ok (.aload_n 0, 1) := by decide +kernel
theorem dX9_init_212 : decode cX9_init 212 = .ok (.bipush 8, 2) := by decide +kernel
theorem dX9_init_214 : decode cX9_init 214 = .ok (.newarray .int, 2) := by decide +kernel
theorem dX9_init_216 : decode cX9_init 216 = .ok (.putfield 89, 3) := by decide +kernel
theorem dX9_init_219 : decode cX9_init 219 = .ok (.aload_n 0, 1) := by decide +kernel
theorem dX9_init_220 : decode cX9_init 220 = .ok (.sipush 128, 3) := by decide +kernel
theorem dX9_init_223 : decode cX9_init 223 = .ok (.newarray .int, 2) := by decide +kernel
theorem dX9_init_225 : decode cX9_init 225 = .ok (.putfield 92, 3) := by decide +kernel
theorem dX9_init_228 : decode cX9_init 228 = .ok (.aload_n 0, 1) := by decide +kernel
theorem dX9_init_229 : decode cX9_init 229 = .ok (.iconst 4, 1) := by decide +kernel
theorem dX9_init_230 : decode cX9_init 230 = .ok (.newarray .boolean, 2) := by decide +kernel
theorem dX9_init_232 : decode cX9_init 232 = .ok (.putfield 95, 3) := by decide +kernel
theorem dX9_init_235 : decode cX9_init 235 = .ok (.aload_n 0, 1) := by decide +kernel
theorem dX9_init_236 : decode cX9_init 236 = .ok (.iconst 4, 1) := by decide +kernel
theorem dX9_init_237 : decode cX9_init 237 = .ok (.newarray .int, 2) := by decide +kernel
theorem dX9_init_239 : decode cX9_init 239 = .ok (.putfield 98, 3) := by decide +kernel
theorem dX9_init_242 : decode cX9_init 242 = .ok (.aload_n 0, 1) := by decide +kernel
theorem dX9_init_243 : decode cX9_init 243 = .ok (.iconst 4, 1) := by decide +kernel
theorem dX9_init_244 : decode cX9_init 244 = .ok (.newarray .int, 2) := by decide +kernel
theorem dX9_init_246 : decode cX9_init 246 = .ok (.putfield 101, 3) := by decide +kernel
theorem dX9_init_249 : decode cX9_init 249 = .ok (.aload_n 0, 1) := by decide +kernel
theorem dX9_init_250 : decode cX9_init 250 = .ok (.sipush 240, 3) := by decide +kernel
theorem dX9_init_253 : decode cX9_init 253 = .ok (.newarray .int, 2) := by decide +kernel
theorem dX9_init_255 : decode cX9_init 255 = .ok (.putfield 104, 3) := by decide +kernel
theorem dX9_init_258 : decode cX9_init 258 = .ok (.aload_n 0, 1) := by decide +kernel
theorem dX9_init_259 : decode cX9_init 259 = .ok (.bipush 60, 2) := by decide +kernel
theorem dX9_init_261 : decode cX9_init 261 = .ok (.newarray .int, 2) := by decide +kernel
theorem dX9_init_263 : decode cX9_init 263 = .ok (.putfield 107, 3) := by decide +kernel
theorem dX9_init_266 : decode cX9_init 266 = .ok (.aload_n 0, 1) := by decide +kernel
theorem dX9_init_267 : decode cX9_init 267 = .ok (.bipush 60, 2) := by decide +kernel
theorem dX9_init_269 : decode cX9_init 269 = .ok (.putfield 110, 3) := by decide +kernel
theorem dX9_init_272 : decode cX9_init 272 = .ok (.return_, 1) := by decide +kernel
theorem dX9_in_0 : decode cX9_in 0 = .ok (.iload_n 0, 1) := by decide +kernel
theorem dX9_in_1 : decode cX9_in 1 = .ok (.iload_n 1, 1) := by decide +kernel
theorem dX9_in_2 : decode cX9_in 2 = .ok (.if_icmp .lt 12, 3) := by decide +kernel
theorem dX9_in_5 : decode cX9_in 5 = .ok (.iload_n 0, 1) := by decide +kernel
theorem dX9_in_6 : decode cX9_in 6 = .ok (.iload_n 2, 1) := by decide +kernel
theorem dX9_in_7 : decode cX9_in 7 = .ok (.if_icmp .gt 7, 3) := by decide +kernel
theorem dX9_in_10 : decode cX9_in 10 = .ok (.iconst 1, 1) := by decide +kernel
theorem dX9_in_11 : decode cX9_in 11 = .ok (.goto 4, 3) := by decide +kernel
theorem dX9_in_14 : decode cX9_in 14 = .ok (.iconst 0, 1) := by decide +kernel
theorem dX9_in_15 : decode cX9_in 15 = .ok (.ireturn, 1) := by decide +kernel
theorem dX9_isIn_0 : decode cX9_isIn 0 = .ok (.iload_n 0, 1) := by decide +kernel
theorem dX9_isIn_1 : decode cX9_isIn 1 = .ok (.iload_n 1, 1) := by decide +kernel
theorem dX9_isIn_2 : decode cX9_isIn 2 = .ok (.ishr, 1) := by decide +kernel
theorem dX9_isIn_3 : decode cX9_isIn 3 = .ok (.iconst 1, 1) := by decide +kernel
theorem dX9_isIn_4 : decode cX9_isIn 4 = .ok (.iand, 1) := by decide +kernel
theorem dX9_isIn_5 : decode cX9_isIn 5 = .ok (.iconst 1, 1) := by decide +kernel
theorem dX9_isIn_6 : decode cX9_isIn 6 = .ok (.if_icmp .ne 7, 3) := by decide +kernel
theorem dX9_isIn_9 : decode cX9_isIn 9 = .ok (.iconst 1, 1) := by decide +kernel
theorem dX9_isIn_10 : decode cX9_isIn 10 = .ok (.goto 4, 3) := by decide +kernel
theorem dX9_isIn_13 : decode cX9_isIn 13 = .ok (.iconst 0, 1) := by decide +kernel
theorem dX9_isIn_14 : decode cX9_isIn 14 = .ok (.ireturn, 1) := by decide +kernel
theorem dX9_no_0 : decode cX9_no 0 = .ok (.ldc2_w 114, 3) := by decide +kernel
theorem dX9_no_3 : decode cX9_no 3 = .ok (.iload_n 0, 1) := by decide +kernel
theorem dX9_no_4 : decode cX9_no 4 = .ok (.i2l, 1) := by decide +kernel
theorem dX9_no_5 : decode cX9_no 5 = .ok (.lsub, 1) := by decide +kernel
theorem dX9_no_6 : decode cX9_no 6 = .ok (.lreturn, 1) := by decide +kernel
theorem dX9_lowest_0 : decode cX9_lowest 0 = .ok (.lload_n 0, 1) := by decide +kernel
theorem dX9_lowest_1 : decode cX9_lowest 1 = .ok (.lstore 5, 2) := by decide +kernel
theorem dX9_lowest_3 : decode cX9_lowest 3 = .ok (.lload_n 2, 1) := by decide +kernel
theorem dX9_lowest_4 : decode cX9_lowest 4 = .ok (.lstore 7, 2) := by decide +kernel
theorem dX9_lowest_6 : decode cX9_lowest 6 = .ok (.lload 7, 2) := by decide +kernel
theorem dX9_lowest_8 : decode cX9_lowest 8 = .ok (.lconst 0, 1) := by decide +kernel
theorem dX9_lowest_9 : decode cX9_lowest 9 = .ok (.lcmp, 1) := by decide +kernel
theorem dX9_lowest_10 : decode cX9_lowest 10 = .ok (.ifCond .eq 21, 3) := by decide +kernel
theorem dX9_lowest_13 : decode cX9_lowest 13 = .ok (.lload 5, 2) := by decide +kernel
theorem dX9_lowest_15 : decode cX9_lowest 15 = .ok (.lload 7, 2) := by decide +kernel
theorem dX9_lowest_17 : decode cX9_lowest 17 = .ok (.lrem, 1) := by decide +kernel
theorem dX9_lowest_18 : decode cX9_lowest 18 = .ok (.lstore 9, 2) := by decide +kernel
theorem dX9_lowest_20 : decode cX9_lowest 20 = .ok (.lload 7, 2) := by decide +kernel
theorem dX9_lowest_22 : decode cX9_lowest 22 = .ok (.lstore 5, 2) := by decide +kernel
theorem dX9_lowest_24 : decode cX9_lowest 24 = .ok (.lload 9, 2) := by decide +kernel
theorem dX9_lowest_26 : decode cX9_lowest 26 = .ok (.lstore 7, 2) := by decide +kernel
theorem dX9_lowest_28 : decode cX9_lowest 28 = .ok (.goto (-22), 3) := by decide +kernel
theorem dX9_lowest_31 : decode cX9_lowest 31 = .ok (.iload 4, 2) := by decide +kernel
theorem dX9_lowest_33 : decode cX9_lowest 33 = .ok (.ifCond .ne 10, 3) := by decide +kernel
theorem dX9_lowest_36 : decode cX9_lowest 36 = .ok (.lload_n 0, 1) := by decide +kernel
theorem dX9_lowest_37 : decode cX9_lowest 37 = .ok (.lload 5, 2) := by decide +kernel
theorem dX9_lowest_39 : decode cX9_lowest 39 = .ok (.ldiv, 1) := by decide +kernel
theorem dX9_lowest_40 : decode cX9_lowest 40 = .ok (.goto 7, 3) := by decide +kernel
theorem dX9_lowest_43 : decode cX9_lowest 43 = .ok (.lload_n 2, 1) := by decide +kernel
theorem dX9_lowest_44 : decode cX9_lowest 44 = .ok (.lload 5, 2) := by decide +kernel
theorem dX9_lowest_46 : decode cX9_lowest 46 = .ok (.ldiv, 1) := by decide +kernel
theorem dX9_lowest_47 : decode cX9_lowest 47 = .ok (.lreturn, 1) := by decide +kernel
theorem dX9_isText_0 : decode cX9_isText 0 = .ok (.iload_n 0, 1) := by decide +kernel
theorem dX9_isText_1 : decode cX9_isText 1 = .ok (.iconst 0, 1) := by decide +kernel
theorem dX9_isText_2 : decode cX9_isText 2 = .ok (.iconst 1, 1) := by decide +kernel
theorem dX9_isText_3 : decode cX9_isText 3 = .ok (.invokestatic 116, 3) := by decide +kernel
theorem dX9_isText_6 : decode cX9_isText 6 = .ok (.ireturn, 1) := by decide +kernel
theorem dX9_isEight_0 : decode cX9_isEight 0 = .ok (.iload_n 0, 1) := by decide +kernel
theorem dX9_isEight_1 : decode cX9_isEight 1 = .ok (.iconst 0, 1) := by decide +kernel
theorem dX9_isEight_2 : decode cX9_isEight 2 = .ok (.bipush 7, 2) := by decide +kernel
theorem dX9_isEight_4 : decode cX9_isEight 4 = .ok (.invokestatic 116, 3) := by decide +kernel
theorem dX9_isEight_7 : decode cX9_isEight 7 = .ok (.ireturn, 1) := by decide +kernel
theorem dX9_isDay_0 : decode cX9_isDay 0 = .ok (.iload_n 0, 1) := by decide +kernel
theorem dX9_isDay_1 : decode cX9_isDay 1 = .ok (.iconst 0, 1) := by decide +kernel
theorem dX9_isDay_2 : decode cX9_isDay 2 = .ok (.bipush 39, 2) := by decide +kernel
theorem dX9_isDay_4 : decode cX9_isDay 4 = .ok (.invokestatic 116, 3) := by decide +kernel
theorem dX9_isDay_7 : decode cX9_isDay 7 = .ok (.ireturn, 1) := by decide +kernel
theorem dX9_type_0 : decode cX9_type 0 = .ok (.iload_n 1, 1) := by decide +kernel
theorem dX9_type_1 : decode cX9_type 1 = .ok (.invokestatic 120, 3) := by decide +kernel
theorem dX9_type_4 : decode cX9_type 4 = .ok (.ifCond .eq 14, 3) := by decide +kernel
theorem dX9_type_7 : decode cX9_type 7 = .ok (.iload_n 2, 1) := by decide +kernel
theorem dX9_type_8 : decode cX9_type 8 = .ok (.iconst 0, 1) := by decide +kernel
theorem dX9_type_9 : decode cX9_type 9 = .ok (.sipush 255, 3) := by decide +kernel
theorem dX9_type_12 : decode cX9_type 12 = .ok (.invokestatic 116, 3) := by decide +kernel
theorem dX9_type_15 : decode cX9_type 15 = .ok (.ifCond .ne 6, 3) := by decide +kernel
theorem dX9_type_18 : decode cX9_type 18 = .ok (.bipush (-2), 2) := by decide +kernel
theorem dX9_type_20 : decode cX9_type 20 = .ok (.ireturn, 1) := by decide +kernel
theorem dX9_type_21 : decode cX9_type 21 = .ok (.aload_n 0, 1) := by decide +kernel
theorem dX9_type_22 : decode cX9_type 22 = .ok (.getfield 7, 3) := by decide +kernel
theorem dX9_type_25 : decode cX9_type 25 = .ok (.iload_n 1, 1) := by decide +kernel
theorem dX9_type_26 : decode cX9_type 26 = .ok (.iaload, 1) := by decide +kernel
theorem dX9_type_27 : decode cX9_type 27 = .ok (.iload_n 1, 1) := by decide +kernel
theorem dX9_type_28 : decode cX9_type 28 = .ok (.ifCond .ne 8, 3) := by decide +kernel
theorem dX9_type_31 : decode cX9_type 31 = .ok (.bipush 47, 2) := by decide +kernel
theorem dX9_type_33 : decode cX9_type 33 = .ok (.goto 5, 3) := by decide +kernel
theorem dX9_type_36 : decode cX9_type 36 = .ok (.bipush 8, 2) := by decide +kernel
theorem dX9_type_38 : decode cX9_type 38 = .ok (.if_icmp .ne 6, 3) := by decide +kernel
theorem dX9_type_41 : decode cX9_type 41 = .ok (.bipush (-4), 2) := by decide +kernel
theorem dX9_type_43 : decode cX9_type 43 = .ok (.ireturn, 1) := by decide +kernel
theorem dX9_type_44 : decode cX9_type 44 = .ok (.aload_n 0, 1) := by decide +kernel
theorem dX9_type_45 : decode cX9_type 45 = .ok (.getfield 13, 3) := by decide +kernel
theorem dX9_type_48 : decode cX9_type 48 = .ok (.bipush 47, 2) := by decide +kernel
theorem dX9_type_50 : decode cX9_type 50 = .ok (.iload_n 1, 1) := by decide +kernel
theorem dX9_type_51 : decode cX9_type 51 = .ok (.imul, 1) := by decide +kernel
theorem dX9_type_52 : decode cX9_type 52 = .ok (.aload_n 0, 1) := by decide +kernel
theorem dX9_type_53 : decode cX9_type 53 = .ok (.getfield 7, 3) := by decide +kernel
theorem dX9_type_56 : decode cX9_type 56 = .ok (.iload_n 1, 1) := by decide +kernel
theorem dX9_type_57 : decode cX9_type 57 = .ok (.iaload, 1) := by decide +kernel
theorem dX9_type_58 : decode cX9_type 58 = .ok (.iadd, 1) := by decide +kernel
theorem dX9_type_59 : decode cX9_type 59 = .ok (.iload_n 2, 1) := by decide +kernel
theorem dX9_type_60 : decode cX9_type 60 = .ok (.iastore, 1) := by decide +kernel
theorem dX9_type_61 : decode cX9_type 61 = .ok (.aload_n 0, 1) := by decide +kernel
theorem dX9_type_62 : decode cX9_type 62 = .ok (.getfield 7, 3) := by decide +kernel
theorem dX9_type_65 : decode cX9_type 65 = .ok (.iload_n 1, 1) := by decide +kernel
theorem dX9_type_66 : decode cX9_type 66 = .ok (.dup2, 1) := by decide +kernel
theorem dX9_type_67 : decode cX9_type 67 = .ok (.iaload, 1) := by decide +kernel
theorem dX9_type_68 : decode cX9_type 68 = .ok (.iconst 1, 1) := by decide +kernel
theorem dX9_type_69 : decode cX9_type 69 = .ok (.iadd, 1) := by decide +kernel
theorem dX9_type_70 : decode cX9_type 70 = .ok (.iastore, 1) := by decide +kernel
theorem dX9_type_71 : decode cX9_type 71 = .ok (.aload_n 0, 1) := by decide +kernel
theorem dX9_type_72 : decode cX9_type 72 = .ok (.getfield 7, 3) := by decide +kernel
theorem dX9_type_75 : decode cX9_type 75 = .ok (.iload_n 1, 1) := by decide +kernel
theorem dX9_type_76 : decode cX9_type 76 = .ok (.iaload, 1) := by decide +kernel
theorem dX9_type_77 : decode cX9_type 77 = .ok (.ireturn, 1) := by decide +kernel
theorem dX9_wipe_0 : decode cX9_wipe 0 = .ok (.iload_n 1, 1) := by decide +kernel
theorem dX9_wipe_1 : decode cX9_wipe 1 = .ok (.invokestatic 120, 3) := by decide +kernel
theorem dX9_wipe_4 : decode cX9_wipe 4 = .ok (.ifCond .ne 6, 3) := by decide +kernel
theorem dX9_wipe_7 : decode cX9_wipe 7 = .ok (.bipush (-2), 2) := by decide +kernel
theorem dX9_wipe_9 : decode cX9_wipe 9 = .ok (.ireturn, 1) := by decide +kernel
theorem dX9_wipe_10 : decode cX9_wipe 10 = .ok (.aload_n 0, 1) := by decide +kernel
theorem dX9_wipe_11 : decode cX9_wipe 11 = .ok (.getfield 7, 3) := by decide +kernel
theorem dX9_wipe_14 : decode cX9_wipe 14 = .ok (.iload_n 1, 1) := by decide +kernel
theorem dX9_wipe_15 : decode cX9_wipe 15 = .ok (.iaload, 1) := by decide +kernel
theorem dX9_wipe_16 : decode cX9_wipe 16 = .ok (.istore_n 2, 1) := by decide +kernel
theorem dX9_wipe_17 : decode cX9_wipe 17 = .ok (.aload_n 0, 1) := by decide +kernel
theorem dX9_wipe_18 : decode cX9_wipe 18 = .ok (.getfield 7, 3) := by decide +kernel
theorem dX9_wipe_21 : decode cX9_wipe 21 = .ok (.iload_n 1, 1) := by decide +kernel
theorem dX9_wipe_22 : decode cX9_wipe 22 = .ok (.iconst 0, 1) := by decide +kernel
theorem dX9_wipe_23 : decode cX9_wipe 23 = .ok (.iastore, 1) := by decide +kernel
theorem dX9_wipe_24 : decode cX9_wipe 24 = .ok (.iload_n 2, 1) := by decide +kernel
theorem dX9_wipe_25 : decode cX9_wipe 25 = .ok (.ireturn, 1) := by decide +kernel
theorem dX9_undo_0 : decode cX9_undo 0 = .ok (.iload_n 1, 1) := by decide +kernel
theorem dX9_undo_1 : decode cX9_undo 1 = .ok (.invokestatic 120, 3) := by decide +kernel
theorem dX9_undo_4 : decode cX9_undo 4 = .ok (.ifCond .ne 6, 3) := by decide +kernel
theorem dX9_undo_7 : decode cX9_undo 7 = .ok (.bipush (-2), 2) := by decide +kernel
theorem dX9_undo_9 : decode cX9_undo 9 = .ok (.ireturn, 1) := by decide +kernel
theorem dX9_undo_10 : decode cX9_undo 10 = .ok (.aload_n 0, 1) := by decide +kernel
theorem dX9_undo_11 : decode cX9_undo 11 = .ok (.getfield 7, 3) := by decide +kernel
theorem dX9_undo_14 : decode cX9_undo 14 = .ok (.iload_n 1, 1) := by decide +kernel
theorem dX9_undo_15 : decode cX9_undo 15 = .ok (.iaload, 1) := by decide +kernel
theorem dX9_undo_16 : decode cX9_undo 16 = .ok (.ifCond .ne 6, 3) := by decide +kernel
theorem dX9_undo_19 : decode cX9_undo 19 = .ok (.bipush (-3), 2) := by decide +kernel
theorem dX9_undo_21 : decode cX9_undo 21 = .ok (.ireturn, 1) := by decide +kernel
theorem dX9_undo_22 : decode cX9_undo 22 = .ok (.aload_n 0, 1) := by decide +kernel
theorem dX9_undo_23 : decode cX9_undo 23 = .ok (.getfield 7, 3) := by decide +kernel
theorem dX9_undo_26 : decode cX9_undo 26 = .ok (.iload_n 1, 1) := by decide +kernel
theorem dX9_undo_27 : decode cX9_undo 27 = .ok (.dup2, 1) := by decide +kernel
theorem dX9_undo_28 : decode cX9_undo 28 = .ok (.iaload, 1) := by decide +kernel
theorem dX9_undo_29 : decode cX9_undo 29 = .ok (.iconst 1, 1) := by decide +kernel
theorem dX9_undo_30 : decode cX9_undo 30 = .ok (.isub, 1) := by decide +kernel
theorem dX9_undo_31 : decode cX9_undo 31 = .ok (.iastore, 1) := by decide +kernel
theorem dX9_undo_32 : decode cX9_undo 32 = .ok (.aload_n 0, 1) := by decide +kernel
theorem dX9_undo_33 : decode cX9_undo 33 = .ok (.getfield 7, 3) := by decide +kernel
theorem dX9_undo_36 : decode cX9_undo 36 = .ok (.iload_n 1, 1) := by decide +kernel
theorem dX9_undo_37 : decode cX9_undo 37 = .ok (.iaload, 1) := by decide +kernel
theorem dX9_undo_38 : decode cX9_undo 38 = .ok (.ireturn, 1) := by decide +kernel
theorem dX9_byteAt_0 : decode cX9_byteAt 0 = .ok (.iload_n 2, 1) := by decide +kernel
theorem dX9_byteAt_1 : decode cX9_byteAt 1 = .ok (.aload_n 0, 1) := by decide +kernel
theorem dX9_byteAt_2 : decode cX9_byteAt 2 = .ok (.getfield 7, 3) := by decide +kernel
theorem dX9_byteAt_5 : decode cX9_byteAt 5 = .ok (.iload_n 1, 1) := by decide +kernel
theorem dX9_byteAt_6 : decode cX9_byteAt 6 = .ok (.iaload, 1) := by decide +kernel
theorem dX9_byteAt_7 : decode cX9_byteAt 7 = .ok (.if_icmp .ge 17, 3) := by decide +kernel
theorem dX9_byteAt_10 : decode cX9_byteAt 10 = .ok (.aload_n 0, 1) := by decide +kernel
theorem dX9_byteAt_11 : decode cX9_byteAt 11 = .ok (.getfield 13, 3) := by decide +kernel
theorem dX9_byteAt_14 : decode cX9_byteAt 14 = .ok (.bipush 47, 2) := by decide +kernel
theorem dX9_byteAt_16 : decode cX9_byteAt 16 = .ok (.iload_n 1, 1) := by decide +kernel
theorem dX9_byteAt_17 : decode cX9_byteAt 17 = .ok (.imul, 1) := by decide +kernel
theorem dX9_byteAt_18 : decode cX9_byteAt 18 = .ok (.iload_n 2, 1) := by decide +kernel
theorem dX9_byteAt_19 : decode cX9_byteAt 19 = .ok (.iadd, 1) := by decide +kernel
theorem dX9_byteAt_20 : decode cX9_byteAt 20 = .ok (.iaload, 1) := by decide +kernel
theorem dX9_byteAt_21 : decode cX9_byteAt 21 = .ok (.goto 4, 3) := by decide +kernel
theorem dX9_byteAt_24 : decode cX9_byteAt 24 = .ok (.iconst (-1), 1) := by decide +kernel
theorem dX9_byteAt_25 : decode cX9_byteAt 25 = .ok (.ireturn, 1) := by decide +kernel
theorem dX9_readsBottle_0 : decode cX9_readsBottle 0 = .ok (.aload_n 0, 1) := by decide +kernel
theorem dX9_readsBottle_1 : decode cX9_readsBottle 1 = .ok (.iconst 0, 1) := by decide +kernel
theorem dX9_readsBottle_2 : decode cX9_readsBottle 2 = .ok (.iload_n 2, 1) := by decide +kernel
theorem dX9_readsBottle_3 : decode cX9_readsBottle 3 = .ok (.invokevirtual 124, 3) := by decide +kernel
theorem dX9_readsBottle_6 : decode cX9_readsBottle 6 = .ok (.istore_n 3, 1) := by decide +kernel
theorem dX9_readsBottle_7 : decode cX9_readsBottle 7 = .ok (.aload_n 0, 1) := by decide +kernel
theorem dX9_readsBottle_8 : decode cX9_readsBottle 8 = .ok (.iconst 0, 1) := by decide +kernel
theorem dX9_readsBottle_9 : decode cX9_readsBottle 9 = .ok (.iload_n 2, 1) := by decide +kernel
theorem dX9_readsBottle_10 : decode cX9_readsBottle 10 = .ok (.iconst 1, 1) := by decide +kernel
theorem dX9_readsBottle_11 : decode cX9_readsBottle 11 = .ok (.iadd, 1) := by decide +kernel
theorem dX9_readsBottle_12 : decode cX9_readsBottle 12 = .ok (.invokevirtual 124, 3) := by decide +kernel
theorem dX9_readsBottle_15 : decode cX9_readsBottle 15 = .ok (.istore 4, 2) := by decide +kernel
theorem dX9_readsBottle_17 : decode cX9_readsBottle 17 = .ok (.aload_n 0, 1) := by decide +kernel
theorem dX9_readsBottle_18 : decode cX9_readsBottle 18 = .ok (.iconst 0, 1) := by decide +kernel
theorem dX9_readsBottle_19 : decode cX9_readsBottle 19 = .ok (.iload_n 2, 1) := by decide +kernel
theorem dX9_readsBottle_20 : decode cX9_readsBottle 20 = .ok (.iconst 2, 1) := by decide +kernel
theorem dX9_readsBottle_21 : decode cX9_readsBottle 21 = .ok (.iadd, 1) := by decide +kernel
theorem dX9_readsBottle_22 : decode cX9_readsBottle 22 = .ok (.invokevirtual 124, 3) := by decide +kernel
theorem dX9_readsBottle_25 : decode cX9_readsBottle 25 = .ok (.istore 5, 2) := by decide +kernel
theorem dX9_readsBottle_27 : decode cX9_readsBottle 27 = .ok (.aload_n 0, 1) := by decide +kernel
theorem dX9_readsBottle_28 : decode cX9_readsBottle 28 = .ok (.iconst 0, 1) := by decide +kernel
theorem dX9_readsBottle_29 : decode cX9_readsBottle 29 = .ok (.iload_n 2, 1) := by decide +kernel
theorem dX9_readsBottle_30 : decode cX9_readsBottle 30 = .ok (.iconst 3, 1) := by decide +kernel
theorem dX9_readsBottle_31 : decode cX9_readsBottle 31 = .ok (.iadd, 1) := by decide +kernel
theorem dX9_readsBottle_32 : decode cX9_readsBottle 32 = .ok (.invokevirtual 124, 3) := by decide +kernel
theorem dX9_readsBottle_35 : decode cX9_readsBottle 35 = .ok (.istore 6, 2) := by decide +kernel
theorem dX9_readsBottle_37 : decode cX9_readsBottle 37 = .ok (.aload_n 0, 1) := by decide +kernel
theorem dX9_readsBottle_38 : decode cX9_readsBottle 38 = .ok (.iconst 0, 1) := by decide +kernel
theorem dX9_readsBottle_39 : decode cX9_readsBottle 39 = .ok (.iload_n 2, 1) := by decide +kernel
theorem dX9_readsBottle_40 : decode cX9_readsBottle 40 = .ok (.iconst 4, 1) := by decide +kernel
theorem dX9_readsBottle_41 : decode cX9_readsBottle 41 = .ok (.iadd, 1) := by decide +kernel
theorem dX9_readsBottle_42 : decode cX9_readsBottle 42 = .ok (.invokevirtual 124, 3) := by decide +kernel
theorem dX9_readsBottle_45 : decode cX9_readsBottle 45 = .ok (.istore 7, 2) := by decide +kernel
theorem dX9_readsBottle_47 : decode cX9_readsBottle 47 = .ok (.iload_n 3, 1) := by decide +kernel
theorem dX9_readsBottle_48 : decode cX9_readsBottle 48 = .ok (.bipush 97, 2) := by decide +kernel
theorem dX9_readsBottle_50 : decode cX9_readsBottle 50 = .ok (.bipush 104, 2) := by decide +kernel
theorem dX9_readsBottle_52 : decode cX9_readsBottle 52 = .ok (.invokestatic 116, 3) := by decide +kernel
theorem dX9_readsBottle_55 : decode cX9_readsBottle 55 = .ok (.ifCond .ne 5, 3) := by decide +kernel
theorem dX9_readsBottle_58 : decode cX9_readsBottle 58 = .ok (.iconst 0, 1) := by decide +kernel
theorem dX9_readsBottle_59 : decode cX9_readsBottle 59 = .ok (.ireturn, 1) := by decide +kernel
theorem dX9_readsBottle_60 : decode cX9_readsBottle 60 = .ok (.iload 4, 2) := by decide +kernel
theorem dX9_readsBottle_62 : decode cX9_readsBottle 62 = .ok (.bipush 48, 2) := by decide +kernel
theorem dX9_readsBottle_64 : decode cX9_readsBottle 64 = .ok (.bipush 57, 2) := by decide +kernel
theorem dX9_readsBottle_66 : decode cX9_readsBottle 66 = .ok (.invokestatic 116, 3) := by decide +kernel
theorem dX9_readsBottle_69 : decode cX9_readsBottle 69 = .ok (.ifCond .ne 5, 3) := by decide +kernel
theorem dX9_readsBottle_72 : decode cX9_readsBottle 72 = .ok (.iconst 1, 1) := by decide +kernel
theorem dX9_readsBottle_73 : decode cX9_readsBottle 73 = .ok (.ireturn, 1) := by decide +kernel
theorem dX9_readsBottle_74 : decode cX9_readsBottle 74 = .ok (.iload 5, 2) := by decide +kernel
theorem dX9_readsBottle_76 : decode cX9_readsBottle 76 = .ok (.bipush 48, 2) := by decide +kernel
theorem dX9_readsBottle_78 : decode cX9_readsBottle 78 = .ok (.bipush 57, 2) := by decide +kernel
theorem dX9_readsBottle_80 : decode cX9_readsBottle 80 = .ok (.invokestatic 116, 3) := by decide +kernel
theorem dX9_readsBottle_83 : decode cX9_readsBottle 83 = .ok (.ifCond .eq 17, 3) := by decide +kernel
theorem dX9_readsBottle_86 : decode cX9_readsBottle 86 = .ok (.iload 4, 2) := by decide +kernel
theorem dX9_readsBottle_88 : decode cX9_readsBottle 88 = .ok (.bipush 48, 2) := by decide +kernel
theorem dX9_readsBottle_90 : decode cX9_readsBottle 90 = .ok (.if_icmp .ne 12, 3) := by decide +kernel
theorem dX9_readsBottle_93 : decode cX9_readsBottle 93 = .ok (.iload 5, 2) := by decide +kernel
theorem dX9_readsBottle_95 : decode cX9_readsBottle 95 = .ok (.bipush 48, 2) := by decide +kernel
theorem dX9_readsBottle_97 : decode cX9_readsBottle 97 = .ok (.if_icmp .ne 5, 3) := by decide +kernel
theorem dX9_readsBottle_100 : decode cX9_readsBottle 100 = .ok (.iconst 2, 1) := by decide +kernel
theorem dX9_readsBottle_101 : decode cX9_readsBottle 101 = .ok (.ireturn, 1) := by decide +kernel
theorem dX9_readsBottle_102 : decode cX9_readsBottle 102 = .ok (.iload 6, 2) := by decide +kernel
theorem dX9_readsBottle_104 : decode cX9_readsBottle 104 = .ok (.bipush 48, 2) := by decide +kernel
theorem dX9_readsBottle_106 : decode cX9_readsBottle 106 = .ok (.bipush 57, 2) := by decide +kernel
theorem dX9_readsBottle_108 : decode cX9_readsBottle 108 = .ok (.invokestatic 116, 3) := by decide +kernel
theorem dX9_readsBottle_111 : decode cX9_readsBottle 111 = .ok (.ifCond .ne 5, 3) := by decide +kernel
theorem dX9_readsBottle_114 : decode cX9_readsBottle 114 = .ok (.iconst 3, 1) := by decide +kernel
theorem dX9_readsBottle_115 : decode cX9_readsBottle 115 = .ok (.ireturn, 1) := by decide +kernel
theorem dX9_readsBottle_116 : decode cX9_readsBottle 116 = .ok (.iload 7, 2) := by decide +kernel
theorem dX9_readsBottle_118 : decode cX9_readsBottle 118 = .ok (.bipush 110, 2) := by decide +kernel
theorem dX9_readsBottle_120 : decode cX9_readsBottle 120 = .ok (.if_icmp .eq 12, 3) := by decide +kernel
theorem dX9_readsBottle_123 : decode cX9_readsBottle 123 = .ok (.iload 7, 2) := by decide +kernel
theorem dX9_readsBottle_125 : decode cX9_readsBottle 125 = .ok (.bipush 115, 2) := by decide +kernel
theorem dX9_readsBottle_127 : decode cX9_readsBottle 127 = .ok (.if_icmp .eq 5, 3) := by decide +kernel
theorem dX9_readsBottle_130 : decode cX9_readsBottle 130 = .ok (.iconst 4, 1) := by decide +kernel
theorem dX9_readsBottle_131 : decode cX9_readsBottle 131 = .ok (.ireturn, 1) := by decide +kernel
theorem dX9_readsBottle_132 : decode cX9_readsBottle 132 = .ok (.aload_n 0, 1) := by decide +kernel
theorem dX9_readsBottle_133 : decode cX9_readsBottle 133 = .ok (.getfield 16, 3) := by decide +kernel
theorem dX9_readsBottle_136 : decode cX9_readsBottle 136 = .ok (.iload_n 1, 1) := by decide +kernel
theorem dX9_readsBottle_137 : decode cX9_readsBottle 137 = .ok (.iload_n 3, 1) := by decide +kernel
theorem dX9_readsBottle_138 : decode cX9_readsBottle 138 = .ok (.bipush 97, 2) := by decide +kernel
theorem dX9_readsBottle_140 : decode cX9_readsBottle 140 = .ok (.isub, 1) := by decide +kernel
theorem dX9_readsBottle_141 : decode cX9_readsBottle 141 = .ok (.iastore, 1) := by decide +kernel
theorem dX9_readsBottle_142 : decode cX9_readsBottle 142 = .ok (.aload_n 0, 1) := by decide +kernel
theorem dX9_readsBottle_143 : decode cX9_readsBottle 143 = .ok (.getfield 19, 3) := by decide +kernel
theorem dX9_readsBottle_146 : decode cX9_readsBottle 146 = .ok (.iload_n 1, 1) := by decide +kernel
theorem dX9_readsBottle_147 : decode cX9_readsBottle 147 = .ok (.bipush 10, 2) := by decide +kernel
theorem dX9_readsBottle_149 : decode cX9_readsBottle 149 = .ok (.iload 4, 2) := by decide +kernel
theorem dX9_readsBottle_151 : decode cX9_readsBottle 151 = .ok (.bipush 48, 2) := by decide +kernel
theorem dX9_readsBottle_153 : decode cX9_readsBottle 153 = .ok (.isub, 1) := by decide +kernel
theorem dX9_readsBottle_154 : decode cX9_readsBottle 154 = .ok (.imul, 1) := by decide +kernel
theorem dX9_readsBottle_155 : decode cX9_readsBottle 155 = .ok (.iload 5, 2) := by decide +kernel
theorem dX9_readsBottle_157 : decode cX9_readsBottle 157 = .ok (.iadd, 1) := by decide +kernel
theorem dX9_readsBottle_158 : decode cX9_readsBottle 158 = .ok (.bipush 48, 2) := by decide +kernel
theorem dX9_readsBottle_160 : decode cX9_readsBottle 160 = .ok (.isub, 1) := by decide +kernel
theorem dX9_readsBottle_161 : decode cX9_readsBottle 161 = .ok (.iastore, 1) := by decide +kernel
theorem dX9_readsBottle_162 : decode cX9_readsBottle 162 = .ok (.aload_n 0, 1) := by decide +kernel
theorem dX9_readsBottle_163 : decode cX9_readsBottle 163 = .ok (.getfield 22, 3) := by decide +kernel
theorem dX9_readsBottle_166 : decode cX9_readsBottle 166 = .ok (.iload_n 1, 1) := by decide +kernel
theorem dX9_readsBottle_167 : decode cX9_readsBottle 167 = .ok (.iload 6, 2) := by decide +kernel
theorem dX9_readsBottle_169 : decode cX9_readsBottle 169 = .ok (.bipush 48, 2) := by decide +kernel
theorem dX9_readsBottle_171 : decode cX9_readsBottle 171 = .ok (.isub, 1) := by decide +kernel
theorem dX9_readsBottle_172 : decode cX9_readsBottle 172 = .ok (.iastore, 1) := by decide +kernel
theorem dX9_readsBottle_173 : decode cX9_readsBottle 173 = .ok (.aload_n 0, 1) := by decide +kernel
theorem dX9_readsBottle_174 : decode cX9_readsBottle 174 = .ok (.getfield 25, 3) := by decide +kernel
theorem dX9_readsBottle_177 : decode cX9_readsBottle 177 = .ok (.iload_n 1, 1) := by decide +kernel
theorem dX9_readsBottle_178 : decode cX9_readsBottle 178 = .ok (.iload 7, 2) := by decide +kernel
theorem dX9_readsBottle_180 : decode cX9_readsBottle 180 = .ok (.bipush 115, 2) := by decide +kernel
theorem dX9_readsBottle_182 : decode cX9_readsBottle 182 = .ok (.if_icmp .ne 7, 3) := by decide +kernel
theorem dX9_readsBottle_185 : decode cX9_readsBottle 185 = .ok (.iconst 1, 1) := by decide +kernel
theorem dX9_readsBottle_186 : decode cX9_readsBottle 186 = .ok (.goto 4, 3) := by decide +kernel
theorem dX9_readsBottle_189 : decode cX9_readsBottle 189 = .ok (.iconst 0, 1) := by decide +kernel
theorem dX9_readsBottle_190 : decode cX9_readsBottle 190 = .ok (.iastore, 1) := by decide +kernel
theorem dX9_readsBottle_191 : decode cX9_readsBottle 191 = .ok (.iconst 5, 1) := by decide +kernel
theorem dX9_readsBottle_192 : decode cX9_readsBottle 192 = .ok (.ireturn, 1) := by decide +kernel
theorem dX9_readsBottles_0 : decode cX9_readsBottles 0 = .ok (.iconst 0, 1) := by decide +kernel
theorem dX9_readsBottles_1 : decode cX9_readsBottles 1 = .ok (.istore_n 1, 1) := by decide +kernel
theorem dX9_readsBottles_2 : decode cX9_readsBottles 2 = .ok (.iconst 0, 1) := by decide +kernel
theorem dX9_readsBottles_3 : decode cX9_readsBottles 3 = .ok (.istore_n 2, 1) := by decide +kernel
theorem dX9_readsBottles_4 : decode cX9_readsBottles 4 = .ok (.aload_n 0, 1) := by decide +kernel
theorem dX9_readsBottles_5 : decode cX9_readsBottles 5 = .ok (.iconst 0, 1) := by decide +kernel
theorem dX9_readsBottles_6 : decode cX9_readsBottles 6 = .ok (.putfield 128, 3) := by decide +kernel
theorem dX9_readsBottles_9 : decode cX9_readsBottles 9 = .ok (.iload_n 2, 1) := by decide +kernel
theorem dX9_readsBottles_10 : decode cX9_readsBottles 10 = .ok (.aload_n 0, 1) := by decide +kernel
theorem dX9_readsBottles_11 : decode cX9_readsBottles 11 = .ok (.getfield 7, 3) := by decide +kernel
theorem dX9_readsBottles_14 : decode cX9_readsBottles 14 = .ok (.iconst 0, 1) := by decide +kernel
theorem dX9_readsBottles_15 : decode cX9_readsBottles 15 = .ok (.iaload, 1) := by decide +kernel
theorem dX9_readsBottles_16 : decode cX9_readsBottles 16 = .ok (.if_icmp .lt 7, 3) := by decide +kernel
theorem dX9_readsBottles_19 : decode cX9_readsBottles 19 = .ok (.iload_n 2, 1) := by decide +kernel
theorem dX9_readsBottles_20 : decode cX9_readsBottles 20 = .ok (.ifCond .le 71, 3) := by decide +kernel
theorem dX9_readsBottles_23 : decode cX9_readsBottles 23 = .ok (.iload_n 1, 1) := by decide +kernel
theorem dX9_readsBottles_24 : decode cX9_readsBottles 24 = .ok (.bipush 8, 2) := by decide +kernel
theorem dX9_readsBottles_26 : decode cX9_readsBottles 26 = .ok (.if_icmp .ne 7, 3) := by decide +kernel
theorem dX9_readsBottles_29 : decode cX9_readsBottles 29 = .ok (.iconst 0, 1) := by decide +kernel
theorem dX9_readsBottles_30 : decode cX9_readsBottles 30 = .ok (.goto 9, 3) := by decide +kernel
theorem dX9_readsBottles_33 : decode cX9_readsBottles 33 = .ok (.aload_n 0, 1) := by decide +kernel
theorem dX9_readsBottles_34 : decode cX9_readsBottles 34 = .ok (.iload_n 1, 1) := by decide +kernel
theorem dX9_readsBottles_35 : decode cX9_readsBottles 35 = .ok (.iload_n 2, 1) := by decide +kernel
theorem dX9_readsBottles_36 : decode cX9_readsBottles 36 = .ok (.invokevirtual 131, 3) := by decide +kernel
theorem dX9_readsBottles_39 : decode cX9_readsBottles 39 = .ok (.istore_n 3, 1) := by decide +kernel
theorem dX9_readsBottles_40 : decode cX9_readsBottles 40 = .ok (.iload_n 3, 1) := by decide +kernel
theorem dX9_readsBottles_41 : decode cX9_readsBottles 41 = .ok (.iconst 5, 1) := by decide +kernel
theorem dX9_readsBottles_42 : decode cX9_readsBottles 42 = .ok (.if_icmp .ge 7, 3) := by decide +kernel
theorem dX9_readsBottles_45 : decode cX9_readsBottles 45 = .ok (.iload_n 2, 1) := by decide +kernel
theorem dX9_readsBottles_46 : decode cX9_readsBottles 46 = .ok (.iload_n 3, 1) := by decide +kernel
theorem dX9_readsBottles_47 : decode cX9_readsBottles 47 = .ok (.iadd, 1) := by decide +kernel
theorem dX9_readsBottles_48 : decode cX9_readsBottles 48 = .ok (.ireturn, 1) := by decide +kernel
theorem dX9_readsBottles_49 : decode cX9_readsBottles 49 = .ok (.iinc 1 1, 3) := by decide +kernel
theorem dX9_readsBottles_52 : decode cX9_readsBottles 52 = .ok (.iinc 2 5, 3) := by decide +kernel
theorem dX9_readsBottles_55 : decode cX9_readsBottles 55 = .ok (.iload_n 2, 1) := by decide +kernel
theorem dX9_readsBottles_56 : decode cX9_readsBottles 56 = .ok (.aload_n 0, 1) := by decide +kernel
theorem dX9_readsBottles_57 : decode cX9_readsBottles 57 = .ok (.getfield 7, 3) := by decide +kernel
theorem dX9_readsBottles_60 : decode cX9_readsBottles 60 = .ok (.iconst 0, 1) := by decide +kernel
theorem dX9_readsBottles_61 : decode cX9_readsBottles 61 = .ok (.iaload, 1) := by decide +kernel
theorem dX9_readsBottles_62 : decode cX9_readsBottles 62 = .ok (.if_icmp .ne 10, 3) := by decide +kernel
theorem dX9_readsBottles_65 : decode cX9_readsBottles 65 = .ok (.aload_n 0, 1) := by decide +kernel
theorem dX9_readsBottles_66 : decode cX9_readsBottles 66 = .ok (.iload_n 1, 1) := by decide +kernel
theorem dX9_readsBottles_67 : decode cX9_readsBottles 67 = .ok (.putfield 128, 3) := by decide +kernel
theorem dX9_readsBottles_70 : decode cX9_readsBottles 70 = .ok (.iconst (-1), 1) := by decide +kernel
theorem dX9_readsBottles_71 : decode cX9_readsBottles 71 = .ok (.ireturn, 1) := by decide +kernel
theorem dX9_readsBottles_72 : decode cX9_readsBottles 72 = .ok (.aload_n 0, 1) := by decide +kernel
theorem dX9_readsBottles_73 : decode cX9_readsBottles 73 = .ok (.getfield 13, 3) := by decide +kernel
theorem dX9_readsBottles_76 : decode cX9_readsBottles 76 = .ok (.iload_n 2, 1) := by decide +kernel
theorem dX9_readsBottles_77 : decode cX9_readsBottles 77 = .ok (.iaload, 1) := by decide +kernel
theorem dX9_readsBottles_78 : decode cX9_readsBottles 78 = .ok (.bipush 59, 2) := by decide +kernel
theorem dX9_readsBottles_80 : decode cX9_readsBottles 80 = .ok (.if_icmp .eq 5, 3) := by decide +kernel
theorem dX9_readsBottles_83 : decode cX9_readsBottles 83 = .ok (.iload_n 2, 1) := by decide +kernel
theorem dX9_readsBottles_84 : decode cX9_readsBottles 84 = .ok (.ireturn, 1) := by decide +kernel
theorem dX9_readsBottles_85 : decode cX9_readsBottles 85 = .ok (.iinc 2 1, 3) := by decide +kernel
theorem dX9_readsBottles_88 : decode cX9_readsBottles 88 = .ok (.goto (-79), 3) := by decide +kernel
theorem dX9_readsBottles_91 : decode cX9_readsBottles 91 = .ok (.iconst (-1), 1) := by decide +kernel
theorem dX9_readsBottles_92 : decode cX9_readsBottles 92 = .ok (.ireturn, 1) := by decide +kernel
theorem dX9_readsSong_0 : decode cX9_readsSong 0 = .ok (.aload_n 0, 1) := by decide +kernel
theorem dX9_readsSong_1 : decode cX9_readsSong 1 = .ok (.iconst 0, 1) := by decide +kernel
theorem dX9_readsSong_2 : decode cX9_readsSong 2 = .ok (.putfield 134, 3) := by decide +kernel
theorem dX9_readsSong_5 : decode cX9_readsSong 5 = .ok (.iconst 0, 1) := by decide +kernel
theorem dX9_readsSong_6 : decode cX9_readsSong 6 = .ok (.istore_n 1, 1) := by decide +kernel
theorem dX9_readsSong_7 : decode cX9_readsSong 7 = .ok (.iload_n 1, 1) := by decide +kernel
theorem dX9_readsSong_8 : decode cX9_readsSong 8 = .ok (.aload_n 0, 1) := by decide +kernel
theorem dX9_readsSong_9 : decode cX9_readsSong 9 = .ok (.getfield 7, 3) := by decide +kernel
theorem dX9_readsSong_12 : decode cX9_readsSong 12 = .ok (.iconst 1, 1) := by decide +kernel
theorem dX9_readsSong_13 : decode cX9_readsSong 13 = .ok (.iaload, 1) := by decide +kernel
theorem dX9_readsSong_14 : decode cX9_readsSong 14 = .ok (.if_icmp .ge 39, 3) := by decide +kernel
theorem dX9_readsSong_17 : decode cX9_readsSong 17 = .ok (.aload_n 0, 1) := by decide +kernel
theorem dX9_readsSong_18 : decode cX9_readsSong 18 = .ok (.iconst 1, 1) := by decide +kernel
theorem dX9_readsSong_19 : decode cX9_readsSong 19 = .ok (.iload_n 1, 1) := by decide +kernel
theorem dX9_readsSong_20 : decode cX9_readsSong 20 = .ok (.invokevirtual 124, 3) := by decide +kernel
theorem dX9_readsSong_23 : decode cX9_readsSong 23 = .ok (.istore_n 2, 1) := by decide +kernel
theorem dX9_readsSong_24 : decode cX9_readsSong 24 = .ok (.iload_n 2, 1) := by decide +kernel
theorem dX9_readsSong_25 : decode cX9_readsSong 25 = .ok (.bipush 97, 2) := by decide +kernel
theorem dX9_readsSong_27 : decode cX9_readsSong 27 = .ok (.bipush 104, 2) := by decide +kernel
theorem dX9_readsSong_29 : decode cX9_readsSong 29 = .ok (.invokestatic 116, 3) := by decide +kernel
theorem dX9_readsSong_32 : decode cX9_readsSong 32 = .ok (.ifCond .ne 5, 3) := by decide +kernel
theorem dX9_readsSong_35 : decode cX9_readsSong 35 = .ok (.iload_n 1, 1) := by decide +kernel
theorem dX9_readsSong_36 : decode cX9_readsSong 36 = .ok (.ireturn, 1) := by decide +kernel
theorem dX9_readsSong_37 : decode cX9_readsSong 37 = .ok (.aload_n 0, 1) := by decide +kernel
theorem dX9_readsSong_38 : decode cX9_readsSong 38 = .ok (.getfield 28, 3) := by decide +kernel
theorem dX9_readsSong_41 : decode cX9_readsSong 41 = .ok (.iload_n 1, 1) := by decide +kernel
theorem dX9_readsSong_42 : decode cX9_readsSong 42 = .ok (.iload_n 2, 1) := by decide +kernel
theorem dX9_readsSong_43 : decode cX9_readsSong 43 = .ok (.bipush 97, 2) := by decide +kernel
theorem dX9_readsSong_45 : decode cX9_readsSong 45 = .ok (.isub, 1) := by decide +kernel
theorem dX9_readsSong_46 : decode cX9_readsSong 46 = .ok (.iastore, 1) := by decide +kernel
theorem dX9_readsSong_47 : decode cX9_readsSong 47 = .ok (.iinc 1 1, 3) := by decide +kernel
theorem dX9_readsSong_50 : decode cX9_readsSong 50 = .ok (.goto (-43), 3) := by decide +kernel
theorem dX9_readsSong_53 : decode cX9_readsSong 53 = .ok (.aload_n 0, 1) := by decide +kernel
theorem dX9_readsSong_54 : decode cX9_readsSong 54 = .ok (.aload_n 0, 1) := by decide +kernel
theorem dX9_readsSong_55 : decode cX9_readsSong 55 = .ok (.getfield 7, 3) := by decide +kernel
theorem dX9_readsSong_58 : decode cX9_readsSong 58 = .ok (.iconst 1, 1) := by decide +kernel
theorem dX9_readsSong_59 : decode cX9_readsSong 59 = .ok (.iaload, 1) := by decide +kernel
theorem dX9_readsSong_60 : decode cX9_readsSong 60 = .ok (.putfield 134, 3) := by decide +kernel
theorem dX9_readsSong_63 : decode cX9_readsSong 63 = .ok (.iconst (-1), 1) := by decide +kernel
theorem dX9_readsSong_64 : decode cX9_readsSong 64 = .ok (.ireturn, 1) := by decide +kernel
theorem dX9_faultOf_0 : decode cX9_faultOf 0 = .ok (.aload_n 0, 1) := by decide +kernel
theorem dX9_faultOf_1 : decode cX9_faultOf 1 = .ok (.invokevirtual 137, 3) := by decide +kernel
theorem dX9_faultOf_4 : decode cX9_faultOf 4 = .ok (.istore_n 2, 1) := by decide +kernel
theorem dX9_faultOf_5 : decode cX9_faultOf 5 = .ok (.aload_n 0, 1) := by decide +kernel
theorem dX9_faultOf_6 : decode cX9_faultOf 6 = .ok (.invokevirtual 141, 3) := by decide +kernel
theorem dX9_faultOf_9 : decode cX9_faultOf 9 = .ok (.istore_n 3, 1) := by decide +kernel
theorem dX9_faultOf_10 : decode cX9_faultOf 10 = .ok (.iload_n 1, 1) := by decide +kernel
theorem dX9_faultOf_11 : decode cX9_faultOf 11 = .ok (.ifCond .ne 7, 3) := by decide +kernel
theorem dX9_faultOf_14 : decode cX9_faultOf 14 = .ok (.iload_n 2, 1) := by decide +kernel
theorem dX9_faultOf_15 : decode cX9_faultOf 15 = .ok (.goto 4, 3) := by decide +kernel
theorem dX9_faultOf_18 : decode cX9_faultOf 18 = .ok (.iload_n 3, 1) := by decide +kernel
theorem dX9_faultOf_19 : decode cX9_faultOf 19 = .ok (.ireturn, 1) := by decide +kernel
theorem dX9_reads_0 : decode cX9_reads 0 = .ok (.aload_n 0, 1) := by decide +kernel
theorem dX9_reads_1 : decode cX9_reads 1 = .ok (.iconst 0, 1) := by decide +kernel
theorem dX9_reads_2 : decode cX9_reads 2 = .ok (.invokevirtual 144, 3) := by decide +kernel
theorem dX9_reads_5 : decode cX9_reads 5 = .ok (.istore_n 1, 1) := by decide +kernel
theorem dX9_reads_6 : decode cX9_reads 6 = .ok (.return_, 1) := by decide +kernel
theorem dX9_fault_0 : decode cX9_fault 0 = .ok (.iload_n 1, 1) := by decide +kernel
theorem dX9_fault_1 : decode cX9_fault 1 = .ok (.invokestatic 120, 3) := by decide +kernel
theorem dX9_fault_4 : decode cX9_fault 4 = .ok (.ifCond .eq 11, 3) := by decide +kernel
theorem dX9_fault_7 : decode cX9_fault 7 = .ok (.aload_n 0, 1) := by decide +kernel
theorem dX9_fault_8 : decode cX9_fault 8 = .ok (.iload_n 1, 1) := by decide +kernel
theorem dX9_fault_9 : decode cX9_fault 9 = .ok (.invokevirtual 144, 3) := by decide +kernel
theorem dX9_fault_12 : decode cX9_fault 12 = .ok (.goto 5, 3) := by decide +kernel
theorem dX9_fault_15 : decode cX9_fault 15 = .ok (.bipush (-2), 2) := by decide +kernel
theorem dX9_fault_17 : decode cX9_fault 17 = .ok (.ireturn, 1) := by decide +kernel
theorem dX9_isBottle_0 : decode cX9_isBottle 0 = .ok (.aload_n 0, 1) := by decide +kernel
theorem dX9_isBottle_1 : decode cX9_isBottle 1 = .ok (.invokevirtual 148, 3) := by decide +kernel
theorem dX9_isBottle_4 : decode cX9_isBottle 4 = .ok (.iload_n 1, 1) := by decide +kernel
theorem dX9_isBottle_5 : decode cX9_isBottle 5 = .ok (.iconst 0, 1) := by decide +kernel
theorem dX9_isBottle_6 : decode cX9_isBottle 6 = .ok (.aload_n 0, 1) := by decide +kernel
theorem dX9_isBottle_7 : decode cX9_isBottle 7 = .ok (.getfield 128, 3) := by decide +kernel
theorem dX9_isBottle_10 : decode cX9_isBottle 10 = .ok (.iconst 1, 1) := by decide +kernel
theorem dX9_isBottle_11 : decode cX9_isBottle 11 = .ok (.isub, 1) := by decide +kernel
theorem dX9_isBottle_12 : decode cX9_isBottle 12 = .ok (.invokestatic 116, 3) := by decide +kernel
theorem dX9_isBottle_15 : decode cX9_isBottle 15 = .ok (.ireturn, 1) := by decide +kernel
theorem dX9_bottleOf_0 : decode cX9_bottleOf 0 = .ok (.iload_n 2, 1) := by decide +kernel
theorem dX9_bottleOf_1 : decode cX9_bottleOf 1 = .ok (.ifCond .ne 12, 3) := by decide +kernel
theorem dX9_bottleOf_4 : decode cX9_bottleOf 4 = .ok (.aload_n 0, 1) := by decide +kernel
theorem dX9_bottleOf_5 : decode cX9_bottleOf 5 = .ok (.getfield 16, 3) := by decide +kernel
theorem dX9_bottleOf_8 : decode cX9_bottleOf 8 = .ok (.iload_n 1, 1) := by decide +kernel
theorem dX9_bottleOf_9 : decode cX9_bottleOf 9 = .ok (.iaload, 1) := by decide +kernel
theorem dX9_bottleOf_10 : decode cX9_bottleOf 10 = .ok (.goto 37, 3) := by decide +kernel
theorem dX9_bottleOf_13 : decode cX9_bottleOf 13 = .ok (.iload_n 2, 1) := by decide +kernel
theorem dX9_bottleOf_14 : decode cX9_bottleOf 14 = .ok (.iconst 1, 1) := by decide +kernel
theorem dX9_bottleOf_15 : decode cX9_bottleOf 15 = .ok (.if_icmp .ne 12, 3) := by decide +kernel
theorem dX9_bottleOf_18 : decode cX9_bottleOf 18 = .ok (.aload_n 0, 1) := by decide +kernel
theorem dX9_bottleOf_19 : decode cX9_bottleOf 19 = .ok (.getfield 19, 3) := by decide +kernel
theorem dX9_bottleOf_22 : decode cX9_bottleOf 22 = .ok (.iload_n 1, 1) := by decide +kernel
theorem dX9_bottleOf_23 : decode cX9_bottleOf 23 = .ok (.iaload, 1) := by decide +kernel
theorem dX9_bottleOf_24 : decode cX9_bottleOf 24 = .ok (.goto 23, 3) := by decide +kernel
theorem dX9_bottleOf_27 : decode cX9_bottleOf 27 = .ok (.iload_n 2, 1) := by decide +kernel
theorem dX9_bottleOf_28 : decode cX9_bottleOf 28 = .ok (.iconst 2, 1) := by decide +kernel
theorem dX9_bottleOf_29 : decode cX9_bottleOf 29 = .ok (.if_icmp .ne 12, 3) := by decide +kernel
theorem dX9_bottleOf_32 : decode cX9_bottleOf 32 = .ok (.aload_n 0, 1) := by decide +kernel
theorem dX9_bottleOf_33 : decode cX9_bottleOf 33 = .ok (.getfield 22, 3) := by decide +kernel
theorem dX9_bottleOf_36 : decode cX9_bottleOf 36 = .ok (.iload_n 1, 1) := by decide +kernel
theorem dX9_bottleOf_37 : decode cX9_bottleOf 37 = .ok (.iaload, 1) := by decide +kernel
theorem dX9_bottleOf_38 : decode cX9_bottleOf 38 = .ok (.goto 9, 3) := by decide +kernel
theorem dX9_bottleOf_41 : decode cX9_bottleOf 41 = .ok (.aload_n 0, 1) := by decide +kernel
theorem dX9_bottleOf_42 : decode cX9_bottleOf 42 = .ok (.getfield 25, 3) := by decide +kernel
theorem dX9_bottleOf_45 : decode cX9_bottleOf 45 = .ok (.iload_n 1, 1) := by decide +kernel
theorem dX9_bottleOf_46 : decode cX9_bottleOf 46 = .ok (.iaload, 1) := by decide +kernel
theorem dX9_bottleOf_47 : decode cX9_bottleOf 47 = .ok (.ireturn, 1) := by decide +kernel
theorem dX9_bottle_0 : decode cX9_bottle 0 = .ok (.aload_n 0, 1) := by decide +kernel
theorem dX9_bottle_1 : decode cX9_bottle 1 = .ok (.iload_n 1, 1) := by decide +kernel
theorem dX9_bottle_2 : decode cX9_bottle 2 = .ok (.invokevirtual 151, 3) := by decide +kernel
theorem dX9_bottle_5 : decode cX9_bottle 5 = .ok (.ifCond .eq 21, 3) := by decide +kernel
theorem dX9_bottle_8 : decode cX9_bottle 8 = .ok (.iload_n 2, 1) := by decide +kernel
theorem dX9_bottle_9 : decode cX9_bottle 9 = .ok (.iconst 0, 1) := by decide +kernel
theorem dX9_bottle_10 : decode cX9_bottle 10 = .ok (.iconst 3, 1) := by decide +kernel
theorem dX9_bottle_11 : decode cX9_bottle 11 = .ok (.invokestatic 116, 3) := by decide +kernel
theorem dX9_bottle_14 : decode cX9_bottle 14 = .ok (.ifCond .eq 12, 3) := by decide +kernel
theorem dX9_bottle_17 : decode cX9_bottle 17 = .ok (.aload_n 0, 1) := by decide +kernel
theorem dX9_bottle_18 : decode cX9_bottle 18 = .ok (.iload_n 1, 1) := by decide +kernel
theorem dX9_bottle_19 : decode cX9_bottle 19 = .ok (.iload_n 2, 1) := by decide +kernel
theorem dX9_bottle_20 : decode cX9_bottle 20 = .ok (.invokevirtual 154, 3) := by decide +kernel
theorem dX9_bottle_23 : decode cX9_bottle 23 = .ok (.goto 5, 3) := by decide +kernel
theorem dX9_bottle_26 : decode cX9_bottle 26 = .ok (.bipush (-2), 2) := by decide +kernel
theorem dX9_bottle_28 : decode cX9_bottle 28 = .ok (.ireturn, 1) := by decide +kernel
theorem dX9_noteOf_0 : decode cX9_noteOf 0 = .ok (.aload_n 0, 1) := by decide +kernel
theorem dX9_noteOf_1 : decode cX9_noteOf 1 = .ok (.invokevirtual 148, 3) := by decide +kernel
theorem dX9_noteOf_4 : decode cX9_noteOf 4 = .ok (.iload_n 1, 1) := by decide +kernel
theorem dX9_noteOf_5 : decode cX9_noteOf 5 = .ok (.aload_n 0, 1) := by decide +kernel
theorem dX9_noteOf_6 : decode cX9_noteOf 6 = .ok (.getfield 134, 3) := by decide +kernel
theorem dX9_noteOf_9 : decode cX9_noteOf 9 = .ok (.if_icmp .ge 12, 3) := by decide +kernel
theorem dX9_noteOf_12 : decode cX9_noteOf 12 = .ok (.aload_n 0, 1) := by decide +kernel
theorem dX9_noteOf_13 : decode cX9_noteOf 13 = .ok (.getfield 28, 3) := by decide +kernel
theorem dX9_noteOf_16 : decode cX9_noteOf 16 = .ok (.iload_n 1, 1) := by decide +kernel
theorem dX9_noteOf_17 : decode cX9_noteOf 17 = .ok (.iaload, 1) := by decide +kernel
theorem dX9_noteOf_18 : decode cX9_noteOf 18 = .ok (.goto 4, 3) := by decide +kernel
theorem dX9_noteOf_21 : decode cX9_noteOf 21 = .ok (.iconst (-1), 1) := by decide +kernel
theorem dX9_noteOf_22 : decode cX9_noteOf 22 = .ok (.ireturn, 1) := by decide +kernel
theorem dX9_note_0 : decode cX9_note 0 = .ok (.iload_n 1, 1) := by decide +kernel
theorem dX9_note_1 : decode cX9_note 1 = .ok (.invokestatic 157, 3) := by decide +kernel
theorem dX9_note_4 : decode cX9_note 4 = .ok (.ifCond .eq 11, 3) := by decide +kernel
theorem dX9_note_7 : decode cX9_note 7 = .ok (.aload_n 0, 1) := by decide +kernel
theorem dX9_note_8 : decode cX9_note 8 = .ok (.iload_n 1, 1) := by decide +kernel
theorem dX9_note_9 : decode cX9_note 9 = .ok (.invokevirtual 160, 3) := by decide +kernel
theorem dX9_note_12 : decode cX9_note 12 = .ok (.goto 5, 3) := by decide +kernel
theorem dX9_note_15 : decode cX9_note 15 = .ok (.bipush (-2), 2) := by decide +kernel
theorem dX9_note_17 : decode cX9_note 17 = .ok (.ireturn, 1) := by decide +kernel
theorem dX9_burst_0 : decode cX9_burst 0 = .ok (.iload_n 1, 1) := by decide +kernel
theorem dX9_burst_1 : decode cX9_burst 1 = .ok (.iconst 1, 1) := by decide +kernel
theorem dX9_burst_2 : decode cX9_burst 2 = .ok (.sipush 200, 3) := by decide +kernel
theorem dX9_burst_5 : decode cX9_burst 5 = .ok (.invokestatic 116, 3) := by decide +kernel
theorem dX9_burst_8 : decode cX9_burst 8 = .ok (.ifCond .ne 6, 3) := by decide +kernel
theorem dX9_burst_11 : decode cX9_burst 11 = .ok (.bipush (-2), 2) := by decide +kernel
theorem dX9_burst_13 : decode cX9_burst 13 = .ok (.ireturn, 1) := by decide +kernel
theorem dX9_burst_14 : decode cX9_burst 14 = .ok (.aload_n 0, 1) := by decide +kernel
theorem dX9_burst_15 : decode cX9_burst 15 = .ok (.getfield 110, 3) := by decide +kernel
theorem dX9_burst_18 : decode cX9_burst 18 = .ok (.istore_n 2, 1) := by decide +kernel
theorem dX9_burst_19 : decode cX9_burst 19 = .ok (.aload_n 0, 1) := by decide +kernel
theorem dX9_burst_20 : decode cX9_burst 20 = .ok (.iload_n 1, 1) := by decide +kernel
theorem dX9_burst_21 : decode cX9_burst 21 = .ok (.putfield 110, 3) := by decide +kernel
theorem dX9_burst_24 : decode cX9_burst 24 = .ok (.iload_n 2, 1) := by decide +kernel
theorem dX9_burst_25 : decode cX9_burst 25 = .ok (.ireturn, 1) := by decide +kernel
theorem dX9_hot_0 : decode cX9_hot 0 = .ok (.iload_n 1, 1) := by decide +kernel
theorem dX9_hot_1 : decode cX9_hot 1 = .ok (.invokestatic 163, 3) := by decide +kernel
theorem dX9_hot_4 : decode cX9_hot 4 = .ok (.ifCond .ne 6, 3) := by decide +kernel
theorem dX9_hot_7 : decode cX9_hot 7 = .ok (.bipush (-2), 2) := by decide +kernel
theorem dX9_hot_9 : decode cX9_hot 9 = .ok (.ireturn, 1) := by decide +kernel
theorem dX9_hot_10 : decode cX9_hot 10 = .ok (.aload_n 0, 1) := by decide +kernel
theorem dX9_hot_11 : decode cX9_hot 11 = .ok (.getfield 166, 3) := by decide +kernel
theorem dX9_hot_14 : decode cX9_hot 14 = .ok (.bipush 8, 2) := by decide +kernel
theorem dX9_hot_16 : decode cX9_hot 16 = .ok (.if_icmp .ne 6, 3) := by decide +kernel
theorem dX9_hot_19 : decode cX9_hot 19 = .ok (.bipush (-4), 2) := by decide +kernel
theorem dX9_hot_21 : decode cX9_hot 21 = .ok (.ireturn, 1) := by decide +kernel
theorem dX9_hot_22 : decode cX9_hot 22 = .ok (.aload_n 0, 1) := by decide +kernel
theorem dX9_hot_23 : decode cX9_hot 23 = .ok (.getfield 31, 3) := by decide +kernel
theorem dX9_hot_26 : decode cX9_hot 26 = .ok (.aload_n 0, 1) := by decide +kernel
theorem dX9_hot_27 : decode cX9_hot 27 = .ok (.getfield 166, 3) := by decide +kernel
theorem dX9_hot_30 : decode cX9_hot 30 = .ok (.iload_n 1, 1) := by decide +kernel
theorem dX9_hot_31 : decode cX9_hot 31 = .ok (.iastore, 1) := by decide +kernel
theorem dX9_hot_32 : decode cX9_hot 32 = .ok (.aload_n 0, 1) := by decide +kernel
theorem dX9_hot_33 : decode cX9_hot 33 = .ok (.dup, 1) := by decide +kernel
theorem dX9_hot_34 : decode cX9_hot 34 = .ok (.getfield 166, 3) := by decide +kernel
theorem dX9_hot_37 : decode cX9_hot 37 = .ok (.iconst 1, 1) := by decide +kernel
theorem dX9_hot_38 : decode cX9_hot 38 = .ok (.iadd, 1) := by decide +kernel
theorem dX9_hot_39 : decode cX9_hot 39 = .ok (.putfield 166, 3) := by decide +kernel
theorem dX9_hot_42 : decode cX9_hot 42 = .ok (.aload_n 0, 1) := by decide +kernel
theorem dX9_hot_43 : decode cX9_hot 43 = .ok (.getfield 166, 3) := by decide +kernel
theorem dX9_hot_46 : decode cX9_hot 46 = .ok (.ireturn, 1) := by decide +kernel
theorem dX9_act_0 : decode cX9_act 0 = .ok (.iload_n 2, 1) := by decide +kernel
theorem dX9_act_1 : decode cX9_act 1 = .ok (.ifCond .ne 7, 3) := by decide +kernel
theorem dX9_act_4 : decode cX9_act 4 = .ok (.iconst 5, 1) := by decide +kernel
theorem dX9_act_5 : decode cX9_act 5 = .ok (.goto 14, 3) := by decide +kernel
theorem dX9_act_8 : decode cX9_act 8 = .ok (.iload_n 2, 1) := by decide +kernel
theorem dX9_act_9 : decode cX9_act 9 = .ok (.iconst 1, 1) := by decide +kernel
theorem dX9_act_10 : decode cX9_act 10 = .ok (.if_icmp .ne 8, 3) := by decide +kernel
theorem dX9_act_13 : decode cX9_act 13 = .ok (.bipush 7, 2) := by decide +kernel
theorem dX9_act_15 : decode cX9_act 15 = .ok (.goto 4, 3) := by decide +kernel
theorem dX9_act_18 : decode cX9_act 18 = .ok (.iconst 0, 1) := by decide +kernel
theorem dX9_act_19 : decode cX9_act 19 = .ok (.istore 5, 2) := by decide +kernel
theorem dX9_act_21 : decode cX9_act 21 = .ok (.iload_n 1, 1) := by decide +kernel
theorem dX9_act_22 : decode cX9_act 22 = .ok (.invokestatic 163, 3) := by decide +kernel
theorem dX9_act_25 : decode cX9_act 25 = .ok (.ifCond .eq 30, 3) := by decide +kernel
theorem dX9_act_28 : decode cX9_act 28 = .ok (.iload_n 2, 1) := by decide +kernel
theorem dX9_act_29 : decode cX9_act 29 = .ok (.iconst 0, 1) := by decide +kernel
theorem dX9_act_30 : decode cX9_act 30 = .ok (.iconst 3, 1) := by decide +kernel
theorem dX9_act_31 : decode cX9_act 31 = .ok (.invokestatic 116, 3) := by decide +kernel
theorem dX9_act_34 : decode cX9_act 34 = .ok (.ifCond .eq 21, 3) := by decide +kernel
theorem dX9_act_37 : decode cX9_act 37 = .ok (.iload_n 3, 1) := by decide +kernel
theorem dX9_act_38 : decode cX9_act 38 = .ok (.invokestatic 157, 3) := by decide +kernel
theorem dX9_act_41 : decode cX9_act 41 = .ok (.ifCond .eq 14, 3) := by decide +kernel
theorem dX9_act_44 : decode cX9_act 44 = .ok (.iload 4, 2) := by decide +kernel
theorem dX9_act_46 : decode cX9_act 46 = .ok (.iconst 0, 1) := by decide +kernel
theorem dX9_act_47 : decode cX9_act 47 = .ok (.iload 5, 2) := by decide +kernel
theorem dX9_act_49 : decode cX9_act 49 = .ok (.invokestatic 116, 3) := by decide +kernel
theorem dX9_act_52 : decode cX9_act 52 = .ok (.ifCond .ne 6, 3) := by decide +kernel
theorem dX9_act_55 : decode cX9_act 55 = .ok (.bipush (-2), 2) := by decide +kernel
theorem dX9_act_57 : decode cX9_act 57 = .ok (.ireturn, 1) := by decide +kernel
theorem dX9_act_58 : decode cX9_act 58 = .ok (.aload_n 0, 1) := by decide +kernel
theorem dX9_act_59 : decode cX9_act 59 = .ok (.getfield 169, 3) := by decide +kernel
theorem dX9_act_62 : decode cX9_act 62 = .ok (.bipush 16, 2) := by decide +kernel
theorem dX9_act_64 : decode cX9_act 64 = .ok (.if_icmp .ne 6, 3) := by decide +kernel
theorem dX9_act_67 : decode cX9_act 67 = .ok (.bipush (-4), 2) := by decide +kernel
theorem dX9_act_69 : decode cX9_act 69 = .ok (.ireturn, 1) := by decide +kernel
theorem dX9_act_70 : decode cX9_act 70 = .ok (.aload_n 0, 1) := by decide +kernel
theorem dX9_act_71 : decode cX9_act 71 = .ok (.getfield 34, 3) := by decide +kernel
theorem dX9_act_74 : decode cX9_act 74 = .ok (.aload_n 0, 1) := by decide +kernel
theorem dX9_act_75 : decode cX9_act 75 = .ok (.getfield 169, 3) := by decide +kernel
theorem dX9_act_78 : decode cX9_act 78 = .ok (.iload_n 1, 1) := by decide +kernel
theorem dX9_act_79 : decode cX9_act 79 = .ok (.iastore, 1) := by decide +kernel
theorem dX9_act_80 : decode cX9_act 80 = .ok (.aload_n 0, 1) := by decide +kernel
theorem dX9_act_81 : decode cX9_act 81 = .ok (.getfield 37, 3) := by decide +kernel
theorem dX9_act_84 : decode cX9_act 84 = .ok (.aload_n 0, 1) := by decide +kernel
theorem dX9_act_85 : decode cX9_act 85 = .ok (.getfield 169, 3) := by decide +kernel
theorem dX9_act_88 : decode cX9_act 88 = .ok (.iload_n 2, 1) := by decide +kernel
theorem dX9_act_89 : decode cX9_act 89 = .ok (.iastore, 1) := by decide +kernel
theorem dX9_act_90 : decode cX9_act 90 = .ok (.aload_n 0, 1) := by decide +kernel
theorem dX9_act_91 : decode cX9_act 91 = .ok (.getfield 40, 3) := by decide +kernel
theorem dX9_act_94 : decode cX9_act 94 = .ok (.aload_n 0, 1) := by decide +kernel
theorem dX9_act_95 : decode cX9_act 95 = .ok (.getfield 169, 3) := by decide +kernel
theorem dX9_act_98 : decode cX9_act 98 = .ok (.iload_n 3, 1) := by decide +kernel
theorem dX9_act_99 : decode cX9_act 99 = .ok (.iastore, 1) := by decide +kernel
theorem dX9_act_100 : decode cX9_act 100 = .ok (.aload_n 0, 1) := by decide +kernel
theorem dX9_act_101 : decode cX9_act 101 = .ok (.getfield 43, 3) := by decide +kernel
theorem dX9_act_104 : decode cX9_act 104 = .ok (.aload_n 0, 1) := by decide +kernel
theorem dX9_act_105 : decode cX9_act 105 = .ok (.getfield 169, 3) := by decide +kernel
theorem dX9_act_108 : decode cX9_act 108 = .ok (.iload 4, 2) := by decide +kernel
theorem dX9_act_110 : decode cX9_act 110 = .ok (.iastore, 1) := by decide +kernel
theorem dX9_act_111 : decode cX9_act 111 = .ok (.aload_n 0, 1) := by decide +kernel
theorem dX9_act_112 : decode cX9_act 112 = .ok (.dup, 1) := by decide +kernel
theorem dX9_act_113 : decode cX9_act 113 = .ok (.getfield 169, 3) := by decide +kernel
theorem dX9_act_116 : decode cX9_act 116 = .ok (.iconst 1, 1) := by decide +kernel
theorem dX9_act_117 : decode cX9_act 117 = .ok (.iadd, 1) := by decide +kernel
theorem dX9_act_118 : decode cX9_act 118 = .ok (.putfield 169, 3) := by decide +kernel
theorem dX9_act_121 : decode cX9_act 121 = .ok (.aload_n 0, 1) := by decide +kernel
theorem dX9_act_122 : decode cX9_act 122 = .ok (.getfield 169, 3) := by decide +kernel
theorem dX9_act_125 : decode cX9_act 125 = .ok (.ireturn, 1) := by decide +kernel
theorem dX9_back_0 : decode cX9_back 0 = .ok (.iload_n 1, 1) := by decide +kernel
theorem dX9_back_1 : decode cX9_back 1 = .ok (.iconst 0, 1) := by decide +kernel
theorem dX9_back_2 : decode cX9_back 2 = .ok (.iconst 1, 1) := by decide +kernel
theorem dX9_back_3 : decode cX9_back 3 = .ok (.invokestatic 116, 3) := by decide +kernel
theorem dX9_back_6 : decode cX9_back 6 = .ok (.ifCond .ne 6, 3) := by decide +kernel
theorem dX9_back_9 : decode cX9_back 9 = .ok (.bipush (-2), 2) := by decide +kernel
theorem dX9_back_11 : decode cX9_back 11 = .ok (.ireturn, 1) := by decide +kernel
theorem dX9_back_12 : decode cX9_back 12 = .ok (.iload_n 1, 1) := by decide +kernel
theorem dX9_back_13 : decode cX9_back 13 = .ok (.ifCond .ne 10, 3) := by decide +kernel
theorem dX9_back_16 : decode cX9_back 16 = .ok (.aload_n 0, 1) := by decide +kernel
theorem dX9_back_17 : decode cX9_back 17 = .ok (.getfield 169, 3) := by decide +kernel
theorem dX9_back_20 : decode cX9_back 20 = .ok (.goto 7, 3) := by decide +kernel
theorem dX9_back_23 : decode cX9_back 23 = .ok (.aload_n 0, 1) := by decide +kernel
theorem dX9_back_24 : decode cX9_back 24 = .ok (.getfield 166, 3) := by decide +kernel
theorem dX9_back_27 : decode cX9_back 27 = .ok (.istore_n 2, 1) := by decide +kernel
theorem dX9_back_28 : decode cX9_back 28 = .ok (.iload_n 2, 1) := by decide +kernel
theorem dX9_back_29 : decode cX9_back 29 = .ok (.ifCond .ne 6, 3) := by decide +kernel
theorem dX9_back_32 : decode cX9_back 32 = .ok (.bipush (-3), 2) := by decide +kernel
theorem dX9_back_34 : decode cX9_back 34 = .ok (.ireturn, 1) := by decide +kernel
theorem dX9_back_35 : decode cX9_back 35 = .ok (.aload_n 0, 1) := by decide +kernel
theorem dX9_back_36 : decode cX9_back 36 = .ok (.dup, 1) := by decide +kernel
theorem dX9_back_37 : decode cX9_back 37 = .ok (.getfield 169, 3) := by decide +kernel
theorem dX9_back_40 : decode cX9_back 40 = .ok (.iload_n 1, 1) := by decide +kernel
theorem dX9_back_41 : decode cX9_back 41 = .ok (.ifCond .ne 7, 3) := by decide +kernel
theorem dX9_back_44 : decode cX9_back 44 = .ok (.iconst 1, 1) := by decide +kernel
theorem dX9_back_45 : decode cX9_back 45 = .ok (.goto 4, 3) := by decide +kernel
theorem dX9_back_48 : decode cX9_back 48 = .ok (.iconst 0, 1) := by decide +kernel
theorem dX9_back_49 : decode cX9_back 49 = .ok (.isub, 1) := by decide +kernel
theorem dX9_back_50 : decode cX9_back 50 = .ok (.putfield 169, 3) := by decide +kernel
theorem dX9_back_53 : decode cX9_back 53 = .ok (.aload_n 0, 1) := by decide +kernel
theorem dX9_back_54 : decode cX9_back 54 = .ok (.dup, 1) := by decide +kernel
theorem dX9_back_55 : decode cX9_back 55 = .ok (.getfield 166, 3) := by decide +kernel
theorem dX9_back_58 : decode cX9_back 58 = .ok (.iload_n 1, 1) := by decide +kernel
theorem dX9_back_59 : decode cX9_back 59 = .ok (.iconst 1, 1) := by decide +kernel
theorem dX9_back_60 : decode cX9_back 60 = .ok (.if_icmp .ne 7, 3) := by decide +kernel
theorem dX9_back_63 : decode cX9_back 63 = .ok (.iconst 1, 1) := by decide +kernel
theorem dX9_back_64 : decode cX9_back 64 = .ok (.goto 4, 3) := by decide +kernel
theorem dX9_back_67 : decode cX9_back 67 = .ok (.iconst 0, 1) := by decide +kernel
theorem dX9_back_68 : decode cX9_back 68 = .ok (.isub, 1) := by decide +kernel
theorem dX9_back_69 : decode cX9_back 69 = .ok (.putfield 166, 3) := by decide +kernel
theorem dX9_back_72 : decode cX9_back 72 = .ok (.iload_n 2, 1) := by decide +kernel
theorem dX9_back_73 : decode cX9_back 73 = .ok (.iconst 1, 1) := by decide +kernel
theorem dX9_back_74 : decode cX9_back 74 = .ok (.isub, 1) := by decide +kernel
theorem dX9_back_75 : decode cX9_back 75 = .ok (.ireturn, 1) := by decide +kernel
theorem dX9_read_0 : decode cX9_read 0 = .ok (.iload_n 1, 1) := by decide +kernel
theorem dX9_read_1 : decode cX9_read 1 = .ok (.invokestatic 172, 3) := by decide +kernel
theorem dX9_read_4 : decode cX9_read 4 = .ok (.ifCond .ne 6, 3) := by decide +kernel
theorem dX9_read_7 : decode cX9_read 7 = .ok (.bipush (-2), 2) := by decide +kernel
theorem dX9_read_9 : decode cX9_read 9 = .ok (.ireturn, 1) := by decide +kernel
theorem dX9_read_10 : decode cX9_read 10 = .ok (.aload_n 0, 1) := by decide +kernel
theorem dX9_read_11 : decode cX9_read 11 = .ok (.getfield 95, 3) := by decide +kernel
theorem dX9_read_14 : decode cX9_read 14 = .ok (.iload_n 1, 1) := by decide +kernel
theorem dX9_read_15 : decode cX9_read 15 = .ok (.baload, 1) := by decide +kernel
theorem dX9_read_16 : decode cX9_read 16 = .ok (.ifCond .ne 9, 3) := by decide +kernel
theorem dX9_read_19 : decode cX9_read 19 = .ok (.aload_n 0, 1) := by decide +kernel
theorem dX9_read_20 : decode cX9_read 20 = .ok (.iconst 1, 1) := by decide +kernel
theorem dX9_read_21 : decode cX9_read 21 = .ok (.invokevirtual 175, 3) := by decide +kernel
theorem dX9_read_24 : decode cX9_read 24 = .ok (.ireturn, 1) := by decide +kernel
theorem dX9_read_25 : decode cX9_read 25 = .ok (.iconst 0, 1) := by decide +kernel
theorem dX9_read_26 : decode cX9_read 26 = .ok (.istore_n 2, 1) := by decide +kernel
theorem dX9_read_27 : decode cX9_read 27 = .ok (.iconst 4, 1) := by decide +kernel
theorem dX9_read_28 : decode cX9_read 28 = .ok (.iload_n 2, 1) := by decide +kernel
theorem dX9_read_29 : decode cX9_read 29 = .ok (.imul, 1) := by decide +kernel
theorem dX9_read_30 : decode cX9_read 30 = .ok (.iconst 3, 1) := by decide +kernel
theorem dX9_read_31 : decode cX9_read 31 = .ok (.iadd, 1) := by decide +kernel
theorem dX9_read_32 : decode cX9_read 32 = .ok (.aload_n 0, 1) := by decide +kernel
theorem dX9_read_33 : decode cX9_read 33 = .ok (.getfield 101, 3) := by decide +kernel
theorem dX9_read_36 : decode cX9_read 36 = .ok (.iload_n 1, 1) := by decide +kernel
theorem dX9_read_37 : decode cX9_read 37 = .ok (.iaload, 1) := by decide +kernel
theorem dX9_read_38 : decode cX9_read 38 = .ok (.if_icmp .ge 74, 3) := by decide +kernel
theorem dX9_read_41 : decode cX9_read 41 = .ok (.aload_n 0, 1) := by decide +kernel
theorem dX9_read_42 : decode cX9_read 42 = .ok (.aload_n 0, 1) := by decide +kernel
theorem dX9_read_43 : decode cX9_read 43 = .ok (.getfield 104, 3) := by decide +kernel
theorem dX9_read_46 : decode cX9_read 46 = .ok (.bipush 60, 2) := by decide +kernel
theorem dX9_read_48 : decode cX9_read 48 = .ok (.iload_n 1, 1) := by decide +kernel
theorem dX9_read_49 : decode cX9_read 49 = .ok (.imul, 1) := by decide +kernel
theorem dX9_read_50 : decode cX9_read 50 = .ok (.iconst 4, 1) := by decide +kernel
theorem dX9_read_51 : decode cX9_read 51 = .ok (.iload_n 2, 1) := by decide +kernel
theorem dX9_read_52 : decode cX9_read 52 = .ok (.imul, 1) := by decide +kernel
theorem dX9_read_53 : decode cX9_read 53 = .ok (.iadd, 1) := by decide +kernel
theorem dX9_read_54 : decode cX9_read 54 = .ok (.iaload, 1) := by decide +kernel
theorem dX9_read_55 : decode cX9_read 55 = .ok (.aload_n 0, 1) := by decide +kernel
theorem dX9_read_56 : decode cX9_read 56 = .ok (.getfield 104, 3) := by decide +kernel
theorem dX9_read_59 : decode cX9_read 59 = .ok (.bipush 60, 2) := by decide +kernel
theorem dX9_read_61 : decode cX9_read 61 = .ok (.iload_n 1, 1) := by decide +kernel
theorem dX9_read_62 : decode cX9_read 62 = .ok (.imul, 1) := by decide +kernel
theorem dX9_read_63 : decode cX9_read 63 = .ok (.iconst 4, 1) := by decide +kernel
theorem dX9_read_64 : decode cX9_read 64 = .ok (.iload_n 2, 1) := by decide +kernel
theorem dX9_read_65 : decode cX9_read 65 = .ok (.imul, 1) := by decide +kernel
theorem dX9_read_66 : decode cX9_read 66 = .ok (.iadd, 1) := by decide +kernel
theorem dX9_read_67 : decode cX9_read 67 = .ok (.iconst 1, 1) := by decide +kernel
theorem dX9_read_68 : decode cX9_read 68 = .ok (.iadd, 1) := by decide +kernel
theorem dX9_read_69 : decode cX9_read 69 = .ok (.iaload, 1) := by decide +kernel
theorem dX9_read_70 : decode cX9_read 70 = .ok (.aload_n 0, 1) := by decide +kernel
theorem dX9_read_71 : decode cX9_read 71 = .ok (.getfield 104, 3) := by decide +kernel
theorem dX9_read_74 : decode cX9_read 74 = .ok (.bipush 60, 2) := by decide +kernel
theorem dX9_read_76 : decode cX9_read 76 = .ok (.iload_n 1, 1) := by decide +kernel
theorem dX9_read_77 : decode cX9_read 77 = .ok (.imul, 1) := by decide +kernel
theorem dX9_read_78 : decode cX9_read 78 = .ok (.iconst 4, 1) := by decide +kernel
theorem dX9_read_79 : decode cX9_read 79 = .ok (.iload_n 2, 1) := by decide +kernel
theorem dX9_read_80 : decode cX9_read 80 = .ok (.imul, 1) := by decide +kernel
theorem dX9_read_81 : decode cX9_read 81 = .ok (.iadd, 1) := by decide +kernel
theorem dX9_read_82 : decode cX9_read 82 = .ok (.iconst 2, 1) := by decide +kernel
theorem dX9_read_83 : decode cX9_read 83 = .ok (.iadd, 1) := by decide +kernel
theorem dX9_read_84 : decode cX9_read 84 = .ok (.iaload, 1) := by decide +kernel
theorem dX9_read_85 : decode cX9_read 85 = .ok (.aload_n 0, 1) := by decide +kernel
theorem dX9_read_86 : decode cX9_read 86 = .ok (.getfield 104, 3) := by decide +kernel
theorem dX9_read_89 : decode cX9_read 89 = .ok (.bipush 60, 2) := by decide +kernel
theorem dX9_read_91 : decode cX9_read 91 = .ok (.iload_n 1, 1) := by decide +kernel
theorem dX9_read_92 : decode cX9_read 92 = .ok (.imul, 1) := by decide +kernel
theorem dX9_read_93 : decode cX9_read 93 = .ok (.iconst 4, 1) := by decide +kernel
theorem dX9_read_94 : decode cX9_read 94 = .ok (.iload_n 2, 1) := by decide +kernel
theorem dX9_read_95 : decode cX9_read 95 = .ok (.imul, 1) := by decide +kernel
theorem dX9_read_96 : decode cX9_read 96 = .ok (.iadd, 1) := by decide +kernel
theorem dX9_read_97 : decode cX9_read 97 = .ok (.iconst 3, 1) := by decide +kernel
theorem dX9_read_98 : decode cX9_read 98 = .ok (.iadd, 1) := by decide +kernel
theorem dX9_read_99 : decode cX9_read 99 = .ok (.iaload, 1) := by decide +kernel
theorem dX9_read_100 : decode cX9_read 100 = .ok (.invokevirtual 178, 3) := by decide +kernel
theorem dX9_read_103 : decode cX9_read 103 = .ok (.ifCond .le 9, 3) := by decide +kernel
theorem dX9_read_106 : decode cX9_read 106 = .ok (.iinc 2 1, 3) := by decide +kernel
theorem dX9_read_109 : decode cX9_read 109 = .ok (.goto (-82), 3) := by decide +kernel
theorem dX9_read_112 : decode cX9_read 112 = .ok (.iload_n 2, 1) := by decide +kernel
theorem dX9_read_113 : decode cX9_read 113 = .ok (.ireturn, 1) := by decide +kernel
theorem dX9_asTold_0 : decode cX9_asTold 0 = .ok (.aload_n 0, 1) := by decide +kernel
theorem dX9_asTold_1 : decode cX9_asTold 1 = .ok (.invokevirtual 148, 3) := by decide +kernel
theorem dX9_asTold_4 : decode cX9_asTold 4 = .ok (.aload_n 0, 1) := by decide +kernel
theorem dX9_asTold_5 : decode cX9_asTold 5 = .ok (.iconst (-1), 1) := by decide +kernel
theorem dX9_asTold_6 : decode cX9_asTold 6 = .ok (.putfield 182, 3) := by decide +kernel
theorem dX9_asTold_9 : decode cX9_asTold 9 = .ok (.aload_n 0, 1) := by decide +kernel
theorem dX9_asTold_10 : decode cX9_asTold 10 = .ok (.iconst (-1), 1) := by decide +kernel
theorem dX9_asTold_11 : decode cX9_asTold 11 = .ok (.putfield 185, 3) := by decide +kernel
theorem dX9_asTold_14 : decode cX9_asTold 14 = .ok (.aload_n 0, 1) := by decide +kernel
theorem dX9_asTold_15 : decode cX9_asTold 15 = .ok (.iconst (-1), 1) := by decide +kernel
theorem dX9_asTold_16 : decode cX9_asTold 16 = .ok (.putfield 188, 3) := by decide +kernel
theorem dX9_asTold_19 : decode cX9_asTold 19 = .ok (.aload_n 0, 1) := by decide +kernel
theorem dX9_asTold_20 : decode cX9_asTold 20 = .ok (.iconst 0, 1) := by decide +kernel
theorem dX9_asTold_21 : decode cX9_asTold 21 = .ok (.putfield 191, 3) := by decide +kernel
theorem dX9_asTold_24 : decode cX9_asTold 24 = .ok (.aload_n 0, 1) := by decide +kernel
theorem dX9_asTold_25 : decode cX9_asTold 25 = .ok (.iconst 0, 1) := by decide +kernel
theorem dX9_asTold_26 : decode cX9_asTold 26 = .ok (.putfield 194, 3) := by decide +kernel
theorem dX9_asTold_29 : decode cX9_asTold 29 = .ok (.iconst 0, 1) := by decide +kernel
theorem dX9_asTold_30 : decode cX9_asTold 30 = .ok (.istore_n 1, 1) := by decide +kernel
theorem dX9_asTold_31 : decode cX9_asTold 31 = .ok (.iload_n 1, 1) := by decide +kernel
theorem dX9_asTold_32 : decode cX9_asTold 32 = .ok (.bipush 40, 2) := by decide +kernel
theorem dX9_asTold_34 : decode cX9_asTold 34 = .ok (.if_icmp .ge 16, 3) := by decide +kernel
theorem dX9_asTold_37 : decode cX9_asTold 37 = .ok (.aload_n 0, 1) := by decide +kernel
theorem dX9_asTold_38 : decode cX9_asTold 38 = .ok (.getfield 68, 3) := by decide +kernel
theorem dX9_asTold_41 : decode cX9_asTold 41 = .ok (.iload_n 1, 1) := by decide +kernel
theorem dX9_asTold_42 : decode cX9_asTold 42 = .ok (.iconst 0, 1) := by decide +kernel
theorem dX9_asTold_43 : decode cX9_asTold 43 = .ok (.bastore, 1) := by decide +kernel
theorem dX9_asTold_44 : decode cX9_asTold 44 = .ok (.iinc 1 1, 3) := by decide +kernel
theorem dX9_asTold_47 : decode cX9_asTold 47 = .ok (.goto (-16), 3) := by decide +kernel
theorem dX9_asTold_50 : decode cX9_asTold 50 = .ok (.iconst 0, 1) := by decide +kernel
theorem dX9_asTold_51 : decode cX9_asTold 51 = .ok (.istore_n 1, 1) := by decide +kernel
theorem dX9_asTold_52 : decode cX9_asTold 52 = .ok (.iload_n 1, 1) := by decide +kernel
theorem dX9_asTold_53 : decode cX9_asTold 53 = .ok (.aload_n 0, 1) := by decide +kernel
theorem dX9_asTold_54 : decode cX9_asTold 54 = .ok (.getfield 166, 3) := by decide +kernel
theorem dX9_asTold_57 : decode cX9_asTold 57 = .ok (.if_icmp .ge 21, 3) := by decide +kernel
theorem dX9_asTold_60 : decode cX9_asTold 60 = .ok (.aload_n 0, 1) := by decide +kernel
theorem dX9_asTold_61 : decode cX9_asTold 61 = .ok (.getfield 68, 3) := by decide +kernel
theorem dX9_asTold_64 : decode cX9_asTold 64 = .ok (.aload_n 0, 1) := by decide +kernel
theorem dX9_asTold_65 : decode cX9_asTold 65 = .ok (.getfield 31, 3) := by decide +kernel
theorem dX9_asTold_68 : decode cX9_asTold 68 = .ok (.iload_n 1, 1) := by decide +kernel
theorem dX9_asTold_69 : decode cX9_asTold 69 = .ok (.iaload, 1) := by decide +kernel
theorem dX9_asTold_70 : decode cX9_asTold 70 = .ok (.iconst 1, 1) := by decide +kernel
theorem dX9_asTold_71 : decode cX9_asTold 71 = .ok (.bastore, 1) := by decide +kernel
theorem dX9_asTold_72 : decode cX9_asTold 72 = .ok (.iinc 1 1, 3) := by decide +kernel
theorem dX9_asTold_75 : decode cX9_asTold 75 = .ok (.goto (-23), 3) := by decide +kernel
theorem dX9_asTold_78 : decode cX9_asTold 78 = .ok (.return_, 1) := by decide +kernel
theorem dX9_as_0 : decode cX9_as 0 = .ok (.iload_n 1, 1) := by decide +kernel
theorem dX9_as_1 : decode cX9_as 1 = .ok (.aload_n 0, 1) := by decide +kernel
theorem dX9_as_2 : decode cX9_as 2 = .ok (.getfield 185, 3) := by decide +kernel
theorem dX9_as_5 : decode cX9_as 5 = .ok (.if_icmp .ne 10, 3) := by decide +kernel
theorem dX9_as_8 : decode cX9_as 8 = .ok (.aload_n 0, 1) := by decide +kernel
theorem dX9_as_9 : decode cX9_as 9 = .ok (.getfield 188, 3) := by decide +kernel
theorem dX9_as_12 : decode cX9_as 12 = .ok (.goto 19, 3) := by decide +kernel
theorem dX9_as_15 : decode cX9_as 15 = .ok (.iload_n 1, 1) := by decide +kernel
theorem dX9_as_16 : decode cX9_as 16 = .ok (.aload_n 0, 1) := by decide +kernel
theorem dX9_as_17 : decode cX9_as 17 = .ok (.getfield 188, 3) := by decide +kernel
theorem dX9_as_20 : decode cX9_as 20 = .ok (.if_icmp .ne 10, 3) := by decide +kernel
theorem dX9_as_23 : decode cX9_as 23 = .ok (.aload_n 0, 1) := by decide +kernel
theorem dX9_as_24 : decode cX9_as 24 = .ok (.getfield 185, 3) := by decide +kernel
theorem dX9_as_27 : decode cX9_as 27 = .ok (.goto 4, 3) := by decide +kernel
theorem dX9_as_30 : decode cX9_as 30 = .ok (.iload_n 1, 1) := by decide +kernel
theorem dX9_as_31 : decode cX9_as 31 = .ok (.ireturn, 1) := by decide +kernel
theorem dX9_begins_0 : decode cX9_begins 0 = .ok (.aload_n 0, 1) := by decide +kernel
theorem dX9_begins_1 : decode cX9_begins 1 = .ok (.iconst 0, 1) := by decide +kernel
theorem dX9_begins_2 : decode cX9_begins 2 = .ok (.putfield 197, 3) := by decide +kernel
theorem dX9_begins_5 : decode cX9_begins 5 = .ok (.aload_n 0, 1) := by decide +kernel
theorem dX9_begins_6 : decode cX9_begins 6 = .ok (.iconst 0, 1) := by decide +kernel
theorem dX9_begins_7 : decode cX9_begins 7 = .ok (.putfield 200, 3) := by decide +kernel
theorem dX9_begins_10 : decode cX9_begins 10 = .ok (.iconst 0, 1) := by decide +kernel
theorem dX9_begins_11 : decode cX9_begins 11 = .ok (.istore_n 1, 1) := by decide +kernel
theorem dX9_begins_12 : decode cX9_begins 12 = .ok (.iload_n 1, 1) := by decide +kernel
theorem dX9_begins_13 : decode cX9_begins 13 = .ok (.bipush 64, 2) := by decide +kernel
theorem dX9_begins_15 : decode cX9_begins 15 = .ok (.if_icmp .ge 16, 3) := by decide +kernel
theorem dX9_begins_18 : decode cX9_begins 18 = .ok (.aload_n 0, 1) := by decide +kernel
theorem dX9_begins_19 : decode cX9_begins 19 = .ok (.getfield 55, 3) := by decide +kernel
theorem dX9_begins_22 : decode cX9_begins 22 = .ok (.iload_n 1, 1) := by decide +kernel
theorem dX9_begins_23 : decode cX9_begins 23 = .ok (.iconst 0, 1) := by decide +kernel
theorem dX9_begins_24 : decode cX9_begins 24 = .ok (.iastore, 1) := by decide +kernel
theorem dX9_begins_25 : decode cX9_begins 25 = .ok (.iinc 1 1, 3) := by decide +kernel
theorem dX9_begins_28 : decode cX9_begins 28 = .ok (.goto (-16), 3) := by decide +kernel
theorem dX9_begins_31 : decode cX9_begins 31 = .ok (.iconst 0, 1) := by decide +kernel
theorem dX9_begins_32 : decode cX9_begins 32 = .ok (.istore_n 1, 1) := by decide +kernel
theorem dX9_begins_33 : decode cX9_begins 33 = .ok (.iload_n 1, 1) := by decide +kernel
theorem dX9_begins_34 : decode cX9_begins 34 = .ok (.bipush 8, 2) := by decide +kernel
theorem dX9_begins_36 : decode cX9_begins 36 = .ok (.if_icmp .ge 77, 3) := by decide +kernel
theorem dX9_begins_39 : decode cX9_begins 39 = .ok (.aload_n 0, 1) := by decide +kernel
theorem dX9_begins_40 : decode cX9_begins 40 = .ok (.getfield 58, 3) := by decide +kernel
theorem dX9_begins_43 : decode cX9_begins 43 = .ok (.iload_n 1, 1) := by decide +kernel
theorem dX9_begins_44 : decode cX9_begins 44 = .ok (.iconst 0, 1) := by decide +kernel
theorem dX9_begins_45 : decode cX9_begins 45 = .ok (.iastore, 1) := by decide +kernel
theorem dX9_begins_46 : decode cX9_begins 46 = .ok (.aload_n 0, 1) := by decide +kernel
theorem dX9_begins_47 : decode cX9_begins 47 = .ok (.getfield 64, 3) := by decide +kernel
theorem dX9_begins_50 : decode cX9_begins 50 = .ok (.iload_n 1, 1) := by decide +kernel
theorem dX9_begins_51 : decode cX9_begins 51 = .ok (.iload_n 1, 1) := by decide +kernel
theorem dX9_begins_52 : decode cX9_begins 52 = .ok (.aload_n 0, 1) := by decide +kernel
theorem dX9_begins_53 : decode cX9_begins 53 = .ok (.getfield 128, 3) := by decide +kernel
theorem dX9_begins_56 : decode cX9_begins 56 = .ok (.if_icmp .ge 7, 3) := by decide +kernel
theorem dX9_begins_59 : decode cX9_begins 59 = .ok (.iconst 1, 1) := by decide +kernel
theorem dX9_begins_60 : decode cX9_begins 60 = .ok (.goto 4, 3) := by decide +kernel
theorem dX9_begins_63 : decode cX9_begins 63 = .ok (.iconst 0, 1) := by decide +kernel
theorem dX9_begins_64 : decode cX9_begins 64 = .ok (.bastore, 1) := by decide +kernel
theorem dX9_begins_65 : decode cX9_begins 65 = .ok (.aload_n 0, 1) := by decide +kernel
theorem dX9_begins_66 : decode cX9_begins 66 = .ok (.getfield 61, 3) := by decide +kernel
theorem dX9_begins_69 : decode cX9_begins 69 = .ok (.iload_n 1, 1) := by decide +kernel
theorem dX9_begins_70 : decode cX9_begins 70 = .ok (.iload_n 1, 1) := by decide +kernel
theorem dX9_begins_71 : decode cX9_begins 71 = .ok (.aload_n 0, 1) := by decide +kernel
theorem dX9_begins_72 : decode cX9_begins 72 = .ok (.getfield 128, 3) := by decide +kernel
theorem dX9_begins_75 : decode cX9_begins 75 = .ok (.if_icmp .ge 16, 3) := by decide +kernel
theorem dX9_begins_78 : decode cX9_begins 78 = .ok (.aload_n 0, 1) := by decide +kernel
theorem dX9_begins_79 : decode cX9_begins 79 = .ok (.getfield 22, 3) := by decide +kernel
theorem dX9_begins_82 : decode cX9_begins 82 = .ok (.aload_n 0, 1) := by decide +kernel
theorem dX9_begins_83 : decode cX9_begins 83 = .ok (.iload_n 1, 1) := by decide +kernel
theorem dX9_begins_84 : decode cX9_begins 84 = .ok (.invokevirtual 203, 3) := by decide +kernel
theorem dX9_begins_87 : decode cX9_begins 87 = .ok (.iaload, 1) := by decide +kernel
theorem dX9_begins_88 : decode cX9_begins 88 = .ok (.goto 4, 3) := by decide +kernel
theorem dX9_begins_91 : decode cX9_begins 91 = .ok (.iconst 0, 1) := by decide +kernel
theorem dX9_begins_92 : decode cX9_begins 92 = .ok (.iastore, 1) := by decide +kernel
theorem dX9_begins_93 : decode cX9_begins 93 = .ok (.aload_n 0, 1) := by decide +kernel
theorem dX9_begins_94 : decode cX9_begins 94 = .ok (.getfield 74, 3) := by decide +kernel
theorem dX9_begins_97 : decode cX9_begins 97 = .ok (.iload_n 1, 1) := by decide +kernel
theorem dX9_begins_98 : decode cX9_begins 98 = .ok (.iconst 0, 1) := by decide +kernel
theorem dX9_begins_99 : decode cX9_begins 99 = .ok (.iastore, 1) := by decide +kernel
theorem dX9_begins_100 : decode cX9_begins 100 = .ok (.aload_n 0, 1) := by decide +kernel
theorem dX9_begins_101 : decode cX9_begins 101 = .ok (.getfield 77, 3) := by decide +kernel
theorem dX9_begins_104 : decode cX9_begins 104 = .ok (.iload_n 1, 1) := by decide +kernel
theorem dX9_begins_105 : decode cX9_begins 105 = .ok (.iconst 0, 1) := by decide +kernel
theorem dX9_begins_106 : decode cX9_begins 106 = .ok (.iastore, 1) := by decide +kernel
theorem dX9_begins_107 : decode cX9_begins 107 = .ok (.iinc 1 1, 3) := by decide +kernel
theorem dX9_begins_110 : decode cX9_begins 110 = .ok (.goto (-77), 3) := by decide +kernel
theorem dX9_begins_113 : decode cX9_begins 113 = .ok (.iconst 0, 1) := by decide +kernel
theorem dX9_begins_114 : decode cX9_begins 114 = .ok (.istore_n 1, 1) := by decide +kernel
theorem dX9_begins_115 : decode cX9_begins 115 = .ok (.iload_n 1, 1) := by decide +kernel
theorem dX9_begins_116 : decode cX9_begins 116 = .ok (.aload_n 0, 1) := by decide +kernel
theorem dX9_begins_117 : decode cX9_begins 117 = .ok (.getfield 128, 3) := by decide +kernel
theorem dX9_begins_120 : decode cX9_begins 120 = .ok (.if_icmp .ge 39, 3) := by decide +kernel
theorem dX9_begins_123 : decode cX9_begins 123 = .ok (.aload_n 0, 1) := by decide +kernel
theorem dX9_begins_124 : decode cX9_begins 124 = .ok (.getfield 55, 3) := by decide +kernel
theorem dX9_begins_127 : decode cX9_begins 127 = .ok (.bipush 8, 2) := by decide +kernel
theorem dX9_begins_129 : decode cX9_begins 129 = .ok (.iload_n 1, 1) := by decide +kernel
theorem dX9_begins_130 : decode cX9_begins 130 = .ok (.imul, 1) := by decide +kernel
theorem dX9_begins_131 : decode cX9_begins 131 = .ok (.aload_n 0, 1) := by decide +kernel
theorem dX9_begins_132 : decode cX9_begins 132 = .ok (.getfield 16, 3) := by decide +kernel
theorem dX9_begins_135 : decode cX9_begins 135 = .ok (.aload_n 0, 1) := by decide +kernel
theorem dX9_begins_136 : decode cX9_begins 136 = .ok (.iload_n 1, 1) := by decide +kernel
theorem dX9_begins_137 : decode cX9_begins 137 = .ok (.invokevirtual 203, 3) := by decide +kernel
theorem dX9_begins_140 : decode cX9_begins 140 = .ok (.iaload, 1) := by decide +kernel
theorem dX9_begins_141 : decode cX9_begins 141 = .ok (.iadd, 1) := by decide +kernel
theorem dX9_begins_142 : decode cX9_begins 142 = .ok (.aload_n 0, 1) := by decide +kernel
theorem dX9_begins_143 : decode cX9_begins 143 = .ok (.getfield 19, 3) := by decide +kernel
theorem dX9_begins_146 : decode cX9_begins 146 = .ok (.aload_n 0, 1) := by decide +kernel
theorem dX9_begins_147 : decode cX9_begins 147 = .ok (.iload_n 1, 1) := by decide +kernel
theorem dX9_begins_148 : decode cX9_begins 148 = .ok (.invokevirtual 203, 3) := by decide +kernel
theorem dX9_begins_151 : decode cX9_begins 151 = .ok (.iaload, 1) := by decide +kernel
theorem dX9_begins_152 : decode cX9_begins 152 = .ok (.iastore, 1) := by decide +kernel
theorem dX9_begins_153 : decode cX9_begins 153 = .ok (.iinc 1 1, 3) := by decide +kernel
theorem dX9_begins_156 : decode cX9_begins 156 = .ok (.goto (-41), 3) := by decide +kernel
theorem dX9_begins_159 : decode cX9_begins 159 = .ok (.iconst 0, 1) := by decide +kernel
theorem dX9_begins_160 : decode cX9_begins 160 = .ok (.istore_n 1, 1) := by decide +kernel
theorem dX9_begins_161 : decode cX9_begins 161 = .ok (.iload_n 1, 1) := by decide +kernel
theorem dX9_begins_162 : decode cX9_begins 162 = .ok (.bipush 16, 2) := by decide +kernel
theorem dX9_begins_164 : decode cX9_begins 164 = .ok (.if_icmp .ge 16, 3) := by decide +kernel
theorem dX9_begins_167 : decode cX9_begins 167 = .ok (.aload_n 0, 1) := by decide +kernel
theorem dX9_begins_168 : decode cX9_begins 168 = .ok (.getfield 71, 3) := by decide +kernel
theorem dX9_begins_171 : decode cX9_begins 171 = .ok (.iload_n 1, 1) := by decide +kernel
theorem dX9_begins_172 : decode cX9_begins 172 = .ok (.iconst 0, 1) := by decide +kernel
theorem dX9_begins_173 : decode cX9_begins 173 = .ok (.bastore, 1) := by decide +kernel
theorem dX9_begins_174 : decode cX9_begins 174 = .ok (.iinc 1 1, 3) := by decide +kernel
theorem dX9_begins_177 : decode cX9_begins 177 = .ok (.goto (-16), 3) := by decide +kernel
theorem dX9_begins_180 : decode cX9_begins 180 = .ok (.return_, 1) := by decide +kernel
theorem dX9_sells_0 : decode cX9_sells 0 = .ok (.iload_n 1, 1) := by decide +kernel
theorem dX9_sells_1 : decode cX9_sells 1 = .ok (.aload_n 0, 1) := by decide +kernel
theorem dX9_sells_2 : decode cX9_sells 2 = .ok (.getfield 128, 3) := by decide +kernel
theorem dX9_sells_5 : decode cX9_sells 5 = .ok (.if_icmp .ge 17, 3) := by decide +kernel
theorem dX9_sells_8 : decode cX9_sells 8 = .ok (.aload_n 0, 1) := by decide +kernel
theorem dX9_sells_9 : decode cX9_sells 9 = .ok (.getfield 58, 3) := by decide +kernel
theorem dX9_sells_12 : decode cX9_sells 12 = .ok (.iload_n 1, 1) := by decide +kernel
theorem dX9_sells_13 : decode cX9_sells 13 = .ok (.iaload, 1) := by decide +kernel
theorem dX9_sells_14 : decode cX9_sells 14 = .ok (.iload_n 2, 1) := by decide +kernel
theorem dX9_sells_15 : decode cX9_sells 15 = .ok (.if_icmp .eq 7, 3) := by decide +kernel
theorem dX9_sells_18 : decode cX9_sells 18 = .ok (.iconst 1, 1) := by decide +kernel
theorem dX9_sells_19 : decode cX9_sells 19 = .ok (.goto 4, 3) := by decide +kernel
theorem dX9_sells_22 : decode cX9_sells 22 = .ok (.iconst 0, 1) := by decide +kernel
theorem dX9_sells_23 : decode cX9_sells 23 = .ok (.istore_n 3, 1) := by decide +kernel
theorem dX9_sells_24 : decode cX9_sells 24 = .ok (.iload_n 3, 1) := by decide +kernel
theorem dX9_sells_25 : decode cX9_sells 25 = .ok (.ifCond .eq 10, 3) := by decide +kernel
theorem dX9_sells_28 : decode cX9_sells 28 = .ok (.aload_n 0, 1) := by decide +kernel
theorem dX9_sells_29 : decode cX9_sells 29 = .ok (.getfield 58, 3) := by decide +kernel
theorem dX9_sells_32 : decode cX9_sells 32 = .ok (.iload_n 1, 1) := by decide +kernel
theorem dX9_sells_33 : decode cX9_sells 33 = .ok (.iload_n 2, 1) := by decide +kernel
theorem dX9_sells_34 : decode cX9_sells 34 = .ok (.iastore, 1) := by decide +kernel
theorem dX9_sells_35 : decode cX9_sells 35 = .ok (.iload_n 3, 1) := by decide +kernel
theorem dX9_sells_36 : decode cX9_sells 36 = .ok (.ireturn, 1) := by decide +kernel
theorem dX9_corksOne_0 : decode cX9_corksOne 0 = .ok (.iload_n 1, 1) := by decide +kernel
theorem dX9_corksOne_1 : decode cX9_corksOne 1 = .ok (.aload_n 0, 1) := by decide +kernel
theorem dX9_corksOne_2 : decode cX9_corksOne 2 = .ok (.getfield 128, 3) := by decide +kernel
theorem dX9_corksOne_5 : decode cX9_corksOne 5 = .ok (.if_icmp .ge 18, 3) := by decide +kernel
theorem dX9_corksOne_8 : decode cX9_corksOne 8 = .ok (.aload_n 0, 1) := by decide +kernel
theorem dX9_corksOne_9 : decode cX9_corksOne 9 = .ok (.getfield 61, 3) := by decide +kernel
theorem dX9_corksOne_12 : decode cX9_corksOne 12 = .ok (.iload_n 1, 1) := by decide +kernel
theorem dX9_corksOne_13 : decode cX9_corksOne 13 = .ok (.iaload, 1) := by decide +kernel
theorem dX9_corksOne_14 : decode cX9_corksOne 14 = .ok (.bipush 9, 2) := by decide +kernel
theorem dX9_corksOne_16 : decode cX9_corksOne 16 = .ok (.if_icmp .eq 7, 3) := by decide +kernel
theorem dX9_corksOne_19 : decode cX9_corksOne 19 = .ok (.iconst 1, 1) := by decide +kernel
theorem dX9_corksOne_20 : decode cX9_corksOne 20 = .ok (.goto 4, 3) := by decide +kernel
theorem dX9_corksOne_23 : decode cX9_corksOne 23 = .ok (.iconst 0, 1) := by decide +kernel
theorem dX9_corksOne_24 : decode cX9_corksOne 24 = .ok (.istore_n 2, 1) := by decide +kernel
theorem dX9_corksOne_25 : decode cX9_corksOne 25 = .ok (.iload_n 2, 1) := by decide +kernel
theorem dX9_corksOne_26 : decode cX9_corksOne 26 = .ok (.ifCond .eq 11, 3) := by decide +kernel
theorem dX9_corksOne_29 : decode cX9_corksOne 29 = .ok (.aload_n 0, 1) := by decide +kernel
theorem dX9_corksOne_30 : decode cX9_corksOne 30 = .ok (.getfield 61, 3) := by decide +kernel
theorem dX9_corksOne_33 : decode cX9_corksOne 33 = .ok (.iload_n 1, 1) := by decide +kernel
theorem dX9_corksOne_34 : decode cX9_corksOne 34 = .ok (.bipush 9, 2) := by decide +kernel
theorem dX9_corksOne_36 : decode cX9_corksOne 36 = .ok (.iastore, 1) := by decide +kernel
theorem dX9_corksOne_37 : decode cX9_corksOne 37 = .ok (.iload_n 2, 1) := by decide +kernel
theorem dX9_corksOne_38 : decode cX9_corksOne 38 = .ok (.ireturn, 1) := by decide +kernel
theorem dX9_joins_0 : decode cX9_joins 0 = .ok (.iload_n 1, 1) := by decide +kernel
theorem dX9_joins_1 : decode cX9_joins 1 = .ok (.aload_n 0, 1) := by decide +kernel
theorem dX9_joins_2 : decode cX9_joins 2 = .ok (.getfield 128, 3) := by decide +kernel
theorem dX9_joins_5 : decode cX9_joins 5 = .ok (.if_icmp .ge 34, 3) := by decide +kernel
theorem dX9_joins_8 : decode cX9_joins 8 = .ok (.iload_n 2, 1) := by decide +kernel
theorem dX9_joins_9 : decode cX9_joins 9 = .ok (.aload_n 0, 1) := by decide +kernel
theorem dX9_joins_10 : decode cX9_joins 10 = .ok (.getfield 128, 3) := by decide +kernel
theorem dX9_joins_13 : decode cX9_joins 13 = .ok (.if_icmp .ge 26, 3) := by decide +kernel
theorem dX9_joins_16 : decode cX9_joins 16 = .ok (.iload_n 1, 1) := by decide +kernel
theorem dX9_joins_17 : decode cX9_joins 17 = .ok (.iload_n 2, 1) := by decide +kernel
theorem dX9_joins_18 : decode cX9_joins 18 = .ok (.if_icmp .eq 21, 3) := by decide +kernel
theorem dX9_joins_21 : decode cX9_joins 21 = .ok (.aload_n 0, 1) := by decide +kernel
theorem dX9_joins_22 : decode cX9_joins 22 = .ok (.getfield 64, 3) := by decide +kernel
theorem dX9_joins_25 : decode cX9_joins 25 = .ok (.iload_n 1, 1) := by decide +kernel
theorem dX9_joins_26 : decode cX9_joins 26 = .ok (.baload, 1) := by decide +kernel
theorem dX9_joins_27 : decode cX9_joins 27 = .ok (.ifCond .eq 12, 3) := by decide +kernel
theorem dX9_joins_30 : decode cX9_joins 30 = .ok (.aload_n 0, 1) := by decide +kernel
theorem dX9_joins_31 : decode cX9_joins 31 = .ok (.getfield 64, 3) := by decide +kernel
theorem dX9_joins_34 : decode cX9_joins 34 = .ok (.iload_n 2, 1) := by decide +kernel
theorem dX9_joins_35 : decode cX9_joins 35 = .ok (.baload, 1) := by decide +kernel
theorem dX9_joins_36 : decode cX9_joins 36 = .ok (.ifCond .ne 5, 3) := by decide +kernel
theorem dX9_joins_39 : decode cX9_joins 39 = .ok (.iconst 0, 1) := by decide +kernel
theorem dX9_joins_40 : decode cX9_joins 40 = .ok (.ireturn, 1) := by decide +kernel
theorem dX9_joins_41 : decode cX9_joins 41 = .ok (.iconst 0, 1) := by decide +kernel
theorem dX9_joins_42 : decode cX9_joins 42 = .ok (.istore_n 3, 1) := by decide +kernel
theorem dX9_joins_43 : decode cX9_joins 43 = .ok (.iload_n 3, 1) := by decide +kernel
theorem dX9_joins_44 : decode cX9_joins 44 = .ok (.bipush 8, 2) := by decide +kernel
theorem dX9_joins_46 : decode cX9_joins 46 = .ok (.if_icmp .ge 46, 3) := by decide +kernel
theorem dX9_joins_49 : decode cX9_joins 49 = .ok (.aload_n 0, 1) := by decide +kernel
theorem dX9_joins_50 : decode cX9_joins 50 = .ok (.getfield 55, 3) := by decide +kernel
theorem dX9_joins_53 : decode cX9_joins 53 = .ok (.bipush 8, 2) := by decide +kernel
theorem dX9_joins_55 : decode cX9_joins 55 = .ok (.iload_n 2, 1) := by decide +kernel
theorem dX9_joins_56 : decode cX9_joins 56 = .ok (.imul, 1) := by decide +kernel
theorem dX9_joins_57 : decode cX9_joins 57 = .ok (.iload_n 3, 1) := by decide +kernel
theorem dX9_joins_58 : decode cX9_joins 58 = .ok (.iadd, 1) := by decide +kernel
theorem dX9_joins_59 : decode cX9_joins 59 = .ok (.dup2, 1) := by decide +kernel
theorem dX9_joins_60 : decode cX9_joins 60 = .ok (.iaload, 1) := by decide +kernel
theorem dX9_joins_61 : decode cX9_joins 61 = .ok (.aload_n 0, 1) := by decide +kernel
theorem dX9_joins_62 : decode cX9_joins 62 = .ok (.getfield 55, 3) := by decide +kernel
theorem dX9_joins_65 : decode cX9_joins 65 = .ok (.bipush 8, 2) := by decide +kernel
theorem dX9_joins_67 : decode cX9_joins 67 = .ok (.iload_n 1, 1) := by decide +kernel
theorem dX9_joins_68 : decode cX9_joins 68 = .ok (.imul, 1) := by decide +kernel
theorem dX9_joins_69 : decode cX9_joins 69 = .ok (.iload_n 3, 1) := by decide +kernel
theorem dX9_joins_70 : decode cX9_joins 70 = .ok (.iadd, 1) := by decide +kernel
theorem dX9_joins_71 : decode cX9_joins 71 = .ok (.iaload, 1) := by decide +kernel
theorem dX9_joins_72 : decode cX9_joins 72 = .ok (.iadd, 1) := by decide +kernel
theorem dX9_joins_73 : decode cX9_joins 73 = .ok (.iastore, 1) := by decide +kernel
theorem dX9_joins_74 : decode cX9_joins 74 = .ok (.aload_n 0, 1) := by decide +kernel
theorem dX9_joins_75 : decode cX9_joins 75 = .ok (.getfield 55, 3) := by decide +kernel
theorem dX9_joins_78 : decode cX9_joins 78 = .ok (.bipush 8, 2) := by decide +kernel
theorem dX9_joins_80 : decode cX9_joins 80 = .ok (.iload_n 1, 1) := by decide +kernel
theorem dX9_joins_81 : decode cX9_joins 81 = .ok (.imul, 1) := by decide +kernel
theorem dX9_joins_82 : decode cX9_joins 82 = .ok (.iload_n 3, 1) := by decide +kernel
theorem dX9_joins_83 : decode cX9_joins 83 = .ok (.iadd, 1) := by decide +kernel
theorem dX9_joins_84 : decode cX9_joins 84 = .ok (.iconst 0, 1) := by decide +kernel
theorem dX9_joins_85 : decode cX9_joins 85 = .ok (.iastore, 1) := by decide +kernel
theorem dX9_joins_86 : decode cX9_joins 86 = .ok (.iinc 3 1, 3) := by decide +kernel
theorem dX9_joins_89 : decode cX9_joins 89 = .ok (.goto (-46), 3) := by decide +kernel
theorem dX9_joins_92 : decode cX9_joins 92 = .ok (.iconst 1, 1) := by decide +kernel
theorem dX9_joins_93 : decode cX9_joins 93 = .ok (.ireturn, 1) := by decide +kernel
theorem dX9_breaks_0 : decode cX9_breaks 0 = .ok (.iload_n 1, 1) := by decide +kernel
theorem dX9_breaks_1 : decode cX9_breaks 1 = .ok (.aload_n 0, 1) := by decide +kernel
theorem dX9_breaks_2 : decode cX9_breaks 2 = .ok (.getfield 128, 3) := by decide +kernel
theorem dX9_breaks_5 : decode cX9_breaks 5 = .ok (.if_icmp .ge 12, 3) := by decide +kernel
theorem dX9_breaks_8 : decode cX9_breaks 8 = .ok (.aload_n 0, 1) := by decide +kernel
theorem dX9_breaks_9 : decode cX9_breaks 9 = .ok (.getfield 64, 3) := by decide +kernel
theorem dX9_breaks_12 : decode cX9_breaks 12 = .ok (.iload_n 1, 1) := by decide +kernel
theorem dX9_breaks_13 : decode cX9_breaks 13 = .ok (.baload, 1) := by decide +kernel
theorem dX9_breaks_14 : decode cX9_breaks 14 = .ok (.ifCond .ne 5, 3) := by decide +kernel
theorem dX9_breaks_17 : decode cX9_breaks 17 = .ok (.iconst 0, 1) := by decide +kernel
theorem dX9_breaks_18 : decode cX9_breaks 18 = .ok (.ireturn, 1) := by decide +kernel
theorem dX9_breaks_19 : decode cX9_breaks 19 = .ok (.aload_n 0, 1) := by decide +kernel
theorem dX9_breaks_20 : decode cX9_breaks 20 = .ok (.getfield 64, 3) := by decide +kernel
theorem dX9_breaks_23 : decode cX9_breaks 23 = .ok (.iload_n 1, 1) := by decide +kernel
theorem dX9_breaks_24 : decode cX9_breaks 24 = .ok (.iconst 0, 1) := by decide +kernel
theorem dX9_breaks_25 : decode cX9_breaks 25 = .ok (.bastore, 1) := by decide +kernel
theorem dX9_breaks_26 : decode cX9_breaks 26 = .ok (.iconst 0, 1) := by decide +kernel
theorem dX9_breaks_27 : decode cX9_breaks 27 = .ok (.istore_n 2, 1) := by decide +kernel
theorem dX9_breaks_28 : decode cX9_breaks 28 = .ok (.iload_n 2, 1) := by decide +kernel
theorem dX9_breaks_29 : decode cX9_breaks 29 = .ok (.bipush 8, 2) := by decide +kernel
theorem dX9_breaks_31 : decode cX9_breaks 31 = .ok (.if_icmp .ge 41, 3) := by decide +kernel
theorem dX9_breaks_34 : decode cX9_breaks 34 = .ok (.aload_n 0, 1) := by decide +kernel
theorem dX9_breaks_35 : decode cX9_breaks 35 = .ok (.getfield 74, 3) := by decide +kernel
theorem dX9_breaks_38 : decode cX9_breaks 38 = .ok (.iload_n 2, 1) := by decide +kernel
theorem dX9_breaks_39 : decode cX9_breaks 39 = .ok (.dup2, 1) := by decide +kernel
theorem dX9_breaks_40 : decode cX9_breaks 40 = .ok (.iaload, 1) := by decide +kernel
theorem dX9_breaks_41 : decode cX9_breaks 41 = .ok (.aload_n 0, 1) := by decide +kernel
theorem dX9_breaks_42 : decode cX9_breaks 42 = .ok (.getfield 55, 3) := by decide +kernel
theorem dX9_breaks_45 : decode cX9_breaks 45 = .ok (.bipush 8, 2) := by decide +kernel
theorem dX9_breaks_47 : decode cX9_breaks 47 = .ok (.iload_n 1, 1) := by decide +kernel
theorem dX9_breaks_48 : decode cX9_breaks 48 = .ok (.imul, 1) := by decide +kernel
theorem dX9_breaks_49 : decode cX9_breaks 49 = .ok (.iload_n 2, 1) := by decide +kernel
theorem dX9_breaks_50 : decode cX9_breaks 50 = .ok (.iadd, 1) := by decide +kernel
theorem dX9_breaks_51 : decode cX9_breaks 51 = .ok (.iaload, 1) := by decide +kernel
theorem dX9_breaks_52 : decode cX9_breaks 52 = .ok (.iadd, 1) := by decide +kernel
theorem dX9_breaks_53 : decode cX9_breaks 53 = .ok (.iastore, 1) := by decide +kernel
theorem dX9_breaks_54 : decode cX9_breaks 54 = .ok (.aload_n 0, 1) := by decide +kernel
theorem dX9_breaks_55 : decode cX9_breaks 55 = .ok (.getfield 55, 3) := by decide +kernel
theorem dX9_breaks_58 : decode cX9_breaks 58 = .ok (.bipush 8, 2) := by decide +kernel
theorem dX9_breaks_60 : decode cX9_breaks 60 = .ok (.iload_n 1, 1) := by decide +kernel
theorem dX9_breaks_61 : decode cX9_breaks 61 = .ok (.imul, 1) := by decide +kernel
theorem dX9_breaks_62 : decode cX9_breaks 62 = .ok (.iload_n 2, 1) := by decide +kernel
theorem dX9_breaks_63 : decode cX9_breaks 63 = .ok (.iadd, 1) := by decide +kernel
theorem dX9_breaks_64 : decode cX9_breaks 64 = .ok (.iconst 0, 1) := by decide +kernel
theorem dX9_breaks_65 : decode cX9_breaks 65 = .ok (.iastore, 1) := by decide +kernel
theorem dX9_breaks_66 : decode cX9_breaks 66 = .ok (.iinc 2 1, 3) := by decide +kernel
theorem dX9_breaks_69 : decode cX9_breaks 69 = .ok (.goto (-41), 3) := by decide +kernel
theorem dX9_breaks_72 : decode cX9_breaks 72 = .ok (.iconst 1, 1) := by decide +kernel
theorem dX9_breaks_73 : decode cX9_breaks 73 = .ok (.ireturn, 1) := by decide +kernel
theorem dX9_does_0 : decode cX9_does 0 = .ok (.aload_n 0, 1) := by decide +kernel
theorem dX9_does_1 : decode cX9_does 1 = .ok (.getfield 40, 3) := by decide +kernel
theorem dX9_does_4 : decode cX9_does 4 = .ok (.iload_n 1, 1) := by decide +kernel
theorem dX9_does_5 : decode cX9_does 5 = .ok (.iaload, 1) := by decide +kernel
theorem dX9_does_6 : decode cX9_does 6 = .ok (.istore_n 2, 1) := by decide +kernel
theorem dX9_does_7 : decode cX9_does 7 = .ok (.aload_n 0, 1) := by decide +kernel
theorem dX9_does_8 : decode cX9_does 8 = .ok (.getfield 37, 3) := by decide +kernel
theorem dX9_does_11 : decode cX9_does 11 = .ok (.iload_n 1, 1) := by decide +kernel
theorem dX9_does_12 : decode cX9_does 12 = .ok (.iaload, 1) := by decide +kernel
theorem dX9_does_13 : decode cX9_does 13 = .ok (.ifCond .ne 17, 3) := by decide +kernel
theorem dX9_does_16 : decode cX9_does 16 = .ok (.aload_n 0, 1) := by decide +kernel
theorem dX9_does_17 : decode cX9_does 17 = .ok (.iload_n 2, 1) := by decide +kernel
theorem dX9_does_18 : decode cX9_does 18 = .ok (.aload_n 0, 1) := by decide +kernel
theorem dX9_does_19 : decode cX9_does 19 = .ok (.getfield 43, 3) := by decide +kernel
theorem dX9_does_22 : decode cX9_does 22 = .ok (.iload_n 1, 1) := by decide +kernel
theorem dX9_does_23 : decode cX9_does 23 = .ok (.iaload, 1) := by decide +kernel
theorem dX9_does_24 : decode cX9_does 24 = .ok (.invokevirtual 206, 3) := by decide +kernel
theorem dX9_does_27 : decode cX9_does 27 = .ok (.goto 50, 3) := by decide +kernel
theorem dX9_does_30 : decode cX9_does 30 = .ok (.aload_n 0, 1) := by decide +kernel
theorem dX9_does_31 : decode cX9_does 31 = .ok (.getfield 37, 3) := by decide +kernel
theorem dX9_does_34 : decode cX9_does 34 = .ok (.iload_n 1, 1) := by decide +kernel
theorem dX9_does_35 : decode cX9_does 35 = .ok (.iaload, 1) := by decide +kernel
theorem dX9_does_36 : decode cX9_does 36 = .ok (.iconst 1, 1) := by decide +kernel
theorem dX9_does_37 : decode cX9_does 37 = .ok (.if_icmp .ne 17, 3) := by decide +kernel
theorem dX9_does_40 : decode cX9_does 40 = .ok (.aload_n 0, 1) := by decide +kernel
theorem dX9_does_41 : decode cX9_does 41 = .ok (.iload_n 2, 1) := by decide +kernel
theorem dX9_does_42 : decode cX9_does 42 = .ok (.aload_n 0, 1) := by decide +kernel
theorem dX9_does_43 : decode cX9_does 43 = .ok (.getfield 43, 3) := by decide +kernel
theorem dX9_does_46 : decode cX9_does 46 = .ok (.iload_n 1, 1) := by decide +kernel
theorem dX9_does_47 : decode cX9_does 47 = .ok (.iaload, 1) := by decide +kernel
theorem dX9_does_48 : decode cX9_does 48 = .ok (.invokevirtual 210, 3) := by decide +kernel
theorem dX9_does_51 : decode cX9_does 51 = .ok (.goto 26, 3) := by decide +kernel
theorem dX9_does_54 : decode cX9_does 54 = .ok (.aload_n 0, 1) := by decide +kernel
theorem dX9_does_55 : decode cX9_does 55 = .ok (.getfield 37, 3) := by decide +kernel
theorem dX9_does_58 : decode cX9_does 58 = .ok (.iload_n 1, 1) := by decide +kernel
theorem dX9_does_59 : decode cX9_does 59 = .ok (.iaload, 1) := by decide +kernel
theorem dX9_does_60 : decode cX9_does 60 = .ok (.iconst 2, 1) := by decide +kernel
theorem dX9_does_61 : decode cX9_does 61 = .ok (.if_icmp .ne 11, 3) := by decide +kernel
theorem dX9_does_64 : decode cX9_does 64 = .ok (.aload_n 0, 1) := by decide +kernel
theorem dX9_does_65 : decode cX9_does 65 = .ok (.iload_n 2, 1) := by decide +kernel
theorem dX9_does_66 : decode cX9_does 66 = .ok (.invokevirtual 213, 3) := by decide +kernel
theorem dX9_does_69 : decode cX9_does 69 = .ok (.goto 8, 3) := by decide +kernel
theorem dX9_does_72 : decode cX9_does 72 = .ok (.aload_n 0, 1) := by decide +kernel
theorem dX9_does_73 : decode cX9_does 73 = .ok (.iload_n 2, 1) := by decide +kernel
theorem dX9_does_74 : decode cX9_does 74 = .ok (.invokevirtual 216, 3) := by decide +kernel
theorem dX9_does_77 : decode cX9_does 77 = .ok (.ireturn, 1) := by decide +kernel
theorem dX9_allIn_0 : decode cX9_allIn 0 = .ok (.iconst 0, 1) := by decide +kernel
theorem dX9_allIn_1 : decode cX9_allIn 1 = .ok (.istore_n 2, 1) := by decide +kernel
theorem dX9_allIn_2 : decode cX9_allIn 2 = .ok (.iconst 0, 1) := by decide +kernel
theorem dX9_allIn_3 : decode cX9_allIn 3 = .ok (.istore_n 3, 1) := by decide +kernel
theorem dX9_allIn_4 : decode cX9_allIn 4 = .ok (.iload_n 3, 1) := by decide +kernel
theorem dX9_allIn_5 : decode cX9_allIn 5 = .ok (.bipush 8, 2) := by decide +kernel
theorem dX9_allIn_7 : decode cX9_allIn 7 = .ok (.if_icmp .ge 23, 3) := by decide +kernel
theorem dX9_allIn_10 : decode cX9_allIn 10 = .ok (.iload_n 2, 1) := by decide +kernel
theorem dX9_allIn_11 : decode cX9_allIn 11 = .ok (.aload_n 0, 1) := by decide +kernel
theorem dX9_allIn_12 : decode cX9_allIn 12 = .ok (.getfield 55, 3) := by decide +kernel
theorem dX9_allIn_15 : decode cX9_allIn 15 = .ok (.bipush 8, 2) := by decide +kernel
theorem dX9_allIn_17 : decode cX9_allIn 17 = .ok (.iload_n 1, 1) := by decide +kernel
theorem dX9_allIn_18 : decode cX9_allIn 18 = .ok (.imul, 1) := by decide +kernel
theorem dX9_allIn_19 : decode cX9_allIn 19 = .ok (.iload_n 3, 1) := by decide +kernel
theorem dX9_allIn_20 : decode cX9_allIn 20 = .ok (.iadd, 1) := by decide +kernel
theorem dX9_allIn_21 : decode cX9_allIn 21 = .ok (.iaload, 1) := by decide +kernel
theorem dX9_allIn_22 : decode cX9_allIn 22 = .ok (.iadd, 1) := by decide +kernel
theorem dX9_allIn_23 : decode cX9_allIn 23 = .ok (.istore_n 2, 1) := by decide +kernel
theorem dX9_allIn_24 : decode cX9_allIn 24 = .ok (.iinc 3 1, 3) := by decide +kernel
theorem dX9_allIn_27 : decode cX9_allIn 27 = .ok (.goto (-23), 3) := by decide +kernel
theorem dX9_allIn_30 : decode cX9_allIn 30 = .ok (.iload_n 2, 1) := by decide +kernel
theorem dX9_allIn_31 : decode cX9_allIn 31 = .ok (.ireturn, 1) := by decide +kernel
theorem dX9_ends_0 : decode cX9_ends 0 = .ok (.iconst 0, 1) := by decide +kernel
theorem dX9_ends_1 : decode cX9_ends 1 = .ok (.istore_n 3, 1) := by decide +kernel
theorem dX9_ends_2 : decode cX9_ends 2 = .ok (.iload_n 3, 1) := by decide +kernel
theorem dX9_ends_3 : decode cX9_ends 3 = .ok (.bipush 8, 2) := by decide +kernel
theorem dX9_ends_5 : decode cX9_ends 5 = .ok (.if_icmp .ge 90, 3) := by decide +kernel
theorem dX9_ends_8 : decode cX9_ends 8 = .ok (.aload_n 0, 1) := by decide +kernel
theorem dX9_ends_9 : decode cX9_ends 9 = .ok (.getfield 55, 3) := by decide +kernel
theorem dX9_ends_12 : decode cX9_ends 12 = .ok (.bipush 8, 2) := by decide +kernel
theorem dX9_ends_14 : decode cX9_ends 14 = .ok (.iload_n 1, 1) := by decide +kernel
theorem dX9_ends_15 : decode cX9_ends 15 = .ok (.imul, 1) := by decide +kernel
theorem dX9_ends_16 : decode cX9_ends 16 = .ok (.iload_n 3, 1) := by decide +kernel
theorem dX9_ends_17 : decode cX9_ends 17 = .ok (.iadd, 1) := by decide +kernel
theorem dX9_ends_18 : decode cX9_ends 18 = .ok (.iaload, 1) := by decide +kernel
theorem dX9_ends_19 : decode cX9_ends 19 = .ok (.istore 4, 2) := by decide +kernel
theorem dX9_ends_21 : decode cX9_ends 21 = .ok (.iload 4, 2) := by decide +kernel
theorem dX9_ends_23 : decode cX9_ends 23 = .ok (.ifCond .ne 7, 3) := by decide +kernel
theorem dX9_ends_26 : decode cX9_ends 26 = .ok (.iconst 0, 1) := by decide +kernel
theorem dX9_ends_27 : decode cX9_ends 27 = .ok (.goto 33, 3) := by decide +kernel
theorem dX9_ends_30 : decode cX9_ends 30 = .ok (.iload 4, 2) := by decide +kernel
theorem dX9_ends_32 : decode cX9_ends 32 = .ok (.bipush 10, 2) := by decide +kernel
theorem dX9_ends_34 : decode cX9_ends 34 = .ok (.aload_n 0, 1) := by decide +kernel
theorem dX9_ends_35 : decode cX9_ends 35 = .ok (.getfield 61, 3) := by decide +kernel
theorem dX9_ends_38 : decode cX9_ends 38 = .ok (.iload_n 1, 1) := by decide +kernel
theorem dX9_ends_39 : decode cX9_ends 39 = .ok (.iaload, 1) := by decide +kernel
theorem dX9_ends_40 : decode cX9_ends 40 = .ok (.isub, 1) := by decide +kernel
theorem dX9_ends_41 : decode cX9_ends 41 = .ok (.imul, 1) := by decide +kernel
theorem dX9_ends_42 : decode cX9_ends 42 = .ok (.bipush 100, 2) := by decide +kernel
theorem dX9_ends_44 : decode cX9_ends 44 = .ok (.idiv, 1) := by decide +kernel
theorem dX9_ends_45 : decode cX9_ends 45 = .ok (.aload_n 0, 1) := by decide +kernel
theorem dX9_ends_46 : decode cX9_ends 46 = .ok (.getfield 61, 3) := by decide +kernel
theorem dX9_ends_49 : decode cX9_ends 49 = .ok (.iload_n 1, 1) := by decide +kernel
theorem dX9_ends_50 : decode cX9_ends 50 = .ok (.iaload, 1) := by decide +kernel
theorem dX9_ends_51 : decode cX9_ends 51 = .ok (.ifCond .ne 7, 3) := by decide +kernel
theorem dX9_ends_54 : decode cX9_ends 54 = .ok (.iconst 1, 1) := by decide +kernel
theorem dX9_ends_55 : decode cX9_ends 55 = .ok (.goto 4, 3) := by decide +kernel
theorem dX9_ends_58 : decode cX9_ends 58 = .ok (.iconst 0, 1) := by decide +kernel
theorem dX9_ends_59 : decode cX9_ends 59 = .ok (.iadd, 1) := by decide +kernel
theorem dX9_ends_60 : decode cX9_ends 60 = .ok (.istore 5, 2) := by decide +kernel
theorem dX9_ends_62 : decode cX9_ends 62 = .ok (.aload_n 0, 1) := by decide +kernel
theorem dX9_ends_63 : decode cX9_ends 63 = .ok (.getfield 55, 3) := by decide +kernel
theorem dX9_ends_66 : decode cX9_ends 66 = .ok (.bipush 8, 2) := by decide +kernel
theorem dX9_ends_68 : decode cX9_ends 68 = .ok (.iload_n 1, 1) := by decide +kernel
theorem dX9_ends_69 : decode cX9_ends 69 = .ok (.imul, 1) := by decide +kernel
theorem dX9_ends_70 : decode cX9_ends 70 = .ok (.iload_n 3, 1) := by decide +kernel
theorem dX9_ends_71 : decode cX9_ends 71 = .ok (.iadd, 1) := by decide +kernel
theorem dX9_ends_72 : decode cX9_ends 72 = .ok (.iload 4, 2) := by decide +kernel
theorem dX9_ends_74 : decode cX9_ends 74 = .ok (.iload 5, 2) := by decide +kernel
theorem dX9_ends_76 : decode cX9_ends 76 = .ok (.isub, 1) := by decide +kernel
theorem dX9_ends_77 : decode cX9_ends 77 = .ok (.iastore, 1) := by decide +kernel
theorem dX9_ends_78 : decode cX9_ends 78 = .ok (.aload_n 0, 1) := by decide +kernel
theorem dX9_ends_79 : decode cX9_ends 79 = .ok (.dup, 1) := by decide +kernel
theorem dX9_ends_80 : decode cX9_ends 80 = .ok (.getfield 197, 3) := by decide +kernel
theorem dX9_ends_83 : decode cX9_ends 83 = .ok (.iload 5, 2) := by decide +kernel
theorem dX9_ends_85 : decode cX9_ends 85 = .ok (.iadd, 1) := by decide +kernel
theorem dX9_ends_86 : decode cX9_ends 86 = .ok (.putfield 197, 3) := by decide +kernel
theorem dX9_ends_89 : decode cX9_ends 89 = .ok (.iinc 3 1, 3) := by decide +kernel
theorem dX9_ends_92 : decode cX9_ends 92 = .ok (.goto (-90), 3) := by decide +kernel
theorem dX9_ends_95 : decode cX9_ends 95 = .ok (.iload_n 2, 1) := by decide +kernel
theorem dX9_ends_96 : decode cX9_ends 96 = .ok (.ifCond .eq 82, 3) := by decide +kernel
theorem dX9_ends_99 : decode cX9_ends 99 = .ok (.aload_n 0, 1) := by decide +kernel
theorem dX9_ends_100 : decode cX9_ends 100 = .ok (.getfield 25, 3) := by decide +kernel
theorem dX9_ends_103 : decode cX9_ends 103 = .ok (.aload_n 0, 1) := by decide +kernel
theorem dX9_ends_104 : decode cX9_ends 104 = .ok (.iload_n 1, 1) := by decide +kernel
theorem dX9_ends_105 : decode cX9_ends 105 = .ok (.invokevirtual 203, 3) := by decide +kernel
theorem dX9_ends_108 : decode cX9_ends 108 = .ok (.iaload, 1) := by decide +kernel
theorem dX9_ends_109 : decode cX9_ends 109 = .ok (.iconst 1, 1) := by decide +kernel
theorem dX9_ends_110 : decode cX9_ends 110 = .ok (.if_icmp .ne 68, 3) := by decide +kernel
theorem dX9_ends_113 : decode cX9_ends 113 = .ok (.aload_n 0, 1) := by decide +kernel
theorem dX9_ends_114 : decode cX9_ends 114 = .ok (.iload_n 1, 1) := by decide +kernel
theorem dX9_ends_115 : decode cX9_ends 115 = .ok (.invokevirtual 219, 3) := by decide +kernel
theorem dX9_ends_118 : decode cX9_ends 118 = .ok (.aload_n 0, 1) := by decide +kernel
theorem dX9_ends_119 : decode cX9_ends 119 = .ok (.getfield 110, 3) := by decide +kernel
theorem dX9_ends_122 : decode cX9_ends 122 = .ok (.if_icmp .lt 56, 3) := by decide +kernel
theorem dX9_ends_125 : decode cX9_ends 125 = .ok (.aload_n 0, 1) := by decide +kernel
theorem dX9_ends_126 : decode cX9_ends 126 = .ok (.getfield 64, 3) := by decide +kernel
theorem dX9_ends_129 : decode cX9_ends 129 = .ok (.iload_n 1, 1) := by decide +kernel
theorem dX9_ends_130 : decode cX9_ends 130 = .ok (.iconst 0, 1) := by decide +kernel
theorem dX9_ends_131 : decode cX9_ends 131 = .ok (.bastore, 1) := by decide +kernel
theorem dX9_ends_132 : decode cX9_ends 132 = .ok (.iconst 0, 1) := by decide +kernel
theorem dX9_ends_133 : decode cX9_ends 133 = .ok (.istore_n 3, 1) := by decide +kernel
theorem dX9_ends_134 : decode cX9_ends 134 = .ok (.iload_n 3, 1) := by decide +kernel
theorem dX9_ends_135 : decode cX9_ends 135 = .ok (.bipush 8, 2) := by decide +kernel
theorem dX9_ends_137 : decode cX9_ends 137 = .ok (.if_icmp .ge 41, 3) := by decide +kernel
theorem dX9_ends_140 : decode cX9_ends 140 = .ok (.aload_n 0, 1) := by decide +kernel
theorem dX9_ends_141 : decode cX9_ends 141 = .ok (.getfield 77, 3) := by decide +kernel
theorem dX9_ends_144 : decode cX9_ends 144 = .ok (.iload_n 3, 1) := by decide +kernel
theorem dX9_ends_145 : decode cX9_ends 145 = .ok (.dup2, 1) := by decide +kernel
theorem dX9_ends_146 : decode cX9_ends 146 = .ok (.iaload, 1) := by decide +kernel
theorem dX9_ends_147 : decode cX9_ends 147 = .ok (.aload_n 0, 1) := by decide +kernel
theorem dX9_ends_148 : decode cX9_ends 148 = .ok (.getfield 55, 3) := by decide +kernel
theorem dX9_ends_151 : decode cX9_ends 151 = .ok (.bipush 8, 2) := by decide +kernel
theorem dX9_ends_153 : decode cX9_ends 153 = .ok (.iload_n 1, 1) := by decide +kernel
theorem dX9_ends_154 : decode cX9_ends 154 = .ok (.imul, 1) := by decide +kernel
theorem dX9_ends_155 : decode cX9_ends 155 = .ok (.iload_n 3, 1) := by decide +kernel
theorem dX9_ends_156 : decode cX9_ends 156 = .ok (.iadd, 1) := by decide +kernel
theorem dX9_ends_157 : decode cX9_ends 157 = .ok (.iaload, 1) := by decide +kernel
theorem dX9_ends_158 : decode cX9_ends 158 = .ok (.iadd, 1) := by decide +kernel
theorem dX9_ends_159 : decode cX9_ends 159 = .ok (.iastore, 1) := by decide +kernel
theorem dX9_ends_160 : decode cX9_ends 160 = .ok (.aload_n 0, 1) := by decide +kernel
theorem dX9_ends_161 : decode cX9_ends 161 = .ok (.getfield 55, 3) := by decide +kernel
theorem dX9_ends_164 : decode cX9_ends 164 = .ok (.bipush 8, 2) := by decide +kernel
theorem dX9_ends_166 : decode cX9_ends 166 = .ok (.iload_n 1, 1) := by decide +kernel
theorem dX9_ends_167 : decode cX9_ends 167 = .ok (.imul, 1) := by decide +kernel
theorem dX9_ends_168 : decode cX9_ends 168 = .ok (.iload_n 3, 1) := by decide +kernel
theorem dX9_ends_169 : decode cX9_ends 169 = .ok (.iadd, 1) := by decide +kernel
theorem dX9_ends_170 : decode cX9_ends 170 = .ok (.iconst 0, 1) := by decide +kernel
theorem dX9_ends_171 : decode cX9_ends 171 = .ok (.iastore, 1) := by decide +kernel
theorem dX9_ends_172 : decode cX9_ends 172 = .ok (.iinc 3 1, 3) := by decide +kernel
theorem dX9_ends_175 : decode cX9_ends 175 = .ok (.goto (-41), 3) := by decide +kernel
theorem dX9_ends_178 : decode cX9_ends 178 = .ok (.return_, 1) := by decide +kernel
theorem dX9_goesBy_0 : decode cX9_goesBy 0 = .ok (.iconst 0, 1) := by decide +kernel
theorem dX9_goesBy_1 : decode cX9_goesBy 1 = .ok (.istore_n 2, 1) := by decide +kernel
theorem dX9_goesBy_2 : decode cX9_goesBy 2 = .ok (.iload_n 2, 1) := by decide +kernel
theorem dX9_goesBy_3 : decode cX9_goesBy 3 = .ok (.aload_n 0, 1) := by decide +kernel
theorem dX9_goesBy_4 : decode cX9_goesBy 4 = .ok (.getfield 191, 3) := by decide +kernel
theorem dX9_goesBy_7 : decode cX9_goesBy 7 = .ok (.if_icmp .ge 24, 3) := by decide +kernel
theorem dX9_goesBy_10 : decode cX9_goesBy 10 = .ok (.iload_n 1, 1) := by decide +kernel
theorem dX9_goesBy_11 : decode cX9_goesBy 11 = .ok (.ifCond .ne 20, 3) := by decide +kernel
theorem dX9_goesBy_14 : decode cX9_goesBy 14 = .ok (.aload_n 0, 1) := by decide +kernel
theorem dX9_goesBy_15 : decode cX9_goesBy 15 = .ok (.aload_n 0, 1) := by decide +kernel
theorem dX9_goesBy_16 : decode cX9_goesBy 16 = .ok (.getfield 46, 3) := by decide +kernel
theorem dX9_goesBy_19 : decode cX9_goesBy 19 = .ok (.iload_n 2, 1) := by decide +kernel
theorem dX9_goesBy_20 : decode cX9_goesBy 20 = .ok (.iaload, 1) := by decide +kernel
theorem dX9_goesBy_21 : decode cX9_goesBy 21 = .ok (.invokevirtual 216, 3) := by decide +kernel
theorem dX9_goesBy_24 : decode cX9_goesBy 24 = .ok (.istore_n 3, 1) := by decide +kernel
theorem dX9_goesBy_25 : decode cX9_goesBy 25 = .ok (.iinc 2 1, 3) := by decide +kernel
theorem dX9_goesBy_28 : decode cX9_goesBy 28 = .ok (.goto (-26), 3) := by decide +kernel
theorem dX9_goesBy_31 : decode cX9_goesBy 31 = .ok (.iconst 0, 1) := by decide +kernel
theorem dX9_goesBy_32 : decode cX9_goesBy 32 = .ok (.istore_n 2, 1) := by decide +kernel
theorem dX9_goesBy_33 : decode cX9_goesBy 33 = .ok (.iload_n 2, 1) := by decide +kernel
theorem dX9_goesBy_34 : decode cX9_goesBy 34 = .ok (.aload_n 0, 1) := by decide +kernel
theorem dX9_goesBy_35 : decode cX9_goesBy 35 = .ok (.getfield 169, 3) := by decide +kernel
theorem dX9_goesBy_38 : decode cX9_goesBy 38 = .ok (.if_icmp .ge 38, 3) := by decide +kernel
theorem dX9_goesBy_41 : decode cX9_goesBy 41 = .ok (.aload_n 0, 1) := by decide +kernel
theorem dX9_goesBy_42 : decode cX9_goesBy 42 = .ok (.getfield 34, 3) := by decide +kernel
theorem dX9_goesBy_45 : decode cX9_goesBy 45 = .ok (.iload_n 2, 1) := by decide +kernel
theorem dX9_goesBy_46 : decode cX9_goesBy 46 = .ok (.iaload, 1) := by decide +kernel
theorem dX9_goesBy_47 : decode cX9_goesBy 47 = .ok (.iload_n 1, 1) := by decide +kernel
theorem dX9_goesBy_48 : decode cX9_goesBy 48 = .ok (.if_icmp .ne 22, 3) := by decide +kernel
theorem dX9_goesBy_51 : decode cX9_goesBy 51 = .ok (.iload_n 2, 1) := by decide +kernel
theorem dX9_goesBy_52 : decode cX9_goesBy 52 = .ok (.aload_n 0, 1) := by decide +kernel
theorem dX9_goesBy_53 : decode cX9_goesBy 53 = .ok (.getfield 182, 3) := by decide +kernel
theorem dX9_goesBy_56 : decode cX9_goesBy 56 = .ok (.if_icmp .eq 14, 3) := by decide +kernel
theorem dX9_goesBy_59 : decode cX9_goesBy 59 = .ok (.aload_n 0, 1) := by decide +kernel
theorem dX9_goesBy_60 : decode cX9_goesBy 60 = .ok (.getfield 71, 3) := by decide +kernel
theorem dX9_goesBy_63 : decode cX9_goesBy 63 = .ok (.iload_n 2, 1) := by decide +kernel
theorem dX9_goesBy_64 : decode cX9_goesBy 64 = .ok (.aload_n 0, 1) := by decide +kernel
theorem dX9_goesBy_65 : decode cX9_goesBy 65 = .ok (.iload_n 2, 1) := by decide +kernel
theorem dX9_goesBy_66 : decode cX9_goesBy 66 = .ok (.invokevirtual 222, 3) := by decide +kernel
theorem dX9_goesBy_69 : decode cX9_goesBy 69 = .ok (.bastore, 1) := by decide +kernel
theorem dX9_goesBy_70 : decode cX9_goesBy 70 = .ok (.iinc 2 1, 3) := by decide +kernel
theorem dX9_goesBy_73 : decode cX9_goesBy 73 = .ok (.goto (-40), 3) := by decide +kernel
theorem dX9_goesBy_76 : decode cX9_goesBy 76 = .ok (.iload_n 1, 1) := by decide +kernel
theorem dX9_goesBy_77 : decode cX9_goesBy 77 = .ok (.aload_n 0, 1) := by decide +kernel
theorem dX9_goesBy_78 : decode cX9_goesBy 78 = .ok (.getfield 194, 3) := by decide +kernel
theorem dX9_goesBy_81 : decode cX9_goesBy 81 = .ok (.if_icmp .ge 36, 3) := by decide +kernel
theorem dX9_goesBy_84 : decode cX9_goesBy 84 = .ok (.aload_n 0, 1) := by decide +kernel
theorem dX9_goesBy_85 : decode cX9_goesBy 85 = .ok (.dup, 1) := by decide +kernel
theorem dX9_goesBy_86 : decode cX9_goesBy 86 = .ok (.getfield 200, 3) := by decide +kernel
theorem dX9_goesBy_89 : decode cX9_goesBy 89 = .ok (.aload_n 0, 1) := by decide +kernel
theorem dX9_goesBy_90 : decode cX9_goesBy 90 = .ok (.aload_n 0, 1) := by decide +kernel
theorem dX9_goesBy_91 : decode cX9_goesBy 91 = .ok (.getfield 49, 3) := by decide +kernel
theorem dX9_goesBy_94 : decode cX9_goesBy 94 = .ok (.iload_n 1, 1) := by decide +kernel
theorem dX9_goesBy_95 : decode cX9_goesBy 95 = .ok (.iaload, 1) := by decide +kernel
theorem dX9_goesBy_96 : decode cX9_goesBy 96 = .ok (.aload_n 0, 1) := by decide +kernel
theorem dX9_goesBy_97 : decode cX9_goesBy 97 = .ok (.getfield 52, 3) := by decide +kernel
theorem dX9_goesBy_100 : decode cX9_goesBy 100 = .ok (.iload_n 1, 1) := by decide +kernel
theorem dX9_goesBy_101 : decode cX9_goesBy 101 = .ok (.iaload, 1) := by decide +kernel
theorem dX9_goesBy_102 : decode cX9_goesBy 102 = .ok (.invokevirtual 206, 3) := by decide +kernel
theorem dX9_goesBy_105 : decode cX9_goesBy 105 = .ok (.ifCond .eq 7, 3) := by decide +kernel
theorem dX9_goesBy_108 : decode cX9_goesBy 108 = .ok (.iconst 1, 1) := by decide +kernel
theorem dX9_goesBy_109 : decode cX9_goesBy 109 = .ok (.goto 4, 3) := by decide +kernel
theorem dX9_goesBy_112 : decode cX9_goesBy 112 = .ok (.iconst 0, 1) := by decide +kernel
theorem dX9_goesBy_113 : decode cX9_goesBy 113 = .ok (.iadd, 1) := by decide +kernel
theorem dX9_goesBy_114 : decode cX9_goesBy 114 = .ok (.putfield 200, 3) := by decide +kernel
theorem dX9_goesBy_117 : decode cX9_goesBy 117 = .ok (.iconst 0, 1) := by decide +kernel
theorem dX9_goesBy_118 : decode cX9_goesBy 118 = .ok (.istore_n 2, 1) := by decide +kernel
theorem dX9_goesBy_119 : decode cX9_goesBy 119 = .ok (.iload_n 2, 1) := by decide +kernel
theorem dX9_goesBy_120 : decode cX9_goesBy 120 = .ok (.aload_n 0, 1) := by decide +kernel
theorem dX9_goesBy_121 : decode cX9_goesBy 121 = .ok (.getfield 128, 3) := by decide +kernel
theorem dX9_goesBy_124 : decode cX9_goesBy 124 = .ok (.if_icmp .ge 29, 3) := by decide +kernel
theorem dX9_goesBy_127 : decode cX9_goesBy 127 = .ok (.aload_n 0, 1) := by decide +kernel
theorem dX9_goesBy_128 : decode cX9_goesBy 128 = .ok (.getfield 64, 3) := by decide +kernel
theorem dX9_goesBy_131 : decode cX9_goesBy 131 = .ok (.iload_n 2, 1) := by decide +kernel
theorem dX9_goesBy_132 : decode cX9_goesBy 132 = .ok (.baload, 1) := by decide +kernel
theorem dX9_goesBy_133 : decode cX9_goesBy 133 = .ok (.ifCond .eq 14, 3) := by decide +kernel
theorem dX9_goesBy_136 : decode cX9_goesBy 136 = .ok (.aload_n 0, 1) := by decide +kernel
theorem dX9_goesBy_137 : decode cX9_goesBy 137 = .ok (.iload_n 2, 1) := by decide +kernel
theorem dX9_goesBy_138 : decode cX9_goesBy 138 = .ok (.aload_n 0, 1) := by decide +kernel
theorem dX9_goesBy_139 : decode cX9_goesBy 139 = .ok (.getfield 68, 3) := by decide +kernel
theorem dX9_goesBy_142 : decode cX9_goesBy 142 = .ok (.iload_n 1, 1) := by decide +kernel
theorem dX9_goesBy_143 : decode cX9_goesBy 143 = .ok (.baload, 1) := by decide +kernel
theorem dX9_goesBy_144 : decode cX9_goesBy 144 = .ok (.invokevirtual 225, 3) := by decide +kernel
theorem dX9_goesBy_147 : decode cX9_goesBy 147 = .ok (.iinc 2 1, 3) := by decide +kernel
theorem dX9_goesBy_150 : decode cX9_goesBy 150 = .ok (.goto (-31), 3) := by decide +kernel
theorem dX9_goesBy_153 : decode cX9_goesBy 153 = .ok (.return_, 1) := by decide +kernel
theorem dX9_runs_0 : decode cX9_runs 0 = .ok (.aload_n 0, 1) := by decide +kernel
theorem dX9_runs_1 : decode cX9_runs 1 = .ok (.invokevirtual 229, 3) := by decide +kernel
theorem dX9_runs_4 : decode cX9_runs 4 = .ok (.iconst 0, 1) := by decide +kernel
theorem dX9_runs_5 : decode cX9_runs 5 = .ok (.istore_n 2, 1) := by decide +kernel
theorem dX9_runs_6 : decode cX9_runs 6 = .ok (.iload_n 2, 1) := by decide +kernel
theorem dX9_runs_7 : decode cX9_runs 7 = .ok (.iload_n 1, 1) := by decide +kernel
theorem dX9_runs_8 : decode cX9_runs 8 = .ok (.if_icmp .gt 14, 3) := by decide +kernel
theorem dX9_runs_11 : decode cX9_runs 11 = .ok (.aload_n 0, 1) := by decide +kernel
theorem dX9_runs_12 : decode cX9_runs 12 = .ok (.iload_n 2, 1) := by decide +kernel
theorem dX9_runs_13 : decode cX9_runs 13 = .ok (.invokevirtual 232, 3) := by decide +kernel
theorem dX9_runs_16 : decode cX9_runs 16 = .ok (.iinc 2 1, 3) := by decide +kernel
theorem dX9_runs_19 : decode cX9_runs 19 = .ok (.goto (-13), 3) := by decide +kernel
theorem dX9_runs_22 : decode cX9_runs 22 = .ok (.return_, 1) := by decide +kernel
theorem dX9_runsTold_0 : decode cX9_runsTold 0 = .ok (.aload_n 0, 1) := by decide +kernel
theorem dX9_runsTold_1 : decode cX9_runsTold 1 = .ok (.invokevirtual 236, 3) := by decide +kernel
theorem dX9_runsTold_4 : decode cX9_runsTold 4 = .ok (.aload_n 0, 1) := by decide +kernel
theorem dX9_runsTold_5 : decode cX9_runsTold 5 = .ok (.iload_n 1, 1) := by decide +kernel
theorem dX9_runsTold_6 : decode cX9_runsTold 6 = .ok (.invokevirtual 239, 3) := by decide +kernel
theorem dX9_runsTold_9 : decode cX9_runsTold 9 = .ok (.return_, 1) := by decide +kernel
theorem dX9_holdsOf_0 : decode cX9_holdsOf 0 = .ok (.aload_n 0, 1) := by decide +kernel
theorem dX9_holdsOf_1 : decode cX9_holdsOf 1 = .ok (.iload_n 1, 1) := by decide +kernel
theorem dX9_holdsOf_2 : decode cX9_holdsOf 2 = .ok (.invokevirtual 242, 3) := by decide +kernel
theorem dX9_holdsOf_5 : decode cX9_holdsOf 5 = .ok (.iload_n 3, 1) := by decide +kernel
theorem dX9_holdsOf_6 : decode cX9_holdsOf 6 = .ok (.iconst (-1), 1) := by decide +kernel
theorem dX9_holdsOf_7 : decode cX9_holdsOf 7 = .ok (.if_icmp .ne 11, 3) := by decide +kernel
theorem dX9_holdsOf_10 : decode cX9_holdsOf 10 = .ok (.aload_n 0, 1) := by decide +kernel
theorem dX9_holdsOf_11 : decode cX9_holdsOf 11 = .ok (.iload_n 2, 1) := by decide +kernel
theorem dX9_holdsOf_12 : decode cX9_holdsOf 12 = .ok (.invokevirtual 219, 3) := by decide +kernel
theorem dX9_holdsOf_15 : decode cX9_holdsOf 15 = .ok (.goto 14, 3) := by decide +kernel
theorem dX9_holdsOf_18 : decode cX9_holdsOf 18 = .ok (.aload_n 0, 1) := by decide +kernel
theorem dX9_holdsOf_19 : decode cX9_holdsOf 19 = .ok (.getfield 55, 3) := by decide +kernel
theorem dX9_holdsOf_22 : decode cX9_holdsOf 22 = .ok (.bipush 8, 2) := by decide +kernel
theorem dX9_holdsOf_24 : decode cX9_holdsOf 24 = .ok (.iload_n 2, 1) := by decide +kernel
theorem dX9_holdsOf_25 : decode cX9_holdsOf 25 = .ok (.imul, 1) := by decide +kernel
theorem dX9_holdsOf_26 : decode cX9_holdsOf 26 = .ok (.iload_n 3, 1) := by decide +kernel
theorem dX9_holdsOf_27 : decode cX9_holdsOf 27 = .ok (.iadd, 1) := by decide +kernel
theorem dX9_holdsOf_28 : decode cX9_holdsOf 28 = .ok (.iaload, 1) := by decide +kernel
theorem dX9_holdsOf_29 : decode cX9_holdsOf 29 = .ok (.ireturn, 1) := by decide +kernel
theorem dX9_holds_0 : decode cX9_holds 0 = .ok (.iload_n 1, 1) := by decide +kernel
theorem dX9_holds_1 : decode cX9_holds 1 = .ok (.invokestatic 163, 3) := by decide +kernel
theorem dX9_holds_4 : decode cX9_holds 4 = .ok (.ifCond .eq 31, 3) := by decide +kernel
theorem dX9_holds_7 : decode cX9_holds 7 = .ok (.aload_n 0, 1) := by decide +kernel
theorem dX9_holds_8 : decode cX9_holds 8 = .ok (.iload_n 2, 1) := by decide +kernel
theorem dX9_holds_9 : decode cX9_holds 9 = .ok (.invokevirtual 151, 3) := by decide +kernel
theorem dX9_holds_12 : decode cX9_holds 12 = .ok (.ifCond .eq 23, 3) := by decide +kernel
theorem dX9_holds_15 : decode cX9_holds 15 = .ok (.iload_n 3, 1) := by decide +kernel
theorem dX9_holds_16 : decode cX9_holds 16 = .ok (.iconst (-1), 1) := by decide +kernel
theorem dX9_holds_17 : decode cX9_holds 17 = .ok (.bipush 7, 2) := by decide +kernel
theorem dX9_holds_19 : decode cX9_holds 19 = .ok (.invokestatic 116, 3) := by decide +kernel
theorem dX9_holds_22 : decode cX9_holds 22 = .ok (.ifCond .eq 13, 3) := by decide +kernel
theorem dX9_holds_25 : decode cX9_holds 25 = .ok (.aload_n 0, 1) := by decide +kernel
theorem dX9_holds_26 : decode cX9_holds 26 = .ok (.iload_n 1, 1) := by decide +kernel
theorem dX9_holds_27 : decode cX9_holds 27 = .ok (.iload_n 2, 1) := by decide +kernel
theorem dX9_holds_28 : decode cX9_holds 28 = .ok (.iload_n 3, 1) := by decide +kernel
theorem dX9_holds_29 : decode cX9_holds 29 = .ok (.invokevirtual 245, 3) := by decide +kernel
theorem dX9_holds_32 : decode cX9_holds 32 = .ok (.goto 5, 3) := by decide +kernel
theorem dX9_holds_35 : decode cX9_holds 35 = .ok (.bipush (-2), 2) := by decide +kernel
theorem dX9_holds_37 : decode cX9_holds 37 = .ok (.ireturn, 1) := by decide +kernel
theorem dX9_whoOf_0 : decode cX9_whoOf 0 = .ok (.aload_n 0, 1) := by decide +kernel
theorem dX9_whoOf_1 : decode cX9_whoOf 1 = .ok (.iload_n 1, 1) := by decide +kernel
theorem dX9_whoOf_2 : decode cX9_whoOf 2 = .ok (.invokevirtual 242, 3) := by decide +kernel
theorem dX9_whoOf_5 : decode cX9_whoOf 5 = .ok (.aload_n 0, 1) := by decide +kernel
theorem dX9_whoOf_6 : decode cX9_whoOf 6 = .ok (.getfield 58, 3) := by decide +kernel
theorem dX9_whoOf_9 : decode cX9_whoOf 9 = .ok (.iload_n 2, 1) := by decide +kernel
theorem dX9_whoOf_10 : decode cX9_whoOf 10 = .ok (.iaload, 1) := by decide +kernel
theorem dX9_whoOf_11 : decode cX9_whoOf 11 = .ok (.ireturn, 1) := by decide +kernel
theorem dX9_who_0 : decode cX9_who 0 = .ok (.iload_n 1, 1) := by decide +kernel
theorem dX9_who_1 : decode cX9_who 1 = .ok (.invokestatic 163, 3) := by decide +kernel
theorem dX9_who_4 : decode cX9_who 4 = .ok (.ifCond .eq 20, 3) := by decide +kernel
theorem dX9_who_7 : decode cX9_who 7 = .ok (.aload_n 0, 1) := by decide +kernel
theorem dX9_who_8 : decode cX9_who 8 = .ok (.iload_n 2, 1) := by decide +kernel
theorem dX9_who_9 : decode cX9_who 9 = .ok (.invokevirtual 151, 3) := by decide +kernel
theorem dX9_who_12 : decode cX9_who 12 = .ok (.ifCond .eq 12, 3) := by decide +kernel
theorem dX9_who_15 : decode cX9_who 15 = .ok (.aload_n 0, 1) := by decide +kernel
theorem dX9_who_16 : decode cX9_who 16 = .ok (.iload_n 1, 1) := by decide +kernel
theorem dX9_who_17 : decode cX9_who 17 = .ok (.iload_n 2, 1) := by decide +kernel
theorem dX9_who_18 : decode cX9_who 18 = .ok (.invokevirtual 249, 3) := by decide +kernel
theorem dX9_who_21 : decode cX9_who 21 = .ok (.goto 5, 3) := by decide +kernel
theorem dX9_who_24 : decode cX9_who 24 = .ok (.bipush (-2), 2) := by decide +kernel
theorem dX9_who_26 : decode cX9_who 26 = .ok (.ireturn, 1) := by decide +kernel
theorem dX9_wholeOf_0 : decode cX9_wholeOf 0 = .ok (.aload_n 0, 1) := by decide +kernel
theorem dX9_wholeOf_1 : decode cX9_wholeOf 1 = .ok (.iload_n 1, 1) := by decide +kernel
theorem dX9_wholeOf_2 : decode cX9_wholeOf 2 = .ok (.invokevirtual 242, 3) := by decide +kernel
theorem dX9_wholeOf_5 : decode cX9_wholeOf 5 = .ok (.aload_n 0, 1) := by decide +kernel
theorem dX9_wholeOf_6 : decode cX9_wholeOf 6 = .ok (.getfield 64, 3) := by decide +kernel
theorem dX9_wholeOf_9 : decode cX9_wholeOf 9 = .ok (.iload_n 2, 1) := by decide +kernel
theorem dX9_wholeOf_10 : decode cX9_wholeOf 10 = .ok (.baload, 1) := by decide +kernel
theorem dX9_wholeOf_11 : decode cX9_wholeOf 11 = .ok (.ifCond .eq 7, 3) := by decide +kernel
theorem dX9_wholeOf_14 : decode cX9_wholeOf 14 = .ok (.iconst 1, 1) := by decide +kernel
theorem dX9_wholeOf_15 : decode cX9_wholeOf 15 = .ok (.goto 4, 3) := by decide +kernel
theorem dX9_wholeOf_18 : decode cX9_wholeOf 18 = .ok (.iconst 0, 1) := by decide +kernel
theorem dX9_wholeOf_19 : decode cX9_wholeOf 19 = .ok (.ireturn, 1) := by decide +kernel
theorem dX9_whole_0 : decode cX9_whole 0 = .ok (.iload_n 1, 1) := by decide +kernel
theorem dX9_whole_1 : decode cX9_whole 1 = .ok (.invokestatic 163, 3) := by decide +kernel
theorem dX9_whole_4 : decode cX9_whole 4 = .ok (.ifCond .eq 20, 3) := by decide +kernel
theorem dX9_whole_7 : decode cX9_whole 7 = .ok (.aload_n 0, 1) := by decide +kernel
theorem dX9_whole_8 : decode cX9_whole 8 = .ok (.iload_n 2, 1) := by decide +kernel
theorem dX9_whole_9 : decode cX9_whole 9 = .ok (.invokevirtual 151, 3) := by decide +kernel
theorem dX9_whole_12 : decode cX9_whole 12 = .ok (.ifCond .eq 12, 3) := by decide +kernel
theorem dX9_whole_15 : decode cX9_whole 15 = .ok (.aload_n 0, 1) := by decide +kernel
theorem dX9_whole_16 : decode cX9_whole 16 = .ok (.iload_n 1, 1) := by decide +kernel
theorem dX9_whole_17 : decode cX9_whole 17 = .ok (.iload_n 2, 1) := by decide +kernel
theorem dX9_whole_18 : decode cX9_whole 18 = .ok (.invokevirtual 252, 3) := by decide +kernel
theorem dX9_whole_21 : decode cX9_whole 21 = .ok (.goto 5, 3) := by decide +kernel
theorem dX9_whole_24 : decode cX9_whole 24 = .ok (.bipush (-2), 2) := by decide +kernel
theorem dX9_whole_26 : decode cX9_whole 26 = .ok (.ireturn, 1) := by decide +kernel
theorem dX9_hasOf_0 : decode cX9_hasOf 0 = .ok (.aload_n 0, 1) := by decide +kernel
theorem dX9_hasOf_1 : decode cX9_hasOf 1 = .ok (.iload_n 1, 1) := by decide +kernel
theorem dX9_hasOf_2 : decode cX9_hasOf 2 = .ok (.invokevirtual 242, 3) := by decide +kernel
theorem dX9_hasOf_5 : decode cX9_hasOf 5 = .ok (.iconst 0, 1) := by decide +kernel
theorem dX9_hasOf_6 : decode cX9_hasOf 6 = .ok (.istore_n 3, 1) := by decide +kernel
theorem dX9_hasOf_7 : decode cX9_hasOf 7 = .ok (.iconst 0, 1) := by decide +kernel
theorem dX9_hasOf_8 : decode cX9_hasOf 8 = .ok (.istore 4, 2) := by decide +kernel
theorem dX9_hasOf_10 : decode cX9_hasOf 10 = .ok (.iload 4, 2) := by decide +kernel
theorem dX9_hasOf_12 : decode cX9_hasOf 12 = .ok (.aload_n 0, 1) := by decide +kernel
theorem dX9_hasOf_13 : decode cX9_hasOf 13 = .ok (.getfield 128, 3) := by decide +kernel
theorem dX9_hasOf_16 : decode cX9_hasOf 16 = .ok (.if_icmp .ge 63, 3) := by decide +kernel
theorem dX9_hasOf_19 : decode cX9_hasOf 19 = .ok (.iconst 0, 1) := by decide +kernel
theorem dX9_hasOf_20 : decode cX9_hasOf 20 = .ok (.istore 5, 2) := by decide +kernel
theorem dX9_hasOf_22 : decode cX9_hasOf 22 = .ok (.iload 5, 2) := by decide +kernel
theorem dX9_hasOf_24 : decode cX9_hasOf 24 = .ok (.bipush 8, 2) := by decide +kernel
theorem dX9_hasOf_26 : decode cX9_hasOf 26 = .ok (.if_icmp .ge 47, 3) := by decide +kernel
theorem dX9_hasOf_29 : decode cX9_hasOf 29 = .ok (.iload_n 3, 1) := by decide +kernel
theorem dX9_hasOf_30 : decode cX9_hasOf 30 = .ok (.aload_n 0, 1) := by decide +kernel
theorem dX9_hasOf_31 : decode cX9_hasOf 31 = .ok (.getfield 58, 3) := by decide +kernel
theorem dX9_hasOf_34 : decode cX9_hasOf 34 = .ok (.iload 4, 2) := by decide +kernel
theorem dX9_hasOf_36 : decode cX9_hasOf 36 = .ok (.iaload, 1) := by decide +kernel
theorem dX9_hasOf_37 : decode cX9_hasOf 37 = .ok (.iload_n 2, 1) := by decide +kernel
theorem dX9_hasOf_38 : decode cX9_hasOf 38 = .ok (.if_icmp .ne 26, 3) := by decide +kernel
theorem dX9_hasOf_41 : decode cX9_hasOf 41 = .ok (.aload_n 0, 1) := by decide +kernel
theorem dX9_hasOf_42 : decode cX9_hasOf 42 = .ok (.getfield 55, 3) := by decide +kernel
theorem dX9_hasOf_45 : decode cX9_hasOf 45 = .ok (.bipush 8, 2) := by decide +kernel
theorem dX9_hasOf_47 : decode cX9_hasOf 47 = .ok (.iload 4, 2) := by decide +kernel
theorem dX9_hasOf_49 : decode cX9_hasOf 49 = .ok (.imul, 1) := by decide +kernel
theorem dX9_hasOf_50 : decode cX9_hasOf 50 = .ok (.iload 5, 2) := by decide +kernel
theorem dX9_hasOf_52 : decode cX9_hasOf 52 = .ok (.iadd, 1) := by decide +kernel
theorem dX9_hasOf_53 : decode cX9_hasOf 53 = .ok (.iaload, 1) := by decide +kernel
theorem dX9_hasOf_54 : decode cX9_hasOf 54 = .ok (.ifCond .le 10, 3) := by decide +kernel
theorem dX9_hasOf_57 : decode cX9_hasOf 57 = .ok (.iconst 1, 1) := by decide +kernel
theorem dX9_hasOf_58 : decode cX9_hasOf 58 = .ok (.iload 5, 2) := by decide +kernel
theorem dX9_hasOf_60 : decode cX9_hasOf 60 = .ok (.ishl, 1) := by decide +kernel
theorem dX9_hasOf_61 : decode cX9_hasOf 61 = .ok (.goto 4, 3) := by decide +kernel
theorem dX9_hasOf_64 : decode cX9_hasOf 64 = .ok (.iconst 0, 1) := by decide +kernel
theorem dX9_hasOf_65 : decode cX9_hasOf 65 = .ok (.ior, 1) := by decide +kernel
theorem dX9_hasOf_66 : decode cX9_hasOf 66 = .ok (.istore_n 3, 1) := by decide +kernel
theorem dX9_hasOf_67 : decode cX9_hasOf 67 = .ok (.iinc 5 1, 3) := by decide +kernel
theorem dX9_hasOf_70 : decode cX9_hasOf 70 = .ok (.goto (-48), 3) := by decide +kernel
theorem dX9_hasOf_73 : decode cX9_hasOf 73 = .ok (.iinc 4 1, 3) := by decide +kernel
theorem dX9_hasOf_76 : decode cX9_hasOf 76 = .ok (.goto (-66), 3) := by decide +kernel
theorem dX9_hasOf_79 : decode cX9_hasOf 79 = .ok (.iload_n 3, 1) := by decide +kernel
theorem dX9_hasOf_80 : decode cX9_hasOf 80 = .ok (.ireturn, 1) := by decide +kernel
theorem dX9_has_0 : decode cX9_has 0 = .ok (.iload_n 1, 1) := by decide +kernel
theorem dX9_has_1 : decode cX9_has 1 = .ok (.invokestatic 163, 3) := by decide +kernel
theorem dX9_has_4 : decode cX9_has 4 = .ok (.ifCond .eq 21, 3) := by decide +kernel
theorem dX9_has_7 : decode cX9_has 7 = .ok (.iload_n 2, 1) := by decide +kernel
theorem dX9_has_8 : decode cX9_has 8 = .ok (.iconst 0, 1) := by decide +kernel
theorem dX9_has_9 : decode cX9_has 9 = .ok (.iconst 5, 1) := by decide +kernel
theorem dX9_has_10 : decode cX9_has 10 = .ok (.invokestatic 116, 3) := by decide +kernel
theorem dX9_has_13 : decode cX9_has 13 = .ok (.ifCond .eq 12, 3) := by decide +kernel
theorem dX9_has_16 : decode cX9_has 16 = .ok (.aload_n 0, 1) := by decide +kernel
theorem dX9_has_17 : decode cX9_has 17 = .ok (.iload_n 1, 1) := by decide +kernel
theorem dX9_has_18 : decode cX9_has 18 = .ok (.iload_n 2, 1) := by decide +kernel
theorem dX9_has_19 : decode cX9_has 19 = .ok (.invokevirtual 255, 3) := by decide +kernel
theorem dX9_has_22 : decode cX9_has 22 = .ok (.goto 5, 3) := by decide +kernel
theorem dX9_has_25 : decode cX9_has 25 = .ok (.bipush (-2), 2) := by decide +kernel
theorem dX9_has_27 : decode cX9_has 27 = .ok (.ireturn, 1) := by decide +kernel
theorem dX9_heardOf_0 : decode cX9_heardOf 0 = .ok (.aload_n 0, 1) := by decide +kernel
theorem dX9_heardOf_1 : decode cX9_heardOf 1 = .ok (.iload_n 1, 1) := by decide +kernel
theorem dX9_heardOf_2 : decode cX9_heardOf 2 = .ok (.invokevirtual 242, 3) := by decide +kernel
theorem dX9_heardOf_5 : decode cX9_heardOf 5 = .ok (.aload_n 0, 1) := by decide +kernel
theorem dX9_heardOf_6 : decode cX9_heardOf 6 = .ok (.getfield 74, 3) := by decide +kernel
theorem dX9_heardOf_9 : decode cX9_heardOf 9 = .ok (.iload_n 2, 1) := by decide +kernel
theorem dX9_heardOf_10 : decode cX9_heardOf 10 = .ok (.iaload, 1) := by decide +kernel
theorem dX9_heardOf_11 : decode cX9_heardOf 11 = .ok (.ireturn, 1) := by decide +kernel
theorem dX9_heard_0 : decode cX9_heard 0 = .ok (.iload_n 1, 1) := by decide +kernel
theorem dX9_heard_1 : decode cX9_heard 1 = .ok (.invokestatic 163, 3) := by decide +kernel
theorem dX9_heard_4 : decode cX9_heard 4 = .ok (.ifCond .eq 19, 3) := by decide +kernel
theorem dX9_heard_7 : decode cX9_heard 7 = .ok (.iload_n 2, 1) := by decide +kernel
theorem dX9_heard_8 : decode cX9_heard 8 = .ok (.invokestatic 157, 3) := by decide +kernel
theorem dX9_heard_11 : decode cX9_heard 11 = .ok (.ifCond .eq 12, 3) := by decide +kernel
theorem dX9_heard_14 : decode cX9_heard 14 = .ok (.aload_n 0, 1) := by decide +kernel
theorem dX9_heard_15 : decode cX9_heard 15 = .ok (.iload_n 1, 1) := by decide +kernel
theorem dX9_heard_16 : decode cX9_heard 16 = .ok (.iload_n 2, 1) := by decide +kernel
theorem dX9_heard_17 : decode cX9_heard 17 = .ok (.invokevirtual 258, 3) := by decide +kernel
theorem dX9_heard_20 : decode cX9_heard 20 = .ok (.goto 5, 3) := by decide +kernel
theorem dX9_heard_23 : decode cX9_heard 23 = .ok (.bipush (-2), 2) := by decide +kernel
theorem dX9_heard_25 : decode cX9_heard 25 = .ok (.ireturn, 1) := by decide +kernel
theorem dX9_spilledOf_0 : decode cX9_spilledOf 0 = .ok (.aload_n 0, 1) := by decide +kernel
theorem dX9_spilledOf_1 : decode cX9_spilledOf 1 = .ok (.iload_n 1, 1) := by decide +kernel
theorem dX9_spilledOf_2 : decode cX9_spilledOf 2 = .ok (.invokevirtual 242, 3) := by decide +kernel
theorem dX9_spilledOf_5 : decode cX9_spilledOf 5 = .ok (.aload_n 0, 1) := by decide +kernel
theorem dX9_spilledOf_6 : decode cX9_spilledOf 6 = .ok (.getfield 77, 3) := by decide +kernel
theorem dX9_spilledOf_9 : decode cX9_spilledOf 9 = .ok (.iload_n 2, 1) := by decide +kernel
theorem dX9_spilledOf_10 : decode cX9_spilledOf 10 = .ok (.iaload, 1) := by decide +kernel
theorem dX9_spilledOf_11 : decode cX9_spilledOf 11 = .ok (.ireturn, 1) := by decide +kernel
theorem dX9_spilled_0 : decode cX9_spilled 0 = .ok (.iload_n 1, 1) := by decide +kernel
theorem dX9_spilled_1 : decode cX9_spilled 1 = .ok (.invokestatic 163, 3) := by decide +kernel
theorem dX9_spilled_4 : decode cX9_spilled 4 = .ok (.ifCond .eq 19, 3) := by decide +kernel
theorem dX9_spilled_7 : decode cX9_spilled 7 = .ok (.iload_n 2, 1) := by decide +kernel
theorem dX9_spilled_8 : decode cX9_spilled 8 = .ok (.invokestatic 157, 3) := by decide +kernel
theorem dX9_spilled_11 : decode cX9_spilled 11 = .ok (.ifCond .eq 12, 3) := by decide +kernel
theorem dX9_spilled_14 : decode cX9_spilled 14 = .ok (.aload_n 0, 1) := by decide +kernel
theorem dX9_spilled_15 : decode cX9_spilled 15 = .ok (.iload_n 1, 1) := by decide +kernel
theorem dX9_spilled_16 : decode cX9_spilled 16 = .ok (.iload_n 2, 1) := by decide +kernel
theorem dX9_spilled_17 : decode cX9_spilled 17 = .ok (.invokevirtual 261, 3) := by decide +kernel
theorem dX9_spilled_20 : decode cX9_spilled 20 = .ok (.goto 5, 3) := by decide +kernel
theorem dX9_spilled_23 : decode cX9_spilled 23 = .ok (.bipush (-2), 2) := by decide +kernel
theorem dX9_spilled_25 : decode cX9_spilled 25 = .ok (.ireturn, 1) := by decide +kernel
theorem dX9_leakedOf_0 : decode cX9_leakedOf 0 = .ok (.aload_n 0, 1) := by decide +kernel
theorem dX9_leakedOf_1 : decode cX9_leakedOf 1 = .ok (.iload_n 1, 1) := by decide +kernel
theorem dX9_leakedOf_2 : decode cX9_leakedOf 2 = .ok (.invokevirtual 242, 3) := by decide +kernel
theorem dX9_leakedOf_5 : decode cX9_leakedOf 5 = .ok (.aload_n 0, 1) := by decide +kernel
theorem dX9_leakedOf_6 : decode cX9_leakedOf 6 = .ok (.getfield 197, 3) := by decide +kernel
theorem dX9_leakedOf_9 : decode cX9_leakedOf 9 = .ok (.ireturn, 1) := by decide +kernel
theorem dX9_leaked_0 : decode cX9_leaked 0 = .ok (.iload_n 1, 1) := by decide +kernel
theorem dX9_leaked_1 : decode cX9_leaked 1 = .ok (.invokestatic 163, 3) := by decide +kernel
theorem dX9_leaked_4 : decode cX9_leaked 4 = .ok (.ifCond .eq 11, 3) := by decide +kernel
theorem dX9_leaked_7 : decode cX9_leaked 7 = .ok (.aload_n 0, 1) := by decide +kernel
theorem dX9_leaked_8 : decode cX9_leaked 8 = .ok (.iload_n 1, 1) := by decide +kernel
theorem dX9_leaked_9 : decode cX9_leaked 9 = .ok (.invokevirtual 264, 3) := by decide +kernel
theorem dX9_leaked_12 : decode cX9_leaked 12 = .ok (.goto 5, 3) := by decide +kernel
theorem dX9_leaked_15 : decode cX9_leaked 15 = .ok (.bipush (-2), 2) := by decide +kernel
theorem dX9_leaked_17 : decode cX9_leaked 17 = .ok (.ireturn, 1) := by decide +kernel
theorem dX9_lostOf_0 : decode cX9_lostOf 0 = .ok (.aload_n 0, 1) := by decide +kernel
theorem dX9_lostOf_1 : decode cX9_lostOf 1 = .ok (.iload_n 1, 1) := by decide +kernel
theorem dX9_lostOf_2 : decode cX9_lostOf 2 = .ok (.invokevirtual 242, 3) := by decide +kernel
theorem dX9_lostOf_5 : decode cX9_lostOf 5 = .ok (.iconst 0, 1) := by decide +kernel
theorem dX9_lostOf_6 : decode cX9_lostOf 6 = .ok (.istore_n 2, 1) := by decide +kernel
theorem dX9_lostOf_7 : decode cX9_lostOf 7 = .ok (.iconst 0, 1) := by decide +kernel
theorem dX9_lostOf_8 : decode cX9_lostOf 8 = .ok (.istore_n 3, 1) := by decide +kernel
theorem dX9_lostOf_9 : decode cX9_lostOf 9 = .ok (.iconst 0, 1) := by decide +kernel
theorem dX9_lostOf_10 : decode cX9_lostOf 10 = .ok (.istore 4, 2) := by decide +kernel
theorem dX9_lostOf_12 : decode cX9_lostOf 12 = .ok (.iload 4, 2) := by decide +kernel
theorem dX9_lostOf_14 : decode cX9_lostOf 14 = .ok (.aload_n 0, 1) := by decide +kernel
theorem dX9_lostOf_15 : decode cX9_lostOf 15 = .ok (.getfield 128, 3) := by decide +kernel
theorem dX9_lostOf_18 : decode cX9_lostOf 18 = .ok (.if_icmp .ge 64, 3) := by decide +kernel
theorem dX9_lostOf_21 : decode cX9_lostOf 21 = .ok (.iload_n 2, 1) := by decide +kernel
theorem dX9_lostOf_22 : decode cX9_lostOf 22 = .ok (.iconst 1, 1) := by decide +kernel
theorem dX9_lostOf_23 : decode cX9_lostOf 23 = .ok (.aload_n 0, 1) := by decide +kernel
theorem dX9_lostOf_24 : decode cX9_lostOf 24 = .ok (.getfield 16, 3) := by decide +kernel
theorem dX9_lostOf_27 : decode cX9_lostOf 27 = .ok (.iload 4, 2) := by decide +kernel
theorem dX9_lostOf_29 : decode cX9_lostOf 29 = .ok (.iaload, 1) := by decide +kernel
theorem dX9_lostOf_30 : decode cX9_lostOf 30 = .ok (.ishl, 1) := by decide +kernel
theorem dX9_lostOf_31 : decode cX9_lostOf 31 = .ok (.ior, 1) := by decide +kernel
theorem dX9_lostOf_32 : decode cX9_lostOf 32 = .ok (.istore_n 2, 1) := by decide +kernel
theorem dX9_lostOf_33 : decode cX9_lostOf 33 = .ok (.iconst 0, 1) := by decide +kernel
theorem dX9_lostOf_34 : decode cX9_lostOf 34 = .ok (.istore 5, 2) := by decide +kernel
theorem dX9_lostOf_36 : decode cX9_lostOf 36 = .ok (.iload 5, 2) := by decide +kernel
theorem dX9_lostOf_38 : decode cX9_lostOf 38 = .ok (.bipush 8, 2) := by decide +kernel
theorem dX9_lostOf_40 : decode cX9_lostOf 40 = .ok (.if_icmp .ge 36, 3) := by decide +kernel
theorem dX9_lostOf_43 : decode cX9_lostOf 43 = .ok (.iload_n 3, 1) := by decide +kernel
theorem dX9_lostOf_44 : decode cX9_lostOf 44 = .ok (.aload_n 0, 1) := by decide +kernel
theorem dX9_lostOf_45 : decode cX9_lostOf 45 = .ok (.getfield 55, 3) := by decide +kernel
theorem dX9_lostOf_48 : decode cX9_lostOf 48 = .ok (.bipush 8, 2) := by decide +kernel
theorem dX9_lostOf_50 : decode cX9_lostOf 50 = .ok (.iload 4, 2) := by decide +kernel
theorem dX9_lostOf_52 : decode cX9_lostOf 52 = .ok (.imul, 1) := by decide +kernel
theorem dX9_lostOf_53 : decode cX9_lostOf 53 = .ok (.iload 5, 2) := by decide +kernel
theorem dX9_lostOf_55 : decode cX9_lostOf 55 = .ok (.iadd, 1) := by decide +kernel
theorem dX9_lostOf_56 : decode cX9_lostOf 56 = .ok (.iaload, 1) := by decide +kernel
theorem dX9_lostOf_57 : decode cX9_lostOf 57 = .ok (.ifCond .le 10, 3) := by decide +kernel
theorem dX9_lostOf_60 : decode cX9_lostOf 60 = .ok (.iconst 1, 1) := by decide +kernel
theorem dX9_lostOf_61 : decode cX9_lostOf 61 = .ok (.iload 5, 2) := by decide +kernel
theorem dX9_lostOf_63 : decode cX9_lostOf 63 = .ok (.ishl, 1) := by decide +kernel
theorem dX9_lostOf_64 : decode cX9_lostOf 64 = .ok (.goto 4, 3) := by decide +kernel
theorem dX9_lostOf_67 : decode cX9_lostOf 67 = .ok (.iconst 0, 1) := by decide +kernel
theorem dX9_lostOf_68 : decode cX9_lostOf 68 = .ok (.ior, 1) := by decide +kernel
theorem dX9_lostOf_69 : decode cX9_lostOf 69 = .ok (.istore_n 3, 1) := by decide +kernel
theorem dX9_lostOf_70 : decode cX9_lostOf 70 = .ok (.iinc 5 1, 3) := by decide +kernel
theorem dX9_lostOf_73 : decode cX9_lostOf 73 = .ok (.goto (-37), 3) := by decide +kernel
theorem dX9_lostOf_76 : decode cX9_lostOf 76 = .ok (.iinc 4 1, 3) := by decide +kernel
theorem dX9_lostOf_79 : decode cX9_lostOf 79 = .ok (.goto (-67), 3) := by decide +kernel
theorem dX9_lostOf_82 : decode cX9_lostOf 82 = .ok (.iload_n 2, 1) := by decide +kernel
theorem dX9_lostOf_83 : decode cX9_lostOf 83 = .ok (.iload_n 3, 1) := by decide +kernel
theorem dX9_lostOf_84 : decode cX9_lostOf 84 = .ok (.iconst (-1), 1) := by decide +kernel
theorem dX9_lostOf_85 : decode cX9_lostOf 85 = .ok (.ixor, 1) := by decide +kernel
theorem dX9_lostOf_86 : decode cX9_lostOf 86 = .ok (.iand, 1) := by decide +kernel
theorem dX9_lostOf_87 : decode cX9_lostOf 87 = .ok (.ireturn, 1) := by decide +kernel
theorem dX9_lost_0 : decode cX9_lost 0 = .ok (.iload_n 1, 1) := by decide +kernel
theorem dX9_lost_1 : decode cX9_lost 1 = .ok (.invokestatic 163, 3) := by decide +kernel
theorem dX9_lost_4 : decode cX9_lost 4 = .ok (.ifCond .eq 11, 3) := by decide +kernel
theorem dX9_lost_7 : decode cX9_lost 7 = .ok (.aload_n 0, 1) := by decide +kernel
theorem dX9_lost_8 : decode cX9_lost 8 = .ok (.iload_n 1, 1) := by decide +kernel
theorem dX9_lost_9 : decode cX9_lost 9 = .ok (.invokevirtual 267, 3) := by decide +kernel
theorem dX9_lost_12 : decode cX9_lost 12 = .ok (.goto 5, 3) := by decide +kernel
theorem dX9_lost_15 : decode cX9_lost 15 = .ok (.bipush (-2), 2) := by decide +kernel
theorem dX9_lost_17 : decode cX9_lost 17 = .ok (.ireturn, 1) := by decide +kernel
theorem dX9_worksOf_0 : decode cX9_worksOf 0 = .ok (.aload_n 0, 1) := by decide +kernel
theorem dX9_worksOf_1 : decode cX9_worksOf 1 = .ok (.bipush 39, 2) := by decide +kernel
theorem dX9_worksOf_3 : decode cX9_worksOf 3 = .ok (.invokevirtual 242, 3) := by decide +kernel
theorem dX9_worksOf_6 : decode cX9_worksOf 6 = .ok (.aload_n 0, 1) := by decide +kernel
theorem dX9_worksOf_7 : decode cX9_worksOf 7 = .ok (.getfield 71, 3) := by decide +kernel
theorem dX9_worksOf_10 : decode cX9_worksOf 10 = .ok (.iload_n 1, 1) := by decide +kernel
theorem dX9_worksOf_11 : decode cX9_worksOf 11 = .ok (.baload, 1) := by decide +kernel
theorem dX9_worksOf_12 : decode cX9_worksOf 12 = .ok (.ifCond .eq 7, 3) := by decide +kernel
theorem dX9_worksOf_15 : decode cX9_worksOf 15 = .ok (.iconst 1, 1) := by decide +kernel
theorem dX9_worksOf_16 : decode cX9_worksOf 16 = .ok (.goto 4, 3) := by decide +kernel
theorem dX9_worksOf_19 : decode cX9_worksOf 19 = .ok (.iconst 0, 1) := by decide +kernel
theorem dX9_worksOf_20 : decode cX9_worksOf 20 = .ok (.ireturn, 1) := by decide +kernel
theorem dX9_works_0 : decode cX9_works 0 = .ok (.iload_n 1, 1) := by decide +kernel
theorem dX9_works_1 : decode cX9_works 1 = .ok (.iconst 0, 1) := by decide +kernel
theorem dX9_works_2 : decode cX9_works 2 = .ok (.aload_n 0, 1) := by decide +kernel
theorem dX9_works_3 : decode cX9_works 3 = .ok (.getfield 169, 3) := by decide +kernel
theorem dX9_works_6 : decode cX9_works 6 = .ok (.iconst 1, 1) := by decide +kernel
theorem dX9_works_7 : decode cX9_works 7 = .ok (.isub, 1) := by decide +kernel
theorem dX9_works_8 : decode cX9_works 8 = .ok (.invokestatic 116, 3) := by decide +kernel
theorem dX9_works_11 : decode cX9_works 11 = .ok (.ifCond .eq 11, 3) := by decide +kernel
theorem dX9_works_14 : decode cX9_works 14 = .ok (.aload_n 0, 1) := by decide +kernel
theorem dX9_works_15 : decode cX9_works 15 = .ok (.iload_n 1, 1) := by decide +kernel
theorem dX9_works_16 : decode cX9_works 16 = .ok (.invokevirtual 270, 3) := by decide +kernel
theorem dX9_works_19 : decode cX9_works 19 = .ok (.goto 5, 3) := by decide +kernel
theorem dX9_works_22 : decode cX9_works 22 = .ok (.bipush (-2), 2) := by decide +kernel
theorem dX9_works_24 : decode cX9_works 24 = .ok (.ireturn, 1) := by decide +kernel
theorem dX9_spill_0 : decode cX9_spill 0 = .ok (.aload_n 0, 1) := by decide +kernel
theorem dX9_spill_1 : decode cX9_spill 1 = .ok (.getfield 55, 3) := by decide +kernel
theorem dX9_spill_4 : decode cX9_spill 4 = .ok (.bipush 8, 2) := by decide +kernel
theorem dX9_spill_6 : decode cX9_spill 6 = .ok (.iload_n 2, 1) := by decide +kernel
theorem dX9_spill_7 : decode cX9_spill 7 = .ok (.imul, 1) := by decide +kernel
theorem dX9_spill_8 : decode cX9_spill 8 = .ok (.aload_n 0, 1) := by decide +kernel
theorem dX9_spill_9 : decode cX9_spill 9 = .ok (.getfield 28, 3) := by decide +kernel
theorem dX9_spill_12 : decode cX9_spill 12 = .ok (.iload_n 1, 1) := by decide +kernel
theorem dX9_spill_13 : decode cX9_spill 13 = .ok (.iaload, 1) := by decide +kernel
theorem dX9_spill_14 : decode cX9_spill 14 = .ok (.iadd, 1) := by decide +kernel
theorem dX9_spill_15 : decode cX9_spill 15 = .ok (.iaload, 1) := by decide +kernel
theorem dX9_spill_16 : decode cX9_spill 16 = .ok (.istore_n 3, 1) := by decide +kernel
theorem dX9_spill_17 : decode cX9_spill 17 = .ok (.iload_n 3, 1) := by decide +kernel
theorem dX9_spill_18 : decode cX9_spill 18 = .ok (.ifCond .le 13, 3) := by decide +kernel
theorem dX9_spill_21 : decode cX9_spill 21 = .ok (.aload_n 0, 1) := by decide +kernel
theorem dX9_spill_22 : decode cX9_spill 22 = .ok (.iload_n 2, 1) := by decide +kernel
theorem dX9_spill_23 : decode cX9_spill 23 = .ok (.invokevirtual 219, 3) := by decide +kernel
theorem dX9_spill_26 : decode cX9_spill 26 = .ok (.iload_n 3, 1) := by decide +kernel
theorem dX9_spill_27 : decode cX9_spill 27 = .ok (.isub, 1) := by decide +kernel
theorem dX9_spill_28 : decode cX9_spill 28 = .ok (.goto 6, 3) := by decide +kernel
theorem dX9_spill_31 : decode cX9_spill 31 = .ok (.ldc_w 273, 3) := by decide +kernel
theorem dX9_spill_34 : decode cX9_spill 34 = .ok (.ireturn, 1) := by decide +kernel
theorem dX9_laysSpills_0 : decode cX9_laysSpills 0 = .ok (.iconst 0, 1) := by decide +kernel
theorem dX9_laysSpills_1 : decode cX9_laysSpills 1 = .ok (.istore_n 1, 1) := by decide +kernel
theorem dX9_laysSpills_2 : decode cX9_laysSpills 2 = .ok (.iload_n 1, 1) := by decide +kernel
theorem dX9_laysSpills_3 : decode cX9_laysSpills 3 = .ok (.iconst 1, 1) := by decide +kernel
theorem dX9_laysSpills_4 : decode cX9_laysSpills 4 = .ok (.aload_n 0, 1) := by decide +kernel
theorem dX9_laysSpills_5 : decode cX9_laysSpills 5 = .ok (.getfield 128, 3) := by decide +kernel
theorem dX9_laysSpills_8 : decode cX9_laysSpills 8 = .ok (.ishl, 1) := by decide +kernel
theorem dX9_laysSpills_9 : decode cX9_laysSpills 9 = .ok (.if_icmp .ge 25, 3) := by decide +kernel
theorem dX9_laysSpills_12 : decode cX9_laysSpills 12 = .ok (.aload_n 0, 1) := by decide +kernel
theorem dX9_laysSpills_13 : decode cX9_laysSpills 13 = .ok (.getfield 80, 3) := by decide +kernel
theorem dX9_laysSpills_16 : decode cX9_laysSpills 16 = .ok (.sipush 256, 3) := by decide +kernel
theorem dX9_laysSpills_19 : decode cX9_laysSpills 19 = .ok (.aload_n 0, 1) := by decide +kernel
theorem dX9_laysSpills_20 : decode cX9_laysSpills 20 = .ok (.getfield 134, 3) := by decide +kernel
theorem dX9_laysSpills_23 : decode cX9_laysSpills 23 = .ok (.imul, 1) := by decide +kernel
theorem dX9_laysSpills_24 : decode cX9_laysSpills 24 = .ok (.iload_n 1, 1) := by decide +kernel
theorem dX9_laysSpills_25 : decode cX9_laysSpills 25 = .ok (.iadd, 1) := by decide +kernel
theorem dX9_laysSpills_26 : decode cX9_laysSpills 26 = .ok (.iconst 0, 1) := by decide +kernel
theorem dX9_laysSpills_27 : decode cX9_laysSpills 27 = .ok (.iastore, 1) := by decide +kernel
theorem dX9_laysSpills_28 : decode cX9_laysSpills 28 = .ok (.iinc 1 1, 3) := by decide +kernel
theorem dX9_laysSpills_31 : decode cX9_laysSpills 31 = .ok (.goto (-29), 3) := by decide +kernel
theorem dX9_laysSpills_34 : decode cX9_laysSpills 34 = .ok (.aload_n 0, 1) := by decide +kernel
theorem dX9_laysSpills_35 : decode cX9_laysSpills 35 = .ok (.getfield 134, 3) := by decide +kernel
theorem dX9_laysSpills_38 : decode cX9_laysSpills 38 = .ok (.iconst 1, 1) := by decide +kernel
theorem dX9_laysSpills_39 : decode cX9_laysSpills 39 = .ok (.isub, 1) := by decide +kernel
theorem dX9_laysSpills_40 : decode cX9_laysSpills 40 = .ok (.istore_n 1, 1) := by decide +kernel
theorem dX9_laysSpills_41 : decode cX9_laysSpills 41 = .ok (.iload_n 1, 1) := by decide +kernel
theorem dX9_laysSpills_42 : decode cX9_laysSpills 42 = .ok (.ifCond .lt 119, 3) := by decide +kernel
theorem dX9_laysSpills_45 : decode cX9_laysSpills 45 = .ok (.iconst 0, 1) := by decide +kernel
theorem dX9_laysSpills_46 : decode cX9_laysSpills 46 = .ok (.istore_n 2, 1) := by decide +kernel
theorem dX9_laysSpills_47 : decode cX9_laysSpills 47 = .ok (.iload_n 2, 1) := by decide +kernel
theorem dX9_laysSpills_48 : decode cX9_laysSpills 48 = .ok (.iconst 1, 1) := by decide +kernel
theorem dX9_laysSpills_49 : decode cX9_laysSpills 49 = .ok (.aload_n 0, 1) := by decide +kernel
theorem dX9_laysSpills_50 : decode cX9_laysSpills 50 = .ok (.getfield 128, 3) := by decide +kernel
theorem dX9_laysSpills_53 : decode cX9_laysSpills 53 = .ok (.ishl, 1) := by decide +kernel
theorem dX9_laysSpills_54 : decode cX9_laysSpills 54 = .ok (.if_icmp .ge 101, 3) := by decide +kernel
theorem dX9_laysSpills_57 : decode cX9_laysSpills 57 = .ok (.ldc_w 273, 3) := by decide +kernel
theorem dX9_laysSpills_60 : decode cX9_laysSpills 60 = .ok (.istore_n 3, 1) := by decide +kernel
theorem dX9_laysSpills_61 : decode cX9_laysSpills 61 = .ok (.iconst 0, 1) := by decide +kernel
theorem dX9_laysSpills_62 : decode cX9_laysSpills 62 = .ok (.istore 4, 2) := by decide +kernel
theorem dX9_laysSpills_64 : decode cX9_laysSpills 64 = .ok (.iload 4, 2) := by decide +kernel
theorem dX9_laysSpills_66 : decode cX9_laysSpills 66 = .ok (.aload_n 0, 1) := by decide +kernel
theorem dX9_laysSpills_67 : decode cX9_laysSpills 67 = .ok (.getfield 128, 3) := by decide +kernel
theorem dX9_laysSpills_70 : decode cX9_laysSpills 70 = .ok (.if_icmp .ge 66, 3) := by decide +kernel
theorem dX9_laysSpills_73 : decode cX9_laysSpills 73 = .ok (.iload_n 2, 1) := by decide +kernel
theorem dX9_laysSpills_74 : decode cX9_laysSpills 74 = .ok (.iload 4, 2) := by decide +kernel
theorem dX9_laysSpills_76 : decode cX9_laysSpills 76 = .ok (.invokestatic 274, 3) := by decide +kernel
theorem dX9_laysSpills_79 : decode cX9_laysSpills 79 = .ok (.ifCond .eq 9, 3) := by decide +kernel
theorem dX9_laysSpills_82 : decode cX9_laysSpills 82 = .ok (.ldc_w 273, 3) := by decide +kernel
theorem dX9_laysSpills_85 : decode cX9_laysSpills 85 = .ok (.goto 30, 3) := by decide +kernel
theorem dX9_laysSpills_88 : decode cX9_laysSpills 88 = .ok (.aload_n 0, 1) := by decide +kernel
theorem dX9_laysSpills_89 : decode cX9_laysSpills 89 = .ok (.iload_n 1, 1) := by decide +kernel
theorem dX9_laysSpills_90 : decode cX9_laysSpills 90 = .ok (.iload 4, 2) := by decide +kernel
theorem dX9_laysSpills_92 : decode cX9_laysSpills 92 = .ok (.invokevirtual 277, 3) := by decide +kernel
theorem dX9_laysSpills_95 : decode cX9_laysSpills 95 = .ok (.aload_n 0, 1) := by decide +kernel
theorem dX9_laysSpills_96 : decode cX9_laysSpills 96 = .ok (.getfield 80, 3) := by decide +kernel
theorem dX9_laysSpills_99 : decode cX9_laysSpills 99 = .ok (.sipush 256, 3) := by decide +kernel
theorem dX9_laysSpills_102 : decode cX9_laysSpills 102 = .ok (.iload_n 1, 1) := by decide +kernel
theorem dX9_laysSpills_103 : decode cX9_laysSpills 103 = .ok (.iconst 1, 1) := by decide +kernel
theorem dX9_laysSpills_104 : decode cX9_laysSpills 104 = .ok (.iadd, 1) := by decide +kernel
theorem dX9_laysSpills_105 : decode cX9_laysSpills 105 = .ok (.imul, 1) := by decide +kernel
theorem dX9_laysSpills_106 : decode cX9_laysSpills 106 = .ok (.iload_n 2, 1) := by decide +kernel
theorem dX9_laysSpills_107 : decode cX9_laysSpills 107 = .ok (.iconst 1, 1) := by decide +kernel
theorem dX9_laysSpills_108 : decode cX9_laysSpills 108 = .ok (.iload 4, 2) := by decide +kernel
theorem dX9_laysSpills_110 : decode cX9_laysSpills 110 = .ok (.ishl, 1) := by decide +kernel
theorem dX9_laysSpills_111 : decode cX9_laysSpills 111 = .ok (.ior, 1) := by decide +kernel
theorem dX9_laysSpills_112 : decode cX9_laysSpills 112 = .ok (.iadd, 1) := by decide +kernel
theorem dX9_laysSpills_113 : decode cX9_laysSpills 113 = .ok (.iaload, 1) := by decide +kernel
theorem dX9_laysSpills_114 : decode cX9_laysSpills 114 = .ok (.iadd, 1) := by decide +kernel
theorem dX9_laysSpills_115 : decode cX9_laysSpills 115 = .ok (.istore 5, 2) := by decide +kernel
theorem dX9_laysSpills_117 : decode cX9_laysSpills 117 = .ok (.iload 5, 2) := by decide +kernel
theorem dX9_laysSpills_119 : decode cX9_laysSpills 119 = .ok (.iload_n 3, 1) := by decide +kernel
theorem dX9_laysSpills_120 : decode cX9_laysSpills 120 = .ok (.if_icmp .ge 8, 3) := by decide +kernel
theorem dX9_laysSpills_123 : decode cX9_laysSpills 123 = .ok (.iload 5, 2) := by decide +kernel
theorem dX9_laysSpills_125 : decode cX9_laysSpills 125 = .ok (.goto 4, 3) := by decide +kernel
theorem dX9_laysSpills_128 : decode cX9_laysSpills 128 = .ok (.iload_n 3, 1) := by decide +kernel
theorem dX9_laysSpills_129 : decode cX9_laysSpills 129 = .ok (.istore_n 3, 1) := by decide +kernel
theorem dX9_laysSpills_130 : decode cX9_laysSpills 130 = .ok (.iinc 4 1, 3) := by decide +kernel
theorem dX9_laysSpills_133 : decode cX9_laysSpills 133 = .ok (.goto (-69), 3) := by decide +kernel
theorem dX9_laysSpills_136 : decode cX9_laysSpills 136 = .ok (.aload_n 0, 1) := by decide +kernel
theorem dX9_laysSpills_137 : decode cX9_laysSpills 137 = .ok (.getfield 80, 3) := by decide +kernel
theorem dX9_laysSpills_140 : decode cX9_laysSpills 140 = .ok (.sipush 256, 3) := by decide +kernel
theorem dX9_laysSpills_143 : decode cX9_laysSpills 143 = .ok (.iload_n 1, 1) := by decide +kernel
theorem dX9_laysSpills_144 : decode cX9_laysSpills 144 = .ok (.imul, 1) := by decide +kernel
theorem dX9_laysSpills_145 : decode cX9_laysSpills 145 = .ok (.iload_n 2, 1) := by decide +kernel
theorem dX9_laysSpills_146 : decode cX9_laysSpills 146 = .ok (.iadd, 1) := by decide +kernel
theorem dX9_laysSpills_147 : decode cX9_laysSpills 147 = .ok (.iload_n 3, 1) := by decide +kernel
theorem dX9_laysSpills_148 : decode cX9_laysSpills 148 = .ok (.iastore, 1) := by decide +kernel
theorem dX9_laysSpills_149 : decode cX9_laysSpills 149 = .ok (.iinc 2 1, 3) := by decide +kernel
theorem dX9_laysSpills_152 : decode cX9_laysSpills 152 = .ok (.goto (-105), 3) := by decide +kernel
theorem dX9_laysSpills_155 : decode cX9_laysSpills 155 = .ok (.iinc 1 (-1), 3) := by decide +kernel
theorem dX9_laysSpills_158 : decode cX9_laysSpills 158 = .ok (.goto (-117), 3) := by decide +kernel
theorem dX9_laysSpills_161 : decode cX9_laysSpills 161 = .ok (.aload_n 0, 1) := by decide +kernel
theorem dX9_laysSpills_162 : decode cX9_laysSpills 162 = .ok (.getfield 80, 3) := by decide +kernel
theorem dX9_laysSpills_165 : decode cX9_laysSpills 165 = .ok (.iconst 0, 1) := by decide +kernel
theorem dX9_laysSpills_166 : decode cX9_laysSpills 166 = .ok (.iaload, 1) := by decide +kernel
theorem dX9_laysSpills_167 : decode cX9_laysSpills 167 = .ok (.ldc_w 273, 3) := by decide +kernel
theorem dX9_laysSpills_170 : decode cX9_laysSpills 170 = .ok (.if_icmp .ge 12, 3) := by decide +kernel
theorem dX9_laysSpills_173 : decode cX9_laysSpills 173 = .ok (.aload_n 0, 1) := by decide +kernel
theorem dX9_laysSpills_174 : decode cX9_laysSpills 174 = .ok (.getfield 80, 3) := by decide +kernel
theorem dX9_laysSpills_177 : decode cX9_laysSpills 177 = .ok (.iconst 0, 1) := by decide +kernel
theorem dX9_laysSpills_178 : decode cX9_laysSpills 178 = .ok (.iaload, 1) := by decide +kernel
theorem dX9_laysSpills_179 : decode cX9_laysSpills 179 = .ok (.goto 4, 3) := by decide +kernel
theorem dX9_laysSpills_182 : decode cX9_laysSpills 182 = .ok (.iconst (-1), 1) := by decide +kernel
theorem dX9_laysSpills_183 : decode cX9_laysSpills 183 = .ok (.ireturn, 1) := by decide +kernel
theorem dX9_singOf_0 : decode cX9_singOf 0 = .ok (.aload_n 0, 1) := by decide +kernel
theorem dX9_singOf_1 : decode cX9_singOf 1 = .ok (.iload_n 1, 1) := by decide +kernel
theorem dX9_singOf_2 : decode cX9_singOf 2 = .ok (.invokevirtual 242, 3) := by decide +kernel
theorem dX9_singOf_5 : decode cX9_singOf 5 = .ok (.aload_n 0, 1) := by decide +kernel
theorem dX9_singOf_6 : decode cX9_singOf 6 = .ok (.invokevirtual 280, 3) := by decide +kernel
theorem dX9_singOf_9 : decode cX9_singOf 9 = .ok (.istore_n 3, 1) := by decide +kernel
theorem dX9_singOf_10 : decode cX9_singOf 10 = .ok (.iload_n 2, 1) := by decide +kernel
theorem dX9_singOf_11 : decode cX9_singOf 11 = .ok (.iconst (-1), 1) := by decide +kernel
theorem dX9_singOf_12 : decode cX9_singOf 12 = .ok (.if_icmp .eq 8, 3) := by decide +kernel
theorem dX9_singOf_15 : decode cX9_singOf 15 = .ok (.iload_n 3, 1) := by decide +kernel
theorem dX9_singOf_16 : decode cX9_singOf 16 = .ok (.iconst (-1), 1) := by decide +kernel
theorem dX9_singOf_17 : decode cX9_singOf 17 = .ok (.if_icmp .ne 5, 3) := by decide +kernel
theorem dX9_singOf_20 : decode cX9_singOf 20 = .ok (.iload_n 3, 1) := by decide +kernel
theorem dX9_singOf_21 : decode cX9_singOf 21 = .ok (.ireturn, 1) := by decide +kernel
theorem dX9_singOf_22 : decode cX9_singOf 22 = .ok (.iconst 0, 1) := by decide +kernel
theorem dX9_singOf_23 : decode cX9_singOf 23 = .ok (.istore 4, 2) := by decide +kernel
theorem dX9_singOf_25 : decode cX9_singOf 25 = .ok (.iconst (-1), 1) := by decide +kernel
theorem dX9_singOf_26 : decode cX9_singOf 26 = .ok (.istore 5, 2) := by decide +kernel
theorem dX9_singOf_28 : decode cX9_singOf 28 = .ok (.iconst 0, 1) := by decide +kernel
theorem dX9_singOf_29 : decode cX9_singOf 29 = .ok (.istore 6, 2) := by decide +kernel
theorem dX9_singOf_31 : decode cX9_singOf 31 = .ok (.iload 6, 2) := by decide +kernel
theorem dX9_singOf_33 : decode cX9_singOf 33 = .ok (.iload_n 2, 1) := by decide +kernel
theorem dX9_singOf_34 : decode cX9_singOf 34 = .ok (.if_icmp .gt 141, 3) := by decide +kernel
theorem dX9_singOf_37 : decode cX9_singOf 37 = .ok (.iload 6, 2) := by decide +kernel
theorem dX9_singOf_39 : decode cX9_singOf 39 = .ok (.aload_n 0, 1) := by decide +kernel
theorem dX9_singOf_40 : decode cX9_singOf 40 = .ok (.getfield 134, 3) := by decide +kernel
theorem dX9_singOf_43 : decode cX9_singOf 43 = .ok (.if_icmp .ge 132, 3) := by decide +kernel
theorem dX9_singOf_46 : decode cX9_singOf 46 = .ok (.iconst (-1), 1) := by decide +kernel
theorem dX9_singOf_47 : decode cX9_singOf 47 = .ok (.istore 5, 2) := by decide +kernel
theorem dX9_singOf_49 : decode cX9_singOf 49 = .ok (.aload_n 0, 1) := by decide +kernel
theorem dX9_singOf_50 : decode cX9_singOf 50 = .ok (.getfield 128, 3) := by decide +kernel
theorem dX9_singOf_53 : decode cX9_singOf 53 = .ok (.iconst 1, 1) := by decide +kernel
theorem dX9_singOf_54 : decode cX9_singOf 54 = .ok (.isub, 1) := by decide +kernel
theorem dX9_singOf_55 : decode cX9_singOf 55 = .ok (.istore 7, 2) := by decide +kernel
theorem dX9_singOf_57 : decode cX9_singOf 57 = .ok (.iload 7, 2) := by decide +kernel
theorem dX9_singOf_59 : decode cX9_singOf 59 = .ok (.ifCond .lt 101, 3) := by decide +kernel
theorem dX9_singOf_62 : decode cX9_singOf 62 = .ok (.iload 4, 2) := by decide +kernel
theorem dX9_singOf_64 : decode cX9_singOf 64 = .ok (.iload 7, 2) := by decide +kernel
theorem dX9_singOf_66 : decode cX9_singOf 66 = .ok (.invokestatic 274, 3) := by decide +kernel
theorem dX9_singOf_69 : decode cX9_singOf 69 = .ok (.ifCond .ne 68, 3) := by decide +kernel
theorem dX9_singOf_72 : decode cX9_singOf 72 = .ok (.aload_n 0, 1) := by decide +kernel
theorem dX9_singOf_73 : decode cX9_singOf 73 = .ok (.iload 6, 2) := by decide +kernel
theorem dX9_singOf_75 : decode cX9_singOf 75 = .ok (.iload 7, 2) := by decide +kernel
theorem dX9_singOf_77 : decode cX9_singOf 77 = .ok (.invokevirtual 277, 3) := by decide +kernel
theorem dX9_singOf_80 : decode cX9_singOf 80 = .ok (.ldc_w 273, 3) := by decide +kernel
theorem dX9_singOf_83 : decode cX9_singOf 83 = .ok (.if_icmp .ge 54, 3) := by decide +kernel
theorem dX9_singOf_86 : decode cX9_singOf 86 = .ok (.aload_n 0, 1) := by decide +kernel
theorem dX9_singOf_87 : decode cX9_singOf 87 = .ok (.iload 6, 2) := by decide +kernel
theorem dX9_singOf_89 : decode cX9_singOf 89 = .ok (.iload 7, 2) := by decide +kernel
theorem dX9_singOf_91 : decode cX9_singOf 91 = .ok (.invokevirtual 277, 3) := by decide +kernel
theorem dX9_singOf_94 : decode cX9_singOf 94 = .ok (.aload_n 0, 1) := by decide +kernel
theorem dX9_singOf_95 : decode cX9_singOf 95 = .ok (.getfield 80, 3) := by decide +kernel
theorem dX9_singOf_98 : decode cX9_singOf 98 = .ok (.sipush 256, 3) := by decide +kernel
theorem dX9_singOf_101 : decode cX9_singOf 101 = .ok (.iload 6, 2) := by decide +kernel
theorem dX9_singOf_103 : decode cX9_singOf 103 = .ok (.iconst 1, 1) := by decide +kernel
theorem dX9_singOf_104 : decode cX9_singOf 104 = .ok (.iadd, 1) := by decide +kernel
theorem dX9_singOf_105 : decode cX9_singOf 105 = .ok (.imul, 1) := by decide +kernel
theorem dX9_singOf_106 : decode cX9_singOf 106 = .ok (.iload 4, 2) := by decide +kernel
theorem dX9_singOf_108 : decode cX9_singOf 108 = .ok (.iconst 1, 1) := by decide +kernel
theorem dX9_singOf_109 : decode cX9_singOf 109 = .ok (.iload 7, 2) := by decide +kernel
theorem dX9_singOf_111 : decode cX9_singOf 111 = .ok (.ishl, 1) := by decide +kernel
theorem dX9_singOf_112 : decode cX9_singOf 112 = .ok (.ior, 1) := by decide +kernel
theorem dX9_singOf_113 : decode cX9_singOf 113 = .ok (.iadd, 1) := by decide +kernel
theorem dX9_singOf_114 : decode cX9_singOf 114 = .ok (.iaload, 1) := by decide +kernel
theorem dX9_singOf_115 : decode cX9_singOf 115 = .ok (.iadd, 1) := by decide +kernel
theorem dX9_singOf_116 : decode cX9_singOf 116 = .ok (.aload_n 0, 1) := by decide +kernel
theorem dX9_singOf_117 : decode cX9_singOf 117 = .ok (.getfield 80, 3) := by decide +kernel
theorem dX9_singOf_120 : decode cX9_singOf 120 = .ok (.sipush 256, 3) := by decide +kernel
theorem dX9_singOf_123 : decode cX9_singOf 123 = .ok (.iload 6, 2) := by decide +kernel
theorem dX9_singOf_125 : decode cX9_singOf 125 = .ok (.imul, 1) := by decide +kernel
theorem dX9_singOf_126 : decode cX9_singOf 126 = .ok (.iload 4, 2) := by decide +kernel
theorem dX9_singOf_128 : decode cX9_singOf 128 = .ok (.iadd, 1) := by decide +kernel
theorem dX9_singOf_129 : decode cX9_singOf 129 = .ok (.iaload, 1) := by decide +kernel
theorem dX9_singOf_130 : decode cX9_singOf 130 = .ok (.if_icmp .ne 7, 3) := by decide +kernel
theorem dX9_singOf_133 : decode cX9_singOf 133 = .ok (.iconst 1, 1) := by decide +kernel
theorem dX9_singOf_134 : decode cX9_singOf 134 = .ok (.goto 4, 3) := by decide +kernel
theorem dX9_singOf_137 : decode cX9_singOf 137 = .ok (.iconst 0, 1) := by decide +kernel
theorem dX9_singOf_138 : decode cX9_singOf 138 = .ok (.istore 8, 2) := by decide +kernel
theorem dX9_singOf_140 : decode cX9_singOf 140 = .ok (.iload 8, 2) := by decide +kernel
theorem dX9_singOf_142 : decode cX9_singOf 142 = .ok (.ifCond .eq 8, 3) := by decide +kernel
theorem dX9_singOf_145 : decode cX9_singOf 145 = .ok (.iload 7, 2) := by decide +kernel
theorem dX9_singOf_147 : decode cX9_singOf 147 = .ok (.goto 5, 3) := by decide +kernel
theorem dX9_singOf_150 : decode cX9_singOf 150 = .ok (.iload 5, 2) := by decide +kernel
theorem dX9_singOf_152 : decode cX9_singOf 152 = .ok (.istore 5, 2) := by decide +kernel
theorem dX9_singOf_154 : decode cX9_singOf 154 = .ok (.iinc 7 (-1), 3) := by decide +kernel
theorem dX9_singOf_157 : decode cX9_singOf 157 = .ok (.goto (-100), 3) := by decide +kernel
theorem dX9_singOf_160 : decode cX9_singOf 160 = .ok (.iload 4, 2) := by decide +kernel
theorem dX9_singOf_162 : decode cX9_singOf 162 = .ok (.iconst 1, 1) := by decide +kernel
theorem dX9_singOf_163 : decode cX9_singOf 163 = .ok (.iload 5, 2) := by decide +kernel
theorem dX9_singOf_165 : decode cX9_singOf 165 = .ok (.ishl, 1) := by decide +kernel
theorem dX9_singOf_166 : decode cX9_singOf 166 = .ok (.ior, 1) := by decide +kernel
theorem dX9_singOf_167 : decode cX9_singOf 167 = .ok (.istore 4, 2) := by decide +kernel
theorem dX9_singOf_169 : decode cX9_singOf 169 = .ok (.iinc 6 1, 3) := by decide +kernel
theorem dX9_singOf_172 : decode cX9_singOf 172 = .ok (.goto (-141), 3) := by decide +kernel
theorem dX9_singOf_175 : decode cX9_singOf 175 = .ok (.iload_n 2, 1) := by decide +kernel
theorem dX9_singOf_176 : decode cX9_singOf 176 = .ok (.aload_n 0, 1) := by decide +kernel
theorem dX9_singOf_177 : decode cX9_singOf 177 = .ok (.getfield 134, 3) := by decide +kernel
theorem dX9_singOf_180 : decode cX9_singOf 180 = .ok (.if_icmp .ge 8, 3) := by decide +kernel
theorem dX9_singOf_183 : decode cX9_singOf 183 = .ok (.iload 5, 2) := by decide +kernel
theorem dX9_singOf_185 : decode cX9_singOf 185 = .ok (.goto 4, 3) := by decide +kernel
theorem dX9_singOf_188 : decode cX9_singOf 188 = .ok (.iconst (-1), 1) := by decide +kernel
theorem dX9_singOf_189 : decode cX9_singOf 189 = .ok (.ireturn, 1) := by decide +kernel
theorem dX9_sing_0 : decode cX9_sing 0 = .ok (.iload_n 1, 1) := by decide +kernel
theorem dX9_sing_1 : decode cX9_sing 1 = .ok (.invokestatic 163, 3) := by decide +kernel
theorem dX9_sing_4 : decode cX9_sing 4 = .ok (.ifCond .eq 22, 3) := by decide +kernel
theorem dX9_sing_7 : decode cX9_sing 7 = .ok (.iload_n 2, 1) := by decide +kernel
theorem dX9_sing_8 : decode cX9_sing 8 = .ok (.iconst (-1), 1) := by decide +kernel
theorem dX9_sing_9 : decode cX9_sing 9 = .ok (.bipush 7, 2) := by decide +kernel
theorem dX9_sing_11 : decode cX9_sing 11 = .ok (.invokestatic 116, 3) := by decide +kernel
theorem dX9_sing_14 : decode cX9_sing 14 = .ok (.ifCond .eq 12, 3) := by decide +kernel
theorem dX9_sing_17 : decode cX9_sing 17 = .ok (.aload_n 0, 1) := by decide +kernel
theorem dX9_sing_18 : decode cX9_sing 18 = .ok (.iload_n 1, 1) := by decide +kernel
theorem dX9_sing_19 : decode cX9_sing 19 = .ok (.iload_n 2, 1) := by decide +kernel
theorem dX9_sing_20 : decode cX9_sing 20 = .ok (.invokevirtual 283, 3) := by decide +kernel
theorem dX9_sing_23 : decode cX9_sing 23 = .ok (.goto 5, 3) := by decide +kernel
theorem dX9_sing_26 : decode cX9_sing 26 = .ok (.bipush (-2), 2) := by decide +kernel
theorem dX9_sing_28 : decode cX9_sing 28 = .ok (.ireturn, 1) := by decide +kernel
theorem dX9_sings_0 : decode cX9_sings 0 = .ok (.aload_n 0, 1) := by decide +kernel
theorem dX9_sings_1 : decode cX9_sings 1 = .ok (.iload_n 2, 1) := by decide +kernel
theorem dX9_sings_2 : decode cX9_sings 2 = .ok (.putfield 191, 3) := by decide +kernel
theorem dX9_sings_5 : decode cX9_sings 5 = .ok (.aload_n 0, 1) := by decide +kernel
theorem dX9_sings_6 : decode cX9_sings 6 = .ok (.getfield 46, 3) := by decide +kernel
theorem dX9_sings_9 : decode cX9_sings 9 = .ok (.iconst 0, 1) := by decide +kernel
theorem dX9_sings_10 : decode cX9_sings 10 = .ok (.iload_n 3, 1) := by decide +kernel
theorem dX9_sings_11 : decode cX9_sings 11 = .ok (.iastore, 1) := by decide +kernel
theorem dX9_sings_12 : decode cX9_sings 12 = .ok (.aload_n 0, 1) := by decide +kernel
theorem dX9_sings_13 : decode cX9_sings 13 = .ok (.getfield 46, 3) := by decide +kernel
theorem dX9_sings_16 : decode cX9_sings 16 = .ok (.iconst 1, 1) := by decide +kernel
theorem dX9_sings_17 : decode cX9_sings 17 = .ok (.iload 4, 2) := by decide +kernel
theorem dX9_sings_19 : decode cX9_sings 19 = .ok (.iastore, 1) := by decide +kernel
theorem dX9_sings_20 : decode cX9_sings 20 = .ok (.aload_n 0, 1) := by decide +kernel
theorem dX9_sings_21 : decode cX9_sings 21 = .ok (.getfield 46, 3) := by decide +kernel
theorem dX9_sings_24 : decode cX9_sings 24 = .ok (.iconst 2, 1) := by decide +kernel
theorem dX9_sings_25 : decode cX9_sings 25 = .ok (.iload 5, 2) := by decide +kernel
theorem dX9_sings_27 : decode cX9_sings 27 = .ok (.iastore, 1) := by decide +kernel
theorem dX9_sings_28 : decode cX9_sings 28 = .ok (.aload_n 0, 1) := by decide +kernel
theorem dX9_sings_29 : decode cX9_sings 29 = .ok (.iload_n 1, 1) := by decide +kernel
theorem dX9_sings_30 : decode cX9_sings 30 = .ok (.invokevirtual 239, 3) := by decide +kernel
theorem dX9_sings_33 : decode cX9_sings 33 = .ok (.aload_n 0, 1) := by decide +kernel
theorem dX9_sings_34 : decode cX9_sings 34 = .ok (.invokevirtual 280, 3) := by decide +kernel
theorem dX9_sings_37 : decode cX9_sings 37 = .ok (.iconst (-1), 1) := by decide +kernel
theorem dX9_sings_38 : decode cX9_sings 38 = .ok (.if_icmp .eq 7, 3) := by decide +kernel
theorem dX9_sings_41 : decode cX9_sings 41 = .ok (.iconst 1, 1) := by decide +kernel
theorem dX9_sings_42 : decode cX9_sings 42 = .ok (.goto 4, 3) := by decide +kernel
theorem dX9_sings_45 : decode cX9_sings 45 = .ok (.iconst 0, 1) := by decide +kernel
theorem dX9_sings_46 : decode cX9_sings 46 = .ok (.ireturn, 1) := by decide +kernel
theorem dX9_corksBy_0 : decode cX9_corksBy 0 = .ok (.aload_n 0, 1) := by decide +kernel
theorem dX9_corksBy_1 : decode cX9_corksBy 1 = .ok (.invokevirtual 236, 3) := by decide +kernel
theorem dX9_corksBy_4 : decode cX9_corksBy 4 = .ok (.aload_n 0, 1) := by decide +kernel
theorem dX9_corksBy_5 : decode cX9_corksBy 5 = .ok (.iload_n 1, 1) := by decide +kernel
theorem dX9_corksBy_6 : decode cX9_corksBy 6 = .ok (.iconst 0, 1) := by decide +kernel
theorem dX9_corksBy_7 : decode cX9_corksBy 7 = .ok (.iconst (-1), 1) := by decide +kernel
theorem dX9_corksBy_8 : decode cX9_corksBy 8 = .ok (.iconst (-1), 1) := by decide +kernel
theorem dX9_corksBy_9 : decode cX9_corksBy 9 = .ok (.iconst (-1), 1) := by decide +kernel
theorem dX9_corksBy_10 : decode cX9_corksBy 10 = .ok (.invokevirtual 286, 3) := by decide +kernel
theorem dX9_corksBy_13 : decode cX9_corksBy 13 = .ok (.ifCond .eq 5, 3) := by decide +kernel
theorem dX9_corksBy_16 : decode cX9_corksBy 16 = .ok (.iconst 0, 1) := by decide +kernel
theorem dX9_corksBy_17 : decode cX9_corksBy 17 = .ok (.ireturn, 1) := by decide +kernel
theorem dX9_corksBy_18 : decode cX9_corksBy 18 = .ok (.iconst 0, 1) := by decide +kernel
theorem dX9_corksBy_19 : decode cX9_corksBy 19 = .ok (.istore_n 2, 1) := by decide +kernel
theorem dX9_corksBy_20 : decode cX9_corksBy 20 = .ok (.iload_n 2, 1) := by decide +kernel
theorem dX9_corksBy_21 : decode cX9_corksBy 21 = .ok (.aload_n 0, 1) := by decide +kernel
theorem dX9_corksBy_22 : decode cX9_corksBy 22 = .ok (.getfield 128, 3) := by decide +kernel
theorem dX9_corksBy_25 : decode cX9_corksBy 25 = .ok (.if_icmp .ge 23, 3) := by decide +kernel
theorem dX9_corksBy_28 : decode cX9_corksBy 28 = .ok (.aload_n 0, 1) := by decide +kernel
theorem dX9_corksBy_29 : decode cX9_corksBy 29 = .ok (.iload_n 1, 1) := by decide +kernel
theorem dX9_corksBy_30 : decode cX9_corksBy 30 = .ok (.iconst 1, 1) := by decide +kernel
theorem dX9_corksBy_31 : decode cX9_corksBy 31 = .ok (.iload_n 2, 1) := by decide +kernel
theorem dX9_corksBy_32 : decode cX9_corksBy 32 = .ok (.iconst (-1), 1) := by decide +kernel
theorem dX9_corksBy_33 : decode cX9_corksBy 33 = .ok (.iconst (-1), 1) := by decide +kernel
theorem dX9_corksBy_34 : decode cX9_corksBy 34 = .ok (.invokevirtual 286, 3) := by decide +kernel
theorem dX9_corksBy_37 : decode cX9_corksBy 37 = .ok (.ifCond .eq 5, 3) := by decide +kernel
theorem dX9_corksBy_40 : decode cX9_corksBy 40 = .ok (.iconst 1, 1) := by decide +kernel
theorem dX9_corksBy_41 : decode cX9_corksBy 41 = .ok (.ireturn, 1) := by decide +kernel
theorem dX9_corksBy_42 : decode cX9_corksBy 42 = .ok (.iinc 2 1, 3) := by decide +kernel
theorem dX9_corksBy_45 : decode cX9_corksBy 45 = .ok (.goto (-25), 3) := by decide +kernel
theorem dX9_corksBy_48 : decode cX9_corksBy 48 = .ok (.iconst 0, 1) := by decide +kernel
theorem dX9_corksBy_49 : decode cX9_corksBy 49 = .ok (.istore_n 2, 1) := by decide +kernel
theorem dX9_corksBy_50 : decode cX9_corksBy 50 = .ok (.iload_n 2, 1) := by decide +kernel
theorem dX9_corksBy_51 : decode cX9_corksBy 51 = .ok (.aload_n 0, 1) := by decide +kernel
theorem dX9_corksBy_52 : decode cX9_corksBy 52 = .ok (.getfield 128, 3) := by decide +kernel
theorem dX9_corksBy_55 : decode cX9_corksBy 55 = .ok (.if_icmp .ge 41, 3) := by decide +kernel
theorem dX9_corksBy_58 : decode cX9_corksBy 58 = .ok (.iload_n 2, 1) := by decide +kernel
theorem dX9_corksBy_59 : decode cX9_corksBy 59 = .ok (.iconst 1, 1) := by decide +kernel
theorem dX9_corksBy_60 : decode cX9_corksBy 60 = .ok (.iadd, 1) := by decide +kernel
theorem dX9_corksBy_61 : decode cX9_corksBy 61 = .ok (.istore_n 3, 1) := by decide +kernel
theorem dX9_corksBy_62 : decode cX9_corksBy 62 = .ok (.iload_n 3, 1) := by decide +kernel
theorem dX9_corksBy_63 : decode cX9_corksBy 63 = .ok (.aload_n 0, 1) := by decide +kernel
theorem dX9_corksBy_64 : decode cX9_corksBy 64 = .ok (.getfield 128, 3) := by decide +kernel
theorem dX9_corksBy_67 : decode cX9_corksBy 67 = .ok (.if_icmp .ge 23, 3) := by decide +kernel
theorem dX9_corksBy_70 : decode cX9_corksBy 70 = .ok (.aload_n 0, 1) := by decide +kernel
theorem dX9_corksBy_71 : decode cX9_corksBy 71 = .ok (.iload_n 1, 1) := by decide +kernel
theorem dX9_corksBy_72 : decode cX9_corksBy 72 = .ok (.iconst 2, 1) := by decide +kernel
theorem dX9_corksBy_73 : decode cX9_corksBy 73 = .ok (.iload_n 2, 1) := by decide +kernel
theorem dX9_corksBy_74 : decode cX9_corksBy 74 = .ok (.iload_n 3, 1) := by decide +kernel
theorem dX9_corksBy_75 : decode cX9_corksBy 75 = .ok (.iconst (-1), 1) := by decide +kernel
theorem dX9_corksBy_76 : decode cX9_corksBy 76 = .ok (.invokevirtual 286, 3) := by decide +kernel
theorem dX9_corksBy_79 : decode cX9_corksBy 79 = .ok (.ifCond .eq 5, 3) := by decide +kernel
theorem dX9_corksBy_82 : decode cX9_corksBy 82 = .ok (.iconst 2, 1) := by decide +kernel
theorem dX9_corksBy_83 : decode cX9_corksBy 83 = .ok (.ireturn, 1) := by decide +kernel
theorem dX9_corksBy_84 : decode cX9_corksBy 84 = .ok (.iinc 3 1, 3) := by decide +kernel
theorem dX9_corksBy_87 : decode cX9_corksBy 87 = .ok (.goto (-25), 3) := by decide +kernel
theorem dX9_corksBy_90 : decode cX9_corksBy 90 = .ok (.iinc 2 1, 3) := by decide +kernel
theorem dX9_corksBy_93 : decode cX9_corksBy 93 = .ok (.goto (-43), 3) := by decide +kernel
theorem dX9_corksBy_96 : decode cX9_corksBy 96 = .ok (.iconst 0, 1) := by decide +kernel
theorem dX9_corksBy_97 : decode cX9_corksBy 97 = .ok (.istore_n 2, 1) := by decide +kernel
theorem dX9_corksBy_98 : decode cX9_corksBy 98 = .ok (.iload_n 2, 1) := by decide +kernel
theorem dX9_corksBy_99 : decode cX9_corksBy 99 = .ok (.aload_n 0, 1) := by decide +kernel
theorem dX9_corksBy_100 : decode cX9_corksBy 100 = .ok (.getfield 128, 3) := by decide +kernel
theorem dX9_corksBy_103 : decode cX9_corksBy 103 = .ok (.if_icmp .ge 62, 3) := by decide +kernel
theorem dX9_corksBy_106 : decode cX9_corksBy 106 = .ok (.iload_n 2, 1) := by decide +kernel
theorem dX9_corksBy_107 : decode cX9_corksBy 107 = .ok (.iconst 1, 1) := by decide +kernel
theorem dX9_corksBy_108 : decode cX9_corksBy 108 = .ok (.iadd, 1) := by decide +kernel
theorem dX9_corksBy_109 : decode cX9_corksBy 109 = .ok (.istore_n 3, 1) := by decide +kernel
theorem dX9_corksBy_110 : decode cX9_corksBy 110 = .ok (.iload_n 3, 1) := by decide +kernel
theorem dX9_corksBy_111 : decode cX9_corksBy 111 = .ok (.aload_n 0, 1) := by decide +kernel
theorem dX9_corksBy_112 : decode cX9_corksBy 112 = .ok (.getfield 128, 3) := by decide +kernel
theorem dX9_corksBy_115 : decode cX9_corksBy 115 = .ok (.if_icmp .ge 44, 3) := by decide +kernel
theorem dX9_corksBy_118 : decode cX9_corksBy 118 = .ok (.iload_n 3, 1) := by decide +kernel
theorem dX9_corksBy_119 : decode cX9_corksBy 119 = .ok (.iconst 1, 1) := by decide +kernel
theorem dX9_corksBy_120 : decode cX9_corksBy 120 = .ok (.iadd, 1) := by decide +kernel
theorem dX9_corksBy_121 : decode cX9_corksBy 121 = .ok (.istore 4, 2) := by decide +kernel
theorem dX9_corksBy_123 : decode cX9_corksBy 123 = .ok (.iload 4, 2) := by decide +kernel
theorem dX9_corksBy_125 : decode cX9_corksBy 125 = .ok (.aload_n 0, 1) := by decide +kernel
theorem dX9_corksBy_126 : decode cX9_corksBy 126 = .ok (.getfield 128, 3) := by decide +kernel
theorem dX9_corksBy_129 : decode cX9_corksBy 129 = .ok (.if_icmp .ge 24, 3) := by decide +kernel
theorem dX9_corksBy_132 : decode cX9_corksBy 132 = .ok (.aload_n 0, 1) := by decide +kernel
theorem dX9_corksBy_133 : decode cX9_corksBy 133 = .ok (.iload_n 1, 1) := by decide +kernel
theorem dX9_corksBy_134 : decode cX9_corksBy 134 = .ok (.iconst 3, 1) := by decide +kernel
theorem dX9_corksBy_135 : decode cX9_corksBy 135 = .ok (.iload_n 2, 1) := by decide +kernel
theorem dX9_corksBy_136 : decode cX9_corksBy 136 = .ok (.iload_n 3, 1) := by decide +kernel
theorem dX9_corksBy_137 : decode cX9_corksBy 137 = .ok (.iload 4, 2) := by decide +kernel
theorem dX9_corksBy_139 : decode cX9_corksBy 139 = .ok (.invokevirtual 286, 3) := by decide +kernel
theorem dX9_corksBy_142 : decode cX9_corksBy 142 = .ok (.ifCond .eq 5, 3) := by decide +kernel
theorem dX9_corksBy_145 : decode cX9_corksBy 145 = .ok (.iconst 3, 1) := by decide +kernel
theorem dX9_corksBy_146 : decode cX9_corksBy 146 = .ok (.ireturn, 1) := by decide +kernel
theorem dX9_corksBy_147 : decode cX9_corksBy 147 = .ok (.iinc 4 1, 3) := by decide +kernel
theorem dX9_corksBy_150 : decode cX9_corksBy 150 = .ok (.goto (-27), 3) := by decide +kernel
theorem dX9_corksBy_153 : decode cX9_corksBy 153 = .ok (.iinc 3 1, 3) := by decide +kernel
theorem dX9_corksBy_156 : decode cX9_corksBy 156 = .ok (.goto (-46), 3) := by decide +kernel
theorem dX9_corksBy_159 : decode cX9_corksBy 159 = .ok (.iinc 2 1, 3) := by decide +kernel
theorem dX9_corksBy_162 : decode cX9_corksBy 162 = .ok (.goto (-64), 3) := by decide +kernel
theorem dX9_corksBy_165 : decode cX9_corksBy 165 = .ok (.iconst (-1), 1) := by decide +kernel
theorem dX9_corksBy_166 : decode cX9_corksBy 166 = .ok (.ireturn, 1) := by decide +kernel
theorem dX9_ofCorks_0 : decode cX9_ofCorks 0 = .ok (.iload_n 2, 1) := by decide +kernel
theorem dX9_ofCorks_1 : decode cX9_ofCorks 1 = .ok (.iconst (-1), 1) := by decide +kernel
theorem dX9_ofCorks_2 : decode cX9_ofCorks 2 = .ok (.if_icmp .ne 7, 3) := by decide +kernel
theorem dX9_ofCorks_5 : decode cX9_ofCorks 5 = .ok (.iload_n 1, 1) := by decide +kernel
theorem dX9_ofCorks_6 : decode cX9_ofCorks 6 = .ok (.goto 18, 3) := by decide +kernel
theorem dX9_ofCorks_9 : decode cX9_ofCorks 9 = .ok (.iload_n 2, 1) := by decide +kernel
theorem dX9_ofCorks_10 : decode cX9_ofCorks 10 = .ok (.iload_n 1, 1) := by decide +kernel
theorem dX9_ofCorks_11 : decode cX9_ofCorks 11 = .ok (.if_icmp .ge 12, 3) := by decide +kernel
theorem dX9_ofCorks_14 : decode cX9_ofCorks 14 = .ok (.aload_n 0, 1) := by decide +kernel
theorem dX9_ofCorks_15 : decode cX9_ofCorks 15 = .ok (.getfield 46, 3) := by decide +kernel
theorem dX9_ofCorks_18 : decode cX9_ofCorks 18 = .ok (.iload_n 2, 1) := by decide +kernel
theorem dX9_ofCorks_19 : decode cX9_ofCorks 19 = .ok (.iaload, 1) := by decide +kernel
theorem dX9_ofCorks_20 : decode cX9_ofCorks 20 = .ok (.goto 4, 3) := by decide +kernel
theorem dX9_ofCorks_23 : decode cX9_ofCorks 23 = .ok (.iconst (-1), 1) := by decide +kernel
theorem dX9_ofCorks_24 : decode cX9_ofCorks 24 = .ok (.ireturn, 1) := by decide +kernel
theorem dX9_corks_0 : decode cX9_corks 0 = .ok (.iload_n 1, 1) := by decide +kernel
theorem dX9_corks_1 : decode cX9_corks 1 = .ok (.invokestatic 163, 3) := by decide +kernel
theorem dX9_corks_4 : decode cX9_corks 4 = .ok (.ifCond .eq 25, 3) := by decide +kernel
theorem dX9_corks_7 : decode cX9_corks 7 = .ok (.iload_n 2, 1) := by decide +kernel
theorem dX9_corks_8 : decode cX9_corks 8 = .ok (.iconst (-1), 1) := by decide +kernel
theorem dX9_corks_9 : decode cX9_corks 9 = .ok (.iconst 2, 1) := by decide +kernel
theorem dX9_corks_10 : decode cX9_corks 10 = .ok (.invokestatic 116, 3) := by decide +kernel
theorem dX9_corks_13 : decode cX9_corks 13 = .ok (.ifCond .eq 16, 3) := by decide +kernel
theorem dX9_corks_16 : decode cX9_corks 16 = .ok (.aload_n 0, 1) := by decide +kernel
theorem dX9_corks_17 : decode cX9_corks 17 = .ok (.aload_n 0, 1) := by decide +kernel
theorem dX9_corks_18 : decode cX9_corks 18 = .ok (.iload_n 1, 1) := by decide +kernel
theorem dX9_corks_19 : decode cX9_corks 19 = .ok (.invokevirtual 290, 3) := by decide +kernel
theorem dX9_corks_22 : decode cX9_corks 22 = .ok (.iload_n 2, 1) := by decide +kernel
theorem dX9_corks_23 : decode cX9_corks 23 = .ok (.invokevirtual 293, 3) := by decide +kernel
theorem dX9_corks_26 : decode cX9_corks 26 = .ok (.goto 5, 3) := by decide +kernel
theorem dX9_corks_29 : decode cX9_corks 29 = .ok (.bipush (-2), 2) := by decide +kernel
theorem dX9_corks_31 : decode cX9_corks 31 = .ok (.ireturn, 1) := by decide +kernel
theorem dX9_mostOf_0 : decode cX9_mostOf 0 = .ok (.aload_n 0, 1) := by decide +kernel
theorem dX9_mostOf_1 : decode cX9_mostOf 1 = .ok (.iload_n 1, 1) := by decide +kernel
theorem dX9_mostOf_2 : decode cX9_mostOf 2 = .ok (.invokevirtual 242, 3) := by decide +kernel
theorem dX9_mostOf_5 : decode cX9_mostOf 5 = .ok (.iconst (-1), 1) := by decide +kernel
theorem dX9_mostOf_6 : decode cX9_mostOf 6 = .ok (.istore_n 3, 1) := by decide +kernel
theorem dX9_mostOf_7 : decode cX9_mostOf 7 = .ok (.iconst 0, 1) := by decide +kernel
theorem dX9_mostOf_8 : decode cX9_mostOf 8 = .ok (.istore 4, 2) := by decide +kernel
theorem dX9_mostOf_10 : decode cX9_mostOf 10 = .ok (.iload 4, 2) := by decide +kernel
theorem dX9_mostOf_12 : decode cX9_mostOf 12 = .ok (.aload_n 0, 1) := by decide +kernel
theorem dX9_mostOf_13 : decode cX9_mostOf 13 = .ok (.getfield 128, 3) := by decide +kernel
theorem dX9_mostOf_16 : decode cX9_mostOf 16 = .ok (.if_icmp .ge 56, 3) := by decide +kernel
theorem dX9_mostOf_19 : decode cX9_mostOf 19 = .ok (.aload_n 0, 1) := by decide +kernel
theorem dX9_mostOf_20 : decode cX9_mostOf 20 = .ok (.getfield 55, 3) := by decide +kernel
theorem dX9_mostOf_23 : decode cX9_mostOf 23 = .ok (.bipush 8, 2) := by decide +kernel
theorem dX9_mostOf_25 : decode cX9_mostOf 25 = .ok (.iload 4, 2) := by decide +kernel
theorem dX9_mostOf_27 : decode cX9_mostOf 27 = .ok (.imul, 1) := by decide +kernel
theorem dX9_mostOf_28 : decode cX9_mostOf 28 = .ok (.iload_n 2, 1) := by decide +kernel
theorem dX9_mostOf_29 : decode cX9_mostOf 29 = .ok (.iadd, 1) := by decide +kernel
theorem dX9_mostOf_30 : decode cX9_mostOf 30 = .ok (.iaload, 1) := by decide +kernel
theorem dX9_mostOf_31 : decode cX9_mostOf 31 = .ok (.istore 5, 2) := by decide +kernel
theorem dX9_mostOf_33 : decode cX9_mostOf 33 = .ok (.iload 5, 2) := by decide +kernel
theorem dX9_mostOf_35 : decode cX9_mostOf 35 = .ok (.ifCond .le 29, 3) := by decide +kernel
theorem dX9_mostOf_38 : decode cX9_mostOf 38 = .ok (.iload_n 3, 1) := by decide +kernel
theorem dX9_mostOf_39 : decode cX9_mostOf 39 = .ok (.iconst (-1), 1) := by decide +kernel
theorem dX9_mostOf_40 : decode cX9_mostOf 40 = .ok (.if_icmp .eq 19, 3) := by decide +kernel
theorem dX9_mostOf_43 : decode cX9_mostOf 43 = .ok (.iload 5, 2) := by decide +kernel
theorem dX9_mostOf_45 : decode cX9_mostOf 45 = .ok (.aload_n 0, 1) := by decide +kernel
theorem dX9_mostOf_46 : decode cX9_mostOf 46 = .ok (.getfield 55, 3) := by decide +kernel
theorem dX9_mostOf_49 : decode cX9_mostOf 49 = .ok (.bipush 8, 2) := by decide +kernel
theorem dX9_mostOf_51 : decode cX9_mostOf 51 = .ok (.iload_n 3, 1) := by decide +kernel
theorem dX9_mostOf_52 : decode cX9_mostOf 52 = .ok (.imul, 1) := by decide +kernel
theorem dX9_mostOf_53 : decode cX9_mostOf 53 = .ok (.iload_n 2, 1) := by decide +kernel
theorem dX9_mostOf_54 : decode cX9_mostOf 54 = .ok (.iadd, 1) := by decide +kernel
theorem dX9_mostOf_55 : decode cX9_mostOf 55 = .ok (.iaload, 1) := by decide +kernel
theorem dX9_mostOf_56 : decode cX9_mostOf 56 = .ok (.if_icmp .le 8, 3) := by decide +kernel
theorem dX9_mostOf_59 : decode cX9_mostOf 59 = .ok (.iload 4, 2) := by decide +kernel
theorem dX9_mostOf_61 : decode cX9_mostOf 61 = .ok (.goto 4, 3) := by decide +kernel
theorem dX9_mostOf_64 : decode cX9_mostOf 64 = .ok (.iload_n 3, 1) := by decide +kernel
theorem dX9_mostOf_65 : decode cX9_mostOf 65 = .ok (.istore_n 3, 1) := by decide +kernel
theorem dX9_mostOf_66 : decode cX9_mostOf 66 = .ok (.iinc 4 1, 3) := by decide +kernel
theorem dX9_mostOf_69 : decode cX9_mostOf 69 = .ok (.goto (-59), 3) := by decide +kernel
theorem dX9_mostOf_72 : decode cX9_mostOf 72 = .ok (.iload_n 3, 1) := by decide +kernel
theorem dX9_mostOf_73 : decode cX9_mostOf 73 = .ok (.ireturn, 1) := by decide +kernel
theorem dX9_most_0 : decode cX9_most 0 = .ok (.iload_n 1, 1) := by decide +kernel
theorem dX9_most_1 : decode cX9_most 1 = .ok (.invokestatic 163, 3) := by decide +kernel
theorem dX9_most_4 : decode cX9_most 4 = .ok (.ifCond .eq 19, 3) := by decide +kernel
theorem dX9_most_7 : decode cX9_most 7 = .ok (.iload_n 2, 1) := by decide +kernel
theorem dX9_most_8 : decode cX9_most 8 = .ok (.invokestatic 157, 3) := by decide +kernel
theorem dX9_most_11 : decode cX9_most 11 = .ok (.ifCond .eq 12, 3) := by decide +kernel
theorem dX9_most_14 : decode cX9_most 14 = .ok (.aload_n 0, 1) := by decide +kernel
theorem dX9_most_15 : decode cX9_most 15 = .ok (.iload_n 1, 1) := by decide +kernel
theorem dX9_most_16 : decode cX9_most 16 = .ok (.iload_n 2, 1) := by decide +kernel
theorem dX9_most_17 : decode cX9_most 17 = .ok (.invokevirtual 296, 3) := by decide +kernel
theorem dX9_most_20 : decode cX9_most 20 = .ok (.goto 5, 3) := by decide +kernel
theorem dX9_most_23 : decode cX9_most 23 = .ok (.bipush (-2), 2) := by decide +kernel
theorem dX9_most_25 : decode cX9_most 25 = .ok (.ireturn, 1) := by decide +kernel
theorem dX9_weighed_0 : decode cX9_weighed 0 = .ok (.iload_n 1, 1) := by decide +kernel
theorem dX9_weighed_1 : decode cX9_weighed 1 = .ok (.invokestatic 163, 3) := by decide +kernel
theorem dX9_weighed_4 : decode cX9_weighed 4 = .ok (.ifCond .eq 21, 3) := by decide +kernel
theorem dX9_weighed_7 : decode cX9_weighed 7 = .ok (.iload_n 2, 1) := by decide +kernel
theorem dX9_weighed_8 : decode cX9_weighed 8 = .ok (.invokestatic 157, 3) := by decide +kernel
theorem dX9_weighed_11 : decode cX9_weighed 11 = .ok (.ifCond .eq 14, 3) := by decide +kernel
theorem dX9_weighed_14 : decode cX9_weighed 14 = .ok (.iload_n 3, 1) := by decide +kernel
theorem dX9_weighed_15 : decode cX9_weighed 15 = .ok (.iconst 0, 1) := by decide +kernel
theorem dX9_weighed_16 : decode cX9_weighed 16 = .ok (.sipush 999, 3) := by decide +kernel
theorem dX9_weighed_19 : decode cX9_weighed 19 = .ok (.invokestatic 116, 3) := by decide +kernel
theorem dX9_weighed_22 : decode cX9_weighed 22 = .ok (.ifCond .ne 6, 3) := by decide +kernel
theorem dX9_weighed_25 : decode cX9_weighed 25 = .ok (.bipush (-2), 2) := by decide +kernel
theorem dX9_weighed_27 : decode cX9_weighed 27 = .ok (.ireturn, 1) := by decide +kernel
theorem dX9_weighed_28 : decode cX9_weighed 28 = .ok (.aload_n 0, 1) := by decide +kernel
theorem dX9_weighed_29 : decode cX9_weighed 29 = .ok (.getfield 299, 3) := by decide +kernel
theorem dX9_weighed_32 : decode cX9_weighed 32 = .ok (.bipush 8, 2) := by decide +kernel
theorem dX9_weighed_34 : decode cX9_weighed 34 = .ok (.if_icmp .ne 6, 3) := by decide +kernel
theorem dX9_weighed_37 : decode cX9_weighed 37 = .ok (.bipush (-4), 2) := by decide +kernel
theorem dX9_weighed_39 : decode cX9_weighed 39 = .ok (.ireturn, 1) := by decide +kernel
theorem dX9_weighed_40 : decode cX9_weighed 40 = .ok (.aload_n 0, 1) := by decide +kernel
theorem dX9_weighed_41 : decode cX9_weighed 41 = .ok (.getfield 83, 3) := by decide +kernel
theorem dX9_weighed_44 : decode cX9_weighed 44 = .ok (.aload_n 0, 1) := by decide +kernel
theorem dX9_weighed_45 : decode cX9_weighed 45 = .ok (.getfield 299, 3) := by decide +kernel
theorem dX9_weighed_48 : decode cX9_weighed 48 = .ok (.iload_n 1, 1) := by decide +kernel
theorem dX9_weighed_49 : decode cX9_weighed 49 = .ok (.iastore, 1) := by decide +kernel
theorem dX9_weighed_50 : decode cX9_weighed 50 = .ok (.aload_n 0, 1) := by decide +kernel
theorem dX9_weighed_51 : decode cX9_weighed 51 = .ok (.getfield 86, 3) := by decide +kernel
theorem dX9_weighed_54 : decode cX9_weighed 54 = .ok (.aload_n 0, 1) := by decide +kernel
theorem dX9_weighed_55 : decode cX9_weighed 55 = .ok (.getfield 299, 3) := by decide +kernel
theorem dX9_weighed_58 : decode cX9_weighed 58 = .ok (.iload_n 2, 1) := by decide +kernel
theorem dX9_weighed_59 : decode cX9_weighed 59 = .ok (.iastore, 1) := by decide +kernel
theorem dX9_weighed_60 : decode cX9_weighed 60 = .ok (.aload_n 0, 1) := by decide +kernel
theorem dX9_weighed_61 : decode cX9_weighed 61 = .ok (.getfield 89, 3) := by decide +kernel
theorem dX9_weighed_64 : decode cX9_weighed 64 = .ok (.aload_n 0, 1) := by decide +kernel
theorem dX9_weighed_65 : decode cX9_weighed 65 = .ok (.getfield 299, 3) := by decide +kernel
theorem dX9_weighed_68 : decode cX9_weighed 68 = .ok (.iload_n 3, 1) := by decide +kernel
theorem dX9_weighed_69 : decode cX9_weighed 69 = .ok (.iastore, 1) := by decide +kernel
theorem dX9_weighed_70 : decode cX9_weighed 70 = .ok (.aload_n 0, 1) := by decide +kernel
theorem dX9_weighed_71 : decode cX9_weighed 71 = .ok (.dup, 1) := by decide +kernel
theorem dX9_weighed_72 : decode cX9_weighed 72 = .ok (.getfield 299, 3) := by decide +kernel
theorem dX9_weighed_75 : decode cX9_weighed 75 = .ok (.iconst 1, 1) := by decide +kernel
theorem dX9_weighed_76 : decode cX9_weighed 76 = .ok (.iadd, 1) := by decide +kernel
theorem dX9_weighed_77 : decode cX9_weighed 77 = .ok (.putfield 299, 3) := by decide +kernel
theorem dX9_weighed_80 : decode cX9_weighed 80 = .ok (.aload_n 0, 1) := by decide +kernel
theorem dX9_weighed_81 : decode cX9_weighed 81 = .ok (.getfield 299, 3) := by decide +kernel
theorem dX9_weighed_84 : decode cX9_weighed 84 = .ok (.ireturn, 1) := by decide +kernel
theorem dX9_forget_0 : decode cX9_forget 0 = .ok (.aload_n 0, 1) := by decide +kernel
theorem dX9_forget_1 : decode cX9_forget 1 = .ok (.getfield 299, 3) := by decide +kernel
theorem dX9_forget_4 : decode cX9_forget 4 = .ok (.istore_n 1, 1) := by decide +kernel
theorem dX9_forget_5 : decode cX9_forget 5 = .ok (.aload_n 0, 1) := by decide +kernel
theorem dX9_forget_6 : decode cX9_forget 6 = .ok (.iconst 0, 1) := by decide +kernel
theorem dX9_forget_7 : decode cX9_forget 7 = .ok (.putfield 299, 3) := by decide +kernel
theorem dX9_forget_10 : decode cX9_forget 10 = .ok (.iload_n 1, 1) := by decide +kernel
theorem dX9_forget_11 : decode cX9_forget 11 = .ok (.ireturn, 1) := by decide +kernel
theorem dX9_isWeighed_0 : decode cX9_isWeighed 0 = .ok (.iconst 1, 1) := by decide +kernel
theorem dX9_isWeighed_1 : decode cX9_isWeighed 1 = .ok (.istore_n 1, 1) := by decide +kernel
theorem dX9_isWeighed_2 : decode cX9_isWeighed 2 = .ok (.aload_n 0, 1) := by decide +kernel
theorem dX9_isWeighed_3 : decode cX9_isWeighed 3 = .ok (.invokevirtual 229, 3) := by decide +kernel
theorem dX9_isWeighed_6 : decode cX9_isWeighed 6 = .ok (.iconst 0, 1) := by decide +kernel
theorem dX9_isWeighed_7 : decode cX9_isWeighed 7 = .ok (.istore_n 2, 1) := by decide +kernel
theorem dX9_isWeighed_8 : decode cX9_isWeighed 8 = .ok (.iload_n 2, 1) := by decide +kernel
theorem dX9_isWeighed_9 : decode cX9_isWeighed 9 = .ok (.bipush 40, 2) := by decide +kernel
theorem dX9_isWeighed_11 : decode cX9_isWeighed 11 = .ok (.if_icmp .ge 86, 3) := by decide +kernel
theorem dX9_isWeighed_14 : decode cX9_isWeighed 14 = .ok (.iload_n 1, 1) := by decide +kernel
theorem dX9_isWeighed_15 : decode cX9_isWeighed 15 = .ok (.ifCond .eq 82, 3) := by decide +kernel
theorem dX9_isWeighed_18 : decode cX9_isWeighed 18 = .ok (.aload_n 0, 1) := by decide +kernel
theorem dX9_isWeighed_19 : decode cX9_isWeighed 19 = .ok (.iload_n 2, 1) := by decide +kernel
theorem dX9_isWeighed_20 : decode cX9_isWeighed 20 = .ok (.invokevirtual 232, 3) := by decide +kernel
theorem dX9_isWeighed_23 : decode cX9_isWeighed 23 = .ok (.iconst 0, 1) := by decide +kernel
theorem dX9_isWeighed_24 : decode cX9_isWeighed 24 = .ok (.istore_n 3, 1) := by decide +kernel
theorem dX9_isWeighed_25 : decode cX9_isWeighed 25 = .ok (.iload_n 3, 1) := by decide +kernel
theorem dX9_isWeighed_26 : decode cX9_isWeighed 26 = .ok (.aload_n 0, 1) := by decide +kernel
theorem dX9_isWeighed_27 : decode cX9_isWeighed 27 = .ok (.getfield 299, 3) := by decide +kernel
theorem dX9_isWeighed_30 : decode cX9_isWeighed 30 = .ok (.if_icmp .ge 61, 3) := by decide +kernel
theorem dX9_isWeighed_33 : decode cX9_isWeighed 33 = .ok (.iload_n 1, 1) := by decide +kernel
theorem dX9_isWeighed_34 : decode cX9_isWeighed 34 = .ok (.ifCond .eq 49, 3) := by decide +kernel
theorem dX9_isWeighed_37 : decode cX9_isWeighed 37 = .ok (.aload_n 0, 1) := by decide +kernel
theorem dX9_isWeighed_38 : decode cX9_isWeighed 38 = .ok (.getfield 86, 3) := by decide +kernel
theorem dX9_isWeighed_41 : decode cX9_isWeighed 41 = .ok (.iload_n 3, 1) := by decide +kernel
theorem dX9_isWeighed_42 : decode cX9_isWeighed 42 = .ok (.iaload, 1) := by decide +kernel
theorem dX9_isWeighed_43 : decode cX9_isWeighed 43 = .ok (.aload_n 0, 1) := by decide +kernel
theorem dX9_isWeighed_44 : decode cX9_isWeighed 44 = .ok (.getfield 128, 3) := by decide +kernel
theorem dX9_isWeighed_47 : decode cX9_isWeighed 47 = .ok (.if_icmp .ge 36, 3) := by decide +kernel
theorem dX9_isWeighed_50 : decode cX9_isWeighed 50 = .ok (.aload_n 0, 1) := by decide +kernel
theorem dX9_isWeighed_51 : decode cX9_isWeighed 51 = .ok (.getfield 83, 3) := by decide +kernel
theorem dX9_isWeighed_54 : decode cX9_isWeighed 54 = .ok (.iload_n 3, 1) := by decide +kernel
theorem dX9_isWeighed_55 : decode cX9_isWeighed 55 = .ok (.iaload, 1) := by decide +kernel
theorem dX9_isWeighed_56 : decode cX9_isWeighed 56 = .ok (.iload_n 2, 1) := by decide +kernel
theorem dX9_isWeighed_57 : decode cX9_isWeighed 57 = .ok (.if_icmp .ne 22, 3) := by decide +kernel
theorem dX9_isWeighed_60 : decode cX9_isWeighed 60 = .ok (.aload_n 0, 1) := by decide +kernel
theorem dX9_isWeighed_61 : decode cX9_isWeighed 61 = .ok (.aload_n 0, 1) := by decide +kernel
theorem dX9_isWeighed_62 : decode cX9_isWeighed 62 = .ok (.getfield 86, 3) := by decide +kernel
theorem dX9_isWeighed_65 : decode cX9_isWeighed 65 = .ok (.iload_n 3, 1) := by decide +kernel
theorem dX9_isWeighed_66 : decode cX9_isWeighed 66 = .ok (.iaload, 1) := by decide +kernel
theorem dX9_isWeighed_67 : decode cX9_isWeighed 67 = .ok (.invokevirtual 219, 3) := by decide +kernel
theorem dX9_isWeighed_70 : decode cX9_isWeighed 70 = .ok (.aload_n 0, 1) := by decide +kernel
theorem dX9_isWeighed_71 : decode cX9_isWeighed 71 = .ok (.getfield 89, 3) := by decide +kernel
theorem dX9_isWeighed_74 : decode cX9_isWeighed 74 = .ok (.iload_n 3, 1) := by decide +kernel
theorem dX9_isWeighed_75 : decode cX9_isWeighed 75 = .ok (.iaload, 1) := by decide +kernel
theorem dX9_isWeighed_76 : decode cX9_isWeighed 76 = .ok (.if_icmp .ne 7, 3) := by decide +kernel
theorem dX9_isWeighed_79 : decode cX9_isWeighed 79 = .ok (.iconst 1, 1) := by decide +kernel
theorem dX9_isWeighed_80 : decode cX9_isWeighed 80 = .ok (.goto 4, 3) := by decide +kernel
theorem dX9_isWeighed_83 : decode cX9_isWeighed 83 = .ok (.iconst 0, 1) := by decide +kernel
theorem dX9_isWeighed_84 : decode cX9_isWeighed 84 = .ok (.istore_n 1, 1) := by decide +kernel
theorem dX9_isWeighed_85 : decode cX9_isWeighed 85 = .ok (.iinc 3 1, 3) := by decide +kernel
theorem dX9_isWeighed_88 : decode cX9_isWeighed 88 = .ok (.goto (-63), 3) := by decide +kernel
theorem dX9_isWeighed_91 : decode cX9_isWeighed 91 = .ok (.iinc 2 1, 3) := by decide +kernel
theorem dX9_isWeighed_94 : decode cX9_isWeighed 94 = .ok (.goto (-86), 3) := by decide +kernel
theorem dX9_isWeighed_97 : decode cX9_isWeighed 97 = .ok (.iload_n 1, 1) := by decide +kernel
theorem dX9_isWeighed_98 : decode cX9_isWeighed 98 = .ok (.ireturn, 1) := by decide +kernel
theorem dX9_hidNow_0 : decode cX9_hidNow 0 = .ok (.aload_n 0, 1) := by decide +kernel
theorem dX9_hidNow_1 : decode cX9_hidNow 1 = .ok (.invokevirtual 236, 3) := by decide +kernel
theorem dX9_hidNow_4 : decode cX9_hidNow 4 = .ok (.iconst 0, 1) := by decide +kernel
theorem dX9_hidNow_5 : decode cX9_hidNow 5 = .ok (.istore_n 1, 1) := by decide +kernel
theorem dX9_hidNow_6 : decode cX9_hidNow 6 = .ok (.iconst 0, 1) := by decide +kernel
theorem dX9_hidNow_7 : decode cX9_hidNow 7 = .ok (.istore_n 2, 1) := by decide +kernel
theorem dX9_hidNow_8 : decode cX9_hidNow 8 = .ok (.iload_n 2, 1) := by decide +kernel
theorem dX9_hidNow_9 : decode cX9_hidNow 9 = .ok (.aload_n 0, 1) := by decide +kernel
theorem dX9_hidNow_10 : decode cX9_hidNow 10 = .ok (.getfield 169, 3) := by decide +kernel
theorem dX9_hidNow_13 : decode cX9_hidNow 13 = .ok (.if_icmp .ge 31, 3) := by decide +kernel
theorem dX9_hidNow_16 : decode cX9_hidNow 16 = .ok (.aload_n 0, 1) := by decide +kernel
theorem dX9_hidNow_17 : decode cX9_hidNow 17 = .ok (.iload_n 2, 1) := by decide +kernel
theorem dX9_hidNow_18 : decode cX9_hidNow 18 = .ok (.putfield 182, 3) := by decide +kernel
theorem dX9_hidNow_21 : decode cX9_hidNow 21 = .ok (.iload_n 1, 1) := by decide +kernel
theorem dX9_hidNow_22 : decode cX9_hidNow 22 = .ok (.aload_n 0, 1) := by decide +kernel
theorem dX9_hidNow_23 : decode cX9_hidNow 23 = .ok (.invokevirtual 302, 3) := by decide +kernel
theorem dX9_hidNow_26 : decode cX9_hidNow 26 = .ok (.ifCond .eq 9, 3) := by decide +kernel
theorem dX9_hidNow_29 : decode cX9_hidNow 29 = .ok (.iconst 1, 1) := by decide +kernel
theorem dX9_hidNow_30 : decode cX9_hidNow 30 = .ok (.iload_n 2, 1) := by decide +kernel
theorem dX9_hidNow_31 : decode cX9_hidNow 31 = .ok (.ishl, 1) := by decide +kernel
theorem dX9_hidNow_32 : decode cX9_hidNow 32 = .ok (.goto 4, 3) := by decide +kernel
theorem dX9_hidNow_35 : decode cX9_hidNow 35 = .ok (.iconst 0, 1) := by decide +kernel
theorem dX9_hidNow_36 : decode cX9_hidNow 36 = .ok (.ior, 1) := by decide +kernel
theorem dX9_hidNow_37 : decode cX9_hidNow 37 = .ok (.istore_n 1, 1) := by decide +kernel
theorem dX9_hidNow_38 : decode cX9_hidNow 38 = .ok (.iinc 2 1, 3) := by decide +kernel
theorem dX9_hidNow_41 : decode cX9_hidNow 41 = .ok (.goto (-33), 3) := by decide +kernel
theorem dX9_hidNow_44 : decode cX9_hidNow 44 = .ok (.iload_n 1, 1) := by decide +kernel
theorem dX9_hidNow_45 : decode cX9_hidNow 45 = .ok (.ireturn, 1) := by decide +kernel
theorem dX9_hid_0 : decode cX9_hid 0 = .ok (.aload_n 0, 1) := by decide +kernel
theorem dX9_hid_1 : decode cX9_hid 1 = .ok (.invokevirtual 306, 3) := by decide +kernel
theorem dX9_hid_4 : decode cX9_hid 4 = .ok (.ireturn, 1) := by decide +kernel
theorem dX9_swappedOf_0 : decode cX9_swappedOf 0 = .ok (.aload_n 0, 1) := by decide +kernel
theorem dX9_swappedOf_1 : decode cX9_swappedOf 1 = .ok (.invokevirtual 236, 3) := by decide +kernel
theorem dX9_swappedOf_4 : decode cX9_swappedOf 4 = .ok (.iconst 0, 1) := by decide +kernel
theorem dX9_swappedOf_5 : decode cX9_swappedOf 5 = .ok (.istore_n 2, 1) := by decide +kernel
theorem dX9_swappedOf_6 : decode cX9_swappedOf 6 = .ok (.iconst (-1), 1) := by decide +kernel
theorem dX9_swappedOf_7 : decode cX9_swappedOf 7 = .ok (.istore_n 3, 1) := by decide +kernel
theorem dX9_swappedOf_8 : decode cX9_swappedOf 8 = .ok (.iconst 0, 1) := by decide +kernel
theorem dX9_swappedOf_9 : decode cX9_swappedOf 9 = .ok (.istore 4, 2) := by decide +kernel
theorem dX9_swappedOf_11 : decode cX9_swappedOf 11 = .ok (.iload 4, 2) := by decide +kernel
theorem dX9_swappedOf_13 : decode cX9_swappedOf 13 = .ok (.aload_n 0, 1) := by decide +kernel
theorem dX9_swappedOf_14 : decode cX9_swappedOf 14 = .ok (.getfield 128, 3) := by decide +kernel
theorem dX9_swappedOf_17 : decode cX9_swappedOf 17 = .ok (.if_icmp .ge 84, 3) := by decide +kernel
theorem dX9_swappedOf_20 : decode cX9_swappedOf 20 = .ok (.iload 4, 2) := by decide +kernel
theorem dX9_swappedOf_22 : decode cX9_swappedOf 22 = .ok (.iconst 1, 1) := by decide +kernel
theorem dX9_swappedOf_23 : decode cX9_swappedOf 23 = .ok (.iadd, 1) := by decide +kernel
theorem dX9_swappedOf_24 : decode cX9_swappedOf 24 = .ok (.istore 5, 2) := by decide +kernel
theorem dX9_swappedOf_26 : decode cX9_swappedOf 26 = .ok (.iload 5, 2) := by decide +kernel
theorem dX9_swappedOf_28 : decode cX9_swappedOf 28 = .ok (.aload_n 0, 1) := by decide +kernel
theorem dX9_swappedOf_29 : decode cX9_swappedOf 29 = .ok (.getfield 128, 3) := by decide +kernel
theorem dX9_swappedOf_32 : decode cX9_swappedOf 32 = .ok (.if_icmp .ge 63, 3) := by decide +kernel
theorem dX9_swappedOf_35 : decode cX9_swappedOf 35 = .ok (.aload_n 0, 1) := by decide +kernel
theorem dX9_swappedOf_36 : decode cX9_swappedOf 36 = .ok (.iload 4, 2) := by decide +kernel
theorem dX9_swappedOf_38 : decode cX9_swappedOf 38 = .ok (.putfield 185, 3) := by decide +kernel
theorem dX9_swappedOf_41 : decode cX9_swappedOf 41 = .ok (.aload_n 0, 1) := by decide +kernel
theorem dX9_swappedOf_42 : decode cX9_swappedOf 42 = .ok (.iload 5, 2) := by decide +kernel
theorem dX9_swappedOf_44 : decode cX9_swappedOf 44 = .ok (.putfield 188, 3) := by decide +kernel
theorem dX9_swappedOf_47 : decode cX9_swappedOf 47 = .ok (.aload_n 0, 1) := by decide +kernel
theorem dX9_swappedOf_48 : decode cX9_swappedOf 48 = .ok (.invokevirtual 302, 3) := by decide +kernel
theorem dX9_swappedOf_51 : decode cX9_swappedOf 51 = .ok (.istore 6, 2) := by decide +kernel
theorem dX9_swappedOf_53 : decode cX9_swappedOf 53 = .ok (.iload_n 2, 1) := by decide +kernel
theorem dX9_swappedOf_54 : decode cX9_swappedOf 54 = .ok (.iload 6, 2) := by decide +kernel
theorem dX9_swappedOf_56 : decode cX9_swappedOf 56 = .ok (.ifCond .eq 7, 3) := by decide +kernel
theorem dX9_swappedOf_59 : decode cX9_swappedOf 59 = .ok (.iconst 1, 1) := by decide +kernel
theorem dX9_swappedOf_60 : decode cX9_swappedOf 60 = .ok (.goto 4, 3) := by decide +kernel
theorem dX9_swappedOf_63 : decode cX9_swappedOf 63 = .ok (.iconst 0, 1) := by decide +kernel
theorem dX9_swappedOf_64 : decode cX9_swappedOf 64 = .ok (.iadd, 1) := by decide +kernel
theorem dX9_swappedOf_65 : decode cX9_swappedOf 65 = .ok (.istore_n 2, 1) := by decide +kernel
theorem dX9_swappedOf_66 : decode cX9_swappedOf 66 = .ok (.iload 6, 2) := by decide +kernel
theorem dX9_swappedOf_68 : decode cX9_swappedOf 68 = .ok (.ifCond .eq 19, 3) := by decide +kernel
theorem dX9_swappedOf_71 : decode cX9_swappedOf 71 = .ok (.iload_n 3, 1) := by decide +kernel
theorem dX9_swappedOf_72 : decode cX9_swappedOf 72 = .ok (.iconst (-1), 1) := by decide +kernel
theorem dX9_swappedOf_73 : decode cX9_swappedOf 73 = .ok (.if_icmp .ne 14, 3) := by decide +kernel
theorem dX9_swappedOf_76 : decode cX9_swappedOf 76 = .ok (.bipush 8, 2) := by decide +kernel
theorem dX9_swappedOf_78 : decode cX9_swappedOf 78 = .ok (.iload 4, 2) := by decide +kernel
theorem dX9_swappedOf_80 : decode cX9_swappedOf 80 = .ok (.imul, 1) := by decide +kernel
theorem dX9_swappedOf_81 : decode cX9_swappedOf 81 = .ok (.iload 5, 2) := by decide +kernel
theorem dX9_swappedOf_83 : decode cX9_swappedOf 83 = .ok (.iadd, 1) := by decide +kernel
theorem dX9_swappedOf_84 : decode cX9_swappedOf 84 = .ok (.goto 4, 3) := by decide +kernel
theorem dX9_swappedOf_87 : decode cX9_swappedOf 87 = .ok (.iload_n 3, 1) := by decide +kernel
theorem dX9_swappedOf_88 : decode cX9_swappedOf 88 = .ok (.istore_n 3, 1) := by decide +kernel
theorem dX9_swappedOf_89 : decode cX9_swappedOf 89 = .ok (.iinc 5 1, 3) := by decide +kernel
theorem dX9_swappedOf_92 : decode cX9_swappedOf 92 = .ok (.goto (-66), 3) := by decide +kernel
theorem dX9_swappedOf_95 : decode cX9_swappedOf 95 = .ok (.iinc 4 1, 3) := by decide +kernel
theorem dX9_swappedOf_98 : decode cX9_swappedOf 98 = .ok (.goto (-87), 3) := by decide +kernel
theorem dX9_swappedOf_101 : decode cX9_swappedOf 101 = .ok (.iload_n 1, 1) := by decide +kernel
theorem dX9_swappedOf_102 : decode cX9_swappedOf 102 = .ok (.ifCond .ne 7, 3) := by decide +kernel
theorem dX9_swappedOf_105 : decode cX9_swappedOf 105 = .ok (.iload_n 2, 1) := by decide +kernel
theorem dX9_swappedOf_106 : decode cX9_swappedOf 106 = .ok (.goto 4, 3) := by decide +kernel
theorem dX9_swappedOf_109 : decode cX9_swappedOf 109 = .ok (.iload_n 3, 1) := by decide +kernel
theorem dX9_swappedOf_110 : decode cX9_swappedOf 110 = .ok (.ireturn, 1) := by decide +kernel
theorem dX9_swapped_0 : decode cX9_swapped 0 = .ok (.iload_n 1, 1) := by decide +kernel
theorem dX9_swapped_1 : decode cX9_swapped 1 = .ok (.iconst 0, 1) := by decide +kernel
theorem dX9_swapped_2 : decode cX9_swapped 2 = .ok (.iconst 1, 1) := by decide +kernel
theorem dX9_swapped_3 : decode cX9_swapped 3 = .ok (.invokestatic 116, 3) := by decide +kernel
theorem dX9_swapped_6 : decode cX9_swapped 6 = .ok (.ifCond .eq 11, 3) := by decide +kernel
theorem dX9_swapped_9 : decode cX9_swapped 9 = .ok (.aload_n 0, 1) := by decide +kernel
theorem dX9_swapped_10 : decode cX9_swapped 10 = .ok (.iload_n 1, 1) := by decide +kernel
theorem dX9_swapped_11 : decode cX9_swapped 11 = .ok (.invokevirtual 309, 3) := by decide +kernel
theorem dX9_swapped_14 : decode cX9_swapped 14 = .ok (.goto 5, 3) := by decide +kernel
theorem dX9_swapped_17 : decode cX9_swapped 17 = .ok (.bipush (-2), 2) := by decide +kernel
theorem dX9_swapped_19 : decode cX9_swapped 19 = .ok (.ireturn, 1) := by decide +kernel
theorem dX9_weighOf_0 : decode cX9_weighOf 0 = .ok (.aload_n 0, 1) := by decide +kernel
theorem dX9_weighOf_1 : decode cX9_weighOf 1 = .ok (.invokevirtual 306, 3) := by decide +kernel
theorem dX9_weighOf_4 : decode cX9_weighOf 4 = .ok (.istore_n 2, 1) := by decide +kernel
theorem dX9_weighOf_5 : decode cX9_weighOf 5 = .ok (.aload_n 0, 1) := by decide +kernel
theorem dX9_weighOf_6 : decode cX9_weighOf 6 = .ok (.invokevirtual 236, 3) := by decide +kernel
theorem dX9_weighOf_9 : decode cX9_weighOf 9 = .ok (.iconst 0, 1) := by decide +kernel
theorem dX9_weighOf_10 : decode cX9_weighOf 10 = .ok (.istore_n 3, 1) := by decide +kernel
theorem dX9_weighOf_11 : decode cX9_weighOf 11 = .ok (.iload_n 3, 1) := by decide +kernel
theorem dX9_weighOf_12 : decode cX9_weighOf 12 = .ok (.aload_n 0, 1) := by decide +kernel
theorem dX9_weighOf_13 : decode cX9_weighOf 13 = .ok (.getfield 169, 3) := by decide +kernel
theorem dX9_weighOf_16 : decode cX9_weighOf 16 = .ok (.if_icmp .ge 55, 3) := by decide +kernel
theorem dX9_weighOf_19 : decode cX9_weighOf 19 = .ok (.aload_n 0, 1) := by decide +kernel
theorem dX9_weighOf_20 : decode cX9_weighOf 20 = .ok (.iload_n 3, 1) := by decide +kernel
theorem dX9_weighOf_21 : decode cX9_weighOf 21 = .ok (.putfield 182, 3) := by decide +kernel
theorem dX9_weighOf_24 : decode cX9_weighOf 24 = .ok (.aload_n 0, 1) := by decide +kernel
theorem dX9_weighOf_25 : decode cX9_weighOf 25 = .ok (.iload_n 1, 1) := by decide +kernel
theorem dX9_weighOf_26 : decode cX9_weighOf 26 = .ok (.invokevirtual 239, 3) := by decide +kernel
theorem dX9_weighOf_29 : decode cX9_weighOf 29 = .ok (.iconst 0, 1) := by decide +kernel
theorem dX9_weighOf_30 : decode cX9_weighOf 30 = .ok (.istore 4, 2) := by decide +kernel
theorem dX9_weighOf_32 : decode cX9_weighOf 32 = .ok (.iload 4, 2) := by decide +kernel
theorem dX9_weighOf_34 : decode cX9_weighOf 34 = .ok (.aload_n 0, 1) := by decide +kernel
theorem dX9_weighOf_35 : decode cX9_weighOf 35 = .ok (.getfield 128, 3) := by decide +kernel
theorem dX9_weighOf_38 : decode cX9_weighOf 38 = .ok (.if_icmp .ge 27, 3) := by decide +kernel
theorem dX9_weighOf_41 : decode cX9_weighOf 41 = .ok (.aload_n 0, 1) := by decide +kernel
theorem dX9_weighOf_42 : decode cX9_weighOf 42 = .ok (.getfield 92, 3) := by decide +kernel
theorem dX9_weighOf_45 : decode cX9_weighOf 45 = .ok (.bipush 8, 2) := by decide +kernel
theorem dX9_weighOf_47 : decode cX9_weighOf 47 = .ok (.iload_n 3, 1) := by decide +kernel
theorem dX9_weighOf_48 : decode cX9_weighOf 48 = .ok (.imul, 1) := by decide +kernel
theorem dX9_weighOf_49 : decode cX9_weighOf 49 = .ok (.iload 4, 2) := by decide +kernel
theorem dX9_weighOf_51 : decode cX9_weighOf 51 = .ok (.iadd, 1) := by decide +kernel
theorem dX9_weighOf_52 : decode cX9_weighOf 52 = .ok (.aload_n 0, 1) := by decide +kernel
theorem dX9_weighOf_53 : decode cX9_weighOf 53 = .ok (.iload 4, 2) := by decide +kernel
theorem dX9_weighOf_55 : decode cX9_weighOf 55 = .ok (.invokevirtual 219, 3) := by decide +kernel
theorem dX9_weighOf_58 : decode cX9_weighOf 58 = .ok (.iastore, 1) := by decide +kernel
theorem dX9_weighOf_59 : decode cX9_weighOf 59 = .ok (.iinc 4 1, 3) := by decide +kernel
theorem dX9_weighOf_62 : decode cX9_weighOf 62 = .ok (.goto (-30), 3) := by decide +kernel
theorem dX9_weighOf_65 : decode cX9_weighOf 65 = .ok (.iinc 3 1, 3) := by decide +kernel
theorem dX9_weighOf_68 : decode cX9_weighOf 68 = .ok (.goto (-57), 3) := by decide +kernel
theorem dX9_weighOf_71 : decode cX9_weighOf 71 = .ok (.iconst (-1), 1) := by decide +kernel
theorem dX9_weighOf_72 : decode cX9_weighOf 72 = .ok (.istore_n 3, 1) := by decide +kernel
theorem dX9_weighOf_73 : decode cX9_weighOf 73 = .ok (.iconst 0, 1) := by decide +kernel
theorem dX9_weighOf_74 : decode cX9_weighOf 74 = .ok (.istore 4, 2) := by decide +kernel
theorem dX9_weighOf_76 : decode cX9_weighOf 76 = .ok (.iconst 0, 1) := by decide +kernel
theorem dX9_weighOf_77 : decode cX9_weighOf 77 = .ok (.istore 5, 2) := by decide +kernel
theorem dX9_weighOf_79 : decode cX9_weighOf 79 = .ok (.iload 5, 2) := by decide +kernel
theorem dX9_weighOf_81 : decode cX9_weighOf 81 = .ok (.aload_n 0, 1) := by decide +kernel
theorem dX9_weighOf_82 : decode cX9_weighOf 82 = .ok (.getfield 128, 3) := by decide +kernel
theorem dX9_weighOf_85 : decode cX9_weighOf 85 = .ok (.if_icmp .ge 169, 3) := by decide +kernel
theorem dX9_weighOf_88 : decode cX9_weighOf 88 = .ok (.iconst 0, 1) := by decide +kernel
theorem dX9_weighOf_89 : decode cX9_weighOf 89 = .ok (.istore 6, 2) := by decide +kernel
theorem dX9_weighOf_91 : decode cX9_weighOf 91 = .ok (.iconst 0, 1) := by decide +kernel
theorem dX9_weighOf_92 : decode cX9_weighOf 92 = .ok (.istore 7, 2) := by decide +kernel
theorem dX9_weighOf_94 : decode cX9_weighOf 94 = .ok (.iload 7, 2) := by decide +kernel
theorem dX9_weighOf_96 : decode cX9_weighOf 96 = .ok (.aload_n 0, 1) := by decide +kernel
theorem dX9_weighOf_97 : decode cX9_weighOf 97 = .ok (.getfield 169, 3) := by decide +kernel
theorem dX9_weighOf_100 : decode cX9_weighOf 100 = .ok (.if_icmp .ge 103, 3) := by decide +kernel
theorem dX9_weighOf_103 : decode cX9_weighOf 103 = .ok (.iconst 0, 1) := by decide +kernel
theorem dX9_weighOf_104 : decode cX9_weighOf 104 = .ok (.istore 8, 2) := by decide +kernel
theorem dX9_weighOf_106 : decode cX9_weighOf 106 = .ok (.iconst 0, 1) := by decide +kernel
theorem dX9_weighOf_107 : decode cX9_weighOf 107 = .ok (.istore 9, 2) := by decide +kernel
theorem dX9_weighOf_109 : decode cX9_weighOf 109 = .ok (.iload 9, 2) := by decide +kernel
theorem dX9_weighOf_111 : decode cX9_weighOf 111 = .ok (.aload_n 0, 1) := by decide +kernel
theorem dX9_weighOf_112 : decode cX9_weighOf 112 = .ok (.getfield 169, 3) := by decide +kernel
theorem dX9_weighOf_115 : decode cX9_weighOf 115 = .ok (.if_icmp .ge 66, 3) := by decide +kernel
theorem dX9_weighOf_118 : decode cX9_weighOf 118 = .ok (.iload 8, 2) := by decide +kernel
theorem dX9_weighOf_120 : decode cX9_weighOf 120 = .ok (.iload_n 2, 1) := by decide +kernel
theorem dX9_weighOf_121 : decode cX9_weighOf 121 = .ok (.iload 7, 2) := by decide +kernel
theorem dX9_weighOf_123 : decode cX9_weighOf 123 = .ok (.invokestatic 274, 3) := by decide +kernel
theorem dX9_weighOf_126 : decode cX9_weighOf 126 = .ok (.ifCond .eq 45, 3) := by decide +kernel
theorem dX9_weighOf_129 : decode cX9_weighOf 129 = .ok (.iload_n 2, 1) := by decide +kernel
theorem dX9_weighOf_130 : decode cX9_weighOf 130 = .ok (.iload 9, 2) := by decide +kernel
theorem dX9_weighOf_132 : decode cX9_weighOf 132 = .ok (.invokestatic 274, 3) := by decide +kernel
theorem dX9_weighOf_135 : decode cX9_weighOf 135 = .ok (.ifCond .eq 36, 3) := by decide +kernel
theorem dX9_weighOf_138 : decode cX9_weighOf 138 = .ok (.aload_n 0, 1) := by decide +kernel
theorem dX9_weighOf_139 : decode cX9_weighOf 139 = .ok (.getfield 92, 3) := by decide +kernel
theorem dX9_weighOf_142 : decode cX9_weighOf 142 = .ok (.bipush 8, 2) := by decide +kernel
theorem dX9_weighOf_144 : decode cX9_weighOf 144 = .ok (.iload 7, 2) := by decide +kernel
theorem dX9_weighOf_146 : decode cX9_weighOf 146 = .ok (.imul, 1) := by decide +kernel
theorem dX9_weighOf_147 : decode cX9_weighOf 147 = .ok (.iload 5, 2) := by decide +kernel
theorem dX9_weighOf_149 : decode cX9_weighOf 149 = .ok (.iadd, 1) := by decide +kernel
theorem dX9_weighOf_150 : decode cX9_weighOf 150 = .ok (.iaload, 1) := by decide +kernel
theorem dX9_weighOf_151 : decode cX9_weighOf 151 = .ok (.aload_n 0, 1) := by decide +kernel
theorem dX9_weighOf_152 : decode cX9_weighOf 152 = .ok (.getfield 92, 3) := by decide +kernel
theorem dX9_weighOf_155 : decode cX9_weighOf 155 = .ok (.bipush 8, 2) := by decide +kernel
theorem dX9_weighOf_157 : decode cX9_weighOf 157 = .ok (.iload 9, 2) := by decide +kernel
theorem dX9_weighOf_159 : decode cX9_weighOf 159 = .ok (.imul, 1) := by decide +kernel
theorem dX9_weighOf_160 : decode cX9_weighOf 160 = .ok (.iload 5, 2) := by decide +kernel
theorem dX9_weighOf_162 : decode cX9_weighOf 162 = .ok (.iadd, 1) := by decide +kernel
theorem dX9_weighOf_163 : decode cX9_weighOf 163 = .ok (.iaload, 1) := by decide +kernel
theorem dX9_weighOf_164 : decode cX9_weighOf 164 = .ok (.if_icmp .ne 7, 3) := by decide +kernel
theorem dX9_weighOf_167 : decode cX9_weighOf 167 = .ok (.iconst 1, 1) := by decide +kernel
theorem dX9_weighOf_168 : decode cX9_weighOf 168 = .ok (.goto 4, 3) := by decide +kernel
theorem dX9_weighOf_171 : decode cX9_weighOf 171 = .ok (.iconst 0, 1) := by decide +kernel
theorem dX9_weighOf_172 : decode cX9_weighOf 172 = .ok (.iadd, 1) := by decide +kernel
theorem dX9_weighOf_173 : decode cX9_weighOf 173 = .ok (.istore 8, 2) := by decide +kernel
theorem dX9_weighOf_175 : decode cX9_weighOf 175 = .ok (.iinc 9 1, 3) := by decide +kernel
theorem dX9_weighOf_178 : decode cX9_weighOf 178 = .ok (.goto (-69), 3) := by decide +kernel
theorem dX9_weighOf_181 : decode cX9_weighOf 181 = .ok (.iload 8, 2) := by decide +kernel
theorem dX9_weighOf_183 : decode cX9_weighOf 183 = .ok (.iload 6, 2) := by decide +kernel
theorem dX9_weighOf_185 : decode cX9_weighOf 185 = .ok (.if_icmp .le 8, 3) := by decide +kernel
theorem dX9_weighOf_188 : decode cX9_weighOf 188 = .ok (.iload 8, 2) := by decide +kernel
theorem dX9_weighOf_190 : decode cX9_weighOf 190 = .ok (.goto 5, 3) := by decide +kernel
theorem dX9_weighOf_193 : decode cX9_weighOf 193 = .ok (.iload 6, 2) := by decide +kernel
theorem dX9_weighOf_195 : decode cX9_weighOf 195 = .ok (.istore 6, 2) := by decide +kernel
theorem dX9_weighOf_197 : decode cX9_weighOf 197 = .ok (.iinc 7 1, 3) := by decide +kernel
theorem dX9_weighOf_200 : decode cX9_weighOf 200 = .ok (.goto (-106), 3) := by decide +kernel
theorem dX9_weighOf_203 : decode cX9_weighOf 203 = .ok (.iload_n 3, 1) := by decide +kernel
theorem dX9_weighOf_204 : decode cX9_weighOf 204 = .ok (.iconst (-1), 1) := by decide +kernel
theorem dX9_weighOf_205 : decode cX9_weighOf 205 = .ok (.if_icmp .eq 10, 3) := by decide +kernel
theorem dX9_weighOf_208 : decode cX9_weighOf 208 = .ok (.iload 6, 2) := by decide +kernel
theorem dX9_weighOf_210 : decode cX9_weighOf 210 = .ok (.iload 4, 2) := by decide +kernel
theorem dX9_weighOf_212 : decode cX9_weighOf 212 = .ok (.if_icmp .ge 7, 3) := by decide +kernel
theorem dX9_weighOf_215 : decode cX9_weighOf 215 = .ok (.iconst 1, 1) := by decide +kernel
theorem dX9_weighOf_216 : decode cX9_weighOf 216 = .ok (.goto 4, 3) := by decide +kernel
theorem dX9_weighOf_219 : decode cX9_weighOf 219 = .ok (.iconst 0, 1) := by decide +kernel
theorem dX9_weighOf_220 : decode cX9_weighOf 220 = .ok (.istore 7, 2) := by decide +kernel
theorem dX9_weighOf_222 : decode cX9_weighOf 222 = .ok (.iload 7, 2) := by decide +kernel
theorem dX9_weighOf_224 : decode cX9_weighOf 224 = .ok (.ifCond .eq 8, 3) := by decide +kernel
theorem dX9_weighOf_227 : decode cX9_weighOf 227 = .ok (.iload 5, 2) := by decide +kernel
theorem dX9_weighOf_229 : decode cX9_weighOf 229 = .ok (.goto 4, 3) := by decide +kernel
theorem dX9_weighOf_232 : decode cX9_weighOf 232 = .ok (.iload_n 3, 1) := by decide +kernel
theorem dX9_weighOf_233 : decode cX9_weighOf 233 = .ok (.istore_n 3, 1) := by decide +kernel
theorem dX9_weighOf_234 : decode cX9_weighOf 234 = .ok (.iload 7, 2) := by decide +kernel
theorem dX9_weighOf_236 : decode cX9_weighOf 236 = .ok (.ifCond .eq 8, 3) := by decide +kernel
theorem dX9_weighOf_239 : decode cX9_weighOf 239 = .ok (.iload 6, 2) := by decide +kernel
theorem dX9_weighOf_241 : decode cX9_weighOf 241 = .ok (.goto 5, 3) := by decide +kernel
theorem dX9_weighOf_244 : decode cX9_weighOf 244 = .ok (.iload 4, 2) := by decide +kernel
theorem dX9_weighOf_246 : decode cX9_weighOf 246 = .ok (.istore 4, 2) := by decide +kernel
theorem dX9_weighOf_248 : decode cX9_weighOf 248 = .ok (.iinc 5 1, 3) := by decide +kernel
theorem dX9_weighOf_251 : decode cX9_weighOf 251 = .ok (.goto (-172), 3) := by decide +kernel
theorem dX9_weighOf_254 : decode cX9_weighOf 254 = .ok (.iload_n 3, 1) := by decide +kernel
theorem dX9_weighOf_255 : decode cX9_weighOf 255 = .ok (.ireturn, 1) := by decide +kernel
theorem dX9_weigh_0 : decode cX9_weigh 0 = .ok (.iload_n 1, 1) := by decide +kernel
theorem dX9_weigh_1 : decode cX9_weigh 1 = .ok (.invokestatic 163, 3) := by decide +kernel
theorem dX9_weigh_4 : decode cX9_weigh 4 = .ok (.ifCond .eq 11, 3) := by decide +kernel
theorem dX9_weigh_7 : decode cX9_weigh 7 = .ok (.aload_n 0, 1) := by decide +kernel
theorem dX9_weigh_8 : decode cX9_weigh 8 = .ok (.iload_n 1, 1) := by decide +kernel
theorem dX9_weigh_9 : decode cX9_weigh 9 = .ok (.invokevirtual 312, 3) := by decide +kernel
theorem dX9_weigh_12 : decode cX9_weigh 12 = .ok (.goto 5, 3) := by decide +kernel
theorem dX9_weigh_15 : decode cX9_weigh 15 = .ok (.bipush (-2), 2) := by decide +kernel
theorem dX9_weigh_17 : decode cX9_weigh 17 = .ok (.ireturn, 1) := by decide +kernel
theorem dX9_heatOf_0 : decode cX9_heatOf 0 = .ok (.aload_n 0, 1) := by decide +kernel
theorem dX9_heatOf_1 : decode cX9_heatOf 1 = .ok (.invokevirtual 236, 3) := by decide +kernel
theorem dX9_heatOf_4 : decode cX9_heatOf 4 = .ok (.lconst 0, 1) := by decide +kernel
theorem dX9_heatOf_5 : decode cX9_heatOf 5 = .ok (.lstore 5, 2) := by decide +kernel
theorem dX9_heatOf_7 : decode cX9_heatOf 7 = .ok (.iconst 0, 1) := by decide +kernel
theorem dX9_heatOf_8 : decode cX9_heatOf 8 = .ok (.istore 7, 2) := by decide +kernel
theorem dX9_heatOf_10 : decode cX9_heatOf 10 = .ok (.iload 7, 2) := by decide +kernel
theorem dX9_heatOf_12 : decode cX9_heatOf 12 = .ok (.iconst 1, 1) := by decide +kernel
theorem dX9_heatOf_13 : decode cX9_heatOf 13 = .ok (.iload_n 3, 1) := by decide +kernel
theorem dX9_heatOf_14 : decode cX9_heatOf 14 = .ok (.iconst 1, 1) := by decide +kernel
theorem dX9_heatOf_15 : decode cX9_heatOf 15 = .ok (.iadd, 1) := by decide +kernel
theorem dX9_heatOf_16 : decode cX9_heatOf 16 = .ok (.ishl, 1) := by decide +kernel
theorem dX9_heatOf_17 : decode cX9_heatOf 17 = .ok (.if_icmp .ge 91, 3) := by decide +kernel
theorem dX9_heatOf_20 : decode cX9_heatOf 20 = .ok (.lconst 1, 1) := by decide +kernel
theorem dX9_heatOf_21 : decode cX9_heatOf 21 = .ok (.lstore 8, 2) := by decide +kernel
theorem dX9_heatOf_23 : decode cX9_heatOf 23 = .ok (.iconst 0, 1) := by decide +kernel
theorem dX9_heatOf_24 : decode cX9_heatOf 24 = .ok (.istore 10, 2) := by decide +kernel
theorem dX9_heatOf_26 : decode cX9_heatOf 26 = .ok (.iload 10, 2) := by decide +kernel
theorem dX9_heatOf_28 : decode cX9_heatOf 28 = .ok (.iload_n 3, 1) := by decide +kernel
theorem dX9_heatOf_29 : decode cX9_heatOf 29 = .ok (.if_icmp .gt 48, 3) := by decide +kernel
theorem dX9_heatOf_32 : decode cX9_heatOf 32 = .ok (.aload_n 0, 1) := by decide +kernel
theorem dX9_heatOf_33 : decode cX9_heatOf 33 = .ok (.getfield 68, 3) := by decide +kernel
theorem dX9_heatOf_36 : decode cX9_heatOf 36 = .ok (.iload 10, 2) := by decide +kernel
theorem dX9_heatOf_38 : decode cX9_heatOf 38 = .ok (.iload 7, 2) := by decide +kernel
theorem dX9_heatOf_40 : decode cX9_heatOf 40 = .ok (.iload 10, 2) := by decide +kernel
theorem dX9_heatOf_42 : decode cX9_heatOf 42 = .ok (.invokestatic 274, 3) := by decide +kernel
theorem dX9_heatOf_45 : decode cX9_heatOf 45 = .ok (.bastore, 1) := by decide +kernel
theorem dX9_heatOf_46 : decode cX9_heatOf 46 = .ok (.lload 8, 2) := by decide +kernel
theorem dX9_heatOf_48 : decode cX9_heatOf 48 = .ok (.aload_n 0, 1) := by decide +kernel
theorem dX9_heatOf_49 : decode cX9_heatOf 49 = .ok (.getfield 68, 3) := by decide +kernel
theorem dX9_heatOf_52 : decode cX9_heatOf 52 = .ok (.iload 10, 2) := by decide +kernel
theorem dX9_heatOf_54 : decode cX9_heatOf 54 = .ok (.baload, 1) := by decide +kernel
theorem dX9_heatOf_55 : decode cX9_heatOf 55 = .ok (.ifCond .eq 8, 3) := by decide +kernel
theorem dX9_heatOf_58 : decode cX9_heatOf 58 = .ok (.iload_n 1, 1) := by decide +kernel
theorem dX9_heatOf_59 : decode cX9_heatOf 59 = .ok (.i2l, 1) := by decide +kernel
theorem dX9_heatOf_60 : decode cX9_heatOf 60 = .ok (.goto 8, 3) := by decide +kernel
theorem dX9_heatOf_63 : decode cX9_heatOf 63 = .ok (.bipush 16, 2) := by decide +kernel
theorem dX9_heatOf_65 : decode cX9_heatOf 65 = .ok (.iload_n 1, 1) := by decide +kernel
theorem dX9_heatOf_66 : decode cX9_heatOf 66 = .ok (.isub, 1) := by decide +kernel
theorem dX9_heatOf_67 : decode cX9_heatOf 67 = .ok (.i2l, 1) := by decide +kernel
theorem dX9_heatOf_68 : decode cX9_heatOf 68 = .ok (.lmul, 1) := by decide +kernel
theorem dX9_heatOf_69 : decode cX9_heatOf 69 = .ok (.lstore 8, 2) := by decide +kernel
theorem dX9_heatOf_71 : decode cX9_heatOf 71 = .ok (.iinc 10 1, 3) := by decide +kernel
theorem dX9_heatOf_74 : decode cX9_heatOf 74 = .ok (.goto (-48), 3) := by decide +kernel
theorem dX9_heatOf_77 : decode cX9_heatOf 77 = .ok (.aload_n 0, 1) := by decide +kernel
theorem dX9_heatOf_78 : decode cX9_heatOf 78 = .ok (.iload_n 3, 1) := by decide +kernel
theorem dX9_heatOf_79 : decode cX9_heatOf 79 = .ok (.invokevirtual 239, 3) := by decide +kernel
theorem dX9_heatOf_82 : decode cX9_heatOf 82 = .ok (.lload 5, 2) := by decide +kernel
theorem dX9_heatOf_84 : decode cX9_heatOf 84 = .ok (.aload_n 0, 1) := by decide +kernel
theorem dX9_heatOf_85 : decode cX9_heatOf 85 = .ok (.getfield 64, 3) := by decide +kernel
theorem dX9_heatOf_88 : decode cX9_heatOf 88 = .ok (.iload_n 2, 1) := by decide +kernel
theorem dX9_heatOf_89 : decode cX9_heatOf 89 = .ok (.baload, 1) := by decide +kernel
theorem dX9_heatOf_90 : decode cX9_heatOf 90 = .ok (.ifCond .eq 8, 3) := by decide +kernel
theorem dX9_heatOf_93 : decode cX9_heatOf 93 = .ok (.lload 8, 2) := by decide +kernel
theorem dX9_heatOf_95 : decode cX9_heatOf 95 = .ok (.goto 4, 3) := by decide +kernel
theorem dX9_heatOf_98 : decode cX9_heatOf 98 = .ok (.lconst 0, 1) := by decide +kernel
theorem dX9_heatOf_99 : decode cX9_heatOf 99 = .ok (.ladd, 1) := by decide +kernel
theorem dX9_heatOf_100 : decode cX9_heatOf 100 = .ok (.lstore 5, 2) := by decide +kernel
theorem dX9_heatOf_102 : decode cX9_heatOf 102 = .ok (.iinc 7 1, 3) := by decide +kernel
theorem dX9_heatOf_105 : decode cX9_heatOf 105 = .ok (.goto (-95), 3) := by decide +kernel
theorem dX9_heatOf_108 : decode cX9_heatOf 108 = .ok (.lload 5, 2) := by decide +kernel
theorem dX9_heatOf_110 : decode cX9_heatOf 110 = .ok (.lconst 1, 1) := by decide +kernel
theorem dX9_heatOf_111 : decode cX9_heatOf 111 = .ok (.iconst 4, 1) := by decide +kernel
theorem dX9_heatOf_112 : decode cX9_heatOf 112 = .ok (.iload_n 3, 1) := by decide +kernel
theorem dX9_heatOf_113 : decode cX9_heatOf 113 = .ok (.iconst 1, 1) := by decide +kernel
theorem dX9_heatOf_114 : decode cX9_heatOf 114 = .ok (.iadd, 1) := by decide +kernel
theorem dX9_heatOf_115 : decode cX9_heatOf 115 = .ok (.imul, 1) := by decide +kernel
theorem dX9_heatOf_116 : decode cX9_heatOf 116 = .ok (.lshl, 1) := by decide +kernel
theorem dX9_heatOf_117 : decode cX9_heatOf 117 = .ok (.iload 4, 2) := by decide +kernel
theorem dX9_heatOf_119 : decode cX9_heatOf 119 = .ok (.invokestatic 315, 3) := by decide +kernel
theorem dX9_heatOf_122 : decode cX9_heatOf 122 = .ok (.lreturn, 1) := by decide +kernel
theorem dX9_heat_0 : decode cX9_heat 0 = .ok (.iload_n 1, 1) := by decide +kernel
theorem dX9_heat_1 : decode cX9_heat 1 = .ok (.iconst 0, 1) := by decide +kernel
theorem dX9_heat_2 : decode cX9_heat 2 = .ok (.bipush 16, 2) := by decide +kernel
theorem dX9_heat_4 : decode cX9_heat 4 = .ok (.invokestatic 116, 3) := by decide +kernel
theorem dX9_heat_7 : decode cX9_heat 7 = .ok (.ifCond .eq 43, 3) := by decide +kernel
theorem dX9_heat_10 : decode cX9_heat 10 = .ok (.aload_n 0, 1) := by decide +kernel
theorem dX9_heat_11 : decode cX9_heat 11 = .ok (.iload_n 2, 1) := by decide +kernel
theorem dX9_heat_12 : decode cX9_heat 12 = .ok (.invokevirtual 151, 3) := by decide +kernel
theorem dX9_heat_15 : decode cX9_heat 15 = .ok (.ifCond .eq 35, 3) := by decide +kernel
theorem dX9_heat_18 : decode cX9_heat 18 = .ok (.iload_n 3, 1) := by decide +kernel
theorem dX9_heat_19 : decode cX9_heat 19 = .ok (.iconst 0, 1) := by decide +kernel
theorem dX9_heat_20 : decode cX9_heat 20 = .ok (.bipush 9, 2) := by decide +kernel
theorem dX9_heat_22 : decode cX9_heat 22 = .ok (.invokestatic 116, 3) := by decide +kernel
theorem dX9_heat_25 : decode cX9_heat 25 = .ok (.ifCond .eq 25, 3) := by decide +kernel
theorem dX9_heat_28 : decode cX9_heat 28 = .ok (.iload 4, 2) := by decide +kernel
theorem dX9_heat_30 : decode cX9_heat 30 = .ok (.iconst 0, 1) := by decide +kernel
theorem dX9_heat_31 : decode cX9_heat 31 = .ok (.iconst 1, 1) := by decide +kernel
theorem dX9_heat_32 : decode cX9_heat 32 = .ok (.invokestatic 116, 3) := by decide +kernel
theorem dX9_heat_35 : decode cX9_heat 35 = .ok (.ifCond .eq 15, 3) := by decide +kernel
theorem dX9_heat_38 : decode cX9_heat 38 = .ok (.aload_n 0, 1) := by decide +kernel
theorem dX9_heat_39 : decode cX9_heat 39 = .ok (.iload_n 1, 1) := by decide +kernel
theorem dX9_heat_40 : decode cX9_heat 40 = .ok (.iload_n 2, 1) := by decide +kernel
theorem dX9_heat_41 : decode cX9_heat 41 = .ok (.iload_n 3, 1) := by decide +kernel
theorem dX9_heat_42 : decode cX9_heat 42 = .ok (.iload 4, 2) := by decide +kernel
theorem dX9_heat_44 : decode cX9_heat 44 = .ok (.invokevirtual 319, 3) := by decide +kernel
theorem dX9_heat_47 : decode cX9_heat 47 = .ok (.goto 8, 3) := by decide +kernel
theorem dX9_heat_50 : decode cX9_heat 50 = .ok (.bipush (-2), 2) := by decide +kernel
theorem dX9_heat_52 : decode cX9_heat 52 = .ok (.invokestatic 323, 3) := by decide +kernel
theorem dX9_heat_55 : decode cX9_heat 55 = .ok (.lreturn, 1) := by decide +kernel
theorem dX9_marketOf_0 : decode cX9_marketOf 0 = .ok (.aload_n 0, 1) := by decide +kernel
theorem dX9_marketOf_1 : decode cX9_marketOf 1 = .ok (.invokevirtual 236, 3) := by decide +kernel
theorem dX9_marketOf_4 : decode cX9_marketOf 4 = .ok (.iload_n 1, 1) := by decide +kernel
theorem dX9_marketOf_5 : decode cX9_marketOf 5 = .ok (.istore 4, 2) := by decide +kernel
theorem dX9_marketOf_7 : decode cX9_marketOf 7 = .ok (.iconst 0, 1) := by decide +kernel
theorem dX9_marketOf_8 : decode cX9_marketOf 8 = .ok (.istore 5, 2) := by decide +kernel
theorem dX9_marketOf_10 : decode cX9_marketOf 10 = .ok (.iload 5, 2) := by decide +kernel
theorem dX9_marketOf_12 : decode cX9_marketOf 12 = .ok (.iload_n 2, 1) := by decide +kernel
theorem dX9_marketOf_13 : decode cX9_marketOf 13 = .ok (.if_icmp .gt 82, 3) := by decide +kernel
theorem dX9_marketOf_16 : decode cX9_marketOf 16 = .ok (.aload_n 0, 1) := by decide +kernel
theorem dX9_marketOf_17 : decode cX9_marketOf 17 = .ok (.getfield 128, 3) := by decide +kernel
theorem dX9_marketOf_20 : decode cX9_marketOf 20 = .ok (.ifCond .le 75, 3) := by decide +kernel
theorem dX9_marketOf_23 : decode cX9_marketOf 23 = .ok (.ldc_w 327, 3) := by decide +kernel
theorem dX9_marketOf_26 : decode cX9_marketOf 26 = .ok (.iload 4, 2) := by decide +kernel
theorem dX9_marketOf_28 : decode cX9_marketOf 28 = .ok (.imul, 1) := by decide +kernel
theorem dX9_marketOf_29 : decode cX9_marketOf 29 = .ok (.sipush 12345, 3) := by decide +kernel
theorem dX9_marketOf_32 : decode cX9_marketOf 32 = .ok (.iadd, 1) := by decide +kernel
theorem dX9_marketOf_33 : decode cX9_marketOf 33 = .ok (.istore 4, 2) := by decide +kernel
theorem dX9_marketOf_35 : decode cX9_marketOf 35 = .ok (.aload_n 0, 1) := by decide +kernel
theorem dX9_marketOf_36 : decode cX9_marketOf 36 = .ok (.getfield 49, 3) := by decide +kernel
theorem dX9_marketOf_39 : decode cX9_marketOf 39 = .ok (.iload 5, 2) := by decide +kernel
theorem dX9_marketOf_41 : decode cX9_marketOf 41 = .ok (.iload 4, 2) := by decide +kernel
theorem dX9_marketOf_43 : decode cX9_marketOf 43 = .ok (.bipush 16, 2) := by decide +kernel
theorem dX9_marketOf_45 : decode cX9_marketOf 45 = .ok (.iushr, 1) := by decide +kernel
theorem dX9_marketOf_46 : decode cX9_marketOf 46 = .ok (.aload_n 0, 1) := by decide +kernel
theorem dX9_marketOf_47 : decode cX9_marketOf 47 = .ok (.getfield 128, 3) := by decide +kernel
theorem dX9_marketOf_50 : decode cX9_marketOf 50 = .ok (.irem, 1) := by decide +kernel
theorem dX9_marketOf_51 : decode cX9_marketOf 51 = .ok (.iastore, 1) := by decide +kernel
theorem dX9_marketOf_52 : decode cX9_marketOf 52 = .ok (.ldc_w 327, 3) := by decide +kernel
theorem dX9_marketOf_55 : decode cX9_marketOf 55 = .ok (.iload 4, 2) := by decide +kernel
theorem dX9_marketOf_57 : decode cX9_marketOf 57 = .ok (.imul, 1) := by decide +kernel
theorem dX9_marketOf_58 : decode cX9_marketOf 58 = .ok (.sipush 12345, 3) := by decide +kernel
theorem dX9_marketOf_61 : decode cX9_marketOf 61 = .ok (.iadd, 1) := by decide +kernel
theorem dX9_marketOf_62 : decode cX9_marketOf 62 = .ok (.istore 4, 2) := by decide +kernel
theorem dX9_marketOf_64 : decode cX9_marketOf 64 = .ok (.aload_n 0, 1) := by decide +kernel
theorem dX9_marketOf_65 : decode cX9_marketOf 65 = .ok (.getfield 52, 3) := by decide +kernel
theorem dX9_marketOf_68 : decode cX9_marketOf 68 = .ok (.iload 5, 2) := by decide +kernel
theorem dX9_marketOf_70 : decode cX9_marketOf 70 = .ok (.iload 4, 2) := by decide +kernel
theorem dX9_marketOf_72 : decode cX9_marketOf 72 = .ok (.bipush 16, 2) := by decide +kernel
theorem dX9_marketOf_74 : decode cX9_marketOf 74 = .ok (.iushr, 1) := by decide +kernel
theorem dX9_marketOf_75 : decode cX9_marketOf 75 = .ok (.bipush 6, 2) := by decide +kernel
theorem dX9_marketOf_77 : decode cX9_marketOf 77 = .ok (.irem, 1) := by decide +kernel
theorem dX9_marketOf_78 : decode cX9_marketOf 78 = .ok (.iastore, 1) := by decide +kernel
theorem dX9_marketOf_79 : decode cX9_marketOf 79 = .ok (.aload_n 0, 1) := by decide +kernel
theorem dX9_marketOf_80 : decode cX9_marketOf 80 = .ok (.dup, 1) := by decide +kernel
theorem dX9_marketOf_81 : decode cX9_marketOf 81 = .ok (.getfield 194, 3) := by decide +kernel
theorem dX9_marketOf_84 : decode cX9_marketOf 84 = .ok (.iconst 1, 1) := by decide +kernel
theorem dX9_marketOf_85 : decode cX9_marketOf 85 = .ok (.iadd, 1) := by decide +kernel
theorem dX9_marketOf_86 : decode cX9_marketOf 86 = .ok (.putfield 194, 3) := by decide +kernel
theorem dX9_marketOf_89 : decode cX9_marketOf 89 = .ok (.iinc 5 1, 3) := by decide +kernel
theorem dX9_marketOf_92 : decode cX9_marketOf 92 = .ok (.goto (-82), 3) := by decide +kernel
theorem dX9_marketOf_95 : decode cX9_marketOf 95 = .ok (.aload_n 0, 1) := by decide +kernel
theorem dX9_marketOf_96 : decode cX9_marketOf 96 = .ok (.iload_n 2, 1) := by decide +kernel
theorem dX9_marketOf_97 : decode cX9_marketOf 97 = .ok (.invokevirtual 239, 3) := by decide +kernel
theorem dX9_marketOf_100 : decode cX9_marketOf 100 = .ok (.iload_n 3, 1) := by decide +kernel
theorem dX9_marketOf_101 : decode cX9_marketOf 101 = .ok (.iconst (-1), 1) := by decide +kernel
theorem dX9_marketOf_102 : decode cX9_marketOf 102 = .ok (.if_icmp .ne 10, 3) := by decide +kernel
theorem dX9_marketOf_105 : decode cX9_marketOf 105 = .ok (.aload_n 0, 1) := by decide +kernel
theorem dX9_marketOf_106 : decode cX9_marketOf 106 = .ok (.getfield 200, 3) := by decide +kernel
theorem dX9_marketOf_109 : decode cX9_marketOf 109 = .ok (.goto 9, 3) := by decide +kernel
theorem dX9_marketOf_112 : decode cX9_marketOf 112 = .ok (.aload_n 0, 1) := by decide +kernel
theorem dX9_marketOf_113 : decode cX9_marketOf 113 = .ok (.getfield 58, 3) := by decide +kernel
theorem dX9_marketOf_116 : decode cX9_marketOf 116 = .ok (.iload_n 3, 1) := by decide +kernel
theorem dX9_marketOf_117 : decode cX9_marketOf 117 = .ok (.iaload, 1) := by decide +kernel
theorem dX9_marketOf_118 : decode cX9_marketOf 118 = .ok (.ireturn, 1) := by decide +kernel
theorem dX9_market_0 : decode cX9_market 0 = .ok (.iload_n 2, 1) := by decide +kernel
theorem dX9_market_1 : decode cX9_market 1 = .ok (.invokestatic 163, 3) := by decide +kernel
theorem dX9_market_4 : decode cX9_market 4 = .ok (.ifCond .eq 26, 3) := by decide +kernel
theorem dX9_market_7 : decode cX9_market 7 = .ok (.iload_n 3, 1) := by decide +kernel
theorem dX9_market_8 : decode cX9_market 8 = .ok (.iconst (-1), 1) := by decide +kernel
theorem dX9_market_9 : decode cX9_market 9 = .ok (.if_icmp .eq 11, 3) := by decide +kernel
theorem dX9_market_12 : decode cX9_market 12 = .ok (.aload_n 0, 1) := by decide +kernel
theorem dX9_market_13 : decode cX9_market 13 = .ok (.iload_n 3, 1) := by decide +kernel
theorem dX9_market_14 : decode cX9_market 14 = .ok (.invokevirtual 151, 3) := by decide +kernel
theorem dX9_market_17 : decode cX9_market 17 = .ok (.ifCond .eq 13, 3) := by decide +kernel
theorem dX9_market_20 : decode cX9_market 20 = .ok (.aload_n 0, 1) := by decide +kernel
theorem dX9_market_21 : decode cX9_market 21 = .ok (.iload_n 1, 1) := by decide +kernel
theorem dX9_market_22 : decode cX9_market 22 = .ok (.iload_n 2, 1) := by decide +kernel
theorem dX9_market_23 : decode cX9_market 23 = .ok (.iload_n 3, 1) := by decide +kernel
theorem dX9_market_24 : decode cX9_market 24 = .ok (.invokevirtual 328, 3) := by decide +kernel
theorem dX9_market_27 : decode cX9_market 27 = .ok (.goto 5, 3) := by decide +kernel
theorem dX9_market_30 : decode cX9_market 30 = .ok (.bipush (-2), 2) := by decide +kernel
theorem dX9_market_32 : decode cX9_market 32 = .ok (.ireturn, 1) := by decide +kernel
theorem dX9_meets_0 : decode cX9_meets 0 = .ok (.aload_n 0, 1) := by decide +kernel
theorem dX9_meets_1 : decode cX9_meets 1 = .ok (.iload_n 1, 1) := by decide +kernel
theorem dX9_meets_2 : decode cX9_meets 2 = .ok (.putfield 331, 3) := by decide +kernel
theorem dX9_meets_5 : decode cX9_meets 5 = .ok (.bipush (-10), 2) := by decide +kernel
theorem dX9_meets_7 : decode cX9_meets 7 = .ok (.iload_n 1, 1) := by decide +kernel
theorem dX9_meets_8 : decode cX9_meets 8 = .ok (.isub, 1) := by decide +kernel
theorem dX9_meets_9 : decode cX9_meets 9 = .ok (.ireturn, 1) := by decide +kernel
theorem dX9_isSheet_0 : decode cX9_isSheet 0 = .ok (.iload_n 0, 1) := by decide +kernel
theorem dX9_isSheet_1 : decode cX9_isSheet 1 = .ok (.iconst 0, 1) := by decide +kernel
theorem dX9_isSheet_2 : decode cX9_isSheet 2 = .ok (.iconst 3, 1) := by decide +kernel
theorem dX9_isSheet_3 : decode cX9_isSheet 3 = .ok (.invokestatic 116, 3) := by decide +kernel
theorem dX9_isSheet_6 : decode cX9_isSheet 6 = .ok (.ireturn, 1) := by decide +kernel
theorem dX9_sheet_0 : decode cX9_sheet 0 = .ok (.iload_n 1, 1) := by decide +kernel
theorem dX9_sheet_1 : decode cX9_sheet 1 = .ok (.invokestatic 172, 3) := by decide +kernel
theorem dX9_sheet_4 : decode cX9_sheet 4 = .ok (.ifCond .eq 18, 3) := by decide +kernel
theorem dX9_sheet_7 : decode cX9_sheet 7 = .ok (.iload_n 2, 1) := by decide +kernel
theorem dX9_sheet_8 : decode cX9_sheet 8 = .ok (.iconst 0, 1) := by decide +kernel
theorem dX9_sheet_9 : decode cX9_sheet 9 = .ok (.iconst 2, 1) := by decide +kernel
theorem dX9_sheet_10 : decode cX9_sheet 10 = .ok (.invokestatic 116, 3) := by decide +kernel
theorem dX9_sheet_13 : decode cX9_sheet 13 = .ok (.ifCond .eq 9, 3) := by decide +kernel
theorem dX9_sheet_16 : decode cX9_sheet 16 = .ok (.iload_n 3, 1) := by decide +kernel
theorem dX9_sheet_17 : decode cX9_sheet 17 = .ok (.bipush 60, 2) := by decide +kernel
theorem dX9_sheet_19 : decode cX9_sheet 19 = .ok (.if_icmp .le 6, 3) := by decide +kernel
theorem dX9_sheet_22 : decode cX9_sheet 22 = .ok (.bipush (-2), 2) := by decide +kernel
theorem dX9_sheet_24 : decode cX9_sheet 24 = .ok (.ireturn, 1) := by decide +kernel
theorem dX9_sheet_25 : decode cX9_sheet 25 = .ok (.iload_n 3, 1) := by decide +kernel
theorem dX9_sheet_26 : decode cX9_sheet 26 = .ok (.ifCond .ge 9, 3) := by decide +kernel
theorem dX9_sheet_29 : decode cX9_sheet 29 = .ok (.aload_n 0, 1) := by decide +kernel
theorem dX9_sheet_30 : decode cX9_sheet 30 = .ok (.iconst 5, 1) := by decide +kernel
theorem dX9_sheet_31 : decode cX9_sheet 31 = .ok (.invokevirtual 175, 3) := by decide +kernel
theorem dX9_sheet_34 : decode cX9_sheet 34 = .ok (.ireturn, 1) := by decide +kernel
theorem dX9_sheet_35 : decode cX9_sheet 35 = .ok (.aload_n 0, 1) := by decide +kernel
theorem dX9_sheet_36 : decode cX9_sheet 36 = .ok (.getfield 95, 3) := by decide +kernel
theorem dX9_sheet_39 : decode cX9_sheet 39 = .ok (.iload_n 1, 1) := by decide +kernel
theorem dX9_sheet_40 : decode cX9_sheet 40 = .ok (.iconst 1, 1) := by decide +kernel
theorem dX9_sheet_41 : decode cX9_sheet 41 = .ok (.bastore, 1) := by decide +kernel
theorem dX9_sheet_42 : decode cX9_sheet 42 = .ok (.aload_n 0, 1) := by decide +kernel
theorem dX9_sheet_43 : decode cX9_sheet 43 = .ok (.getfield 98, 3) := by decide +kernel
theorem dX9_sheet_46 : decode cX9_sheet 46 = .ok (.iload_n 1, 1) := by decide +kernel
theorem dX9_sheet_47 : decode cX9_sheet 47 = .ok (.iload_n 2, 1) := by decide +kernel
theorem dX9_sheet_48 : decode cX9_sheet 48 = .ok (.iastore, 1) := by decide +kernel
theorem dX9_sheet_49 : decode cX9_sheet 49 = .ok (.aload_n 0, 1) := by decide +kernel
theorem dX9_sheet_50 : decode cX9_sheet 50 = .ok (.getfield 101, 3) := by decide +kernel
theorem dX9_sheet_53 : decode cX9_sheet 53 = .ok (.iload_n 1, 1) := by decide +kernel
theorem dX9_sheet_54 : decode cX9_sheet 54 = .ok (.iload_n 3, 1) := by decide +kernel
theorem dX9_sheet_55 : decode cX9_sheet 55 = .ok (.iastore, 1) := by decide +kernel
theorem dX9_sheet_56 : decode cX9_sheet 56 = .ok (.iconst 0, 1) := by decide +kernel
theorem dX9_sheet_57 : decode cX9_sheet 57 = .ok (.istore 4, 2) := by decide +kernel
theorem dX9_sheet_59 : decode cX9_sheet 59 = .ok (.iload 4, 2) := by decide +kernel
theorem dX9_sheet_61 : decode cX9_sheet 61 = .ok (.bipush 60, 2) := by decide +kernel
theorem dX9_sheet_63 : decode cX9_sheet 63 = .ok (.if_icmp .ge 22, 3) := by decide +kernel
theorem dX9_sheet_66 : decode cX9_sheet 66 = .ok (.aload_n 0, 1) := by decide +kernel
theorem dX9_sheet_67 : decode cX9_sheet 67 = .ok (.getfield 104, 3) := by decide +kernel
theorem dX9_sheet_70 : decode cX9_sheet 70 = .ok (.bipush 60, 2) := by decide +kernel
theorem dX9_sheet_72 : decode cX9_sheet 72 = .ok (.iload_n 1, 1) := by decide +kernel
theorem dX9_sheet_73 : decode cX9_sheet 73 = .ok (.imul, 1) := by decide +kernel
theorem dX9_sheet_74 : decode cX9_sheet 74 = .ok (.iload 4, 2) := by decide +kernel
theorem dX9_sheet_76 : decode cX9_sheet 76 = .ok (.iadd, 1) := by decide +kernel
theorem dX9_sheet_77 : decode cX9_sheet 77 = .ok (.iconst 0, 1) := by decide +kernel
theorem dX9_sheet_78 : decode cX9_sheet 78 = .ok (.iastore, 1) := by decide +kernel
theorem dX9_sheet_79 : decode cX9_sheet 79 = .ok (.iinc 4 1, 3) := by decide +kernel
theorem dX9_sheet_82 : decode cX9_sheet 82 = .ok (.goto (-23), 3) := by decide +kernel
theorem dX9_sheet_85 : decode cX9_sheet 85 = .ok (.iload_n 3, 1) := by decide +kernel
theorem dX9_sheet_86 : decode cX9_sheet 86 = .ok (.ireturn, 1) := by decide +kernel
theorem dX9_lose_0 : decode cX9_lose 0 = .ok (.iload_n 1, 1) := by decide +kernel
theorem dX9_lose_1 : decode cX9_lose 1 = .ok (.invokestatic 172, 3) := by decide +kernel
theorem dX9_lose_4 : decode cX9_lose 4 = .ok (.ifCond .ne 6, 3) := by decide +kernel
theorem dX9_lose_7 : decode cX9_lose 7 = .ok (.bipush (-2), 2) := by decide +kernel
theorem dX9_lose_9 : decode cX9_lose 9 = .ok (.ireturn, 1) := by decide +kernel
theorem dX9_lose_10 : decode cX9_lose 10 = .ok (.aload_n 0, 1) := by decide +kernel
theorem dX9_lose_11 : decode cX9_lose 11 = .ok (.getfield 95, 3) := by decide +kernel
theorem dX9_lose_14 : decode cX9_lose 14 = .ok (.iload_n 1, 1) := by decide +kernel
theorem dX9_lose_15 : decode cX9_lose 15 = .ok (.baload, 1) := by decide +kernel
theorem dX9_lose_16 : decode cX9_lose 16 = .ok (.ifCond .ne 9, 3) := by decide +kernel
theorem dX9_lose_19 : decode cX9_lose 19 = .ok (.aload_n 0, 1) := by decide +kernel
theorem dX9_lose_20 : decode cX9_lose 20 = .ok (.iconst 1, 1) := by decide +kernel
theorem dX9_lose_21 : decode cX9_lose 21 = .ok (.invokevirtual 175, 3) := by decide +kernel
theorem dX9_lose_24 : decode cX9_lose 24 = .ok (.ireturn, 1) := by decide +kernel
theorem dX9_lose_25 : decode cX9_lose 25 = .ok (.aload_n 0, 1) := by decide +kernel
theorem dX9_lose_26 : decode cX9_lose 26 = .ok (.getfield 95, 3) := by decide +kernel
theorem dX9_lose_29 : decode cX9_lose 29 = .ok (.iload_n 1, 1) := by decide +kernel
theorem dX9_lose_30 : decode cX9_lose 30 = .ok (.iconst 0, 1) := by decide +kernel
theorem dX9_lose_31 : decode cX9_lose 31 = .ok (.bastore, 1) := by decide +kernel
theorem dX9_lose_32 : decode cX9_lose 32 = .ok (.aload_n 0, 1) := by decide +kernel
theorem dX9_lose_33 : decode cX9_lose 33 = .ok (.getfield 101, 3) := by decide +kernel
theorem dX9_lose_36 : decode cX9_lose 36 = .ok (.iload_n 1, 1) := by decide +kernel
theorem dX9_lose_37 : decode cX9_lose 37 = .ok (.iaload, 1) := by decide +kernel
theorem dX9_lose_38 : decode cX9_lose 38 = .ok (.ireturn, 1) := by decide +kernel
theorem dX9_lacks_0 : decode cX9_lacks 0 = .ok (.aload_n 0, 1) := by decide +kernel
theorem dX9_lacks_1 : decode cX9_lacks 1 = .ok (.getfield 95, 3) := by decide +kernel
theorem dX9_lacks_4 : decode cX9_lacks 4 = .ok (.iload_n 1, 1) := by decide +kernel
theorem dX9_lacks_5 : decode cX9_lacks 5 = .ok (.baload, 1) := by decide +kernel
theorem dX9_lacks_6 : decode cX9_lacks 6 = .ok (.ifCond .ne 7, 3) := by decide +kernel
theorem dX9_lacks_9 : decode cX9_lacks 9 = .ok (.iconst 1, 1) := by decide +kernel
theorem dX9_lacks_10 : decode cX9_lacks 10 = .ok (.goto 38, 3) := by decide +kernel
theorem dX9_lacks_13 : decode cX9_lacks 13 = .ok (.aload_n 0, 1) := by decide +kernel
theorem dX9_lacks_14 : decode cX9_lacks 14 = .ok (.getfield 98, 3) := by decide +kernel
theorem dX9_lacks_17 : decode cX9_lacks 17 = .ok (.iload_n 1, 1) := by decide +kernel
theorem dX9_lacks_18 : decode cX9_lacks 18 = .ok (.iaload, 1) := by decide +kernel
theorem dX9_lacks_19 : decode cX9_lacks 19 = .ok (.iload_n 2, 1) := by decide +kernel
theorem dX9_lacks_20 : decode cX9_lacks 20 = .ok (.if_icmp .eq 7, 3) := by decide +kernel
theorem dX9_lacks_23 : decode cX9_lacks 23 = .ok (.iconst 3, 1) := by decide +kernel
theorem dX9_lacks_24 : decode cX9_lacks 24 = .ok (.goto 24, 3) := by decide +kernel
theorem dX9_lacks_27 : decode cX9_lacks 27 = .ok (.iload_n 3, 1) := by decide +kernel
theorem dX9_lacks_28 : decode cX9_lacks 28 = .ok (.iconst 0, 1) := by decide +kernel
theorem dX9_lacks_29 : decode cX9_lacks 29 = .ok (.aload_n 0, 1) := by decide +kernel
theorem dX9_lacks_30 : decode cX9_lacks 30 = .ok (.getfield 101, 3) := by decide +kernel
theorem dX9_lacks_33 : decode cX9_lacks 33 = .ok (.iload_n 1, 1) := by decide +kernel
theorem dX9_lacks_34 : decode cX9_lacks 34 = .ok (.iaload, 1) := by decide +kernel
theorem dX9_lacks_35 : decode cX9_lacks 35 = .ok (.iconst 1, 1) := by decide +kernel
theorem dX9_lacks_36 : decode cX9_lacks 36 = .ok (.isub, 1) := by decide +kernel
theorem dX9_lacks_37 : decode cX9_lacks 37 = .ok (.invokestatic 116, 3) := by decide +kernel
theorem dX9_lacks_40 : decode cX9_lacks 40 = .ok (.ifCond .eq 7, 3) := by decide +kernel
theorem dX9_lacks_43 : decode cX9_lacks 43 = .ok (.iconst 0, 1) := by decide +kernel
theorem dX9_lacks_44 : decode cX9_lacks 44 = .ok (.goto 4, 3) := by decide +kernel
theorem dX9_lacks_47 : decode cX9_lacks 47 = .ok (.iconst 2, 1) := by decide +kernel
theorem dX9_lacks_48 : decode cX9_lacks 48 = .ok (.ireturn, 1) := by decide +kernel
theorem dX9_keep_0 : decode cX9_keep 0 = .ok (.aload_n 0, 1) := by decide +kernel
theorem dX9_keep_1 : decode cX9_keep 1 = .ok (.getfield 104, 3) := by decide +kernel
theorem dX9_keep_4 : decode cX9_keep 4 = .ok (.bipush 60, 2) := by decide +kernel
theorem dX9_keep_6 : decode cX9_keep 6 = .ok (.iload_n 1, 1) := by decide +kernel
theorem dX9_keep_7 : decode cX9_keep 7 = .ok (.imul, 1) := by decide +kernel
theorem dX9_keep_8 : decode cX9_keep 8 = .ok (.iload_n 2, 1) := by decide +kernel
theorem dX9_keep_9 : decode cX9_keep 9 = .ok (.iadd, 1) := by decide +kernel
theorem dX9_keep_10 : decode cX9_keep 10 = .ok (.aload_n 0, 1) := by decide +kernel
theorem dX9_keep_11 : decode cX9_keep 11 = .ok (.getfield 98, 3) := by decide +kernel
theorem dX9_keep_14 : decode cX9_keep 14 = .ok (.iload_n 1, 1) := by decide +kernel
theorem dX9_keep_15 : decode cX9_keep 15 = .ok (.iaload, 1) := by decide +kernel
theorem dX9_keep_16 : decode cX9_keep 16 = .ok (.ifCond .ne 8, 3) := by decide +kernel
theorem dX9_keep_19 : decode cX9_keep 19 = .ok (.iload_n 3, 1) := by decide +kernel
theorem dX9_keep_20 : decode cX9_keep 20 = .ok (.i2b, 1) := by decide +kernel
theorem dX9_keep_21 : decode cX9_keep 21 = .ok (.goto 19, 3) := by decide +kernel
theorem dX9_keep_24 : decode cX9_keep 24 = .ok (.aload_n 0, 1) := by decide +kernel
theorem dX9_keep_25 : decode cX9_keep 25 = .ok (.getfield 98, 3) := by decide +kernel
theorem dX9_keep_28 : decode cX9_keep 28 = .ok (.iload_n 1, 1) := by decide +kernel
theorem dX9_keep_29 : decode cX9_keep 29 = .ok (.iaload, 1) := by decide +kernel
theorem dX9_keep_30 : decode cX9_keep 30 = .ok (.iconst 1, 1) := by decide +kernel
theorem dX9_keep_31 : decode cX9_keep 31 = .ok (.if_icmp .ne 8, 3) := by decide +kernel
theorem dX9_keep_34 : decode cX9_keep 34 = .ok (.iload_n 3, 1) := by decide +kernel
theorem dX9_keep_35 : decode cX9_keep 35 = .ok (.i2s, 1) := by decide +kernel
theorem dX9_keep_36 : decode cX9_keep 36 = .ok (.goto 4, 3) := by decide +kernel
theorem dX9_keep_39 : decode cX9_keep 39 = .ok (.iload_n 3, 1) := by decide +kernel
theorem dX9_keep_40 : decode cX9_keep 40 = .ok (.iastore, 1) := by decide +kernel
theorem dX9_keep_41 : decode cX9_keep 41 = .ok (.return_, 1) := by decide +kernel
theorem dX9_put_0 : decode cX9_put 0 = .ok (.iload_n 1, 1) := by decide +kernel
theorem dX9_put_1 : decode cX9_put 1 = .ok (.invokestatic 172, 3) := by decide +kernel
theorem dX9_put_4 : decode cX9_put 4 = .ok (.ifCond .eq 12, 3) := by decide +kernel
theorem dX9_put_7 : decode cX9_put 7 = .ok (.iload_n 2, 1) := by decide +kernel
theorem dX9_put_8 : decode cX9_put 8 = .ok (.iconst 0, 1) := by decide +kernel
theorem dX9_put_9 : decode cX9_put 9 = .ok (.iconst 2, 1) := by decide +kernel
theorem dX9_put_10 : decode cX9_put 10 = .ok (.invokestatic 116, 3) := by decide +kernel
theorem dX9_put_13 : decode cX9_put 13 = .ok (.ifCond .ne 6, 3) := by decide +kernel
theorem dX9_put_16 : decode cX9_put 16 = .ok (.bipush (-2), 2) := by decide +kernel
theorem dX9_put_18 : decode cX9_put 18 = .ok (.ireturn, 1) := by decide +kernel
theorem dX9_put_19 : decode cX9_put 19 = .ok (.aload_n 0, 1) := by decide +kernel
theorem dX9_put_20 : decode cX9_put 20 = .ok (.iload_n 1, 1) := by decide +kernel
theorem dX9_put_21 : decode cX9_put 21 = .ok (.iload_n 2, 1) := by decide +kernel
theorem dX9_put_22 : decode cX9_put 22 = .ok (.iload_n 3, 1) := by decide +kernel
theorem dX9_put_23 : decode cX9_put 23 = .ok (.invokevirtual 334, 3) := by decide +kernel
theorem dX9_put_26 : decode cX9_put 26 = .ok (.istore 5, 2) := by decide +kernel
theorem dX9_put_28 : decode cX9_put 28 = .ok (.iload 5, 2) := by decide +kernel
theorem dX9_put_30 : decode cX9_put 30 = .ok (.ifCond .le 10, 3) := by decide +kernel
theorem dX9_put_33 : decode cX9_put 33 = .ok (.aload_n 0, 1) := by decide +kernel
theorem dX9_put_34 : decode cX9_put 34 = .ok (.iload 5, 2) := by decide +kernel
theorem dX9_put_36 : decode cX9_put 36 = .ok (.invokevirtual 175, 3) := by decide +kernel
theorem dX9_put_39 : decode cX9_put 39 = .ok (.ireturn, 1) := by decide +kernel
theorem dX9_put_40 : decode cX9_put 40 = .ok (.aload_n 0, 1) := by decide +kernel
theorem dX9_put_41 : decode cX9_put 41 = .ok (.iload_n 1, 1) := by decide +kernel
theorem dX9_put_42 : decode cX9_put 42 = .ok (.iload_n 3, 1) := by decide +kernel
theorem dX9_put_43 : decode cX9_put 43 = .ok (.iload 4, 2) := by decide +kernel
theorem dX9_put_45 : decode cX9_put 45 = .ok (.invokevirtual 337, 3) := by decide +kernel
theorem dX9_put_48 : decode cX9_put 48 = .ok (.iconst 1, 1) := by decide +kernel
theorem dX9_put_49 : decode cX9_put 49 = .ok (.ireturn, 1) := by decide +kernel
theorem dX9_get_0 : decode cX9_get 0 = .ok (.iload_n 1, 1) := by decide +kernel
theorem dX9_get_1 : decode cX9_get 1 = .ok (.invokestatic 172, 3) := by decide +kernel
theorem dX9_get_4 : decode cX9_get 4 = .ok (.ifCond .eq 12, 3) := by decide +kernel
theorem dX9_get_7 : decode cX9_get 7 = .ok (.iload_n 2, 1) := by decide +kernel
theorem dX9_get_8 : decode cX9_get 8 = .ok (.iconst 0, 1) := by decide +kernel
theorem dX9_get_9 : decode cX9_get 9 = .ok (.iconst 2, 1) := by decide +kernel
theorem dX9_get_10 : decode cX9_get 10 = .ok (.invokestatic 116, 3) := by decide +kernel
theorem dX9_get_13 : decode cX9_get 13 = .ok (.ifCond .ne 7, 3) := by decide +kernel
theorem dX9_get_16 : decode cX9_get 16 = .ok (.ldc_w 341, 3) := by decide +kernel
theorem dX9_get_19 : decode cX9_get 19 = .ok (.ireturn, 1) := by decide +kernel
theorem dX9_get_20 : decode cX9_get 20 = .ok (.aload_n 0, 1) := by decide +kernel
theorem dX9_get_21 : decode cX9_get 21 = .ok (.iload_n 1, 1) := by decide +kernel
theorem dX9_get_22 : decode cX9_get 22 = .ok (.iload_n 2, 1) := by decide +kernel
theorem dX9_get_23 : decode cX9_get 23 = .ok (.iload_n 3, 1) := by decide +kernel
theorem dX9_get_24 : decode cX9_get 24 = .ok (.invokevirtual 334, 3) := by decide +kernel
theorem dX9_get_27 : decode cX9_get 27 = .ok (.istore 4, 2) := by decide +kernel
theorem dX9_get_29 : decode cX9_get 29 = .ok (.iload 4, 2) := by decide +kernel
theorem dX9_get_31 : decode cX9_get 31 = .ok (.ifCond .le 13, 3) := by decide +kernel
theorem dX9_get_34 : decode cX9_get 34 = .ok (.aload_n 0, 1) := by decide +kernel
theorem dX9_get_35 : decode cX9_get 35 = .ok (.iload 4, 2) := by decide +kernel
theorem dX9_get_37 : decode cX9_get 37 = .ok (.putfield 331, 3) := by decide +kernel
theorem dX9_get_40 : decode cX9_get 40 = .ok (.ldc_w 341, 3) := by decide +kernel
theorem dX9_get_43 : decode cX9_get 43 = .ok (.ireturn, 1) := by decide +kernel
theorem dX9_get_44 : decode cX9_get 44 = .ok (.aload_n 0, 1) := by decide +kernel
theorem dX9_get_45 : decode cX9_get 45 = .ok (.getfield 104, 3) := by decide +kernel
theorem dX9_get_48 : decode cX9_get 48 = .ok (.bipush 60, 2) := by decide +kernel
theorem dX9_get_50 : decode cX9_get 50 = .ok (.iload_n 1, 1) := by decide +kernel
theorem dX9_get_51 : decode cX9_get 51 = .ok (.imul, 1) := by decide +kernel
theorem dX9_get_52 : decode cX9_get 52 = .ok (.iload_n 3, 1) := by decide +kernel
theorem dX9_get_53 : decode cX9_get 53 = .ok (.iadd, 1) := by decide +kernel
theorem dX9_get_54 : decode cX9_get 54 = .ok (.iaload, 1) := by decide +kernel
theorem dX9_get_55 : decode cX9_get 55 = .ok (.ireturn, 1) := by decide +kernel
theorem dX9_copy_0 : decode cX9_copy 0 = .ok (.iload_n 1, 1) := by decide +kernel
theorem dX9_copy_1 : decode cX9_copy 1 = .ok (.invokestatic 172, 3) := by decide +kernel
theorem dX9_copy_4 : decode cX9_copy 4 = .ok (.ifCond .eq 10, 3) := by decide +kernel
theorem dX9_copy_7 : decode cX9_copy 7 = .ok (.iload_n 3, 1) := by decide +kernel
theorem dX9_copy_8 : decode cX9_copy 8 = .ok (.invokestatic 172, 3) := by decide +kernel
theorem dX9_copy_11 : decode cX9_copy 11 = .ok (.ifCond .ne 6, 3) := by decide +kernel
theorem dX9_copy_14 : decode cX9_copy 14 = .ok (.bipush (-2), 2) := by decide +kernel
theorem dX9_copy_16 : decode cX9_copy 16 = .ok (.ireturn, 1) := by decide +kernel
theorem dX9_copy_17 : decode cX9_copy 17 = .ok (.aload_n 0, 1) := by decide +kernel
theorem dX9_copy_18 : decode cX9_copy 18 = .ok (.getfield 95, 3) := by decide +kernel
theorem dX9_copy_21 : decode cX9_copy 21 = .ok (.iload_n 1, 1) := by decide +kernel
theorem dX9_copy_22 : decode cX9_copy 22 = .ok (.baload, 1) := by decide +kernel
theorem dX9_copy_23 : decode cX9_copy 23 = .ok (.ifCond .eq 12, 3) := by decide +kernel
theorem dX9_copy_26 : decode cX9_copy 26 = .ok (.aload_n 0, 1) := by decide +kernel
theorem dX9_copy_27 : decode cX9_copy 27 = .ok (.getfield 95, 3) := by decide +kernel
theorem dX9_copy_30 : decode cX9_copy 30 = .ok (.iload_n 3, 1) := by decide +kernel
theorem dX9_copy_31 : decode cX9_copy 31 = .ok (.baload, 1) := by decide +kernel
theorem dX9_copy_32 : decode cX9_copy 32 = .ok (.ifCond .ne 9, 3) := by decide +kernel
theorem dX9_copy_35 : decode cX9_copy 35 = .ok (.aload_n 0, 1) := by decide +kernel
theorem dX9_copy_36 : decode cX9_copy 36 = .ok (.iconst 1, 1) := by decide +kernel
theorem dX9_copy_37 : decode cX9_copy 37 = .ok (.invokevirtual 175, 3) := by decide +kernel
theorem dX9_copy_40 : decode cX9_copy 40 = .ok (.ireturn, 1) := by decide +kernel
theorem dX9_copy_41 : decode cX9_copy 41 = .ok (.aload_n 0, 1) := by decide +kernel
theorem dX9_copy_42 : decode cX9_copy 42 = .ok (.getfield 98, 3) := by decide +kernel
theorem dX9_copy_45 : decode cX9_copy 45 = .ok (.iload_n 1, 1) := by decide +kernel
theorem dX9_copy_46 : decode cX9_copy 46 = .ok (.iaload, 1) := by decide +kernel
theorem dX9_copy_47 : decode cX9_copy 47 = .ok (.aload_n 0, 1) := by decide +kernel
theorem dX9_copy_48 : decode cX9_copy 48 = .ok (.getfield 98, 3) := by decide +kernel
theorem dX9_copy_51 : decode cX9_copy 51 = .ok (.iload_n 3, 1) := by decide +kernel
theorem dX9_copy_52 : decode cX9_copy 52 = .ok (.iaload, 1) := by decide +kernel
theorem dX9_copy_53 : decode cX9_copy 53 = .ok (.if_icmp .eq 9, 3) := by decide +kernel
theorem dX9_copy_56 : decode cX9_copy 56 = .ok (.aload_n 0, 1) := by decide +kernel
theorem dX9_copy_57 : decode cX9_copy 57 = .ok (.iconst 4, 1) := by decide +kernel
theorem dX9_copy_58 : decode cX9_copy 58 = .ok (.invokevirtual 175, 3) := by decide +kernel
theorem dX9_copy_61 : decode cX9_copy 61 = .ok (.ireturn, 1) := by decide +kernel
theorem dX9_copy_62 : decode cX9_copy 62 = .ok (.iload_n 2, 1) := by decide +kernel
theorem dX9_copy_63 : decode cX9_copy 63 = .ok (.ifCond .lt 48, 3) := by decide +kernel
theorem dX9_copy_66 : decode cX9_copy 66 = .ok (.iload 4, 2) := by decide +kernel
theorem dX9_copy_68 : decode cX9_copy 68 = .ok (.ifCond .lt 43, 3) := by decide +kernel
theorem dX9_copy_71 : decode cX9_copy 71 = .ok (.iload 5, 2) := by decide +kernel
theorem dX9_copy_73 : decode cX9_copy 73 = .ok (.ifCond .lt 38, 3) := by decide +kernel
theorem dX9_copy_76 : decode cX9_copy 76 = .ok (.iload_n 2, 1) := by decide +kernel
theorem dX9_copy_77 : decode cX9_copy 77 = .ok (.i2l, 1) := by decide +kernel
theorem dX9_copy_78 : decode cX9_copy 78 = .ok (.iload 5, 2) := by decide +kernel
theorem dX9_copy_80 : decode cX9_copy 80 = .ok (.i2l, 1) := by decide +kernel
theorem dX9_copy_81 : decode cX9_copy 81 = .ok (.ladd, 1) := by decide +kernel
theorem dX9_copy_82 : decode cX9_copy 82 = .ok (.aload_n 0, 1) := by decide +kernel
theorem dX9_copy_83 : decode cX9_copy 83 = .ok (.getfield 101, 3) := by decide +kernel
theorem dX9_copy_86 : decode cX9_copy 86 = .ok (.iload_n 1, 1) := by decide +kernel
theorem dX9_copy_87 : decode cX9_copy 87 = .ok (.iaload, 1) := by decide +kernel
theorem dX9_copy_88 : decode cX9_copy 88 = .ok (.i2l, 1) := by decide +kernel
theorem dX9_copy_89 : decode cX9_copy 89 = .ok (.lcmp, 1) := by decide +kernel
theorem dX9_copy_90 : decode cX9_copy 90 = .ok (.ifCond .gt 21, 3) := by decide +kernel
theorem dX9_copy_93 : decode cX9_copy 93 = .ok (.iload 4, 2) := by decide +kernel
theorem dX9_copy_95 : decode cX9_copy 95 = .ok (.i2l, 1) := by decide +kernel
theorem dX9_copy_96 : decode cX9_copy 96 = .ok (.iload 5, 2) := by decide +kernel
theorem dX9_copy_98 : decode cX9_copy 98 = .ok (.i2l, 1) := by decide +kernel
theorem dX9_copy_99 : decode cX9_copy 99 = .ok (.ladd, 1) := by decide +kernel
theorem dX9_copy_100 : decode cX9_copy 100 = .ok (.aload_n 0, 1) := by decide +kernel
theorem dX9_copy_101 : decode cX9_copy 101 = .ok (.getfield 101, 3) := by decide +kernel
theorem dX9_copy_104 : decode cX9_copy 104 = .ok (.iload_n 3, 1) := by decide +kernel
theorem dX9_copy_105 : decode cX9_copy 105 = .ok (.iaload, 1) := by decide +kernel
theorem dX9_copy_106 : decode cX9_copy 106 = .ok (.i2l, 1) := by decide +kernel
theorem dX9_copy_107 : decode cX9_copy 107 = .ok (.lcmp, 1) := by decide +kernel
theorem dX9_copy_108 : decode cX9_copy 108 = .ok (.ifCond .le 9, 3) := by decide +kernel
theorem dX9_copy_111 : decode cX9_copy 111 = .ok (.aload_n 0, 1) := by decide +kernel
theorem dX9_copy_112 : decode cX9_copy 112 = .ok (.iconst 2, 1) := by decide +kernel
theorem dX9_copy_113 : decode cX9_copy 113 = .ok (.invokevirtual 175, 3) := by decide +kernel
theorem dX9_copy_116 : decode cX9_copy 116 = .ok (.ireturn, 1) := by decide +kernel
theorem dX9_copy_117 : decode cX9_copy 117 = .ok (.iconst 0, 1) := by decide +kernel
theorem dX9_copy_118 : decode cX9_copy 118 = .ok (.istore 6, 2) := by decide +kernel
theorem dX9_copy_120 : decode cX9_copy 120 = .ok (.iload 6, 2) := by decide +kernel
theorem dX9_copy_122 : decode cX9_copy 122 = .ok (.iload 5, 2) := by decide +kernel
theorem dX9_copy_124 : decode cX9_copy 124 = .ok (.if_icmp .ge 30, 3) := by decide +kernel
theorem dX9_copy_127 : decode cX9_copy 127 = .ok (.aload_n 0, 1) := by decide +kernel
theorem dX9_copy_128 : decode cX9_copy 128 = .ok (.getfield 107, 3) := by decide +kernel
theorem dX9_copy_131 : decode cX9_copy 131 = .ok (.iload 6, 2) := by decide +kernel
theorem dX9_copy_133 : decode cX9_copy 133 = .ok (.aload_n 0, 1) := by decide +kernel
theorem dX9_copy_134 : decode cX9_copy 134 = .ok (.getfield 104, 3) := by decide +kernel
theorem dX9_copy_137 : decode cX9_copy 137 = .ok (.bipush 60, 2) := by decide +kernel
theorem dX9_copy_139 : decode cX9_copy 139 = .ok (.iload_n 1, 1) := by decide +kernel
theorem dX9_copy_140 : decode cX9_copy 140 = .ok (.imul, 1) := by decide +kernel
theorem dX9_copy_141 : decode cX9_copy 141 = .ok (.iload_n 2, 1) := by decide +kernel
theorem dX9_copy_142 : decode cX9_copy 142 = .ok (.iadd, 1) := by decide +kernel
theorem dX9_copy_143 : decode cX9_copy 143 = .ok (.iload 6, 2) := by decide +kernel
theorem dX9_copy_145 : decode cX9_copy 145 = .ok (.iadd, 1) := by decide +kernel
theorem dX9_copy_146 : decode cX9_copy 146 = .ok (.iaload, 1) := by decide +kernel
theorem dX9_copy_147 : decode cX9_copy 147 = .ok (.iastore, 1) := by decide +kernel
theorem dX9_copy_148 : decode cX9_copy 148 = .ok (.iinc 6 1, 3) := by decide +kernel
theorem dX9_copy_151 : decode cX9_copy 151 = .ok (.goto (-31), 3) := by decide +kernel
theorem dX9_copy_154 : decode cX9_copy 154 = .ok (.iconst 0, 1) := by decide +kernel
theorem dX9_copy_155 : decode cX9_copy 155 = .ok (.istore 6, 2) := by decide +kernel
theorem dX9_copy_157 : decode cX9_copy 157 = .ok (.iload 6, 2) := by decide +kernel
theorem dX9_copy_159 : decode cX9_copy 159 = .ok (.iload 5, 2) := by decide +kernel
theorem dX9_copy_161 : decode cX9_copy 161 = .ok (.if_icmp .ge 31, 3) := by decide +kernel
theorem dX9_copy_164 : decode cX9_copy 164 = .ok (.aload_n 0, 1) := by decide +kernel
theorem dX9_copy_165 : decode cX9_copy 165 = .ok (.getfield 104, 3) := by decide +kernel
theorem dX9_copy_168 : decode cX9_copy 168 = .ok (.bipush 60, 2) := by decide +kernel
theorem dX9_copy_170 : decode cX9_copy 170 = .ok (.iload_n 3, 1) := by decide +kernel
theorem dX9_copy_171 : decode cX9_copy 171 = .ok (.imul, 1) := by decide +kernel
theorem dX9_copy_172 : decode cX9_copy 172 = .ok (.iload 4, 2) := by decide +kernel
theorem dX9_copy_174 : decode cX9_copy 174 = .ok (.iadd, 1) := by decide +kernel
theorem dX9_copy_175 : decode cX9_copy 175 = .ok (.iload 6, 2) := by decide +kernel
theorem dX9_copy_177 : decode cX9_copy 177 = .ok (.iadd, 1) := by decide +kernel
theorem dX9_copy_178 : decode cX9_copy 178 = .ok (.aload_n 0, 1) := by decide +kernel
theorem dX9_copy_179 : decode cX9_copy 179 = .ok (.getfield 107, 3) := by decide +kernel
theorem dX9_copy_182 : decode cX9_copy 182 = .ok (.iload 6, 2) := by decide +kernel
theorem dX9_copy_184 : decode cX9_copy 184 = .ok (.iaload, 1) := by decide +kernel
theorem dX9_copy_185 : decode cX9_copy 185 = .ok (.iastore, 1) := by decide +kernel
theorem dX9_copy_186 : decode cX9_copy 186 = .ok (.iinc 6 1, 3) := by decide +kernel
theorem dX9_copy_189 : decode cX9_copy 189 = .ok (.goto (-32), 3) := by decide +kernel
theorem dX9_copy_192 : decode cX9_copy 192 = .ok (.iconst 1, 1) := by decide +kernel
theorem dX9_copy_193 : decode cX9_copy 193 = .ok (.ireturn, 1) := by decide +kernel
theorem dX9_write_0 : decode cX9_write 0 = .ok (.aload_n 0, 1) := by decide +kernel
theorem dX9_write_1 : decode cX9_write 1 = .ok (.iload_n 1, 1) := by decide +kernel
theorem dX9_write_2 : decode cX9_write 2 = .ok (.invokevirtual 151, 3) := by decide +kernel
theorem dX9_write_5 : decode cX9_write 5 = .ok (.ifCond .eq 10, 3) := by decide +kernel
theorem dX9_write_8 : decode cX9_write 8 = .ok (.iload_n 2, 1) := by decide +kernel
theorem dX9_write_9 : decode cX9_write 9 = .ok (.invokestatic 172, 3) := by decide +kernel
theorem dX9_write_12 : decode cX9_write 12 = .ok (.ifCond .ne 6, 3) := by decide +kernel
theorem dX9_write_15 : decode cX9_write 15 = .ok (.bipush (-2), 2) := by decide +kernel
theorem dX9_write_17 : decode cX9_write 17 = .ok (.ireturn, 1) := by decide +kernel
theorem dX9_write_18 : decode cX9_write 18 = .ok (.aload_n 0, 1) := by decide +kernel
theorem dX9_write_19 : decode cX9_write 19 = .ok (.getfield 95, 3) := by decide +kernel
theorem dX9_write_22 : decode cX9_write 22 = .ok (.iload_n 2, 1) := by decide +kernel
theorem dX9_write_23 : decode cX9_write 23 = .ok (.baload, 1) := by decide +kernel
theorem dX9_write_24 : decode cX9_write 24 = .ok (.ifCond .ne 9, 3) := by decide +kernel
theorem dX9_write_27 : decode cX9_write 27 = .ok (.aload_n 0, 1) := by decide +kernel
theorem dX9_write_28 : decode cX9_write 28 = .ok (.iconst 1, 1) := by decide +kernel
theorem dX9_write_29 : decode cX9_write 29 = .ok (.invokevirtual 175, 3) := by decide +kernel
theorem dX9_write_32 : decode cX9_write 32 = .ok (.ireturn, 1) := by decide +kernel
theorem dX9_write_33 : decode cX9_write 33 = .ok (.iconst 0, 1) := by decide +kernel
theorem dX9_write_34 : decode cX9_write 34 = .ok (.istore_n 3, 1) := by decide +kernel
theorem dX9_write_35 : decode cX9_write 35 = .ok (.iload_n 3, 1) := by decide +kernel
theorem dX9_write_36 : decode cX9_write 36 = .ok (.aload_n 0, 1) := by decide +kernel
theorem dX9_write_37 : decode cX9_write 37 = .ok (.getfield 101, 3) := by decide +kernel
theorem dX9_write_40 : decode cX9_write 40 = .ok (.iload_n 2, 1) := by decide +kernel
theorem dX9_write_41 : decode cX9_write 41 = .ok (.iaload, 1) := by decide +kernel
theorem dX9_write_42 : decode cX9_write 42 = .ok (.if_icmp .ge 28, 3) := by decide +kernel
theorem dX9_write_45 : decode cX9_write 45 = .ok (.iload_n 3, 1) := by decide +kernel
theorem dX9_write_46 : decode cX9_write 46 = .ok (.bipush 40, 2) := by decide +kernel
theorem dX9_write_48 : decode cX9_write 48 = .ok (.if_icmp .ge 22, 3) := by decide +kernel
theorem dX9_write_51 : decode cX9_write 51 = .ok (.aload_n 0, 1) := by decide +kernel
theorem dX9_write_52 : decode cX9_write 52 = .ok (.iload_n 2, 1) := by decide +kernel
theorem dX9_write_53 : decode cX9_write 53 = .ok (.iload_n 3, 1) := by decide +kernel
theorem dX9_write_54 : decode cX9_write 54 = .ok (.aload_n 0, 1) := by decide +kernel
theorem dX9_write_55 : decode cX9_write 55 = .ok (.iload_n 3, 1) := by decide +kernel
theorem dX9_write_56 : decode cX9_write 56 = .ok (.iload_n 1, 1) := by decide +kernel
theorem dX9_write_57 : decode cX9_write 57 = .ok (.iconst (-1), 1) := by decide +kernel
theorem dX9_write_58 : decode cX9_write 58 = .ok (.invokevirtual 245, 3) := by decide +kernel
theorem dX9_write_61 : decode cX9_write 61 = .ok (.invokevirtual 337, 3) := by decide +kernel
theorem dX9_write_64 : decode cX9_write 64 = .ok (.iinc 3 1, 3) := by decide +kernel
theorem dX9_write_67 : decode cX9_write 67 = .ok (.goto (-32), 3) := by decide +kernel
theorem dX9_write_70 : decode cX9_write 70 = .ok (.iload_n 3, 1) := by decide +kernel
theorem dX9_write_71 : decode cX9_write 71 = .ok (.ireturn, 1) := by decide +kernel
theorem dX9_sumOf_0 : decode cX9_sumOf 0 = .ok (.aload_n 0, 1) := by decide +kernel
theorem dX9_sumOf_1 : decode cX9_sumOf 1 = .ok (.bipush 39, 2) := by decide +kernel
theorem dX9_sumOf_3 : decode cX9_sumOf 3 = .ok (.invokevirtual 242, 3) := by decide +kernel
theorem dX9_sumOf_6 : decode cX9_sumOf 6 = .ok (.iconst 0, 1) := by decide +kernel
theorem dX9_sumOf_7 : decode cX9_sumOf 7 = .ok (.istore_n 2, 1) := by decide +kernel
theorem dX9_sumOf_8 : decode cX9_sumOf 8 = .ok (.iconst 0, 1) := by decide +kernel
theorem dX9_sumOf_9 : decode cX9_sumOf 9 = .ok (.istore_n 3, 1) := by decide +kernel
theorem dX9_sumOf_10 : decode cX9_sumOf 10 = .ok (.iload_n 3, 1) := by decide +kernel
theorem dX9_sumOf_11 : decode cX9_sumOf 11 = .ok (.aload_n 0, 1) := by decide +kernel
theorem dX9_sumOf_12 : decode cX9_sumOf 12 = .ok (.getfield 169, 3) := by decide +kernel
theorem dX9_sumOf_15 : decode cX9_sumOf 15 = .ok (.if_icmp .ge 26, 3) := by decide +kernel
theorem dX9_sumOf_18 : decode cX9_sumOf 18 = .ok (.iload_n 2, 1) := by decide +kernel
theorem dX9_sumOf_19 : decode cX9_sumOf 19 = .ok (.aload_n 0, 1) := by decide +kernel
theorem dX9_sumOf_20 : decode cX9_sumOf 20 = .ok (.getfield 71, 3) := by decide +kernel
theorem dX9_sumOf_23 : decode cX9_sumOf 23 = .ok (.iload_n 3, 1) := by decide +kernel
theorem dX9_sumOf_24 : decode cX9_sumOf 24 = .ok (.baload, 1) := by decide +kernel
theorem dX9_sumOf_25 : decode cX9_sumOf 25 = .ok (.ifCond .eq 7, 3) := by decide +kernel
theorem dX9_sumOf_28 : decode cX9_sumOf 28 = .ok (.iconst 1, 1) := by decide +kernel
theorem dX9_sumOf_29 : decode cX9_sumOf 29 = .ok (.goto 4, 3) := by decide +kernel
theorem dX9_sumOf_32 : decode cX9_sumOf 32 = .ok (.iconst 0, 1) := by decide +kernel
theorem dX9_sumOf_33 : decode cX9_sumOf 33 = .ok (.iadd, 1) := by decide +kernel
theorem dX9_sumOf_34 : decode cX9_sumOf 34 = .ok (.istore_n 2, 1) := by decide +kernel
theorem dX9_sumOf_35 : decode cX9_sumOf 35 = .ok (.iinc 3 1, 3) := by decide +kernel
theorem dX9_sumOf_38 : decode cX9_sumOf 38 = .ok (.goto (-28), 3) := by decide +kernel
theorem dX9_sumOf_41 : decode cX9_sumOf 41 = .ok (.iload_n 1, 1) := by decide +kernel
theorem dX9_sumOf_42 : decode cX9_sumOf 42 = .ok (.ifCond .ne 10, 3) := by decide +kernel
theorem dX9_sumOf_45 : decode cX9_sumOf 45 = .ok (.aload_n 0, 1) := by decide +kernel
theorem dX9_sumOf_46 : decode cX9_sumOf 46 = .ok (.getfield 128, 3) := by decide +kernel
theorem dX9_sumOf_49 : decode cX9_sumOf 49 = .ok (.goto 16, 3) := by decide +kernel
theorem dX9_sumOf_52 : decode cX9_sumOf 52 = .ok (.iload_n 1, 1) := by decide +kernel
theorem dX9_sumOf_53 : decode cX9_sumOf 53 = .ok (.iconst 1, 1) := by decide +kernel
theorem dX9_sumOf_54 : decode cX9_sumOf 54 = .ok (.if_icmp .ne 10, 3) := by decide +kernel
theorem dX9_sumOf_57 : decode cX9_sumOf 57 = .ok (.aload_n 0, 1) := by decide +kernel
theorem dX9_sumOf_58 : decode cX9_sumOf 58 = .ok (.getfield 134, 3) := by decide +kernel
theorem dX9_sumOf_61 : decode cX9_sumOf 61 = .ok (.goto 4, 3) := by decide +kernel
theorem dX9_sumOf_64 : decode cX9_sumOf 64 = .ok (.iload_n 2, 1) := by decide +kernel
theorem dX9_sumOf_65 : decode cX9_sumOf 65 = .ok (.ireturn, 1) := by decide +kernel
theorem dX9_count_0 : decode cX9_count 0 = .ok (.iload_n 1, 1) := by decide +kernel
theorem dX9_count_1 : decode cX9_count 1 = .ok (.tableswitch 86 0 8 #[51, 51, 57, 57, 66, 51, 71, 76, 81], 51) := by decide +kernel
theorem dX9_count_52 : decode cX9_count 52 = .ok (.aload_n 0, 1) := by decide +kernel
theorem dX9_count_53 : decode cX9_count 53 = .ok (.iload_n 1, 1) := by decide +kernel
theorem dX9_count_54 : decode cX9_count 54 = .ok (.invokevirtual 342, 3) := by decide +kernel
theorem dX9_count_57 : decode cX9_count 57 = .ok (.ireturn, 1) := by decide +kernel
theorem dX9_count_58 : decode cX9_count 58 = .ok (.aload_n 0, 1) := by decide +kernel
theorem dX9_count_59 : decode cX9_count 59 = .ok (.getfield 7, 3) := by decide +kernel
theorem dX9_count_62 : decode cX9_count 62 = .ok (.iload_n 1, 1) := by decide +kernel
theorem dX9_count_63 : decode cX9_count 63 = .ok (.iconst 2, 1) := by decide +kernel
theorem dX9_count_64 : decode cX9_count 64 = .ok (.isub, 1) := by decide +kernel
theorem dX9_count_65 : decode cX9_count 65 = .ok (.iaload, 1) := by decide +kernel
theorem dX9_count_66 : decode cX9_count 66 = .ok (.ireturn, 1) := by decide +kernel
theorem dX9_count_67 : decode cX9_count 67 = .ok (.aload_n 0, 1) := by decide +kernel
theorem dX9_count_68 : decode cX9_count 68 = .ok (.getfield 169, 3) := by decide +kernel
theorem dX9_count_71 : decode cX9_count 71 = .ok (.ireturn, 1) := by decide +kernel
theorem dX9_count_72 : decode cX9_count 72 = .ok (.aload_n 0, 1) := by decide +kernel
theorem dX9_count_73 : decode cX9_count 73 = .ok (.getfield 166, 3) := by decide +kernel
theorem dX9_count_76 : decode cX9_count 76 = .ok (.ireturn, 1) := by decide +kernel
theorem dX9_count_77 : decode cX9_count 77 = .ok (.aload_n 0, 1) := by decide +kernel
theorem dX9_count_78 : decode cX9_count 78 = .ok (.getfield 299, 3) := by decide +kernel
theorem dX9_count_81 : decode cX9_count 81 = .ok (.ireturn, 1) := by decide +kernel
theorem dX9_count_82 : decode cX9_count 82 = .ok (.aload_n 0, 1) := by decide +kernel
theorem dX9_count_83 : decode cX9_count 83 = .ok (.getfield 331, 3) := by decide +kernel
theorem dX9_count_86 : decode cX9_count 86 = .ok (.ireturn, 1) := by decide +kernel
theorem dX9_count_87 : decode cX9_count 87 = .ok (.bipush (-2), 2) := by decide +kernel
theorem dX9_count_89 : decode cX9_count 89 = .ok (.ireturn, 1) := by decide +kernel
theorem dX9_bottleDigest_0 : decode cX9_bottleDigest 0 = .ok (.lload_n 1, 1) := by decide +kernel
theorem dX9_bottleDigest_1 : decode cX9_bottleDigest 1 = .ok (.lstore 4, 2) := by decide +kernel
theorem dX9_bottleDigest_3 : decode cX9_bottleDigest 3 = .ok (.iconst 0, 1) := by decide +kernel
theorem dX9_bottleDigest_4 : decode cX9_bottleDigest 4 = .ok (.istore 6, 2) := by decide +kernel
theorem dX9_bottleDigest_6 : decode cX9_bottleDigest 6 = .ok (.iload 6, 2) := by decide +kernel
theorem dX9_bottleDigest_8 : decode cX9_bottleDigest 8 = .ok (.iconst 4, 1) := by decide +kernel
theorem dX9_bottleDigest_9 : decode cX9_bottleDigest 9 = .ok (.if_icmp .ge 26, 3) := by decide +kernel
theorem dX9_bottleDigest_12 : decode cX9_bottleDigest 12 = .ok (.ldc2_w 345, 3) := by decide +kernel
theorem dX9_bottleDigest_15 : decode cX9_bottleDigest 15 = .ok (.lload 4, 2) := by decide +kernel
theorem dX9_bottleDigest_17 : decode cX9_bottleDigest 17 = .ok (.lmul, 1) := by decide +kernel
theorem dX9_bottleDigest_18 : decode cX9_bottleDigest 18 = .ok (.aload_n 0, 1) := by decide +kernel
theorem dX9_bottleDigest_19 : decode cX9_bottleDigest 19 = .ok (.iload_n 3, 1) := by decide +kernel
theorem dX9_bottleDigest_20 : decode cX9_bottleDigest 20 = .ok (.iload 6, 2) := by decide +kernel
theorem dX9_bottleDigest_22 : decode cX9_bottleDigest 22 = .ok (.invokevirtual 154, 3) := by decide +kernel
theorem dX9_bottleDigest_25 : decode cX9_bottleDigest 25 = .ok (.i2l, 1) := by decide +kernel
theorem dX9_bottleDigest_26 : decode cX9_bottleDigest 26 = .ok (.ladd, 1) := by decide +kernel
theorem dX9_bottleDigest_27 : decode cX9_bottleDigest 27 = .ok (.lstore 4, 2) := by decide +kernel
theorem dX9_bottleDigest_29 : decode cX9_bottleDigest 29 = .ok (.iinc 6 1, 3) := by decide +kernel
theorem dX9_bottleDigest_32 : decode cX9_bottleDigest 32 = .ok (.goto (-26), 3) := by decide +kernel
theorem dX9_bottleDigest_35 : decode cX9_bottleDigest 35 = .ok (.ldc2_w 345, 3) := by decide +kernel
theorem dX9_bottleDigest_38 : decode cX9_bottleDigest 38 = .ok (.lload 4, 2) := by decide +kernel
theorem dX9_bottleDigest_40 : decode cX9_bottleDigest 40 = .ok (.lmul, 1) := by decide +kernel
theorem dX9_bottleDigest_41 : decode cX9_bottleDigest 41 = .ok (.aload_n 0, 1) := by decide +kernel
theorem dX9_bottleDigest_42 : decode cX9_bottleDigest 42 = .ok (.iconst 5, 1) := by decide +kernel
theorem dX9_bottleDigest_43 : decode cX9_bottleDigest 43 = .ok (.iload_n 3, 1) := by decide +kernel
theorem dX9_bottleDigest_44 : decode cX9_bottleDigest 44 = .ok (.iconst (-1), 1) := by decide +kernel
theorem dX9_bottleDigest_45 : decode cX9_bottleDigest 45 = .ok (.invokevirtual 245, 3) := by decide +kernel
theorem dX9_bottleDigest_48 : decode cX9_bottleDigest 48 = .ok (.i2l, 1) := by decide +kernel
theorem dX9_bottleDigest_49 : decode cX9_bottleDigest 49 = .ok (.ladd, 1) := by decide +kernel
theorem dX9_bottleDigest_50 : decode cX9_bottleDigest 50 = .ok (.lstore 4, 2) := by decide +kernel
theorem dX9_bottleDigest_52 : decode cX9_bottleDigest 52 = .ok (.ldc2_w 345, 3) := by decide +kernel
theorem dX9_bottleDigest_55 : decode cX9_bottleDigest 55 = .ok (.lload 4, 2) := by decide +kernel
theorem dX9_bottleDigest_57 : decode cX9_bottleDigest 57 = .ok (.lmul, 1) := by decide +kernel
theorem dX9_bottleDigest_58 : decode cX9_bottleDigest 58 = .ok (.aload_n 0, 1) := by decide +kernel
theorem dX9_bottleDigest_59 : decode cX9_bottleDigest 59 = .ok (.bipush 39, 2) := by decide +kernel
theorem dX9_bottleDigest_61 : decode cX9_bottleDigest 61 = .ok (.iload_n 3, 1) := by decide +kernel
theorem dX9_bottleDigest_62 : decode cX9_bottleDigest 62 = .ok (.iconst (-1), 1) := by decide +kernel
theorem dX9_bottleDigest_63 : decode cX9_bottleDigest 63 = .ok (.invokevirtual 245, 3) := by decide +kernel
theorem dX9_bottleDigest_66 : decode cX9_bottleDigest 66 = .ok (.i2l, 1) := by decide +kernel
theorem dX9_bottleDigest_67 : decode cX9_bottleDigest 67 = .ok (.ladd, 1) := by decide +kernel
theorem dX9_bottleDigest_68 : decode cX9_bottleDigest 68 = .ok (.lstore 4, 2) := by decide +kernel
theorem dX9_bottleDigest_70 : decode cX9_bottleDigest 70 = .ok (.ldc2_w 345, 3) := by decide +kernel
theorem dX9_bottleDigest_73 : decode cX9_bottleDigest 73 = .ok (.lload 4, 2) := by decide +kernel
theorem dX9_bottleDigest_75 : decode cX9_bottleDigest 75 = .ok (.lmul, 1) := by decide +kernel
theorem dX9_bottleDigest_76 : decode cX9_bottleDigest 76 = .ok (.aload_n 0, 1) := by decide +kernel
theorem dX9_bottleDigest_77 : decode cX9_bottleDigest 77 = .ok (.bipush 9, 2) := by decide +kernel
theorem dX9_bottleDigest_79 : decode cX9_bottleDigest 79 = .ok (.iload_n 3, 1) := by decide +kernel
theorem dX9_bottleDigest_80 : decode cX9_bottleDigest 80 = .ok (.invokevirtual 249, 3) := by decide +kernel
theorem dX9_bottleDigest_83 : decode cX9_bottleDigest 83 = .ok (.i2l, 1) := by decide +kernel
theorem dX9_bottleDigest_84 : decode cX9_bottleDigest 84 = .ok (.ladd, 1) := by decide +kernel
theorem dX9_bottleDigest_85 : decode cX9_bottleDigest 85 = .ok (.lstore 4, 2) := by decide +kernel
theorem dX9_bottleDigest_87 : decode cX9_bottleDigest 87 = .ok (.ldc2_w 345, 3) := by decide +kernel
theorem dX9_bottleDigest_90 : decode cX9_bottleDigest 90 = .ok (.lload 4, 2) := by decide +kernel
theorem dX9_bottleDigest_92 : decode cX9_bottleDigest 92 = .ok (.lmul, 1) := by decide +kernel
theorem dX9_bottleDigest_93 : decode cX9_bottleDigest 93 = .ok (.aload_n 0, 1) := by decide +kernel
theorem dX9_bottleDigest_94 : decode cX9_bottleDigest 94 = .ok (.bipush 39, 2) := by decide +kernel
theorem dX9_bottleDigest_96 : decode cX9_bottleDigest 96 = .ok (.iload_n 3, 1) := by decide +kernel
theorem dX9_bottleDigest_97 : decode cX9_bottleDigest 97 = .ok (.invokevirtual 252, 3) := by decide +kernel
theorem dX9_bottleDigest_100 : decode cX9_bottleDigest 100 = .ok (.i2l, 1) := by decide +kernel
theorem dX9_bottleDigest_101 : decode cX9_bottleDigest 101 = .ok (.ladd, 1) := by decide +kernel
theorem dX9_bottleDigest_102 : decode cX9_bottleDigest 102 = .ok (.lstore 4, 2) := by decide +kernel
theorem dX9_bottleDigest_104 : decode cX9_bottleDigest 104 = .ok (.ldc2_w 345, 3) := by decide +kernel
theorem dX9_bottleDigest_107 : decode cX9_bottleDigest 107 = .ok (.lload 4, 2) := by decide +kernel
theorem dX9_bottleDigest_109 : decode cX9_bottleDigest 109 = .ok (.lmul, 1) := by decide +kernel
theorem dX9_bottleDigest_110 : decode cX9_bottleDigest 110 = .ok (.aload_n 0, 1) := by decide +kernel
theorem dX9_bottleDigest_111 : decode cX9_bottleDigest 111 = .ok (.iconst 5, 1) := by decide +kernel
theorem dX9_bottleDigest_112 : decode cX9_bottleDigest 112 = .ok (.iload_n 3, 1) := by decide +kernel
theorem dX9_bottleDigest_113 : decode cX9_bottleDigest 113 = .ok (.bipush 6, 2) := by decide +kernel
theorem dX9_bottleDigest_115 : decode cX9_bottleDigest 115 = .ok (.iconst 0, 1) := by decide +kernel
theorem dX9_bottleDigest_116 : decode cX9_bottleDigest 116 = .ok (.invokevirtual 319, 3) := by decide +kernel
theorem dX9_bottleDigest_119 : decode cX9_bottleDigest 119 = .ok (.ladd, 1) := by decide +kernel
theorem dX9_bottleDigest_120 : decode cX9_bottleDigest 120 = .ok (.lstore 4, 2) := by decide +kernel
theorem dX9_bottleDigest_122 : decode cX9_bottleDigest 122 = .ok (.ldc2_w 345, 3) := by decide +kernel
theorem dX9_bottleDigest_125 : decode cX9_bottleDigest 125 = .ok (.lload 4, 2) := by decide +kernel
theorem dX9_bottleDigest_127 : decode cX9_bottleDigest 127 = .ok (.lmul, 1) := by decide +kernel
theorem dX9_bottleDigest_128 : decode cX9_bottleDigest 128 = .ok (.aload_n 0, 1) := by decide +kernel
theorem dX9_bottleDigest_129 : decode cX9_bottleDigest 129 = .ok (.iconst 5, 1) := by decide +kernel
theorem dX9_bottleDigest_130 : decode cX9_bottleDigest 130 = .ok (.iload_n 3, 1) := by decide +kernel
theorem dX9_bottleDigest_131 : decode cX9_bottleDigest 131 = .ok (.bipush 6, 2) := by decide +kernel
theorem dX9_bottleDigest_133 : decode cX9_bottleDigest 133 = .ok (.iconst 1, 1) := by decide +kernel
theorem dX9_bottleDigest_134 : decode cX9_bottleDigest 134 = .ok (.invokevirtual 319, 3) := by decide +kernel
theorem dX9_bottleDigest_137 : decode cX9_bottleDigest 137 = .ok (.ladd, 1) := by decide +kernel
theorem dX9_bottleDigest_138 : decode cX9_bottleDigest 138 = .ok (.lstore 4, 2) := by decide +kernel
theorem dX9_bottleDigest_140 : decode cX9_bottleDigest 140 = .ok (.ldc2_w 345, 3) := by decide +kernel
theorem dX9_bottleDigest_143 : decode cX9_bottleDigest 143 = .ok (.lload 4, 2) := by decide +kernel
theorem dX9_bottleDigest_145 : decode cX9_bottleDigest 145 = .ok (.lmul, 1) := by decide +kernel
theorem dX9_bottleDigest_146 : decode cX9_bottleDigest 146 = .ok (.aload_n 0, 1) := by decide +kernel
theorem dX9_bottleDigest_147 : decode cX9_bottleDigest 147 = .ok (.bipush 7, 2) := by decide +kernel
theorem dX9_bottleDigest_149 : decode cX9_bottleDigest 149 = .ok (.bipush 20, 2) := by decide +kernel
theorem dX9_bottleDigest_151 : decode cX9_bottleDigest 151 = .ok (.iload_n 3, 1) := by decide +kernel
theorem dX9_bottleDigest_152 : decode cX9_bottleDigest 152 = .ok (.invokevirtual 328, 3) := by decide +kernel
theorem dX9_bottleDigest_155 : decode cX9_bottleDigest 155 = .ok (.i2l, 1) := by decide +kernel
theorem dX9_bottleDigest_156 : decode cX9_bottleDigest 156 = .ok (.ladd, 1) := by decide +kernel
theorem dX9_bottleDigest_157 : decode cX9_bottleDigest 157 = .ok (.lreturn, 1) := by decide +kernel
theorem dX9_dayDigest_0 : decode cX9_dayDigest 0 = .ok (.ldc2_w 345, 3) := by decide +kernel
theorem dX9_dayDigest_3 : decode cX9_dayDigest 3 = .ok (.lload_n 1, 1) := by decide +kernel
theorem dX9_dayDigest_4 : decode cX9_dayDigest 4 = .ok (.lmul, 1) := by decide +kernel
theorem dX9_dayDigest_5 : decode cX9_dayDigest 5 = .ok (.aload_n 0, 1) := by decide +kernel
theorem dX9_dayDigest_6 : decode cX9_dayDigest 6 = .ok (.iload_n 3, 1) := by decide +kernel
theorem dX9_dayDigest_7 : decode cX9_dayDigest 7 = .ok (.invokevirtual 264, 3) := by decide +kernel
theorem dX9_dayDigest_10 : decode cX9_dayDigest 10 = .ok (.i2l, 1) := by decide +kernel
theorem dX9_dayDigest_11 : decode cX9_dayDigest 11 = .ok (.ladd, 1) := by decide +kernel
theorem dX9_dayDigest_12 : decode cX9_dayDigest 12 = .ok (.lstore 4, 2) := by decide +kernel
theorem dX9_dayDigest_14 : decode cX9_dayDigest 14 = .ok (.ldc2_w 345, 3) := by decide +kernel
theorem dX9_dayDigest_17 : decode cX9_dayDigest 17 = .ok (.lload 4, 2) := by decide +kernel
theorem dX9_dayDigest_19 : decode cX9_dayDigest 19 = .ok (.lmul, 1) := by decide +kernel
theorem dX9_dayDigest_20 : decode cX9_dayDigest 20 = .ok (.aload_n 0, 1) := by decide +kernel
theorem dX9_dayDigest_21 : decode cX9_dayDigest 21 = .ok (.iload_n 3, 1) := by decide +kernel
theorem dX9_dayDigest_22 : decode cX9_dayDigest 22 = .ok (.invokevirtual 267, 3) := by decide +kernel
theorem dX9_dayDigest_25 : decode cX9_dayDigest 25 = .ok (.i2l, 1) := by decide +kernel
theorem dX9_dayDigest_26 : decode cX9_dayDigest 26 = .ok (.ladd, 1) := by decide +kernel
theorem dX9_dayDigest_27 : decode cX9_dayDigest 27 = .ok (.lstore 4, 2) := by decide +kernel
theorem dX9_dayDigest_29 : decode cX9_dayDigest 29 = .ok (.ldc2_w 345, 3) := by decide +kernel
theorem dX9_dayDigest_32 : decode cX9_dayDigest 32 = .ok (.lload 4, 2) := by decide +kernel
theorem dX9_dayDigest_34 : decode cX9_dayDigest 34 = .ok (.lmul, 1) := by decide +kernel
theorem dX9_dayDigest_35 : decode cX9_dayDigest 35 = .ok (.aload_n 0, 1) := by decide +kernel
theorem dX9_dayDigest_36 : decode cX9_dayDigest 36 = .ok (.iload_n 3, 1) := by decide +kernel
theorem dX9_dayDigest_37 : decode cX9_dayDigest 37 = .ok (.iconst (-1), 1) := by decide +kernel
theorem dX9_dayDigest_38 : decode cX9_dayDigest 38 = .ok (.invokevirtual 283, 3) := by decide +kernel
theorem dX9_dayDigest_41 : decode cX9_dayDigest 41 = .ok (.i2l, 1) := by decide +kernel
theorem dX9_dayDigest_42 : decode cX9_dayDigest 42 = .ok (.ladd, 1) := by decide +kernel
theorem dX9_dayDigest_43 : decode cX9_dayDigest 43 = .ok (.lstore 4, 2) := by decide +kernel
theorem dX9_dayDigest_45 : decode cX9_dayDigest 45 = .ok (.ldc2_w 345, 3) := by decide +kernel
theorem dX9_dayDigest_48 : decode cX9_dayDigest 48 = .ok (.lload 4, 2) := by decide +kernel
theorem dX9_dayDigest_50 : decode cX9_dayDigest 50 = .ok (.lmul, 1) := by decide +kernel
theorem dX9_dayDigest_51 : decode cX9_dayDigest 51 = .ok (.aload_n 0, 1) := by decide +kernel
theorem dX9_dayDigest_52 : decode cX9_dayDigest 52 = .ok (.iload_n 3, 1) := by decide +kernel
theorem dX9_dayDigest_53 : decode cX9_dayDigest 53 = .ok (.iconst 0, 1) := by decide +kernel
theorem dX9_dayDigest_54 : decode cX9_dayDigest 54 = .ok (.invokevirtual 283, 3) := by decide +kernel
theorem dX9_dayDigest_57 : decode cX9_dayDigest 57 = .ok (.i2l, 1) := by decide +kernel
theorem dX9_dayDigest_58 : decode cX9_dayDigest 58 = .ok (.ladd, 1) := by decide +kernel
theorem dX9_dayDigest_59 : decode cX9_dayDigest 59 = .ok (.lstore 4, 2) := by decide +kernel
theorem dX9_dayDigest_61 : decode cX9_dayDigest 61 = .ok (.aload_n 0, 1) := by decide +kernel
theorem dX9_dayDigest_62 : decode cX9_dayDigest 62 = .ok (.iload_n 3, 1) := by decide +kernel
theorem dX9_dayDigest_63 : decode cX9_dayDigest 63 = .ok (.invokevirtual 290, 3) := by decide +kernel
theorem dX9_dayDigest_66 : decode cX9_dayDigest 66 = .ok (.istore 6, 2) := by decide +kernel
theorem dX9_dayDigest_68 : decode cX9_dayDigest 68 = .ok (.ldc2_w 345, 3) := by decide +kernel
theorem dX9_dayDigest_71 : decode cX9_dayDigest 71 = .ok (.lload 4, 2) := by decide +kernel
theorem dX9_dayDigest_73 : decode cX9_dayDigest 73 = .ok (.lmul, 1) := by decide +kernel
theorem dX9_dayDigest_74 : decode cX9_dayDigest 74 = .ok (.iload 6, 2) := by decide +kernel
theorem dX9_dayDigest_76 : decode cX9_dayDigest 76 = .ok (.i2l, 1) := by decide +kernel
theorem dX9_dayDigest_77 : decode cX9_dayDigest 77 = .ok (.ladd, 1) := by decide +kernel
theorem dX9_dayDigest_78 : decode cX9_dayDigest 78 = .ok (.lstore 4, 2) := by decide +kernel
theorem dX9_dayDigest_80 : decode cX9_dayDigest 80 = .ok (.ldc2_w 345, 3) := by decide +kernel
theorem dX9_dayDigest_83 : decode cX9_dayDigest 83 = .ok (.lload 4, 2) := by decide +kernel
theorem dX9_dayDigest_85 : decode cX9_dayDigest 85 = .ok (.lmul, 1) := by decide +kernel
theorem dX9_dayDigest_86 : decode cX9_dayDigest 86 = .ok (.aload_n 0, 1) := by decide +kernel
theorem dX9_dayDigest_87 : decode cX9_dayDigest 87 = .ok (.iload 6, 2) := by decide +kernel
theorem dX9_dayDigest_89 : decode cX9_dayDigest 89 = .ok (.iconst 0, 1) := by decide +kernel
theorem dX9_dayDigest_90 : decode cX9_dayDigest 90 = .ok (.invokevirtual 293, 3) := by decide +kernel
theorem dX9_dayDigest_93 : decode cX9_dayDigest 93 = .ok (.i2l, 1) := by decide +kernel
theorem dX9_dayDigest_94 : decode cX9_dayDigest 94 = .ok (.ladd, 1) := by decide +kernel
theorem dX9_dayDigest_95 : decode cX9_dayDigest 95 = .ok (.lstore 4, 2) := by decide +kernel
theorem dX9_dayDigest_97 : decode cX9_dayDigest 97 = .ok (.ldc2_w 345, 3) := by decide +kernel
theorem dX9_dayDigest_100 : decode cX9_dayDigest 100 = .ok (.lload 4, 2) := by decide +kernel
theorem dX9_dayDigest_102 : decode cX9_dayDigest 102 = .ok (.lmul, 1) := by decide +kernel
theorem dX9_dayDigest_103 : decode cX9_dayDigest 103 = .ok (.aload_n 0, 1) := by decide +kernel
theorem dX9_dayDigest_104 : decode cX9_dayDigest 104 = .ok (.iload_n 3, 1) := by decide +kernel
theorem dX9_dayDigest_105 : decode cX9_dayDigest 105 = .ok (.invokevirtual 312, 3) := by decide +kernel
theorem dX9_dayDigest_108 : decode cX9_dayDigest 108 = .ok (.i2l, 1) := by decide +kernel
theorem dX9_dayDigest_109 : decode cX9_dayDigest 109 = .ok (.ladd, 1) := by decide +kernel
theorem dX9_dayDigest_110 : decode cX9_dayDigest 110 = .ok (.lreturn, 1) := by decide +kernel
theorem dX9_digest_0 : decode cX9_digest 0 = .ok (.ldc2_w 347, 3) := by decide +kernel
theorem dX9_digest_3 : decode cX9_digest 3 = .ok (.lstore_n 1, 1) := by decide +kernel
theorem dX9_digest_4 : decode cX9_digest 4 = .ok (.iconst 0, 1) := by decide +kernel
theorem dX9_digest_5 : decode cX9_digest 5 = .ok (.istore_n 3, 1) := by decide +kernel
theorem dX9_digest_6 : decode cX9_digest 6 = .ok (.iload_n 3, 1) := by decide +kernel
theorem dX9_digest_7 : decode cX9_digest 7 = .ok (.bipush 8, 2) := by decide +kernel
theorem dX9_digest_9 : decode cX9_digest 9 = .ok (.if_icmp .ge 22, 3) := by decide +kernel
theorem dX9_digest_12 : decode cX9_digest 12 = .ok (.ldc2_w 345, 3) := by decide +kernel
theorem dX9_digest_15 : decode cX9_digest 15 = .ok (.lload_n 1, 1) := by decide +kernel
theorem dX9_digest_16 : decode cX9_digest 16 = .ok (.lmul, 1) := by decide +kernel
theorem dX9_digest_17 : decode cX9_digest 17 = .ok (.aload_n 0, 1) := by decide +kernel
theorem dX9_digest_18 : decode cX9_digest 18 = .ok (.iload_n 3, 1) := by decide +kernel
theorem dX9_digest_19 : decode cX9_digest 19 = .ok (.invokevirtual 349, 3) := by decide +kernel
theorem dX9_digest_22 : decode cX9_digest 22 = .ok (.i2l, 1) := by decide +kernel
theorem dX9_digest_23 : decode cX9_digest 23 = .ok (.ladd, 1) := by decide +kernel
theorem dX9_digest_24 : decode cX9_digest 24 = .ok (.lstore_n 1, 1) := by decide +kernel
theorem dX9_digest_25 : decode cX9_digest 25 = .ok (.iinc 3 1, 3) := by decide +kernel
theorem dX9_digest_28 : decode cX9_digest 28 = .ok (.goto (-22), 3) := by decide +kernel
theorem dX9_digest_31 : decode cX9_digest 31 = .ok (.ldc2_w 345, 3) := by decide +kernel
theorem dX9_digest_34 : decode cX9_digest 34 = .ok (.lload_n 1, 1) := by decide +kernel
theorem dX9_digest_35 : decode cX9_digest 35 = .ok (.lmul, 1) := by decide +kernel
theorem dX9_digest_36 : decode cX9_digest 36 = .ok (.aload_n 0, 1) := by decide +kernel
theorem dX9_digest_37 : decode cX9_digest 37 = .ok (.iconst 0, 1) := by decide +kernel
theorem dX9_digest_38 : decode cX9_digest 38 = .ok (.invokevirtual 144, 3) := by decide +kernel
theorem dX9_digest_41 : decode cX9_digest 41 = .ok (.i2l, 1) := by decide +kernel
theorem dX9_digest_42 : decode cX9_digest 42 = .ok (.ladd, 1) := by decide +kernel
theorem dX9_digest_43 : decode cX9_digest 43 = .ok (.lstore_n 1, 1) := by decide +kernel
theorem dX9_digest_44 : decode cX9_digest 44 = .ok (.ldc2_w 345, 3) := by decide +kernel
theorem dX9_digest_47 : decode cX9_digest 47 = .ok (.lload_n 1, 1) := by decide +kernel
theorem dX9_digest_48 : decode cX9_digest 48 = .ok (.lmul, 1) := by decide +kernel
theorem dX9_digest_49 : decode cX9_digest 49 = .ok (.aload_n 0, 1) := by decide +kernel
theorem dX9_digest_50 : decode cX9_digest 50 = .ok (.iconst 1, 1) := by decide +kernel
theorem dX9_digest_51 : decode cX9_digest 51 = .ok (.invokevirtual 144, 3) := by decide +kernel
theorem dX9_digest_54 : decode cX9_digest 54 = .ok (.i2l, 1) := by decide +kernel
theorem dX9_digest_55 : decode cX9_digest 55 = .ok (.ladd, 1) := by decide +kernel
theorem dX9_digest_56 : decode cX9_digest 56 = .ok (.lstore_n 1, 1) := by decide +kernel
theorem dX9_digest_57 : decode cX9_digest 57 = .ok (.iconst 0, 1) := by decide +kernel
theorem dX9_digest_58 : decode cX9_digest 58 = .ok (.istore_n 3, 1) := by decide +kernel
theorem dX9_digest_59 : decode cX9_digest 59 = .ok (.iload_n 3, 1) := by decide +kernel
theorem dX9_digest_60 : decode cX9_digest 60 = .ok (.aload_n 0, 1) := by decide +kernel
theorem dX9_digest_61 : decode cX9_digest 61 = .ok (.getfield 128, 3) := by decide +kernel
theorem dX9_digest_64 : decode cX9_digest 64 = .ok (.if_icmp .ge 16, 3) := by decide +kernel
theorem dX9_digest_67 : decode cX9_digest 67 = .ok (.aload_n 0, 1) := by decide +kernel
theorem dX9_digest_68 : decode cX9_digest 68 = .ok (.lload_n 1, 1) := by decide +kernel
theorem dX9_digest_69 : decode cX9_digest 69 = .ok (.iload_n 3, 1) := by decide +kernel
theorem dX9_digest_70 : decode cX9_digest 70 = .ok (.invokevirtual 352, 3) := by decide +kernel
theorem dX9_digest_73 : decode cX9_digest 73 = .ok (.lstore_n 1, 1) := by decide +kernel
theorem dX9_digest_74 : decode cX9_digest 74 = .ok (.iinc 3 1, 3) := by decide +kernel
theorem dX9_digest_77 : decode cX9_digest 77 = .ok (.goto (-18), 3) := by decide +kernel
theorem dX9_digest_80 : decode cX9_digest 80 = .ok (.iconst 0, 1) := by decide +kernel
theorem dX9_digest_81 : decode cX9_digest 81 = .ok (.istore_n 3, 1) := by decide +kernel
theorem dX9_digest_82 : decode cX9_digest 82 = .ok (.iload_n 3, 1) := by decide +kernel
theorem dX9_digest_83 : decode cX9_digest 83 = .ok (.aload_n 0, 1) := by decide +kernel
theorem dX9_digest_84 : decode cX9_digest 84 = .ok (.getfield 134, 3) := by decide +kernel
theorem dX9_digest_87 : decode cX9_digest 87 = .ok (.if_icmp .ge 23, 3) := by decide +kernel
theorem dX9_digest_90 : decode cX9_digest 90 = .ok (.ldc2_w 345, 3) := by decide +kernel
theorem dX9_digest_93 : decode cX9_digest 93 = .ok (.lload_n 1, 1) := by decide +kernel
theorem dX9_digest_94 : decode cX9_digest 94 = .ok (.lmul, 1) := by decide +kernel
theorem dX9_digest_95 : decode cX9_digest 95 = .ok (.aload_n 0, 1) := by decide +kernel
theorem dX9_digest_96 : decode cX9_digest 96 = .ok (.getfield 28, 3) := by decide +kernel
theorem dX9_digest_99 : decode cX9_digest 99 = .ok (.iload_n 3, 1) := by decide +kernel
theorem dX9_digest_100 : decode cX9_digest 100 = .ok (.iaload, 1) := by decide +kernel
theorem dX9_digest_101 : decode cX9_digest 101 = .ok (.i2l, 1) := by decide +kernel
theorem dX9_digest_102 : decode cX9_digest 102 = .ok (.ladd, 1) := by decide +kernel
theorem dX9_digest_103 : decode cX9_digest 103 = .ok (.lstore_n 1, 1) := by decide +kernel
theorem dX9_digest_104 : decode cX9_digest 104 = .ok (.iinc 3 1, 3) := by decide +kernel
theorem dX9_digest_107 : decode cX9_digest 107 = .ok (.goto (-25), 3) := by decide +kernel
theorem dX9_digest_110 : decode cX9_digest 110 = .ok (.iconst 0, 1) := by decide +kernel
theorem dX9_digest_111 : decode cX9_digest 111 = .ok (.istore_n 3, 1) := by decide +kernel
theorem dX9_digest_112 : decode cX9_digest 112 = .ok (.iload_n 3, 1) := by decide +kernel
theorem dX9_digest_113 : decode cX9_digest 113 = .ok (.bipush 8, 2) := by decide +kernel
theorem dX9_digest_115 : decode cX9_digest 115 = .ok (.if_icmp .ge 53, 3) := by decide +kernel
theorem dX9_digest_118 : decode cX9_digest 118 = .ok (.ldc2_w 345, 3) := by decide +kernel
theorem dX9_digest_121 : decode cX9_digest 121 = .ok (.lload_n 1, 1) := by decide +kernel
theorem dX9_digest_122 : decode cX9_digest 122 = .ok (.lmul, 1) := by decide +kernel
theorem dX9_digest_123 : decode cX9_digest 123 = .ok (.aload_n 0, 1) := by decide +kernel
theorem dX9_digest_124 : decode cX9_digest 124 = .ok (.bipush 39, 2) := by decide +kernel
theorem dX9_digest_126 : decode cX9_digest 126 = .ok (.iload_n 3, 1) := by decide +kernel
theorem dX9_digest_127 : decode cX9_digest 127 = .ok (.invokevirtual 258, 3) := by decide +kernel
theorem dX9_digest_130 : decode cX9_digest 130 = .ok (.i2l, 1) := by decide +kernel
theorem dX9_digest_131 : decode cX9_digest 131 = .ok (.ladd, 1) := by decide +kernel
theorem dX9_digest_132 : decode cX9_digest 132 = .ok (.lstore_n 1, 1) := by decide +kernel
theorem dX9_digest_133 : decode cX9_digest 133 = .ok (.ldc2_w 345, 3) := by decide +kernel
theorem dX9_digest_136 : decode cX9_digest 136 = .ok (.lload_n 1, 1) := by decide +kernel
theorem dX9_digest_137 : decode cX9_digest 137 = .ok (.lmul, 1) := by decide +kernel
theorem dX9_digest_138 : decode cX9_digest 138 = .ok (.aload_n 0, 1) := by decide +kernel
theorem dX9_digest_139 : decode cX9_digest 139 = .ok (.bipush 39, 2) := by decide +kernel
theorem dX9_digest_141 : decode cX9_digest 141 = .ok (.iload_n 3, 1) := by decide +kernel
theorem dX9_digest_142 : decode cX9_digest 142 = .ok (.invokevirtual 261, 3) := by decide +kernel
theorem dX9_digest_145 : decode cX9_digest 145 = .ok (.i2l, 1) := by decide +kernel
theorem dX9_digest_146 : decode cX9_digest 146 = .ok (.ladd, 1) := by decide +kernel
theorem dX9_digest_147 : decode cX9_digest 147 = .ok (.lstore_n 1, 1) := by decide +kernel
theorem dX9_digest_148 : decode cX9_digest 148 = .ok (.ldc2_w 345, 3) := by decide +kernel
theorem dX9_digest_151 : decode cX9_digest 151 = .ok (.lload_n 1, 1) := by decide +kernel
theorem dX9_digest_152 : decode cX9_digest 152 = .ok (.lmul, 1) := by decide +kernel
theorem dX9_digest_153 : decode cX9_digest 153 = .ok (.aload_n 0, 1) := by decide +kernel
theorem dX9_digest_154 : decode cX9_digest 154 = .ok (.iconst 5, 1) := by decide +kernel
theorem dX9_digest_155 : decode cX9_digest 155 = .ok (.iload_n 3, 1) := by decide +kernel
theorem dX9_digest_156 : decode cX9_digest 156 = .ok (.invokevirtual 296, 3) := by decide +kernel
theorem dX9_digest_159 : decode cX9_digest 159 = .ok (.i2l, 1) := by decide +kernel
theorem dX9_digest_160 : decode cX9_digest 160 = .ok (.ladd, 1) := by decide +kernel
theorem dX9_digest_161 : decode cX9_digest 161 = .ok (.lstore_n 1, 1) := by decide +kernel
theorem dX9_digest_162 : decode cX9_digest 162 = .ok (.iinc 3 1, 3) := by decide +kernel
theorem dX9_digest_165 : decode cX9_digest 165 = .ok (.goto (-53), 3) := by decide +kernel
theorem dX9_digest_168 : decode cX9_digest 168 = .ok (.iconst 0, 1) := by decide +kernel
theorem dX9_digest_169 : decode cX9_digest 169 = .ok (.istore_n 3, 1) := by decide +kernel
theorem dX9_digest_170 : decode cX9_digest 170 = .ok (.iload_n 3, 1) := by decide +kernel
theorem dX9_digest_171 : decode cX9_digest 171 = .ok (.bipush 6, 2) := by decide +kernel
theorem dX9_digest_173 : decode cX9_digest 173 = .ok (.if_icmp .ge 24, 3) := by decide +kernel
theorem dX9_digest_176 : decode cX9_digest 176 = .ok (.ldc2_w 345, 3) := by decide +kernel
theorem dX9_digest_179 : decode cX9_digest 179 = .ok (.lload_n 1, 1) := by decide +kernel
theorem dX9_digest_180 : decode cX9_digest 180 = .ok (.lmul, 1) := by decide +kernel
theorem dX9_digest_181 : decode cX9_digest 181 = .ok (.aload_n 0, 1) := by decide +kernel
theorem dX9_digest_182 : decode cX9_digest 182 = .ok (.bipush 9, 2) := by decide +kernel
theorem dX9_digest_184 : decode cX9_digest 184 = .ok (.iload_n 3, 1) := by decide +kernel
theorem dX9_digest_185 : decode cX9_digest 185 = .ok (.invokevirtual 255, 3) := by decide +kernel
theorem dX9_digest_188 : decode cX9_digest 188 = .ok (.i2l, 1) := by decide +kernel
theorem dX9_digest_189 : decode cX9_digest 189 = .ok (.ladd, 1) := by decide +kernel
theorem dX9_digest_190 : decode cX9_digest 190 = .ok (.lstore_n 1, 1) := by decide +kernel
theorem dX9_digest_191 : decode cX9_digest 191 = .ok (.iinc 3 1, 3) := by decide +kernel
theorem dX9_digest_194 : decode cX9_digest 194 = .ok (.goto (-24), 3) := by decide +kernel
theorem dX9_digest_197 : decode cX9_digest 197 = .ok (.aload_n 0, 1) := by decide +kernel
theorem dX9_digest_198 : decode cX9_digest 198 = .ok (.lload_n 1, 1) := by decide +kernel
theorem dX9_digest_199 : decode cX9_digest 199 = .ok (.iconst 0, 1) := by decide +kernel
theorem dX9_digest_200 : decode cX9_digest 200 = .ok (.invokevirtual 356, 3) := by decide +kernel
theorem dX9_digest_203 : decode cX9_digest 203 = .ok (.lstore_n 1, 1) := by decide +kernel
theorem dX9_digest_204 : decode cX9_digest 204 = .ok (.aload_n 0, 1) := by decide +kernel
theorem dX9_digest_205 : decode cX9_digest 205 = .ok (.lload_n 1, 1) := by decide +kernel
theorem dX9_digest_206 : decode cX9_digest 206 = .ok (.iconst 5, 1) := by decide +kernel
theorem dX9_digest_207 : decode cX9_digest 207 = .ok (.invokevirtual 356, 3) := by decide +kernel
theorem dX9_digest_210 : decode cX9_digest 210 = .ok (.lstore_n 1, 1) := by decide +kernel
theorem dX9_digest_211 : decode cX9_digest 211 = .ok (.aload_n 0, 1) := by decide +kernel
theorem dX9_digest_212 : decode cX9_digest 212 = .ok (.lload_n 1, 1) := by decide +kernel
theorem dX9_digest_213 : decode cX9_digest 213 = .ok (.bipush 39, 2) := by decide +kernel
theorem dX9_digest_215 : decode cX9_digest 215 = .ok (.invokevirtual 356, 3) := by decide +kernel
theorem dX9_digest_218 : decode cX9_digest 218 = .ok (.lstore_n 1, 1) := by decide +kernel
theorem dX9_digest_219 : decode cX9_digest 219 = .ok (.iconst 0, 1) := by decide +kernel
theorem dX9_digest_220 : decode cX9_digest 220 = .ok (.istore_n 3, 1) := by decide +kernel
theorem dX9_digest_221 : decode cX9_digest 221 = .ok (.iload_n 3, 1) := by decide +kernel
theorem dX9_digest_222 : decode cX9_digest 222 = .ok (.aload_n 0, 1) := by decide +kernel
theorem dX9_digest_223 : decode cX9_digest 223 = .ok (.getfield 169, 3) := by decide +kernel
theorem dX9_digest_226 : decode cX9_digest 226 = .ok (.if_icmp .ge 22, 3) := by decide +kernel
theorem dX9_digest_229 : decode cX9_digest 229 = .ok (.ldc2_w 345, 3) := by decide +kernel
theorem dX9_digest_232 : decode cX9_digest 232 = .ok (.lload_n 1, 1) := by decide +kernel
theorem dX9_digest_233 : decode cX9_digest 233 = .ok (.lmul, 1) := by decide +kernel
theorem dX9_digest_234 : decode cX9_digest 234 = .ok (.aload_n 0, 1) := by decide +kernel
theorem dX9_digest_235 : decode cX9_digest 235 = .ok (.iload_n 3, 1) := by decide +kernel
theorem dX9_digest_236 : decode cX9_digest 236 = .ok (.invokevirtual 270, 3) := by decide +kernel
theorem dX9_digest_239 : decode cX9_digest 239 = .ok (.i2l, 1) := by decide +kernel
theorem dX9_digest_240 : decode cX9_digest 240 = .ok (.ladd, 1) := by decide +kernel
theorem dX9_digest_241 : decode cX9_digest 241 = .ok (.lstore_n 1, 1) := by decide +kernel
theorem dX9_digest_242 : decode cX9_digest 242 = .ok (.iinc 3 1, 3) := by decide +kernel
theorem dX9_digest_245 : decode cX9_digest 245 = .ok (.goto (-24), 3) := by decide +kernel
theorem dX9_digest_248 : decode cX9_digest 248 = .ok (.ldc2_w 345, 3) := by decide +kernel
theorem dX9_digest_251 : decode cX9_digest 251 = .ok (.lload_n 1, 1) := by decide +kernel
theorem dX9_digest_252 : decode cX9_digest 252 = .ok (.lmul, 1) := by decide +kernel
theorem dX9_digest_253 : decode cX9_digest 253 = .ok (.aload_n 0, 1) := by decide +kernel
theorem dX9_digest_254 : decode cX9_digest 254 = .ok (.invokevirtual 306, 3) := by decide +kernel
theorem dX9_digest_257 : decode cX9_digest 257 = .ok (.i2l, 1) := by decide +kernel
theorem dX9_digest_258 : decode cX9_digest 258 = .ok (.ladd, 1) := by decide +kernel
theorem dX9_digest_259 : decode cX9_digest 259 = .ok (.lstore_n 1, 1) := by decide +kernel
theorem dX9_digest_260 : decode cX9_digest 260 = .ok (.ldc2_w 345, 3) := by decide +kernel
theorem dX9_digest_263 : decode cX9_digest 263 = .ok (.lload_n 1, 1) := by decide +kernel
theorem dX9_digest_264 : decode cX9_digest 264 = .ok (.lmul, 1) := by decide +kernel
theorem dX9_digest_265 : decode cX9_digest 265 = .ok (.aload_n 0, 1) := by decide +kernel
theorem dX9_digest_266 : decode cX9_digest 266 = .ok (.iconst 0, 1) := by decide +kernel
theorem dX9_digest_267 : decode cX9_digest 267 = .ok (.invokevirtual 309, 3) := by decide +kernel
theorem dX9_digest_270 : decode cX9_digest 270 = .ok (.i2l, 1) := by decide +kernel
theorem dX9_digest_271 : decode cX9_digest 271 = .ok (.ladd, 1) := by decide +kernel
theorem dX9_digest_272 : decode cX9_digest 272 = .ok (.lstore_n 1, 1) := by decide +kernel
theorem dX9_digest_273 : decode cX9_digest 273 = .ok (.ldc2_w 345, 3) := by decide +kernel
theorem dX9_digest_276 : decode cX9_digest 276 = .ok (.lload_n 1, 1) := by decide +kernel
theorem dX9_digest_277 : decode cX9_digest 277 = .ok (.lmul, 1) := by decide +kernel
theorem dX9_digest_278 : decode cX9_digest 278 = .ok (.aload_n 0, 1) := by decide +kernel
theorem dX9_digest_279 : decode cX9_digest 279 = .ok (.iconst 1, 1) := by decide +kernel
theorem dX9_digest_280 : decode cX9_digest 280 = .ok (.invokevirtual 309, 3) := by decide +kernel
theorem dX9_digest_283 : decode cX9_digest 283 = .ok (.i2l, 1) := by decide +kernel
theorem dX9_digest_284 : decode cX9_digest 284 = .ok (.ladd, 1) := by decide +kernel
theorem dX9_digest_285 : decode cX9_digest 285 = .ok (.lstore_n 1, 1) := by decide +kernel
theorem dX9_digest_286 : decode cX9_digest 286 = .ok (.ldc2_w 345, 3) := by decide +kernel
theorem dX9_digest_289 : decode cX9_digest 289 = .ok (.lload_n 1, 1) := by decide +kernel
theorem dX9_digest_290 : decode cX9_digest 290 = .ok (.lmul, 1) := by decide +kernel
theorem dX9_digest_291 : decode cX9_digest 291 = .ok (.aload_n 0, 1) := by decide +kernel
theorem dX9_digest_292 : decode cX9_digest 292 = .ok (.bipush 7, 2) := by decide +kernel
theorem dX9_digest_294 : decode cX9_digest 294 = .ok (.bipush 20, 2) := by decide +kernel
theorem dX9_digest_296 : decode cX9_digest 296 = .ok (.iconst (-1), 1) := by decide +kernel
theorem dX9_digest_297 : decode cX9_digest 297 = .ok (.invokevirtual 328, 3) := by decide +kernel
theorem dX9_digest_300 : decode cX9_digest 300 = .ok (.i2l, 1) := by decide +kernel
theorem dX9_digest_301 : decode cX9_digest 301 = .ok (.ladd, 1) := by decide +kernel
theorem dX9_digest_302 : decode cX9_digest 302 = .ok (.lreturn, 1) := by decide +kernel
end
section
theorem dL_law_0 : decode cL_law 0 = .ok (.new 7, 3) := by decide +kernel
theorem dL_law_3 : decode cL_law 3 = .ok (.dup, 1) := by decide +kernel
theorem dL_law_4 : decode cL_law 4 = .ok (.invokespecial 9, 3) := by decide +kernel
theorem dL_law_7 : decode cL_law 7 = .ok (.astore_n 1, 1) := by decide +kernel
theorem dL_law_8 : decode cL_law 8 = .ok (.new 10, 3) := by decide +kernel
theorem dL_law_11 : decode cL_law 11 = .ok (.dup, 1) := by decide +kernel
theorem dL_law_12 : decode cL_law 12 = .ok (.invokespecial 12, 3) := by decide +kernel
theorem dL_law_15 : decode cL_law 15 = .ok (.astore_n 2, 1) := by decide +kernel
theorem dL_law_16 : decode cL_law 16 = .ok (.iconst 0, 1) := by decide +kernel
theorem dL_law_17 : decode cL_law 17 = .ok (.istore_n 3, 1) := by decide +kernel
theorem dL_law_18 : decode cL_law 18 = .ok (.iload_n 3, 1) := by decide +kernel
theorem dL_law_19 : decode cL_law 19 = .ok (.aload_n 0, 1) := by decide +kernel
theorem dL_law_20 : decode cL_law 20 = .ok (.arraylength, 1) := by decide +kernel
theorem dL_law_21 : decode cL_law 21 = .ok (.bipush 6, 2) := by decide +kernel
theorem dL_law_23 : decode cL_law 23 = .ok (.isub, 1) := by decide +kernel
theorem dL_law_24 : decode cL_law 24 = .ok (.if_icmp .gt 1368, 3) := by decide +kernel
theorem dL_law_27 : decode cL_law 27 = .ok (.aload_n 0, 1) := by decide +kernel
theorem dL_law_28 : decode cL_law 28 = .ok (.iload_n 3, 1) := by decide +kernel
theorem dL_law_29 : decode cL_law 29 = .ok (.iaload, 1) := by decide +kernel
theorem dL_law_30 : decode cL_law 30 = .ok (.bipush 63, 2) := by decide +kernel
theorem dL_law_32 : decode cL_law 32 = .ok (.iand, 1) := by decide +kernel
theorem dL_law_33 : decode cL_law 33 = .ok (.tableswitch 1353 0 37 #[167, 200, 223, 246, 269, 302, 325, 348, 371, 424, 447, 470, 513, 546, 579, 612, 645, 678, 701, 724, 747, 780, 813, 846, 889, 902, 915, 938, 961, 1015, 1058, 1101, 1124, 1177, 1220, 1283, 1316, 1339], 167) := by decide +kernel
theorem dL_law_200 : decode cL_law 200 = .ok (.aload_n 1, 1) := by decide +kernel
theorem dL_law_201 : decode cL_law 201 = .ok (.aload_n 0, 1) := by decide +kernel
theorem dL_law_202 : decode cL_law 202 = .ok (.iload_n 3, 1) := by decide +kernel
theorem dL_law_203 : decode cL_law 203 = .ok (.iconst 1, 1) := by decide +kernel
theorem dL_law_204 : decode cL_law 204 = .ok (.iadd, 1) := by decide +kernel
theorem dL_law_205 : decode cL_law 205 = .ok (.iaload, 1) := by decide +kernel
theorem dL_law_206 : decode cL_law 206 = .ok (.aload_n 0, 1) := by decide +kernel
theorem dL_law_207 : decode cL_law 207 = .ok (.iload_n 3, 1) := by decide +kernel
theorem dL_law_208 : decode cL_law 208 = .ok (.iconst 2, 1) := by decide +kernel
theorem dL_law_209 : decode cL_law 209 = .ok (.iadd, 1) := by decide +kernel
theorem dL_law_210 : decode cL_law 210 = .ok (.iaload, 1) := by decide +kernel
theorem dL_law_211 : decode cL_law 211 = .ok (.invokevirtual 13, 3) := by decide +kernel
theorem dL_law_214 : decode cL_law 214 = .ok (.aload_n 2, 1) := by decide +kernel
theorem dL_law_215 : decode cL_law 215 = .ok (.aload_n 0, 1) := by decide +kernel
theorem dL_law_216 : decode cL_law 216 = .ok (.iload_n 3, 1) := by decide +kernel
theorem dL_law_217 : decode cL_law 217 = .ok (.iconst 1, 1) := by decide +kernel
theorem dL_law_218 : decode cL_law 218 = .ok (.iadd, 1) := by decide +kernel
theorem dL_law_219 : decode cL_law 219 = .ok (.iaload, 1) := by decide +kernel
theorem dL_law_220 : decode cL_law 220 = .ok (.aload_n 0, 1) := by decide +kernel
theorem dL_law_221 : decode cL_law 221 = .ok (.iload_n 3, 1) := by decide +kernel
theorem dL_law_222 : decode cL_law 222 = .ok (.iconst 2, 1) := by decide +kernel
theorem dL_law_223 : decode cL_law 223 = .ok (.iadd, 1) := by decide +kernel
theorem dL_law_224 : decode cL_law 224 = .ok (.iaload, 1) := by decide +kernel
theorem dL_law_225 : decode cL_law 225 = .ok (.invokevirtual 17, 3) := by decide +kernel
theorem dL_law_228 : decode cL_law 228 = .ok (.if_icmp .eq 1158, 3) := by decide +kernel
theorem dL_law_231 : decode cL_law 231 = .ok (.iconst 0, 1) := by decide +kernel
theorem dL_law_232 : decode cL_law 232 = .ok (.ireturn, 1) := by decide +kernel
theorem dL_law_233 : decode cL_law 233 = .ok (.aload_n 1, 1) := by decide +kernel
theorem dL_law_234 : decode cL_law 234 = .ok (.aload_n 0, 1) := by decide +kernel
theorem dL_law_235 : decode cL_law 235 = .ok (.iload_n 3, 1) := by decide +kernel
theorem dL_law_236 : decode cL_law 236 = .ok (.iconst 1, 1) := by decide +kernel
theorem dL_law_237 : decode cL_law 237 = .ok (.iadd, 1) := by decide +kernel
theorem dL_law_238 : decode cL_law 238 = .ok (.iaload, 1) := by decide +kernel
theorem dL_law_239 : decode cL_law 239 = .ok (.invokevirtual 18, 3) := by decide +kernel
theorem dL_law_242 : decode cL_law 242 = .ok (.aload_n 2, 1) := by decide +kernel
theorem dL_law_243 : decode cL_law 243 = .ok (.aload_n 0, 1) := by decide +kernel
theorem dL_law_244 : decode cL_law 244 = .ok (.iload_n 3, 1) := by decide +kernel
theorem dL_law_245 : decode cL_law 245 = .ok (.iconst 1, 1) := by decide +kernel
theorem dL_law_246 : decode cL_law 246 = .ok (.iadd, 1) := by decide +kernel
theorem dL_law_247 : decode cL_law 247 = .ok (.iaload, 1) := by decide +kernel
theorem dL_law_248 : decode cL_law 248 = .ok (.invokevirtual 22, 3) := by decide +kernel
theorem dL_law_251 : decode cL_law 251 = .ok (.if_icmp .eq 1135, 3) := by decide +kernel
theorem dL_law_254 : decode cL_law 254 = .ok (.iconst 0, 1) := by decide +kernel
theorem dL_law_255 : decode cL_law 255 = .ok (.ireturn, 1) := by decide +kernel
theorem dL_law_256 : decode cL_law 256 = .ok (.aload_n 1, 1) := by decide +kernel
theorem dL_law_257 : decode cL_law 257 = .ok (.aload_n 0, 1) := by decide +kernel
theorem dL_law_258 : decode cL_law 258 = .ok (.iload_n 3, 1) := by decide +kernel
theorem dL_law_259 : decode cL_law 259 = .ok (.iconst 1, 1) := by decide +kernel
theorem dL_law_260 : decode cL_law 260 = .ok (.iadd, 1) := by decide +kernel
theorem dL_law_261 : decode cL_law 261 = .ok (.iaload, 1) := by decide +kernel
theorem dL_law_262 : decode cL_law 262 = .ok (.invokevirtual 23, 3) := by decide +kernel
theorem dL_law_265 : decode cL_law 265 = .ok (.aload_n 2, 1) := by decide +kernel
theorem dL_law_266 : decode cL_law 266 = .ok (.aload_n 0, 1) := by decide +kernel
theorem dL_law_267 : decode cL_law 267 = .ok (.iload_n 3, 1) := by decide +kernel
theorem dL_law_268 : decode cL_law 268 = .ok (.iconst 1, 1) := by decide +kernel
theorem dL_law_269 : decode cL_law 269 = .ok (.iadd, 1) := by decide +kernel
theorem dL_law_270 : decode cL_law 270 = .ok (.iaload, 1) := by decide +kernel
theorem dL_law_271 : decode cL_law 271 = .ok (.invokevirtual 26, 3) := by decide +kernel
theorem dL_law_274 : decode cL_law 274 = .ok (.if_icmp .eq 1112, 3) := by decide +kernel
theorem dL_law_277 : decode cL_law 277 = .ok (.iconst 0, 1) := by decide +kernel
theorem dL_law_278 : decode cL_law 278 = .ok (.ireturn, 1) := by decide +kernel
theorem dL_law_279 : decode cL_law 279 = .ok (.aload_n 1, 1) := by decide +kernel
theorem dL_law_280 : decode cL_law 280 = .ok (.aload_n 0, 1) := by decide +kernel
theorem dL_law_281 : decode cL_law 281 = .ok (.iload_n 3, 1) := by decide +kernel
theorem dL_law_282 : decode cL_law 282 = .ok (.iconst 1, 1) := by decide +kernel
theorem dL_law_283 : decode cL_law 283 = .ok (.iadd, 1) := by decide +kernel
theorem dL_law_284 : decode cL_law 284 = .ok (.iaload, 1) := by decide +kernel
theorem dL_law_285 : decode cL_law 285 = .ok (.invokevirtual 27, 3) := by decide +kernel
theorem dL_law_288 : decode cL_law 288 = .ok (.aload_n 2, 1) := by decide +kernel
theorem dL_law_289 : decode cL_law 289 = .ok (.aload_n 0, 1) := by decide +kernel
theorem dL_law_290 : decode cL_law 290 = .ok (.iload_n 3, 1) := by decide +kernel
theorem dL_law_291 : decode cL_law 291 = .ok (.iconst 1, 1) := by decide +kernel
theorem dL_law_292 : decode cL_law 292 = .ok (.iadd, 1) := by decide +kernel
theorem dL_law_293 : decode cL_law 293 = .ok (.iaload, 1) := by decide +kernel
theorem dL_law_294 : decode cL_law 294 = .ok (.invokevirtual 30, 3) := by decide +kernel
theorem dL_law_297 : decode cL_law 297 = .ok (.if_icmp .eq 1089, 3) := by decide +kernel
theorem dL_law_300 : decode cL_law 300 = .ok (.iconst 0, 1) := by decide +kernel
theorem dL_law_301 : decode cL_law 301 = .ok (.ireturn, 1) := by decide +kernel
theorem dL_law_302 : decode cL_law 302 = .ok (.aload_n 1, 1) := by decide +kernel
theorem dL_law_303 : decode cL_law 303 = .ok (.aload_n 0, 1) := by decide +kernel
theorem dL_law_304 : decode cL_law 304 = .ok (.iload_n 3, 1) := by decide +kernel
theorem dL_law_305 : decode cL_law 305 = .ok (.iconst 1, 1) := by decide +kernel
theorem dL_law_306 : decode cL_law 306 = .ok (.iadd, 1) := by decide +kernel
theorem dL_law_307 : decode cL_law 307 = .ok (.iaload, 1) := by decide +kernel
theorem dL_law_308 : decode cL_law 308 = .ok (.aload_n 0, 1) := by decide +kernel
theorem dL_law_309 : decode cL_law 309 = .ok (.iload_n 3, 1) := by decide +kernel
theorem dL_law_310 : decode cL_law 310 = .ok (.iconst 2, 1) := by decide +kernel
theorem dL_law_311 : decode cL_law 311 = .ok (.iadd, 1) := by decide +kernel
theorem dL_law_312 : decode cL_law 312 = .ok (.iaload, 1) := by decide +kernel
theorem dL_law_313 : decode cL_law 313 = .ok (.invokevirtual 31, 3) := by decide +kernel
theorem dL_law_316 : decode cL_law 316 = .ok (.aload_n 2, 1) := by decide +kernel
theorem dL_law_317 : decode cL_law 317 = .ok (.aload_n 0, 1) := by decide +kernel
theorem dL_law_318 : decode cL_law 318 = .ok (.iload_n 3, 1) := by decide +kernel
theorem dL_law_319 : decode cL_law 319 = .ok (.iconst 1, 1) := by decide +kernel
theorem dL_law_320 : decode cL_law 320 = .ok (.iadd, 1) := by decide +kernel
theorem dL_law_321 : decode cL_law 321 = .ok (.iaload, 1) := by decide +kernel
theorem dL_law_322 : decode cL_law 322 = .ok (.aload_n 0, 1) := by decide +kernel
theorem dL_law_323 : decode cL_law 323 = .ok (.iload_n 3, 1) := by decide +kernel
theorem dL_law_324 : decode cL_law 324 = .ok (.iconst 2, 1) := by decide +kernel
theorem dL_law_325 : decode cL_law 325 = .ok (.iadd, 1) := by decide +kernel
theorem dL_law_326 : decode cL_law 326 = .ok (.iaload, 1) := by decide +kernel
theorem dL_law_327 : decode cL_law 327 = .ok (.invokevirtual 34, 3) := by decide +kernel
theorem dL_law_330 : decode cL_law 330 = .ok (.if_icmp .eq 1056, 3) := by decide +kernel
theorem dL_law_333 : decode cL_law 333 = .ok (.iconst 0, 1) := by decide +kernel
theorem dL_law_334 : decode cL_law 334 = .ok (.ireturn, 1) := by decide +kernel
theorem dL_law_335 : decode cL_law 335 = .ok (.aload_n 1, 1) := by decide +kernel
theorem dL_law_336 : decode cL_law 336 = .ok (.aload_n 0, 1) := by decide +kernel
theorem dL_law_337 : decode cL_law 337 = .ok (.iload_n 3, 1) := by decide +kernel
theorem dL_law_338 : decode cL_law 338 = .ok (.iconst 1, 1) := by decide +kernel
theorem dL_law_339 : decode cL_law 339 = .ok (.iadd, 1) := by decide +kernel
theorem dL_law_340 : decode cL_law 340 = .ok (.iaload, 1) := by decide +kernel
theorem dL_law_341 : decode cL_law 341 = .ok (.invokevirtual 35, 3) := by decide +kernel
theorem dL_law_344 : decode cL_law 344 = .ok (.aload_n 2, 1) := by decide +kernel
theorem dL_law_345 : decode cL_law 345 = .ok (.aload_n 0, 1) := by decide +kernel
theorem dL_law_346 : decode cL_law 346 = .ok (.iload_n 3, 1) := by decide +kernel
theorem dL_law_347 : decode cL_law 347 = .ok (.iconst 1, 1) := by decide +kernel
theorem dL_law_348 : decode cL_law 348 = .ok (.iadd, 1) := by decide +kernel
theorem dL_law_349 : decode cL_law 349 = .ok (.iaload, 1) := by decide +kernel
theorem dL_law_350 : decode cL_law 350 = .ok (.invokevirtual 38, 3) := by decide +kernel
theorem dL_law_353 : decode cL_law 353 = .ok (.if_icmp .eq 1033, 3) := by decide +kernel
theorem dL_law_356 : decode cL_law 356 = .ok (.iconst 0, 1) := by decide +kernel
theorem dL_law_357 : decode cL_law 357 = .ok (.ireturn, 1) := by decide +kernel
theorem dL_law_358 : decode cL_law 358 = .ok (.aload_n 1, 1) := by decide +kernel
theorem dL_law_359 : decode cL_law 359 = .ok (.aload_n 0, 1) := by decide +kernel
theorem dL_law_360 : decode cL_law 360 = .ok (.iload_n 3, 1) := by decide +kernel
theorem dL_law_361 : decode cL_law 361 = .ok (.iconst 1, 1) := by decide +kernel
theorem dL_law_362 : decode cL_law 362 = .ok (.iadd, 1) := by decide +kernel
theorem dL_law_363 : decode cL_law 363 = .ok (.iaload, 1) := by decide +kernel
theorem dL_law_364 : decode cL_law 364 = .ok (.invokevirtual 39, 3) := by decide +kernel
theorem dL_law_367 : decode cL_law 367 = .ok (.aload_n 2, 1) := by decide +kernel
theorem dL_law_368 : decode cL_law 368 = .ok (.aload_n 0, 1) := by decide +kernel
theorem dL_law_369 : decode cL_law 369 = .ok (.iload_n 3, 1) := by decide +kernel
theorem dL_law_370 : decode cL_law 370 = .ok (.iconst 1, 1) := by decide +kernel
theorem dL_law_371 : decode cL_law 371 = .ok (.iadd, 1) := by decide +kernel
theorem dL_law_372 : decode cL_law 372 = .ok (.iaload, 1) := by decide +kernel
theorem dL_law_373 : decode cL_law 373 = .ok (.invokevirtual 42, 3) := by decide +kernel
theorem dL_law_376 : decode cL_law 376 = .ok (.if_icmp .eq 1010, 3) := by decide +kernel
theorem dL_law_379 : decode cL_law 379 = .ok (.iconst 0, 1) := by decide +kernel
theorem dL_law_380 : decode cL_law 380 = .ok (.ireturn, 1) := by decide +kernel
theorem dL_law_381 : decode cL_law 381 = .ok (.aload_n 1, 1) := by decide +kernel
theorem dL_law_382 : decode cL_law 382 = .ok (.aload_n 0, 1) := by decide +kernel
theorem dL_law_383 : decode cL_law 383 = .ok (.iload_n 3, 1) := by decide +kernel
theorem dL_law_384 : decode cL_law 384 = .ok (.iconst 1, 1) := by decide +kernel
theorem dL_law_385 : decode cL_law 385 = .ok (.iadd, 1) := by decide +kernel
theorem dL_law_386 : decode cL_law 386 = .ok (.iaload, 1) := by decide +kernel
theorem dL_law_387 : decode cL_law 387 = .ok (.invokevirtual 43, 3) := by decide +kernel
theorem dL_law_390 : decode cL_law 390 = .ok (.aload_n 2, 1) := by decide +kernel
theorem dL_law_391 : decode cL_law 391 = .ok (.aload_n 0, 1) := by decide +kernel
theorem dL_law_392 : decode cL_law 392 = .ok (.iload_n 3, 1) := by decide +kernel
theorem dL_law_393 : decode cL_law 393 = .ok (.iconst 1, 1) := by decide +kernel
theorem dL_law_394 : decode cL_law 394 = .ok (.iadd, 1) := by decide +kernel
theorem dL_law_395 : decode cL_law 395 = .ok (.iaload, 1) := by decide +kernel
theorem dL_law_396 : decode cL_law 396 = .ok (.invokevirtual 46, 3) := by decide +kernel
theorem dL_law_399 : decode cL_law 399 = .ok (.if_icmp .eq 987, 3) := by decide +kernel
theorem dL_law_402 : decode cL_law 402 = .ok (.iconst 0, 1) := by decide +kernel
theorem dL_law_403 : decode cL_law 403 = .ok (.ireturn, 1) := by decide +kernel
theorem dL_law_404 : decode cL_law 404 = .ok (.aload_n 1, 1) := by decide +kernel
theorem dL_law_405 : decode cL_law 405 = .ok (.aload_n 0, 1) := by decide +kernel
theorem dL_law_406 : decode cL_law 406 = .ok (.iload_n 3, 1) := by decide +kernel
theorem dL_law_407 : decode cL_law 407 = .ok (.iconst 1, 1) := by decide +kernel
theorem dL_law_408 : decode cL_law 408 = .ok (.iadd, 1) := by decide +kernel
theorem dL_law_409 : decode cL_law 409 = .ok (.iaload, 1) := by decide +kernel
theorem dL_law_410 : decode cL_law 410 = .ok (.aload_n 0, 1) := by decide +kernel
theorem dL_law_411 : decode cL_law 411 = .ok (.iload_n 3, 1) := by decide +kernel
theorem dL_law_412 : decode cL_law 412 = .ok (.iconst 2, 1) := by decide +kernel
theorem dL_law_413 : decode cL_law 413 = .ok (.iadd, 1) := by decide +kernel
theorem dL_law_414 : decode cL_law 414 = .ok (.iaload, 1) := by decide +kernel
theorem dL_law_415 : decode cL_law 415 = .ok (.aload_n 0, 1) := by decide +kernel
theorem dL_law_416 : decode cL_law 416 = .ok (.iload_n 3, 1) := by decide +kernel
theorem dL_law_417 : decode cL_law 417 = .ok (.iconst 3, 1) := by decide +kernel
theorem dL_law_418 : decode cL_law 418 = .ok (.iadd, 1) := by decide +kernel
theorem dL_law_419 : decode cL_law 419 = .ok (.iaload, 1) := by decide +kernel
theorem dL_law_420 : decode cL_law 420 = .ok (.aload_n 0, 1) := by decide +kernel
theorem dL_law_421 : decode cL_law 421 = .ok (.iload_n 3, 1) := by decide +kernel
theorem dL_law_422 : decode cL_law 422 = .ok (.iconst 4, 1) := by decide +kernel
theorem dL_law_423 : decode cL_law 423 = .ok (.iadd, 1) := by decide +kernel
theorem dL_law_424 : decode cL_law 424 = .ok (.iaload, 1) := by decide +kernel
theorem dL_law_425 : decode cL_law 425 = .ok (.invokevirtual 47, 3) := by decide +kernel
theorem dL_law_428 : decode cL_law 428 = .ok (.aload_n 2, 1) := by decide +kernel
theorem dL_law_429 : decode cL_law 429 = .ok (.aload_n 0, 1) := by decide +kernel
theorem dL_law_430 : decode cL_law 430 = .ok (.iload_n 3, 1) := by decide +kernel
theorem dL_law_431 : decode cL_law 431 = .ok (.iconst 1, 1) := by decide +kernel
theorem dL_law_432 : decode cL_law 432 = .ok (.iadd, 1) := by decide +kernel
theorem dL_law_433 : decode cL_law 433 = .ok (.iaload, 1) := by decide +kernel
theorem dL_law_434 : decode cL_law 434 = .ok (.aload_n 0, 1) := by decide +kernel
theorem dL_law_435 : decode cL_law 435 = .ok (.iload_n 3, 1) := by decide +kernel
theorem dL_law_436 : decode cL_law 436 = .ok (.iconst 2, 1) := by decide +kernel
theorem dL_law_437 : decode cL_law 437 = .ok (.iadd, 1) := by decide +kernel
theorem dL_law_438 : decode cL_law 438 = .ok (.iaload, 1) := by decide +kernel
theorem dL_law_439 : decode cL_law 439 = .ok (.aload_n 0, 1) := by decide +kernel
theorem dL_law_440 : decode cL_law 440 = .ok (.iload_n 3, 1) := by decide +kernel
theorem dL_law_441 : decode cL_law 441 = .ok (.iconst 3, 1) := by decide +kernel
theorem dL_law_442 : decode cL_law 442 = .ok (.iadd, 1) := by decide +kernel
theorem dL_law_443 : decode cL_law 443 = .ok (.iaload, 1) := by decide +kernel
theorem dL_law_444 : decode cL_law 444 = .ok (.aload_n 0, 1) := by decide +kernel
theorem dL_law_445 : decode cL_law 445 = .ok (.iload_n 3, 1) := by decide +kernel
theorem dL_law_446 : decode cL_law 446 = .ok (.iconst 4, 1) := by decide +kernel
theorem dL_law_447 : decode cL_law 447 = .ok (.iadd, 1) := by decide +kernel
theorem dL_law_448 : decode cL_law 448 = .ok (.iaload, 1) := by decide +kernel
theorem dL_law_449 : decode cL_law 449 = .ok (.invokevirtual 51, 3) := by decide +kernel
theorem dL_law_452 : decode cL_law 452 = .ok (.if_icmp .eq 934, 3) := by decide +kernel
theorem dL_law_455 : decode cL_law 455 = .ok (.iconst 0, 1) := by decide +kernel
theorem dL_law_456 : decode cL_law 456 = .ok (.ireturn, 1) := by decide +kernel
theorem dL_law_457 : decode cL_law 457 = .ok (.aload_n 1, 1) := by decide +kernel
theorem dL_law_458 : decode cL_law 458 = .ok (.aload_n 0, 1) := by decide +kernel
theorem dL_law_459 : decode cL_law 459 = .ok (.iload_n 3, 1) := by decide +kernel
theorem dL_law_460 : decode cL_law 460 = .ok (.iconst 1, 1) := by decide +kernel
theorem dL_law_461 : decode cL_law 461 = .ok (.iadd, 1) := by decide +kernel
theorem dL_law_462 : decode cL_law 462 = .ok (.iaload, 1) := by decide +kernel
theorem dL_law_463 : decode cL_law 463 = .ok (.invokevirtual 52, 3) := by decide +kernel
theorem dL_law_466 : decode cL_law 466 = .ok (.aload_n 2, 1) := by decide +kernel
theorem dL_law_467 : decode cL_law 467 = .ok (.aload_n 0, 1) := by decide +kernel
theorem dL_law_468 : decode cL_law 468 = .ok (.iload_n 3, 1) := by decide +kernel
theorem dL_law_469 : decode cL_law 469 = .ok (.iconst 1, 1) := by decide +kernel
theorem dL_law_470 : decode cL_law 470 = .ok (.iadd, 1) := by decide +kernel
theorem dL_law_471 : decode cL_law 471 = .ok (.iaload, 1) := by decide +kernel
theorem dL_law_472 : decode cL_law 472 = .ok (.invokevirtual 55, 3) := by decide +kernel
theorem dL_law_475 : decode cL_law 475 = .ok (.if_icmp .eq 911, 3) := by decide +kernel
theorem dL_law_478 : decode cL_law 478 = .ok (.iconst 0, 1) := by decide +kernel
theorem dL_law_479 : decode cL_law 479 = .ok (.ireturn, 1) := by decide +kernel
theorem dL_law_480 : decode cL_law 480 = .ok (.aload_n 1, 1) := by decide +kernel
theorem dL_law_481 : decode cL_law 481 = .ok (.aload_n 0, 1) := by decide +kernel
theorem dL_law_482 : decode cL_law 482 = .ok (.iload_n 3, 1) := by decide +kernel
theorem dL_law_483 : decode cL_law 483 = .ok (.iconst 1, 1) := by decide +kernel
theorem dL_law_484 : decode cL_law 484 = .ok (.iadd, 1) := by decide +kernel
theorem dL_law_485 : decode cL_law 485 = .ok (.iaload, 1) := by decide +kernel
theorem dL_law_486 : decode cL_law 486 = .ok (.invokevirtual 56, 3) := by decide +kernel
theorem dL_law_489 : decode cL_law 489 = .ok (.aload_n 2, 1) := by decide +kernel
theorem dL_law_490 : decode cL_law 490 = .ok (.aload_n 0, 1) := by decide +kernel
theorem dL_law_491 : decode cL_law 491 = .ok (.iload_n 3, 1) := by decide +kernel
theorem dL_law_492 : decode cL_law 492 = .ok (.iconst 1, 1) := by decide +kernel
theorem dL_law_493 : decode cL_law 493 = .ok (.iadd, 1) := by decide +kernel
theorem dL_law_494 : decode cL_law 494 = .ok (.iaload, 1) := by decide +kernel
theorem dL_law_495 : decode cL_law 495 = .ok (.invokevirtual 59, 3) := by decide +kernel
theorem dL_law_498 : decode cL_law 498 = .ok (.if_icmp .eq 888, 3) := by decide +kernel
theorem dL_law_501 : decode cL_law 501 = .ok (.iconst 0, 1) := by decide +kernel
theorem dL_law_502 : decode cL_law 502 = .ok (.ireturn, 1) := by decide +kernel
theorem dL_law_503 : decode cL_law 503 = .ok (.aload_n 1, 1) := by decide +kernel
theorem dL_law_504 : decode cL_law 504 = .ok (.aload_n 0, 1) := by decide +kernel
theorem dL_law_505 : decode cL_law 505 = .ok (.iload_n 3, 1) := by decide +kernel
theorem dL_law_506 : decode cL_law 506 = .ok (.iconst 1, 1) := by decide +kernel
theorem dL_law_507 : decode cL_law 507 = .ok (.iadd, 1) := by decide +kernel
theorem dL_law_508 : decode cL_law 508 = .ok (.iaload, 1) := by decide +kernel
theorem dL_law_509 : decode cL_law 509 = .ok (.aload_n 0, 1) := by decide +kernel
theorem dL_law_510 : decode cL_law 510 = .ok (.iload_n 3, 1) := by decide +kernel
theorem dL_law_511 : decode cL_law 511 = .ok (.iconst 2, 1) := by decide +kernel
theorem dL_law_512 : decode cL_law 512 = .ok (.iadd, 1) := by decide +kernel
theorem dL_law_513 : decode cL_law 513 = .ok (.iaload, 1) := by decide +kernel
theorem dL_law_514 : decode cL_law 514 = .ok (.aload_n 0, 1) := by decide +kernel
theorem dL_law_515 : decode cL_law 515 = .ok (.iload_n 3, 1) := by decide +kernel
theorem dL_law_516 : decode cL_law 516 = .ok (.iconst 3, 1) := by decide +kernel
theorem dL_law_517 : decode cL_law 517 = .ok (.iadd, 1) := by decide +kernel
theorem dL_law_518 : decode cL_law 518 = .ok (.iaload, 1) := by decide +kernel
theorem dL_law_519 : decode cL_law 519 = .ok (.invokevirtual 60, 3) := by decide +kernel
theorem dL_law_522 : decode cL_law 522 = .ok (.aload_n 2, 1) := by decide +kernel
theorem dL_law_523 : decode cL_law 523 = .ok (.aload_n 0, 1) := by decide +kernel
theorem dL_law_524 : decode cL_law 524 = .ok (.iload_n 3, 1) := by decide +kernel
theorem dL_law_525 : decode cL_law 525 = .ok (.iconst 1, 1) := by decide +kernel
theorem dL_law_526 : decode cL_law 526 = .ok (.iadd, 1) := by decide +kernel
theorem dL_law_527 : decode cL_law 527 = .ok (.iaload, 1) := by decide +kernel
theorem dL_law_528 : decode cL_law 528 = .ok (.aload_n 0, 1) := by decide +kernel
theorem dL_law_529 : decode cL_law 529 = .ok (.iload_n 3, 1) := by decide +kernel
theorem dL_law_530 : decode cL_law 530 = .ok (.iconst 2, 1) := by decide +kernel
theorem dL_law_531 : decode cL_law 531 = .ok (.iadd, 1) := by decide +kernel
theorem dL_law_532 : decode cL_law 532 = .ok (.iaload, 1) := by decide +kernel
theorem dL_law_533 : decode cL_law 533 = .ok (.aload_n 0, 1) := by decide +kernel
theorem dL_law_534 : decode cL_law 534 = .ok (.iload_n 3, 1) := by decide +kernel
theorem dL_law_535 : decode cL_law 535 = .ok (.iconst 3, 1) := by decide +kernel
theorem dL_law_536 : decode cL_law 536 = .ok (.iadd, 1) := by decide +kernel
theorem dL_law_537 : decode cL_law 537 = .ok (.iaload, 1) := by decide +kernel
theorem dL_law_538 : decode cL_law 538 = .ok (.invokevirtual 64, 3) := by decide +kernel
theorem dL_law_541 : decode cL_law 541 = .ok (.if_icmp .eq 845, 3) := by decide +kernel
theorem dL_law_544 : decode cL_law 544 = .ok (.iconst 0, 1) := by decide +kernel
theorem dL_law_545 : decode cL_law 545 = .ok (.ireturn, 1) := by decide +kernel
theorem dL_law_546 : decode cL_law 546 = .ok (.aload_n 1, 1) := by decide +kernel
theorem dL_law_547 : decode cL_law 547 = .ok (.aload_n 0, 1) := by decide +kernel
theorem dL_law_548 : decode cL_law 548 = .ok (.iload_n 3, 1) := by decide +kernel
theorem dL_law_549 : decode cL_law 549 = .ok (.iconst 1, 1) := by decide +kernel
theorem dL_law_550 : decode cL_law 550 = .ok (.iadd, 1) := by decide +kernel
theorem dL_law_551 : decode cL_law 551 = .ok (.iaload, 1) := by decide +kernel
theorem dL_law_552 : decode cL_law 552 = .ok (.aload_n 0, 1) := by decide +kernel
theorem dL_law_553 : decode cL_law 553 = .ok (.iload_n 3, 1) := by decide +kernel
theorem dL_law_554 : decode cL_law 554 = .ok (.iconst 2, 1) := by decide +kernel
theorem dL_law_555 : decode cL_law 555 = .ok (.iadd, 1) := by decide +kernel
theorem dL_law_556 : decode cL_law 556 = .ok (.iaload, 1) := by decide +kernel
theorem dL_law_557 : decode cL_law 557 = .ok (.invokevirtual 65, 3) := by decide +kernel
theorem dL_law_560 : decode cL_law 560 = .ok (.aload_n 2, 1) := by decide +kernel
theorem dL_law_561 : decode cL_law 561 = .ok (.aload_n 0, 1) := by decide +kernel
theorem dL_law_562 : decode cL_law 562 = .ok (.iload_n 3, 1) := by decide +kernel
theorem dL_law_563 : decode cL_law 563 = .ok (.iconst 1, 1) := by decide +kernel
theorem dL_law_564 : decode cL_law 564 = .ok (.iadd, 1) := by decide +kernel
theorem dL_law_565 : decode cL_law 565 = .ok (.iaload, 1) := by decide +kernel
theorem dL_law_566 : decode cL_law 566 = .ok (.aload_n 0, 1) := by decide +kernel
theorem dL_law_567 : decode cL_law 567 = .ok (.iload_n 3, 1) := by decide +kernel
theorem dL_law_568 : decode cL_law 568 = .ok (.iconst 2, 1) := by decide +kernel
theorem dL_law_569 : decode cL_law 569 = .ok (.iadd, 1) := by decide +kernel
theorem dL_law_570 : decode cL_law 570 = .ok (.iaload, 1) := by decide +kernel
theorem dL_law_571 : decode cL_law 571 = .ok (.invokevirtual 68, 3) := by decide +kernel
theorem dL_law_574 : decode cL_law 574 = .ok (.if_icmp .eq 812, 3) := by decide +kernel
theorem dL_law_577 : decode cL_law 577 = .ok (.iconst 0, 1) := by decide +kernel
theorem dL_law_578 : decode cL_law 578 = .ok (.ireturn, 1) := by decide +kernel
theorem dL_law_579 : decode cL_law 579 = .ok (.aload_n 1, 1) := by decide +kernel
theorem dL_law_580 : decode cL_law 580 = .ok (.aload_n 0, 1) := by decide +kernel
theorem dL_law_581 : decode cL_law 581 = .ok (.iload_n 3, 1) := by decide +kernel
theorem dL_law_582 : decode cL_law 582 = .ok (.iconst 1, 1) := by decide +kernel
theorem dL_law_583 : decode cL_law 583 = .ok (.iadd, 1) := by decide +kernel
theorem dL_law_584 : decode cL_law 584 = .ok (.iaload, 1) := by decide +kernel
theorem dL_law_585 : decode cL_law 585 = .ok (.aload_n 0, 1) := by decide +kernel
theorem dL_law_586 : decode cL_law 586 = .ok (.iload_n 3, 1) := by decide +kernel
theorem dL_law_587 : decode cL_law 587 = .ok (.iconst 2, 1) := by decide +kernel
theorem dL_law_588 : decode cL_law 588 = .ok (.iadd, 1) := by decide +kernel
theorem dL_law_589 : decode cL_law 589 = .ok (.iaload, 1) := by decide +kernel
theorem dL_law_590 : decode cL_law 590 = .ok (.invokevirtual 69, 3) := by decide +kernel
theorem dL_law_593 : decode cL_law 593 = .ok (.aload_n 2, 1) := by decide +kernel
theorem dL_law_594 : decode cL_law 594 = .ok (.aload_n 0, 1) := by decide +kernel
theorem dL_law_595 : decode cL_law 595 = .ok (.iload_n 3, 1) := by decide +kernel
theorem dL_law_596 : decode cL_law 596 = .ok (.iconst 1, 1) := by decide +kernel
theorem dL_law_597 : decode cL_law 597 = .ok (.iadd, 1) := by decide +kernel
theorem dL_law_598 : decode cL_law 598 = .ok (.iaload, 1) := by decide +kernel
theorem dL_law_599 : decode cL_law 599 = .ok (.aload_n 0, 1) := by decide +kernel
theorem dL_law_600 : decode cL_law 600 = .ok (.iload_n 3, 1) := by decide +kernel
theorem dL_law_601 : decode cL_law 601 = .ok (.iconst 2, 1) := by decide +kernel
theorem dL_law_602 : decode cL_law 602 = .ok (.iadd, 1) := by decide +kernel
theorem dL_law_603 : decode cL_law 603 = .ok (.iaload, 1) := by decide +kernel
theorem dL_law_604 : decode cL_law 604 = .ok (.invokevirtual 72, 3) := by decide +kernel
theorem dL_law_607 : decode cL_law 607 = .ok (.if_icmp .eq 779, 3) := by decide +kernel
theorem dL_law_610 : decode cL_law 610 = .ok (.iconst 0, 1) := by decide +kernel
theorem dL_law_611 : decode cL_law 611 = .ok (.ireturn, 1) := by decide +kernel
theorem dL_law_612 : decode cL_law 612 = .ok (.aload_n 1, 1) := by decide +kernel
theorem dL_law_613 : decode cL_law 613 = .ok (.aload_n 0, 1) := by decide +kernel
theorem dL_law_614 : decode cL_law 614 = .ok (.iload_n 3, 1) := by decide +kernel
theorem dL_law_615 : decode cL_law 615 = .ok (.iconst 1, 1) := by decide +kernel
theorem dL_law_616 : decode cL_law 616 = .ok (.iadd, 1) := by decide +kernel
theorem dL_law_617 : decode cL_law 617 = .ok (.iaload, 1) := by decide +kernel
theorem dL_law_618 : decode cL_law 618 = .ok (.aload_n 0, 1) := by decide +kernel
theorem dL_law_619 : decode cL_law 619 = .ok (.iload_n 3, 1) := by decide +kernel
theorem dL_law_620 : decode cL_law 620 = .ok (.iconst 2, 1) := by decide +kernel
theorem dL_law_621 : decode cL_law 621 = .ok (.iadd, 1) := by decide +kernel
theorem dL_law_622 : decode cL_law 622 = .ok (.iaload, 1) := by decide +kernel
theorem dL_law_623 : decode cL_law 623 = .ok (.invokevirtual 73, 3) := by decide +kernel
theorem dL_law_626 : decode cL_law 626 = .ok (.aload_n 2, 1) := by decide +kernel
theorem dL_law_627 : decode cL_law 627 = .ok (.aload_n 0, 1) := by decide +kernel
theorem dL_law_628 : decode cL_law 628 = .ok (.iload_n 3, 1) := by decide +kernel
theorem dL_law_629 : decode cL_law 629 = .ok (.iconst 1, 1) := by decide +kernel
theorem dL_law_630 : decode cL_law 630 = .ok (.iadd, 1) := by decide +kernel
theorem dL_law_631 : decode cL_law 631 = .ok (.iaload, 1) := by decide +kernel
theorem dL_law_632 : decode cL_law 632 = .ok (.aload_n 0, 1) := by decide +kernel
theorem dL_law_633 : decode cL_law 633 = .ok (.iload_n 3, 1) := by decide +kernel
theorem dL_law_634 : decode cL_law 634 = .ok (.iconst 2, 1) := by decide +kernel
theorem dL_law_635 : decode cL_law 635 = .ok (.iadd, 1) := by decide +kernel
theorem dL_law_636 : decode cL_law 636 = .ok (.iaload, 1) := by decide +kernel
theorem dL_law_637 : decode cL_law 637 = .ok (.invokevirtual 76, 3) := by decide +kernel
theorem dL_law_640 : decode cL_law 640 = .ok (.if_icmp .eq 746, 3) := by decide +kernel
theorem dL_law_643 : decode cL_law 643 = .ok (.iconst 0, 1) := by decide +kernel
theorem dL_law_644 : decode cL_law 644 = .ok (.ireturn, 1) := by decide +kernel
theorem dL_law_645 : decode cL_law 645 = .ok (.aload_n 1, 1) := by decide +kernel
theorem dL_law_646 : decode cL_law 646 = .ok (.aload_n 0, 1) := by decide +kernel
theorem dL_law_647 : decode cL_law 647 = .ok (.iload_n 3, 1) := by decide +kernel
theorem dL_law_648 : decode cL_law 648 = .ok (.iconst 1, 1) := by decide +kernel
theorem dL_law_649 : decode cL_law 649 = .ok (.iadd, 1) := by decide +kernel
theorem dL_law_650 : decode cL_law 650 = .ok (.iaload, 1) := by decide +kernel
theorem dL_law_651 : decode cL_law 651 = .ok (.aload_n 0, 1) := by decide +kernel
theorem dL_law_652 : decode cL_law 652 = .ok (.iload_n 3, 1) := by decide +kernel
theorem dL_law_653 : decode cL_law 653 = .ok (.iconst 2, 1) := by decide +kernel
theorem dL_law_654 : decode cL_law 654 = .ok (.iadd, 1) := by decide +kernel
theorem dL_law_655 : decode cL_law 655 = .ok (.iaload, 1) := by decide +kernel
theorem dL_law_656 : decode cL_law 656 = .ok (.invokevirtual 77, 3) := by decide +kernel
theorem dL_law_659 : decode cL_law 659 = .ok (.aload_n 2, 1) := by decide +kernel
theorem dL_law_660 : decode cL_law 660 = .ok (.aload_n 0, 1) := by decide +kernel
theorem dL_law_661 : decode cL_law 661 = .ok (.iload_n 3, 1) := by decide +kernel
theorem dL_law_662 : decode cL_law 662 = .ok (.iconst 1, 1) := by decide +kernel
theorem dL_law_663 : decode cL_law 663 = .ok (.iadd, 1) := by decide +kernel
theorem dL_law_664 : decode cL_law 664 = .ok (.iaload, 1) := by decide +kernel
theorem dL_law_665 : decode cL_law 665 = .ok (.aload_n 0, 1) := by decide +kernel
theorem dL_law_666 : decode cL_law 666 = .ok (.iload_n 3, 1) := by decide +kernel
theorem dL_law_667 : decode cL_law 667 = .ok (.iconst 2, 1) := by decide +kernel
theorem dL_law_668 : decode cL_law 668 = .ok (.iadd, 1) := by decide +kernel
theorem dL_law_669 : decode cL_law 669 = .ok (.iaload, 1) := by decide +kernel
theorem dL_law_670 : decode cL_law 670 = .ok (.invokevirtual 80, 3) := by decide +kernel
theorem dL_law_673 : decode cL_law 673 = .ok (.if_icmp .eq 713, 3) := by decide +kernel
theorem dL_law_676 : decode cL_law 676 = .ok (.iconst 0, 1) := by decide +kernel
theorem dL_law_677 : decode cL_law 677 = .ok (.ireturn, 1) := by decide +kernel
theorem dL_law_678 : decode cL_law 678 = .ok (.aload_n 1, 1) := by decide +kernel
theorem dL_law_679 : decode cL_law 679 = .ok (.aload_n 0, 1) := by decide +kernel
theorem dL_law_680 : decode cL_law 680 = .ok (.iload_n 3, 1) := by decide +kernel
theorem dL_law_681 : decode cL_law 681 = .ok (.iconst 1, 1) := by decide +kernel
theorem dL_law_682 : decode cL_law 682 = .ok (.iadd, 1) := by decide +kernel
theorem dL_law_683 : decode cL_law 683 = .ok (.iaload, 1) := by decide +kernel
theorem dL_law_684 : decode cL_law 684 = .ok (.aload_n 0, 1) := by decide +kernel
theorem dL_law_685 : decode cL_law 685 = .ok (.iload_n 3, 1) := by decide +kernel
theorem dL_law_686 : decode cL_law 686 = .ok (.iconst 2, 1) := by decide +kernel
theorem dL_law_687 : decode cL_law 687 = .ok (.iadd, 1) := by decide +kernel
theorem dL_law_688 : decode cL_law 688 = .ok (.iaload, 1) := by decide +kernel
theorem dL_law_689 : decode cL_law 689 = .ok (.invokevirtual 81, 3) := by decide +kernel
theorem dL_law_692 : decode cL_law 692 = .ok (.aload_n 2, 1) := by decide +kernel
theorem dL_law_693 : decode cL_law 693 = .ok (.aload_n 0, 1) := by decide +kernel
theorem dL_law_694 : decode cL_law 694 = .ok (.iload_n 3, 1) := by decide +kernel
theorem dL_law_695 : decode cL_law 695 = .ok (.iconst 1, 1) := by decide +kernel
theorem dL_law_696 : decode cL_law 696 = .ok (.iadd, 1) := by decide +kernel
theorem dL_law_697 : decode cL_law 697 = .ok (.iaload, 1) := by decide +kernel
theorem dL_law_698 : decode cL_law 698 = .ok (.aload_n 0, 1) := by decide +kernel
theorem dL_law_699 : decode cL_law 699 = .ok (.iload_n 3, 1) := by decide +kernel
theorem dL_law_700 : decode cL_law 700 = .ok (.iconst 2, 1) := by decide +kernel
theorem dL_law_701 : decode cL_law 701 = .ok (.iadd, 1) := by decide +kernel
theorem dL_law_702 : decode cL_law 702 = .ok (.iaload, 1) := by decide +kernel
theorem dL_law_703 : decode cL_law 703 = .ok (.invokevirtual 84, 3) := by decide +kernel
theorem dL_law_706 : decode cL_law 706 = .ok (.if_icmp .eq 680, 3) := by decide +kernel
theorem dL_law_709 : decode cL_law 709 = .ok (.iconst 0, 1) := by decide +kernel
theorem dL_law_710 : decode cL_law 710 = .ok (.ireturn, 1) := by decide +kernel
theorem dL_law_711 : decode cL_law 711 = .ok (.aload_n 1, 1) := by decide +kernel
theorem dL_law_712 : decode cL_law 712 = .ok (.aload_n 0, 1) := by decide +kernel
theorem dL_law_713 : decode cL_law 713 = .ok (.iload_n 3, 1) := by decide +kernel
theorem dL_law_714 : decode cL_law 714 = .ok (.iconst 1, 1) := by decide +kernel
theorem dL_law_715 : decode cL_law 715 = .ok (.iadd, 1) := by decide +kernel
theorem dL_law_716 : decode cL_law 716 = .ok (.iaload, 1) := by decide +kernel
theorem dL_law_717 : decode cL_law 717 = .ok (.invokevirtual 85, 3) := by decide +kernel
theorem dL_law_720 : decode cL_law 720 = .ok (.aload_n 2, 1) := by decide +kernel
theorem dL_law_721 : decode cL_law 721 = .ok (.aload_n 0, 1) := by decide +kernel
theorem dL_law_722 : decode cL_law 722 = .ok (.iload_n 3, 1) := by decide +kernel
theorem dL_law_723 : decode cL_law 723 = .ok (.iconst 1, 1) := by decide +kernel
theorem dL_law_724 : decode cL_law 724 = .ok (.iadd, 1) := by decide +kernel
theorem dL_law_725 : decode cL_law 725 = .ok (.iaload, 1) := by decide +kernel
theorem dL_law_726 : decode cL_law 726 = .ok (.invokevirtual 88, 3) := by decide +kernel
theorem dL_law_729 : decode cL_law 729 = .ok (.if_icmp .eq 657, 3) := by decide +kernel
theorem dL_law_732 : decode cL_law 732 = .ok (.iconst 0, 1) := by decide +kernel
theorem dL_law_733 : decode cL_law 733 = .ok (.ireturn, 1) := by decide +kernel
theorem dL_law_734 : decode cL_law 734 = .ok (.aload_n 1, 1) := by decide +kernel
theorem dL_law_735 : decode cL_law 735 = .ok (.aload_n 0, 1) := by decide +kernel
theorem dL_law_736 : decode cL_law 736 = .ok (.iload_n 3, 1) := by decide +kernel
theorem dL_law_737 : decode cL_law 737 = .ok (.iconst 1, 1) := by decide +kernel
theorem dL_law_738 : decode cL_law 738 = .ok (.iadd, 1) := by decide +kernel
theorem dL_law_739 : decode cL_law 739 = .ok (.iaload, 1) := by decide +kernel
theorem dL_law_740 : decode cL_law 740 = .ok (.invokevirtual 89, 3) := by decide +kernel
theorem dL_law_743 : decode cL_law 743 = .ok (.aload_n 2, 1) := by decide +kernel
theorem dL_law_744 : decode cL_law 744 = .ok (.aload_n 0, 1) := by decide +kernel
theorem dL_law_745 : decode cL_law 745 = .ok (.iload_n 3, 1) := by decide +kernel
theorem dL_law_746 : decode cL_law 746 = .ok (.iconst 1, 1) := by decide +kernel
theorem dL_law_747 : decode cL_law 747 = .ok (.iadd, 1) := by decide +kernel
theorem dL_law_748 : decode cL_law 748 = .ok (.iaload, 1) := by decide +kernel
theorem dL_law_749 : decode cL_law 749 = .ok (.invokevirtual 92, 3) := by decide +kernel
theorem dL_law_752 : decode cL_law 752 = .ok (.if_icmp .eq 634, 3) := by decide +kernel
theorem dL_law_755 : decode cL_law 755 = .ok (.iconst 0, 1) := by decide +kernel
theorem dL_law_756 : decode cL_law 756 = .ok (.ireturn, 1) := by decide +kernel
theorem dL_law_757 : decode cL_law 757 = .ok (.aload_n 1, 1) := by decide +kernel
theorem dL_law_758 : decode cL_law 758 = .ok (.aload_n 0, 1) := by decide +kernel
theorem dL_law_759 : decode cL_law 759 = .ok (.iload_n 3, 1) := by decide +kernel
theorem dL_law_760 : decode cL_law 760 = .ok (.iconst 1, 1) := by decide +kernel
theorem dL_law_761 : decode cL_law 761 = .ok (.iadd, 1) := by decide +kernel
theorem dL_law_762 : decode cL_law 762 = .ok (.iaload, 1) := by decide +kernel
theorem dL_law_763 : decode cL_law 763 = .ok (.invokevirtual 93, 3) := by decide +kernel
theorem dL_law_766 : decode cL_law 766 = .ok (.aload_n 2, 1) := by decide +kernel
theorem dL_law_767 : decode cL_law 767 = .ok (.aload_n 0, 1) := by decide +kernel
theorem dL_law_768 : decode cL_law 768 = .ok (.iload_n 3, 1) := by decide +kernel
theorem dL_law_769 : decode cL_law 769 = .ok (.iconst 1, 1) := by decide +kernel
theorem dL_law_770 : decode cL_law 770 = .ok (.iadd, 1) := by decide +kernel
theorem dL_law_771 : decode cL_law 771 = .ok (.iaload, 1) := by decide +kernel
theorem dL_law_772 : decode cL_law 772 = .ok (.invokevirtual 96, 3) := by decide +kernel
theorem dL_law_775 : decode cL_law 775 = .ok (.if_icmp .eq 611, 3) := by decide +kernel
theorem dL_law_778 : decode cL_law 778 = .ok (.iconst 0, 1) := by decide +kernel
theorem dL_law_779 : decode cL_law 779 = .ok (.ireturn, 1) := by decide +kernel
theorem dL_law_780 : decode cL_law 780 = .ok (.aload_n 1, 1) := by decide +kernel
theorem dL_law_781 : decode cL_law 781 = .ok (.aload_n 0, 1) := by decide +kernel
theorem dL_law_782 : decode cL_law 782 = .ok (.iload_n 3, 1) := by decide +kernel
theorem dL_law_783 : decode cL_law 783 = .ok (.iconst 1, 1) := by decide +kernel
theorem dL_law_784 : decode cL_law 784 = .ok (.iadd, 1) := by decide +kernel
theorem dL_law_785 : decode cL_law 785 = .ok (.iaload, 1) := by decide +kernel
theorem dL_law_786 : decode cL_law 786 = .ok (.aload_n 0, 1) := by decide +kernel
theorem dL_law_787 : decode cL_law 787 = .ok (.iload_n 3, 1) := by decide +kernel
theorem dL_law_788 : decode cL_law 788 = .ok (.iconst 2, 1) := by decide +kernel
theorem dL_law_789 : decode cL_law 789 = .ok (.iadd, 1) := by decide +kernel
theorem dL_law_790 : decode cL_law 790 = .ok (.iaload, 1) := by decide +kernel
theorem dL_law_791 : decode cL_law 791 = .ok (.invokevirtual 97, 3) := by decide +kernel
theorem dL_law_794 : decode cL_law 794 = .ok (.aload_n 2, 1) := by decide +kernel
theorem dL_law_795 : decode cL_law 795 = .ok (.aload_n 0, 1) := by decide +kernel
theorem dL_law_796 : decode cL_law 796 = .ok (.iload_n 3, 1) := by decide +kernel
theorem dL_law_797 : decode cL_law 797 = .ok (.iconst 1, 1) := by decide +kernel
theorem dL_law_798 : decode cL_law 798 = .ok (.iadd, 1) := by decide +kernel
theorem dL_law_799 : decode cL_law 799 = .ok (.iaload, 1) := by decide +kernel
theorem dL_law_800 : decode cL_law 800 = .ok (.aload_n 0, 1) := by decide +kernel
theorem dL_law_801 : decode cL_law 801 = .ok (.iload_n 3, 1) := by decide +kernel
theorem dL_law_802 : decode cL_law 802 = .ok (.iconst 2, 1) := by decide +kernel
theorem dL_law_803 : decode cL_law 803 = .ok (.iadd, 1) := by decide +kernel
theorem dL_law_804 : decode cL_law 804 = .ok (.iaload, 1) := by decide +kernel
theorem dL_law_805 : decode cL_law 805 = .ok (.invokevirtual 100, 3) := by decide +kernel
theorem dL_law_808 : decode cL_law 808 = .ok (.if_icmp .eq 578, 3) := by decide +kernel
theorem dL_law_811 : decode cL_law 811 = .ok (.iconst 0, 1) := by decide +kernel
theorem dL_law_812 : decode cL_law 812 = .ok (.ireturn, 1) := by decide +kernel
theorem dL_law_813 : decode cL_law 813 = .ok (.aload_n 1, 1) := by decide +kernel
theorem dL_law_814 : decode cL_law 814 = .ok (.aload_n 0, 1) := by decide +kernel
theorem dL_law_815 : decode cL_law 815 = .ok (.iload_n 3, 1) := by decide +kernel
theorem dL_law_816 : decode cL_law 816 = .ok (.iconst 1, 1) := by decide +kernel
theorem dL_law_817 : decode cL_law 817 = .ok (.iadd, 1) := by decide +kernel
theorem dL_law_818 : decode cL_law 818 = .ok (.iaload, 1) := by decide +kernel
theorem dL_law_819 : decode cL_law 819 = .ok (.aload_n 0, 1) := by decide +kernel
theorem dL_law_820 : decode cL_law 820 = .ok (.iload_n 3, 1) := by decide +kernel
theorem dL_law_821 : decode cL_law 821 = .ok (.iconst 2, 1) := by decide +kernel
theorem dL_law_822 : decode cL_law 822 = .ok (.iadd, 1) := by decide +kernel
theorem dL_law_823 : decode cL_law 823 = .ok (.iaload, 1) := by decide +kernel
theorem dL_law_824 : decode cL_law 824 = .ok (.invokevirtual 101, 3) := by decide +kernel
theorem dL_law_827 : decode cL_law 827 = .ok (.aload_n 2, 1) := by decide +kernel
theorem dL_law_828 : decode cL_law 828 = .ok (.aload_n 0, 1) := by decide +kernel
theorem dL_law_829 : decode cL_law 829 = .ok (.iload_n 3, 1) := by decide +kernel
theorem dL_law_830 : decode cL_law 830 = .ok (.iconst 1, 1) := by decide +kernel
theorem dL_law_831 : decode cL_law 831 = .ok (.iadd, 1) := by decide +kernel
theorem dL_law_832 : decode cL_law 832 = .ok (.iaload, 1) := by decide +kernel
theorem dL_law_833 : decode cL_law 833 = .ok (.aload_n 0, 1) := by decide +kernel
theorem dL_law_834 : decode cL_law 834 = .ok (.iload_n 3, 1) := by decide +kernel
theorem dL_law_835 : decode cL_law 835 = .ok (.iconst 2, 1) := by decide +kernel
theorem dL_law_836 : decode cL_law 836 = .ok (.iadd, 1) := by decide +kernel
theorem dL_law_837 : decode cL_law 837 = .ok (.iaload, 1) := by decide +kernel
theorem dL_law_838 : decode cL_law 838 = .ok (.invokevirtual 104, 3) := by decide +kernel
theorem dL_law_841 : decode cL_law 841 = .ok (.if_icmp .eq 545, 3) := by decide +kernel
theorem dL_law_844 : decode cL_law 844 = .ok (.iconst 0, 1) := by decide +kernel
theorem dL_law_845 : decode cL_law 845 = .ok (.ireturn, 1) := by decide +kernel
theorem dL_law_846 : decode cL_law 846 = .ok (.aload_n 1, 1) := by decide +kernel
theorem dL_law_847 : decode cL_law 847 = .ok (.aload_n 0, 1) := by decide +kernel
theorem dL_law_848 : decode cL_law 848 = .ok (.iload_n 3, 1) := by decide +kernel
theorem dL_law_849 : decode cL_law 849 = .ok (.iconst 1, 1) := by decide +kernel
theorem dL_law_850 : decode cL_law 850 = .ok (.iadd, 1) := by decide +kernel
theorem dL_law_851 : decode cL_law 851 = .ok (.iaload, 1) := by decide +kernel
theorem dL_law_852 : decode cL_law 852 = .ok (.aload_n 0, 1) := by decide +kernel
theorem dL_law_853 : decode cL_law 853 = .ok (.iload_n 3, 1) := by decide +kernel
theorem dL_law_854 : decode cL_law 854 = .ok (.iconst 2, 1) := by decide +kernel
theorem dL_law_855 : decode cL_law 855 = .ok (.iadd, 1) := by decide +kernel
theorem dL_law_856 : decode cL_law 856 = .ok (.iaload, 1) := by decide +kernel
theorem dL_law_857 : decode cL_law 857 = .ok (.invokevirtual 105, 3) := by decide +kernel
theorem dL_law_860 : decode cL_law 860 = .ok (.aload_n 2, 1) := by decide +kernel
theorem dL_law_861 : decode cL_law 861 = .ok (.aload_n 0, 1) := by decide +kernel
theorem dL_law_862 : decode cL_law 862 = .ok (.iload_n 3, 1) := by decide +kernel
theorem dL_law_863 : decode cL_law 863 = .ok (.iconst 1, 1) := by decide +kernel
theorem dL_law_864 : decode cL_law 864 = .ok (.iadd, 1) := by decide +kernel
theorem dL_law_865 : decode cL_law 865 = .ok (.iaload, 1) := by decide +kernel
theorem dL_law_866 : decode cL_law 866 = .ok (.aload_n 0, 1) := by decide +kernel
theorem dL_law_867 : decode cL_law 867 = .ok (.iload_n 3, 1) := by decide +kernel
theorem dL_law_868 : decode cL_law 868 = .ok (.iconst 2, 1) := by decide +kernel
theorem dL_law_869 : decode cL_law 869 = .ok (.iadd, 1) := by decide +kernel
theorem dL_law_870 : decode cL_law 870 = .ok (.iaload, 1) := by decide +kernel
theorem dL_law_871 : decode cL_law 871 = .ok (.invokevirtual 108, 3) := by decide +kernel
theorem dL_law_874 : decode cL_law 874 = .ok (.if_icmp .eq 512, 3) := by decide +kernel
theorem dL_law_877 : decode cL_law 877 = .ok (.iconst 0, 1) := by decide +kernel
theorem dL_law_878 : decode cL_law 878 = .ok (.ireturn, 1) := by decide +kernel
theorem dL_law_879 : decode cL_law 879 = .ok (.aload_n 1, 1) := by decide +kernel
theorem dL_law_880 : decode cL_law 880 = .ok (.aload_n 0, 1) := by decide +kernel
theorem dL_law_881 : decode cL_law 881 = .ok (.iload_n 3, 1) := by decide +kernel
theorem dL_law_882 : decode cL_law 882 = .ok (.iconst 1, 1) := by decide +kernel
theorem dL_law_883 : decode cL_law 883 = .ok (.iadd, 1) := by decide +kernel
theorem dL_law_884 : decode cL_law 884 = .ok (.iaload, 1) := by decide +kernel
theorem dL_law_885 : decode cL_law 885 = .ok (.aload_n 0, 1) := by decide +kernel
theorem dL_law_886 : decode cL_law 886 = .ok (.iload_n 3, 1) := by decide +kernel
theorem dL_law_887 : decode cL_law 887 = .ok (.iconst 2, 1) := by decide +kernel
theorem dL_law_888 : decode cL_law 888 = .ok (.iadd, 1) := by decide +kernel
theorem dL_law_889 : decode cL_law 889 = .ok (.iaload, 1) := by decide +kernel
theorem dL_law_890 : decode cL_law 890 = .ok (.aload_n 0, 1) := by decide +kernel
theorem dL_law_891 : decode cL_law 891 = .ok (.iload_n 3, 1) := by decide +kernel
theorem dL_law_892 : decode cL_law 892 = .ok (.iconst 3, 1) := by decide +kernel
theorem dL_law_893 : decode cL_law 893 = .ok (.iadd, 1) := by decide +kernel
theorem dL_law_894 : decode cL_law 894 = .ok (.iaload, 1) := by decide +kernel
theorem dL_law_895 : decode cL_law 895 = .ok (.invokevirtual 109, 3) := by decide +kernel
theorem dL_law_898 : decode cL_law 898 = .ok (.aload_n 2, 1) := by decide +kernel
theorem dL_law_899 : decode cL_law 899 = .ok (.aload_n 0, 1) := by decide +kernel
theorem dL_law_900 : decode cL_law 900 = .ok (.iload_n 3, 1) := by decide +kernel
theorem dL_law_901 : decode cL_law 901 = .ok (.iconst 1, 1) := by decide +kernel
theorem dL_law_902 : decode cL_law 902 = .ok (.iadd, 1) := by decide +kernel
theorem dL_law_903 : decode cL_law 903 = .ok (.iaload, 1) := by decide +kernel
theorem dL_law_904 : decode cL_law 904 = .ok (.aload_n 0, 1) := by decide +kernel
theorem dL_law_905 : decode cL_law 905 = .ok (.iload_n 3, 1) := by decide +kernel
theorem dL_law_906 : decode cL_law 906 = .ok (.iconst 2, 1) := by decide +kernel
theorem dL_law_907 : decode cL_law 907 = .ok (.iadd, 1) := by decide +kernel
theorem dL_law_908 : decode cL_law 908 = .ok (.iaload, 1) := by decide +kernel
theorem dL_law_909 : decode cL_law 909 = .ok (.aload_n 0, 1) := by decide +kernel
theorem dL_law_910 : decode cL_law 910 = .ok (.iload_n 3, 1) := by decide +kernel
theorem dL_law_911 : decode cL_law 911 = .ok (.iconst 3, 1) := by decide +kernel
theorem dL_law_912 : decode cL_law 912 = .ok (.iadd, 1) := by decide +kernel
theorem dL_law_913 : decode cL_law 913 = .ok (.iaload, 1) := by decide +kernel
theorem dL_law_914 : decode cL_law 914 = .ok (.invokevirtual 112, 3) := by decide +kernel
theorem dL_law_917 : decode cL_law 917 = .ok (.if_icmp .eq 469, 3) := by decide +kernel
theorem dL_law_920 : decode cL_law 920 = .ok (.iconst 0, 1) := by decide +kernel
theorem dL_law_921 : decode cL_law 921 = .ok (.ireturn, 1) := by decide +kernel
theorem dL_law_922 : decode cL_law 922 = .ok (.aload_n 1, 1) := by decide +kernel
theorem dL_law_923 : decode cL_law 923 = .ok (.invokevirtual 113, 3) := by decide +kernel
theorem dL_law_926 : decode cL_law 926 = .ok (.aload_n 2, 1) := by decide +kernel
theorem dL_law_927 : decode cL_law 927 = .ok (.invokevirtual 117, 3) := by decide +kernel
theorem dL_law_930 : decode cL_law 930 = .ok (.if_icmp .eq 456, 3) := by decide +kernel
theorem dL_law_933 : decode cL_law 933 = .ok (.iconst 0, 1) := by decide +kernel
theorem dL_law_934 : decode cL_law 934 = .ok (.ireturn, 1) := by decide +kernel
theorem dL_law_935 : decode cL_law 935 = .ok (.aload_n 1, 1) := by decide +kernel
theorem dL_law_936 : decode cL_law 936 = .ok (.invokevirtual 118, 3) := by decide +kernel
theorem dL_law_939 : decode cL_law 939 = .ok (.aload_n 2, 1) := by decide +kernel
theorem dL_law_940 : decode cL_law 940 = .ok (.invokevirtual 121, 3) := by decide +kernel
theorem dL_law_943 : decode cL_law 943 = .ok (.if_icmp .eq 443, 3) := by decide +kernel
theorem dL_law_946 : decode cL_law 946 = .ok (.iconst 0, 1) := by decide +kernel
theorem dL_law_947 : decode cL_law 947 = .ok (.ireturn, 1) := by decide +kernel
theorem dL_law_948 : decode cL_law 948 = .ok (.aload_n 1, 1) := by decide +kernel
theorem dL_law_949 : decode cL_law 949 = .ok (.aload_n 0, 1) := by decide +kernel
theorem dL_law_950 : decode cL_law 950 = .ok (.iload_n 3, 1) := by decide +kernel
theorem dL_law_951 : decode cL_law 951 = .ok (.iconst 1, 1) := by decide +kernel
theorem dL_law_952 : decode cL_law 952 = .ok (.iadd, 1) := by decide +kernel
theorem dL_law_953 : decode cL_law 953 = .ok (.iaload, 1) := by decide +kernel
theorem dL_law_954 : decode cL_law 954 = .ok (.invokevirtual 122, 3) := by decide +kernel
theorem dL_law_957 : decode cL_law 957 = .ok (.aload_n 2, 1) := by decide +kernel
theorem dL_law_958 : decode cL_law 958 = .ok (.aload_n 0, 1) := by decide +kernel
theorem dL_law_959 : decode cL_law 959 = .ok (.iload_n 3, 1) := by decide +kernel
theorem dL_law_960 : decode cL_law 960 = .ok (.iconst 1, 1) := by decide +kernel
theorem dL_law_961 : decode cL_law 961 = .ok (.iadd, 1) := by decide +kernel
theorem dL_law_962 : decode cL_law 962 = .ok (.iaload, 1) := by decide +kernel
theorem dL_law_963 : decode cL_law 963 = .ok (.invokevirtual 125, 3) := by decide +kernel
theorem dL_law_966 : decode cL_law 966 = .ok (.if_icmp .eq 420, 3) := by decide +kernel
theorem dL_law_969 : decode cL_law 969 = .ok (.iconst 0, 1) := by decide +kernel
theorem dL_law_970 : decode cL_law 970 = .ok (.ireturn, 1) := by decide +kernel
theorem dL_law_971 : decode cL_law 971 = .ok (.aload_n 1, 1) := by decide +kernel
theorem dL_law_972 : decode cL_law 972 = .ok (.aload_n 0, 1) := by decide +kernel
theorem dL_law_973 : decode cL_law 973 = .ok (.iload_n 3, 1) := by decide +kernel
theorem dL_law_974 : decode cL_law 974 = .ok (.iconst 1, 1) := by decide +kernel
theorem dL_law_975 : decode cL_law 975 = .ok (.iadd, 1) := by decide +kernel
theorem dL_law_976 : decode cL_law 976 = .ok (.iaload, 1) := by decide +kernel
theorem dL_law_977 : decode cL_law 977 = .ok (.invokevirtual 126, 3) := by decide +kernel
theorem dL_law_980 : decode cL_law 980 = .ok (.aload_n 2, 1) := by decide +kernel
theorem dL_law_981 : decode cL_law 981 = .ok (.aload_n 0, 1) := by decide +kernel
theorem dL_law_982 : decode cL_law 982 = .ok (.iload_n 3, 1) := by decide +kernel
theorem dL_law_983 : decode cL_law 983 = .ok (.iconst 1, 1) := by decide +kernel
theorem dL_law_984 : decode cL_law 984 = .ok (.iadd, 1) := by decide +kernel
theorem dL_law_985 : decode cL_law 985 = .ok (.iaload, 1) := by decide +kernel
theorem dL_law_986 : decode cL_law 986 = .ok (.invokevirtual 129, 3) := by decide +kernel
theorem dL_law_989 : decode cL_law 989 = .ok (.if_icmp .eq 397, 3) := by decide +kernel
theorem dL_law_992 : decode cL_law 992 = .ok (.iconst 0, 1) := by decide +kernel
theorem dL_law_993 : decode cL_law 993 = .ok (.ireturn, 1) := by decide +kernel
theorem dL_law_994 : decode cL_law 994 = .ok (.aload_n 1, 1) := by decide +kernel
theorem dL_law_995 : decode cL_law 995 = .ok (.aload_n 0, 1) := by decide +kernel
theorem dL_law_996 : decode cL_law 996 = .ok (.iload_n 3, 1) := by decide +kernel
theorem dL_law_997 : decode cL_law 997 = .ok (.iconst 1, 1) := by decide +kernel
theorem dL_law_998 : decode cL_law 998 = .ok (.iadd, 1) := by decide +kernel
theorem dL_law_999 : decode cL_law 999 = .ok (.iaload, 1) := by decide +kernel
theorem dL_law_1000 : decode cL_law 1000 = .ok (.aload_n 0, 1) := by decide +kernel
theorem dL_law_1001 : decode cL_law 1001 = .ok (.iload_n 3, 1) := by decide +kernel
theorem dL_law_1002 : decode cL_law 1002 = .ok (.iconst 2, 1) := by decide +kernel
theorem dL_law_1003 : decode cL_law 1003 = .ok (.iadd, 1) := by decide +kernel
theorem dL_law_1004 : decode cL_law 1004 = .ok (.iaload, 1) := by decide +kernel
theorem dL_law_1005 : decode cL_law 1005 = .ok (.aload_n 0, 1) := by decide +kernel
theorem dL_law_1006 : decode cL_law 1006 = .ok (.iload_n 3, 1) := by decide +kernel
theorem dL_law_1007 : decode cL_law 1007 = .ok (.iconst 3, 1) := by decide +kernel
theorem dL_law_1008 : decode cL_law 1008 = .ok (.iadd, 1) := by decide +kernel
theorem dL_law_1009 : decode cL_law 1009 = .ok (.iaload, 1) := by decide +kernel
theorem dL_law_1010 : decode cL_law 1010 = .ok (.aload_n 0, 1) := by decide +kernel
theorem dL_law_1011 : decode cL_law 1011 = .ok (.iload_n 3, 1) := by decide +kernel
theorem dL_law_1012 : decode cL_law 1012 = .ok (.iconst 4, 1) := by decide +kernel
theorem dL_law_1013 : decode cL_law 1013 = .ok (.iadd, 1) := by decide +kernel
theorem dL_law_1014 : decode cL_law 1014 = .ok (.iaload, 1) := by decide +kernel
theorem dL_law_1015 : decode cL_law 1015 = .ok (.invokevirtual 130, 3) := by decide +kernel
theorem dL_law_1018 : decode cL_law 1018 = .ok (.aload_n 2, 1) := by decide +kernel
theorem dL_law_1019 : decode cL_law 1019 = .ok (.aload_n 0, 1) := by decide +kernel
theorem dL_law_1020 : decode cL_law 1020 = .ok (.iload_n 3, 1) := by decide +kernel
theorem dL_law_1021 : decode cL_law 1021 = .ok (.iconst 1, 1) := by decide +kernel
theorem dL_law_1022 : decode cL_law 1022 = .ok (.iadd, 1) := by decide +kernel
theorem dL_law_1023 : decode cL_law 1023 = .ok (.iaload, 1) := by decide +kernel
theorem dL_law_1024 : decode cL_law 1024 = .ok (.aload_n 0, 1) := by decide +kernel
theorem dL_law_1025 : decode cL_law 1025 = .ok (.iload_n 3, 1) := by decide +kernel
theorem dL_law_1026 : decode cL_law 1026 = .ok (.iconst 2, 1) := by decide +kernel
theorem dL_law_1027 : decode cL_law 1027 = .ok (.iadd, 1) := by decide +kernel
theorem dL_law_1028 : decode cL_law 1028 = .ok (.iaload, 1) := by decide +kernel
theorem dL_law_1029 : decode cL_law 1029 = .ok (.aload_n 0, 1) := by decide +kernel
theorem dL_law_1030 : decode cL_law 1030 = .ok (.iload_n 3, 1) := by decide +kernel
theorem dL_law_1031 : decode cL_law 1031 = .ok (.iconst 3, 1) := by decide +kernel
theorem dL_law_1032 : decode cL_law 1032 = .ok (.iadd, 1) := by decide +kernel
theorem dL_law_1033 : decode cL_law 1033 = .ok (.iaload, 1) := by decide +kernel
theorem dL_law_1034 : decode cL_law 1034 = .ok (.aload_n 0, 1) := by decide +kernel
theorem dL_law_1035 : decode cL_law 1035 = .ok (.iload_n 3, 1) := by decide +kernel
theorem dL_law_1036 : decode cL_law 1036 = .ok (.iconst 4, 1) := by decide +kernel
theorem dL_law_1037 : decode cL_law 1037 = .ok (.iadd, 1) := by decide +kernel
theorem dL_law_1038 : decode cL_law 1038 = .ok (.iaload, 1) := by decide +kernel
theorem dL_law_1039 : decode cL_law 1039 = .ok (.invokevirtual 134, 3) := by decide +kernel
theorem dL_law_1042 : decode cL_law 1042 = .ok (.lcmp, 1) := by decide +kernel
theorem dL_law_1043 : decode cL_law 1043 = .ok (.ifCond .eq 343, 3) := by decide +kernel
theorem dL_law_1046 : decode cL_law 1046 = .ok (.iconst 0, 1) := by decide +kernel
theorem dL_law_1047 : decode cL_law 1047 = .ok (.ireturn, 1) := by decide +kernel
theorem dL_law_1048 : decode cL_law 1048 = .ok (.aload_n 1, 1) := by decide +kernel
theorem dL_law_1049 : decode cL_law 1049 = .ok (.aload_n 0, 1) := by decide +kernel
theorem dL_law_1050 : decode cL_law 1050 = .ok (.iload_n 3, 1) := by decide +kernel
theorem dL_law_1051 : decode cL_law 1051 = .ok (.iconst 1, 1) := by decide +kernel
theorem dL_law_1052 : decode cL_law 1052 = .ok (.iadd, 1) := by decide +kernel
theorem dL_law_1053 : decode cL_law 1053 = .ok (.iaload, 1) := by decide +kernel
theorem dL_law_1054 : decode cL_law 1054 = .ok (.aload_n 0, 1) := by decide +kernel
theorem dL_law_1055 : decode cL_law 1055 = .ok (.iload_n 3, 1) := by decide +kernel
theorem dL_law_1056 : decode cL_law 1056 = .ok (.iconst 2, 1) := by decide +kernel
theorem dL_law_1057 : decode cL_law 1057 = .ok (.iadd, 1) := by decide +kernel
theorem dL_law_1058 : decode cL_law 1058 = .ok (.iaload, 1) := by decide +kernel
theorem dL_law_1059 : decode cL_law 1059 = .ok (.aload_n 0, 1) := by decide +kernel
theorem dL_law_1060 : decode cL_law 1060 = .ok (.iload_n 3, 1) := by decide +kernel
theorem dL_law_1061 : decode cL_law 1061 = .ok (.iconst 3, 1) := by decide +kernel
theorem dL_law_1062 : decode cL_law 1062 = .ok (.iadd, 1) := by decide +kernel
theorem dL_law_1063 : decode cL_law 1063 = .ok (.iaload, 1) := by decide +kernel
theorem dL_law_1064 : decode cL_law 1064 = .ok (.invokevirtual 135, 3) := by decide +kernel
theorem dL_law_1067 : decode cL_law 1067 = .ok (.aload_n 2, 1) := by decide +kernel
theorem dL_law_1068 : decode cL_law 1068 = .ok (.aload_n 0, 1) := by decide +kernel
theorem dL_law_1069 : decode cL_law 1069 = .ok (.iload_n 3, 1) := by decide +kernel
theorem dL_law_1070 : decode cL_law 1070 = .ok (.iconst 1, 1) := by decide +kernel
theorem dL_law_1071 : decode cL_law 1071 = .ok (.iadd, 1) := by decide +kernel
theorem dL_law_1072 : decode cL_law 1072 = .ok (.iaload, 1) := by decide +kernel
theorem dL_law_1073 : decode cL_law 1073 = .ok (.aload_n 0, 1) := by decide +kernel
theorem dL_law_1074 : decode cL_law 1074 = .ok (.iload_n 3, 1) := by decide +kernel
theorem dL_law_1075 : decode cL_law 1075 = .ok (.iconst 2, 1) := by decide +kernel
theorem dL_law_1076 : decode cL_law 1076 = .ok (.iadd, 1) := by decide +kernel
theorem dL_law_1077 : decode cL_law 1077 = .ok (.iaload, 1) := by decide +kernel
theorem dL_law_1078 : decode cL_law 1078 = .ok (.aload_n 0, 1) := by decide +kernel
theorem dL_law_1079 : decode cL_law 1079 = .ok (.iload_n 3, 1) := by decide +kernel
theorem dL_law_1080 : decode cL_law 1080 = .ok (.iconst 3, 1) := by decide +kernel
theorem dL_law_1081 : decode cL_law 1081 = .ok (.iadd, 1) := by decide +kernel
theorem dL_law_1082 : decode cL_law 1082 = .ok (.iaload, 1) := by decide +kernel
theorem dL_law_1083 : decode cL_law 1083 = .ok (.invokevirtual 138, 3) := by decide +kernel
theorem dL_law_1086 : decode cL_law 1086 = .ok (.if_icmp .eq 300, 3) := by decide +kernel
theorem dL_law_1089 : decode cL_law 1089 = .ok (.iconst 0, 1) := by decide +kernel
theorem dL_law_1090 : decode cL_law 1090 = .ok (.ireturn, 1) := by decide +kernel
theorem dL_law_1091 : decode cL_law 1091 = .ok (.aload_n 1, 1) := by decide +kernel
theorem dL_law_1092 : decode cL_law 1092 = .ok (.aload_n 0, 1) := by decide +kernel
theorem dL_law_1093 : decode cL_law 1093 = .ok (.iload_n 3, 1) := by decide +kernel
theorem dL_law_1094 : decode cL_law 1094 = .ok (.iconst 1, 1) := by decide +kernel
theorem dL_law_1095 : decode cL_law 1095 = .ok (.iadd, 1) := by decide +kernel
theorem dL_law_1096 : decode cL_law 1096 = .ok (.iaload, 1) := by decide +kernel
theorem dL_law_1097 : decode cL_law 1097 = .ok (.aload_n 0, 1) := by decide +kernel
theorem dL_law_1098 : decode cL_law 1098 = .ok (.iload_n 3, 1) := by decide +kernel
theorem dL_law_1099 : decode cL_law 1099 = .ok (.iconst 2, 1) := by decide +kernel
theorem dL_law_1100 : decode cL_law 1100 = .ok (.iadd, 1) := by decide +kernel
theorem dL_law_1101 : decode cL_law 1101 = .ok (.iaload, 1) := by decide +kernel
theorem dL_law_1102 : decode cL_law 1102 = .ok (.aload_n 0, 1) := by decide +kernel
theorem dL_law_1103 : decode cL_law 1103 = .ok (.iload_n 3, 1) := by decide +kernel
theorem dL_law_1104 : decode cL_law 1104 = .ok (.iconst 3, 1) := by decide +kernel
theorem dL_law_1105 : decode cL_law 1105 = .ok (.iadd, 1) := by decide +kernel
theorem dL_law_1106 : decode cL_law 1106 = .ok (.iaload, 1) := by decide +kernel
theorem dL_law_1107 : decode cL_law 1107 = .ok (.invokevirtual 139, 3) := by decide +kernel
theorem dL_law_1110 : decode cL_law 1110 = .ok (.aload_n 2, 1) := by decide +kernel
theorem dL_law_1111 : decode cL_law 1111 = .ok (.aload_n 0, 1) := by decide +kernel
theorem dL_law_1112 : decode cL_law 1112 = .ok (.iload_n 3, 1) := by decide +kernel
theorem dL_law_1113 : decode cL_law 1113 = .ok (.iconst 1, 1) := by decide +kernel
theorem dL_law_1114 : decode cL_law 1114 = .ok (.iadd, 1) := by decide +kernel
theorem dL_law_1115 : decode cL_law 1115 = .ok (.iaload, 1) := by decide +kernel
theorem dL_law_1116 : decode cL_law 1116 = .ok (.aload_n 0, 1) := by decide +kernel
theorem dL_law_1117 : decode cL_law 1117 = .ok (.iload_n 3, 1) := by decide +kernel
theorem dL_law_1118 : decode cL_law 1118 = .ok (.iconst 2, 1) := by decide +kernel
theorem dL_law_1119 : decode cL_law 1119 = .ok (.iadd, 1) := by decide +kernel
theorem dL_law_1120 : decode cL_law 1120 = .ok (.iaload, 1) := by decide +kernel
theorem dL_law_1121 : decode cL_law 1121 = .ok (.aload_n 0, 1) := by decide +kernel
theorem dL_law_1122 : decode cL_law 1122 = .ok (.iload_n 3, 1) := by decide +kernel
theorem dL_law_1123 : decode cL_law 1123 = .ok (.iconst 3, 1) := by decide +kernel
theorem dL_law_1124 : decode cL_law 1124 = .ok (.iadd, 1) := by decide +kernel
theorem dL_law_1125 : decode cL_law 1125 = .ok (.iaload, 1) := by decide +kernel
theorem dL_law_1126 : decode cL_law 1126 = .ok (.invokevirtual 142, 3) := by decide +kernel
theorem dL_law_1129 : decode cL_law 1129 = .ok (.if_icmp .eq 257, 3) := by decide +kernel
theorem dL_law_1132 : decode cL_law 1132 = .ok (.iconst 0, 1) := by decide +kernel
theorem dL_law_1133 : decode cL_law 1133 = .ok (.ireturn, 1) := by decide +kernel
theorem dL_law_1134 : decode cL_law 1134 = .ok (.aload_n 1, 1) := by decide +kernel
theorem dL_law_1135 : decode cL_law 1135 = .ok (.aload_n 0, 1) := by decide +kernel
theorem dL_law_1136 : decode cL_law 1136 = .ok (.iload_n 3, 1) := by decide +kernel
theorem dL_law_1137 : decode cL_law 1137 = .ok (.iconst 1, 1) := by decide +kernel
theorem dL_law_1138 : decode cL_law 1138 = .ok (.iadd, 1) := by decide +kernel
theorem dL_law_1139 : decode cL_law 1139 = .ok (.iaload, 1) := by decide +kernel
theorem dL_law_1140 : decode cL_law 1140 = .ok (.invokevirtual 143, 3) := by decide +kernel
theorem dL_law_1143 : decode cL_law 1143 = .ok (.aload_n 2, 1) := by decide +kernel
theorem dL_law_1144 : decode cL_law 1144 = .ok (.aload_n 0, 1) := by decide +kernel
theorem dL_law_1145 : decode cL_law 1145 = .ok (.iload_n 3, 1) := by decide +kernel
theorem dL_law_1146 : decode cL_law 1146 = .ok (.iconst 1, 1) := by decide +kernel
theorem dL_law_1147 : decode cL_law 1147 = .ok (.iadd, 1) := by decide +kernel
theorem dL_law_1148 : decode cL_law 1148 = .ok (.iaload, 1) := by decide +kernel
theorem dL_law_1149 : decode cL_law 1149 = .ok (.invokevirtual 146, 3) := by decide +kernel
theorem dL_law_1152 : decode cL_law 1152 = .ok (.if_icmp .eq 234, 3) := by decide +kernel
theorem dL_law_1155 : decode cL_law 1155 = .ok (.iconst 0, 1) := by decide +kernel
theorem dL_law_1156 : decode cL_law 1156 = .ok (.ireturn, 1) := by decide +kernel
theorem dL_law_1157 : decode cL_law 1157 = .ok (.aload_n 1, 1) := by decide +kernel
theorem dL_law_1158 : decode cL_law 1158 = .ok (.aload_n 0, 1) := by decide +kernel
theorem dL_law_1159 : decode cL_law 1159 = .ok (.iload_n 3, 1) := by decide +kernel
theorem dL_law_1160 : decode cL_law 1160 = .ok (.iconst 1, 1) := by decide +kernel
theorem dL_law_1161 : decode cL_law 1161 = .ok (.iadd, 1) := by decide +kernel
theorem dL_law_1162 : decode cL_law 1162 = .ok (.iaload, 1) := by decide +kernel
theorem dL_law_1163 : decode cL_law 1163 = .ok (.aload_n 0, 1) := by decide +kernel
theorem dL_law_1164 : decode cL_law 1164 = .ok (.iload_n 3, 1) := by decide +kernel
theorem dL_law_1165 : decode cL_law 1165 = .ok (.iconst 2, 1) := by decide +kernel
theorem dL_law_1166 : decode cL_law 1166 = .ok (.iadd, 1) := by decide +kernel
theorem dL_law_1167 : decode cL_law 1167 = .ok (.iaload, 1) := by decide +kernel
theorem dL_law_1168 : decode cL_law 1168 = .ok (.aload_n 0, 1) := by decide +kernel
theorem dL_law_1169 : decode cL_law 1169 = .ok (.iload_n 3, 1) := by decide +kernel
theorem dL_law_1170 : decode cL_law 1170 = .ok (.iconst 3, 1) := by decide +kernel
theorem dL_law_1171 : decode cL_law 1171 = .ok (.iadd, 1) := by decide +kernel
theorem dL_law_1172 : decode cL_law 1172 = .ok (.iaload, 1) := by decide +kernel
theorem dL_law_1173 : decode cL_law 1173 = .ok (.aload_n 0, 1) := by decide +kernel
theorem dL_law_1174 : decode cL_law 1174 = .ok (.iload_n 3, 1) := by decide +kernel
theorem dL_law_1175 : decode cL_law 1175 = .ok (.iconst 4, 1) := by decide +kernel
theorem dL_law_1176 : decode cL_law 1176 = .ok (.iadd, 1) := by decide +kernel
theorem dL_law_1177 : decode cL_law 1177 = .ok (.iaload, 1) := by decide +kernel
theorem dL_law_1178 : decode cL_law 1178 = .ok (.invokevirtual 147, 3) := by decide +kernel
theorem dL_law_1181 : decode cL_law 1181 = .ok (.aload_n 2, 1) := by decide +kernel
theorem dL_law_1182 : decode cL_law 1182 = .ok (.aload_n 0, 1) := by decide +kernel
theorem dL_law_1183 : decode cL_law 1183 = .ok (.iload_n 3, 1) := by decide +kernel
theorem dL_law_1184 : decode cL_law 1184 = .ok (.iconst 1, 1) := by decide +kernel
theorem dL_law_1185 : decode cL_law 1185 = .ok (.iadd, 1) := by decide +kernel
theorem dL_law_1186 : decode cL_law 1186 = .ok (.iaload, 1) := by decide +kernel
theorem dL_law_1187 : decode cL_law 1187 = .ok (.aload_n 0, 1) := by decide +kernel
theorem dL_law_1188 : decode cL_law 1188 = .ok (.iload_n 3, 1) := by decide +kernel
theorem dL_law_1189 : decode cL_law 1189 = .ok (.iconst 2, 1) := by decide +kernel
theorem dL_law_1190 : decode cL_law 1190 = .ok (.iadd, 1) := by decide +kernel
theorem dL_law_1191 : decode cL_law 1191 = .ok (.iaload, 1) := by decide +kernel
theorem dL_law_1192 : decode cL_law 1192 = .ok (.aload_n 0, 1) := by decide +kernel
theorem dL_law_1193 : decode cL_law 1193 = .ok (.iload_n 3, 1) := by decide +kernel
theorem dL_law_1194 : decode cL_law 1194 = .ok (.iconst 3, 1) := by decide +kernel
theorem dL_law_1195 : decode cL_law 1195 = .ok (.iadd, 1) := by decide +kernel
theorem dL_law_1196 : decode cL_law 1196 = .ok (.iaload, 1) := by decide +kernel
theorem dL_law_1197 : decode cL_law 1197 = .ok (.aload_n 0, 1) := by decide +kernel
theorem dL_law_1198 : decode cL_law 1198 = .ok (.iload_n 3, 1) := by decide +kernel
theorem dL_law_1199 : decode cL_law 1199 = .ok (.iconst 4, 1) := by decide +kernel
theorem dL_law_1200 : decode cL_law 1200 = .ok (.iadd, 1) := by decide +kernel
theorem dL_law_1201 : decode cL_law 1201 = .ok (.iaload, 1) := by decide +kernel
theorem dL_law_1202 : decode cL_law 1202 = .ok (.invokevirtual 150, 3) := by decide +kernel
theorem dL_law_1205 : decode cL_law 1205 = .ok (.if_icmp .eq 181, 3) := by decide +kernel
theorem dL_law_1208 : decode cL_law 1208 = .ok (.iconst 0, 1) := by decide +kernel
theorem dL_law_1209 : decode cL_law 1209 = .ok (.ireturn, 1) := by decide +kernel
theorem dL_law_1210 : decode cL_law 1210 = .ok (.aload_n 1, 1) := by decide +kernel
theorem dL_law_1211 : decode cL_law 1211 = .ok (.aload_n 0, 1) := by decide +kernel
theorem dL_law_1212 : decode cL_law 1212 = .ok (.iload_n 3, 1) := by decide +kernel
theorem dL_law_1213 : decode cL_law 1213 = .ok (.iconst 1, 1) := by decide +kernel
theorem dL_law_1214 : decode cL_law 1214 = .ok (.iadd, 1) := by decide +kernel
theorem dL_law_1215 : decode cL_law 1215 = .ok (.iaload, 1) := by decide +kernel
theorem dL_law_1216 : decode cL_law 1216 = .ok (.aload_n 0, 1) := by decide +kernel
theorem dL_law_1217 : decode cL_law 1217 = .ok (.iload_n 3, 1) := by decide +kernel
theorem dL_law_1218 : decode cL_law 1218 = .ok (.iconst 2, 1) := by decide +kernel
theorem dL_law_1219 : decode cL_law 1219 = .ok (.iadd, 1) := by decide +kernel
theorem dL_law_1220 : decode cL_law 1220 = .ok (.iaload, 1) := by decide +kernel
theorem dL_law_1221 : decode cL_law 1221 = .ok (.aload_n 0, 1) := by decide +kernel
theorem dL_law_1222 : decode cL_law 1222 = .ok (.iload_n 3, 1) := by decide +kernel
theorem dL_law_1223 : decode cL_law 1223 = .ok (.iconst 3, 1) := by decide +kernel
theorem dL_law_1224 : decode cL_law 1224 = .ok (.iadd, 1) := by decide +kernel
theorem dL_law_1225 : decode cL_law 1225 = .ok (.iaload, 1) := by decide +kernel
theorem dL_law_1226 : decode cL_law 1226 = .ok (.invokevirtual 151, 3) := by decide +kernel
theorem dL_law_1229 : decode cL_law 1229 = .ok (.aload_n 2, 1) := by decide +kernel
theorem dL_law_1230 : decode cL_law 1230 = .ok (.aload_n 0, 1) := by decide +kernel
theorem dL_law_1231 : decode cL_law 1231 = .ok (.iload_n 3, 1) := by decide +kernel
theorem dL_law_1232 : decode cL_law 1232 = .ok (.iconst 1, 1) := by decide +kernel
theorem dL_law_1233 : decode cL_law 1233 = .ok (.iadd, 1) := by decide +kernel
theorem dL_law_1234 : decode cL_law 1234 = .ok (.iaload, 1) := by decide +kernel
theorem dL_law_1235 : decode cL_law 1235 = .ok (.aload_n 0, 1) := by decide +kernel
theorem dL_law_1236 : decode cL_law 1236 = .ok (.iload_n 3, 1) := by decide +kernel
theorem dL_law_1237 : decode cL_law 1237 = .ok (.iconst 2, 1) := by decide +kernel
theorem dL_law_1238 : decode cL_law 1238 = .ok (.iadd, 1) := by decide +kernel
theorem dL_law_1239 : decode cL_law 1239 = .ok (.iaload, 1) := by decide +kernel
theorem dL_law_1240 : decode cL_law 1240 = .ok (.aload_n 0, 1) := by decide +kernel
theorem dL_law_1241 : decode cL_law 1241 = .ok (.iload_n 3, 1) := by decide +kernel
theorem dL_law_1242 : decode cL_law 1242 = .ok (.iconst 3, 1) := by decide +kernel
theorem dL_law_1243 : decode cL_law 1243 = .ok (.iadd, 1) := by decide +kernel
theorem dL_law_1244 : decode cL_law 1244 = .ok (.iaload, 1) := by decide +kernel
theorem dL_law_1245 : decode cL_law 1245 = .ok (.invokevirtual 154, 3) := by decide +kernel
theorem dL_law_1248 : decode cL_law 1248 = .ok (.if_icmp .eq 138, 3) := by decide +kernel
theorem dL_law_1251 : decode cL_law 1251 = .ok (.iconst 0, 1) := by decide +kernel
theorem dL_law_1252 : decode cL_law 1252 = .ok (.ireturn, 1) := by decide +kernel
theorem dL_law_1253 : decode cL_law 1253 = .ok (.aload_n 1, 1) := by decide +kernel
theorem dL_law_1254 : decode cL_law 1254 = .ok (.aload_n 0, 1) := by decide +kernel
theorem dL_law_1255 : decode cL_law 1255 = .ok (.iload_n 3, 1) := by decide +kernel
theorem dL_law_1256 : decode cL_law 1256 = .ok (.iconst 1, 1) := by decide +kernel
theorem dL_law_1257 : decode cL_law 1257 = .ok (.iadd, 1) := by decide +kernel
theorem dL_law_1258 : decode cL_law 1258 = .ok (.iaload, 1) := by decide +kernel
theorem dL_law_1259 : decode cL_law 1259 = .ok (.aload_n 0, 1) := by decide +kernel
theorem dL_law_1260 : decode cL_law 1260 = .ok (.iload_n 3, 1) := by decide +kernel
theorem dL_law_1261 : decode cL_law 1261 = .ok (.iconst 2, 1) := by decide +kernel
theorem dL_law_1262 : decode cL_law 1262 = .ok (.iadd, 1) := by decide +kernel
theorem dL_law_1263 : decode cL_law 1263 = .ok (.iaload, 1) := by decide +kernel
theorem dL_law_1264 : decode cL_law 1264 = .ok (.aload_n 0, 1) := by decide +kernel
theorem dL_law_1265 : decode cL_law 1265 = .ok (.iload_n 3, 1) := by decide +kernel
theorem dL_law_1266 : decode cL_law 1266 = .ok (.iconst 3, 1) := by decide +kernel
theorem dL_law_1267 : decode cL_law 1267 = .ok (.iadd, 1) := by decide +kernel
theorem dL_law_1268 : decode cL_law 1268 = .ok (.iaload, 1) := by decide +kernel
theorem dL_law_1269 : decode cL_law 1269 = .ok (.aload_n 0, 1) := by decide +kernel
theorem dL_law_1270 : decode cL_law 1270 = .ok (.iload_n 3, 1) := by decide +kernel
theorem dL_law_1271 : decode cL_law 1271 = .ok (.iconst 4, 1) := by decide +kernel
theorem dL_law_1272 : decode cL_law 1272 = .ok (.iadd, 1) := by decide +kernel
theorem dL_law_1273 : decode cL_law 1273 = .ok (.iaload, 1) := by decide +kernel
theorem dL_law_1274 : decode cL_law 1274 = .ok (.aload_n 0, 1) := by decide +kernel
theorem dL_law_1275 : decode cL_law 1275 = .ok (.iload_n 3, 1) := by decide +kernel
theorem dL_law_1276 : decode cL_law 1276 = .ok (.iconst 5, 1) := by decide +kernel
theorem dL_law_1277 : decode cL_law 1277 = .ok (.iadd, 1) := by decide +kernel
theorem dL_law_1278 : decode cL_law 1278 = .ok (.iaload, 1) := by decide +kernel
theorem dL_law_1279 : decode cL_law 1279 = .ok (.invokevirtual 155, 3) := by decide +kernel
theorem dL_law_1282 : decode cL_law 1282 = .ok (.aload_n 2, 1) := by decide +kernel
theorem dL_law_1283 : decode cL_law 1283 = .ok (.aload_n 0, 1) := by decide +kernel
theorem dL_law_1284 : decode cL_law 1284 = .ok (.iload_n 3, 1) := by decide +kernel
theorem dL_law_1285 : decode cL_law 1285 = .ok (.iconst 1, 1) := by decide +kernel
theorem dL_law_1286 : decode cL_law 1286 = .ok (.iadd, 1) := by decide +kernel
theorem dL_law_1287 : decode cL_law 1287 = .ok (.iaload, 1) := by decide +kernel
theorem dL_law_1288 : decode cL_law 1288 = .ok (.aload_n 0, 1) := by decide +kernel
theorem dL_law_1289 : decode cL_law 1289 = .ok (.iload_n 3, 1) := by decide +kernel
theorem dL_law_1290 : decode cL_law 1290 = .ok (.iconst 2, 1) := by decide +kernel
theorem dL_law_1291 : decode cL_law 1291 = .ok (.iadd, 1) := by decide +kernel
theorem dL_law_1292 : decode cL_law 1292 = .ok (.iaload, 1) := by decide +kernel
theorem dL_law_1293 : decode cL_law 1293 = .ok (.aload_n 0, 1) := by decide +kernel
theorem dL_law_1294 : decode cL_law 1294 = .ok (.iload_n 3, 1) := by decide +kernel
theorem dL_law_1295 : decode cL_law 1295 = .ok (.iconst 3, 1) := by decide +kernel
theorem dL_law_1296 : decode cL_law 1296 = .ok (.iadd, 1) := by decide +kernel
theorem dL_law_1297 : decode cL_law 1297 = .ok (.iaload, 1) := by decide +kernel
theorem dL_law_1298 : decode cL_law 1298 = .ok (.aload_n 0, 1) := by decide +kernel
theorem dL_law_1299 : decode cL_law 1299 = .ok (.iload_n 3, 1) := by decide +kernel
theorem dL_law_1300 : decode cL_law 1300 = .ok (.iconst 4, 1) := by decide +kernel
theorem dL_law_1301 : decode cL_law 1301 = .ok (.iadd, 1) := by decide +kernel
theorem dL_law_1302 : decode cL_law 1302 = .ok (.iaload, 1) := by decide +kernel
theorem dL_law_1303 : decode cL_law 1303 = .ok (.aload_n 0, 1) := by decide +kernel
theorem dL_law_1304 : decode cL_law 1304 = .ok (.iload_n 3, 1) := by decide +kernel
theorem dL_law_1305 : decode cL_law 1305 = .ok (.iconst 5, 1) := by decide +kernel
theorem dL_law_1306 : decode cL_law 1306 = .ok (.iadd, 1) := by decide +kernel
theorem dL_law_1307 : decode cL_law 1307 = .ok (.iaload, 1) := by decide +kernel
theorem dL_law_1308 : decode cL_law 1308 = .ok (.invokevirtual 159, 3) := by decide +kernel
theorem dL_law_1311 : decode cL_law 1311 = .ok (.if_icmp .eq 75, 3) := by decide +kernel
theorem dL_law_1314 : decode cL_law 1314 = .ok (.iconst 0, 1) := by decide +kernel
theorem dL_law_1315 : decode cL_law 1315 = .ok (.ireturn, 1) := by decide +kernel
theorem dL_law_1316 : decode cL_law 1316 = .ok (.aload_n 1, 1) := by decide +kernel
theorem dL_law_1317 : decode cL_law 1317 = .ok (.aload_n 0, 1) := by decide +kernel
theorem dL_law_1318 : decode cL_law 1318 = .ok (.iload_n 3, 1) := by decide +kernel
theorem dL_law_1319 : decode cL_law 1319 = .ok (.iconst 1, 1) := by decide +kernel
theorem dL_law_1320 : decode cL_law 1320 = .ok (.iadd, 1) := by decide +kernel
theorem dL_law_1321 : decode cL_law 1321 = .ok (.iaload, 1) := by decide +kernel
theorem dL_law_1322 : decode cL_law 1322 = .ok (.aload_n 0, 1) := by decide +kernel
theorem dL_law_1323 : decode cL_law 1323 = .ok (.iload_n 3, 1) := by decide +kernel
theorem dL_law_1324 : decode cL_law 1324 = .ok (.iconst 2, 1) := by decide +kernel
theorem dL_law_1325 : decode cL_law 1325 = .ok (.iadd, 1) := by decide +kernel
theorem dL_law_1326 : decode cL_law 1326 = .ok (.iaload, 1) := by decide +kernel
theorem dL_law_1327 : decode cL_law 1327 = .ok (.invokevirtual 160, 3) := by decide +kernel
theorem dL_law_1330 : decode cL_law 1330 = .ok (.aload_n 2, 1) := by decide +kernel
theorem dL_law_1331 : decode cL_law 1331 = .ok (.aload_n 0, 1) := by decide +kernel
theorem dL_law_1332 : decode cL_law 1332 = .ok (.iload_n 3, 1) := by decide +kernel
theorem dL_law_1333 : decode cL_law 1333 = .ok (.iconst 1, 1) := by decide +kernel
theorem dL_law_1334 : decode cL_law 1334 = .ok (.iadd, 1) := by decide +kernel
theorem dL_law_1335 : decode cL_law 1335 = .ok (.iaload, 1) := by decide +kernel
theorem dL_law_1336 : decode cL_law 1336 = .ok (.aload_n 0, 1) := by decide +kernel
theorem dL_law_1337 : decode cL_law 1337 = .ok (.iload_n 3, 1) := by decide +kernel
theorem dL_law_1338 : decode cL_law 1338 = .ok (.iconst 2, 1) := by decide +kernel
theorem dL_law_1339 : decode cL_law 1339 = .ok (.iadd, 1) := by decide +kernel
theorem dL_law_1340 : decode cL_law 1340 = .ok (.iaload, 1) := by decide +kernel
theorem dL_law_1341 : decode cL_law 1341 = .ok (.invokevirtual 163, 3) := by decide +kernel
theorem dL_law_1344 : decode cL_law 1344 = .ok (.if_icmp .eq 42, 3) := by decide +kernel
theorem dL_law_1347 : decode cL_law 1347 = .ok (.iconst 0, 1) := by decide +kernel
theorem dL_law_1348 : decode cL_law 1348 = .ok (.ireturn, 1) := by decide +kernel
theorem dL_law_1349 : decode cL_law 1349 = .ok (.aload_n 1, 1) := by decide +kernel
theorem dL_law_1350 : decode cL_law 1350 = .ok (.aload_n 0, 1) := by decide +kernel
theorem dL_law_1351 : decode cL_law 1351 = .ok (.iload_n 3, 1) := by decide +kernel
theorem dL_law_1352 : decode cL_law 1352 = .ok (.iconst 1, 1) := by decide +kernel
theorem dL_law_1353 : decode cL_law 1353 = .ok (.iadd, 1) := by decide +kernel
theorem dL_law_1354 : decode cL_law 1354 = .ok (.iaload, 1) := by decide +kernel
theorem dL_law_1355 : decode cL_law 1355 = .ok (.invokevirtual 164, 3) := by decide +kernel
theorem dL_law_1358 : decode cL_law 1358 = .ok (.aload_n 2, 1) := by decide +kernel
theorem dL_law_1359 : decode cL_law 1359 = .ok (.aload_n 0, 1) := by decide +kernel
theorem dL_law_1360 : decode cL_law 1360 = .ok (.iload_n 3, 1) := by decide +kernel
theorem dL_law_1361 : decode cL_law 1361 = .ok (.iconst 1, 1) := by decide +kernel
theorem dL_law_1362 : decode cL_law 1362 = .ok (.iadd, 1) := by decide +kernel
theorem dL_law_1363 : decode cL_law 1363 = .ok (.iaload, 1) := by decide +kernel
theorem dL_law_1364 : decode cL_law 1364 = .ok (.invokevirtual 167, 3) := by decide +kernel
theorem dL_law_1367 : decode cL_law 1367 = .ok (.if_icmp .eq 19, 3) := by decide +kernel
theorem dL_law_1370 : decode cL_law 1370 = .ok (.iconst 0, 1) := by decide +kernel
theorem dL_law_1371 : decode cL_law 1371 = .ok (.ireturn, 1) := by decide +kernel
theorem dL_law_1372 : decode cL_law 1372 = .ok (.aload_n 1, 1) := by decide +kernel
theorem dL_law_1373 : decode cL_law 1373 = .ok (.invokevirtual 168, 3) := by decide +kernel
theorem dL_law_1376 : decode cL_law 1376 = .ok (.aload_n 2, 1) := by decide +kernel
theorem dL_law_1377 : decode cL_law 1377 = .ok (.invokevirtual 172, 3) := by decide +kernel
theorem dL_law_1380 : decode cL_law 1380 = .ok (.lcmp, 1) := by decide +kernel
theorem dL_law_1381 : decode cL_law 1381 = .ok (.ifCond .eq 5, 3) := by decide +kernel
theorem dL_law_1384 : decode cL_law 1384 = .ok (.iconst 0, 1) := by decide +kernel
theorem dL_law_1385 : decode cL_law 1385 = .ok (.ireturn, 1) := by decide +kernel
theorem dL_law_1386 : decode cL_law 1386 = .ok (.iinc 3 6, 3) := by decide +kernel
theorem dL_law_1389 : decode cL_law 1389 = .ok (.goto (-1371), 3) := by decide +kernel
theorem dL_law_1392 : decode cL_law 1392 = .ok (.iconst 1, 1) := by decide +kernel
theorem dL_law_1393 : decode cL_law 1393 = .ok (.ireturn, 1) := by decide +kernel
end
section
abbrev gw_K : Type := (FieldType × Nat) ⊕ ((FieldType × List Nat) ⊕ (Nat × List (Option Nat)))
def gw_sh0 : List gw_K := [.inr (.inr (8, [some 2, some 4, some 6, some 17, some 22, some 26, some 36, some 44, some 34, some 35, none, none, none, none])), .inr (.inr (9, [some 140, some 141, none, some 142, some 143, some 144, some 145, none, some 146, none, none, some 147, none, some 148, some 149, some 150, some 151, none, some 152, none, some 153, some 154, some 155, some 156, some 157, some 158, some 159, some 160, some 161, some 162, none, none, none, none, none, some 163, none, some 164, some 165, some 166, some 167, some 168, some 169, some 170, some 171, some 172, none])), .inr (.inr (5, [some 3, none, none])), .inl (.int, 47), .inr (.inr (5, [some 5, none, none])), .inl (.int, 47), .inr (.inr (6, [some 7, some 11, some 16, none, none])), .inr (.inr (4, [some 8, some 9, some 10, none, none])), .inl (.int, 8), .inl (.int, 8), .inl (.int, 8), .inr (.inr (0, [some 12, some 13, some 14, some 15, none])), .inl (.int, 16), .inl (.int, 16), .inl (.int, 16), .inl (.int, 16), .inl (.int, 8), .inr (.inr (2, [some 18, some 19, some 20, some 21, none, none])), .inl (.int, 8), .inl (.int, 8), .inl (.int, 64), .inl (.int, 256), .inr (.inr (7, [some 23, some 24, some 25, none])), .inl (.int, 8), .inl (.int, 8), .inl (.int, 8), .inr (.inr (1, [some 27, some 32, some 33])), .inr (.inl (.array .int, [28, 29, 30, 31])), .inl (.int, 60), .inl (.int, 60), .inl (.int, 60), .inl (.int, 60), .inl (.int, 4), .inl (.int, 4), .inr (.inl (.object "BreathSold$State", [52, 60, 68, 76, 84, 92, 100, 108, 116, 124, 132])), .inl (.int, 128), .inr (.inr (3, [some 37, some 38, some 39, some 40, some 41, some 42, some 43, none, none, none, none, none, none])), .inl (.int, 8), .inl (.int, 8), .inl (.int, 8), .inl (.int, 8), .inl (.int, 8), .inl (.int, 8), .inl (.int, 8), .inr (.inr (3, [some 45, some 46, some 47, some 48, some 49, some 50, some 51, none, none, none, none, none, none]))]
def gw_sh1 : List gw_K := [.inl (.int, 8), .inl (.int, 8), .inl (.int, 8), .inl (.int, 8), .inl (.int, 8), .inl (.int, 8), .inl (.int, 8), .inr (.inr (3, [some 53, some 54, some 55, some 56, some 57, some 58, some 59, none, none, none, none, none, none])), .inl (.int, 8), .inl (.int, 8), .inl (.int, 8), .inl (.int, 8), .inl (.int, 8), .inl (.int, 8), .inl (.int, 8), .inr (.inr (3, [some 61, some 62, some 63, some 64, some 65, some 66, some 67, none, none, none, none, none, none])), .inl (.int, 8), .inl (.int, 8), .inl (.int, 8), .inl (.int, 8), .inl (.int, 8), .inl (.int, 8), .inl (.int, 8), .inr (.inr (3, [some 69, some 70, some 71, some 72, some 73, some 74, some 75, none, none, none, none, none, none])), .inl (.int, 8), .inl (.int, 8), .inl (.int, 8), .inl (.int, 8), .inl (.int, 8), .inl (.int, 8), .inl (.int, 8), .inr (.inr (3, [some 77, some 78, some 79, some 80, some 81, some 82, some 83, none, none, none, none, none, none])), .inl (.int, 8), .inl (.int, 8), .inl (.int, 8), .inl (.int, 8), .inl (.int, 8), .inl (.int, 8), .inl (.int, 8), .inr (.inr (3, [some 85, some 86, some 87, some 88, some 89, some 90, some 91, none, none, none, none, none, none])), .inl (.int, 8), .inl (.int, 8), .inl (.int, 8), .inl (.int, 8), .inl (.int, 8)]
def gw_sh2 : List gw_K := [.inl (.int, 8), .inl (.int, 8), .inr (.inr (3, [some 93, some 94, some 95, some 96, some 97, some 98, some 99, none, none, none, none, none, none])), .inl (.int, 8), .inl (.int, 8), .inl (.int, 8), .inl (.int, 8), .inl (.int, 8), .inl (.int, 8), .inl (.int, 8), .inr (.inr (3, [some 101, some 102, some 103, some 104, some 105, some 106, some 107, none, none, none, none, none, none])), .inl (.int, 8), .inl (.int, 8), .inl (.int, 8), .inl (.int, 8), .inl (.int, 8), .inl (.int, 8), .inl (.int, 8), .inr (.inr (3, [some 109, some 110, some 111, some 112, some 113, some 114, some 115, none, none, none, none, none, none])), .inl (.int, 8), .inl (.int, 8), .inl (.int, 8), .inl (.int, 8), .inl (.int, 8), .inl (.int, 8), .inl (.int, 8), .inr (.inr (3, [some 117, some 118, some 119, some 120, some 121, some 122, some 123, none, none, none, none, none, none])), .inl (.int, 8), .inl (.int, 8), .inl (.int, 8), .inl (.int, 8), .inl (.int, 8), .inl (.int, 8), .inl (.int, 8), .inr (.inr (3, [some 125, some 126, some 127, some 128, some 129, some 130, some 131, none, none, none, none, none, none])), .inl (.int, 8), .inl (.int, 8), .inl (.int, 8), .inl (.int, 8), .inl (.int, 8), .inl (.int, 8), .inl (.int, 8), .inr (.inr (3, [some 133, some 134, some 135, some 136, some 137, some 138, some 139, none, none, none, none, none, none])), .inl (.int, 8), .inl (.int, 8)]
def gw_sh3 : List gw_K := [.inl (.int, 8), .inl (.int, 8), .inl (.int, 8), .inl (.int, 8), .inl (.int, 8), .inl (.int, 2), .inl (.int, 94), .inl (.int, 9), .inl (.int, 9), .inl (.int, 9), .inl (.int, 9), .inl (.int, 8), .inl (.int, 8), .inl (.int, 16), .inl (.int, 16), .inl (.int, 16), .inl (.int, 16), .inl (.int, 3), .inl (.int, 40), .inl (.int, 40), .inl (.int, 64), .inl (.int, 8), .inl (.int, 8), .inl (.boolean, 8), .inl (.boolean, 40), .inl (.boolean, 16), .inl (.int, 8), .inl (.int, 8), .inl (.int, 2304), .inl (.int, 8), .inl (.int, 8), .inl (.int, 8), .inl (.int, 128), .inl (.boolean, 4), .inl (.int, 4), .inl (.int, 4), .inl (.int, 240), .inl (.int, 60)]
/-- the cells of the world, by number: arrays, rows of references, objects -/
def gw_sh : List gw_K := gw_sh0 ++ (gw_sh1 ++ (gw_sh2 ++ (gw_sh3)))
def gw_k (k : Nat) : Option gw_K := gw_sh[k]?
theorem gw_len : gw_sh.length = 173 := by decide +kernel
theorem gk_0 : gw_k 0 = some (.inr (.inr (8, [some 2, some 4, some 6, some 17, some 22, some 26, some 36, some 44, some 34, some 35, none, none, none, none]))) := rfl
theorem gk_1 : gw_k 1 = some (.inr (.inr (9, [some 140, some 141, none, some 142, some 143, some 144, some 145, none, some 146, none, none, some 147, none, some 148, some 149, some 150, some 151, none, some 152, none, some 153, some 154, some 155, some 156, some 157, some 158, some 159, some 160, some 161, some 162, none, none, none, none, none, some 163, none, some 164, some 165, some 166, some 167, some 168, some 169, some 170, some 171, some 172, none]))) := rfl
theorem gk_2 : gw_k 2 = some (.inr (.inr (5, [some 3, none, none]))) := rfl
theorem gk_3 : gw_k 3 = some (.inl (.int, 47)) := rfl
theorem gk_4 : gw_k 4 = some (.inr (.inr (5, [some 5, none, none]))) := rfl
theorem gk_5 : gw_k 5 = some (.inl (.int, 47)) := rfl
theorem gk_6 : gw_k 6 = some (.inr (.inr (6, [some 7, some 11, some 16, none, none]))) := rfl
theorem gk_7 : gw_k 7 = some (.inr (.inr (4, [some 8, some 9, some 10, none, none]))) := rfl
theorem gk_8 : gw_k 8 = some (.inl (.int, 8)) := rfl
theorem gk_9 : gw_k 9 = some (.inl (.int, 8)) := rfl
theorem gk_10 : gw_k 10 = some (.inl (.int, 8)) := rfl
theorem gk_11 : gw_k 11 = some (.inr (.inr (0, [some 12, some 13, some 14, some 15, none]))) := rfl
theorem gk_12 : gw_k 12 = some (.inl (.int, 16)) := rfl
theorem gk_13 : gw_k 13 = some (.inl (.int, 16)) := rfl
theorem gk_14 : gw_k 14 = some (.inl (.int, 16)) := rfl
theorem gk_15 : gw_k 15 = some (.inl (.int, 16)) := rfl
theorem gk_16 : gw_k 16 = some (.inl (.int, 8)) := rfl
theorem gk_17 : gw_k 17 = some (.inr (.inr (2, [some 18, some 19, some 20, some 21, none, none]))) := rfl
theorem gk_18 : gw_k 18 = some (.inl (.int, 8)) := rfl
theorem gk_19 : gw_k 19 = some (.inl (.int, 8)) := rfl
theorem gk_20 : gw_k 20 = some (.inl (.int, 64)) := rfl
theorem gk_21 : gw_k 21 = some (.inl (.int, 256)) := rfl
theorem gk_22 : gw_k 22 = some (.inr (.inr (7, [some 23, some 24, some 25, none]))) := rfl
theorem gk_23 : gw_k 23 = some (.inl (.int, 8)) := rfl
theorem gk_24 : gw_k 24 = some (.inl (.int, 8)) := rfl
theorem gk_25 : gw_k 25 = some (.inl (.int, 8)) := rfl
theorem gk_26 : gw_k 26 = some (.inr (.inr (1, [some 27, some 32, some 33]))) := rfl
theorem gk_27 : gw_k 27 = some (.inr (.inl (.array .int, [28, 29, 30, 31]))) := rfl
theorem gk_28 : gw_k 28 = some (.inl (.int, 60)) := rfl
theorem gk_29 : gw_k 29 = some (.inl (.int, 60)) := rfl
theorem gk_30 : gw_k 30 = some (.inl (.int, 60)) := rfl
theorem gk_31 : gw_k 31 = some (.inl (.int, 60)) := rfl
theorem gk_32 : gw_k 32 = some (.inl (.int, 4)) := rfl
theorem gk_33 : gw_k 33 = some (.inl (.int, 4)) := rfl
theorem gk_34 : gw_k 34 = some (.inr (.inl (.object "BreathSold$State", [52, 60, 68, 76, 84, 92, 100, 108, 116, 124, 132]))) := rfl
theorem gk_35 : gw_k 35 = some (.inl (.int, 128)) := rfl
theorem gk_36 : gw_k 36 = some (.inr (.inr (3, [some 37, some 38, some 39, some 40, some 41, some 42, some 43, none, none, none, none, none, none]))) := rfl
theorem gk_37 : gw_k 37 = some (.inl (.int, 8)) := rfl
theorem gk_38 : gw_k 38 = some (.inl (.int, 8)) := rfl
theorem gk_39 : gw_k 39 = some (.inl (.int, 8)) := rfl
theorem gk_40 : gw_k 40 = some (.inl (.int, 8)) := rfl
theorem gk_41 : gw_k 41 = some (.inl (.int, 8)) := rfl
theorem gk_42 : gw_k 42 = some (.inl (.int, 8)) := rfl
theorem gk_43 : gw_k 43 = some (.inl (.int, 8)) := rfl
theorem gk_44 : gw_k 44 = some (.inr (.inr (3, [some 45, some 46, some 47, some 48, some 49, some 50, some 51, none, none, none, none, none, none]))) := rfl
theorem gk_45 : gw_k 45 = some (.inl (.int, 8)) := rfl
theorem gk_46 : gw_k 46 = some (.inl (.int, 8)) := rfl
theorem gk_47 : gw_k 47 = some (.inl (.int, 8)) := rfl
theorem gk_48 : gw_k 48 = some (.inl (.int, 8)) := rfl
theorem gk_49 : gw_k 49 = some (.inl (.int, 8)) := rfl
theorem gk_50 : gw_k 50 = some (.inl (.int, 8)) := rfl
theorem gk_51 : gw_k 51 = some (.inl (.int, 8)) := rfl
theorem gk_52 : gw_k 52 = some (.inr (.inr (3, [some 53, some 54, some 55, some 56, some 57, some 58, some 59, none, none, none, none, none, none]))) := rfl
theorem gk_53 : gw_k 53 = some (.inl (.int, 8)) := rfl
theorem gk_54 : gw_k 54 = some (.inl (.int, 8)) := rfl
theorem gk_55 : gw_k 55 = some (.inl (.int, 8)) := rfl
theorem gk_56 : gw_k 56 = some (.inl (.int, 8)) := rfl
theorem gk_57 : gw_k 57 = some (.inl (.int, 8)) := rfl
theorem gk_58 : gw_k 58 = some (.inl (.int, 8)) := rfl
theorem gk_59 : gw_k 59 = some (.inl (.int, 8)) := rfl
theorem gk_60 : gw_k 60 = some (.inr (.inr (3, [some 61, some 62, some 63, some 64, some 65, some 66, some 67, none, none, none, none, none, none]))) := rfl
theorem gk_61 : gw_k 61 = some (.inl (.int, 8)) := rfl
theorem gk_62 : gw_k 62 = some (.inl (.int, 8)) := rfl
theorem gk_63 : gw_k 63 = some (.inl (.int, 8)) := rfl
theorem gk_64 : gw_k 64 = some (.inl (.int, 8)) := rfl
theorem gk_65 : gw_k 65 = some (.inl (.int, 8)) := rfl
theorem gk_66 : gw_k 66 = some (.inl (.int, 8)) := rfl
theorem gk_67 : gw_k 67 = some (.inl (.int, 8)) := rfl
theorem gk_68 : gw_k 68 = some (.inr (.inr (3, [some 69, some 70, some 71, some 72, some 73, some 74, some 75, none, none, none, none, none, none]))) := rfl
theorem gk_69 : gw_k 69 = some (.inl (.int, 8)) := rfl
theorem gk_70 : gw_k 70 = some (.inl (.int, 8)) := rfl
theorem gk_71 : gw_k 71 = some (.inl (.int, 8)) := rfl
theorem gk_72 : gw_k 72 = some (.inl (.int, 8)) := rfl
theorem gk_73 : gw_k 73 = some (.inl (.int, 8)) := rfl
theorem gk_74 : gw_k 74 = some (.inl (.int, 8)) := rfl
theorem gk_75 : gw_k 75 = some (.inl (.int, 8)) := rfl
theorem gk_76 : gw_k 76 = some (.inr (.inr (3, [some 77, some 78, some 79, some 80, some 81, some 82, some 83, none, none, none, none, none, none]))) := rfl
theorem gk_77 : gw_k 77 = some (.inl (.int, 8)) := rfl
theorem gk_78 : gw_k 78 = some (.inl (.int, 8)) := rfl
theorem gk_79 : gw_k 79 = some (.inl (.int, 8)) := rfl
theorem gk_80 : gw_k 80 = some (.inl (.int, 8)) := rfl
theorem gk_81 : gw_k 81 = some (.inl (.int, 8)) := rfl
theorem gk_82 : gw_k 82 = some (.inl (.int, 8)) := rfl
theorem gk_83 : gw_k 83 = some (.inl (.int, 8)) := rfl
theorem gk_84 : gw_k 84 = some (.inr (.inr (3, [some 85, some 86, some 87, some 88, some 89, some 90, some 91, none, none, none, none, none, none]))) := rfl
theorem gk_85 : gw_k 85 = some (.inl (.int, 8)) := rfl
theorem gk_86 : gw_k 86 = some (.inl (.int, 8)) := rfl
theorem gk_87 : gw_k 87 = some (.inl (.int, 8)) := rfl
theorem gk_88 : gw_k 88 = some (.inl (.int, 8)) := rfl
theorem gk_89 : gw_k 89 = some (.inl (.int, 8)) := rfl
theorem gk_90 : gw_k 90 = some (.inl (.int, 8)) := rfl
theorem gk_91 : gw_k 91 = some (.inl (.int, 8)) := rfl
theorem gk_92 : gw_k 92 = some (.inr (.inr (3, [some 93, some 94, some 95, some 96, some 97, some 98, some 99, none, none, none, none, none, none]))) := rfl
theorem gk_93 : gw_k 93 = some (.inl (.int, 8)) := rfl
theorem gk_94 : gw_k 94 = some (.inl (.int, 8)) := rfl
theorem gk_95 : gw_k 95 = some (.inl (.int, 8)) := rfl
theorem gk_96 : gw_k 96 = some (.inl (.int, 8)) := rfl
theorem gk_97 : gw_k 97 = some (.inl (.int, 8)) := rfl
theorem gk_98 : gw_k 98 = some (.inl (.int, 8)) := rfl
theorem gk_99 : gw_k 99 = some (.inl (.int, 8)) := rfl
theorem gk_100 : gw_k 100 = some (.inr (.inr (3, [some 101, some 102, some 103, some 104, some 105, some 106, some 107, none, none, none, none, none, none]))) := rfl
theorem gk_101 : gw_k 101 = some (.inl (.int, 8)) := rfl
theorem gk_102 : gw_k 102 = some (.inl (.int, 8)) := rfl
theorem gk_103 : gw_k 103 = some (.inl (.int, 8)) := rfl
theorem gk_104 : gw_k 104 = some (.inl (.int, 8)) := rfl
theorem gk_105 : gw_k 105 = some (.inl (.int, 8)) := rfl
theorem gk_106 : gw_k 106 = some (.inl (.int, 8)) := rfl
theorem gk_107 : gw_k 107 = some (.inl (.int, 8)) := rfl
theorem gk_108 : gw_k 108 = some (.inr (.inr (3, [some 109, some 110, some 111, some 112, some 113, some 114, some 115, none, none, none, none, none, none]))) := rfl
theorem gk_109 : gw_k 109 = some (.inl (.int, 8)) := rfl
theorem gk_110 : gw_k 110 = some (.inl (.int, 8)) := rfl
theorem gk_111 : gw_k 111 = some (.inl (.int, 8)) := rfl
theorem gk_112 : gw_k 112 = some (.inl (.int, 8)) := rfl
theorem gk_113 : gw_k 113 = some (.inl (.int, 8)) := rfl
theorem gk_114 : gw_k 114 = some (.inl (.int, 8)) := rfl
theorem gk_115 : gw_k 115 = some (.inl (.int, 8)) := rfl
theorem gk_116 : gw_k 116 = some (.inr (.inr (3, [some 117, some 118, some 119, some 120, some 121, some 122, some 123, none, none, none, none, none, none]))) := rfl
theorem gk_117 : gw_k 117 = some (.inl (.int, 8)) := rfl
theorem gk_118 : gw_k 118 = some (.inl (.int, 8)) := rfl
theorem gk_119 : gw_k 119 = some (.inl (.int, 8)) := rfl
theorem gk_120 : gw_k 120 = some (.inl (.int, 8)) := rfl
theorem gk_121 : gw_k 121 = some (.inl (.int, 8)) := rfl
theorem gk_122 : gw_k 122 = some (.inl (.int, 8)) := rfl
theorem gk_123 : gw_k 123 = some (.inl (.int, 8)) := rfl
theorem gk_124 : gw_k 124 = some (.inr (.inr (3, [some 125, some 126, some 127, some 128, some 129, some 130, some 131, none, none, none, none, none, none]))) := rfl
theorem gk_125 : gw_k 125 = some (.inl (.int, 8)) := rfl
theorem gk_126 : gw_k 126 = some (.inl (.int, 8)) := rfl
theorem gk_127 : gw_k 127 = some (.inl (.int, 8)) := rfl
theorem gk_128 : gw_k 128 = some (.inl (.int, 8)) := rfl
theorem gk_129 : gw_k 129 = some (.inl (.int, 8)) := rfl
theorem gk_130 : gw_k 130 = some (.inl (.int, 8)) := rfl
theorem gk_131 : gw_k 131 = some (.inl (.int, 8)) := rfl
theorem gk_132 : gw_k 132 = some (.inr (.inr (3, [some 133, some 134, some 135, some 136, some 137, some 138, some 139, none, none, none, none, none, none]))) := rfl
theorem gk_133 : gw_k 133 = some (.inl (.int, 8)) := rfl
theorem gk_134 : gw_k 134 = some (.inl (.int, 8)) := rfl
theorem gk_135 : gw_k 135 = some (.inl (.int, 8)) := rfl
theorem gk_136 : gw_k 136 = some (.inl (.int, 8)) := rfl
theorem gk_137 : gw_k 137 = some (.inl (.int, 8)) := rfl
theorem gk_138 : gw_k 138 = some (.inl (.int, 8)) := rfl
theorem gk_139 : gw_k 139 = some (.inl (.int, 8)) := rfl
theorem gk_140 : gw_k 140 = some (.inl (.int, 2)) := rfl
theorem gk_141 : gw_k 141 = some (.inl (.int, 94)) := rfl
theorem gk_142 : gw_k 142 = some (.inl (.int, 9)) := rfl
theorem gk_143 : gw_k 143 = some (.inl (.int, 9)) := rfl
theorem gk_144 : gw_k 144 = some (.inl (.int, 9)) := rfl
theorem gk_145 : gw_k 145 = some (.inl (.int, 9)) := rfl
theorem gk_146 : gw_k 146 = some (.inl (.int, 8)) := rfl
theorem gk_147 : gw_k 147 = some (.inl (.int, 8)) := rfl
theorem gk_148 : gw_k 148 = some (.inl (.int, 16)) := rfl
theorem gk_149 : gw_k 149 = some (.inl (.int, 16)) := rfl
theorem gk_150 : gw_k 150 = some (.inl (.int, 16)) := rfl
theorem gk_151 : gw_k 151 = some (.inl (.int, 16)) := rfl
theorem gk_152 : gw_k 152 = some (.inl (.int, 3)) := rfl
theorem gk_153 : gw_k 153 = some (.inl (.int, 40)) := rfl
theorem gk_154 : gw_k 154 = some (.inl (.int, 40)) := rfl
theorem gk_155 : gw_k 155 = some (.inl (.int, 64)) := rfl
theorem gk_156 : gw_k 156 = some (.inl (.int, 8)) := rfl
theorem gk_157 : gw_k 157 = some (.inl (.int, 8)) := rfl
theorem gk_158 : gw_k 158 = some (.inl (.boolean, 8)) := rfl
theorem gk_159 : gw_k 159 = some (.inl (.boolean, 40)) := rfl
theorem gk_160 : gw_k 160 = some (.inl (.boolean, 16)) := rfl
theorem gk_161 : gw_k 161 = some (.inl (.int, 8)) := rfl
theorem gk_162 : gw_k 162 = some (.inl (.int, 8)) := rfl
theorem gk_163 : gw_k 163 = some (.inl (.int, 2304)) := rfl
theorem gk_164 : gw_k 164 = some (.inl (.int, 8)) := rfl
theorem gk_165 : gw_k 165 = some (.inl (.int, 8)) := rfl
theorem gk_166 : gw_k 166 = some (.inl (.int, 8)) := rfl
theorem gk_167 : gw_k 167 = some (.inl (.int, 128)) := rfl
theorem gk_168 : gw_k 168 = some (.inl (.boolean, 4)) := rfl
theorem gk_169 : gw_k 169 = some (.inl (.int, 4)) := rfl
theorem gk_170 : gw_k 170 = some (.inl (.int, 4)) := rfl
theorem gk_171 : gw_k 171 = some (.inl (.int, 240)) := rfl
theorem gk_172 : gw_k 172 = some (.inl (.int, 60)) := rfl
end
section
/-- the tables' words that hold wherever a method begins -/
def gw_tb : List Cond := lw_tbl.filter goodWord
theorem gw_in {w : Cond} (h : w ∈ lw_tbl) (hg : goodWord w = true) : w ∈ gw_tb := List.mem_filter.mpr ⟨h, hg⟩
theorem gw_good {c c' : Cond} (h : c' ∈ gw_tb) : GoodIn (c :: gw_tb) (c' :: gw_tb) := by
  intro w hw
  have h1 : w ∈ gw_tb := (List.mem_cons.mp hw).elim (fun e => e ▸ h) id
  exact ⟨List.mem_cons_of_mem _ h1, good_of_word (List.mem_filter.mp h1).2⟩
theorem gw_goodT {c' : Cond} (h : c' ∈ gw_tb) : GoodIn gw_tb (c' :: gw_tb) := by
  intro w hw
  have h1 : w ∈ gw_tb := (List.mem_cons.mp hw).elim (fun e => e ▸ h) id
  exact ⟨h1, good_of_word (List.mem_filter.mp h1).2⟩
/-! The world as numbers: σ k j is the j-th slot of cell k; references are fixed by the shape. -/
abbrev gw_S : Type := Nat → Nat → Int32
def gw_u (σ : gw_S) (k j : Nat) (v : Int32) : gw_S := fun k' => if k' = k then upd (σ k) j v else σ k'
/-- a value with a cell's number in place of its address -/
def gw_v (ad : Nat → Nat) : Value → Value
  | .ref k => .ref (ad k)
  | .int x => .int x
  | .long x => .long x
  | .float x => .float x
  | .double x => .double x
  | .null => .null
  | .retAddr x => .retAddr x
theorem gw_v_cat (ad : Nat → Nat) (v : Value) : (gw_v ad v).category = v.category := by cases v <;> rfl
def gw_sv (ad : Nat → Nat) (f : Nat → Int32) (j : Nat) : Option Nat → Value
  | none => .int (f j)
  | some k => .ref (ad k)
def gw_ob (ad : Nat → Nat) (f : Nat → Int32) (sl : List (Option Nat)) : List Value := (List.range sl.length).map (fun j => gw_sv ad f j (sl[j]?.getD none))
def gw_e (ad : Nat → Nat) (dA : Nat → ClassId) (f : Nat → Int32) (k : Nat) : gw_K → va_E
  | .inl (_, n) => .inl (dA k, n, .inl f)
  | .inr (.inl (_, ks)) => .inl (dA k, ks.length, .inr (.inr (.inr (.inr (fun i => (ks[i]?).map ad)))))
  | .inr (.inr (ci, sl)) => .inr (ci, gw_ob ad f sl)
def gw_wl (ad : Nat → Nat) (dA : Nat → ClassId) (σ : gw_S) : va_W := (List.range gw_sh.length).map (fun k => (ad k, gw_e ad dA (σ k) k ((gw_k k).getD (.inl (.int, 0)))))
theorem gw_lt {k : Nat} {q : gw_K} (h : gw_k k = some q) : k < gw_sh.length := (List.getElem?_eq_some_iff.mp h).1
theorem gw_wl_at {ad : Nat → Nat} {dA : Nat → ClassId} {σ : gw_S} {k : Nat} {q : gw_K} (h : gw_k k = some q) : (gw_wl ad dA σ)[k]? = some (ad k, gw_e ad dA (σ k) k q) := by
  unfold gw_wl
  rw [List.getElem?_map, List.getElem?_range (gw_lt h)]
  simp [h]
theorem gw_wl_set {ad : Nat → Nat} {dA : Nat → ClassId} {σ σ' : gw_S} {k : Nat} {q : gw_K} {e : va_E} (h : gw_k k = some q) (he : gw_e ad dA (σ' k) k q = e) (ho : ∀ k', k' ≠ k → σ' k' = σ k') : (gw_wl ad dA σ).set k (ad k, e) = gw_wl ad dA σ' := by
  apply List.ext_getElem?
  intro j
  by_cases hj : j = k
  · subst hj
    rw [gw_wl_at h, List.getElem?_set_self (by unfold gw_wl; simpa using gw_lt h), he]
  · rw [List.getElem?_set_ne (Ne.symm hj)]
    unfold gw_wl
    by_cases hl : j < gw_sh.length
    · rw [List.getElem?_map, List.getElem?_map, List.getElem?_range hl]
      simp [ho j hj]
    · rw [List.getElem?_eq_none (by simpa using Nat.not_lt.mp hl), List.getElem?_eq_none (by simpa using Nat.not_lt.mp hl)]
theorem gw_ob_at {ad : Nat → Nat} {f : Nat → Int32} {sl : List (Option Nat)} {j : Nat} {o : Option Nat} (h : sl[j]? = some o) : (gw_ob ad f sl)[j]? = some (gw_sv ad f j o) := by
  unfold gw_ob
  rw [List.getElem?_map, List.getElem?_range (List.getElem?_eq_some_iff.mp h).1]
  simp [h]
theorem gw_ob_len {ad : Nat → Nat} {f : Nat → Int32} {sl : List (Option Nat)} : (gw_ob ad f sl).length = sl.length := by simp [gw_ob]
theorem gw_ob_set {ad : Nat → Nat} {f : Nat → Int32} {sl : List (Option Nat)} {j : Nat} {v : Int32} (h : sl[j]? = some none) : gw_ob ad (upd f j v) sl = (gw_ob ad f sl).set j (.int v) := by
  apply List.ext_getElem?
  intro i
  have hjl : j < sl.length := (List.getElem?_eq_some_iff.mp h).1
  by_cases hi : i = j
  · subst hi
    rw [List.getElem?_set_self (by rw [gw_ob_len]; exact hjl), gw_ob_at h]
    simp [gw_sv, upd]
  · rw [List.getElem?_set_ne (Ne.symm hi)]
    by_cases hl : i < sl.length
    · have hs : sl[i]? = some sl[i] := List.getElem?_eq_getElem hl
      rw [gw_ob_at hs, gw_ob_at hs]
      cases sl[i] <;> simp [gw_sv, upd, hi]
    · rw [List.getElem?_eq_none (by rw [gw_ob_len]; omega), List.getElem?_eq_none (by rw [gw_ob_len]; omega)]
def gw_J (ad : Nat → Nat) : Prop := ∀ i j, i < gw_sh.length → j < gw_sh.length → ad i = ad j → i = j
def gw_A (ad : Nat → Nat) : Nat → Prop := fun q => ∃ k, k < gw_sh.length ∧ q = ad k
theorem gw_D {ad : Nat → Nat} {dA : Nat → ClassId} {σ : gw_S} (hj : gw_J ad) : va_D (gw_A ad) (gw_wl ad dA σ) := by
  have key : ∀ (k : Nat) (q : Nat × va_E), (gw_wl ad dA σ)[k]? = some q → k < gw_sh.length ∧ q.1 = ad k := by
    intro k q hk
    have hl : k < gw_sh.length := by
      have := (List.getElem?_eq_some_iff.mp hk).1
      simpa [gw_wl] using this
    refine ⟨hl, ?_⟩
    unfold gw_wl at hk
    rw [List.getElem?_map, List.getElem?_range hl] at hk
    simp at hk
    rw [← hk]
  refine ⟨fun i j p q hi hj' hpq => ?_, fun k q hk => ?_⟩
  · obtain ⟨a1, a2⟩ := key i p hi
    obtain ⟨b1, b2⟩ := key j q hj'
    exact hj i j a1 b1 (by rw [← a2, ← b2, hpq])
  · obtain ⟨a1, a2⟩ := key k q hk
    exact ⟨k, a1, a2⟩
def gw_T (dA : Nat → ClassId) (tys : List (ClassId × FieldType)) (k : Nat) : gw_K → Prop
  | .inl (ty, _) => ∃ t : Nat, tys[t]? = some (dA k, ty)
  | .inr (.inl (ty, _)) => ∃ t : Nat, tys[t]? = some (dA k, ty)
  | .inr (.inr _) => True
/-- the links between nest mates that methods use -/
def gw_n1 : Cond := .methodLinkNest RX1 29 yX8_isWithin "BreathSold"
def gw_n3 : Cond := .methodLinkNest RX3 119 yX8_isWithin "BreathSold"
def gw_F (D : va_G) (ad : Nat → Nat) (dA : Nat → ClassId) (U : State) : Prop :=
  (∃ tys, va_K D vwCl tys U ∧ ∀ (k : Nat) (q : gw_K), gw_k k = some q → gw_T dA tys k q) ∧ gw_J ad ∧ va_Nw gw_n1 U ∧ va_Nw gw_n3 U
theorem gw_F.warm {D : va_G} {ad : Nat → Nat} {dA : Nat → ClassId} {s U : State} (hW : s.WarmedH U.vm) (h : gw_F D ad dA s) : gw_F D ad dA U := by
  obtain ⟨⟨tys, h1, h2⟩, h3, h4, h5⟩ := h
  exact ⟨⟨tys, h1.moved hW.alike, h2⟩, h3, va_Nw.warmM hW h4, va_Nw.warmM hW h5⟩
theorem gw_F.same {D : va_G} {ad : Nat → Nat} {dA : Nat → ClassId} {s U : State} (hv : s.vm = U.vm) (h : gw_F D ad dA s) : gw_F D ad dA U := by
  obtain ⟨⟨tys, h1, h2⟩, h3, h4, h5⟩ := h
  exact ⟨⟨tys, h1.moved (by rw [hv]; exact Vm.Alike.refl U.vm), h2⟩, h3, va_Nw.same rfl hv h4, va_Nw.same rfl hv h5⟩
def gw_W (D : va_G) (ad : Nat → Nat) (dA : Nat → ClassId) (σ : gw_S) (U : State) : Prop := va_P D vwCl (gw_wl ad dA σ) U.heap ∧ gw_F D ad dA U
def gw_R (d : Nat) : Room := { frames := d, cells := 0, slots := 0, locals := 44 * d }
/-- a method: its name, its code, how many locals, what it returns -/
abbrev gw_M : Type := MethodName × ByteArray × Nat × Option FieldType
def gw_Q (D : va_G) (ad : Nat → Nat) (dA : Nat → ClassId) (Q : Option Value → gw_S → Prop) : Array Value → State → Outcome → State → Prop := fun _ st oc t =>
  (∃ (v : Option Value) (σ' : gw_S), oc = .returned (v.map (gw_v ad)) ∧ Q v σ' ∧ gw_W D ad dA σ' t) ∧ va_F (gw_A ad) st t
/-- the contract of a method at arguments and a world -/
def gB (d : Nat) (M : gw_M) (vs : List Value) (σ : gw_S) (Q : Option Value → gw_S → Prop) : Prop :=
  ∀ (l : Launch) (D : va_G) (ad : Nat → Nat) (dA : Nat → ClassId), Met l M.1 (.code M.1 M.2.1 M.2.2.1 M.2.2.2 :: gw_tb) (gw_R d) (va_Pc (vs.map (gw_v ad)) (gw_W D ad dA σ)) (gw_Q D ad dA Q) 0 0 (gw_A ad)
/-- locals: by place, none where nothing is known -/
def gw_l (ad : Nat → Nat) (lv : List (Option Value)) : List (Nat × Value) := (List.range lv.length).filterMap (fun i => (lv[i]?.getD none).map (fun v => (i, gw_v ad v)))
theorem gw_l_mem {ad : Nat → Nat} {lv : List (Option Value)} {q : Nat × Value} : q ∈ gw_l ad lv ↔ ∃ v, lv[q.1]? = some (some v) ∧ q.2 = gw_v ad v := by
  unfold gw_l
  rw [List.mem_filterMap]
  constructor
  · rintro ⟨i, hi, h⟩
    have hl := List.mem_range.mp hi
    have hs : lv[i]? = some lv[i] := List.getElem?_eq_getElem hl
    rw [hs] at h
    cases hv : lv[i] with
    | none => rw [hv] at h; simp at h
    | some v =>
      rw [hv] at h
      simp at h
      subst h
      exact ⟨v, by rw [hs, hv], rfl⟩
  · rintro ⟨v, h1, h2⟩
    refine ⟨q.1, List.mem_range.mpr (List.getElem?_eq_some_iff.mp h1).1, ?_⟩
    rw [h1]
    simp [← h2]
/-- the judgement: from pc with these locals, stack and world the method comes to its end with Q -/
def gG (d : Nat) (M : gw_M) (pc : Nat) (lv : List (Option Value)) (st : List Value) (σ : gw_S) (Q : Option Value → gw_S → Prop) : Prop :=
  ∀ (p : Program) (l : Launch) (e : Env) (s : State) (m : MethodId) (args : Array Value) (below : List Frame) (meth : Method) (c : Code) (H : Heap) (locs : List Loc) (ls : Array Slot) (D : va_G) (ad : Nat → Nat) (dA : Nat → ClassId),
    p.tables.exec = Jvm.exec → c.code = M.2.1 → meth.sig.returnType = M.2.2.2 → c.maxLocals = M.2.2.1 → s.vm.findClass M.1.cls = some m.cls → (∀ w ∈ gw_tb, w.before args s = true) → meth.locks = false → gw_F D ad dA s →
    lv_has ls M.2.2.1 (gw_l ad lv) → va_P D vwCl (gw_wl ad dA σ) H → va_S (gw_A ad) s.heap H locs →
    W p l e (gw_R d) s m args below meth c H locs 0 0 (MQ below (gw_Q D ad dA Q) args s 0 0 (gw_A ad)) (F0 m pc ls (st.map (gw_v ad)))
def gw_a : List Value → List (Option Value)
  | [] => []
  | v :: vs => if v.category = 2 then some v :: none :: gw_a vs else some v :: gw_a vs
theorem gw_a_sub (ad : Nat → Nat) : ∀ (vs : List Value) (pre : List (Option Value)) (q : Nat × Value), pre.length ≤ q.1 → (∃ v, (pre ++ gw_a vs)[q.1]? = some (some v) ∧ q.2 = gw_v ad v) → q ∈ lv_args pre.length (vs.map (gw_v ad))
  | [], pre, q, hq, ⟨v, h, _⟩ => by
    rw [gw_a, List.append_nil] at h
    have := (List.getElem?_eq_some_iff.mp h).1
    omega
  | w :: vs, pre, q, hq, ⟨v, h, hv⟩ => by
    rw [List.map_cons, lv_args, gw_v_cat]
    by_cases hc : w.category = 2
    · rw [if_pos hc]
      rw [gw_a, if_pos hc] at h
      by_cases h0 : q.1 = pre.length
      · rw [h0, List.getElem?_append_right (Nat.le_refl _)] at h
        simp at h
        refine List.mem_cons.mpr (Or.inl ?_)
        rw [h, ← hv, ← h0]
      · by_cases h1 : q.1 = pre.length + 1
        · rw [h1, List.getElem?_append_right (by omega)] at h
          simp at h
        · refine List.mem_cons_of_mem _ ?_
          have := gw_a_sub ad vs (pre ++ [some w, none]) q (by simp; omega) ⟨v, by simpa using h, hv⟩
          simpa using this
    · rw [if_neg hc]
      rw [gw_a, if_neg hc] at h
      by_cases h0 : q.1 = pre.length
      · rw [h0, List.getElem?_append_right (Nat.le_refl _)] at h
        simp at h
        refine List.mem_cons.mpr (Or.inl ?_)
        rw [h, ← hv, ← h0]
      · refine List.mem_cons_of_mem _ ?_
        have := gw_a_sub ad vs (pre ++ [some w]) q (by simp; omega) ⟨v, by simpa using h, hv⟩
        simpa using this
theorem gw_sl_len (ad : Nat → Nat) : ∀ vs : List Value, (lg_sl (vs.map (gw_v ad))).length = (lg_sl vs).length
  | [] => rfl
  | v :: vs => by
    have := gw_sl_len ad vs
    simp only [lg_sl, List.map_cons, List.flatMap_cons, List.length_append, gw_v_cat] at this ⊢
    by_cases hc : v.category = 2
    · simp [hc, this]
    · simp [hc, this]
/-- a contract out of a walk -/
theorem gB_of {d : Nat} {M : gw_M} {vs : List Value} {σ : gw_S} {Q : Option Value → gw_S → Prop} (hy : plainName M.1.cls = true) (hn : (lg_sl vs).length ≤ M.2.2.1) (k : gG d M 0 (gw_a vs) [] σ Q) : gB d M vs σ Q := by
  intro l D ad dA
  refine Met.ofW (cc := M.2.1) (maxL := M.2.2.1) (ret := M.2.2.2) hy rfl ?_
  intro p e s m args below meth c s₁ B hml hv
  obtain ⟨rfl, hP, hF⟩ := hv
  have hts := atoms_spec (ws := .code M.1 M.2.1 M.2.2.1 M.2.2.2 :: gw_tb) B.pre
  have hl := lv_entry (vs.map (gw_v ad)) (n := M.2.2.1) (by rw [gw_sl_len]; exact hn)
  rw [lg_entry_eq]
  generalize (lg_sl (vs.map (gw_v ad)) ++ List.replicate (M.2.2.1 - (lg_sl (vs.map (gw_v ad))).length) Slot.unset).toArray = ls at hl ⊢
  refine k p l e s m _ below meth c s.heap [] ls D ad dA B.exec B.bytes B.returns hml (findClass_of_methodNamed B.named) (fun w hw => hts w (List.mem_cons_of_mem _ hw)) B.notSynchronized hF ⟨hl.1, hl.2.1, fun q hq => hl.2.2 q ?_⟩ hP va_S.rf
  exact gw_a_sub ad vs [] q (Nat.zero_le _) (by simpa using gw_l_mem.mp hq)
theorem gB.mono {d : Nat} {M : gw_M} {vs : List Value} {σ : gw_S} {Q Q' : Option Value → gw_S → Prop} (h : gB d M vs σ Q) (hq : ∀ v σ', Q v σ' → Q' v σ') : gB d M vs σ Q' := by
  intro l D ad dA p e ha hc hk s m args below hf happ hP hK
  obtain ⟨t, o, h1, h2, h3, ⟨⟨v, σ', a1, a2, a3⟩, a4⟩, h5⟩ := h l D ad dA p e ha hc hk s m args below hf happ hP hK
  exact ⟨t, o, h1, h2, h3, ⟨⟨v, σ', a1, hq v σ' a2, a3⟩, a4⟩, h5⟩
theorem gG.mono {d : Nat} {M : gw_M} {pc : Nat} {lv : List (Option Value)} {st : List Value} {σ : gw_S} {Q Q' : Option Value → gw_S → Prop} (h : gG d M pc lv st σ Q) (hq : ∀ v σ', Q v σ' → Q' v σ') : gG d M pc lv st σ Q' := by
  intro p l e s m args below meth c H locs ls D ad dA a1 a2 a3 a4 a5 a6 a7 a8 a9 a10 a11 T hT X
  obtain ⟨t, h1, o, h2, h3, ⟨⟨v, σ', b1, b2, b3⟩, b4⟩, h5⟩ := h p l e s m args below meth c H locs ls D ad dA a1 a2 a3 a4 a5 a6 a7 a8 a9 a10 a11 T hT X
  exact ⟨t, h1, o, h2, h3, ⟨⟨v, σ', b1, hq v σ' b2, b3⟩, b4⟩, h5⟩
end
section
section GR
variable {d : Nat} {M : gw_M} {pc pc2 : Nat} {lv : List (Option Value)} {st : List Value} {σ : gw_S} {Q : Option Value → gw_S → Prop}
theorem gw_lo {ls : Array Slot} {nL : Nat} {ad : Nat → Nat} {i : Nat} {v : Value} (h : lv_has ls nL (gw_l ad lv)) (hl : lv[i]? = some (some v)) : ls[i]? = some (.val (gw_v ad v)) := h.2.2 (i, gw_v ad v) (gw_l_mem.mpr ⟨v, hl, rfl⟩)
def gw_ok (lv : List (Option Value)) : Nat → Bool
  | 0 => true
  | i + 1 => match lv[i]? with
    | some (some v) => v.category != 2
    | _ => true
theorem gw_st1 {ls : Array Slot} {nL : Nat} {ad : Nat → Nat} {i : Nat} {v : Value} (hk : gw_ok lv i = true) (h : lv_has ls nL ((i, gw_v ad v) :: (gw_l ad lv).filter (fun q => !(q.1 == i) && !(q.1 + 1 == i && q.2.category == 2)))) : lv_has ls nL (gw_l ad (lv.set i (some v))) := by
  refine ⟨h.1, h.2.1, fun q hq => h.2.2 q ?_⟩
  obtain ⟨w, h1, h2⟩ := gw_l_mem.mp hq
  by_cases hi : q.1 = i
  · have hlt : i < lv.length := by
      have := (List.getElem?_eq_some_iff.mp h1).1
      rw [List.length_set] at this
      omega
    rw [hi, List.getElem?_set_self hlt] at h1
    have e1 : v = w := by simpa using h1
    refine List.mem_cons.mpr (Or.inl ?_)
    rw [← hi, e1, ← h2]
  · rw [List.getElem?_set_ne (Ne.symm hi)] at h1
    refine List.mem_cons_of_mem _ (List.mem_filter.mpr ⟨gw_l_mem.mpr ⟨w, h1, h2⟩, ?_⟩)
    by_cases h9 : q.1 + 1 = i
    · subst h9
      simp only [gw_ok, h1] at hk
      rw [h2, gw_v_cat]
      simp at hk ⊢
      exact hk
    · simp [hi, h9]
theorem gw_st2 {ls : Array Slot} {nL : Nat} {ad : Nat → Nat} {i : Nat} {v : Value} (hk : gw_ok lv i = true) (h : lv_has ls nL ((i, gw_v ad v) :: (gw_l ad lv).filter (fun q => !(q.1 == i) && (!(q.1 == i + 1) && !(q.1 + 1 == i && q.2.category == 2))))) : lv_has ls nL (gw_l ad ((lv.set i (some v)).set (i + 1) none)) := by
  refine ⟨h.1, h.2.1, fun q hq => h.2.2 q ?_⟩
  obtain ⟨w, h1, h2⟩ := gw_l_mem.mp hq
  by_cases hj : q.1 = i + 1
  · have hlt : i + 1 < (lv.set i (some v)).length := by
      have := (List.getElem?_eq_some_iff.mp h1).1
      rw [List.length_set] at this
      omega
    rw [hj, List.getElem?_set_self hlt] at h1
    simp at h1
  rw [List.getElem?_set_ne (Ne.symm hj)] at h1
  by_cases hi : q.1 = i
  · have hlt : i < lv.length := by
      have := (List.getElem?_eq_some_iff.mp h1).1
      rw [List.length_set] at this
      omega
    rw [hi, List.getElem?_set_self hlt] at h1
    have e1 : v = w := by simpa using h1
    refine List.mem_cons.mpr (Or.inl ?_)
    rw [← hi, e1, ← h2]
  · rw [List.getElem?_set_ne (Ne.symm hi)] at h1
    refine List.mem_cons_of_mem _ (List.mem_filter.mpr ⟨gw_l_mem.mpr ⟨w, h1, h2⟩, ?_⟩)
    by_cases h9 : q.1 + 1 = i
    · subst h9
      simp only [gw_ok, h1] at hk
      rw [h2, gw_v_cat]
      simp at hk ⊢
      exact ⟨by omega, hk⟩
    · simp [hi, h9, hj]
/-- fewer locals are known -/
theorem g_lv {lv2 : List (Option Value)} (hs : ∀ (i : Nat) (v : Value), lv2[i]? = some (some v) → lv[i]? = some (some v)) (k : gG d M pc lv2 st σ Q) : gG d M pc lv st σ Q := by
  intro p l e s m args below meth c H locs ls D ad dA a1 a2 a3 a4 a5 a6 a7 a8 a9 a10 a11
  refine k p l e s m args below meth c H locs ls D ad dA a1 a2 a3 a4 a5 a6 a7 a8 ⟨a9.1, a9.2.1, fun q hq => a9.2.2 q ?_⟩ a10 a11
  obtain ⟨w, h1, h2⟩ := gw_l_mem.mp hq
  exact gw_l_mem.mpr ⟨w, hs _ _ h1, h2⟩
theorem g_iconst {n : Int} {v : Int32} (hd : decode M.2.1 pc = .ok (.iconst n, 1)) (hv : Int32.ofInt n = v) (hp : pc + 1 = pc2) (k : gG d M pc2 lv (.int v :: st) σ Q) : gG d M pc lv (st) σ Q := by
  subst hp
  intro p l e s m args below meth c H locs ls D ad dA a1 a2 a3 a4 a5 a6 a7 a8 a9 a10 a11
  exact lv_iconst a1 a2 hd hv (k p l e s m args below meth c H locs ls D ad dA a1 a2 a3 a4 a5 a6 a7 a8 a9 a10 a11)
theorem g_bipush {n : Int} {v : Int32} (hd : decode M.2.1 pc = .ok (.bipush n, 2)) (hv : (Int8.ofInt n).toInt32 = v) (hp : pc + 2 = pc2) (k : gG d M pc2 lv (.int v :: st) σ Q) : gG d M pc lv (st) σ Q := by
  subst hp
  intro p l e s m args below meth c H locs ls D ad dA a1 a2 a3 a4 a5 a6 a7 a8 a9 a10 a11
  exact lv_bipush a1 a2 hd hv (k p l e s m args below meth c H locs ls D ad dA a1 a2 a3 a4 a5 a6 a7 a8 a9 a10 a11)
theorem g_sipush {n : Int} {v : Int32} (hd : decode M.2.1 pc = .ok (.sipush n, 3)) (hv : (Int16.ofInt n).toInt32 = v) (hp : pc + 3 = pc2) (k : gG d M pc2 lv (.int v :: st) σ Q) : gG d M pc lv (st) σ Q := by
  subst hp
  intro p l e s m args below meth c H locs ls D ad dA a1 a2 a3 a4 a5 a6 a7 a8 a9 a10 a11
  exact lv_sipush a1 a2 hd hv (k p l e s m args below meth c H locs ls D ad dA a1 a2 a3 a4 a5 a6 a7 a8 a9 a10 a11)
theorem g_lconst {n : Fin 2} {v : Int64} (hd : decode M.2.1 pc = .ok (.lconst n, 1)) (hv : Int64.ofNat (n : Nat) = v) (hp : pc + 1 = pc2) (k : gG d M pc2 lv (.long v :: st) σ Q) : gG d M pc lv (st) σ Q := by
  subst hp
  intro p l e s m args below meth c H locs ls D ad dA a1 a2 a3 a4 a5 a6 a7 a8 a9 a10 a11
  exact lv_lconst a1 a2 hd hv (k p l e s m args below meth c H locs ls D ad dA a1 a2 a3 a4 a5 a6 a7 a8 a9 a10 a11)
theorem g_ldc {ix : Nat} {v : Int32} (hd : decode M.2.1 pc = .ok (.ldc ix, 2)) (hw : Cond.constant M.1.cls ix v ∈ gw_tb) (hp : pc + 2 = pc2) (k : gG d M pc2 lv (.int v :: st) σ Q) : gG d M pc lv (st) σ Q := by
  subst hp
  intro p l e s m args below meth c H locs ls D ad dA a1 a2 a3 a4 a5 a6 a7 a8 a9 a10 a11
  exact lv_ldc a1 a2 a5 (a6 _ hw) hd (k p l e s m args below meth c H locs ls D ad dA a1 a2 a3 a4 a5 a6 a7 a8 a9 a10 a11)
theorem g_ldcw {ix : Nat} {v : Int32} (hd : decode M.2.1 pc = .ok (.ldc_w ix, 3)) (hw : Cond.constant M.1.cls ix v ∈ gw_tb) (hp : pc + 3 = pc2) (k : gG d M pc2 lv (.int v :: st) σ Q) : gG d M pc lv (st) σ Q := by
  subst hp
  intro p l e s m args below meth c H locs ls D ad dA a1 a2 a3 a4 a5 a6 a7 a8 a9 a10 a11
  exact lv_ldcw a1 a2 a5 (a6 _ hw) hd (k p l e s m args below meth c H locs ls D ad dA a1 a2 a3 a4 a5 a6 a7 a8 a9 a10 a11)
theorem g_ldc2 {ix : Nat} {v : Int64} (hd : decode M.2.1 pc = .ok (.ldc2_w ix, 3)) (hw : Cond.constantLong M.1.cls ix v ∈ gw_tb) (hp : pc + 3 = pc2) (k : gG d M pc2 lv (.long v :: st) σ Q) : gG d M pc lv (st) σ Q := by
  subst hp
  intro p l e s m args below meth c H locs ls D ad dA a1 a2 a3 a4 a5 a6 a7 a8 a9 a10 a11
  exact lv_ldc2 a1 a2 a5 (a6 _ hw) hd (k p l e s m args below meth c H locs ls D ad dA a1 a2 a3 a4 a5 a6 a7 a8 a9 a10 a11)
theorem g_iload_n {i : Fin 4} {x : Int32} (hd : decode M.2.1 pc = .ok (.iload_n i, 1)) (hl : lv[(i : Nat)]? = some (some (.int x))) (hp : pc + 1 = pc2) (k : gG d M pc2 lv (.int x :: st) σ Q) : gG d M pc lv (st) σ Q := by
  subst hp
  intro p l e s m args below meth c H locs ls D ad dA a1 a2 a3 a4 a5 a6 a7 a8 a9 a10 a11
  exact lv_iload_n a1 a2 hd rfl (gw_lo a9 hl) (k p l e s m args below meth c H locs ls D ad dA a1 a2 a3 a4 a5 a6 a7 a8 a9 a10 a11)
theorem g_iload {i : Nat} {x : Int32} (hd : decode M.2.1 pc = .ok (.iload i, 2)) (hl : lv[i]? = some (some (.int x))) (hp : pc + 2 = pc2) (k : gG d M pc2 lv (.int x :: st) σ Q) : gG d M pc lv (st) σ Q := by
  subst hp
  intro p l e s m args below meth c H locs ls D ad dA a1 a2 a3 a4 a5 a6 a7 a8 a9 a10 a11
  exact lv_iload a1 a2 hd (gw_lo a9 hl) (k p l e s m args below meth c H locs ls D ad dA a1 a2 a3 a4 a5 a6 a7 a8 a9 a10 a11)
theorem g_lload_n {i : Fin 4} {x : Int64} (hd : decode M.2.1 pc = .ok (.lload_n i, 1)) (hl : lv[(i : Nat)]? = some (some (.long x))) (hp : pc + 1 = pc2) (k : gG d M pc2 lv (.long x :: st) σ Q) : gG d M pc lv (st) σ Q := by
  subst hp
  intro p l e s m args below meth c H locs ls D ad dA a1 a2 a3 a4 a5 a6 a7 a8 a9 a10 a11
  exact lv_lload_n a1 a2 hd rfl (gw_lo a9 hl) (k p l e s m args below meth c H locs ls D ad dA a1 a2 a3 a4 a5 a6 a7 a8 a9 a10 a11)
theorem g_lload {i : Nat} {x : Int64} (hd : decode M.2.1 pc = .ok (.lload i, 2)) (hl : lv[i]? = some (some (.long x))) (hp : pc + 2 = pc2) (k : gG d M pc2 lv (.long x :: st) σ Q) : gG d M pc lv (st) σ Q := by
  subst hp
  intro p l e s m args below meth c H locs ls D ad dA a1 a2 a3 a4 a5 a6 a7 a8 a9 a10 a11
  exact lv_lload a1 a2 hd (gw_lo a9 hl) (k p l e s m args below meth c H locs ls D ad dA a1 a2 a3 a4 a5 a6 a7 a8 a9 a10 a11)
theorem g_aload_n {i : Fin 4} {x : Nat} (hd : decode M.2.1 pc = .ok (.aload_n i, 1)) (hl : lv[(i : Nat)]? = some (some (.ref x))) (hp : pc + 1 = pc2) (k : gG d M pc2 lv (.ref x :: st) σ Q) : gG d M pc lv (st) σ Q := by
  subst hp
  intro p l e s m args below meth c H locs ls D ad dA a1 a2 a3 a4 a5 a6 a7 a8 a9 a10 a11
  exact lv_aload_n a1 a2 hd rfl (gw_lo a9 hl) (k p l e s m args below meth c H locs ls D ad dA a1 a2 a3 a4 a5 a6 a7 a8 a9 a10 a11)
theorem g_aload {i : Nat} {x : Nat} (hd : decode M.2.1 pc = .ok (.aload i, 2)) (hl : lv[i]? = some (some (.ref x))) (hp : pc + 2 = pc2) (k : gG d M pc2 lv (.ref x :: st) σ Q) : gG d M pc lv (st) σ Q := by
  subst hp
  intro p l e s m args below meth c H locs ls D ad dA a1 a2 a3 a4 a5 a6 a7 a8 a9 a10 a11
  exact lv_aload a1 a2 hd (gw_lo a9 hl) (k p l e s m args below meth c H locs ls D ad dA a1 a2 a3 a4 a5 a6 a7 a8 a9 a10 a11)
theorem g_istore_n {i : Fin 4} {x : Int32} (hd : decode M.2.1 pc = .ok (.istore_n i, 1)) (hn : (i : Nat) < M.2.2.1) (hk : gw_ok lv (i : Nat) = true) (hp : pc + 1 = pc2) (k : gG d M pc2 (lv.set (i : Nat) (some (.int x))) (st) σ Q) : gG d M pc lv (.int x :: st) σ Q := by
  subst hp
  intro p l e s m args below meth c H locs ls D ad dA a1 a2 a3 a4 a5 a6 a7 a8 a9 a10 a11
  exact lv_istore_n a1 a2 hd rfl a9 hn rfl (fun ls2 h2 => k p l e s m args below meth c H locs ls2 D ad dA a1 a2 a3 a4 a5 a6 a7 a8 (gw_st1 hk h2) a10 a11)
theorem g_istore {i : Nat} {x : Int32} (hd : decode M.2.1 pc = .ok (.istore i, 2)) (hn : i < M.2.2.1) (hk : gw_ok lv i = true) (hp : pc + 2 = pc2) (k : gG d M pc2 (lv.set i (some (.int x))) (st) σ Q) : gG d M pc lv (.int x :: st) σ Q := by
  subst hp
  intro p l e s m args below meth c H locs ls D ad dA a1 a2 a3 a4 a5 a6 a7 a8 a9 a10 a11
  exact lv_istore a1 a2 hd  a9 hn rfl (fun ls2 h2 => k p l e s m args below meth c H locs ls2 D ad dA a1 a2 a3 a4 a5 a6 a7 a8 (gw_st1 hk h2) a10 a11)
theorem g_astore_n {i : Fin 4} {x : Nat} (hd : decode M.2.1 pc = .ok (.astore_n i, 1)) (hn : (i : Nat) < M.2.2.1) (hk : gw_ok lv (i : Nat) = true) (hp : pc + 1 = pc2) (k : gG d M pc2 (lv.set (i : Nat) (some (.ref x))) (st) σ Q) : gG d M pc lv (.ref x :: st) σ Q := by
  subst hp
  intro p l e s m args below meth c H locs ls D ad dA a1 a2 a3 a4 a5 a6 a7 a8 a9 a10 a11
  exact lv_astore_n a1 a2 hd rfl a9 hn rfl (fun ls2 h2 => k p l e s m args below meth c H locs ls2 D ad dA a1 a2 a3 a4 a5 a6 a7 a8 (gw_st1 hk h2) a10 a11)
theorem g_astore {i : Nat} {x : Nat} (hd : decode M.2.1 pc = .ok (.astore i, 2)) (hn : i < M.2.2.1) (hk : gw_ok lv i = true) (hp : pc + 2 = pc2) (k : gG d M pc2 (lv.set i (some (.ref x))) (st) σ Q) : gG d M pc lv (.ref x :: st) σ Q := by
  subst hp
  intro p l e s m args below meth c H locs ls D ad dA a1 a2 a3 a4 a5 a6 a7 a8 a9 a10 a11
  exact lv_astore a1 a2 hd  a9 hn rfl (fun ls2 h2 => k p l e s m args below meth c H locs ls2 D ad dA a1 a2 a3 a4 a5 a6 a7 a8 (gw_st1 hk h2) a10 a11)
theorem g_lstore_n {i : Fin 4} {x : Int64} (hd : decode M.2.1 pc = .ok (.lstore_n i, 1)) (hn : (i : Nat) + 1 < M.2.2.1) (hk : gw_ok lv (i : Nat) = true) (hp : pc + 1 = pc2) (k : gG d M pc2 ((lv.set (i : Nat) (some (.long x))).set ((i : Nat) + 1) none) (st) σ Q) : gG d M pc lv (.long x :: st) σ Q := by
  subst hp
  intro p l e s m args below meth c H locs ls D ad dA a1 a2 a3 a4 a5 a6 a7 a8 a9 a10 a11
  exact lv_lstore_n a1 a2 hd rfl a9 hn rfl (fun ls2 h2 => k p l e s m args below meth c H locs ls2 D ad dA a1 a2 a3 a4 a5 a6 a7 a8 (gw_st2 hk h2) a10 a11)
theorem g_lstore {i : Nat} {x : Int64} (hd : decode M.2.1 pc = .ok (.lstore i, 2)) (hn : i + 1 < M.2.2.1) (hk : gw_ok lv i = true) (hp : pc + 2 = pc2) (k : gG d M pc2 ((lv.set i (some (.long x))).set (i + 1) none) (st) σ Q) : gG d M pc lv (.long x :: st) σ Q := by
  subst hp
  intro p l e s m args below meth c H locs ls D ad dA a1 a2 a3 a4 a5 a6 a7 a8 a9 a10 a11
  exact lv_lstore a1 a2 hd  a9 hn rfl (fun ls2 h2 => k p l e s m args below meth c H locs ls2 D ad dA a1 a2 a3 a4 a5 a6 a7 a8 (gw_st2 hk h2) a10 a11)
theorem g_iinc {i : Nat} {n : Int} {x v : Int32} (hd : decode M.2.1 pc = .ok (.iinc i n, 3)) (hl : lv[i]? = some (some (.int x))) (hv : x + Int32.ofInt n = v) (hn : i < M.2.2.1) (hk : gw_ok lv i = true) (hp : pc + 3 = pc2) (k : gG d M pc2 (lv.set i (some (.int v))) st σ Q) : gG d M pc lv st σ Q := by
  subst hp
  intro p l e s m args below meth c H locs ls D ad dA a1 a2 a3 a4 a5 a6 a7 a8 a9 a10 a11
  obtain ⟨kk, hkk⟩ := List.getElem?_of_mem (gw_l_mem.mpr ⟨.int x, hl, rfl⟩ : (i, gw_v ad (.int x)) ∈ gw_l ad lv)
  exact lv_iinc a1 a2 hd a9 hkk hv hn rfl (fun ls2 h2 => k p l e s m args below meth c H locs ls2 D ad dA a1 a2 a3 a4 a5 a6 a7 a8 (gw_st1 hk h2) a10 a11)
theorem g_iadd {x y : Int32} (hd : decode M.2.1 pc = .ok (.iadd, 1))  (hp : pc + 1 = pc2) (k : gG d M pc2 lv (.int (x + y) :: st) σ Q) : gG d M pc lv (.int y :: .int x :: st) σ Q := by
  subst hp
  intro p l e s m args below meth c H locs ls D ad dA a1 a2 a3 a4 a5 a6 a7 a8 a9 a10 a11
  exact lv_iadd a1 a2 hd (k p l e s m args below meth c H locs ls D ad dA a1 a2 a3 a4 a5 a6 a7 a8 a9 a10 a11)
theorem g_isub {x y : Int32} (hd : decode M.2.1 pc = .ok (.isub, 1))  (hp : pc + 1 = pc2) (k : gG d M pc2 lv (.int (x - y) :: st) σ Q) : gG d M pc lv (.int y :: .int x :: st) σ Q := by
  subst hp
  intro p l e s m args below meth c H locs ls D ad dA a1 a2 a3 a4 a5 a6 a7 a8 a9 a10 a11
  exact lv_isub a1 a2 hd (k p l e s m args below meth c H locs ls D ad dA a1 a2 a3 a4 a5 a6 a7 a8 a9 a10 a11)
theorem g_imul {x y : Int32} (hd : decode M.2.1 pc = .ok (.imul, 1))  (hp : pc + 1 = pc2) (k : gG d M pc2 lv (.int (x * y) :: st) σ Q) : gG d M pc lv (.int y :: .int x :: st) σ Q := by
  subst hp
  intro p l e s m args below meth c H locs ls D ad dA a1 a2 a3 a4 a5 a6 a7 a8 a9 a10 a11
  exact lv_imul a1 a2 hd (k p l e s m args below meth c H locs ls D ad dA a1 a2 a3 a4 a5 a6 a7 a8 a9 a10 a11)
theorem g_iand {x y : Int32} (hd : decode M.2.1 pc = .ok (.iand, 1))  (hp : pc + 1 = pc2) (k : gG d M pc2 lv (.int (x &&& y) :: st) σ Q) : gG d M pc lv (.int y :: .int x :: st) σ Q := by
  subst hp
  intro p l e s m args below meth c H locs ls D ad dA a1 a2 a3 a4 a5 a6 a7 a8 a9 a10 a11
  exact lv_iand a1 a2 hd (k p l e s m args below meth c H locs ls D ad dA a1 a2 a3 a4 a5 a6 a7 a8 a9 a10 a11)
theorem g_ior {x y : Int32} (hd : decode M.2.1 pc = .ok (.ior, 1))  (hp : pc + 1 = pc2) (k : gG d M pc2 lv (.int (x ||| y) :: st) σ Q) : gG d M pc lv (.int y :: .int x :: st) σ Q := by
  subst hp
  intro p l e s m args below meth c H locs ls D ad dA a1 a2 a3 a4 a5 a6 a7 a8 a9 a10 a11
  exact lv_ior a1 a2 hd (k p l e s m args below meth c H locs ls D ad dA a1 a2 a3 a4 a5 a6 a7 a8 a9 a10 a11)
theorem g_ixor {x y : Int32} (hd : decode M.2.1 pc = .ok (.ixor, 1))  (hp : pc + 1 = pc2) (k : gG d M pc2 lv (.int (x ^^^ y) :: st) σ Q) : gG d M pc lv (.int y :: .int x :: st) σ Q := by
  subst hp
  intro p l e s m args below meth c H locs ls D ad dA a1 a2 a3 a4 a5 a6 a7 a8 a9 a10 a11
  exact lv_ixor a1 a2 hd (k p l e s m args below meth c H locs ls D ad dA a1 a2 a3 a4 a5 a6 a7 a8 a9 a10 a11)
theorem g_ishl {x y : Int32} (hd : decode M.2.1 pc = .ok (.ishl, 1))  (hp : pc + 1 = pc2) (k : gG d M pc2 lv (.int (x <<< (y &&& 31)) :: st) σ Q) : gG d M pc lv (.int y :: .int x :: st) σ Q := by
  subst hp
  intro p l e s m args below meth c H locs ls D ad dA a1 a2 a3 a4 a5 a6 a7 a8 a9 a10 a11
  exact lv_ishl a1 a2 hd (k p l e s m args below meth c H locs ls D ad dA a1 a2 a3 a4 a5 a6 a7 a8 a9 a10 a11)
theorem g_ishr {x y : Int32} (hd : decode M.2.1 pc = .ok (.ishr, 1))  (hp : pc + 1 = pc2) (k : gG d M pc2 lv (.int (x >>> (y &&& 31)) :: st) σ Q) : gG d M pc lv (.int y :: .int x :: st) σ Q := by
  subst hp
  intro p l e s m args below meth c H locs ls D ad dA a1 a2 a3 a4 a5 a6 a7 a8 a9 a10 a11
  exact lv_ishr a1 a2 hd (k p l e s m args below meth c H locs ls D ad dA a1 a2 a3 a4 a5 a6 a7 a8 a9 a10 a11)
theorem g_idiv {x y : Int32} (hd : decode M.2.1 pc = .ok (.idiv, 1)) (hne : ¬ y = 0) (hp : pc + 1 = pc2) (k : gG d M pc2 lv (.int (x / y) :: st) σ Q) : gG d M pc lv (.int y :: .int x :: st) σ Q := by
  subst hp
  intro p l e s m args below meth c H locs ls D ad dA a1 a2 a3 a4 a5 a6 a7 a8 a9 a10 a11
  exact lv_idiv a1 a2 hd hne (k p l e s m args below meth c H locs ls D ad dA a1 a2 a3 a4 a5 a6 a7 a8 a9 a10 a11)
theorem g_irem {x y : Int32} (hd : decode M.2.1 pc = .ok (.irem, 1)) (hne : ¬ y = 0) (hp : pc + 1 = pc2) (k : gG d M pc2 lv (.int (x - x / y * y) :: st) σ Q) : gG d M pc lv (.int y :: .int x :: st) σ Q := by
  subst hp
  intro p l e s m args below meth c H locs ls D ad dA a1 a2 a3 a4 a5 a6 a7 a8 a9 a10 a11
  exact lv_irem a1 a2 hd hne (k p l e s m args below meth c H locs ls D ad dA a1 a2 a3 a4 a5 a6 a7 a8 a9 a10 a11)
theorem g_ladd {x y : Int64} (hd : decode M.2.1 pc = .ok (.ladd, 1))  (hp : pc + 1 = pc2) (k : gG d M pc2 lv (.long (x + y) :: st) σ Q) : gG d M pc lv (.long y :: .long x :: st) σ Q := by
  subst hp
  intro p l e s m args below meth c H locs ls D ad dA a1 a2 a3 a4 a5 a6 a7 a8 a9 a10 a11
  exact lv_ladd a1 a2 hd (k p l e s m args below meth c H locs ls D ad dA a1 a2 a3 a4 a5 a6 a7 a8 a9 a10 a11)
theorem g_lsub {x y : Int64} (hd : decode M.2.1 pc = .ok (.lsub, 1))  (hp : pc + 1 = pc2) (k : gG d M pc2 lv (.long (x - y) :: st) σ Q) : gG d M pc lv (.long y :: .long x :: st) σ Q := by
  subst hp
  intro p l e s m args below meth c H locs ls D ad dA a1 a2 a3 a4 a5 a6 a7 a8 a9 a10 a11
  exact lv_lsub a1 a2 hd (k p l e s m args below meth c H locs ls D ad dA a1 a2 a3 a4 a5 a6 a7 a8 a9 a10 a11)
theorem g_lmul {x y : Int64} (hd : decode M.2.1 pc = .ok (.lmul, 1))  (hp : pc + 1 = pc2) (k : gG d M pc2 lv (.long (x * y) :: st) σ Q) : gG d M pc lv (.long y :: .long x :: st) σ Q := by
  subst hp
  intro p l e s m args below meth c H locs ls D ad dA a1 a2 a3 a4 a5 a6 a7 a8 a9 a10 a11
  exact lv_lmul a1 a2 hd (k p l e s m args below meth c H locs ls D ad dA a1 a2 a3 a4 a5 a6 a7 a8 a9 a10 a11)
theorem g_ldiv {x y : Int64} (hd : decode M.2.1 pc = .ok (.ldiv, 1)) (hne : ¬ y = 0) (hp : pc + 1 = pc2) (k : gG d M pc2 lv (.long (x / y) :: st) σ Q) : gG d M pc lv (.long y :: .long x :: st) σ Q := by
  subst hp
  intro p l e s m args below meth c H locs ls D ad dA a1 a2 a3 a4 a5 a6 a7 a8 a9 a10 a11
  exact lv_ldiv a1 a2 hd hne (k p l e s m args below meth c H locs ls D ad dA a1 a2 a3 a4 a5 a6 a7 a8 a9 a10 a11)
theorem g_lrem {x y : Int64} (hd : decode M.2.1 pc = .ok (.lrem, 1)) (hne : ¬ y = 0) (hp : pc + 1 = pc2) (k : gG d M pc2 lv (.long (x - x / y * y) :: st) σ Q) : gG d M pc lv (.long y :: .long x :: st) σ Q := by
  subst hp
  intro p l e s m args below meth c H locs ls D ad dA a1 a2 a3 a4 a5 a6 a7 a8 a9 a10 a11
  exact lv_lrem a1 a2 hd hne (k p l e s m args below meth c H locs ls D ad dA a1 a2 a3 a4 a5 a6 a7 a8 a9 a10 a11)
theorem g_iushr {x y : Int32} (hd : decode M.2.1 pc = .ok (.iushr, 1))  (hp : pc + 1 = pc2) (k : gG d M pc2 lv (.int ((x.toUInt32 >>> (y.toUInt32 &&& Int32.toUInt32 31)).toInt32) :: st) σ Q) : gG d M pc lv (.int y :: .int x :: st) σ Q := by
  subst hp
  intro p l e s m args below meth c H locs ls D ad dA a1 a2 a3 a4 a5 a6 a7 a8 a9 a10 a11
  exact lv_iushr a1 a2 hd rfl (k p l e s m args below meth c H locs ls D ad dA a1 a2 a3 a4 a5 a6 a7 a8 a9 a10 a11)
theorem g_lshl {x : Int64} {y : Int32} (hd : decode M.2.1 pc = .ok (.lshl, 1))  (hp : pc + 1 = pc2) (k : gG d M pc2 lv (.long (x <<< (y.toInt64 &&& 63)) :: st) σ Q) : gG d M pc lv (.int y :: .long x :: st) σ Q := by
  subst hp
  intro p l e s m args below meth c H locs ls D ad dA a1 a2 a3 a4 a5 a6 a7 a8 a9 a10 a11
  exact lv_lshl a1 a2 hd rfl (k p l e s m args below meth c H locs ls D ad dA a1 a2 a3 a4 a5 a6 a7 a8 a9 a10 a11)
theorem g_lshr {x : Int64} {y : Int32} (hd : decode M.2.1 pc = .ok (.lshr, 1))  (hp : pc + 1 = pc2) (k : gG d M pc2 lv (.long (x >>> (y.toInt64 &&& 63)) :: st) σ Q) : gG d M pc lv (.int y :: .long x :: st) σ Q := by
  subst hp
  intro p l e s m args below meth c H locs ls D ad dA a1 a2 a3 a4 a5 a6 a7 a8 a9 a10 a11
  exact lv_lshr a1 a2 hd rfl (k p l e s m args below meth c H locs ls D ad dA a1 a2 a3 a4 a5 a6 a7 a8 a9 a10 a11)
theorem g_lushr {x : Int64} {y : Int32} (hd : decode M.2.1 pc = .ok (.lushr, 1))  (hp : pc + 1 = pc2) (k : gG d M pc2 lv (.long ((x.toUInt64 >>> (y.toInt64.toUInt64 &&& Int64.toUInt64 63)).toInt64) :: st) σ Q) : gG d M pc lv (.int y :: .long x :: st) σ Q := by
  subst hp
  intro p l e s m args below meth c H locs ls D ad dA a1 a2 a3 a4 a5 a6 a7 a8 a9 a10 a11
  exact lv_lushr a1 a2 hd rfl (k p l e s m args below meth c H locs ls D ad dA a1 a2 a3 a4 a5 a6 a7 a8 a9 a10 a11)
theorem g_i2l {x : Int32} (hd : decode M.2.1 pc = .ok (.i2l, 1))  (hp : pc + 1 = pc2) (k : gG d M pc2 lv (.long x.toInt64 :: st) σ Q) : gG d M pc lv (.int x :: st) σ Q := by
  subst hp
  intro p l e s m args below meth c H locs ls D ad dA a1 a2 a3 a4 a5 a6 a7 a8 a9 a10 a11
  exact lv_i2l a1 a2 hd rfl (k p l e s m args below meth c H locs ls D ad dA a1 a2 a3 a4 a5 a6 a7 a8 a9 a10 a11)
theorem g_l2i {x : Int64} (hd : decode M.2.1 pc = .ok (.l2i, 1))  (hp : pc + 1 = pc2) (k : gG d M pc2 lv (.int x.toInt32 :: st) σ Q) : gG d M pc lv (.long x :: st) σ Q := by
  subst hp
  intro p l e s m args below meth c H locs ls D ad dA a1 a2 a3 a4 a5 a6 a7 a8 a9 a10 a11
  exact lv_l2i a1 a2 hd rfl (k p l e s m args below meth c H locs ls D ad dA a1 a2 a3 a4 a5 a6 a7 a8 a9 a10 a11)
theorem g_i2b {x : Int32} (hd : decode M.2.1 pc = .ok (.i2b, 1))  (hp : pc + 1 = pc2) (k : gG d M pc2 lv (.int x.toInt8.toInt32 :: st) σ Q) : gG d M pc lv (.int x :: st) σ Q := by
  subst hp
  intro p l e s m args below meth c H locs ls D ad dA a1 a2 a3 a4 a5 a6 a7 a8 a9 a10 a11
  exact lv_i2b a1 a2 hd rfl (k p l e s m args below meth c H locs ls D ad dA a1 a2 a3 a4 a5 a6 a7 a8 a9 a10 a11)
theorem g_i2s {x : Int32} (hd : decode M.2.1 pc = .ok (.i2s, 1))  (hp : pc + 1 = pc2) (k : gG d M pc2 lv (.int x.toInt16.toInt32 :: st) σ Q) : gG d M pc lv (.int x :: st) σ Q := by
  subst hp
  intro p l e s m args below meth c H locs ls D ad dA a1 a2 a3 a4 a5 a6 a7 a8 a9 a10 a11
  exact lv_i2s a1 a2 hd rfl (k p l e s m args below meth c H locs ls D ad dA a1 a2 a3 a4 a5 a6 a7 a8 a9 a10 a11)
theorem g_lcmp {x y : Int64} (hd : decode M.2.1 pc = .ok (.lcmp, 1))  (hp : pc + 1 = pc2) (k : gG d M pc2 lv (.int (lg_cmp x y) :: st) σ Q) : gG d M pc lv (.long y :: .long x :: st) σ Q := by
  subst hp
  intro p l e s m args below meth c H locs ls D ad dA a1 a2 a3 a4 a5 a6 a7 a8 a9 a10 a11
  exact W.lcmp a1 a2 hd (k p l e s m args below meth c H locs ls D ad dA a1 a2 a3 a4 a5 a6 a7 a8 a9 a10 a11)
theorem g_dup {va : Value} (hd : decode M.2.1 pc = .ok (.dup, 1)) (hva : va.category = 1) (hp : pc + 1 = pc2) (k : gG d M pc2 lv (va :: va :: st) σ Q) : gG d M pc lv (va :: st) σ Q := by
  subst hp
  intro p l e s m args below meth c H locs ls D ad dA a1 a2 a3 a4 a5 a6 a7 a8 a9 a10 a11
  exact lv_dup a1 a2 hd (by rw [gw_v_cat]; exact hva) (k p l e s m args below meth c H locs ls D ad dA a1 a2 a3 a4 a5 a6 a7 a8 a9 a10 a11)
theorem g_pop {va : Value} (hd : decode M.2.1 pc = .ok (.pop, 1)) (hva : va.category = 1) (hp : pc + 1 = pc2) (k : gG d M pc2 lv (st) σ Q) : gG d M pc lv (va :: st) σ Q := by
  subst hp
  intro p l e s m args below meth c H locs ls D ad dA a1 a2 a3 a4 a5 a6 a7 a8 a9 a10 a11
  exact lv_pop a1 a2 hd (by rw [gw_v_cat]; exact hva) (k p l e s m args below meth c H locs ls D ad dA a1 a2 a3 a4 a5 a6 a7 a8 a9 a10 a11)
theorem g_dup2 {va vb : Value} (hd : decode M.2.1 pc = .ok (.dup2, 1)) (hva : va.category = 1) (hvb : vb.category = 1) (hp : pc + 1 = pc2) (k : gG d M pc2 lv (va :: vb :: va :: vb :: st) σ Q) : gG d M pc lv (va :: vb :: st) σ Q := by
  subst hp
  intro p l e s m args below meth c H locs ls D ad dA a1 a2 a3 a4 a5 a6 a7 a8 a9 a10 a11
  exact lv_dup2_11 a1 a2 hd (by rw [gw_v_cat]; exact hva) (by rw [gw_v_cat]; exact hvb) (k p l e s m args below meth c H locs ls D ad dA a1 a2 a3 a4 a5 a6 a7 a8 a9 a10 a11)
theorem g_if_eq {x : Int32} {off : Int} {tgt : Nat} (hd : decode M.2.1 pc = .ok (.ifCond .eq off, 3)) (ht : (pc : Int) + off = (tgt : Int)) (hp : pc + 3 = pc2) (kt : x = 0 → gG d M tgt lv st σ Q) (kf : ¬ x = 0 → gG d M pc2 lv st σ Q) : gG d M pc lv (.int x :: st) σ Q := by
  subst hp
  intro p l e s m args below meth c H locs ls D ad dA a1 a2 a3 a4 a5 a6 a7 a8 a9 a10 a11
  exact lv_if_eq a1 a2 hd ht (fun h => kt h p l e s m args below meth c H locs ls D ad dA a1 a2 a3 a4 a5 a6 a7 a8 a9 a10 a11) (fun h => kf h p l e s m args below meth c H locs ls D ad dA a1 a2 a3 a4 a5 a6 a7 a8 a9 a10 a11)
theorem g_icmp_eq {x y : Int32} {off : Int} {tgt : Nat} (hd : decode M.2.1 pc = .ok (.if_icmp .eq off, 3)) (ht : (pc : Int) + off = (tgt : Int)) (hp : pc + 3 = pc2) (kt : x = y → gG d M tgt lv st σ Q) (kf : ¬ x = y → gG d M pc2 lv st σ Q) : gG d M pc lv (.int y :: .int x :: st) σ Q := by
  subst hp
  intro p l e s m args below meth c H locs ls D ad dA a1 a2 a3 a4 a5 a6 a7 a8 a9 a10 a11
  exact lv_icmp_eq a1 a2 hd ht (fun h => kt h p l e s m args below meth c H locs ls D ad dA a1 a2 a3 a4 a5 a6 a7 a8 a9 a10 a11) (fun h => kf h p l e s m args below meth c H locs ls D ad dA a1 a2 a3 a4 a5 a6 a7 a8 a9 a10 a11)
theorem g_if_ne {x : Int32} {off : Int} {tgt : Nat} (hd : decode M.2.1 pc = .ok (.ifCond .ne off, 3)) (ht : (pc : Int) + off = (tgt : Int)) (hp : pc + 3 = pc2) (kt : ¬ x = 0 → gG d M tgt lv st σ Q) (kf : x = 0 → gG d M pc2 lv st σ Q) : gG d M pc lv (.int x :: st) σ Q := by
  subst hp
  intro p l e s m args below meth c H locs ls D ad dA a1 a2 a3 a4 a5 a6 a7 a8 a9 a10 a11
  exact lv_if_ne a1 a2 hd ht (fun h => kt h p l e s m args below meth c H locs ls D ad dA a1 a2 a3 a4 a5 a6 a7 a8 a9 a10 a11) (fun h => kf h p l e s m args below meth c H locs ls D ad dA a1 a2 a3 a4 a5 a6 a7 a8 a9 a10 a11)
theorem g_icmp_ne {x y : Int32} {off : Int} {tgt : Nat} (hd : decode M.2.1 pc = .ok (.if_icmp .ne off, 3)) (ht : (pc : Int) + off = (tgt : Int)) (hp : pc + 3 = pc2) (kt : ¬ x = y → gG d M tgt lv st σ Q) (kf : x = y → gG d M pc2 lv st σ Q) : gG d M pc lv (.int y :: .int x :: st) σ Q := by
  subst hp
  intro p l e s m args below meth c H locs ls D ad dA a1 a2 a3 a4 a5 a6 a7 a8 a9 a10 a11
  exact lv_icmp_ne a1 a2 hd ht (fun h => kt h p l e s m args below meth c H locs ls D ad dA a1 a2 a3 a4 a5 a6 a7 a8 a9 a10 a11) (fun h => kf h p l e s m args below meth c H locs ls D ad dA a1 a2 a3 a4 a5 a6 a7 a8 a9 a10 a11)
theorem g_if_lt {x : Int32} {off : Int} {tgt : Nat} (hd : decode M.2.1 pc = .ok (.ifCond .lt off, 3)) (ht : (pc : Int) + off = (tgt : Int)) (hp : pc + 3 = pc2) (kt : x < 0 → gG d M tgt lv st σ Q) (kf : ¬ x < 0 → gG d M pc2 lv st σ Q) : gG d M pc lv (.int x :: st) σ Q := by
  subst hp
  intro p l e s m args below meth c H locs ls D ad dA a1 a2 a3 a4 a5 a6 a7 a8 a9 a10 a11
  exact lv_if_lt a1 a2 hd ht (fun h => kt h p l e s m args below meth c H locs ls D ad dA a1 a2 a3 a4 a5 a6 a7 a8 a9 a10 a11) (fun h => kf h p l e s m args below meth c H locs ls D ad dA a1 a2 a3 a4 a5 a6 a7 a8 a9 a10 a11)
theorem g_icmp_lt {x y : Int32} {off : Int} {tgt : Nat} (hd : decode M.2.1 pc = .ok (.if_icmp .lt off, 3)) (ht : (pc : Int) + off = (tgt : Int)) (hp : pc + 3 = pc2) (kt : x < y → gG d M tgt lv st σ Q) (kf : ¬ x < y → gG d M pc2 lv st σ Q) : gG d M pc lv (.int y :: .int x :: st) σ Q := by
  subst hp
  intro p l e s m args below meth c H locs ls D ad dA a1 a2 a3 a4 a5 a6 a7 a8 a9 a10 a11
  exact lv_icmp_lt a1 a2 hd ht (fun h => kt h p l e s m args below meth c H locs ls D ad dA a1 a2 a3 a4 a5 a6 a7 a8 a9 a10 a11) (fun h => kf h p l e s m args below meth c H locs ls D ad dA a1 a2 a3 a4 a5 a6 a7 a8 a9 a10 a11)
theorem g_if_ge {x : Int32} {off : Int} {tgt : Nat} (hd : decode M.2.1 pc = .ok (.ifCond .ge off, 3)) (ht : (pc : Int) + off = (tgt : Int)) (hp : pc + 3 = pc2) (kt : 0 ≤ x → gG d M tgt lv st σ Q) (kf : ¬ 0 ≤ x → gG d M pc2 lv st σ Q) : gG d M pc lv (.int x :: st) σ Q := by
  subst hp
  intro p l e s m args below meth c H locs ls D ad dA a1 a2 a3 a4 a5 a6 a7 a8 a9 a10 a11
  exact lv_if_ge a1 a2 hd ht (fun h => kt h p l e s m args below meth c H locs ls D ad dA a1 a2 a3 a4 a5 a6 a7 a8 a9 a10 a11) (fun h => kf h p l e s m args below meth c H locs ls D ad dA a1 a2 a3 a4 a5 a6 a7 a8 a9 a10 a11)
theorem g_icmp_ge {x y : Int32} {off : Int} {tgt : Nat} (hd : decode M.2.1 pc = .ok (.if_icmp .ge off, 3)) (ht : (pc : Int) + off = (tgt : Int)) (hp : pc + 3 = pc2) (kt : y ≤ x → gG d M tgt lv st σ Q) (kf : ¬ y ≤ x → gG d M pc2 lv st σ Q) : gG d M pc lv (.int y :: .int x :: st) σ Q := by
  subst hp
  intro p l e s m args below meth c H locs ls D ad dA a1 a2 a3 a4 a5 a6 a7 a8 a9 a10 a11
  exact lv_icmp_ge a1 a2 hd ht (fun h => kt h p l e s m args below meth c H locs ls D ad dA a1 a2 a3 a4 a5 a6 a7 a8 a9 a10 a11) (fun h => kf h p l e s m args below meth c H locs ls D ad dA a1 a2 a3 a4 a5 a6 a7 a8 a9 a10 a11)
theorem g_if_gt {x : Int32} {off : Int} {tgt : Nat} (hd : decode M.2.1 pc = .ok (.ifCond .gt off, 3)) (ht : (pc : Int) + off = (tgt : Int)) (hp : pc + 3 = pc2) (kt : 0 < x → gG d M tgt lv st σ Q) (kf : ¬ 0 < x → gG d M pc2 lv st σ Q) : gG d M pc lv (.int x :: st) σ Q := by
  subst hp
  intro p l e s m args below meth c H locs ls D ad dA a1 a2 a3 a4 a5 a6 a7 a8 a9 a10 a11
  exact lv_if_gt a1 a2 hd ht (fun h => kt h p l e s m args below meth c H locs ls D ad dA a1 a2 a3 a4 a5 a6 a7 a8 a9 a10 a11) (fun h => kf h p l e s m args below meth c H locs ls D ad dA a1 a2 a3 a4 a5 a6 a7 a8 a9 a10 a11)
theorem g_icmp_gt {x y : Int32} {off : Int} {tgt : Nat} (hd : decode M.2.1 pc = .ok (.if_icmp .gt off, 3)) (ht : (pc : Int) + off = (tgt : Int)) (hp : pc + 3 = pc2) (kt : y < x → gG d M tgt lv st σ Q) (kf : ¬ y < x → gG d M pc2 lv st σ Q) : gG d M pc lv (.int y :: .int x :: st) σ Q := by
  subst hp
  intro p l e s m args below meth c H locs ls D ad dA a1 a2 a3 a4 a5 a6 a7 a8 a9 a10 a11
  exact lv_icmp_gt a1 a2 hd ht (fun h => kt h p l e s m args below meth c H locs ls D ad dA a1 a2 a3 a4 a5 a6 a7 a8 a9 a10 a11) (fun h => kf h p l e s m args below meth c H locs ls D ad dA a1 a2 a3 a4 a5 a6 a7 a8 a9 a10 a11)
theorem g_if_le {x : Int32} {off : Int} {tgt : Nat} (hd : decode M.2.1 pc = .ok (.ifCond .le off, 3)) (ht : (pc : Int) + off = (tgt : Int)) (hp : pc + 3 = pc2) (kt : x ≤ 0 → gG d M tgt lv st σ Q) (kf : ¬ x ≤ 0 → gG d M pc2 lv st σ Q) : gG d M pc lv (.int x :: st) σ Q := by
  subst hp
  intro p l e s m args below meth c H locs ls D ad dA a1 a2 a3 a4 a5 a6 a7 a8 a9 a10 a11
  exact lv_if_le a1 a2 hd ht (fun h => kt h p l e s m args below meth c H locs ls D ad dA a1 a2 a3 a4 a5 a6 a7 a8 a9 a10 a11) (fun h => kf h p l e s m args below meth c H locs ls D ad dA a1 a2 a3 a4 a5 a6 a7 a8 a9 a10 a11)
theorem g_icmp_le {x y : Int32} {off : Int} {tgt : Nat} (hd : decode M.2.1 pc = .ok (.if_icmp .le off, 3)) (ht : (pc : Int) + off = (tgt : Int)) (hp : pc + 3 = pc2) (kt : x ≤ y → gG d M tgt lv st σ Q) (kf : ¬ x ≤ y → gG d M pc2 lv st σ Q) : gG d M pc lv (.int y :: .int x :: st) σ Q := by
  subst hp
  intro p l e s m args below meth c H locs ls D ad dA a1 a2 a3 a4 a5 a6 a7 a8 a9 a10 a11
  exact lv_icmp_le a1 a2 hd ht (fun h => kt h p l e s m args below meth c H locs ls D ad dA a1 a2 a3 a4 a5 a6 a7 a8 a9 a10 a11) (fun h => kf h p l e s m args below meth c H locs ls D ad dA a1 a2 a3 a4 a5 a6 a7 a8 a9 a10 a11)
theorem g_goto {off : Int} {tgt : Nat} (hd : decode M.2.1 pc = .ok (.goto off, 3)) (ht : (pc : Int) + off = (tgt : Int)) (k : gG d M tgt lv st σ Q) : gG d M pc lv st σ Q := by
  intro p l e s m args below meth c H locs ls D ad dA a1 a2 a3 a4 a5 a6 a7 a8 a9 a10 a11
  exact lv_goto a1 a2 hd ht (k p l e s m args below meth c H locs ls D ad dA a1 a2 a3 a4 a5 a6 a7 a8 a9 a10 a11)
theorem g_tabOut {dflt lo hi : Int} {offs : Array Int} {len : Nat} {x : Int32} {tgt : Nat} (hd : decode M.2.1 pc = .ok (.tableswitch dflt lo hi offs, len)) (h : x.toInt < lo ∨ hi < x.toInt) (ht : (pc : Int) + dflt = (tgt : Int)) (k : gG d M tgt lv st σ Q) : gG d M pc lv (.int x :: st) σ Q := by
  intro p l e s m args below meth c H locs ls D ad dA a1 a2 a3 a4 a5 a6 a7 a8 a9 a10 a11
  exact lv_tableOut a1 a2 hd h ht (k p l e s m args below meth c H locs ls D ad dA a1 a2 a3 a4 a5 a6 a7 a8 a9 a10 a11)
theorem g_tabIn {dflt lo hi : Int} {offs : Array Int} {len : Nat} {x : Int32} {off : Int} {tgt : Nat} (hd : decode M.2.1 pc = .ok (.tableswitch dflt lo hi offs, len)) (h1 : ¬ x.toInt < lo) (h2 : ¬ hi < x.toInt) (ho : offs[(x.toInt - lo).toNat]? = some off) (ht : (pc : Int) + off = (tgt : Int)) (k : gG d M tgt lv st σ Q) : gG d M pc lv (.int x :: st) σ Q := by
  intro p l e s m args below meth c H locs ls D ad dA a1 a2 a3 a4 a5 a6 a7 a8 a9 a10 a11
  exact lv_tableIn a1 a2 hd h1 h2 ho ht (k p l e s m args below meth c H locs ls D ad dA a1 a2 a3 a4 a5 a6 a7 a8 a9 a10 a11)
/-- a field's link and place -/
def gw_fl (own : String) (idx ci j : Nat) : Prop := ∃ (C : String) (T : u_T) (N : Nat), vwCl[ci]? = some (C, T, N) ∧ j < N ∧ (∀ w ∈ u_ws C T N, w ∈ gw_tb) ∧ Cond.fieldLink own idx (T j).1 (T j).2.1 (T j).2.2.1 ∈ gw_tb
def gw_fp (own : String) (idx ci j : Nat) (ty : FieldType) : Prop := ∃ (C : String) (T : u_T) (N : Nat) (ty0 : Nat → FieldType), vwCl[ci]? = some (C, T, N) ∧ j < N ∧ (∀ w ∈ u_ws C T N, w ∈ gw_tb) ∧ Cond.fieldLink own idx (T j).1 (T j).2.1 (T j).2.2.1 ∈ gw_tb ∧ (T j).2.2.2 = false ∧ parseFieldDescriptor (T j).2.2.1 = some ty ∧ (∀ k, k < N → parseFieldDescriptor (T k).2.2.1 = some (ty0 k)) ∧ (∀ a, a < N → ∀ b, b < N → a ≠ b → (T a).2.1 ≠ (T b).2.1)
theorem g_geti {idx ci j k : Nat} {sl : List (Option Nat)} (hd : decode M.2.1 pc = .ok (.getfield idx, 3)) (hf : gw_fl M.1.cls idx ci j) (hk : gw_k k = some (.inr (.inr (ci, sl)))) (hs : sl[j]? = some none) (hp : pc + 3 = pc2) (kk : gG d M pc2 lv (.int (σ k j) :: st) σ Q) : gG d M pc lv (.ref k :: st) σ Q := by
  subst hp
  intro p l e s m args below meth c H locs ls D ad dA a1 a2 a3 a4 a5 a6 a7 a8 a9 a10 a11
  obtain ⟨C, T, N, h1, h2, h3, h4⟩ := hf
  obtain ⟨⟨tys, hK, hT⟩, hJ, hN⟩ := id a8
  exact va_get (v := .int (σ k j)) a1 a2 a6 h3 a5 hK a10 k (gw_wl_at hk) h1 j h2 (a6 _ h4) (fun _ h => h) (gw_ob_at hs) hd (kk p l e s m args below meth c H locs ls D ad dA a1 a2 a3 a4 a5 a6 a7 a8 a9 a10 a11)
theorem g_geta {idx ci j k k2 : Nat} {sl : List (Option Nat)} (hd : decode M.2.1 pc = .ok (.getfield idx, 3)) (hf : gw_fl M.1.cls idx ci j) (hk : gw_k k = some (.inr (.inr (ci, sl)))) (hs : sl[j]? = some (some k2)) (hp : pc + 3 = pc2) (kk : gG d M pc2 lv (.ref k2 :: st) σ Q) : gG d M pc lv (.ref k :: st) σ Q := by
  subst hp
  intro p l e s m args below meth c H locs ls D ad dA a1 a2 a3 a4 a5 a6 a7 a8 a9 a10 a11
  obtain ⟨C, T, N, h1, h2, h3, h4⟩ := hf
  obtain ⟨⟨tys, hK, hT⟩, hJ, hN⟩ := id a8
  exact va_get (v := .ref (ad k2)) a1 a2 a6 h3 a5 hK a10 k (gw_wl_at hk) h1 j h2 (a6 _ h4) (fun _ h => h) (gw_ob_at hs) hd (kk p l e s m args below meth c H locs ls D ad dA a1 a2 a3 a4 a5 a6 a7 a8 a9 a10 a11)
theorem gw_uk {σ : gw_S} {k j : Nat} {v : Int32} : gw_u σ k j v k = upd (σ k) j v := if_pos rfl
theorem gw_un {σ : gw_S} {k k2 j : Nat} {v : Int32} (h : k2 ≠ k) : gw_u σ k j v k2 = σ k2 := if_neg h
theorem g_put {idx ci j k : Nat} {sl : List (Option Nat)} {ty : FieldType} {x : Int32} (hd : decode M.2.1 pc = .ok (.putfield idx, 3)) (hf : gw_fp M.1.cls idx ci j ty) (hk : gw_k k = some (.inr (.inr (ci, sl)))) (hs : sl[j]? = some none) (hn : narrow ty (.int x) = .int x) (hfit : fits ty (.int x) = true) (hp : pc + 3 = pc2) (kk : gG d M pc2 lv st (gw_u σ k j x) Q) : gG d M pc lv (.int x :: .ref k :: st) σ Q := by
  subst hp
  intro p l e s m args below meth c H locs ls D ad dA a1 a2 a3 a4 a5 a6 a7 a8 a9 a10 a11
  obtain ⟨C, T, N, ty0, h1, h2, h3, h4, h5, h6, h7, h8⟩ := hf
  obtain ⟨⟨tys, hK, hT⟩, hJ, hN⟩ := id a8
  refine va_put (v := .int x) (ty := ty) a1 a2 a6 h3 ty0 h7 h8 a5 hK a10 (gw_D hJ) a11 k (gw_wl_at hk) h1 j h2 (a6 _ h4) (fun _ h => h) h5 h6 hn hfit (by rw [gw_ob_len]; exact (List.getElem?_eq_some_iff.mp hs).1) hd (fun H1 locs1 hP1 _ hS1 => ?_)
  rw [gw_wl_set (σ' := gw_u σ k j x) hk (by rw [gw_uk]; show Sum.inr (ci, gw_ob ad (upd (σ k) j x) sl) = _; rw [gw_ob_set hs]) (fun k2 h => gw_un h)] at hP1
  exact kk p l e s m args below meth c H1 locs1 ls D ad dA a1 a2 a3 a4 a5 a6 a7 a8 a9 hP1 hS1
theorem g_iald {k n : Nat} {i : Int32} (hd : decode M.2.1 pc = .ok (.iaload, 1)) (hk : gw_k k = some (.inl (.int, n))) (hi : vp_in i n) (hp : pc + 1 = pc2) (kk : gG d M pc2 lv (.int (σ k i.toNatClampNeg) :: st) σ Q) : gG d M pc lv (.int i :: .ref k :: st) σ Q := by
  subst hp
  intro p l e s m args below meth c H locs ls D ad dA a1 a2 a3 a4 a5 a6 a7 a8 a9 a10 a11
  obtain ⟨⟨tys, hK, hT⟩, hJ, hN⟩ := id a8
  obtain ⟨t0, ht⟩ := hT k _ hk
  exact va_iald a1 a2 hK a10 k t0 (gw_wl_at hk) ht hi hd (kk p l e s m args below meth c H locs ls D ad dA a1 a2 a3 a4 a5 a6 a7 a8 a9 a10 a11)
theorem g_zald {k n : Nat} {i : Int32} (hd : decode M.2.1 pc = .ok (.baload, 1)) (hk : gw_k k = some (.inl (.boolean, n))) (hi : vp_in i n) (hp : pc + 1 = pc2) (kk : gG d M pc2 lv (.int (σ k i.toNatClampNeg) :: st) σ Q) : gG d M pc lv (.int i :: .ref k :: st) σ Q := by
  subst hp
  intro p l e s m args below meth c H locs ls D ad dA a1 a2 a3 a4 a5 a6 a7 a8 a9 a10 a11
  obtain ⟨⟨tys, hK, hT⟩, hJ, hN⟩ := id a8
  obtain ⟨t0, ht⟩ := hT k _ hk
  exact va_zald a1 a2 hK a10 k t0 (gw_wl_at hk) ht hi hd (kk p l e s m args below meth c H locs ls D ad dA a1 a2 a3 a4 a5 a6 a7 a8 a9 a10 a11)
theorem g_iast {k n : Nat} {i x : Int32} (hd : decode M.2.1 pc = .ok (.iastore, 1)) (hk : gw_k k = some (.inl (.int, n))) (hi : vp_in i n) (hp : pc + 1 = pc2) (kk : gG d M pc2 lv st (gw_u σ k i.toNatClampNeg x) Q) : gG d M pc lv (.int x :: .int i :: .ref k :: st) σ Q := by
  subst hp
  intro p l e s m args below meth c H locs ls D ad dA a1 a2 a3 a4 a5 a6 a7 a8 a9 a10 a11
  obtain ⟨⟨tys, hK, hT⟩, hJ, hN⟩ := id a8
  obtain ⟨t0, ht⟩ := hT k _ hk
  refine va_iast a1 a2 hK a10 (gw_D hJ) a11 k t0 (gw_wl_at hk) ht hi hd (fun H1 locs1 hP1 _ hS1 => ?_)
  rw [gw_wl_set (σ' := gw_u σ k i.toNatClampNeg x) hk (by rw [gw_uk]; rfl) (fun k2 h => gw_un h)] at hP1
  exact kk p l e s m args below meth c H1 locs1 ls D ad dA a1 a2 a3 a4 a5 a6 a7 a8 a9 hP1 hS1
theorem g_zast {k n : Nat} {i x : Int32} (hd : decode M.2.1 pc = .ok (.bastore, 1)) (hk : gw_k k = some (.inl (.boolean, n))) (hi : vp_in i n) (hp : pc + 1 = pc2) (kk : gG d M pc2 lv st (gw_u σ k i.toNatClampNeg (vp_nar .boolean x)) Q) : gG d M pc lv (.int x :: .int i :: .ref k :: st) σ Q := by
  subst hp
  intro p l e s m args below meth c H locs ls D ad dA a1 a2 a3 a4 a5 a6 a7 a8 a9 a10 a11
  obtain ⟨⟨tys, hK, hT⟩, hJ, hN⟩ := id a8
  obtain ⟨t0, ht⟩ := hT k _ hk
  refine va_zast a1 a2 hK a10 (gw_D hJ) a11 k t0 (gw_wl_at hk) ht hi hd (fun H1 locs1 hP1 _ hS1 => ?_)
  rw [gw_wl_set (σ' := gw_u σ k i.toNatClampNeg (vp_nar .boolean x)) hk (by rw [gw_uk]; rfl) (fun k2 h => gw_un h)] at hP1
  exact kk p l e s m args below meth c H1 locs1 ls D ad dA a1 a2 a3 a4 a5 a6 a7 a8 a9 hP1 hS1
theorem g_aald {k k2 : Nat} {ty : FieldType} {ks : List Nat} {i : Int32} (hd : decode M.2.1 pc = .ok (.aaload, 1)) (hk : gw_k k = some (.inr (.inl (ty, ks)))) (hty : ty.isReference = true) (hi : vp_in i ks.length) (h2 : ks[i.toNatClampNeg]? = some k2) (hp : pc + 1 = pc2) (kk : gG d M pc2 lv (.ref k2 :: st) σ Q) : gG d M pc lv (.int i :: .ref k :: st) σ Q := by
  subst hp
  intro p l e s m args below meth c H locs ls D ad dA a1 a2 a3 a4 a5 a6 a7 a8 a9 a10 a11
  obtain ⟨⟨tys, hK, hT⟩, hJ, hN⟩ := id a8
  obtain ⟨t0, ht⟩ := hT k _ hk
  have hlt : i.toNatClampNeg < ks.length := Nat.not_le.mp fun q => hi (Or.inr q)
  have hc : H[ad k]? = some (vp_cell (dA k) (ks.length, .inr (.inr (.inr (.inr (fun i => (ks[i]?).map ad)))))) := a10 k _ (gw_wl_at hk)
  exact W.aald (v := .ref (ad k2)) (ty := ty) a1 a2 hc ((hK.2 t0 _ ht).1 ks.length (fun j => va_rf ((ks[j]?).map ad))) hty (fun q => by cases q) (by show ¬ (i < 0 ∨ (arrV _ _ _).slots.size ≤ _); rw [arrV_size]; exact hi) (by show (arrV _ _ _).slots[_]? = _; rw [arrV_read _ _ hlt]; simp [h2, va_rf]) rfl rfl hd (kk p l e s m args below meth c H locs ls D ad dA a1 a2 a3 a4 a5 a6 a7 a8 a9 a10 a11)
theorem g_alen {k n : Nat} {ty : FieldType} (hd : decode M.2.1 pc = .ok (.arraylength, 1)) (hk : gw_k k = some (.inl (ty, n))) (hp : pc + 1 = pc2) (kk : gG d M pc2 lv (.int (Int32.ofNat n) :: st) σ Q) : gG d M pc lv (.ref k :: st) σ Q := by
  subst hp
  intro p l e s m args below meth c H locs ls D ad dA a1 a2 a3 a4 a5 a6 a7 a8 a9 a10 a11
  obtain ⟨⟨tys, hK, hT⟩, hJ, hN⟩ := id a8
  obtain ⟨t0, ht⟩ := hT k _ hk
  exact va_alen a1 a2 hK a10 k t0 (gw_wl_at hk) ht rfl hd (kk p l e s m args below meth c H locs ls D ad dA a1 a2 a3 a4 a5 a6 a7 a8 a9 a10 a11)
theorem g_alenr {k : Nat} {ty : FieldType} {ks : List Nat} (hd : decode M.2.1 pc = .ok (.arraylength, 1)) (hk : gw_k k = some (.inr (.inl (ty, ks)))) (hp : pc + 1 = pc2) (kk : gG d M pc2 lv (.int (Int32.ofNat ks.length) :: st) σ Q) : gG d M pc lv (.ref k :: st) σ Q := by
  subst hp
  intro p l e s m args below meth c H locs ls D ad dA a1 a2 a3 a4 a5 a6 a7 a8 a9 a10 a11
  obtain ⟨⟨tys, hK, hT⟩, hJ, hN⟩ := id a8
  obtain ⟨t0, ht⟩ := hT k _ hk
  exact va_alen a1 a2 hK a10 k t0 (gw_wl_at hk) ht rfl hd (kk p l e s m args below meth c H locs ls D ad dA a1 a2 a3 a4 a5 a6 a7 a8 a9 a10 a11)
/-- one row copied into another -/
def gw_cp (σ : gw_S) (k0 k1 : Nat) (sp dp n : Nat) : gw_S := fun k => if k = k1 then va_cpy (σ k0) (σ k1) sp dp n else σ k
theorem g_copy {idx k0 k1 n0 n1 : Nat} {sp dp n : Int32} (hd : decode M.2.1 pc = .ok (.invokestatic idx, 3)) (hl : Cond.methodLink M.1.cls idx arraycopyName ∈ gw_tb) (hw : Cond.native arraycopyName ∈ gw_tb ∧ Cond.static arraycopyName ∈ gw_tb ∧ Cond.initialized "java/lang/System" ∈ gw_tb) (hk0 : gw_k k0 = some (.inl (.int, n0))) (hk1 : gw_k k1 = some (.inl (.int, n1)))
    (h1 : ¬ sp < 0) (h2 : ¬ dp < 0) (h3 : ¬ n < 0) (h4 : sp.toNatClampNeg + n.toNatClampNeg ≤ n0) (h5 : dp.toNatClampNeg + n.toNatClampNeg ≤ n1) (hdd : 1 ≤ d) (hr : (st.map fun v => v.category).sum ≤ 8) (hp : pc + 3 = pc2) (kk : gG d M pc2 lv st (gw_cp σ k0 k1 sp.toNatClampNeg dp.toNatClampNeg n.toNatClampNeg) Q) : gG d M pc lv (.int n :: .int dp :: .ref k1 :: .int sp :: .ref k0 :: st) σ Q := by
  subst hp
  intro p l e s m args below meth c H locs ls D ad dA a1 a2 a3 a4 a5 a6 a7 a8 a9 a10 a11
  obtain ⟨⟨tys, hK, hT⟩, hJ, hN⟩ := id a8
  obtain ⟨t0, ht0⟩ := hT k0 _ hk0
  obtain ⟨t1, ht1⟩ := hT k1 _ hk1
  have hrr : ((st.map (gw_v ad)).map fun v => v.category).sum = (st.map fun v => v.category).sum := by
    rw [List.map_map]
    congr 1
    apply List.map_congr_left
    intro v _
    exact gw_v_cat ad v
  refine va_copyi a1 a2 (a4.trans a9.1.symm) a5 (a6 _ hl) (a6 _ hw.1) (a6 _ hw.2.1) (a6 _ hw.2.2) hK a10 (gw_D hJ) a11 k0 k1 t0 t1 (gw_wl_at hk0) (gw_wl_at hk1) ht0 ht1 rfl h1 h2 h3 h4 h5 (fun _ _ => rfl) hdd (by rw [hrr]; show _ + 16 ≤ 44 * d; omega) hd (fun H1 locs1 hP1 _ hS1 => ?_)
  rw [gw_wl_set (σ' := gw_cp σ k0 k1 sp.toNatClampNeg dp.toNatClampNeg n.toNatClampNeg) hk1 (by unfold gw_cp; rw [if_pos rfl]; rfl) (fun k2 h => by unfold gw_cp; rw [if_neg h])] at hP1
  exact kk p l e s m args below meth c H1 locs1 ls D ad dA a1 a2 a3 a4 a5 a6 a7 a8 a9 hP1 hS1
theorem g_iret {v : Int32} (hd : decode M.2.1 pc = .ok (.ireturn, 1)) (hr : M.2.2.2 = some .int) (hq : Q (some (.int v)) σ) : gG d M pc lv [.int v] σ Q := by
  intro p l e s m args below meth c H locs ls D ad dA a1 a2 a3 a4 a5 a6 a7 a8 a9 a10 a11
  exact W.iret (v := v) a1 a2 (a3.trans hr) (fun t ht hW => ⟨⟨some (.int v), σ, rfl, hq, by rw [ht]; exact a10, a8.warm hW⟩, a11.F ht⟩) a11.2.2 hd a7
theorem g_zret {v : Int32} (hd : decode M.2.1 pc = .ok (.ireturn, 1)) (hr : M.2.2.2 = some .boolean) (hn : narrow .boolean (.int v) = .int v) (hq : Q (some (.int v)) σ) : gG d M pc lv [.int v] σ Q := by
  intro p l e s m args below meth c H locs ls D ad dA a1 a2 a3 a4 a5 a6 a7 a8 a9 a10 a11
  exact W.zret (v := v) (ty := .boolean) a1 a2 (a3.trans hr) hn (fun t ht hW => ⟨⟨some (.int v), σ, rfl, hq, by rw [ht]; exact a10, a8.warm hW⟩, a11.F ht⟩) a11.2.2 hd a7
theorem g_lret {v : Int64} (hd : decode M.2.1 pc = .ok (.lreturn, 1)) (hr : M.2.2.2 = some .long) (hq : Q (some (.long v)) σ) : gG d M pc lv [.long v] σ Q := by
  intro p l e s m args below meth c H locs ls D ad dA a1 a2 a3 a4 a5 a6 a7 a8 a9 a10 a11
  exact W.lret (v := v) a1 a2 (a3.trans hr) (fun t ht hW => ⟨⟨some (.long v), σ, rfl, hq, by rw [ht]; exact a10, a8.warm hW⟩, a11.F ht⟩) a11.2.2 hd a7
theorem g_vret (hd : decode M.2.1 pc = .ok (.return_, 1)) (hr : M.2.2.2 = none) (hq : Q none σ) : gG d M pc lv [] σ Q := by
  intro p l e s m args below meth c H locs ls D ad dA a1 a2 a3 a4 a5 a6 a7 a8 a9 a10 a11
  exact W.vret a1 a2 (a3.trans hr) (fun t ht hW => ⟨⟨none, σ, rfl, hq, by rw [ht]; exact a10, a8.warm hW⟩, a11.F ht⟩) a11.2.2 hd a7
theorem g_aret {k : Nat} {C : String} (hd : decode M.2.1 pc = .ok (.areturn, 1)) (hr : M.2.2.2 = some (.object C)) (hq : Q (some (.ref k)) σ) : gG d M pc lv [.ref k] σ Q := by
  intro p l e s m args below meth c H locs ls D ad dA a1 a2 a3 a4 a5 a6 a7 a8 a9 a10 a11
  exact W.aret (v := .ref (ad k)) a1 a2 (a3.trans hr) (Or.inl ⟨_, rfl⟩) (Or.inr ⟨_, rfl⟩) (fun t ht hW => ⟨⟨some (.ref k), σ, rfl, hq, by rw [ht]; exact a10, a8.warm hW⟩, a11.F ht⟩) a11.2.2 hd a7
/-- what the tables say of a method that is called -/
def gw_mo (M2 : gw_M) (n : Nat) : Prop := Cond.code M2.1 M2.2.1 M2.2.2.1 M2.2.2.2 ∈ gw_tb ∧ Cond.initialized M2.1.cls ∈ gw_tb ∧ (M2.1.cls ≠ "java/lang/invoke/MethodHandle" ∧ M2.1.cls ≠ "java/lang/invoke/VarHandle" ∧ (parseMethodDescriptor M2.1.desc).map (fun d => d.parameters.length) = some n) ∧ M2.2.2.1 ≤ 25
def gw_mv (M2 : gw_M) (n : Nat) : Prop := gw_mo M2 n ∧ Cond.instanceMethod M2.1 ∈ gw_tb ∧ Cond.selects M2.1.cls M2.1 M2.1 ∈ gw_tb
def gw_ms (M2 : gw_M) (n : Nat) : Prop := gw_mo M2 n ∧ Cond.static M2.1 ∈ gw_tb
theorem gw_blind {av : List Value} {D : va_G} {ad : Nat → Nat} {dA : Nat → ClassId} : FrameBlind (va_Pc av (gw_W D ad dA σ)) := fun a U g mk q => ⟨q.1, q.2.1, q.2.2.same rfl⟩
theorem gw_rest {ad : Nat → Nat} (hr : (st.map fun v => v.category).sum ≤ 8) : ((st.map (gw_v ad)).map fun v => v.category).sum ≤ 8 := by
  have hrr : ((st.map (gw_v ad)).map fun v => v.category).sum = (st.map fun v => v.category).sum := by
    rw [List.map_map]
    congr 1
    apply List.map_congr_left
    intro v _
    exact gw_v_cat ad v
  rw [hrr]
  exact hr
/-- behind a call -/
theorem gw_after {p : Program} {l : Launch} {e : Env} {s : State} {m : MethodId} {args : Array Value} {below : List Frame} {meth : Method} {c : Code} {H : Heap} {locs : List Loc} {ls : Array Slot} {D : va_G} {ad : Nat → Nat} {dA : Nat → ClassId} {st0 : List Value} {a : Array Value} {Q2 : Option Value → gw_S → Prop}
    (hrun : va_Run p l e (gw_R d) s m args below meth c H locs 0 0 0 0 (F0 m pc ls st0) (st.map (gw_v ad)) (gw_Q D ad dA Q2 a) (gw_A ad))
    (hk : ∀ v σ2, Q2 v σ2 → gG d M (pc + 3) lv (v.toList ++ st) σ2 Q)
    (a1 : p.tables.exec = Jvm.exec) (a2 : c.code = M.2.1) (a3 : meth.sig.returnType = M.2.2.2) (a4 : c.maxLocals = M.2.2.1) (a5 : s.vm.findClass M.1.cls = some m.cls) (a6 : ∀ w ∈ gw_tb, w.before args s = true) (a7 : meth.locks = false) (a8 : gw_F D ad dA s) (a9 : lv_has ls M.2.2.1 (gw_l ad lv)) (a11 : va_S (gw_A ad) s.heap H locs) :
    W p l e (gw_R d) s m args below meth c H locs 0 0 (MQ below (gw_Q D ad dA Q) args s 0 0 (gw_A ad)) (F0 m pc ls st0) := by
  intro T hT X
  obtain ⟨v, st₀, t, T', L, h0, X', hL, e1, e2, ⟨⟨v', σ', hv, hq, hPt, hFt⟩, hz, hk1⟩, stp⟩ := hrun T hT X
  rw [h0] at hz hk1
  have hv' : v = v'.map (gw_v ad) := by
    have := hv
    injection this
  subst hv'
  obtain ⟨t2, b1, b2⟩ := hk v' σ' hq p l e s m args below meth c T'.heap (locs ++ L) ls D ad dA a1 a2 a3 a4 a5 a6 a7 a8 a9 (by rw [e1]; exact hPt)
    ⟨Nat.le_trans a11.1 (by rw [e1]; exact hz), fun q h1 h2 => by rw [e1, hk1 q (Nat.lt_of_lt_of_le h1 a11.1) h2]; exact a11.2.1 q h1 h2, fun q hq => by
      rcases List.mem_append.mp hq with h | h
      · exact a11.2.2 q h
      · exact hL q h⟩ T' rfl X'
  refine ⟨t2, stp t2 ?_, b2⟩
  have he : (v'.toList ++ st).map (gw_v ad) = (v'.map (gw_v ad)).toList ++ st.map (gw_v ad) := by cases v' <;> simp
  rw [he] at b1
  exact b1
theorem g_callV {d2 n idx k ci : Nat} {M2 : gw_M} {sl : List (Option Nat)} {as : List Value} {st0 : List Value} (hd : decode M.2.1 pc = .ok (.invokevirtual idx, 3)) (hl : Cond.methodLink M.1.cls idx M2.1 ∈ gw_tb) (ho : gw_mv M2 n) (hk : gw_k k = some (.inr (.inr (ci, sl)))) (hc : (vwCl[ci]?).map (fun q => q.1) = some M2.1.cls) (hn : as.length = n) (hst : st0 = as.reverse ++ .ref k :: st) (hr : (st.map fun v => v.category).sum ≤ 8) (hdd : d2 + 1 ≤ d) (hp : pc + 3 = pc2)
    (kk : gB d2 M2 (.ref k :: as) σ (fun v σ2 => gG d M pc2 lv (v.toList ++ st) σ2 Q)) : gG d M pc lv st0 σ Q := by
  subst hp
  subst hst
  intro p l e s m args below meth c H locs ls D ad dA a1 a2 a3 a4 a5 a6 a7 a8 a9 a10 a11
  obtain ⟨⟨tys, hK, hT⟩, hJ, hN⟩ := id a8
  obtain ⟨⟨o1, o2, o3, o4⟩, o5, o6⟩ := ho
  obtain ⟨r, hr1, hr2⟩ : ∃ r, vwCl[ci]? = some r ∧ r.1 = M2.1.cls := by
    cases hx : vwCl[ci]? with
    | none => rw [hx] at hc; cases hc
    | some r => rw [hx] at hc; exact ⟨r, rfl, Option.some.inj hc⟩
  have hrecv := va_recv (q := r) hK a10 hr1 (gw_wl_at hk)
  rw [hr2] at hrecv
  refine gw_after (a := (Value.ref (ad k) :: as.map (gw_v ad)).toArray) (st := st) (lv := lv) (va_runV (C := M2.1.cls) (b := ad k) (As := as.map (gw_v ad)) (n := n) ⟨a1, a2, a4, a5, a6⟩ (kk l D ad dA) ⟨callB_of n a6 (gw_goodT o1) rfl rfl rfl (a6 _ o2) (a6 _ hl) o3 ⟨hdd, by show 8 + (M2.2.2.1 + 11) + 44 * d2 ≤ 44 * d; omega⟩, a6 _ o5, a6 _ o6⟩ ⟨gw_blind, hrecv, fun U hU hW => ⟨rfl, by rw [hU]; exact a10, a8.warm hW⟩⟩ rfl (by simpa using hn) a9.1 (by simp [gw_v]) (lv_room (gw_rest hr)) hd ⟨Nat.le_refl 0, Nat.le_refl 0⟩) (fun v σ2 h => h) a1 a2 a3 a4 a5 a6 a7 a8 a9 a11
theorem g_callS {d2 n idx : Nat} {M2 : gw_M} {as : List Value} {st0 : List Value} (hd : decode M.2.1 pc = .ok (.invokestatic idx, 3)) (hl : Cond.methodLink M.1.cls idx M2.1 ∈ gw_tb) (ho : gw_ms M2 n) (hn : as.length = n) (hst : st0 = as.reverse ++ st) (hr : (st.map fun v => v.category).sum ≤ 8) (hdd : d2 + 1 ≤ d) (hp : pc + 3 = pc2)
    (kk : gB d2 M2 as σ (fun v σ2 => gG d M pc2 lv (v.toList ++ st) σ2 Q)) : gG d M pc lv st0 σ Q := by
  subst hp
  subst hst
  intro p l e s m args below meth c H locs ls D ad dA a1 a2 a3 a4 a5 a6 a7 a8 a9 a10 a11
  obtain ⟨⟨o1, o2, o3, o4⟩, o5⟩ := ho
  refine gw_after (a := (as.map (gw_v ad)).toArray) (st := st) (lv := lv) (va_runS (As := as.map (gw_v ad)) (n := n) ⟨a1, a2, a4, a5, a6⟩ (kk l D ad dA) ⟨callB_of n a6 (gw_goodT o1) rfl rfl rfl (a6 _ o2) (a6 _ hl) o3 ⟨hdd, by show 8 + (M2.2.2.1 + 11) + 44 * d2 ≤ 44 * d; omega⟩, a6 _ o5⟩ ⟨gw_blind, fun U hU hW => ⟨rfl, by rw [hU]; exact a10, a8.warm hW⟩⟩ rfl (by simpa using hn) a9.1 (by simp) (lv_room (gw_rest hr)) hd ⟨Nat.le_refl 0, Nat.le_refl 0⟩) (fun v σ2 h => h) a1 a2 a3 a4 a5 a6 a7 a8 a9 a11
theorem g_callN {d2 n idx : Nat} {M2 : gw_M} {as : List Value} {st0 : List Value} (hd : decode M.2.1 pc = .ok (.invokestatic idx, 3)) (hl : Cond.methodLinkNest M.1.cls idx M2.1 "BreathSold" = gw_n1 ∨ Cond.methodLinkNest M.1.cls idx M2.1 "BreathSold" = gw_n3) (ho : gw_ms M2 n) (hn : as.length = n) (hst : st0 = as.reverse ++ st) (hr : (st.map fun v => v.category).sum ≤ 8) (hdd : d2 + 1 ≤ d) (hp : pc + 3 = pc2)
    (kk : gB d2 M2 as σ (fun v σ2 => gG d M pc2 lv (v.toList ++ st) σ2 Q)) : gG d M pc lv st0 σ Q := by
  subst hp
  subst hst
  intro p l e s m args below meth c H locs ls D ad dA a1 a2 a3 a4 a5 a6 a7 a8 a9 a10 a11
  obtain ⟨-, -, hn1, hn3⟩ := id a8
  have hnw : va_Nw (.methodLinkNest M.1.cls idx M2.1 "BreathSold") s := by
    rcases hl with h | h
    · rw [h]; exact hn1
    · rw [h]; exact hn3
  obtain ⟨⟨o1, o2, o3, o4⟩, o5⟩ := ho
  refine gw_after (a := (as.map (gw_v ad)).toArray) (st := st) (lv := lv) (va_runSN (As := as.map (gw_v ad)) (n := n) ⟨a1, a2, a4, a5, a6⟩ (kk l D ad dA) ⟨va_cnB n a6 (gw_goodT o1) rfl rfl rfl hnw (a6 _ o2) o3 ⟨hdd, by show 8 + (M2.2.2.1 + 11) + 44 * d2 ≤ 44 * d; omega⟩, a6 _ o5, trivial⟩ ⟨gw_blind, fun U hU hW => ⟨rfl, by rw [hU]; exact a10, a8.warm hW⟩⟩ rfl (by simpa using hn) a9.1 (by simp) (lv_room (gw_rest hr)) hd ⟨Nat.le_refl 0, Nat.le_refl 0⟩) (fun v σ2 h => h) a1 a2 a3 a4 a5 a6 a7 a8 a9 a11
end GR
end
