section
-- ===== PART A: goes FIRST, ahead of the names: the tables' words, and 'selects' of the private methods out of them =====
/-- a private method of a class that the tables say can be made, by its rows of tables_1 -/
def lw_okq (q : MethodName × Nat) : Prop := (q.1.cls ≠ "java/lang/invoke/MethodHandle" ∧ q.1.cls ≠ "java/lang/invoke/VarHandle") ∧ Cond.instantiable q.1.cls q.2 ∈ tables_1 ∧ Cond.privateMethod q.1 ∈ tables_1 ∧ Cond.instanceMethod q.1 ∈ tables_1
theorem lw_p0 : lw_okq (⟨"HighWater$Tape", "readToken", "()V"⟩, 10) := ⟨⟨by decide +kernel, by decide +kernel⟩, List.mem_of_getElem? (i := 65) (by decide +kernel), List.mem_of_getElem? (i := 225) (by decide +kernel), List.mem_of_getElem? (i := 226) (by decide +kernel)⟩
theorem lw_p1 : lw_okq (⟨"HighWater$Tape", "readWord", "()V"⟩, 10) := ⟨⟨by decide +kernel, by decide +kernel⟩, List.mem_of_getElem? (i := 65) (by decide +kernel), List.mem_of_getElem? (i := 232) (by decide +kernel), List.mem_of_getElem? (i := 233) (by decide +kernel)⟩
theorem lw_p2 : lw_okq (⟨"HighWater$Tape", "isSpelledFrom", "(I)Z"⟩, 10) := ⟨⟨by decide +kernel, by decide +kernel⟩, List.mem_of_getElem? (i := 65) (by decide +kernel), List.mem_of_getElem? (i := 239) (by decide +kernel), List.mem_of_getElem? (i := 240) (by decide +kernel)⟩
theorem lw_p3 : lw_okq (⟨"HighWater$Tape", "readNumber", "()V"⟩, 10) := ⟨⟨by decide +kernel, by decide +kernel⟩, List.mem_of_getElem? (i := 65) (by decide +kernel), List.mem_of_getElem? (i := 246) (by decide +kernel), List.mem_of_getElem? (i := 247) (by decide +kernel)⟩
theorem lw_p4 : lw_okq (⟨"HighWater$Tape", "pass", "(I)V"⟩, 10) := ⟨⟨by decide +kernel, by decide +kernel⟩, List.mem_of_getElem? (i := 65) (by decide +kernel), List.mem_of_getElem? (i := 253) (by decide +kernel), List.mem_of_getElem? (i := 254) (by decide +kernel)⟩
theorem lw_p5 : lw_okq (⟨"HighWater$Tape", "refuse", "()V"⟩, 10) := ⟨⟨by decide +kernel, by decide +kernel⟩, List.mem_of_getElem? (i := 65) (by decide +kernel), List.mem_of_getElem? (i := 257) (by decide +kernel), List.mem_of_getElem? (i := 258) (by decide +kernel)⟩
theorem lw_p6 : lw_okq (⟨"HighWater$Tape", "readOr", "()V"⟩, 10) := ⟨⟨by decide +kernel, by decide +kernel⟩, List.mem_of_getElem? (i := 65) (by decide +kernel), List.mem_of_getElem? (i := 261) (by decide +kernel), List.mem_of_getElem? (i := 262) (by decide +kernel)⟩
theorem lw_p7 : lw_okq (⟨"HighWater$Tape", "readAnd", "()V"⟩, 10) := ⟨⟨by decide +kernel, by decide +kernel⟩, List.mem_of_getElem? (i := 65) (by decide +kernel), List.mem_of_getElem? (i := 265) (by decide +kernel), List.mem_of_getElem? (i := 266) (by decide +kernel)⟩
theorem lw_p8 : lw_okq (⟨"HighWater$Tape", "readNot", "()V"⟩, 10) := ⟨⟨by decide +kernel, by decide +kernel⟩, List.mem_of_getElem? (i := 65) (by decide +kernel), List.mem_of_getElem? (i := 269) (by decide +kernel), List.mem_of_getElem? (i := 270) (by decide +kernel)⟩
theorem lw_p9 : lw_okq (⟨"HighWater$Tape", "opens", "()Z"⟩, 10) := ⟨⟨by decide +kernel, by decide +kernel⟩, List.mem_of_getElem? (i := 65) (by decide +kernel), List.mem_of_getElem? (i := 273) (by decide +kernel), List.mem_of_getElem? (i := 274) (by decide +kernel)⟩
theorem lw_p10 : lw_okq (⟨"HighWater$Tape", "emit", "(I)V"⟩, 10) := ⟨⟨by decide +kernel, by decide +kernel⟩, List.mem_of_getElem? (i := 65) (by decide +kernel), List.mem_of_getElem? (i := 277) (by decide +kernel), List.mem_of_getElem? (i := 278) (by decide +kernel)⟩
theorem lw_p11 : lw_okq (⟨"HighWater$Tape", "readSum", "()V"⟩, 10) := ⟨⟨by decide +kernel, by decide +kernel⟩, List.mem_of_getElem? (i := 65) (by decide +kernel), List.mem_of_getElem? (i := 281) (by decide +kernel), List.mem_of_getElem? (i := 282) (by decide +kernel)⟩
theorem lw_p12 : lw_okq (⟨"HighWater$Tape", "readTerm", "()V"⟩, 10) := ⟨⟨by decide +kernel, by decide +kernel⟩, List.mem_of_getElem? (i := 65) (by decide +kernel), List.mem_of_getElem? (i := 285) (by decide +kernel), List.mem_of_getElem? (i := 286) (by decide +kernel)⟩
theorem lw_p13 : lw_okq (⟨"HighWater$Tape", "readOne", "()V"⟩, 10) := ⟨⟨by decide +kernel, by decide +kernel⟩, List.mem_of_getElem? (i := 65) (by decide +kernel), List.mem_of_getElem? (i := 289) (by decide +kernel), List.mem_of_getElem? (i := 290) (by decide +kernel)⟩
theorem lw_p14 : lw_okq (⟨"HighWater", "isOne", "(I)Z"⟩, 13) := ⟨⟨by decide +kernel, by decide +kernel⟩, List.mem_of_getElem? (i := 23) (by decide +kernel), List.mem_of_getElem? (i := 392) (by decide +kernel), List.mem_of_getElem? (i := 393) (by decide +kernel)⟩
theorem lw_p15 : lw_okq (⟨"HighWater", "isIsland", "(I)Z"⟩, 13) := ⟨⟨by decide +kernel, by decide +kernel⟩, List.mem_of_getElem? (i := 23) (by decide +kernel), List.mem_of_getElem? (i := 396) (by decide +kernel), List.mem_of_getElem? (i := 397) (by decide +kernel)⟩
def lw_privs_1 : List (MethodName × Nat) := [(⟨"HighWater$Tape", "readToken", "()V"⟩, 10), (⟨"HighWater$Tape", "readWord", "()V"⟩, 10), (⟨"HighWater$Tape", "isSpelledFrom", "(I)Z"⟩, 10), (⟨"HighWater$Tape", "readNumber", "()V"⟩, 10), (⟨"HighWater$Tape", "pass", "(I)V"⟩, 10), (⟨"HighWater$Tape", "refuse", "()V"⟩, 10), (⟨"HighWater$Tape", "readOr", "()V"⟩, 10), (⟨"HighWater$Tape", "readAnd", "()V"⟩, 10), (⟨"HighWater$Tape", "readNot", "()V"⟩, 10), (⟨"HighWater$Tape", "opens", "()Z"⟩, 10), (⟨"HighWater$Tape", "emit", "(I)V"⟩, 10), (⟨"HighWater$Tape", "readSum", "()V"⟩, 10), (⟨"HighWater$Tape", "readTerm", "()V"⟩, 10), (⟨"HighWater$Tape", "readOne", "()V"⟩, 10), (⟨"HighWater", "isOne", "(I)Z"⟩, 13), (⟨"HighWater", "isIsland", "(I)Z"⟩, 13)]
theorem lw_r1 : ∀ q ∈ lw_privs_1, lw_okq q := List.forall_mem_cons.mpr ⟨lw_p0, List.forall_mem_cons.mpr ⟨lw_p1, List.forall_mem_cons.mpr ⟨lw_p2, List.forall_mem_cons.mpr ⟨lw_p3, List.forall_mem_cons.mpr ⟨lw_p4, List.forall_mem_cons.mpr ⟨lw_p5, List.forall_mem_cons.mpr ⟨lw_p6, List.forall_mem_cons.mpr ⟨lw_p7, List.forall_mem_cons.mpr ⟨lw_p8, List.forall_mem_cons.mpr ⟨lw_p9, List.forall_mem_cons.mpr ⟨lw_p10, List.forall_mem_cons.mpr ⟨lw_p11, List.forall_mem_cons.mpr ⟨lw_p12, List.forall_mem_cons.mpr ⟨lw_p13, List.forall_mem_cons.mpr ⟨lw_p14, List.forall_mem_cons.mpr ⟨lw_p15, fun _ h => absurd h List.not_mem_nil⟩⟩⟩⟩⟩⟩⟩⟩⟩⟩⟩⟩⟩⟩⟩⟩
theorem lw_p16 : lw_okq (⟨"HighWater", "textAt", "(I)LHighWater$Text;"⟩, 13) := ⟨⟨by decide +kernel, by decide +kernel⟩, List.mem_of_getElem? (i := 23) (by decide +kernel), List.mem_of_getElem? (i := 423) (by decide +kernel), List.mem_of_getElem? (i := 424) (by decide +kernel)⟩
theorem lw_p17 : lw_okq (⟨"HighWater", "name", "(IIIIII)V"⟩, 13) := ⟨⟨by decide +kernel, by decide +kernel⟩, List.mem_of_getElem? (i := 23) (by decide +kernel), List.mem_of_getElem? (i := 431) (by decide +kernel), List.mem_of_getElem? (i := 432) (by decide +kernel)⟩
theorem lw_p18 : lw_okq (⟨"HighWater", "law", "()LHighWater$Text;"⟩, 13) := ⟨⟨by decide +kernel, by decide +kernel⟩, List.mem_of_getElem? (i := 23) (by decide +kernel), List.mem_of_getElem? (i := 435) (by decide +kernel), List.mem_of_getElem? (i := 436) (by decide +kernel)⟩
theorem lw_p19 : lw_okq (⟨"HighWater", "saysOf", "(LHighWater$Text;I)I"⟩, 13) := ⟨⟨by decide +kernel, by decide +kernel⟩, List.mem_of_getElem? (i := 23) (by decide +kernel), List.mem_of_getElem? (i := 439) (by decide +kernel), List.mem_of_getElem? (i := 440) (by decide +kernel)⟩
theorem lw_p20 : lw_okq (⟨"HighWater", "islandAt", "(I)LHighWater$Island;"⟩, 13) := ⟨⟨by decide +kernel, by decide +kernel⟩, List.mem_of_getElem? (i := 23) (by decide +kernel), List.mem_of_getElem? (i := 552) (by decide +kernel), List.mem_of_getElem? (i := 553) (by decide +kernel)⟩
theorem lw_p21 : lw_okq (⟨"HighWater", "lookAt", "(ILHighWater$Text;)V"⟩, 13) := ⟨⟨by decide +kernel, by decide +kernel⟩, List.mem_of_getElem? (i := 23) (by decide +kernel), List.mem_of_getElem? (i := 560) (by decide +kernel), List.mem_of_getElem? (i := 561) (by decide +kernel)⟩
theorem lw_p22 : lw_okq (⟨"HighWater", "worthUnder", "(LHighWater$Text;II)I"⟩, 13) := ⟨⟨by decide +kernel, by decide +kernel⟩, List.mem_of_getElem? (i := 23) (by decide +kernel), List.mem_of_getElem? (i := 569) (by decide +kernel), List.mem_of_getElem? (i := 570) (by decide +kernel)⟩
theorem lw_p23 : lw_okq (⟨"HighWater$Top", "rootOf", "(I)I"⟩, 9) := ⟨⟨by decide +kernel, by decide +kernel⟩, List.mem_of_getElem? (i := 106) (by decide +kernel), List.mem_of_getElem? (i := 625) (by decide +kernel), List.mem_of_getElem? (i := 626) (by decide +kernel)⟩
theorem lw_p24 : lw_okq (⟨"HighWater$Top", "rootUnder", "(I)I"⟩, 9) := ⟨⟨by decide +kernel, by decide +kernel⟩, List.mem_of_getElem? (i := 106) (by decide +kernel), List.mem_of_getElem? (i := 638) (by decide +kernel), List.mem_of_getElem? (i := 639) (by decide +kernel)⟩
theorem lw_p25 : lw_okq (⟨"HighWater$Top", "gainAt", "(II)I"⟩, 9) := ⟨⟨by decide +kernel, by decide +kernel⟩, List.mem_of_getElem? (i := 106) (by decide +kernel), List.mem_of_getElem? (i := 662) (by decide +kernel), List.mem_of_getElem? (i := 663) (by decide +kernel)⟩
theorem lw_p26 : lw_okq (⟨"HighWater", "costOf", "(III)I"⟩, 13) := ⟨⟨by decide +kernel, by decide +kernel⟩, List.mem_of_getElem? (i := 23) (by decide +kernel), List.mem_of_getElem? (i := 670) (by decide +kernel), List.mem_of_getElem? (i := 671) (by decide +kernel)⟩
theorem lw_p27 : lw_okq (⟨"HighWater", "lookWithCosts", "(I)V"⟩, 13) := ⟨⟨by decide +kernel, by decide +kernel⟩, List.mem_of_getElem? (i := 23) (by decide +kernel), List.mem_of_getElem? (i := 685) (by decide +kernel), List.mem_of_getElem? (i := 686) (by decide +kernel)⟩
theorem lw_p28 : lw_okq (⟨"HighWater", "everybody", "()I"⟩, 13) := ⟨⟨by decide +kernel, by decide +kernel⟩, List.mem_of_getElem? (i := 23) (by decide +kernel), List.mem_of_getElem? (i := 715) (by decide +kernel), List.mem_of_getElem? (i := 716) (by decide +kernel)⟩
theorem lw_p29 : lw_okq (⟨"HighWater", "partIslands", "(IIZ)V"⟩, 13) := ⟨⟨by decide +kernel, by decide +kernel⟩, List.mem_of_getElem? (i := 23) (by decide +kernel), List.mem_of_getElem? (i := 757) (by decide +kernel), List.mem_of_getElem? (i := 758) (by decide +kernel)⟩
theorem lw_p30 : lw_okq (⟨"HighWater", "refusalOfOwners", "(I)I"⟩, 13) := ⟨⟨by decide +kernel, by decide +kernel⟩, List.mem_of_getElem? (i := 23) (by decide +kernel), List.mem_of_getElem? (i := 786) (by decide +kernel), List.mem_of_getElem? (i := 787) (by decide +kernel)⟩
theorem lw_p31 : lw_okq (⟨"HighWater", "refusalOfSheet", "(I)I"⟩, 13) := ⟨⟨by decide +kernel, by decide +kernel⟩, List.mem_of_getElem? (i := 23) (by decide +kernel), List.mem_of_getElem? (i := 790) (by decide +kernel), List.mem_of_getElem? (i := 791) (by decide +kernel)⟩
def lw_privs_2 : List (MethodName × Nat) := [(⟨"HighWater", "textAt", "(I)LHighWater$Text;"⟩, 13), (⟨"HighWater", "name", "(IIIIII)V"⟩, 13), (⟨"HighWater", "law", "()LHighWater$Text;"⟩, 13), (⟨"HighWater", "saysOf", "(LHighWater$Text;I)I"⟩, 13), (⟨"HighWater", "islandAt", "(I)LHighWater$Island;"⟩, 13), (⟨"HighWater", "lookAt", "(ILHighWater$Text;)V"⟩, 13), (⟨"HighWater", "worthUnder", "(LHighWater$Text;II)I"⟩, 13), (⟨"HighWater$Top", "rootOf", "(I)I"⟩, 9), (⟨"HighWater$Top", "rootUnder", "(I)I"⟩, 9), (⟨"HighWater$Top", "gainAt", "(II)I"⟩, 9), (⟨"HighWater", "costOf", "(III)I"⟩, 13), (⟨"HighWater", "lookWithCosts", "(I)V"⟩, 13), (⟨"HighWater", "everybody", "()I"⟩, 13), (⟨"HighWater", "partIslands", "(IIZ)V"⟩, 13), (⟨"HighWater", "refusalOfOwners", "(I)I"⟩, 13), (⟨"HighWater", "refusalOfSheet", "(I)I"⟩, 13)]
theorem lw_r2 : ∀ q ∈ lw_privs_2, lw_okq q := List.forall_mem_cons.mpr ⟨lw_p16, List.forall_mem_cons.mpr ⟨lw_p17, List.forall_mem_cons.mpr ⟨lw_p18, List.forall_mem_cons.mpr ⟨lw_p19, List.forall_mem_cons.mpr ⟨lw_p20, List.forall_mem_cons.mpr ⟨lw_p21, List.forall_mem_cons.mpr ⟨lw_p22, List.forall_mem_cons.mpr ⟨lw_p23, List.forall_mem_cons.mpr ⟨lw_p24, List.forall_mem_cons.mpr ⟨lw_p25, List.forall_mem_cons.mpr ⟨lw_p26, List.forall_mem_cons.mpr ⟨lw_p27, List.forall_mem_cons.mpr ⟨lw_p28, List.forall_mem_cons.mpr ⟨lw_p29, List.forall_mem_cons.mpr ⟨lw_p30, List.forall_mem_cons.mpr ⟨lw_p31, fun _ h => absurd h List.not_mem_nil⟩⟩⟩⟩⟩⟩⟩⟩⟩⟩⟩⟩⟩⟩⟩⟩
theorem lw_p32 : lw_okq (⟨"HighWater", "firstOtherwise", "(LHighWater$Sheet;)I"⟩, 13) := ⟨⟨by decide +kernel, by decide +kernel⟩, List.mem_of_getElem? (i := 23) (by decide +kernel), List.mem_of_getElem? (i := 797) (by decide +kernel), List.mem_of_getElem? (i := 798) (by decide +kernel)⟩
theorem lw_p33 : lw_okq (⟨"HighWater", "lookForStorms", "(I)V"⟩, 13) := ⟨⟨by decide +kernel, by decide +kernel⟩, List.mem_of_getElem? (i := 23) (by decide +kernel), List.mem_of_getElem? (i := 831) (by decide +kernel), List.mem_of_getElem? (i := 832) (by decide +kernel)⟩
theorem lw_p34 : lw_okq (⟨"HighWater", "stormOf", "(II)I"⟩, 13) := ⟨⟨by decide +kernel, by decide +kernel⟩, List.mem_of_getElem? (i := 23) (by decide +kernel), List.mem_of_getElem? (i := 835) (by decide +kernel), List.mem_of_getElem? (i := 836) (by decide +kernel)⟩
theorem lw_p35 : lw_okq (⟨"HighWater", "keptBy", "(I)I"⟩, 13) := ⟨⟨by decide +kernel, by decide +kernel⟩, List.mem_of_getElem? (i := 23) (by decide +kernel), List.mem_of_getElem? (i := 839) (by decide +kernel), List.mem_of_getElem? (i := 840) (by decide +kernel)⟩
theorem lw_p36 : lw_okq (⟨"HighWater", "gainBy", "(III)I"⟩, 13) := ⟨⟨by decide +kernel, by decide +kernel⟩, List.mem_of_getElem? (i := 23) (by decide +kernel), List.mem_of_getElem? (i := 846) (by decide +kernel), List.mem_of_getElem? (i := 847) (by decide +kernel)⟩
theorem lw_p37 : lw_okq (⟨"HighWaterModel", "next", "()V"⟩, 41) := ⟨⟨by decide +kernel, by decide +kernel⟩, List.mem_of_getElem? (i := 900) (by decide +kernel), List.mem_of_getElem? (i := 910) (by decide +kernel), List.mem_of_getElem? (i := 911) (by decide +kernel)⟩
theorem lw_p38 : lw_okq (⟨"HighWaterModel", "wordFrom", "(II)I"⟩, 41) := ⟨⟨by decide +kernel, by decide +kernel⟩, List.mem_of_getElem? (i := 900) (by decide +kernel), List.mem_of_getElem? (i := 917) (by decide +kernel), List.mem_of_getElem? (i := 918) (by decide +kernel)⟩
theorem lw_p39 : lw_okq (⟨"HighWaterModel", "eRead", "()Z"⟩, 41) := ⟨⟨by decide +kernel, by decide +kernel⟩, List.mem_of_getElem? (i := 900) (by decide +kernel), List.mem_of_getElem? (i := 921) (by decide +kernel), List.mem_of_getElem? (i := 922) (by decide +kernel)⟩
theorem lw_p40 : lw_okq (⟨"HighWaterModel", "puts", "(I)V"⟩, 41) := ⟨⟨by decide +kernel, by decide +kernel⟩, List.mem_of_getElem? (i := 900) (by decide +kernel), List.mem_of_getElem? (i := 926) (by decide +kernel), List.mem_of_getElem? (i := 927) (by decide +kernel)⟩
theorem lw_p41 : lw_okq (⟨"HighWaterModel", "unwinds", "(I)V"⟩, 41) := ⟨⟨by decide +kernel, by decide +kernel⟩, List.mem_of_getElem? (i := 900) (by decide +kernel), List.mem_of_getElem? (i := 930) (by decide +kernel), List.mem_of_getElem? (i := 931) (by decide +kernel)⟩
theorem lw_p42 : lw_okq (⟨"HighWaterModel", "opensOne", "(I)Z"⟩, 41) := ⟨⟨by decide +kernel, by decide +kernel⟩, List.mem_of_getElem? (i := 900) (by decide +kernel), List.mem_of_getElem? (i := 937) (by decide +kernel), List.mem_of_getElem? (i := 938) (by decide +kernel)⟩
theorem lw_p43 : lw_okq (⟨"HighWaterModel", "holds", "(I)V"⟩, 41) := ⟨⟨by decide +kernel, by decide +kernel⟩, List.mem_of_getElem? (i := 900) (by decide +kernel), List.mem_of_getElem? (i := 941) (by decide +kernel), List.mem_of_getElem? (i := 942) (by decide +kernel)⟩
theorem lw_p44 : lw_okq (⟨"HighWaterModel", "signOf", "()I"⟩, 41) := ⟨⟨by decide +kernel, by decide +kernel⟩, List.mem_of_getElem? (i := 900) (by decide +kernel), List.mem_of_getElem? (i := 945) (by decide +kernel), List.mem_of_getElem? (i := 946) (by decide +kernel)⟩
theorem lw_p45 : lw_okq (⟨"HighWaterModel", "between", "(I)Z"⟩, 41) := ⟨⟨by decide +kernel, by decide +kernel⟩, List.mem_of_getElem? (i := 900) (by decide +kernel), List.mem_of_getElem? (i := 949) (by decide +kernel), List.mem_of_getElem? (i := 950) (by decide +kernel)⟩
theorem lw_p46 : lw_okq (⟨"HighWaterModel", "isOne", "(I)Z"⟩, 41) := ⟨⟨by decide +kernel, by decide +kernel⟩, List.mem_of_getElem? (i := 900) (by decide +kernel), List.mem_of_getElem? (i := 1096) (by decide +kernel), List.mem_of_getElem? (i := 1097) (by decide +kernel)⟩
theorem lw_p47 : lw_okq (⟨"HighWaterModel", "isIsland", "(I)Z"⟩, 41) := ⟨⟨by decide +kernel, by decide +kernel⟩, List.mem_of_getElem? (i := 900) (by decide +kernel), List.mem_of_getElem? (i := 1100) (by decide +kernel), List.mem_of_getElem? (i := 1101) (by decide +kernel)⟩
def lw_privs_3 : List (MethodName × Nat) := [(⟨"HighWater", "firstOtherwise", "(LHighWater$Sheet;)I"⟩, 13), (⟨"HighWater", "lookForStorms", "(I)V"⟩, 13), (⟨"HighWater", "stormOf", "(II)I"⟩, 13), (⟨"HighWater", "keptBy", "(I)I"⟩, 13), (⟨"HighWater", "gainBy", "(III)I"⟩, 13), (⟨"HighWaterModel", "next", "()V"⟩, 41), (⟨"HighWaterModel", "wordFrom", "(II)I"⟩, 41), (⟨"HighWaterModel", "eRead", "()Z"⟩, 41), (⟨"HighWaterModel", "puts", "(I)V"⟩, 41), (⟨"HighWaterModel", "unwinds", "(I)V"⟩, 41), (⟨"HighWaterModel", "opensOne", "(I)Z"⟩, 41), (⟨"HighWaterModel", "holds", "(I)V"⟩, 41), (⟨"HighWaterModel", "signOf", "()I"⟩, 41), (⟨"HighWaterModel", "between", "(I)Z"⟩, 41), (⟨"HighWaterModel", "isOne", "(I)Z"⟩, 41), (⟨"HighWaterModel", "isIsland", "(I)Z"⟩, 41)]
theorem lw_r3 : ∀ q ∈ lw_privs_3, lw_okq q := List.forall_mem_cons.mpr ⟨lw_p32, List.forall_mem_cons.mpr ⟨lw_p33, List.forall_mem_cons.mpr ⟨lw_p34, List.forall_mem_cons.mpr ⟨lw_p35, List.forall_mem_cons.mpr ⟨lw_p36, List.forall_mem_cons.mpr ⟨lw_p37, List.forall_mem_cons.mpr ⟨lw_p38, List.forall_mem_cons.mpr ⟨lw_p39, List.forall_mem_cons.mpr ⟨lw_p40, List.forall_mem_cons.mpr ⟨lw_p41, List.forall_mem_cons.mpr ⟨lw_p42, List.forall_mem_cons.mpr ⟨lw_p43, List.forall_mem_cons.mpr ⟨lw_p44, List.forall_mem_cons.mpr ⟨lw_p45, List.forall_mem_cons.mpr ⟨lw_p46, List.forall_mem_cons.mpr ⟨lw_p47, fun _ h => absurd h List.not_mem_nil⟩⟩⟩⟩⟩⟩⟩⟩⟩⟩⟩⟩⟩⟩⟩⟩
theorem lw_p48 : lw_okq (⟨"HighWaterModel", "asksOf", "(IIIIIII)I"⟩, 41) := ⟨⟨by decide +kernel, by decide +kernel⟩, List.mem_of_getElem? (i := 900) (by decide +kernel), List.mem_of_getElem? (i := 1128) (by decide +kernel), List.mem_of_getElem? (i := 1129) (by decide +kernel)⟩
theorem lw_p49 : lw_okq (⟨"HighWaterModel", "says", "(I)I"⟩, 41) := ⟨⟨by decide +kernel, by decide +kernel⟩, List.mem_of_getElem? (i := 900) (by decide +kernel), List.mem_of_getElem? (i := 1132) (by decide +kernel), List.mem_of_getElem? (i := 1133) (by decide +kernel)⟩
theorem lw_p50 : lw_okq (⟨"HighWaterModel", "looksAt", "(I)V"⟩, 41) := ⟨⟨by decide +kernel, by decide +kernel⟩, List.mem_of_getElem? (i := 900) (by decide +kernel), List.mem_of_getElem? (i := 1154) (by decide +kernel), List.mem_of_getElem? (i := 1155) (by decide +kernel)⟩
theorem lw_p51 : lw_okq (⟨"HighWaterModel", "joinsOf", "(II)I"⟩, 41) := ⟨⟨by decide +kernel, by decide +kernel⟩, List.mem_of_getElem? (i := 900) (by decide +kernel), List.mem_of_getElem? (i := 1158) (by decide +kernel), List.mem_of_getElem? (i := 1159) (by decide +kernel)⟩
theorem lw_p52 : lw_okq (⟨"HighWaterModel", "stands", "(II)Z"⟩, 41) := ⟨⟨by decide +kernel, by decide +kernel⟩, List.mem_of_getElem? (i := 900) (by decide +kernel), List.mem_of_getElem? (i := 1162) (by decide +kernel), List.mem_of_getElem? (i := 1163) (by decide +kernel)⟩
theorem lw_p53 : lw_okq (⟨"HighWaterModel", "worthOf", "(II)I"⟩, 41) := ⟨⟨by decide +kernel, by decide +kernel⟩, List.mem_of_getElem? (i := 900) (by decide +kernel), List.mem_of_getElem? (i := 1166) (by decide +kernel), List.mem_of_getElem? (i := 1167) (by decide +kernel)⟩
theorem lw_p54 : lw_okq (⟨"HighWaterModel", "comesTo", "(I)V"⟩, 41) := ⟨⟨by decide +kernel, by decide +kernel⟩, List.mem_of_getElem? (i := 900) (by decide +kernel), List.mem_of_getElem? (i := 1178) (by decide +kernel), List.mem_of_getElem? (i := 1179) (by decide +kernel)⟩
theorem lw_p55 : lw_okq (⟨"HighWaterModel", "owner", "(I)I"⟩, 41) := ⟨⟨by decide +kernel, by decide +kernel⟩, List.mem_of_getElem? (i := 900) (by decide +kernel), List.mem_of_getElem? (i := 1182) (by decide +kernel), List.mem_of_getElem? (i := 1183) (by decide +kernel)⟩
theorem lw_p56 : lw_okq (⟨"HighWaterModel", "isThere", "(I)Z"⟩, 41) := ⟨⟨by decide +kernel, by decide +kernel⟩, List.mem_of_getElem? (i := 900) (by decide +kernel), List.mem_of_getElem? (i := 1186) (by decide +kernel), List.mem_of_getElem? (i := 1187) (by decide +kernel)⟩
theorem lw_p57 : lw_okq (⟨"HighWaterModel", "gainOf", "(I)I"⟩, 41) := ⟨⟨by decide +kernel, by decide +kernel⟩, List.mem_of_getElem? (i := 900) (by decide +kernel), List.mem_of_getElem? (i := 1194) (by decide +kernel), List.mem_of_getElem? (i := 1195) (by decide +kernel)⟩
theorem lw_p58 : lw_okq (⟨"HighWaterModel", "costTo", "(III)I"⟩, 41) := ⟨⟨by decide +kernel, by decide +kernel⟩, List.mem_of_getElem? (i := 900) (by decide +kernel), List.mem_of_getElem? (i := 1202) (by decide +kernel), List.mem_of_getElem? (i := 1203) (by decide +kernel)⟩
theorem lw_p59 : lw_okq (⟨"HighWaterModel", "bestPlace", "(II)I"⟩, 41) := ⟨⟨by decide +kernel, by decide +kernel⟩, List.mem_of_getElem? (i := 900) (by decide +kernel), List.mem_of_getElem? (i := 1214) (by decide +kernel), List.mem_of_getElem? (i := 1215) (by decide +kernel)⟩
theorem lw_p60 : lw_okq (⟨"HighWaterModel", "leftAt", "(III)I"⟩, 41) := ⟨⟨by decide +kernel, by decide +kernel⟩, List.mem_of_getElem? (i := 900) (by decide +kernel), List.mem_of_getElem? (i := 1218) (by decide +kernel), List.mem_of_getElem? (i := 1219) (by decide +kernel)⟩
theorem lw_p61 : lw_okq (⟨"HighWaterModel", "isRest", "(I)Z"⟩, 41) := ⟨⟨by decide +kernel, by decide +kernel⟩, List.mem_of_getElem? (i := 900) (by decide +kernel), List.mem_of_getElem? (i := 1230) (by decide +kernel), List.mem_of_getElem? (i := 1231) (by decide +kernel)⟩
theorem lw_p62 : lw_okq (⟨"HighWaterModel", "everybody", "()I"⟩, 41) := ⟨⟨by decide +kernel, by decide +kernel⟩, List.mem_of_getElem? (i := 900) (by decide +kernel), List.mem_of_getElem? (i := 1238) (by decide +kernel), List.mem_of_getElem? (i := 1239) (by decide +kernel)⟩
theorem lw_p63 : lw_okq (⟨"HighWaterModel", "begins", "(I)V"⟩, 41) := ⟨⟨by decide +kernel, by decide +kernel⟩, List.mem_of_getElem? (i := 900) (by decide +kernel), List.mem_of_getElem? (i := 1242) (by decide +kernel), List.mem_of_getElem? (i := 1243) (by decide +kernel)⟩
def lw_privs_4 : List (MethodName × Nat) := [(⟨"HighWaterModel", "asksOf", "(IIIIIII)I"⟩, 41), (⟨"HighWaterModel", "says", "(I)I"⟩, 41), (⟨"HighWaterModel", "looksAt", "(I)V"⟩, 41), (⟨"HighWaterModel", "joinsOf", "(II)I"⟩, 41), (⟨"HighWaterModel", "stands", "(II)Z"⟩, 41), (⟨"HighWaterModel", "worthOf", "(II)I"⟩, 41), (⟨"HighWaterModel", "comesTo", "(I)V"⟩, 41), (⟨"HighWaterModel", "owner", "(I)I"⟩, 41), (⟨"HighWaterModel", "isThere", "(I)Z"⟩, 41), (⟨"HighWaterModel", "gainOf", "(I)I"⟩, 41), (⟨"HighWaterModel", "costTo", "(III)I"⟩, 41), (⟨"HighWaterModel", "bestPlace", "(II)I"⟩, 41), (⟨"HighWaterModel", "leftAt", "(III)I"⟩, 41), (⟨"HighWaterModel", "isRest", "(I)Z"⟩, 41), (⟨"HighWaterModel", "everybody", "()I"⟩, 41), (⟨"HighWaterModel", "begins", "(I)V"⟩, 41)]
theorem lw_r4 : ∀ q ∈ lw_privs_4, lw_okq q := List.forall_mem_cons.mpr ⟨lw_p48, List.forall_mem_cons.mpr ⟨lw_p49, List.forall_mem_cons.mpr ⟨lw_p50, List.forall_mem_cons.mpr ⟨lw_p51, List.forall_mem_cons.mpr ⟨lw_p52, List.forall_mem_cons.mpr ⟨lw_p53, List.forall_mem_cons.mpr ⟨lw_p54, List.forall_mem_cons.mpr ⟨lw_p55, List.forall_mem_cons.mpr ⟨lw_p56, List.forall_mem_cons.mpr ⟨lw_p57, List.forall_mem_cons.mpr ⟨lw_p58, List.forall_mem_cons.mpr ⟨lw_p59, List.forall_mem_cons.mpr ⟨lw_p60, List.forall_mem_cons.mpr ⟨lw_p61, List.forall_mem_cons.mpr ⟨lw_p62, List.forall_mem_cons.mpr ⟨lw_p63, fun _ h => absurd h List.not_mem_nil⟩⟩⟩⟩⟩⟩⟩⟩⟩⟩⟩⟩⟩⟩⟩⟩
theorem lw_p64 : lw_okq (⟨"HighWaterModel", "digits", "(I)I"⟩, 41) := ⟨⟨by decide +kernel, by decide +kernel⟩, List.mem_of_getElem? (i := 900) (by decide +kernel), List.mem_of_getElem? (i := 1246) (by decide +kernel), List.mem_of_getElem? (i := 1247) (by decide +kernel)⟩
theorem lw_p65 : lw_okq (⟨"HighWaterModel", "next0", "(I)Z"⟩, 41) := ⟨⟨by decide +kernel, by decide +kernel⟩, List.mem_of_getElem? (i := 900) (by decide +kernel), List.mem_of_getElem? (i := 1250) (by decide +kernel), List.mem_of_getElem? (i := 1251) (by decide +kernel)⟩
theorem lw_p66 : lw_okq (⟨"HighWaterModel", "leftOf", "(II)I"⟩, 41) := ⟨⟨by decide +kernel, by decide +kernel⟩, List.mem_of_getElem? (i := 900) (by decide +kernel), List.mem_of_getElem? (i := 1259) (by decide +kernel), List.mem_of_getElem? (i := 1260) (by decide +kernel)⟩
theorem lw_p67 : lw_okq (⟨"HighWaterModel", "gainOfOthers", "(I)I"⟩, 41) := ⟨⟨by decide +kernel, by decide +kernel⟩, List.mem_of_getElem? (i := 900) (by decide +kernel), List.mem_of_getElem? (i := 1267) (by decide +kernel), List.mem_of_getElem? (i := 1268) (by decide +kernel)⟩
theorem lw_p68 : lw_okq (⟨"HighWaterModel", "parts", "(III)V"⟩, 41) := ⟨⟨by decide +kernel, by decide +kernel⟩, List.mem_of_getElem? (i := 900) (by decide +kernel), List.mem_of_getElem? (i := 1279) (by decide +kernel), List.mem_of_getElem? (i := 1280) (by decide +kernel)⟩
theorem lw_p69 : lw_okq (⟨"HighWaterModel", "dearest", "(I)I"⟩, 41) := ⟨⟨by decide +kernel, by decide +kernel⟩, List.mem_of_getElem? (i := 900) (by decide +kernel), List.mem_of_getElem? (i := 1283) (by decide +kernel), List.mem_of_getElem? (i := 1284) (by decide +kernel)⟩
theorem lw_p70 : lw_okq (⟨"HighWaterModel", "worthAt", "(IZ)I"⟩, 41) := ⟨⟨by decide +kernel, by decide +kernel⟩, List.mem_of_getElem? (i := 900) (by decide +kernel), List.mem_of_getElem? (i := 1295) (by decide +kernel), List.mem_of_getElem? (i := 1296) (by decide +kernel)⟩
theorem lw_p71 : lw_okq (⟨"HighWaterModel", "sheetWrong", "(I)I"⟩, 41) := ⟨⟨by decide +kernel, by decide +kernel⟩, List.mem_of_getElem? (i := 900) (by decide +kernel), List.mem_of_getElem? (i := 1307) (by decide +kernel), List.mem_of_getElem? (i := 1308) (by decide +kernel)⟩
theorem lw_p72 : lw_okq (⟨"HighWaterModel", "unlike", "(I)I"⟩, 41) := ⟨⟨by decide +kernel, by decide +kernel⟩, List.mem_of_getElem? (i := 900) (by decide +kernel), List.mem_of_getElem? (i := 1311) (by decide +kernel), List.mem_of_getElem? (i := 1312) (by decide +kernel)⟩
theorem lw_p73 : lw_okq (⟨"HighWaterModel", "storms", "(II)I"⟩, 41) := ⟨⟨by decide +kernel, by decide +kernel⟩, List.mem_of_getElem? (i := 900) (by decide +kernel), List.mem_of_getElem? (i := 1336) (by decide +kernel), List.mem_of_getElem? (i := 1337) (by decide +kernel)⟩
def lw_privs_5 : List (MethodName × Nat) := [(⟨"HighWaterModel", "digits", "(I)I"⟩, 41), (⟨"HighWaterModel", "next0", "(I)Z"⟩, 41), (⟨"HighWaterModel", "leftOf", "(II)I"⟩, 41), (⟨"HighWaterModel", "gainOfOthers", "(I)I"⟩, 41), (⟨"HighWaterModel", "parts", "(III)V"⟩, 41), (⟨"HighWaterModel", "dearest", "(I)I"⟩, 41), (⟨"HighWaterModel", "worthAt", "(IZ)I"⟩, 41), (⟨"HighWaterModel", "sheetWrong", "(I)I"⟩, 41), (⟨"HighWaterModel", "unlike", "(I)I"⟩, 41), (⟨"HighWaterModel", "storms", "(II)I"⟩, 41)]
theorem lw_r5 : ∀ q ∈ lw_privs_5, lw_okq q := List.forall_mem_cons.mpr ⟨lw_p64, List.forall_mem_cons.mpr ⟨lw_p65, List.forall_mem_cons.mpr ⟨lw_p66, List.forall_mem_cons.mpr ⟨lw_p67, List.forall_mem_cons.mpr ⟨lw_p68, List.forall_mem_cons.mpr ⟨lw_p69, List.forall_mem_cons.mpr ⟨lw_p70, List.forall_mem_cons.mpr ⟨lw_p71, List.forall_mem_cons.mpr ⟨lw_p72, List.forall_mem_cons.mpr ⟨lw_p73, fun _ h => absurd h List.not_mem_nil⟩⟩⟩⟩⟩⟩⟩⟩⟩⟩
def lw_privs : List (MethodName × Nat) := lw_privs_1 ++ (lw_privs_2 ++ (lw_privs_3 ++ (lw_privs_4 ++ (lw_privs_5))))
def lw_tbl : List Cond := k2_sels lw_privs ++ tables_1
theorem lw_privs_ok : ∀ q ∈ lw_privs, lw_okq q := by
  show ∀ q ∈ lw_privs_1 ++ (lw_privs_2 ++ (lw_privs_3 ++ (lw_privs_4 ++ (lw_privs_5)))), lw_okq q
  exact List.forall_mem_append.mpr ⟨lw_r1, List.forall_mem_append.mpr ⟨lw_r2, List.forall_mem_append.mpr ⟨lw_r3, List.forall_mem_append.mpr ⟨lw_r4, lw_r5⟩⟩⟩⟩
-- ===== end of PART A; then your names; then what follows =====
/-! ===== BEGIN words of one list among another's, by their places ===== -/
theorem goodIn_r {big : List Cond} (ws : List Cond) (ps : List Nat) (hp : ws = ps.filterMap (fun i => big[i]?)) (h : ws.all goodWord = true) : GoodIn big ws := by
  intro w hw
  have h1 := List.all_eq_true.mp h w hw
  rw [hp] at hw
  obtain ⟨i, -, hi⟩ := List.mem_filterMap.mp hw
  have hm : w ∈ big := by first | exact List.mem_of_getElem? hi | exact List.getElem?_mem hi
  exact ⟨hm, good_of_word h1⟩
theorem goodIn_app {big a b : List Cond} (ha : GoodIn big a) (hb : GoodIn big b) : GoodIn big (a ++ b) := fun w h => (List.mem_append.mp h).elim (ha w) (hb w)
theorem goodIn_ca {big a b : List Cond} {c : Cond} (ha : GoodIn big (c :: a)) (hb : GoodIn big b) : GoodIn big (c :: (a ++ b)) := fun w h => (List.mem_cons.mp h).elim (fun e => ha w (List.mem_cons.mpr (Or.inl e))) (fun h => (List.mem_append.mp h).elim (fun h => ha w (List.mem_cons.mpr (Or.inr h))) (hb w))
theorem goodIn_sub {big ws : List Cond} (hm : ∀ w ∈ ws, w ∈ big) (h : ws.all goodWord = true) : GoodIn big ws := fun w hw => ⟨hm w hw, good_of_word (List.all_eq_true.mp h w hw)⟩
/-! ===== END ===== -/

/-! ===== BEGIN new T[n][m]: the outer array a place, the inner ones among the pooled ===== -/
/-- f, but v at every address of l -/
def vr_up {α : Type} (f : Nat → α) (l : List Nat) (v : α) : Nat → α := fun a => if a ∈ l then v else f a
theorem vr_up_in {α : Type} {f : Nat → α} {l : List Nat} {v : α} {a : Nat} (h : a ∈ l) : vr_up f l v a = v := if_pos h
theorem vr_up_ne {α : Type} {f : Nat → α} {l : List Nat} {v : α} {a : Nat} (h : a ∉ l) : vr_up f l v a = f a := if_neg h
theorem vr_rows {L l : List Nat} {f : Nat → va_E} {e : va_E} (h : ∀ a, a ∈ l → a ∉ L) : va_pl L f ++ l.map (fun a => (a, e)) = va_pl (L ++ l) (vr_up f l e) := by
  unfold va_pl
  rw [List.map_append]
  congr 1
  · apply List.map_congr_left
    intro a ha
    rw [vr_up_ne (fun q => h a q ha)]
  · apply List.map_congr_left
    intro a ha
    rw [vr_up_in ha]
theorem vr_lay {X rows : va_W} {x : Nat × va_E} {pl : va_W} {D : va_G} {cl : List vw_C} {H : Heap} (hP : va_P D cl (((X ++ pl) ++ [x]) ++ rows) H) : va_P D cl ((X ++ [x]) ++ (pl ++ rows)) H := by
  rw [List.append_assoc (X ++ pl)] at hP
  have h := va_P.swap hP
  rw [← List.append_assoc X] at h
  have h2 := va_P.swap h
  rw [List.append_assoc (X ++ [x])] at h2
  exact h2
theorem vr_layD {X rows : va_W} {x : Nat × va_E} {pl : va_W} {A : Nat → Prop} (hD : va_D A (((X ++ pl) ++ [x]) ++ rows)) : va_D A ((X ++ [x]) ++ (pl ++ rows)) := by
  rw [List.append_assoc (X ++ pl)] at hD
  have h := va_D.swap hD
  rw [← List.append_assoc X] at h
  have h2 := va_D.swap h
  rw [List.append_assoc (X ++ [x])] at h2
  exact h2
theorem vr_outer (c : ClassId) (N h0 : Nat) : ∀ i : Nat, Jvm.Free.Multi.outerC c N h0 i = arrV c N (fun j => va_rf (if j < i then some (h0 + 1 + j) else none))
  | 0 => by
    show ({ cls := c, slots := Array.replicate N .null, vm := .none } : Cell) = _
    rw [arrV_new]
    refine congrArg (arrV c N) (funext fun j => ?_)
    simp [va_rf]
  | i + 1 => by
    show (Jvm.Free.Multi.outerC c N h0 i).setSlot i (.ref (h0 + 1 + i)) = _
    rw [vr_outer c N h0 i, arrV_store]
    refine congrArg (arrV c N) (funext fun j => ?_)
    by_cases e : j = i
    · subst e
      simp [updV, va_rf]
    · by_cases h : j < i
      · simp [updV, e, h, Nat.lt_succ_of_lt h]
      · simp [updV, e, h, show ¬ j < i + 1 by omega]
/-- not in this kit, though the printed names use it: an array class over arrays -/
def va_AOA (ty : FieldType) (U : State) : Prop := (Cond.arrayOver (.array ty)).before #[] U = true
theorem va_AOA.use {ty : FieldType} {A : Array Value} {U : State} (h : va_AOA ty U) : (Cond.arrayOver (.array ty)).before A U = true := h
section VGM
variable {p : Program} {l : Launch} {e : Env} {R : Room} {s : State} {m : MethodId} {args : Array Value} {below : List Frame} {meth : Method} {c : Code} {H : Heap} {locs : List Loc} {cells slots : Nat} {Q : State → Prop}
variable {cc : ByteArray} {pc : Nat} {ls : Array Slot} {rest : List Value} {D : va_G} {cl : List vw_C} {A : Nat → Prop} {a : Nat} {tys : List (ClassId × FieldType)} {ws : va_W} {H0 : Heap}
theorem va_mna {X : va_W} {L : List Nat} {f : Nat → va_E} {cc : ByteArray} (hexec : p.tables.exec = Jvm.exec) (hb : c.code = cc) {own : String} {index : Nat} {ty : FieldType} {cy : ClassId} (hown : s.vm.findClass own = some m.cls) (hclink : (Cond.classLink own index ("[" ++ (FieldType.array ty).toString)).before args s = true) (hover : va_AOA ty s) (harr : (Cond.arrayClass ty).before args s = true) (hcy : s.vm.findClass (FieldType.array ty).toString = some cy)
    (hK : va_K D cl tys s) (hP : va_P D cl (X ++ va_pl L f) H) (hD : va_D A (X ++ va_pl L f)) (hS : va_S A H0 H locs) (hA : ∀ q, H0.size ≤ q → A q) {n k : Int32} {N' K' : Nat} {z : vp_A} (hn : ¬ n < 0) (hk : ¬ k < 0) (hN : n.toNatClampNeg = N') (hM : k.toNatClampNeg = K')
    (hb1 : N' * 4 ≤ 536870912) (hb2 : K' * componentBytes ty ≤ 536870912) (hb3 : K' ≤ 536870912) (hdf : fits ty (defaultValue ty) = true) (hdd : (defaultValue ty).isDefault = true) (hcells : cells + (1 + N') ≤ R.cells) (hslots : slots + (N' + N' * K') ≤ R.slots) (hz : ∀ c : ClassId, Jvm.Free.Multi.innerC c K' (defaultValue ty) = vp_cell c z) (hdg : decode cc pc = .ok (.multianewarray index 2, 4))
    (kk : ∀ (q : Nat) (r : Nat → Nat) (cA : ClassId) (H1 : Heap), (∀ i j : Nat, i < N' → j < N' → r i = r j → i = j) → (∀ i : Nat, i < N' → r i ∉ L) → va_K D cl (tys ++ [(cA, .array ty)]) s →
      va_P D cl ((X ++ [(q, .inl (cA, N', .inr (.inr (.inr (.inr (fun i => if i < N' then some (r i) else none))))))]) ++ va_pl (L ++ (List.range N').map r) (vr_up f ((List.range N').map r) (.inl (cy, z)))) H1 → va_D A ((X ++ [(q, .inl (cA, N', .inr (.inr (.inr (.inr (fun i => if i < N' then some (r i) else none))))))]) ++ va_pl (L ++ (List.range N').map r) (vr_up f ((List.range N').map r) (.inl (cy, z)))) → va_S A H0 H1 locs →
      W p l e R s m args below meth c H1 locs (cells + 1 + N') (slots + N' + N' * K') Q (F0 m (pc + 4) ls (.ref q :: rest))) : W p l e R s m args below meth c H locs cells slots Q (F0 m pc ls (.int k :: .int n :: rest)) := by
  subst hN
  subst hM
  intro T hT Xs
  obtain ⟨vm₁, cA, comp, -, fA, fC, hO, -, X', step⟩ := Xs.multianewarray2F hexec hown hclink (va_AOA.use hover) harr (g := F0 m pc ls (.int k :: .int n :: rest)) rfl (by rw [hb]; exact hdg) rfl hn hk hb1 hb2 hb3 hdf hdd hcells hslots
  have ec : some cy = some comp := hcy.symm.trans fC
  cases ec
  generalize hF : Jvm.Free.Multi.fill (T.setVm vm₁) cA cy n.toNatClampNeg k.toNatClampNeg (defaultValue ty) n.toNatClampNeg = F at X' step
  have hTh : (T.setVm vm₁).heap = H := hT
  obtain ⟨f1, f2, -, -⟩ := Jvm.Free.Multi.fill_facts (T.setVm vm₁) cA cy n.toNatClampNeg k.toNatClampNeg (defaultValue ty) n.toNatClampNeg
  rw [hF, hTh] at f1 f2
  have hold : ∀ x : Nat, x < H.size → F.heap[x]? = H[x]? := fun x hx => by
    have := Jvm.Free.Multi.fill_old (T.setVm vm₁) cA cy n.toNatClampNeg k.toNatClampNeg (defaultValue ty) (a := x) (by rw [hTh]; exact hx) n.toNatClampNeg
    rw [hF, hTh] at this
    exact this
  have hrow : ∀ j : Nat, j < n.toNatClampNeg → F.heap[H.size + 1 + j]? = some (vp_cell cy z) := fun j hj => by
    have := Jvm.Free.Multi.fill_inner (T.setVm vm₁) cA cy n.toNatClampNeg k.toNatClampNeg (defaultValue ty) n.toNatClampNeg j hj
    rw [hF, hTh, hz] at this
    exact this
  have hout : Jvm.Free.Multi.outerC cA n.toNatClampNeg H.size n.toNatClampNeg = vp_cell cA (n.toNatClampNeg, .inr (.inr (.inr (.inr (fun i => if i < n.toNatClampNeg then some (H.size + 1 + i) else none))))) := by
    rw [vp_cell_q]
    exact vr_outer cA n.toNatClampNeg H.size n.toNatClampNeg
  rw [hout] at f2
  have hlt : ∀ a, a ∈ L → a < H.size := fun a ha => by
    obtain ⟨k9, hk9⟩ := va_pl_get (X := X) (f := f) ha
    exact (hP k9 _ hk9).lt
  have hnl : ∀ i : Nat, i < n.toNatClampNeg → H.size + 1 + i ∉ L := fun i _ h => by
    have := hlt _ h
    omega
  have hnm : ∀ a, a ∈ (List.range n.toNatClampNeg).map (fun i => H.size + 1 + i) → a ∉ L := fun a ha h => by
    obtain ⟨i, -, rfl⟩ := List.mem_map.mp ha
    have := hlt _ h
    omega
  have hP0 : va_P D cl (X ++ va_pl L f) F.heap := hP.kept (fun k9 x hx => hold x.1 ((hP k9 x hx).lt))
  have hP1 : va_P D cl ((X ++ va_pl L f) ++ [(H.size, .inl (cA, n.toNatClampNeg, .inr (.inr (.inr (.inr (fun i => if i < n.toNatClampNeg then some (H.size + 1 + i) else none))))))]) F.heap := hP0.app (fun k9 x hx => by
    have h0 : k9 < 1 := (List.getElem?_eq_some_iff.mp hx).1
    rw [show k9 = 0 by omega] at hx
    cases hx
    exact f2)
  have hP2 : va_P D cl (((X ++ va_pl L f) ++ [(H.size, .inl (cA, n.toNatClampNeg, .inr (.inr (.inr (.inr (fun i => if i < n.toNatClampNeg then some (H.size + 1 + i) else none))))))]) ++ ((List.range n.toNatClampNeg).map (fun i => H.size + 1 + i)).map (fun a => (a, .inl (cy, z)))) F.heap := hP1.app (fun k9 x hx => by
    obtain ⟨a, ha, rfl⟩ := List.mem_map.mp (List.mem_of_getElem? hx)
    obtain ⟨i, hi, rfl⟩ := List.mem_map.mp ha
    exact hrow i (List.mem_range.mp hi))
  have hD2 : va_D A (((X ++ va_pl L f) ++ [(H.size, .inl (cA, n.toNatClampNeg, .inr (.inr (.inr (.inr (fun i => if i < n.toNatClampNeg then some (H.size + 1 + i) else none))))))]) ++ ((List.range n.toNatClampNeg).map (fun i => H.size + 1 + i)).map (fun a => (a, .inl (cy, z)))) := by
    have hD1 := hD.push (e := .inl (cA, n.toNatClampNeg, .inr (.inr (.inr (.inr (fun i => if i < n.toNatClampNeg then some (H.size + 1 + i) else none)))))) hP rfl (hA _ hS.1)
    generalize hW1 : (X ++ va_pl L f) ++ [(H.size, .inl (cA, n.toNatClampNeg, .inr (.inr (.inr (.inr (fun i => if i < n.toNatClampNeg then some (H.size + 1 + i) else none))))))] = W1 at hD1 hP1 ⊢
    have hle : ∀ (k9 : Nat) (x : Nat × va_E), W1[k9]? = some x → x.1 ≤ H.size := fun k9 x hx => by
      rw [← hW1] at hx
      by_cases hl : k9 < (X ++ va_pl L f).length
      · rw [List.getElem?_append_left hl] at hx
        exact Nat.le_of_lt ((hP k9 x hx).lt)
      · rw [List.getElem?_append_right (by omega)] at hx
        have h0 : k9 - (X ++ va_pl L f).length < 1 := (List.getElem?_eq_some_iff.mp hx).1
        rw [show k9 - (X ++ va_pl L f).length = 0 by omega] at hx
        cases hx
        exact Nat.le_refl _
    have hr : ∀ (k9 : Nat) (x : Nat × va_E), (((List.range n.toNatClampNeg).map (fun i => H.size + 1 + i)).map (fun a => ((a, .inl (cy, z)) : Nat × va_E)))[k9]? = some x → x.1 = H.size + 1 + k9 := fun k9 x hx => by
      rw [List.getElem?_map, List.getElem?_map] at hx
      by_cases h9 : k9 < n.toNatClampNeg
      · rw [List.getElem?_range h9] at hx
        cases hx
        rfl
      · have hn0 : (List.range n.toNatClampNeg)[k9]? = none := List.getElem?_eq_none (by rw [List.length_range]; omega)
        rw [hn0] at hx
        cases hx
    refine ⟨fun i j x y hi hj hxy => ?_, fun k9 x hx => ?_⟩
    · by_cases h1 : i < W1.length <;> by_cases h2 : j < W1.length
      · rw [List.getElem?_append_left h1] at hi
        rw [List.getElem?_append_left h2] at hj
        exact hD1.1 i j x y hi hj hxy
      · rw [List.getElem?_append_left h1] at hi
        rw [List.getElem?_append_right (by omega)] at hj
        have := hle _ _ hi
        have := hr _ _ hj
        omega
      · rw [List.getElem?_append_right (by omega)] at hi
        rw [List.getElem?_append_left h2] at hj
        have := hle _ _ hj
        have := hr _ _ hi
        omega
      · rw [List.getElem?_append_right (by omega)] at hi hj
        have := hr _ _ hi
        have := hr _ _ hj
        omega
    · by_cases h1 : k9 < W1.length
      · rw [List.getElem?_append_left h1] at hx
        exact hD1.2 k9 x hx
      · rw [List.getElem?_append_right (by omega)] at hx
        have := hr _ _ hx
        exact hA _ (by have := hS.1; omega)
  have hAr : ArrOfT s cA (.array ty) := fun N9 z9 => by
    obtain ⟨-, k9, hk9, cm9, hkk9⟩ := (hO 0 0 0).1
    exact ⟨(fun q hq => by cases hq), k9, hk9, cm9, hkk9⟩
  have hK2 : va_K D cl (tys ++ [(cA, .array ty)]) s := ⟨hK.1, fun k9 x hx => by
    by_cases hl : k9 < tys.length
    · rw [List.getElem?_append_left hl] at hx
      exact hK.2 k9 x hx
    · rw [List.getElem?_append_right (by omega)] at hx
      have h0 : k9 - tys.length < 1 := (List.getElem?_eq_some_iff.mp hx).1
      rw [show k9 - tys.length = 0 by omega] at hx
      cases hx
      exact ⟨hAr, fA⟩⟩
  obtain ⟨t, a1, b1⟩ := kk H.size (fun i => H.size + 1 + i) cA F.heap (fun i j _ _ h => by have h9 : H.size + 1 + i = H.size + 1 + j := h; omega) hnl hK2 (by rw [← vr_rows hnm]; exact vr_lay hP2) (by rw [← vr_rows hnm]; exact vr_layD hD2) ⟨by rw [f1]; have := hS.1; omega, fun x h1 h2 => (hold x (Nat.lt_of_lt_of_le h1 hS.1)).trans (hS.2.1 x h1 h2), hS.2.2⟩ F rfl X'
  refine ⟨t, step t ?_, b1⟩
  have e : T.heap.size = H.size := by rw [hT]
  rw [e]
  exact a1
end VGM
/-! ===== END ===== -/
/-! ===== BEGIN printed: names, fields, word lists, decode rows ===== -/
def RX0 : String := "HighWater$Barred"
def TX0 : u_T := fun k => match k with
  | 0 => ("HighWater$Island", "kind", "I", true)
  | 1 => ("HighWater$Island", "told", "I", true)
  | 2 => ("HighWater$Island", "rises", "I", true)
  | _ => ("HighWater$Island", "more", "I", true)
def tyX0 : Nat → FieldType := fun k => match k with
  | 0 => .int
  | 1 => .int
  | 2 => .int
  | _ => .int
abbrev wsX00 : List Cond := u_ws RX0 TX0 4
theorem nmX0 : ∀ a, a < 4 → ∀ b, b < 4 → a ≠ b → (TX0 a).2.1 ≠ (TX0 b).2.1 := by decide +kernel
theorem tyX0_ok : ∀ k, k < 4 → parseFieldDescriptor (TX0 k).2.2.1 = some (tyX0 k) := by decide +kernel
abbrev cX0_init : ByteArray := prog_2_method_1_code
def yX0_init : MethodName := ⟨RX0, "<init>", "(IIII)V"⟩
abbrev cX0_joinsAt : ByteArray := prog_2_method_2_code
def yX0_joinsAt : MethodName := ⟨RX0, "joinsAt", "(I)I"⟩
def RX1 : String := "HighWater$Bay"
def TX1 : u_T := fun k => match k with
  | 0 => ("HighWater$Bay", "highs", "[I", true)
  | 1 => ("HighWater$Bay", "places", "[[I", true)
  | 2 => ("HighWater$Bay", "people", "I", false)
  | 3 => ("HighWater$Bay", "islands", "I", false)
  | _ => ("HighWater$Bay", "law", "I", false)
def tyX1 : Nat → FieldType := fun k => match k with
  | 0 => .array .int
  | 1 => .array (.array .int)
  | 2 => .int
  | 3 => .int
  | _ => .int
abbrev wsX10 : List Cond := u_ws RX1 TX1 5
theorem nmX1 : ∀ a, a < 5 → ∀ b, b < 5 → a ≠ b → (TX1 a).2.1 ≠ (TX1 b).2.1 := by decide +kernel
theorem tyX1_ok : ∀ k, k < 5 → parseFieldDescriptor (TX1 k).2.2.1 = some (tyX1 k) := by decide +kernel
abbrev cX1_init : ByteArray := prog_3_method_1_code
def yX1_init : MethodName := ⟨RX1, "<init>", "()V"⟩
abbrev cX1_become : ByteArray := prog_3_method_2_code
def yX1_become : MethodName := ⟨RX1, "become", "(LHighWater$Bay;)V"⟩
def RX2 : String := "HighWater$Hay"
def TX2 : u_T := fun k => match k with
  | 0 => ("HighWater$Island", "kind", "I", true)
  | 1 => ("HighWater$Island", "told", "I", true)
  | 2 => ("HighWater$Island", "rises", "I", true)
  | _ => ("HighWater$Island", "more", "I", true)
def tyX2 : Nat → FieldType := fun k => match k with
  | 0 => .int
  | 1 => .int
  | 2 => .int
  | _ => .int
abbrev wsX20 : List Cond := u_ws RX2 TX2 4
theorem nmX2 : ∀ a, a < 4 → ∀ b, b < 4 → a ≠ b → (TX2 a).2.1 ≠ (TX2 b).2.1 := by decide +kernel
theorem tyX2_ok : ∀ k, k < 4 → parseFieldDescriptor (TX2 k).2.2.1 = some (tyX2 k) := by decide +kernel
abbrev cX2_init : ByteArray := prog_4_method_1_code
def yX2_init : MethodName := ⟨RX2, "<init>", "(IIII)V"⟩
abbrev cX2_worthAt : ByteArray := prog_4_method_2_code
def yX2_worthAt : MethodName := ⟨RX2, "worthAt", "(II)I"⟩
def RX3 : String := "HighWater$Island"
def TX3 : u_T := fun k => match k with
  | 0 => ("HighWater$Island", "kind", "I", true)
  | 1 => ("HighWater$Island", "told", "I", true)
  | 2 => ("HighWater$Island", "rises", "I", true)
  | _ => ("HighWater$Island", "more", "I", true)
def tyX3 : Nat → FieldType := fun k => match k with
  | 0 => .int
  | 1 => .int
  | 2 => .int
  | _ => .int
abbrev wsX30 : List Cond := u_ws RX3 TX3 4
theorem nmX3 : ∀ a, a < 4 → ∀ b, b < 4 → a ≠ b → (TX3 a).2.1 ≠ (TX3 b).2.1 := by decide +kernel
theorem tyX3_ok : ∀ k, k < 4 → parseFieldDescriptor (TX3 k).2.2.1 = some (tyX3 k) := by decide +kernel
abbrev cX3_init : ByteArray := prog_5_method_1_code
def yX3_init : MethodName := ⟨RX3, "<init>", "(IIII)V"⟩
abbrev cX3_standsAt : ByteArray := prog_5_method_2_code
def yX3_standsAt : MethodName := ⟨RX3, "standsAt", "(I)Z"⟩
abbrev cX3_worthAt : ByteArray := prog_5_method_3_code
def yX3_worthAt : MethodName := ⟨RX3, "worthAt", "(II)I"⟩
abbrev cX3_joinsAt : ByteArray := prog_5_method_4_code
def yX3_joinsAt : MethodName := ⟨RX3, "joinsAt", "(I)I"⟩
def RX4 : String := "HighWater$Low"
def TX4 : u_T := fun k => match k with
  | 0 => ("HighWater$Island", "kind", "I", true)
  | 1 => ("HighWater$Island", "told", "I", true)
  | 2 => ("HighWater$Island", "rises", "I", true)
  | _ => ("HighWater$Island", "more", "I", true)
def tyX4 : Nat → FieldType := fun k => match k with
  | 0 => .int
  | 1 => .int
  | 2 => .int
  | _ => .int
abbrev wsX40 : List Cond := u_ws RX4 TX4 4
theorem nmX4 : ∀ a, a < 4 → ∀ b, b < 4 → a ≠ b → (TX4 a).2.1 ≠ (TX4 b).2.1 := by decide +kernel
theorem tyX4_ok : ∀ k, k < 4 → parseFieldDescriptor (TX4 k).2.2.1 = some (tyX4 k) := by decide +kernel
abbrev cX4_init : ByteArray := prog_6_method_1_code
def yX4_init : MethodName := ⟨RX4, "<init>", "(IIII)V"⟩
abbrev cX4_standsAt : ByteArray := prog_6_method_2_code
def yX4_standsAt : MethodName := ⟨RX4, "standsAt", "(I)Z"⟩
def RX5 : String := "HighWater$Rock"
def TX5 : u_T := fun k => match k with
  | 0 => ("HighWater$Island", "kind", "I", true)
  | 1 => ("HighWater$Island", "told", "I", true)
  | 2 => ("HighWater$Island", "rises", "I", true)
  | _ => ("HighWater$Island", "more", "I", true)
def tyX5 : Nat → FieldType := fun k => match k with
  | 0 => .int
  | 1 => .int
  | 2 => .int
  | _ => .int
abbrev wsX50 : List Cond := u_ws RX5 TX5 4
theorem nmX5 : ∀ a, a < 4 → ∀ b, b < 4 → a ≠ b → (TX5 a).2.1 ≠ (TX5 b).2.1 := by decide +kernel
theorem tyX5_ok : ∀ k, k < 4 → parseFieldDescriptor (TX5 k).2.2.1 = some (tyX5 k) := by decide +kernel
abbrev cX5_init : ByteArray := prog_7_method_1_code
def yX5_init : MethodName := ⟨RX5, "<init>", "(IIII)V"⟩
abbrev cX5_worthAt : ByteArray := prog_7_method_2_code
def yX5_worthAt : MethodName := ⟨RX5, "worthAt", "(II)I"⟩
def RX6 : String := "HighWater$Sheet"
def TX6 : u_T := fun k => match k with
  | 0 => ("HighWater$Sheet", "cells", "[I", true)
  | 1 => ("HighWater$Sheet", "sort", "I", false)
  | _ => ("HighWater$Sheet", "size", "I", false)
def tyX6 : Nat → FieldType := fun k => match k with
  | 0 => .array .int
  | 1 => .int
  | _ => .int
abbrev wsX60 : List Cond := u_ws RX6 TX6 3
theorem nmX6 : ∀ a, a < 3 → ∀ b, b < 3 → a ≠ b → (TX6 a).2.1 ≠ (TX6 b).2.1 := by decide +kernel
theorem tyX6_ok : ∀ k, k < 3 → parseFieldDescriptor (TX6 k).2.2.1 = some (tyX6 k) := by decide +kernel
abbrev cX6_init : ByteArray := prog_8_method_1_code
def yX6_init : MethodName := ⟨RX6, "<init>", "()V"⟩
abbrev cX6_become : ByteArray := prog_8_method_2_code
def yX6_become : MethodName := ⟨RX6, "become", "(II)V"⟩
abbrev cX6_put : ByteArray := prog_8_method_3_code
def yX6_put : MethodName := ⟨RX6, "put", "(II)V"⟩
abbrev cX6_hasRoom : ByteArray := prog_8_method_4_code
def yX6_hasRoom : MethodName := ⟨RX6, "hasRoom", "(II)Z"⟩
def RX7 : String := "HighWater$Tape"
def TX7 : u_T := fun k => match k with
  | 0 => ("HighWater$Tape", "bytes", "[I", true)
  | 1 => ("HighWater$Tape", "size", "I", false)
  | 2 => ("HighWater$Tape", "fault", "I", false)
  | 3 => ("HighWater$Tape", "code", "[I", true)
  | 4 => ("HighWater$Tape", "codeSize", "I", false)
  | 5 => ("HighWater$Tape", "token", "I", false)
  | 6 => ("HighWater$Tape", "tokenAt", "I", false)
  | 7 => ("HighWater$Tape", "number", "I", false)
  | 8 => ("HighWater$Tape", "next", "I", false)
  | _ => ("HighWater$Tape", "open", "I", false)
def tyX7 : Nat → FieldType := fun k => match k with
  | 0 => .array .int
  | 1 => .int
  | 2 => .int
  | 3 => .array .int
  | 4 => .int
  | 5 => .int
  | 6 => .int
  | 7 => .int
  | 8 => .int
  | _ => .int
abbrev wsX70 : List Cond := u_ws RX7 TX7 10
theorem nmX7 : ∀ a, a < 10 → ∀ b, b < 10 → a ≠ b → (TX7 a).2.1 ≠ (TX7 b).2.1 := by decide +kernel
theorem tyX7_ok : ∀ k, k < 10 → parseFieldDescriptor (TX7 k).2.2.1 = some (tyX7 k) := by decide +kernel
abbrev cX7_init : ByteArray := prog_9_method_1_code
def yX7_init : MethodName := ⟨RX7, "<init>", "()V"⟩
abbrev cX7_append : ByteArray := prog_9_method_2_code
def yX7_append : MethodName := ⟨RX7, "append", "(I)V"⟩
abbrev cX7_clear : ByteArray := prog_9_method_3_code
def yX7_clear : MethodName := ⟨RX7, "clear", "()V"⟩
abbrev cX7_readText : ByteArray := prog_9_method_4_code
def yX7_readText : MethodName := ⟨RX7, "readText", "()LHighWater$Text;"⟩
abbrev cX7_readToken : ByteArray := prog_9_method_5_code
def yX7_readToken : MethodName := ⟨RX7, "readToken", "()V"⟩
abbrev cX7_readWord : ByteArray := prog_9_method_6_code
def yX7_readWord : MethodName := ⟨RX7, "readWord", "()V"⟩
abbrev cX7_isSpelledFrom : ByteArray := prog_9_method_7_code
def yX7_isSpelledFrom : MethodName := ⟨RX7, "isSpelledFrom", "(I)Z"⟩
abbrev cX7_readNumber : ByteArray := prog_9_method_8_code
def yX7_readNumber : MethodName := ⟨RX7, "readNumber", "()V"⟩
abbrev cX7_isLetter : ByteArray := prog_9_method_9_code
def yX7_isLetter : MethodName := ⟨RX7, "isLetter", "(I)Z"⟩
abbrev cX7_isDigit : ByteArray := prog_9_method_10_code
def yX7_isDigit : MethodName := ⟨RX7, "isDigit", "(I)Z"⟩
abbrev cX7_isSign : ByteArray := prog_9_method_11_code
def yX7_isSign : MethodName := ⟨RX7, "isSign", "(I)Z"⟩
abbrev cX7_refuse : ByteArray := prog_9_method_12_code
def yX7_refuse : MethodName := ⟨RX7, "refuse", "()V"⟩
abbrev cX7_pass : ByteArray := prog_9_method_13_code
def yX7_pass : MethodName := ⟨RX7, "pass", "(I)V"⟩
abbrev cX7_emit : ByteArray := prog_9_method_14_code
def yX7_emit : MethodName := ⟨RX7, "emit", "(I)V"⟩
abbrev cX7_opens : ByteArray := prog_9_method_15_code
def yX7_opens : MethodName := ⟨RX7, "opens", "()Z"⟩
abbrev cX7_readOr : ByteArray := prog_9_method_16_code
def yX7_readOr : MethodName := ⟨RX7, "readOr", "()V"⟩
abbrev cX7_readAnd : ByteArray := prog_9_method_17_code
def yX7_readAnd : MethodName := ⟨RX7, "readAnd", "()V"⟩
abbrev cX7_readNot : ByteArray := prog_9_method_18_code
def yX7_readNot : MethodName := ⟨RX7, "readNot", "()V"⟩
abbrev cX7_readSum : ByteArray := prog_9_method_19_code
def yX7_readSum : MethodName := ⟨RX7, "readSum", "()V"⟩
abbrev cX7_readTerm : ByteArray := prog_9_method_20_code
def yX7_readTerm : MethodName := ⟨RX7, "readTerm", "()V"⟩
abbrev cX7_readOne : ByteArray := prog_9_method_21_code
def yX7_readOne : MethodName := ⟨RX7, "readOne", "()V"⟩
def RX8 : String := "HighWater$Text"
def TX8 : u_T := fun k => match k with
  | 0 => ("HighWater$Text", "code", "[I", true)
  | 1 => ("HighWater$Text", "costsFrom", "I", true)
  | _ => ("HighWater$Text", "stormFrom", "I", true)
def tyX8 : Nat → FieldType := fun k => match k with
  | 0 => .array .int
  | 1 => .int
  | _ => .int
abbrev wsX80 : List Cond := u_ws RX8 TX8 3
theorem nmX8 : ∀ a, a < 3 → ∀ b, b < 3 → a ≠ b → (TX8 a).2.1 ≠ (TX8 b).2.1 := by decide +kernel
theorem tyX8_ok : ∀ k, k < 3 → parseFieldDescriptor (TX8 k).2.2.1 = some (tyX8 k) := by decide +kernel
abbrev cX8_init : ByteArray := prog_10_method_1_code
def yX8_init : MethodName := ⟨RX8, "<init>", "([III)V"⟩
abbrev cX8_valueOf : ByteArray := prog_10_method_2_code
def yX8_valueOf : MethodName := ⟨RX8, "valueOf", "(I[I[I)I"⟩
abbrev cX8_join : ByteArray := prog_10_method_3_code
def yX8_join : MethodName := ⟨RX8, "join", "(III)I"⟩
def RX9 : String := "HighWater$Top"
def TX9 : u_T := fun k => match k with
  | 0 => ("HighWater$Top", "worths", "[I", true)
  | 1 => ("HighWater$Top", "stands", "[Z", true)
  | 2 => ("HighWater$Top", "ones", "[I", true)
  | 3 => ("HighWater$Top", "spots", "[I", true)
  | 4 => ("HighWater$Top", "fares", "[[I", true)
  | 5 => ("HighWater$Top", "wholes", "[I", true)
  | 6 => ("HighWater$Top", "crowds", "[I", true)
  | 7 => ("HighWater$Top", "islands", "I", false)
  | _ => ("HighWater$Top", "people", "I", false)
def tyX9 : Nat → FieldType := fun k => match k with
  | 0 => .array .int
  | 1 => .array .boolean
  | 2 => .array .int
  | 3 => .array .int
  | 4 => .array (.array .int)
  | 5 => .array .int
  | 6 => .array .int
  | 7 => .int
  | _ => .int
abbrev wsX90 : List Cond := u_ws RX9 TX9 9
theorem nmX9 : ∀ a, a < 9 → ∀ b, b < 9 → a ≠ b → (TX9 a).2.1 ≠ (TX9 b).2.1 := by decide +kernel
theorem tyX9_ok : ∀ k, k < 9 → parseFieldDescriptor (TX9 k).2.2.1 = some (tyX9 k) := by decide +kernel
abbrev cX9_init : ByteArray := prog_11_method_1_code
def yX9_init : MethodName := ⟨RX9, "<init>", "()V"⟩
abbrev cX9_clear : ByteArray := prog_11_method_2_code
def yX9_clear : MethodName := ⟨RX9, "clear", "(II)V"⟩
abbrev cX9_unite : ByteArray := prog_11_method_3_code
def yX9_unite : MethodName := ⟨RX9, "unite", "(II)V"⟩
abbrev cX9_sumWholes : ByteArray := prog_11_method_4_code
def yX9_sumWholes : MethodName := ⟨RX9, "sumWholes", "()V"⟩
abbrev cX9_rootOf : ByteArray := prog_11_method_5_code
def yX9_rootOf : MethodName := ⟨RX9, "rootOf", "(I)I"⟩
abbrev cX9_rootUnder : ByteArray := prog_11_method_6_code
def yX9_rootUnder : MethodName := ⟨RX9, "rootUnder", "(I)I"⟩
abbrev cX9_put : ByteArray := prog_11_method_7_code
def yX9_put : MethodName := ⟨RX9, "put", "(II)V"⟩
abbrev cX9_ownerOf : ByteArray := prog_11_method_8_code
def yX9_ownerOf : MethodName := ⟨RX9, "ownerOf", "(I)I"⟩
abbrev cX9_gainOf : ByteArray := prog_11_method_9_code
def yX9_gainOf : MethodName := ⟨RX9, "gainOf", "(I)I"⟩
abbrev cX9_gainAt : ByteArray := prog_11_method_10_code
def yX9_gainAt : MethodName := ⟨RX9, "gainAt", "(II)I"⟩
abbrev cX9_gainOfOthers : ByteArray := prog_11_method_11_code
def yX9_gainOfOthers : MethodName := ⟨RX9, "gainOfOthers", "(I)I"⟩
abbrev cX9_leftAt : ByteArray := prog_11_method_12_code
def yX9_leftAt : MethodName := ⟨RX9, "leftAt", "(II)I"⟩
abbrev cX9_leftOfAll : ByteArray := prog_11_method_13_code
def yX9_leftOfAll : MethodName := ⟨RX9, "leftOfAll", "(I)I"⟩
abbrev cX9_bestPlaceOf : ByteArray := prog_11_method_14_code
def yX9_bestPlaceOf : MethodName := ⟨RX9, "bestPlaceOf", "(I)I"⟩
abbrev cX9_isAtRest : ByteArray := prog_11_method_15_code
def yX9_isAtRest : MethodName := ⟨RX9, "isAtRest", "()Z"⟩
abbrev cX9_worthOfStanding : ByteArray := prog_11_method_16_code
def yX9_worthOfStanding : MethodName := ⟨RX9, "worthOfStanding", "(Z)I"⟩
abbrev cX9_dearestBut : ByteArray := prog_11_method_17_code
def yX9_dearestBut : MethodName := ⟨RX9, "dearestBut", "(I)I"⟩
abbrev cX9_firstWay : ByteArray := prog_11_method_18_code
def yX9_firstWay : MethodName := ⟨RX9, "firstWay", "(I)I"⟩
abbrev cX9_nextWay : ByteArray := prog_11_method_19_code
def yX9_nextWay : MethodName := ⟨RX9, "nextWay", "(I)V"⟩
abbrev cX9_digitsOf : ByteArray := prog_11_method_20_code
def yX9_digitsOf : MethodName := ⟨RX9, "digitsOf", "(I)I"⟩
def RX10 : String := "HighWater$Well"
def TX10 : u_T := fun k => match k with
  | 0 => ("HighWater$Island", "kind", "I", true)
  | 1 => ("HighWater$Island", "told", "I", true)
  | 2 => ("HighWater$Island", "rises", "I", true)
  | _ => ("HighWater$Island", "more", "I", true)
def tyX10 : Nat → FieldType := fun k => match k with
  | 0 => .int
  | 1 => .int
  | 2 => .int
  | _ => .int
abbrev wsX100 : List Cond := u_ws RX10 TX10 4
theorem nmX10 : ∀ a, a < 4 → ∀ b, b < 4 → a ≠ b → (TX10 a).2.1 ≠ (TX10 b).2.1 := by decide +kernel
theorem tyX10_ok : ∀ k, k < 4 → parseFieldDescriptor (TX10 k).2.2.1 = some (tyX10 k) := by decide +kernel
abbrev cX10_init : ByteArray := prog_12_method_1_code
def yX10_init : MethodName := ⟨RX10, "<init>", "(IIII)V"⟩
abbrev cX10_worthAt : ByteArray := prog_12_method_2_code
def yX10_worthAt : MethodName := ⟨RX10, "worthAt", "(II)I"⟩
def RX11 : String := "HighWater"
def TX11 : u_T := fun k => match k with
  | 0 => ("HighWater", "now", "LHighWater$Bay;", true)
  | 1 => ("HighWater", "kept", "LHighWater$Bay;", true)
  | 2 => ("HighWater", "isKept", "Z", false)
  | 3 => ("HighWater", "islands", "[LHighWater$Island;", true)
  | 4 => ("HighWater", "texts", "[LHighWater$Text;", true)
  | 5 => ("HighWater", "textCount", "I", false)
  | 6 => ("HighWater", "tape", "LHighWater$Tape;", true)
  | 7 => ("HighWater", "sheets", "[LHighWater$Sheet;", true)
  | 8 => ("HighWater", "top", "LHighWater$Top;", true)
  | 9 => ("HighWater", "names", "[I", true)
  | 10 => ("HighWater", "stack", "[I", true)
  | 11 => ("HighWater", "storms", "[I", true)
  | _ => ("HighWater", "shares", "[I", true)
def tyX11 : Nat → FieldType := fun k => match k with
  | 0 => .object "HighWater$Bay"
  | 1 => .object "HighWater$Bay"
  | 2 => .boolean
  | 3 => .array (.object "HighWater$Island")
  | 4 => .array (.object "HighWater$Text")
  | 5 => .int
  | 6 => .object "HighWater$Tape"
  | 7 => .array (.object "HighWater$Sheet")
  | 8 => .object "HighWater$Top"
  | 9 => .array .int
  | 10 => .array .int
  | 11 => .array .int
  | _ => .array .int
abbrev wsX110 : List Cond := u_ws RX11 TX11 13
theorem nmX11 : ∀ a, a < 13 → ∀ b, b < 13 → a ≠ b → (TX11 a).2.1 ≠ (TX11 b).2.1 := by decide +kernel
theorem tyX11_ok : ∀ k, k < 13 → parseFieldDescriptor (TX11 k).2.2.1 = some (tyX11 k) := by decide +kernel
abbrev cX11_init : ByteArray := prog_1_method_1_code
def yX11_init : MethodName := ⟨RX11, "<init>", "()V"⟩
abbrev cX11_tide : ByteArray := prog_1_method_2_code
def yX11_tide : MethodName := ⟨RX11, "tide", "(II)I"⟩
abbrev cX11_height : ByteArray := prog_1_method_3_code
def yX11_height : MethodName := ⟨RX11, "height", "(I)I"⟩
abbrev cX11_come : ByteArray := prog_1_method_4_code
def yX11_come : MethodName := ⟨RX11, "come", "()I"⟩
abbrev cX11_go : ByteArray := prog_1_method_5_code
def yX11_go : MethodName := ⟨RX11, "go", "(III)I"⟩
abbrev cX11_at : ByteArray := prog_1_method_6_code
def yX11_at : MethodName := ⟨RX11, "at", "(II)I"⟩
abbrev cX11_count : ByteArray := prog_1_method_7_code
def yX11_count : MethodName := ⟨RX11, "count", "(I)I"⟩
abbrev cX11_feed : ByteArray := prog_1_method_8_code
def yX11_feed : MethodName := ⟨RX11, "feed", "(IIIIII)I"⟩
abbrev cX11_text : ByteArray := prog_1_method_9_code
def yX11_text : MethodName := ⟨RX11, "text", "()I"⟩
abbrev cX11_force : ByteArray := prog_1_method_10_code
def yX11_force : MethodName := ⟨RX11, "force", "(I)I"⟩
abbrev cX11_asks : ByteArray := prog_1_method_11_code
def yX11_asks : MethodName := ⟨RX11, "asks", "(IIIII)I"⟩
abbrev cX11_island : ByteArray := prog_1_method_12_code
def yX11_island : MethodName := ⟨RX11, "island", "(IIII)I"⟩
abbrev cX11_told : ByteArray := prog_1_method_13_code
def yX11_told : MethodName := ⟨RX11, "told", "(II)I"⟩
abbrev cX11_then : ByteArray := prog_1_method_14_code
def yX11_then : MethodName := ⟨RX11, "then", "(III)I"⟩
abbrev cX11_joined : ByteArray := prog_1_method_15_code
def yX11_joined : MethodName := ⟨RX11, "joined", "(II)I"⟩
abbrev cX11_whose : ByteArray := prog_1_method_16_code
def yX11_whose : MethodName := ⟨RX11, "whose", "(II)I"⟩
abbrev cX11_gain : ByteArray := prog_1_method_17_code
def yX11_gain : MethodName := ⟨RX11, "gain", "(II)I"⟩
abbrev cX11_costs : ByteArray := prog_1_method_18_code
def yX11_costs : MethodName := ⟨RX11, "costs", "(II)I"⟩
abbrev cX11_year : ByteArray := prog_1_method_19_code
def yX11_year : MethodName := ⟨RX11, "year", "(II)I"⟩
abbrev cX11_best : ByteArray := prog_1_method_20_code
def yX11_best : MethodName := ⟨RX11, "best", "(III)I"⟩
abbrev cX11_wise : ByteArray := prog_1_method_21_code
def yX11_wise : MethodName := ⟨RX11, "wise", "(I)I"⟩
abbrev cX11_rest : ByteArray := prog_1_method_22_code
def yX11_rest : MethodName := ⟨RX11, "rest", "(I)I"⟩
abbrev cX11_ways : ByteArray := prog_1_method_23_code
def yX11_ways : MethodName := ⟨RX11, "ways", "(II)I"⟩
abbrev cX11_family : ByteArray := prog_1_method_24_code
def yX11_family : MethodName := ⟨RX11, "family", "(III)I"⟩
abbrev cX11_spoil : ByteArray := prog_1_method_25_code
def yX11_spoil : MethodName := ⟨RX11, "spoil", "(III)I"⟩
abbrev cX11_ransom : ByteArray := prog_1_method_26_code
def yX11_ransom : MethodName := ⟨RX11, "ransom", "(III)I"⟩
abbrev cX11_share : ByteArray := prog_1_method_27_code
def yX11_share : MethodName := ⟨RX11, "share", "(IIII)I"⟩
abbrev cX11_unfair : ByteArray := prog_1_method_28_code
def yX11_unfair : MethodName := ⟨RX11, "unfair", "(III)I"⟩
abbrev cX11_dear : ByteArray := prog_1_method_29_code
def yX11_dear : MethodName := ⟨RX11, "dear", "(I)I"⟩
abbrev cX11_holds : ByteArray := prog_1_method_30_code
def yX11_holds : MethodName := ⟨RX11, "holds", "(III)I"⟩
abbrev cX11_judge : ByteArray := prog_1_method_31_code
def yX11_judge : MethodName := ⟨RX11, "judge", "(II)I"⟩
abbrev cX11_when : ByteArray := prog_1_method_32_code
def yX11_when : MethodName := ⟨RX11, "when", "(I)I"⟩
abbrev cX11_were : ByteArray := prog_1_method_33_code
def yX11_were : MethodName := ⟨RX11, "were", "(IIII)I"⟩
abbrev cX11_film : ByteArray := prog_1_method_34_code
def yX11_film : MethodName := ⟨RX11, "film", "(II)I"⟩
abbrev cX11_laws : ByteArray := prog_1_method_35_code
def yX11_laws : MethodName := ⟨RX11, "laws", "(III)I"⟩
abbrev cX11_drawn : ByteArray := prog_1_method_36_code
def yX11_drawn : MethodName := ⟨RX11, "drawn", "(IIII)I"⟩
abbrev cX11_mean : ByteArray := prog_1_method_37_code
def yX11_mean : MethodName := ⟨RX11, "mean", "(IIIII)J"⟩
abbrev cX11_image : ByteArray := prog_1_method_38_code
def yX11_image : MethodName := ⟨RX11, "image", "()I"⟩
abbrev cX11_back : ByteArray := prog_1_method_39_code
def yX11_back : MethodName := ⟨RX11, "back", "()I"⟩
abbrev cX11_sheet : ByteArray := prog_1_method_40_code
def yX11_sheet : MethodName := ⟨RX11, "sheet", "(III)I"⟩
abbrev cX11_cell : ByteArray := prog_1_method_41_code
def yX11_cell : MethodName := ⟨RX11, "cell", "(III)I"⟩
abbrev cX11_copy : ByteArray := prog_1_method_42_code
def yX11_copy : MethodName := ⟨RX11, "copy", "(IIIII)I"⟩
abbrev cX11_islandsBy : ByteArray := prog_1_method_43_code
def yX11_islandsBy : MethodName := ⟨RX11, "islandsBy", "(IIII)I"⟩
abbrev cX11_taken : ByteArray := prog_1_method_44_code
def yX11_taken : MethodName := ⟨RX11, "taken", "(II)I"⟩
abbrev cX11_isWithin : ByteArray := prog_1_method_45_code
def yX11_isWithin : MethodName := ⟨RX11, "isWithin", "(II)Z"⟩
abbrev cX11_isByte : ByteArray := prog_1_method_46_code
def yX11_isByte : MethodName := ⟨RX11, "isByte", "(I)Z"⟩
abbrev cX11_isTide : ByteArray := prog_1_method_47_code
def yX11_isTide : MethodName := ⟨RX11, "isTide", "(I)Z"⟩
abbrev cX11_isSheet : ByteArray := prog_1_method_48_code
def yX11_isSheet : MethodName := ⟨RX11, "isSheet", "(I)Z"⟩
abbrev cX11_isOne : ByteArray := prog_1_method_49_code
def yX11_isOne : MethodName := ⟨RX11, "isOne", "(I)Z"⟩
abbrev cX11_isIsland : ByteArray := prog_1_method_50_code
def yX11_isIsland : MethodName := ⟨RX11, "isIsland", "(I)Z"⟩
abbrev cX11_everybody : ByteArray := prog_1_method_51_code
def yX11_everybody : MethodName := ⟨RX11, "everybody", "()I"⟩
abbrev cX11_islandAt : ByteArray := prog_1_method_52_code
def yX11_islandAt : MethodName := ⟨RX11, "islandAt", "(I)LHighWater$Island;"⟩
abbrev cX11_textAt : ByteArray := prog_1_method_53_code
def yX11_textAt : MethodName := ⟨RX11, "textAt", "(I)LHighWater$Text;"⟩
abbrev cX11_law : ByteArray := prog_1_method_54_code
def yX11_law : MethodName := ⟨RX11, "law", "()LHighWater$Text;"⟩
abbrev cX11_refusalOfSheet : ByteArray := prog_1_method_55_code
def yX11_refusalOfSheet : MethodName := ⟨RX11, "refusalOfSheet", "(I)I"⟩
abbrev cX11_refusalOfOwners : ByteArray := prog_1_method_56_code
def yX11_refusalOfOwners : MethodName := ⟨RX11, "refusalOfOwners", "(I)I"⟩
abbrev cX11_name : ByteArray := prog_1_method_57_code
def yX11_name : MethodName := ⟨RX11, "name", "(IIIIII)V"⟩
abbrev cX11_saysOf : ByteArray := prog_1_method_58_code
def yX11_saysOf : MethodName := ⟨RX11, "saysOf", "(LHighWater$Text;I)I"⟩
abbrev cX11_worthUnder : ByteArray := prog_1_method_59_code
def yX11_worthUnder : MethodName := ⟨RX11, "worthUnder", "(LHighWater$Text;II)I"⟩
abbrev cX11_costOf : ByteArray := prog_1_method_60_code
def yX11_costOf : MethodName := ⟨RX11, "costOf", "(III)I"⟩
abbrev cX11_stormOf : ByteArray := prog_1_method_61_code
def yX11_stormOf : MethodName := ⟨RX11, "stormOf", "(II)I"⟩
abbrev cX11_lookAt : ByteArray := prog_1_method_62_code
def yX11_lookAt : MethodName := ⟨RX11, "lookAt", "(ILHighWater$Text;)V"⟩
abbrev cX11_lookWithCosts : ByteArray := prog_1_method_63_code
def yX11_lookWithCosts : MethodName := ⟨RX11, "lookWithCosts", "(I)V"⟩
abbrev cX11_lookForStorms : ByteArray := prog_1_method_64_code
def yX11_lookForStorms : MethodName := ⟨RX11, "lookForStorms", "(I)V"⟩
abbrev cX11_keptBy : ByteArray := prog_1_method_65_code
def yX11_keptBy : MethodName := ⟨RX11, "keptBy", "(I)I"⟩
abbrev cX11_gainBy : ByteArray := prog_1_method_66_code
def yX11_gainBy : MethodName := ⟨RX11, "gainBy", "(III)I"⟩
abbrev cX11_greatestDivisor : ByteArray := prog_1_method_67_code
def yX11_greatestDivisor : MethodName := ⟨RX11, "greatestDivisor", "(JJ)J"⟩
abbrev cX11_partIslands : ByteArray := prog_1_method_68_code
def yX11_partIslands : MethodName := ⟨RX11, "partIslands", "(IIZ)V"⟩
abbrev cX11_firstOtherwise : ByteArray := prog_1_method_69_code
def yX11_firstOtherwise : MethodName := ⟨RX11, "firstOtherwise", "(LHighWater$Sheet;)I"⟩
abbrev cX11_newIsland : ByteArray := prog_1_method_70_code
def yX11_newIsland : MethodName := ⟨RX11, "newIsland", "(IIII)LHighWater$Island;"⟩
abbrev cX11_isOfKind : ByteArray := prog_1_method_71_code
def yX11_isOfKind : MethodName := ⟨RX11, "isOfKind", "(LHighWater$Island;I)Z"⟩
def RX12 : String := "HighWaterModel"
def TX12 : u_T := fun k => match k with
  | 0 => ("HighWaterModel", "heightOf", "[I", true)
  | 1 => ("HighWaterModel", "islands", "I", false)
  | 2 => ("HighWaterModel", "kind", "[I", true)
  | 3 => ("HighWaterModel", "toldOf", "[I", true)
  | 4 => ("HighWaterModel", "risesOf", "[I", true)
  | 5 => ("HighWaterModel", "moreOf", "[I", true)
  | 6 => ("HighWaterModel", "people", "I", false)
  | 7 => ("HighWaterModel", "whereOf", "[I", true)
  | 8 => ("HighWaterModel", "tape", "[I", true)
  | 9 => ("HighWaterModel", "taped", "I", false)
  | 10 => ("HighWaterModel", "codes", "[I", true)
  | 11 => ("HighWaterModel", "starts", "[I", true)
  | 12 => ("HighWaterModel", "texts", "I", false)
  | 13 => ("HighWaterModel", "rule", "I", false)
  | 14 => ("HighWaterModel", "hasImage", "Z", false)
  | 15 => ("HighWaterModel", "imagePeople", "I", false)
  | 16 => ("HighWaterModel", "imageIslands", "I", false)
  | 17 => ("HighWaterModel", "imageRule", "I", false)
  | 18 => ("HighWaterModel", "imageHeight", "[I", true)
  | 19 => ("HighWaterModel", "imageWhere", "[I", true)
  | 20 => ("HighWaterModel", "sheetSort", "[I", true)
  | 21 => ("HighWaterModel", "sheetSize", "[I", true)
  | 22 => ("HighWaterModel", "cells", "[I", true)
  | 23 => ("HighWaterModel", "law", "[I", true)
  | 24 => ("HighWaterModel", "at", "I", false)
  | 25 => ("HighWaterModel", "begun", "I", false)
  | 26 => ("HighWaterModel", "token", "I", false)
  | 27 => ("HighWaterModel", "value", "I", false)
  | 28 => ("HighWaterModel", "words", "[I", true)
  | 29 => ("HighWaterModel", "held", "[I", true)
  | 30 => ("HighWaterModel", "heldMany", "I", false)
  | 31 => ("HighWaterModel", "opens", "I", false)
  | 32 => ("HighWaterModel", "out", "I", false)
  | 33 => ("HighWaterModel", "stack", "[I", true)
  | 34 => ("HighWaterModel", "named", "[I", true)
  | 35 => ("HighWaterModel", "ones0", "[I", true)
  | 36 => ("HighWaterModel", "standing", "I", false)
  | 37 => ("HighWaterModel", "worths", "[I", true)
  | 38 => ("HighWaterModel", "place", "[I", true)
  | 39 => ("HighWaterModel", "ahead", "[I", true)
  | _ => ("HighWaterModel", "shares", "[I", true)
def tyX12 : Nat → FieldType := fun k => match k with
  | 0 => .array .int
  | 1 => .int
  | 2 => .array .int
  | 3 => .array .int
  | 4 => .array .int
  | 5 => .array .int
  | 6 => .int
  | 7 => .array .int
  | 8 => .array .int
  | 9 => .int
  | 10 => .array .int
  | 11 => .array .int
  | 12 => .int
  | 13 => .int
  | 14 => .boolean
  | 15 => .int
  | 16 => .int
  | 17 => .int
  | 18 => .array .int
  | 19 => .array .int
  | 20 => .array .int
  | 21 => .array .int
  | 22 => .array .int
  | 23 => .array .int
  | 24 => .int
  | 25 => .int
  | 26 => .int
  | 27 => .int
  | 28 => .array .int
  | 29 => .array .int
  | 30 => .int
  | 31 => .int
  | 32 => .int
  | 33 => .array .int
  | 34 => .array .int
  | 35 => .array .int
  | 36 => .int
  | 37 => .array .int
  | 38 => .array .int
  | 39 => .array .int
  | _ => .array .int
abbrev wsX120 : List Cond := u_ws RX12 TX12 41
theorem nmX12 : ∀ a, a < 41 → ∀ b, b < 41 → a ≠ b → (TX12 a).2.1 ≠ (TX12 b).2.1 := by decide +kernel
theorem tyX12_ok : ∀ k, k < 41 → parseFieldDescriptor (TX12 k).2.2.1 = some (tyX12 k) := by decide +kernel
abbrev cX12_init : ByteArray := prog_14_method_1_code
def yX12_init : MethodName := ⟨RX12, "<init>", "()V"⟩
abbrev cX12_in : ByteArray := prog_14_method_3_code
def yX12_in : MethodName := ⟨RX12, "in", "(III)Z"⟩
abbrev cX12_within : ByteArray := prog_14_method_4_code
def yX12_within : MethodName := ⟨RX12, "within", "(III)I"⟩
abbrev cX12_isTide : ByteArray := prog_14_method_5_code
def yX12_isTide : MethodName := ⟨RX12, "isTide", "(I)Z"⟩
abbrev cX12_isIsland : ByteArray := prog_14_method_6_code
def yX12_isIsland : MethodName := ⟨RX12, "isIsland", "(I)Z"⟩
abbrev cX12_isOne : ByteArray := prog_14_method_7_code
def yX12_isOne : MethodName := ⟨RX12, "isOne", "(I)Z"⟩
abbrev cX12_tide : ByteArray := prog_14_method_8_code
def yX12_tide : MethodName := ⟨RX12, "tide", "(II)I"⟩
abbrev cX12_height : ByteArray := prog_14_method_9_code
def yX12_height : MethodName := ⟨RX12, "height", "(I)I"⟩
abbrev cX12_come : ByteArray := prog_14_method_10_code
def yX12_come : MethodName := ⟨RX12, "come", "()I"⟩
abbrev cX12_go : ByteArray := prog_14_method_11_code
def yX12_go : MethodName := ⟨RX12, "go", "(III)I"⟩
abbrev cX12_at : ByteArray := prog_14_method_12_code
def yX12_at : MethodName := ⟨RX12, "at", "(II)I"⟩
abbrev cX12_count : ByteArray := prog_14_method_13_code
def yX12_count : MethodName := ⟨RX12, "count", "(I)I"⟩
abbrev cX12_isByte : ByteArray := prog_14_method_14_code
def yX12_isByte : MethodName := ⟨RX12, "isByte", "(I)Z"⟩
abbrev cX12_feed : ByteArray := prog_14_method_15_code
def yX12_feed : MethodName := ⟨RX12, "feed", "(IIIIII)I"⟩
abbrev cX12_wordFrom : ByteArray := prog_14_method_16_code
def yX12_wordFrom : MethodName := ⟨RX12, "wordFrom", "(II)I"⟩
abbrev cX12_next : ByteArray := prog_14_method_17_code
def yX12_next : MethodName := ⟨RX12, "next", "()V"⟩
abbrev cX12_rank : ByteArray := prog_14_method_18_code
def yX12_rank : MethodName := ⟨RX12, "rank", "(I)I"⟩
abbrev cX12_puts : ByteArray := prog_14_method_19_code
def yX12_puts : MethodName := ⟨RX12, "puts", "(I)V"⟩
abbrev cX12_unwinds : ByteArray := prog_14_method_20_code
def yX12_unwinds : MethodName := ⟨RX12, "unwinds", "(I)V"⟩
abbrev cX12_holds : ByteArray := prog_14_method_21_code
def yX12_holds : MethodName := ⟨RX12, "holds", "(I)V"⟩
abbrev cX12_opensOne : ByteArray := prog_14_method_22_code
def yX12_opensOne : MethodName := ⟨RX12, "opensOne", "(I)Z"⟩
abbrev cX12_between : ByteArray := prog_14_method_23_code
def yX12_between : MethodName := ⟨RX12, "between", "(I)Z"⟩
abbrev cX12_signOf : ByteArray := prog_14_method_24_code
def yX12_signOf : MethodName := ⟨RX12, "signOf", "()I"⟩
abbrev cX12_eRead : ByteArray := prog_14_method_25_code
def yX12_eRead : MethodName := ⟨RX12, "eRead", "()Z"⟩
abbrev cX12_text : ByteArray := prog_14_method_26_code
def yX12_text : MethodName := ⟨RX12, "text", "()I"⟩
abbrev cX12_two : ByteArray := prog_14_method_27_code
def yX12_two : MethodName := ⟨RX12, "two", "(III)I"⟩
abbrev cX12_says : ByteArray := prog_14_method_28_code
def yX12_says : MethodName := ⟨RX12, "says", "(I)I"⟩
abbrev cX12_force : ByteArray := prog_14_method_29_code
def yX12_force : MethodName := ⟨RX12, "force", "(I)I"⟩
abbrev cX12_asksOf : ByteArray := prog_14_method_30_code
def yX12_asksOf : MethodName := ⟨RX12, "asksOf", "(IIIIIII)I"⟩
abbrev cX12_asks : ByteArray := prog_14_method_31_code
def yX12_asks : MethodName := ⟨RX12, "asks", "(IIIII)I"⟩
abbrev cX12_island : ByteArray := prog_14_method_32_code
def yX12_island : MethodName := ⟨RX12, "island", "(IIII)I"⟩
abbrev cX12_told : ByteArray := prog_14_method_33_code
def yX12_told : MethodName := ⟨RX12, "told", "(II)I"⟩
abbrev cX12_stands : ByteArray := prog_14_method_34_code
def yX12_stands : MethodName := ⟨RX12, "stands", "(II)Z"⟩
abbrev cX12_worthOf : ByteArray := prog_14_method_35_code
def yX12_worthOf : MethodName := ⟨RX12, "worthOf", "(II)I"⟩
abbrev cX12_joinsOf : ByteArray := prog_14_method_36_code
def yX12_joinsOf : MethodName := ⟨RX12, "joinsOf", "(II)I"⟩
abbrev cX12_looksAt : ByteArray := prog_14_method_37_code
def yX12_looksAt : MethodName := ⟨RX12, "looksAt", "(I)V"⟩
abbrev cX12_then : ByteArray := prog_14_method_38_code
def yX12_then : MethodName := ⟨RX12, "then", "(III)I"⟩
abbrev cX12_joined : ByteArray := prog_14_method_39_code
def yX12_joined : MethodName := ⟨RX12, "joined", "(II)I"⟩
abbrev cX12_comesTo : ByteArray := prog_14_method_40_code
def yX12_comesTo : MethodName := ⟨RX12, "comesTo", "(I)V"⟩
abbrev cX12_isThere : ByteArray := prog_14_method_41_code
def yX12_isThere : MethodName := ⟨RX12, "isThere", "(I)Z"⟩
abbrev cX12_owner : ByteArray := prog_14_method_42_code
def yX12_owner : MethodName := ⟨RX12, "owner", "(I)I"⟩
abbrev cX12_gainOf : ByteArray := prog_14_method_43_code
def yX12_gainOf : MethodName := ⟨RX12, "gainOf", "(I)I"⟩
abbrev cX12_costTo : ByteArray := prog_14_method_44_code
def yX12_costTo : MethodName := ⟨RX12, "costTo", "(III)I"⟩
abbrev cX12_leftAt : ByteArray := prog_14_method_45_code
def yX12_leftAt : MethodName := ⟨RX12, "leftAt", "(III)I"⟩
abbrev cX12_whose : ByteArray := prog_14_method_46_code
def yX12_whose : MethodName := ⟨RX12, "whose", "(II)I"⟩
abbrev cX12_gain : ByteArray := prog_14_method_47_code
def yX12_gain : MethodName := ⟨RX12, "gain", "(II)I"⟩
abbrev cX12_costs : ByteArray := prog_14_method_48_code
def yX12_costs : MethodName := ⟨RX12, "costs", "(II)I"⟩
abbrev cX12_year : ByteArray := prog_14_method_49_code
def yX12_year : MethodName := ⟨RX12, "year", "(II)I"⟩
abbrev cX12_bestPlace : ByteArray := prog_14_method_50_code
def yX12_bestPlace : MethodName := ⟨RX12, "bestPlace", "(II)I"⟩
abbrev cX12_best : ByteArray := prog_14_method_51_code
def yX12_best : MethodName := ⟨RX12, "best", "(III)I"⟩
abbrev cX12_wise : ByteArray := prog_14_method_52_code
def yX12_wise : MethodName := ⟨RX12, "wise", "(I)I"⟩
abbrev cX12_isRest : ByteArray := prog_14_method_53_code
def yX12_isRest : MethodName := ⟨RX12, "isRest", "(I)Z"⟩
abbrev cX12_rest : ByteArray := prog_14_method_54_code
def yX12_rest : MethodName := ⟨RX12, "rest", "(I)I"⟩
abbrev cX12_next0 : ByteArray := prog_14_method_55_code
def yX12_next0 : MethodName := ⟨RX12, "next0", "(I)Z"⟩
abbrev cX12_begins : ByteArray := prog_14_method_56_code
def yX12_begins : MethodName := ⟨RX12, "begins", "(I)V"⟩
abbrev cX12_digits : ByteArray := prog_14_method_57_code
def yX12_digits : MethodName := ⟨RX12, "digits", "(I)I"⟩
abbrev cX12_everybody : ByteArray := prog_14_method_58_code
def yX12_everybody : MethodName := ⟨RX12, "everybody", "()I"⟩
abbrev cX12_ways : ByteArray := prog_14_method_59_code
def yX12_ways : MethodName := ⟨RX12, "ways", "(II)I"⟩
abbrev cX12_leftOf : ByteArray := prog_14_method_60_code
def yX12_leftOf : MethodName := ⟨RX12, "leftOf", "(II)I"⟩
abbrev cX12_family : ByteArray := prog_14_method_61_code
def yX12_family : MethodName := ⟨RX12, "family", "(III)I"⟩
abbrev cX12_gainOfOthers : ByteArray := prog_14_method_62_code
def yX12_gainOfOthers : MethodName := ⟨RX12, "gainOfOthers", "(I)I"⟩
abbrev cX12_spoil : ByteArray := prog_14_method_63_code
def yX12_spoil : MethodName := ⟨RX12, "spoil", "(III)I"⟩
abbrev cX12_ransom : ByteArray := prog_14_method_64_code
def yX12_ransom : MethodName := ⟨RX12, "ransom", "(III)I"⟩
abbrev cX12_dearest : ByteArray := prog_14_method_65_code
def yX12_dearest : MethodName := ⟨RX12, "dearest", "(I)I"⟩
abbrev cX12_parts : ByteArray := prog_14_method_66_code
def yX12_parts : MethodName := ⟨RX12, "parts", "(III)V"⟩
abbrev cX12_share : ByteArray := prog_14_method_67_code
def yX12_share : MethodName := ⟨RX12, "share", "(IIII)I"⟩
abbrev cX12_unfair : ByteArray := prog_14_method_68_code
def yX12_unfair : MethodName := ⟨RX12, "unfair", "(III)I"⟩
abbrev cX12_worthAt : ByteArray := prog_14_method_69_code
def yX12_worthAt : MethodName := ⟨RX12, "worthAt", "(IZ)I"⟩
abbrev cX12_dear : ByteArray := prog_14_method_70_code
def yX12_dear : MethodName := ⟨RX12, "dear", "(I)I"⟩
abbrev cX12_holds_ : ByteArray := prog_14_method_71_code
def yX12_holds_ : MethodName := ⟨RX12, "holds", "(III)I"⟩
abbrev cX12_sheetWrong : ByteArray := prog_14_method_72_code
def yX12_sheetWrong : MethodName := ⟨RX12, "sheetWrong", "(I)I"⟩
abbrev cX12_unlike : ByteArray := prog_14_method_73_code
def yX12_unlike : MethodName := ⟨RX12, "unlike", "(I)I"⟩
abbrev cX12_judge : ByteArray := prog_14_method_74_code
def yX12_judge : MethodName := ⟨RX12, "judge", "(II)I"⟩
abbrev cX12_when : ByteArray := prog_14_method_75_code
def yX12_when : MethodName := ⟨RX12, "when", "(I)I"⟩
abbrev cX12_were : ByteArray := prog_14_method_76_code
def yX12_were : MethodName := ⟨RX12, "were", "(IIII)I"⟩
abbrev cX12_film : ByteArray := prog_14_method_77_code
def yX12_film : MethodName := ⟨RX12, "film", "(II)I"⟩
abbrev cX12_laws : ByteArray := prog_14_method_78_code
def yX12_laws : MethodName := ⟨RX12, "laws", "(III)I"⟩
abbrev cX12_storms : ByteArray := prog_14_method_79_code
def yX12_storms : MethodName := ⟨RX12, "storms", "(II)I"⟩
abbrev cX12_drawn : ByteArray := prog_14_method_80_code
def yX12_drawn : MethodName := ⟨RX12, "drawn", "(IIII)I"⟩
abbrev cX12_lowest : ByteArray := prog_14_method_81_code
def yX12_lowest : MethodName := ⟨RX12, "lowest", "(JJI)J"⟩
abbrev cX12_mean : ByteArray := prog_14_method_82_code
def yX12_mean : MethodName := ⟨RX12, "mean", "(IIIII)J"⟩
abbrev cX12_image : ByteArray := prog_14_method_83_code
def yX12_image : MethodName := ⟨RX12, "image", "()I"⟩
abbrev cX12_back : ByteArray := prog_14_method_84_code
def yX12_back : MethodName := ⟨RX12, "back", "()I"⟩
abbrev cX12_sheet : ByteArray := prog_14_method_85_code
def yX12_sheet : MethodName := ⟨RX12, "sheet", "(III)I"⟩
abbrev cX12_cell : ByteArray := prog_14_method_86_code
def yX12_cell : MethodName := ⟨RX12, "cell", "(III)I"⟩
abbrev cX12_copy : ByteArray := prog_14_method_87_code
def yX12_copy : MethodName := ⟨RX12, "copy", "(IIIII)I"⟩
abbrev cX12_islandsBy : ByteArray := prog_14_method_88_code
def yX12_islandsBy : MethodName := ⟨RX12, "islandsBy", "(IIII)I"⟩
abbrev cX12_isUnder : ByteArray := prog_14_method_89_code
def yX12_isUnder : MethodName := ⟨RX12, "isUnder", "(II)Z"⟩
abbrev cX12_taken : ByteArray := prog_14_method_90_code
def yX12_taken : MethodName := ⟨RX12, "taken", "(II)I"⟩
def RJx145de : String := "java/io/Serializable"
def TJx145de : u_T := fun k => match k with
  | _ => ("", "", "", false)
def tyJx145de : Nat → FieldType := fun k => match k with
  | _ => .int
abbrev wsJx145de0 : List Cond := u_ws RJx145de TJx145de 0
theorem nmJx145de : ∀ a, a < 0 → ∀ b, b < 0 → a ≠ b → (TJx145de a).2.1 ≠ (TJx145de b).2.1 := by decide +kernel
theorem tyJx145de_ok : ∀ k, k < 0 → parseFieldDescriptor (TJx145de k).2.2.1 = some (tyJx145de k) := by decide +kernel
def RJx9f9b0 : String := "java/lang/CharSequence"
def TJx9f9b0 : u_T := fun k => match k with
  | _ => ("", "", "", false)
def tyJx9f9b0 : Nat → FieldType := fun k => match k with
  | _ => .int
abbrev wsJx9f9b00 : List Cond := u_ws RJx9f9b0 TJx9f9b0 0
theorem nmJx9f9b0 : ∀ a, a < 0 → ∀ b, b < 0 → a ≠ b → (TJx9f9b0 a).2.1 ≠ (TJx9f9b0 b).2.1 := by decide +kernel
theorem tyJx9f9b0_ok : ∀ k, k < 0 → parseFieldDescriptor (TJx9f9b0 k).2.2.1 = some (tyJx9f9b0 k) := by decide +kernel
def RJx8e188 : String := "java/lang/Cloneable"
def TJx8e188 : u_T := fun k => match k with
  | _ => ("", "", "", false)
def tyJx8e188 : Nat → FieldType := fun k => match k with
  | _ => .int
abbrev wsJx8e1880 : List Cond := u_ws RJx8e188 TJx8e188 0
theorem nmJx8e188 : ∀ a, a < 0 → ∀ b, b < 0 → a ≠ b → (TJx8e188 a).2.1 ≠ (TJx8e188 b).2.1 := by decide +kernel
theorem tyJx8e188_ok : ∀ k, k < 0 → parseFieldDescriptor (TJx8e188 k).2.2.1 = some (tyJx8e188 k) := by decide +kernel
def RJxb160c : String := "java/lang/Comparable"
def TJxb160c : u_T := fun k => match k with
  | _ => ("", "", "", false)
def tyJxb160c : Nat → FieldType := fun k => match k with
  | _ => .int
abbrev wsJxb160c0 : List Cond := u_ws RJxb160c TJxb160c 0
theorem nmJxb160c : ∀ a, a < 0 → ∀ b, b < 0 → a ≠ b → (TJxb160c a).2.1 ≠ (TJxb160c b).2.1 := by decide +kernel
theorem tyJxb160c_ok : ∀ k, k < 0 → parseFieldDescriptor (TJxb160c k).2.2.1 = some (tyJxb160c k) := by decide +kernel
def RJ6 : String := "java/lang/Integer"
def TJ6 : u_T := fun k => match k with
  | _ => ("", "", "", false)
def tyJ6 : Nat → FieldType := fun k => match k with
  | _ => .int
abbrev wsJ60 : List Cond := u_ws RJ6 TJ6 0
theorem nmJ6 : ∀ a, a < 0 → ∀ b, b < 0 → a ≠ b → (TJ6 a).2.1 ≠ (TJ6 b).2.1 := by decide +kernel
theorem tyJ6_ok : ∀ k, k < 0 → parseFieldDescriptor (TJ6 k).2.2.1 = some (tyJ6 k) := by decide +kernel
abbrev cJ6_numberOfTrailingZeros_0f7a4 : ByteArray := prog_16_method_48_code
def yJ6_numberOfTrailingZeros_0f7a4 : MethodName := ⟨RJ6, "numberOfTrailingZeros", "(I)I"⟩
def RJ9 : String := "java/lang/Math"
def TJ9 : u_T := fun k => match k with
  | _ => ("", "", "", false)
def tyJ9 : Nat → FieldType := fun k => match k with
  | _ => .int
abbrev wsJ90 : List Cond := u_ws RJ9 TJ9 0
theorem nmJ9 : ∀ a, a < 0 → ∀ b, b < 0 → a ≠ b → (TJ9 a).2.1 ≠ (TJ9 b).2.1 := by decide +kernel
theorem tyJ9_ok : ∀ k, k < 0 → parseFieldDescriptor (TJ9 k).2.2.1 = some (tyJ9 k) := by decide +kernel
abbrev cJ9_abs_0f7a4 : ByteArray := prog_17_method_59_code
def yJ9_abs_0f7a4 : MethodName := ⟨RJ9, "abs", "(I)I"⟩
abbrev cJ9_max_7cf53 : ByteArray := prog_17_method_65_code
def yJ9_max_7cf53 : MethodName := ⟨RJ9, "max", "(II)I"⟩
abbrev cJ9_min_7cf53 : ByteArray := prog_17_method_69_code
def yJ9_min_7cf53 : MethodName := ⟨RJ9, "min", "(II)I"⟩
def RJ0 : String := "java/lang/String"
def TJ0 : u_T := fun k => match k with
  | _ => ("", "", "", false)
def tyJ0 : Nat → FieldType := fun k => match k with
  | _ => .int
abbrev wsJ00 : List Cond := u_ws RJ0 TJ0 0
theorem nmJ0 : ∀ a, a < 0 → ∀ b, b < 0 → a ≠ b → (TJ0 a).2.1 ≠ (TJ0 b).2.1 := by decide +kernel
theorem tyJ0_ok : ∀ k, k < 0 → parseFieldDescriptor (TJ0 k).2.2.1 = some (tyJ0 k) := by decide +kernel
abbrev cJ0_length_8abf5 : ByteArray := prog_18_method_54_code
def yJ0_length_8abf5 : MethodName := ⟨RJ0, "length", "()I"⟩
abbrev cJ0_charAt_5068e : ByteArray := prog_18_method_56_code
def yJ0_charAt_5068e : MethodName := ⟨RJ0, "charAt", "(I)C"⟩
abbrev cJ0_coder_7d493 : ByteArray := prog_18_method_152_code
def yJ0_coder_7d493 : MethodName := ⟨RJ0, "coder", "()B"⟩
abbrev cJ0_isLatin1_aae02 : ByteArray := prog_18_method_154_code
def yJ0_isLatin1_aae02 : MethodName := ⟨RJ0, "isLatin1", "()Z"⟩
abbrev cJ0_checkIndex_df160 : ByteArray := prog_18_method_155_code
def yJ0_checkIndex_df160 : MethodName := ⟨RJ0, "checkIndex", "(II)V"⟩
def RJ1 : String := "java/lang/StringLatin1"
def TJ1 : u_T := fun k => match k with
  | _ => ("", "", "", false)
def tyJ1 : Nat → FieldType := fun k => match k with
  | _ => .int
abbrev wsJ10 : List Cond := u_ws RJ1 TJ1 0
theorem nmJ1 : ∀ a, a < 0 → ∀ b, b < 0 → a ≠ b → (TJ1 a).2.1 ≠ (TJ1 b).2.1 := by decide +kernel
theorem tyJ1_ok : ∀ k, k < 0 → parseFieldDescriptor (TJ1 k).2.2.1 = some (tyJ1 k) := by decide +kernel
abbrev cJ1_charAt_3b067 : ByteArray := prog_19_method_2_code
def yJ1_charAt_3b067 : MethodName := ⟨RJ1, "charAt", "([BI)C"⟩
def RJ2 : String := "java/lang/StringUTF16"
def TJ2 : u_T := fun k => match k with
  | _ => ("", "", "", false)
def tyJ2 : Nat → FieldType := fun k => match k with
  | _ => .int
abbrev wsJ20 : List Cond := u_ws RJ2 TJ2 0
theorem nmJ2 : ∀ a, a < 0 → ∀ b, b < 0 → a ≠ b → (TJ2 a).2.1 ≠ (TJ2 b).2.1 := by decide +kernel
theorem tyJ2_ok : ∀ k, k < 0 → parseFieldDescriptor (TJ2 k).2.2.1 = some (tyJ2 k) := by decide +kernel
abbrev cJ2_getChar_3b067 : ByteArray := prog_20_method_5_code
def yJ2_getChar_3b067 : MethodName := ⟨RJ2, "getChar", "([BI)C"⟩
abbrev cJ2_length_9d52b : ByteArray := prog_20_method_6_code
def yJ2_length_9d52b : MethodName := ⟨RJ2, "length", "([B)I"⟩
abbrev cJ2_charAt_3b067 : ByteArray := prog_20_method_83_code
def yJ2_charAt_3b067 : MethodName := ⟨RJ2, "charAt", "([BI)C"⟩
abbrev cJ2_checkIndex_2214a : ByteArray := prog_20_method_91_code
def yJ2_checkIndex_2214a : MethodName := ⟨RJ2, "checkIndex", "(I[B)V"⟩
def RJ10 : String := "java/lang/System"
def TJ10 : u_T := fun k => match k with
  | _ => ("", "", "", false)
def tyJ10 : Nat → FieldType := fun k => match k with
  | _ => .int
abbrev wsJ100 : List Cond := u_ws RJ10 TJ10 0
theorem nmJ10 : ∀ a, a < 0 → ∀ b, b < 0 → a ≠ b → (TJ10 a).2.1 ≠ (TJ10 b).2.1 := by decide +kernel
theorem tyJ10_ok : ∀ k, k < 0 → parseFieldDescriptor (TJ10 k).2.2.1 = some (tyJ10 k) := by decide +kernel
def RJxfd54e : String := "java/lang/constant/Constable"
def TJxfd54e : u_T := fun k => match k with
  | _ => ("", "", "", false)
def tyJxfd54e : Nat → FieldType := fun k => match k with
  | _ => .int
abbrev wsJxfd54e0 : List Cond := u_ws RJxfd54e TJxfd54e 0
theorem nmJxfd54e : ∀ a, a < 0 → ∀ b, b < 0 → a ≠ b → (TJxfd54e a).2.1 ≠ (TJxfd54e b).2.1 := by decide +kernel
theorem tyJxfd54e_ok : ∀ k, k < 0 → parseFieldDescriptor (TJxfd54e k).2.2.1 = some (tyJxfd54e k) := by decide +kernel
def RJx3cf43 : String := "java/lang/constant/ConstantDesc"
def TJx3cf43 : u_T := fun k => match k with
  | _ => ("", "", "", false)
def tyJx3cf43 : Nat → FieldType := fun k => match k with
  | _ => .int
abbrev wsJx3cf430 : List Cond := u_ws RJx3cf43 TJx3cf43 0
theorem nmJx3cf43 : ∀ a, a < 0 → ∀ b, b < 0 → a ≠ b → (TJx3cf43 a).2.1 ≠ (TJx3cf43 b).2.1 := by decide +kernel
theorem tyJx3cf43_ok : ∀ k, k < 0 → parseFieldDescriptor (TJx3cf43 k).2.2.1 = some (tyJx3cf43 k) := by decide +kernel
def RJ7 : String := "java/util/Arrays"
def TJ7 : u_T := fun k => match k with
  | _ => ("", "", "", false)
def tyJ7 : Nat → FieldType := fun k => match k with
  | _ => .int
abbrev wsJ70 : List Cond := u_ws RJ7 TJ7 0
theorem nmJ7 : ∀ a, a < 0 → ∀ b, b < 0 → a ≠ b → (TJ7 a).2.1 ≠ (TJ7 b).2.1 := by decide +kernel
theorem tyJ7_ok : ∀ k, k < 0 → parseFieldDescriptor (TJ7 k).2.2.1 = some (tyJ7 k) := by decide +kernel
abbrev cJ7_fill_53178 : ByteArray := prog_22_method_103_code
def yJ7_fill_53178 : MethodName := ⟨RJ7, "fill", "([II)V"⟩
abbrev cJ7_copyOf_59c91 : ByteArray := prog_22_method_123_code
def yJ7_copyOf_59c91 : MethodName := ⟨RJ7, "copyOf", "([II)[I"⟩
def RJ3 : String := "jdk/internal/util/Preconditions"
def TJ3 : u_T := fun k => match k with
  | _ => ("", "", "", false)
def tyJ3 : Nat → FieldType := fun k => match k with
  | _ => .int
abbrev wsJ30 : List Cond := u_ws RJ3 TJ3 0
theorem nmJ3 : ∀ a, a < 0 → ∀ b, b < 0 → a ≠ b → (TJ3 a).2.1 ≠ (TJ3 b).2.1 := by decide +kernel
theorem tyJ3_ok : ∀ k, k < 0 → parseFieldDescriptor (TJ3 k).2.2.1 = some (tyJ3 k) := by decide +kernel
abbrev cJ3_checkIndex_8e157 : ByteArray := prog_23_method_11_code
def yJ3_checkIndex_8e157 : MethodName := ⟨RJ3, "checkIndex", "(IILjava/util/function/BiFunction;)I"⟩
def RL : String := "HighWaterLaw"
abbrev cL_law : ByteArray := code
def yL_law : MethodName := ⟨RL, "law", "([I)Z"⟩
abbrev vwCl : List vw_C := [(RX0, TX0, 4), (RX1, TX1, 5), (RX2, TX2, 4), (RX3, TX3, 4), (RX4, TX4, 4), (RX5, TX5, 4), (RX6, TX6, 3), (RX7, TX7, 10), (RX8, TX8, 3), (RX9, TX9, 9), (RX10, TX10, 4), (RX11, TX11, 13), (RX12, TX12, 41)]
end
section
/-! AN ABSTRACT MACHINE for this claim's bytecode: memory is a list of shapes (a class or array tag, a length), int contents and references by place; a step is a predicate transformer. Soundness over the machine itself stands in a later part. -/
abbrev zI : Type := Nat → Nat → Int32
abbrev zR : Type := Nat → Nat → Option Nat
abbrev zM : Type := List (Nat × Nat) × zI × zR
abbrev zL : Type := List (Nat × Value)
/-- an entry of a method's code: its place, the instruction, two operands resolved, a constant, a list -/
abbrev zE : Type := Nat × Instr × Nat × Nat × Int32 × List Nat
def up2 {α : Type} (f : Nat → Nat → α) (k j : Nat) (v : α) : Nat → Nat → α := fun a b => if a = k then (if b = j then v else f a b) else f a b
def zero2 {α : Type} (f : Nat → Nat → α) (k n : Nat) (z : α) : Nat → Nat → α := fun a b => if k ≤ a ∧ a < k + n then z else f a b
def row2 {α : Type} (f : Nat → Nat → α) (k : Nat) (g : Nat → α) : Nat → Nat → α := fun a b => if a = k then g b else f a b
def zG (ls : zL) (k : Nat) : Option Value := (ls.find? (fun q => q.1 == k)).map (fun q => q.2)
def zS1 (ls : zL) (i : Nat) (v : Value) : zL := (i, v) :: ls.filter (fun q => !(q.1 == i) && !(q.1 + 1 == i && q.2.category == 2))
def zS2 (ls : zL) (i : Nat) (v : Value) : zL := (i, v) :: ls.filter (fun q => !(q.1 == i) && (!(q.1 == i + 1) && !(q.1 + 1 == i && q.2.category == 2)))
/-- which of the classes (by their numbers) another one is under -/
def zSub (ci y : Nat) : Bool := ci == y || (y == 3 && (ci == 0 || ci == 2 || ci == 4 || ci == 5 || ci == 10)) || (y == 2 && ci == 10) || (y == 4 && ci == 5)
def zLc (x y : Nat) : Int64 := if y = 1 then -(Int64.ofNat x) else Int64.ofNat x
/-- the bytes of the two String constants -/
def zStr : Nat → List Nat
  | 0 => [119, 111, 114, 116, 104, 32, 116, 111, 108, 100, 32, 59, 32, 99, 111, 115, 116, 115, 32, 102, 97, 114, 32, 59, 32, 115, 116, 111, 114, 109, 32, 104, 101, 105, 103, 104, 116, 32, 42, 32, 50, 32, 59]
  | _ => [119, 111, 114, 116, 104, 32, 99, 111, 115, 116, 115, 32, 115, 116, 111, 114, 109, 32, 111, 114, 32, 97, 110, 100, 32, 110, 111, 116, 32, 116, 111, 108, 100, 32, 104, 101, 105, 103, 104, 116, 32, 109, 111, 114, 101, 32, 102, 97, 114, 32, 116, 105, 100, 101, 32, 110, 117, 109, 98, 101, 114, 32]
/-- the chosen method of an island's class -/
def zSw {β : Type} (a : Int32) (K : β → Prop) (d : β) : Int32 → List β → Prop
  | _, [] => K d
  | c, t :: ts => (a = c → K t) ∧ (¬ a = c → zSw a K d (c + 1) ts)
abbrev zOr : Type := Nat → List Value → zM → Option Value → zM → Prop
def zCall (R : zOr) (x : Nat) (as : List Value) (μ : zM) (K : List Value → zM → Prop) : Prop := ∃ v μ', R x as μ v μ' ∧ K v.toList μ'
def zBin : Instr → Option (Int32 → Int32 → Int32)
  | .iadd => some (fun a b => a + b)
  | .isub => some (fun a b => a - b)
  | .imul => some (fun a b => a * b)
  | .iand => some (fun a b => a &&& b)
  | .ior => some (fun a b => a ||| b)
  | .ixor => some (fun a b => a ^^^ b)
  | .ishl => some (fun a b => a <<< (b &&& 31))
  | .ishr => some (fun a b => a >>> (b &&& 31))
  | .iushr => some (fun a b => (a.toUInt32 >>> (b.toUInt32 &&& Int32.toUInt32 31)).toInt32)
  | _ => none
def zStep (dyn : Nat → Nat → Nat) (R : zOr) (e : zE) (ip : Nat) (ls : zL) (st : List Value) (μ : zM) (K : Nat → zL → List Value → zM → Prop) (Z : Option Value → zM → Prop) : Prop :=
  match e with
  | (_, ins, x, y, w, t) =>
  match ins with
  | .aconst_null => K (ip + 1) ls (.null :: st) μ
  | .iconst _ => K (ip + 1) ls (.int w :: st) μ
  | .bipush _ => K (ip + 1) ls (.int w :: st) μ
  | .sipush _ => K (ip + 1) ls (.int w :: st) μ
  | .ldc _ => if y = 0 then K (ip + 1) ls (.int w :: st) μ else K (ip + 1) ls (.ref x :: st) μ
  | .ldc_w _ => K (ip + 1) ls (.int w :: st) μ
  | .lconst _ => K (ip + 1) ls (.long (zLc x y) :: st) μ
  | .ldc2_w _ => K (ip + 1) ls (.long (zLc x y) :: st) μ
  | .iload_n _ => match zG ls x with | some (.int a) => K (ip + 1) ls (.int a :: st) μ | _ => False
  | .iload _ => match zG ls x with | some (.int a) => K (ip + 1) ls (.int a :: st) μ | _ => False
  | .lload_n _ => match zG ls x with | some (.long a) => K (ip + 1) ls (.long a :: st) μ | _ => False
  | .lload _ => match zG ls x with | some (.long a) => K (ip + 1) ls (.long a :: st) μ | _ => False
  | .aload_n _ => match zG ls x with | some (.ref a) => K (ip + 1) ls (.ref a :: st) μ | some .null => K (ip + 1) ls (.null :: st) μ | _ => False
  | .aload _ => match zG ls x with | some (.ref a) => K (ip + 1) ls (.ref a :: st) μ | some .null => K (ip + 1) ls (.null :: st) μ | _ => False
  | .istore_n _ => match st with | .int a :: st => K (ip + 1) (zS1 ls x (.int a)) st μ | _ => False
  | .istore _ => match st with | .int a :: st => K (ip + 1) (zS1 ls x (.int a)) st μ | _ => False
  | .lstore_n _ => match st with | .long a :: st => K (ip + 1) (zS2 ls x (.long a)) st μ | _ => False
  | .lstore _ => match st with | .long a :: st => K (ip + 1) (zS2 ls x (.long a)) st μ | _ => False
  | .astore_n _ => match st with | .ref a :: st => K (ip + 1) (zS1 ls x (.ref a)) st μ | .null :: st => K (ip + 1) (zS1 ls x .null) st μ | _ => False
  | .astore _ => match st with | .ref a :: st => K (ip + 1) (zS1 ls x (.ref a)) st μ | .null :: st => K (ip + 1) (zS1 ls x .null) st μ | _ => False
  | .iinc _ _ => match zG ls x with | some (.int a) => K (ip + 1) (zS1 ls x (.int (a + w))) st μ | _ => False
  | .ineg => match st with | .int a :: st => K (ip + 1) ls (.int (-a) :: st) μ | _ => False
  | .idiv => match st with | .int b :: .int a :: st => ¬ b = 0 ∧ K (ip + 1) ls (.int (a / b) :: st) μ | _ => False
  | .irem => match st with | .int b :: .int a :: st => ¬ b = 0 ∧ K (ip + 1) ls (.int (a - a / b * b) :: st) μ | _ => False
  | .i2l => match st with | .int a :: st => K (ip + 1) ls (.long a.toInt64 :: st) μ | _ => False
  | .i2b => match st with | .int a :: st => K (ip + 1) ls (.int a.toInt8.toInt32 :: st) μ | _ => False
  | .i2s => match st with | .int a :: st => K (ip + 1) ls (.int a.toInt16.toInt32 :: st) μ | _ => False
  | .ladd => match st with | .long b :: .long a :: st => K (ip + 1) ls (.long (a + b) :: st) μ | _ => False
  | .lmul => match st with | .long b :: .long a :: st => K (ip + 1) ls (.long (a * b) :: st) μ | _ => False
  | .ldiv => match st with | .long b :: .long a :: st => ¬ b = 0 ∧ K (ip + 1) ls (.long (a / b) :: st) μ | _ => False
  | .lrem => match st with | .long b :: .long a :: st => ¬ b = 0 ∧ K (ip + 1) ls (.long (a - a / b * b) :: st) μ | _ => False
  | .lcmp => match st with | .long b :: .long a :: st => K (ip + 1) ls (.int (lg_cmp a b) :: st) μ | _ => False
  | .dup => match st with | .int a :: st => K (ip + 1) ls (.int a :: .int a :: st) μ | .ref a :: st => K (ip + 1) ls (.ref a :: .ref a :: st) μ | _ => False
  | .dup2 => match st with | .int b :: .ref a :: st => K (ip + 1) ls (.int b :: .ref a :: .int b :: .ref a :: st) μ | _ => False
  | .pop => match st with | .int _ :: st => K (ip + 1) ls st μ | .ref _ :: st => K (ip + 1) ls st μ | .null :: st => K (ip + 1) ls st μ | _ => False
  | .goto _ => K x ls st μ
  | .ifCond c _ => match st with
    | .int a :: st => (match c with
      | .eq => (a = 0 → K x ls st μ) ∧ (¬ a = 0 → K (ip + 1) ls st μ)
      | .ne => (¬ a = 0 → K x ls st μ) ∧ (a = 0 → K (ip + 1) ls st μ)
      | .lt => (a < 0 → K x ls st μ) ∧ (¬ a < 0 → K (ip + 1) ls st μ)
      | .ge => (0 ≤ a → K x ls st μ) ∧ (¬ 0 ≤ a → K (ip + 1) ls st μ)
      | .gt => (0 < a → K x ls st μ) ∧ (¬ 0 < a → K (ip + 1) ls st μ)
      | .le => (a ≤ 0 → K x ls st μ) ∧ (¬ a ≤ 0 → K (ip + 1) ls st μ))
    | _ => False
  | .if_icmp c _ => match st with
    | .int b :: .int a :: st => (match c with
      | .eq => (a = b → K x ls st μ) ∧ (¬ a = b → K (ip + 1) ls st μ)
      | .ne => (¬ a = b → K x ls st μ) ∧ (a = b → K (ip + 1) ls st μ)
      | .lt => (a < b → K x ls st μ) ∧ (¬ a < b → K (ip + 1) ls st μ)
      | .ge => (b ≤ a → K x ls st μ) ∧ (¬ b ≤ a → K (ip + 1) ls st μ)
      | .gt => (b < a → K x ls st μ) ∧ (¬ b < a → K (ip + 1) ls st μ)
      | .le => (a ≤ b → K x ls st μ) ∧ (¬ a ≤ b → K (ip + 1) ls st μ))
    | _ => False
  | .ifnull _ => match st with | .ref _ :: st => K (ip + 1) ls st μ | .null :: st => K x ls st μ | _ => False
  | .ifnonnull _ => match st with | .ref _ :: st => K x ls st μ | .null :: st => K (ip + 1) ls st μ | _ => False
  | .tableswitch _ _ _ _ => match st with | .int a :: st => zSw a (fun k => K k ls st μ) x w t | _ => False
  | .getfield _ => match st with
    | .ref r :: st => (μ.1[r]?).elim False fun s => bif zSub s.1 y then (match t with
        | [] => K (ip + 1) ls (.int (μ.2.1 r x) :: st) μ
        | _ => (μ.2.2 r x).elim (K (ip + 1) ls (.null :: st) μ) (fun q => K (ip + 1) ls (.ref q :: st) μ)) else False
    | _ => False
  | .putfield _ => match st with
    | .int a :: .ref r :: st => (μ.1[r]?).elim False fun s => bif s.1 == y then (match t with
        | [] => K (ip + 1) ls st (μ.1, up2 μ.2.1 r x a, μ.2.2)
        | [2] => (a = 0 ∨ a = 1) ∧ K (ip + 1) ls st (μ.1, up2 μ.2.1 r x a, μ.2.2)
        | _ => False) else False
    | .ref q :: .ref r :: st => (μ.1[q]?).elim False fun _ => (μ.1[r]?).elim False fun s => bif s.1 == y then (match t with
        | [0] => K (ip + 1) ls st (μ.1, μ.2.1, up2 μ.2.2 r x (some q))
        | _ => False) else False
    | _ => False
  | .iaload => match st with
    | .int i :: .ref a :: st => (μ.1[a]?).elim (if a = 2000000 then vp_in i (μ.2.1 2000001 0).toNatClampNeg ∧ K (ip + 1) ls (.int (μ.2.1 2000000 i.toNatClampNeg) :: st) μ else False)
        fun s => bif s.1 == 20 then vp_in i s.2 ∧ K (ip + 1) ls (.int (μ.2.1 a i.toNatClampNeg) :: st) μ else False
    | _ => False
  | .iastore => match st with
    | .int v :: .int i :: .ref a :: st => (μ.1[a]?).elim False fun s => bif s.1 == 20 then vp_in i s.2 ∧ K (ip + 1) ls st (μ.1, up2 μ.2.1 a i.toNatClampNeg v, μ.2.2) else False
    | _ => False
  | .baload => match st with
    | .int i :: .ref a :: st => (μ.1[a]?).elim False fun s => bif s.1 == 21 then vp_in i s.2 ∧ K (ip + 1) ls (.int (μ.2.1 a i.toNatClampNeg) :: st) μ else False
    | _ => False
  | .bastore => match st with
    | .int v :: .int i :: .ref a :: st => (μ.1[a]?).elim False fun s => bif s.1 == 21 then vp_in i s.2 ∧ (v = 0 ∨ v = 1) ∧ K (ip + 1) ls st (μ.1, up2 μ.2.1 a i.toNatClampNeg v, μ.2.2) else False
    | _ => False
  | .aaload => match st with
    | .int i :: .ref a :: st => (μ.1[a]?).elim False fun s => bif 22 ≤ s.1 && s.1 ≤ 25 then vp_in i s.2 ∧ (μ.2.2 a i.toNatClampNeg).elim (K (ip + 1) ls (.null :: st) μ) (fun q => K (ip + 1) ls (.ref q :: st) μ) else False
    | _ => False
  | .aastore => match st with
    | .ref q :: .int i :: .ref a :: st => (μ.1[a]?).elim False fun s => (μ.1[q]?).elim False fun z => bif s.1 == y && zSub z.1 x then vp_in i s.2 ∧ K (ip + 1) ls st (μ.1, μ.2.1, up2 μ.2.2 a i.toNatClampNeg (some q)) else False
    | _ => False
  | .arraylength => match st with
    | .ref a :: st => (μ.1[a]?).elim (if a = 2000000 then K (ip + 1) ls (.int (μ.2.1 2000001 0) :: st) μ else False) fun s => bif 20 ≤ s.1 && s.1 ≤ 25 then K (ip + 1) ls (.int (Int32.ofNat s.2) :: st) μ else False
    | _ => False
  | .newarray _ => match st with
    | .int n :: st => ¬ n < 0 ∧ n.toNatClampNeg ≤ 100000 ∧ μ.1.length < 900000 ∧ K (ip + 1) ls (.ref μ.1.length :: st) (μ.1 ++ [(x, n.toNatClampNeg)], zero2 μ.2.1 μ.1.length 1 0, zero2 μ.2.2 μ.1.length 1 none)
    | _ => False
  | .anewarray _ => match st with
    | .int n :: st => ¬ n < 0 ∧ n.toNatClampNeg ≤ 100000 ∧ μ.1.length < 900000 ∧ K (ip + 1) ls (.ref μ.1.length :: st) (μ.1 ++ [(x, n.toNatClampNeg)], zero2 μ.2.1 μ.1.length 1 0, zero2 μ.2.2 μ.1.length 1 none)
    | _ => False
  | .multianewarray _ _ => match st with
    | .int k :: .int n :: st => ¬ n < 0 ∧ ¬ k < 0 ∧ n.toNatClampNeg ≤ 1000 ∧ k.toNatClampNeg ≤ 1000 ∧ μ.1.length < 900000 ∧ K (ip + 1) ls (.ref μ.1.length :: st) (μ.1 ++ (22, n.toNatClampNeg) :: List.replicate n.toNatClampNeg (20, k.toNatClampNeg), zero2 μ.2.1 μ.1.length (n.toNatClampNeg + 1) 0, row2 (zero2 μ.2.2 μ.1.length (n.toNatClampNeg + 1) none) μ.1.length (fun j => if j < n.toNatClampNeg then some (μ.1.length + 1 + j) else none))
    | _ => False
  | .new _ => μ.1.length < 900000 ∧ K (ip + 1) ls (.ref μ.1.length :: st) (μ.1 ++ [(x, y)], zero2 μ.2.1 μ.1.length 1 0, zero2 μ.2.2 μ.1.length 1 none)
  | .instanceof _ => match st with
    | .ref r :: st => (μ.1[r]?).elim False fun s => bif s.1 < 13 then K (ip + 1) ls (.int (bif zSub s.1 x then 1 else 0) :: st) μ else False
    | _ => False
  | .invokestatic _ => match t with
    | [] => zCall R x (st.take y).reverse μ (fun v μ => K (ip + 1) ls (v ++ st.drop y) μ)
    | [1] => match st with | .int b :: .int a :: st => K (ip + 1) ls (.int (if b < a then b else a) :: st) μ | _ => False
    | [2] => match st with | .int b :: .int a :: st => K (ip + 1) ls (.int (if a < b then b else a) :: st) μ | _ => False
    | [3] => match st with | .int a :: st => K (ip + 1) ls (.int (if 0 ≤ a then a else 0 - a) :: st) μ | _ => False
    | [4] => match st with
      | .int n :: .int dp :: .ref b :: .int sp :: .ref a :: st => (μ.1[a]?).elim False fun s => (μ.1[b]?).elim False fun z => bif s.1 == 20 && z.1 == 20 then
          ¬ sp < 0 ∧ ¬ dp < 0 ∧ ¬ n < 0 ∧ sp.toNatClampNeg + n.toNatClampNeg ≤ s.2 ∧ dp.toNatClampNeg + n.toNatClampNeg ≤ z.2 ∧ K (ip + 1) ls st (μ.1, row2 μ.2.1 b (va_cpy (μ.2.1 a) (μ.2.1 b) sp.toNatClampNeg dp.toNatClampNeg n.toNatClampNeg), μ.2.2) else False
      | _ => False
    | _ => False
  | .invokespecial _ => match t with
    | [] => match st with | .ref _ :: st => K (ip + 1) ls st μ | _ => False
    | _ => match st.drop y with
      | .ref r :: rest => (μ.1[r]?).elim False fun s => bif zSub s.1 (t.headD 0) then zCall R x (.ref r :: (st.take y).reverse) μ (fun v μ => K (ip + 1) ls (v ++ rest) μ) else False
      | _ => False
  | .invokevirtual _ => match t with
    | [] => match x, st with
      | 0, .ref a :: st => if a = 1000000 ∨ a = 1000001 then K (ip + 1) ls (.int (Int32.ofNat (zStr (a - 1000000)).length) :: st) μ else False
      | _, .int i :: .ref a :: st => if a = 1000000 ∨ a = 1000001 then vp_in i (zStr (a - 1000000)).length ∧ K (ip + 1) ls (.int (Int32.ofNat ((zStr (a - 1000000)).getD i.toNatClampNeg 0)) :: st) μ else False
      | _, _ => False
    | [c] => match st.drop y with
      | .ref r :: rest => (μ.1[r]?).elim False fun s => bif s.1 == c then zCall R x (.ref r :: (st.take y).reverse) μ (fun v μ => K (ip + 1) ls (v ++ rest) μ) else False
      | _ => False
    | _ => match st.drop y with
      | .ref r :: rest => (μ.1[r]?).elim False fun s => bif zSub s.1 3 then zCall R (dyn x s.1) (.ref r :: (st.take y).reverse) μ (fun v μ => K (ip + 1) ls (v ++ rest) μ) else False
      | _ => False
  | .return_ => match st with | [] => Z none μ | _ => False
  | .ireturn => match st with | [.int a] => (match t with | [] => Z (some (.int a)) μ | _ => (a = 0 ∨ a = 1) ∧ Z (some (.int a)) μ) | _ => False
  | .lreturn => match st with | [.long a] => Z (some (.long a)) μ | _ => False
  | .areturn => match st with | [.ref a] => Z (some (.ref a)) μ | [.null] => Z (some .null) μ | _ => False
  | ins => match zBin ins, st with
    | some f, .int b :: .int a :: st => K (ip + 1) ls (.int (f a b) :: st) μ
    | _, _ => False
def zRun (dyn : Nat → Nat → Nat) (R : zOr) (cd : List zE) : Nat → Nat → zL → List Value → zM → (Option Value → zM → Prop) → Prop
  | 0, _, _, _, _, _ => False
  | n + 1, ip, ls, st, μ, Z => (cd[ip]?).elim False fun e => zStep dyn R e ip ls st μ (fun ip ls st μ => zRun dyn R cd n ip ls st μ Z) Z
end
